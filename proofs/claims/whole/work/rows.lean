section
-- ===== PART A: goes FIRST, ahead of the names: the tables' words, and 'selects' of the private methods out of them =====
/-- a private method of a class that the tables say can be made, by its rows of tables_1 -/
def lw_okq (q : MethodName × Nat) : Prop := (q.1.cls ≠ "java/lang/invoke/MethodHandle" ∧ q.1.cls ≠ "java/lang/invoke/VarHandle") ∧ Cond.instantiable q.1.cls q.2 ∈ tables_1 ∧ Cond.privateMethod q.1 ∈ tables_1 ∧ Cond.instanceMethod q.1 ∈ tables_1
theorem lw_p0 : lw_okq (⟨"NumbersInherited$Reader", "next", "()V"⟩, 8) := ⟨⟨by decide +kernel, by decide +kernel⟩, List.mem_of_getElem? (i := 37) (by decide +kernel), List.mem_of_getElem? (i := 133) (by decide +kernel), List.mem_of_getElem? (i := 134) (by decide +kernel)⟩
theorem lw_p1 : lw_okq (⟨"NumbersInherited$Reader", "nextWord", "()V"⟩, 8) := ⟨⟨by decide +kernel, by decide +kernel⟩, List.mem_of_getElem? (i := 37) (by decide +kernel), List.mem_of_getElem? (i := 140) (by decide +kernel), List.mem_of_getElem? (i := 141) (by decide +kernel)⟩
theorem lw_p2 : lw_okq (⟨"NumbersInherited$Reader", "stands", "(Ljava/lang/String;)Z"⟩, 8) := ⟨⟨by decide +kernel, by decide +kernel⟩, List.mem_of_getElem? (i := 37) (by decide +kernel), List.mem_of_getElem? (i := 159) (by decide +kernel), List.mem_of_getElem? (i := 160) (by decide +kernel)⟩
theorem lw_p3 : lw_okq (⟨"NumbersInherited$Reader", "nextNumber", "()V"⟩, 8) := ⟨⟨by decide +kernel, by decide +kernel⟩, List.mem_of_getElem? (i := 37) (by decide +kernel), List.mem_of_getElem? (i := 168) (by decide +kernel), List.mem_of_getElem? (i := 169) (by decide +kernel)⟩
theorem lw_p4 : lw_okq (⟨"NumbersInherited$Reader", "part", "(I)Z"⟩, 8) := ⟨⟨by decide +kernel, by decide +kernel⟩, List.mem_of_getElem? (i := 37) (by decide +kernel), List.mem_of_getElem? (i := 235) (by decide +kernel), List.mem_of_getElem? (i := 236) (by decide +kernel)⟩
theorem lw_p5 : lw_okq (⟨"NumbersInherited$Reader", "either", "(I)Z"⟩, 8) := ⟨⟨by decide +kernel, by decide +kernel⟩, List.mem_of_getElem? (i := 37) (by decide +kernel), List.mem_of_getElem? (i := 239) (by decide +kernel), List.mem_of_getElem? (i := 240) (by decide +kernel)⟩
theorem lw_p6 : lw_okq (⟨"NumbersInherited$Reader", "both", "(I)Z"⟩, 8) := ⟨⟨by decide +kernel, by decide +kernel⟩, List.mem_of_getElem? (i := 37) (by decide +kernel), List.mem_of_getElem? (i := 243) (by decide +kernel), List.mem_of_getElem? (i := 244) (by decide +kernel)⟩
theorem lw_p7 : lw_okq (⟨"NumbersInherited$Reader", "not", "(I)Z"⟩, 8) := ⟨⟨by decide +kernel, by decide +kernel⟩, List.mem_of_getElem? (i := 37) (by decide +kernel), List.mem_of_getElem? (i := 247) (by decide +kernel), List.mem_of_getElem? (i := 248) (by decide +kernel)⟩
theorem lw_p8 : lw_okq (⟨"NumbersInherited$Reader", "compared", "(I)Z"⟩, 8) := ⟨⟨by decide +kernel, by decide +kernel⟩, List.mem_of_getElem? (i := 37) (by decide +kernel), List.mem_of_getElem? (i := 251) (by decide +kernel), List.mem_of_getElem? (i := 252) (by decide +kernel)⟩
theorem lw_p9 : lw_okq (⟨"NumbersInherited$Reader", "sum", "(I)Z"⟩, 8) := ⟨⟨by decide +kernel, by decide +kernel⟩, List.mem_of_getElem? (i := 37) (by decide +kernel), List.mem_of_getElem? (i := 255) (by decide +kernel), List.mem_of_getElem? (i := 256) (by decide +kernel)⟩
theorem lw_p10 : lw_okq (⟨"NumbersInherited$Reader", "term", "(I)Z"⟩, 8) := ⟨⟨by decide +kernel, by decide +kernel⟩, List.mem_of_getElem? (i := 37) (by decide +kernel), List.mem_of_getElem? (i := 259) (by decide +kernel), List.mem_of_getElem? (i := 260) (by decide +kernel)⟩
theorem lw_p11 : lw_okq (⟨"NumbersInherited$Reader", "single", "(I)Z"⟩, 8) := ⟨⟨by decide +kernel, by decide +kernel⟩, List.mem_of_getElem? (i := 37) (by decide +kernel), List.mem_of_getElem? (i := 263) (by decide +kernel), List.mem_of_getElem? (i := 264) (by decide +kernel)⟩
theorem lw_p12 : lw_okq (⟨"NumbersInherited$Reader", "write", "(I)V"⟩, 8) := ⟨⟨by decide +kernel, by decide +kernel⟩, List.mem_of_getElem? (i := 37) (by decide +kernel), List.mem_of_getElem? (i := 267) (by decide +kernel), List.mem_of_getElem? (i := 268) (by decide +kernel)⟩
theorem lw_p13 : lw_okq (⟨"NumbersInherited$Reader", "bracket", "(I)Z"⟩, 8) := ⟨⟨by decide +kernel, by decide +kernel⟩, List.mem_of_getElem? (i := 37) (by decide +kernel), List.mem_of_getElem? (i := 271) (by decide +kernel), List.mem_of_getElem? (i := 272) (by decide +kernel)⟩
theorem lw_p14 : lw_okq (⟨"NumbersInherited$Reader", "negated", "(I)Z"⟩, 8) := ⟨⟨by decide +kernel, by decide +kernel⟩, List.mem_of_getElem? (i := 37) (by decide +kernel), List.mem_of_getElem? (i := 275) (by decide +kernel), List.mem_of_getElem? (i := 276) (by decide +kernel)⟩
theorem lw_p15 : lw_okq (⟨"NumbersInherited", "setDay", "(I)I"⟩, 9) := ⟨⟨by decide +kernel, by decide +kernel⟩, List.mem_of_getElem? (i := 19) (by decide +kernel), List.mem_of_getElem? (i := 458) (by decide +kernel), List.mem_of_getElem? (i := 459) (by decide +kernel)⟩
def lw_privs_1 : List (MethodName × Nat) := [(⟨"NumbersInherited$Reader", "next", "()V"⟩, 8), (⟨"NumbersInherited$Reader", "nextWord", "()V"⟩, 8), (⟨"NumbersInherited$Reader", "stands", "(Ljava/lang/String;)Z"⟩, 8), (⟨"NumbersInherited$Reader", "nextNumber", "()V"⟩, 8), (⟨"NumbersInherited$Reader", "part", "(I)Z"⟩, 8), (⟨"NumbersInherited$Reader", "either", "(I)Z"⟩, 8), (⟨"NumbersInherited$Reader", "both", "(I)Z"⟩, 8), (⟨"NumbersInherited$Reader", "not", "(I)Z"⟩, 8), (⟨"NumbersInherited$Reader", "compared", "(I)Z"⟩, 8), (⟨"NumbersInherited$Reader", "sum", "(I)Z"⟩, 8), (⟨"NumbersInherited$Reader", "term", "(I)Z"⟩, 8), (⟨"NumbersInherited$Reader", "single", "(I)Z"⟩, 8), (⟨"NumbersInherited$Reader", "write", "(I)V"⟩, 8), (⟨"NumbersInherited$Reader", "bracket", "(I)Z"⟩, 8), (⟨"NumbersInherited$Reader", "negated", "(I)Z"⟩, 8), (⟨"NumbersInherited", "setDay", "(I)I"⟩, 9)]
theorem lw_r1 : ∀ q ∈ lw_privs_1, lw_okq q := List.forall_mem_cons.mpr ⟨lw_p0, List.forall_mem_cons.mpr ⟨lw_p1, List.forall_mem_cons.mpr ⟨lw_p2, List.forall_mem_cons.mpr ⟨lw_p3, List.forall_mem_cons.mpr ⟨lw_p4, List.forall_mem_cons.mpr ⟨lw_p5, List.forall_mem_cons.mpr ⟨lw_p6, List.forall_mem_cons.mpr ⟨lw_p7, List.forall_mem_cons.mpr ⟨lw_p8, List.forall_mem_cons.mpr ⟨lw_p9, List.forall_mem_cons.mpr ⟨lw_p10, List.forall_mem_cons.mpr ⟨lw_p11, List.forall_mem_cons.mpr ⟨lw_p12, List.forall_mem_cons.mpr ⟨lw_p13, List.forall_mem_cons.mpr ⟨lw_p14, List.forall_mem_cons.mpr ⟨lw_p15, fun _ h => absurd h List.not_mem_nil⟩⟩⟩⟩⟩⟩⟩⟩⟩⟩⟩⟩⟩⟩⟩⟩
theorem lw_p16 : lw_okq (⟨"NumbersInherited", "heirAt", "(I)LNumbersInherited$Heir;"⟩, 9) := ⟨⟨by decide +kernel, by decide +kernel⟩, List.mem_of_getElem? (i := 19) (by decide +kernel), List.mem_of_getElem? (i := 462) (by decide +kernel), List.mem_of_getElem? (i := 463) (by decide +kernel)⟩
theorem lw_p17 : lw_okq (⟨"NumbersInherited$Heir", "sums", "()I"⟩, 4) := ⟨⟨by decide +kernel, by decide +kernel⟩, List.mem_of_getElem? (i := 382) (by decide +kernel), List.mem_of_getElem? (i := 504) (by decide +kernel), List.mem_of_getElem? (i := 505) (by decide +kernel)⟩
theorem lw_p18 : lw_okq (⟨"NumbersInherited$Heir", "halves", "()I"⟩, 4) := ⟨⟨by decide +kernel, by decide +kernel⟩, List.mem_of_getElem? (i := 382) (by decide +kernel), List.mem_of_getElem? (i := 510) (by decide +kernel), List.mem_of_getElem? (i := 511) (by decide +kernel)⟩
theorem lw_p19 : lw_okq (⟨"NumbersInherited$Heir", "rests", "()I"⟩, 4) := ⟨⟨by decide +kernel, by decide +kernel⟩, List.mem_of_getElem? (i := 382) (by decide +kernel), List.mem_of_getElem? (i := 515) (by decide +kernel), List.mem_of_getElem? (i := 516) (by decide +kernel)⟩
theorem lw_p20 : lw_okq (⟨"NumbersInherited$Law", "name", "(LNumbersInherited$Heir;II)V"⟩, 8) := ⟨⟨by decide +kernel, by decide +kernel⟩, List.mem_of_getElem? (i := 31) (by decide +kernel), List.mem_of_getElem? (i := 553) (by decide +kernel), List.mem_of_getElem? (i := 554) (by decide +kernel)⟩
theorem lw_p21 : lw_okq (⟨"NumbersInherited$Law", "value", "(I)I"⟩, 8) := ⟨⟨by decide +kernel, by decide +kernel⟩, List.mem_of_getElem? (i := 31) (by decide +kernel), List.mem_of_getElem? (i := 558) (by decide +kernel), List.mem_of_getElem? (i := 559) (by decide +kernel)⟩
theorem lw_p22 : lw_okq (⟨"NumbersInherited$Law", "operand", "(I)I"⟩, 8) := ⟨⟨by decide +kernel, by decide +kernel⟩, List.mem_of_getElem? (i := 31) (by decide +kernel), List.mem_of_getElem? (i := 562) (by decide +kernel), List.mem_of_getElem? (i := 563) (by decide +kernel)⟩
theorem lw_p23 : lw_okq (⟨"NumbersInherited$Paying", "fillParts", "(I)I"⟩, 6) := ⟨⟨by decide +kernel, by decide +kernel⟩, List.mem_of_getElem? (i := 309) (by decide +kernel), List.mem_of_getElem? (i := 599) (by decide +kernel), List.mem_of_getElem? (i := 600) (by decide +kernel)⟩
theorem lw_p24 : lw_okq (⟨"NumbersInherited$Paying", "leastAt", "(II)I"⟩, 6) := ⟨⟨by decide +kernel, by decide +kernel⟩, List.mem_of_getElem? (i := 309) (by decide +kernel), List.mem_of_getElem? (i := 605) (by decide +kernel), List.mem_of_getElem? (i := 606) (by decide +kernel)⟩
theorem lw_p25 : lw_okq (⟨"NumbersInherited$Ways", "walkOn", "(I)V"⟩, 5) := ⟨⟨by decide +kernel, by decide +kernel⟩, List.mem_of_getElem? (i := 335) (by decide +kernel), List.mem_of_getElem? (i := 626) (by decide +kernel), List.mem_of_getElem? (i := 627) (by decide +kernel)⟩
theorem lw_p26 : lw_okq (⟨"NumbersInherited$Ways", "isBetter", "(III)Z"⟩, 5) := ⟨⟨by decide +kernel, by decide +kernel⟩, List.mem_of_getElem? (i := 335) (by decide +kernel), List.mem_of_getElem? (i := 630) (by decide +kernel), List.mem_of_getElem? (i := 631) (by decide +kernel)⟩
theorem lw_p27 : lw_okq (⟨"NumbersInherited$Paying", "fillCan", "(LNumbersInherited$Heir;LNumbersInherited$Heir;)V"⟩, 6) := ⟨⟨by decide +kernel, by decide +kernel⟩, List.mem_of_getElem? (i := 309) (by decide +kernel), List.mem_of_getElem? (i := 650) (by decide +kernel), List.mem_of_getElem? (i := 651) (by decide +kernel)⟩
theorem lw_p28 : lw_okq (⟨"NumbersInherited$Ways", "reached", "(II)I"⟩, 5) := ⟨⟨by decide +kernel, by decide +kernel⟩, List.mem_of_getElem? (i := 335) (by decide +kernel), List.mem_of_getElem? (i := 685) (by decide +kernel), List.mem_of_getElem? (i := 686) (by decide +kernel)⟩
theorem lw_p29 : lw_okq (⟨"NumbersInherited", "worthOfLeaving", "(LNumbersInherited$Heir;LNumbersInherited$Heir;)I"⟩, 9) := ⟨⟨by decide +kernel, by decide +kernel⟩, List.mem_of_getElem? (i := 19) (by decide +kernel), List.mem_of_getElem? (i := 693) (by decide +kernel), List.mem_of_getElem? (i := 694) (by decide +kernel)⟩
theorem lw_p30 : lw_okq (⟨"NumbersInherited", "sheetAt", "(I)LNumbersInherited$Sheet;"⟩, 9) := ⟨⟨by decide +kernel, by decide +kernel⟩, List.mem_of_getElem? (i := 19) (by decide +kernel), List.mem_of_getElem? (i := 717) (by decide +kernel), List.mem_of_getElem? (i := 718) (by decide +kernel)⟩
theorem lw_p31 : lw_okq (⟨"NumbersInherited", "kindsAsTold", "(LNumbersInherited$Sheet;LNumbersInherited$Heir;LNumbersInherited$Heir;)I"⟩, 9) := ⟨⟨by decide +kernel, by decide +kernel⟩, List.mem_of_getElem? (i := 19) (by decide +kernel), List.mem_of_getElem? (i := 741) (by decide +kernel), List.mem_of_getElem? (i := 742) (by decide +kernel)⟩
def lw_privs_2 : List (MethodName × Nat) := [(⟨"NumbersInherited", "heirAt", "(I)LNumbersInherited$Heir;"⟩, 9), (⟨"NumbersInherited$Heir", "sums", "()I"⟩, 4), (⟨"NumbersInherited$Heir", "halves", "()I"⟩, 4), (⟨"NumbersInherited$Heir", "rests", "()I"⟩, 4), (⟨"NumbersInherited$Law", "name", "(LNumbersInherited$Heir;II)V"⟩, 8), (⟨"NumbersInherited$Law", "value", "(I)I"⟩, 8), (⟨"NumbersInherited$Law", "operand", "(I)I"⟩, 8), (⟨"NumbersInherited$Paying", "fillParts", "(I)I"⟩, 6), (⟨"NumbersInherited$Paying", "leastAt", "(II)I"⟩, 6), (⟨"NumbersInherited$Ways", "walkOn", "(I)V"⟩, 5), (⟨"NumbersInherited$Ways", "isBetter", "(III)Z"⟩, 5), (⟨"NumbersInherited$Paying", "fillCan", "(LNumbersInherited$Heir;LNumbersInherited$Heir;)V"⟩, 6), (⟨"NumbersInherited$Ways", "reached", "(II)I"⟩, 5), (⟨"NumbersInherited", "worthOfLeaving", "(LNumbersInherited$Heir;LNumbersInherited$Heir;)I"⟩, 9), (⟨"NumbersInherited", "sheetAt", "(I)LNumbersInherited$Sheet;"⟩, 9), (⟨"NumbersInherited", "kindsAsTold", "(LNumbersInherited$Sheet;LNumbersInherited$Heir;LNumbersInherited$Heir;)I"⟩, 9)]
theorem lw_r2 : ∀ q ∈ lw_privs_2, lw_okq q := List.forall_mem_cons.mpr ⟨lw_p16, List.forall_mem_cons.mpr ⟨lw_p17, List.forall_mem_cons.mpr ⟨lw_p18, List.forall_mem_cons.mpr ⟨lw_p19, List.forall_mem_cons.mpr ⟨lw_p20, List.forall_mem_cons.mpr ⟨lw_p21, List.forall_mem_cons.mpr ⟨lw_p22, List.forall_mem_cons.mpr ⟨lw_p23, List.forall_mem_cons.mpr ⟨lw_p24, List.forall_mem_cons.mpr ⟨lw_p25, List.forall_mem_cons.mpr ⟨lw_p26, List.forall_mem_cons.mpr ⟨lw_p27, List.forall_mem_cons.mpr ⟨lw_p28, List.forall_mem_cons.mpr ⟨lw_p29, List.forall_mem_cons.mpr ⟨lw_p30, List.forall_mem_cons.mpr ⟨lw_p31, fun _ h => absurd h List.not_mem_nil⟩⟩⟩⟩⟩⟩⟩⟩⟩⟩⟩⟩⟩⟩⟩⟩
theorem lw_p32 : lw_okq (⟨"NumbersInherited", "moresAsTold", "(LNumbersInherited$Sheet;LNumbersInherited$Heir;LNumbersInherited$Heir;)I"⟩, 9) := ⟨⟨by decide +kernel, by decide +kernel⟩, List.mem_of_getElem? (i := 19) (by decide +kernel), List.mem_of_getElem? (i := 745) (by decide +kernel), List.mem_of_getElem? (i := 746) (by decide +kernel)⟩
theorem lw_p33 : lw_okq (⟨"NumbersInherited", "textsAsTold", "(LNumbersInherited$Sheet;LNumbersInherited$Heir;LNumbersInherited$Heir;)I"⟩, 9) := ⟨⟨by decide +kernel, by decide +kernel⟩, List.mem_of_getElem? (i := 19) (by decide +kernel), List.mem_of_getElem? (i := 749) (by decide +kernel), List.mem_of_getElem? (i := 750) (by decide +kernel)⟩
theorem lw_p34 : lw_okq (⟨"NumbersInherited", "numbersThatMust", "(LNumbersInherited$Sheet;LNumbersInherited$Heir;LNumbersInherited$Heir;)I"⟩, 9) := ⟨⟨by decide +kernel, by decide +kernel⟩, List.mem_of_getElem? (i := 19) (by decide +kernel), List.mem_of_getElem? (i := 753) (by decide +kernel), List.mem_of_getElem? (i := 754) (by decide +kernel)⟩
theorem lw_p35 : lw_okq (⟨"NumbersInherited", "numbersThatMay", "(LNumbersInherited$Sheet;LNumbersInherited$Heir;LNumbersInherited$Heir;)I"⟩, 9) := ⟨⟨by decide +kernel, by decide +kernel⟩, List.mem_of_getElem? (i := 19) (by decide +kernel), List.mem_of_getElem? (i := 757) (by decide +kernel), List.mem_of_getElem? (i := 758) (by decide +kernel)⟩
theorem lw_p36 : lw_okq (⟨"NumbersInherited", "payableIfDrawn", "(ILNumbersInherited$Heir;LNumbersInherited$Heir;)I"⟩, 9) := ⟨⟨by decide +kernel, by decide +kernel⟩, List.mem_of_getElem? (i := 19) (by decide +kernel), List.mem_of_getElem? (i := 778) (by decide +kernel), List.mem_of_getElem? (i := 779) (by decide +kernel)⟩
theorem lw_p37 : lw_okq (⟨"NumbersInherited", "allOwn", "()I"⟩, 9) := ⟨⟨by decide +kernel, by decide +kernel⟩, List.mem_of_getElem? (i := 19) (by decide +kernel), List.mem_of_getElem? (i := 807) (by decide +kernel), List.mem_of_getElem? (i := 808) (by decide +kernel)⟩
theorem lw_p38 : lw_okq (⟨"NumbersInheritedModel", "codes", "(I)V"⟩, 39) := ⟨⟨by decide +kernel, by decide +kernel⟩, List.mem_of_getElem? (i := 847) (by decide +kernel), List.mem_of_getElem? (i := 853) (by decide +kernel), List.mem_of_getElem? (i := 854) (by decide +kernel)⟩
theorem lw_p39 : lw_okq (⟨"NumbersInheritedModel", "isHeir", "(I)Z"⟩, 39) := ⟨⟨by decide +kernel, by decide +kernel⟩, List.mem_of_getElem? (i := 847) (by decide +kernel), List.mem_of_getElem? (i := 982) (by decide +kernel), List.mem_of_getElem? (i := 983) (by decide +kernel)⟩
theorem lw_p40 : lw_okq (⟨"NumbersInheritedModel", "may", "(II)Z"⟩, 39) := ⟨⟨by decide +kernel, by decide +kernel⟩, List.mem_of_getElem? (i := 847) (by decide +kernel), List.mem_of_getElem? (i := 986) (by decide +kernel), List.mem_of_getElem? (i := 987) (by decide +kernel)⟩
theorem lw_p41 : lw_okq (⟨"NumbersInheritedModel", "get", "(II)I"⟩, 39) := ⟨⟨by decide +kernel, by decide +kernel⟩, List.mem_of_getElem? (i := 847) (by decide +kernel), List.mem_of_getElem? (i := 991) (by decide +kernel), List.mem_of_getElem? (i := 992) (by decide +kernel)⟩
theorem lw_p42 : lw_okq (⟨"NumbersInheritedModel", "sayable", "(I)I"⟩, 39) := ⟨⟨by decide +kernel, by decide +kernel⟩, List.mem_of_getElem? (i := 847) (by decide +kernel), List.mem_of_getElem? (i := 998) (by decide +kernel), List.mem_of_getElem? (i := 999) (by decide +kernel)⟩
theorem lw_p43 : lw_okq (⟨"NumbersInheritedModel", "isSaid", "(II)Z"⟩, 39) := ⟨⟨by decide +kernel, by decide +kernel⟩, List.mem_of_getElem? (i := 847) (by decide +kernel), List.mem_of_getElem? (i := 1002) (by decide +kernel), List.mem_of_getElem? (i := 1003) (by decide +kernel)⟩
theorem lw_p44 : lw_okq (⟨"NumbersInheritedModel", "isOwn", "(II)Z"⟩, 39) := ⟨⟨by decide +kernel, by decide +kernel⟩, List.mem_of_getElem? (i := 847) (by decide +kernel), List.mem_of_getElem? (i := 1006) (by decide +kernel), List.mem_of_getElem? (i := 1007) (by decide +kernel)⟩
theorem lw_p45 : lw_okq (⟨"NumbersInheritedModel", "isMade", "(II)Z"⟩, 39) := ⟨⟨by decide +kernel, by decide +kernel⟩, List.mem_of_getElem? (i := 847) (by decide +kernel), List.mem_of_getElem? (i := 1016) (by decide +kernel), List.mem_of_getElem? (i := 1017) (by decide +kernel)⟩
theorem lw_p46 : lw_okq (⟨"NumbersInheritedModel", "areTwo", "(II)Z"⟩, 39) := ⟨⟨by decide +kernel, by decide +kernel⟩, List.mem_of_getElem? (i := 847) (by decide +kernel), List.mem_of_getElem? (i := 1028) (by decide +kernel), List.mem_of_getElem? (i := 1029) (by decide +kernel)⟩
theorem lw_p47 : lw_okq (⟨"NumbersInheritedModel", "next", "()V"⟩, 39) := ⟨⟨by decide +kernel, by decide +kernel⟩, List.mem_of_getElem? (i := 847) (by decide +kernel), List.mem_of_getElem? (i := 1044) (by decide +kernel), List.mem_of_getElem? (i := 1045) (by decide +kernel)⟩
def lw_privs_3 : List (MethodName × Nat) := [(⟨"NumbersInherited", "moresAsTold", "(LNumbersInherited$Sheet;LNumbersInherited$Heir;LNumbersInherited$Heir;)I"⟩, 9), (⟨"NumbersInherited", "textsAsTold", "(LNumbersInherited$Sheet;LNumbersInherited$Heir;LNumbersInherited$Heir;)I"⟩, 9), (⟨"NumbersInherited", "numbersThatMust", "(LNumbersInherited$Sheet;LNumbersInherited$Heir;LNumbersInherited$Heir;)I"⟩, 9), (⟨"NumbersInherited", "numbersThatMay", "(LNumbersInherited$Sheet;LNumbersInherited$Heir;LNumbersInherited$Heir;)I"⟩, 9), (⟨"NumbersInherited", "payableIfDrawn", "(ILNumbersInherited$Heir;LNumbersInherited$Heir;)I"⟩, 9), (⟨"NumbersInherited", "allOwn", "()I"⟩, 9), (⟨"NumbersInheritedModel", "codes", "(I)V"⟩, 39), (⟨"NumbersInheritedModel", "isHeir", "(I)Z"⟩, 39), (⟨"NumbersInheritedModel", "may", "(II)Z"⟩, 39), (⟨"NumbersInheritedModel", "get", "(II)I"⟩, 39), (⟨"NumbersInheritedModel", "sayable", "(I)I"⟩, 39), (⟨"NumbersInheritedModel", "isSaid", "(II)Z"⟩, 39), (⟨"NumbersInheritedModel", "isOwn", "(II)Z"⟩, 39), (⟨"NumbersInheritedModel", "isMade", "(II)Z"⟩, 39), (⟨"NumbersInheritedModel", "areTwo", "(II)Z"⟩, 39), (⟨"NumbersInheritedModel", "next", "()V"⟩, 39)]
theorem lw_r3 : ∀ q ∈ lw_privs_3, lw_okq q := List.forall_mem_cons.mpr ⟨lw_p32, List.forall_mem_cons.mpr ⟨lw_p33, List.forall_mem_cons.mpr ⟨lw_p34, List.forall_mem_cons.mpr ⟨lw_p35, List.forall_mem_cons.mpr ⟨lw_p36, List.forall_mem_cons.mpr ⟨lw_p37, List.forall_mem_cons.mpr ⟨lw_p38, List.forall_mem_cons.mpr ⟨lw_p39, List.forall_mem_cons.mpr ⟨lw_p40, List.forall_mem_cons.mpr ⟨lw_p41, List.forall_mem_cons.mpr ⟨lw_p42, List.forall_mem_cons.mpr ⟨lw_p43, List.forall_mem_cons.mpr ⟨lw_p44, List.forall_mem_cons.mpr ⟨lw_p45, List.forall_mem_cons.mpr ⟨lw_p46, List.forall_mem_cons.mpr ⟨lw_p47, fun _ h => absurd h List.not_mem_nil⟩⟩⟩⟩⟩⟩⟩⟩⟩⟩⟩⟩⟩⟩⟩⟩
theorem lw_p48 : lw_okq (⟨"NumbersInheritedModel", "named", "()I"⟩, 39) := ⟨⟨by decide +kernel, by decide +kernel⟩, List.mem_of_getElem? (i := 847) (by decide +kernel), List.mem_of_getElem? (i := 1051) (by decide +kernel), List.mem_of_getElem? (i := 1052) (by decide +kernel)⟩
theorem lw_p49 : lw_okq (⟨"NumbersInheritedModel", "isKey", "()Z"⟩, 39) := ⟨⟨by decide +kernel, by decide +kernel⟩, List.mem_of_getElem? (i := 847) (by decide +kernel), List.mem_of_getElem? (i := 1055) (by decide +kernel), List.mem_of_getElem? (i := 1056) (by decide +kernel)⟩
theorem lw_p50 : lw_okq (⟨"NumbersInheritedModel", "part", "(II)Z"⟩, 39) := ⟨⟨by decide +kernel, by decide +kernel⟩, List.mem_of_getElem? (i := 847) (by decide +kernel), List.mem_of_getElem? (i := 1066) (by decide +kernel), List.mem_of_getElem? (i := 1067) (by decide +kernel)⟩
theorem lw_p51 : lw_okq (⟨"NumbersInheritedModel", "takes", "(I)Z"⟩, 39) := ⟨⟨by decide +kernel, by decide +kernel⟩, List.mem_of_getElem? (i := 847) (by decide +kernel), List.mem_of_getElem? (i := 1070) (by decide +kernel), List.mem_of_getElem? (i := 1071) (by decide +kernel)⟩
theorem lw_p52 : lw_okq (⟨"NumbersInheritedModel", "goesOn", "()Z"⟩, 39) := ⟨⟨by decide +kernel, by decide +kernel⟩, List.mem_of_getElem? (i := 847) (by decide +kernel), List.mem_of_getElem? (i := 1074) (by decide +kernel), List.mem_of_getElem? (i := 1075) (by decide +kernel)⟩
theorem lw_p53 : lw_okq (⟨"NumbersInheritedModel", "one", "(Z)Z"⟩, 39) := ⟨⟨by decide +kernel, by decide +kernel⟩, List.mem_of_getElem? (i := 847) (by decide +kernel), List.mem_of_getElem? (i := 1078) (by decide +kernel), List.mem_of_getElem? (i := 1079) (by decide +kernel)⟩
theorem lw_p54 : lw_okq (⟨"NumbersInheritedModel", "lays", "(I)V"⟩, 39) := ⟨⟨by decide +kernel, by decide +kernel⟩, List.mem_of_getElem? (i := 847) (by decide +kernel), List.mem_of_getElem? (i := 1082) (by decide +kernel), List.mem_of_getElem? (i := 1083) (by decide +kernel)⟩
theorem lw_p55 : lw_okq (⟨"NumbersInheritedModel", "push", "(I)V"⟩, 39) := ⟨⟨by decide +kernel, by decide +kernel⟩, List.mem_of_getElem? (i := 847) (by decide +kernel), List.mem_of_getElem? (i := 1089) (by decide +kernel), List.mem_of_getElem? (i := 1090) (by decide +kernel)⟩
theorem lw_p56 : lw_okq (⟨"NumbersInheritedModel", "closes", "()Z"⟩, 39) := ⟨⟨by decide +kernel, by decide +kernel⟩, List.mem_of_getElem? (i := 847) (by decide +kernel), List.mem_of_getElem? (i := 1093) (by decide +kernel), List.mem_of_getElem? (i := 1094) (by decide +kernel)⟩
theorem lw_p57 : lw_okq (⟨"NumbersInheritedModel", "signed", "()I"⟩, 39) := ⟨⟨by decide +kernel, by decide +kernel⟩, List.mem_of_getElem? (i := 847) (by decide +kernel), List.mem_of_getElem? (i := 1097) (by decide +kernel), List.mem_of_getElem? (i := 1098) (by decide +kernel)⟩
theorem lw_p58 : lw_okq (⟨"NumbersInheritedModel", "costs", "(II)I"⟩, 39) := ⟨⟨by decide +kernel, by decide +kernel⟩, List.mem_of_getElem? (i := 847) (by decide +kernel), List.mem_of_getElem? (i := 1114) (by decide +kernel), List.mem_of_getElem? (i := 1115) (by decide +kernel)⟩
theorem lw_p59 : lw_okq (⟨"NumbersInheritedModel", "tells", "(III)I"⟩, 39) := ⟨⟨by decide +kernel, by decide +kernel⟩, List.mem_of_getElem? (i := 847) (by decide +kernel), List.mem_of_getElem? (i := 1118) (by decide +kernel), List.mem_of_getElem? (i := 1119) (by decide +kernel)⟩
theorem lw_p60 : lw_okq (⟨"NumbersInheritedModel", "isMeant", "(II)Z"⟩, 39) := ⟨⟨by decide +kernel, by decide +kernel⟩, List.mem_of_getElem? (i := 847) (by decide +kernel), List.mem_of_getElem? (i := 1131) (by decide +kernel), List.mem_of_getElem? (i := 1132) (by decide +kernel)⟩
theorem lw_p61 : lw_okq (⟨"NumbersInheritedModel", "worthOf", "(II)I"⟩, 39) := ⟨⟨by decide +kernel, by decide +kernel⟩, List.mem_of_getElem? (i := 847) (by decide +kernel), List.mem_of_getElem? (i := 1135) (by decide +kernel), List.mem_of_getElem? (i := 1136) (by decide +kernel)⟩
theorem lw_p62 : lw_okq (⟨"NumbersInheritedModel", "sums", "(II)V"⟩, 39) := ⟨⟨by decide +kernel, by decide +kernel⟩, List.mem_of_getElem? (i := 847) (by decide +kernel), List.mem_of_getElem? (i := 1147) (by decide +kernel), List.mem_of_getElem? (i := 1148) (by decide +kernel)⟩
theorem lw_p63 : lw_okq (⟨"NumbersInheritedModel", "legs", "(I)V"⟩, 39) := ⟨⟨by decide +kernel, by decide +kernel⟩, List.mem_of_getElem? (i := 847) (by decide +kernel), List.mem_of_getElem? (i := 1151) (by decide +kernel), List.mem_of_getElem? (i := 1152) (by decide +kernel)⟩
def lw_privs_4 : List (MethodName × Nat) := [(⟨"NumbersInheritedModel", "named", "()I"⟩, 39), (⟨"NumbersInheritedModel", "isKey", "()Z"⟩, 39), (⟨"NumbersInheritedModel", "part", "(II)Z"⟩, 39), (⟨"NumbersInheritedModel", "takes", "(I)Z"⟩, 39), (⟨"NumbersInheritedModel", "goesOn", "()Z"⟩, 39), (⟨"NumbersInheritedModel", "one", "(Z)Z"⟩, 39), (⟨"NumbersInheritedModel", "lays", "(I)V"⟩, 39), (⟨"NumbersInheritedModel", "push", "(I)V"⟩, 39), (⟨"NumbersInheritedModel", "closes", "()Z"⟩, 39), (⟨"NumbersInheritedModel", "signed", "()I"⟩, 39), (⟨"NumbersInheritedModel", "costs", "(II)I"⟩, 39), (⟨"NumbersInheritedModel", "tells", "(III)I"⟩, 39), (⟨"NumbersInheritedModel", "isMeant", "(II)Z"⟩, 39), (⟨"NumbersInheritedModel", "worthOf", "(II)I"⟩, 39), (⟨"NumbersInheritedModel", "sums", "(II)V"⟩, 39), (⟨"NumbersInheritedModel", "legs", "(I)V"⟩, 39)]
theorem lw_r4 : ∀ q ∈ lw_privs_4, lw_okq q := List.forall_mem_cons.mpr ⟨lw_p48, List.forall_mem_cons.mpr ⟨lw_p49, List.forall_mem_cons.mpr ⟨lw_p50, List.forall_mem_cons.mpr ⟨lw_p51, List.forall_mem_cons.mpr ⟨lw_p52, List.forall_mem_cons.mpr ⟨lw_p53, List.forall_mem_cons.mpr ⟨lw_p54, List.forall_mem_cons.mpr ⟨lw_p55, List.forall_mem_cons.mpr ⟨lw_p56, List.forall_mem_cons.mpr ⟨lw_p57, List.forall_mem_cons.mpr ⟨lw_p58, List.forall_mem_cons.mpr ⟨lw_p59, List.forall_mem_cons.mpr ⟨lw_p60, List.forall_mem_cons.mpr ⟨lw_p61, List.forall_mem_cons.mpr ⟨lw_p62, List.forall_mem_cons.mpr ⟨lw_p63, fun _ h => absurd h List.not_mem_nil⟩⟩⟩⟩⟩⟩⟩⟩⟩⟩⟩⟩⟩⟩⟩⟩
theorem lw_p64 : lw_okq (⟨"NumbersInheritedModel", "ways", "(I)V"⟩, 39) := ⟨⟨by decide +kernel, by decide +kernel⟩, List.mem_of_getElem? (i := 847) (by decide +kernel), List.mem_of_getElem? (i := 1155) (by decide +kernel), List.mem_of_getElem? (i := 1156) (by decide +kernel)⟩
theorem lw_p65 : lw_okq (⟨"NumbersInheritedModel", "barredOf", "(III)I"⟩, 39) := ⟨⟨by decide +kernel, by decide +kernel⟩, List.mem_of_getElem? (i := 847) (by decide +kernel), List.mem_of_getElem? (i := 1163) (by decide +kernel), List.mem_of_getElem? (i := 1164) (by decide +kernel)⟩
theorem lw_p66 : lw_okq (⟨"NumbersInheritedModel", "reached", "(II)I"⟩, 39) := ⟨⟨by decide +kernel, by decide +kernel⟩, List.mem_of_getElem? (i := 847) (by decide +kernel), List.mem_of_getElem? (i := 1175) (by decide +kernel), List.mem_of_getElem? (i := 1176) (by decide +kernel)⟩
theorem lw_p67 : lw_okq (⟨"NumbersInheritedModel", "unpaid", "(II)I"⟩, 39) := ⟨⟨by decide +kernel, by decide +kernel⟩, List.mem_of_getElem? (i := 847) (by decide +kernel), List.mem_of_getElem? (i := 1191) (by decide +kernel), List.mem_of_getElem? (i := 1192) (by decide +kernel)⟩
theorem lw_p68 : lw_okq (⟨"NumbersInheritedModel", "otherwise", "(III)I"⟩, 39) := ⟨⟨by decide +kernel, by decide +kernel⟩, List.mem_of_getElem? (i := 847) (by decide +kernel), List.mem_of_getElem? (i := 1202) (by decide +kernel), List.mem_of_getElem? (i := 1203) (by decide +kernel)⟩
theorem lw_p69 : lw_okq (⟨"NumbersInheritedModel", "kinds", "(III)I"⟩, 39) := ⟨⟨by decide +kernel, by decide +kernel⟩, List.mem_of_getElem? (i := 847) (by decide +kernel), List.mem_of_getElem? (i := 1206) (by decide +kernel), List.mem_of_getElem? (i := 1207) (by decide +kernel)⟩
theorem lw_p70 : lw_okq (⟨"NumbersInheritedModel", "isSo", "(III)Z"⟩, 39) := ⟨⟨by decide +kernel, by decide +kernel⟩, List.mem_of_getElem? (i := 847) (by decide +kernel), List.mem_of_getElem? (i := 1210) (by decide +kernel), List.mem_of_getElem? (i := 1211) (by decide +kernel)⟩
theorem lw_p71 : lw_okq (⟨"NumbersInheritedModel", "mores", "(III)I"⟩, 39) := ⟨⟨by decide +kernel, by decide +kernel⟩, List.mem_of_getElem? (i := 847) (by decide +kernel), List.mem_of_getElem? (i := 1214) (by decide +kernel), List.mem_of_getElem? (i := 1215) (by decide +kernel)⟩
theorem lw_p72 : lw_okq (⟨"NumbersInheritedModel", "rules", "(III)I"⟩, 39) := ⟨⟨by decide +kernel, by decide +kernel⟩, List.mem_of_getElem? (i := 847) (by decide +kernel), List.mem_of_getElem? (i := 1218) (by decide +kernel), List.mem_of_getElem? (i := 1219) (by decide +kernel)⟩
theorem lw_p73 : lw_okq (⟨"NumbersInheritedModel", "owns", "(IIIZ)I"⟩, 39) := ⟨⟨by decide +kernel, by decide +kernel⟩, List.mem_of_getElem? (i := 847) (by decide +kernel), List.mem_of_getElem? (i := 1222) (by decide +kernel), List.mem_of_getElem? (i := 1223) (by decide +kernel)⟩
theorem lw_p74 : lw_okq (⟨"NumbersInheritedModel", "draw", "(I)I"⟩, 39) := ⟨⟨by decide +kernel, by decide +kernel⟩, List.mem_of_getElem? (i := 847) (by decide +kernel), List.mem_of_getElem? (i := 1238) (by decide +kernel), List.mem_of_getElem? (i := 1239) (by decide +kernel)⟩
theorem lw_p75 : lw_okq (⟨"NumbersInheritedModel", "keep", "()V"⟩, 39) := ⟨⟨by decide +kernel, by decide +kernel⟩, List.mem_of_getElem? (i := 847) (by decide +kernel), List.mem_of_getElem? (i := 1242) (by decide +kernel), List.mem_of_getElem? (i := 1243) (by decide +kernel)⟩
def lw_privs_5 : List (MethodName × Nat) := [(⟨"NumbersInheritedModel", "ways", "(I)V"⟩, 39), (⟨"NumbersInheritedModel", "barredOf", "(III)I"⟩, 39), (⟨"NumbersInheritedModel", "reached", "(II)I"⟩, 39), (⟨"NumbersInheritedModel", "unpaid", "(II)I"⟩, 39), (⟨"NumbersInheritedModel", "otherwise", "(III)I"⟩, 39), (⟨"NumbersInheritedModel", "kinds", "(III)I"⟩, 39), (⟨"NumbersInheritedModel", "isSo", "(III)Z"⟩, 39), (⟨"NumbersInheritedModel", "mores", "(III)I"⟩, 39), (⟨"NumbersInheritedModel", "rules", "(III)I"⟩, 39), (⟨"NumbersInheritedModel", "owns", "(IIIZ)I"⟩, 39), (⟨"NumbersInheritedModel", "draw", "(I)I"⟩, 39), (⟨"NumbersInheritedModel", "keep", "()V"⟩, 39)]
theorem lw_r5 : ∀ q ∈ lw_privs_5, lw_okq q := List.forall_mem_cons.mpr ⟨lw_p64, List.forall_mem_cons.mpr ⟨lw_p65, List.forall_mem_cons.mpr ⟨lw_p66, List.forall_mem_cons.mpr ⟨lw_p67, List.forall_mem_cons.mpr ⟨lw_p68, List.forall_mem_cons.mpr ⟨lw_p69, List.forall_mem_cons.mpr ⟨lw_p70, List.forall_mem_cons.mpr ⟨lw_p71, List.forall_mem_cons.mpr ⟨lw_p72, List.forall_mem_cons.mpr ⟨lw_p73, List.forall_mem_cons.mpr ⟨lw_p74, List.forall_mem_cons.mpr ⟨lw_p75, fun _ h => absurd h List.not_mem_nil⟩⟩⟩⟩⟩⟩⟩⟩⟩⟩⟩⟩
def lw_privs : List (MethodName × Nat) := lw_privs_1 ++ (lw_privs_2 ++ (lw_privs_3 ++ (lw_privs_4 ++ (lw_privs_5))))
def lw_tbl : List Cond := k2_sels lw_privs ++ tables_1
theorem lw_privs_ok : ∀ q ∈ lw_privs, lw_okq q := by
  show ∀ q ∈ lw_privs_1 ++ (lw_privs_2 ++ (lw_privs_3 ++ (lw_privs_4 ++ (lw_privs_5)))), lw_okq q
  exact List.forall_mem_append.mpr ⟨lw_r1, List.forall_mem_append.mpr ⟨lw_r2, List.forall_mem_append.mpr ⟨lw_r3, List.forall_mem_append.mpr ⟨lw_r4, lw_r5⟩⟩⟩⟩
def va_AOA (ty : FieldType) (U : State) : Prop := (Cond.arrayOver (.array ty)).before #[] U = true
theorem va_AOA.use {ty : FieldType} {A : Array Value} {U : State} (h : va_AOA ty U) : (Cond.arrayOver (.array ty)).before A U = true := h
theorem va_AOA.of {ty : FieldType} {A : Array Value} {U : State} (h : (Cond.arrayOver (.array ty)).before A U = true) : va_AOA ty U := h
theorem va_AOA.moved {ty : FieldType} {u U : State} (hvm : u.vm.Alike U.vm) (h : va_AOA ty u) : va_AOA ty U := by
  have h1 : (Cond.arrayOver (.array ty)).before #[] (u.setVm U.vm) = true := by rw [Cond.arrayOver_setVmC hvm]; exact h
  first | exact h1 | (unfold va_AOA Cond.before Cond.holds; unfold Cond.before Cond.holds at h1; simp only [Cond.value] at h1 ⊢; exact h1)
/-! ===== BEGIN words of one list among another's, by their places ===== -/
theorem goodIn_r {big : List Cond} (ws : List Cond) (ps : List Nat) (hp : ws = ps.filterMap (fun i => big[i]?)) (h : ws.all goodWord = true) : GoodIn big ws := by
  intro w hw
  have h1 := List.all_eq_true.mp h w hw
  rw [hp] at hw
  obtain ⟨i, -, hi⟩ := List.mem_filterMap.mp hw
  have hm : w ∈ big := by first | exact List.mem_of_getElem? hi | exact List.getElem?_mem hi
  exact ⟨hm, good_of_word h1⟩
theorem goodIn_app {big a b : List Cond} (ha : GoodIn big a) (hb : GoodIn big b) : GoodIn big (a ++ b) := fun w h => (List.mem_append.mp h).elim (ha w) (hb w)
theorem goodIn_ca {big a b : List Cond} {c : Cond} (ha : GoodIn big (c :: a)) (hb : GoodIn big b) : GoodIn big (c :: (a ++ b)) := fun w h => (List.mem_cons.mp h).elim (fun e => ha w (List.mem_cons.mpr (Or.inl e))) (fun h => (List.mem_append.mp h).elim (fun h => ha w (List.mem_cons.mpr (Or.inr h))) (hb w))
theorem goodIn_sub {big ws : List Cond} (hm : ∀ w ∈ ws, w ∈ big) (h : ws.all goodWord = true) : GoodIn big ws := fun w hw => ⟨hm w hw, good_of_word (List.all_eq_true.mp h w hw)⟩
/-! ===== END ===== -/

/-! ===== BEGIN new T[n][m]: the outer array a place, the inner ones among the pooled ===== -/
/-- f, but v at every address of l -/
def vr_up {α : Type} (f : Nat → α) (l : List Nat) (v : α) : Nat → α := fun a => if a ∈ l then v else f a
theorem vr_up_in {α : Type} {f : Nat → α} {l : List Nat} {v : α} {a : Nat} (h : a ∈ l) : vr_up f l v a = v := if_pos h
theorem vr_up_ne {α : Type} {f : Nat → α} {l : List Nat} {v : α} {a : Nat} (h : a ∉ l) : vr_up f l v a = f a := if_neg h
theorem vr_rows {L l : List Nat} {f : Nat → va_E} {e : va_E} (h : ∀ a, a ∈ l → a ∉ L) : va_pl L f ++ l.map (fun a => (a, e)) = va_pl (L ++ l) (vr_up f l e) := by
  unfold va_pl
  rw [List.map_append]
  congr 1
  · apply List.map_congr_left
    intro a ha
    rw [vr_up_ne (fun q => h a q ha)]
  · apply List.map_congr_left
    intro a ha
    rw [vr_up_in ha]
theorem vr_lay {X rows : va_W} {x : Nat × va_E} {pl : va_W} {D : va_G} {cl : List vw_C} {H : Heap} (hP : va_P D cl (((X ++ pl) ++ [x]) ++ rows) H) : va_P D cl ((X ++ [x]) ++ (pl ++ rows)) H := by
  rw [List.append_assoc (X ++ pl)] at hP
  have h := va_P.swap hP
  rw [← List.append_assoc X] at h
  have h2 := va_P.swap h
  rw [List.append_assoc (X ++ [x])] at h2
  exact h2
theorem vr_layD {X rows : va_W} {x : Nat × va_E} {pl : va_W} {A : Nat → Prop} (hD : va_D A (((X ++ pl) ++ [x]) ++ rows)) : va_D A ((X ++ [x]) ++ (pl ++ rows)) := by
  rw [List.append_assoc (X ++ pl)] at hD
  have h := va_D.swap hD
  rw [← List.append_assoc X] at h
  have h2 := va_D.swap h
  rw [List.append_assoc (X ++ [x])] at h2
  exact h2
theorem vr_outer (c : ClassId) (N h0 : Nat) : ∀ i : Nat, Jvm.Free.Multi.outerC c N h0 i = arrV c N (fun j => va_rf (if j < i then some (h0 + 1 + j) else none))
  | 0 => by
    show ({ cls := c, slots := Array.replicate N .null, vm := .none } : Cell) = _
    rw [arrV_new]
    refine congrArg (arrV c N) (funext fun j => ?_)
    simp [va_rf]
  | i + 1 => by
    show (Jvm.Free.Multi.outerC c N h0 i).setSlot i (.ref (h0 + 1 + i)) = _
    rw [vr_outer c N h0 i, arrV_store]
    refine congrArg (arrV c N) (funext fun j => ?_)
    by_cases e : j = i
    · subst e
      simp [updV, va_rf]
    · by_cases h : j < i
      · simp [updV, e, h, Nat.lt_succ_of_lt h]
      · simp [updV, e, h, show ¬ j < i + 1 by omega]
section VGM
variable {p : Program} {l : Launch} {e : Env} {R : Room} {s : State} {m : MethodId} {args : Array Value} {below : List Frame} {meth : Method} {c : Code} {H : Heap} {locs : List Loc} {cells slots : Nat} {Q : State → Prop}
variable {cc : ByteArray} {pc : Nat} {ls : Array Slot} {rest : List Value} {D : va_G} {cl : List vw_C} {A : Nat → Prop} {a : Nat} {tys : List (ClassId × FieldType)} {ws : va_W} {H0 : Heap}
theorem va_mna {X : va_W} {L : List Nat} {f : Nat → va_E} {cc : ByteArray} (hexec : p.tables.exec = Jvm.exec) (hb : c.code = cc) {own : String} {index : Nat} {ty : FieldType} {cy : ClassId} (hown : s.vm.findClass own = some m.cls) (hclink : (Cond.classLink own index ("[" ++ (FieldType.array ty).toString)).before args s = true) (hover : va_AOA ty s) (harr : (Cond.arrayClass ty).before args s = true) (hcy : s.vm.findClass (FieldType.array ty).toString = some cy)
    (hK : va_K D cl tys s) (hP : va_P D cl (X ++ va_pl L f) H) (hD : va_D A (X ++ va_pl L f)) (hS : va_S A H0 H locs) (hA : ∀ q, H0.size ≤ q → A q) {n k : Int32} {N' K' : Nat} {z : vp_A} (hn : ¬ n < 0) (hk : ¬ k < 0) (hN : n.toNatClampNeg = N') (hM : k.toNatClampNeg = K')
    (hb1 : N' * 4 ≤ 536870912) (hb2 : K' * componentBytes ty ≤ 536870912) (hb3 : K' ≤ 536870912) (hdf : fits ty (defaultValue ty) = true) (hdd : (defaultValue ty).isDefault = true) (hcells : cells + (1 + N') ≤ R.cells) (hslots : slots + (N' + N' * K') ≤ R.slots) (hz : ∀ c : ClassId, Jvm.Free.Multi.innerC c K' (defaultValue ty) = vp_cell c z) (hdg : decode cc pc = .ok (.multianewarray index 2, 4))
    (kk : ∀ (q : Nat) (r : Nat → Nat) (cA : ClassId) (H1 : Heap), (∀ i j : Nat, i < N' → j < N' → r i = r j → i = j) → (∀ i : Nat, i < N' → r i ∉ L) → va_K D cl (tys ++ [(cA, .array ty)]) s →
      va_P D cl ((X ++ [(q, .inl (cA, N', .inr (.inr (.inr (.inr (fun i => if i < N' then some (r i) else none))))))]) ++ va_pl (L ++ (List.range N').map r) (vr_up f ((List.range N').map r) (.inl (cy, z)))) H1 → va_D A ((X ++ [(q, .inl (cA, N', .inr (.inr (.inr (.inr (fun i => if i < N' then some (r i) else none))))))]) ++ va_pl (L ++ (List.range N').map r) (vr_up f ((List.range N').map r) (.inl (cy, z)))) → va_S A H0 H1 locs →
      W p l e R s m args below meth c H1 locs (cells + 1 + N') (slots + N' + N' * K') Q (F0 m (pc + 4) ls (.ref q :: rest))) : W p l e R s m args below meth c H locs cells slots Q (F0 m pc ls (.int k :: .int n :: rest)) := by
  subst hN
  subst hM
  intro T hT Xs
  obtain ⟨vm₁, cA, comp, -, fA, fC, hO, -, X', step⟩ := Xs.multianewarray2F hexec hown hclink (va_AOA.use hover) harr (g := F0 m pc ls (.int k :: .int n :: rest)) rfl (by rw [hb]; exact hdg) rfl hn hk hb1 hb2 hb3 hdf hdd hcells hslots
  have ec : some cy = some comp := hcy.symm.trans fC
  cases ec
  generalize hF : Jvm.Free.Multi.fill (T.setVm vm₁) cA cy n.toNatClampNeg k.toNatClampNeg (defaultValue ty) n.toNatClampNeg = F at X' step
  have hTh : (T.setVm vm₁).heap = H := hT
  obtain ⟨f1, f2, -, -⟩ := Jvm.Free.Multi.fill_facts (T.setVm vm₁) cA cy n.toNatClampNeg k.toNatClampNeg (defaultValue ty) n.toNatClampNeg
  rw [hF, hTh] at f1 f2
  have hold : ∀ x : Nat, x < H.size → F.heap[x]? = H[x]? := fun x hx => by
    have := Jvm.Free.Multi.fill_old (T.setVm vm₁) cA cy n.toNatClampNeg k.toNatClampNeg (defaultValue ty) (a := x) (by rw [hTh]; exact hx) n.toNatClampNeg
    rw [hF, hTh] at this
    exact this
  have hrow : ∀ j : Nat, j < n.toNatClampNeg → F.heap[H.size + 1 + j]? = some (vp_cell cy z) := fun j hj => by
    have := Jvm.Free.Multi.fill_inner (T.setVm vm₁) cA cy n.toNatClampNeg k.toNatClampNeg (defaultValue ty) n.toNatClampNeg j hj
    rw [hF, hTh, hz] at this
    exact this
  have hout : Jvm.Free.Multi.outerC cA n.toNatClampNeg H.size n.toNatClampNeg = vp_cell cA (n.toNatClampNeg, .inr (.inr (.inr (.inr (fun i => if i < n.toNatClampNeg then some (H.size + 1 + i) else none))))) := by
    rw [vp_cell_q]
    exact vr_outer cA n.toNatClampNeg H.size n.toNatClampNeg
  rw [hout] at f2
  have hlt : ∀ a, a ∈ L → a < H.size := fun a ha => by
    obtain ⟨k9, hk9⟩ := va_pl_get (X := X) (f := f) ha
    exact (hP k9 _ hk9).lt
  have hnl : ∀ i : Nat, i < n.toNatClampNeg → H.size + 1 + i ∉ L := fun i _ h => by
    have := hlt _ h
    omega
  have hnm : ∀ a, a ∈ (List.range n.toNatClampNeg).map (fun i => H.size + 1 + i) → a ∉ L := fun a ha h => by
    obtain ⟨i, -, rfl⟩ := List.mem_map.mp ha
    have := hlt _ h
    omega
  have hP0 : va_P D cl (X ++ va_pl L f) F.heap := hP.kept (fun k9 x hx => hold x.1 ((hP k9 x hx).lt))
  have hP1 : va_P D cl ((X ++ va_pl L f) ++ [(H.size, .inl (cA, n.toNatClampNeg, .inr (.inr (.inr (.inr (fun i => if i < n.toNatClampNeg then some (H.size + 1 + i) else none))))))]) F.heap := hP0.app (fun k9 x hx => by
    have h0 : k9 < 1 := (List.getElem?_eq_some_iff.mp hx).1
    rw [show k9 = 0 by omega] at hx
    cases hx
    exact f2)
  have hP2 : va_P D cl (((X ++ va_pl L f) ++ [(H.size, .inl (cA, n.toNatClampNeg, .inr (.inr (.inr (.inr (fun i => if i < n.toNatClampNeg then some (H.size + 1 + i) else none))))))]) ++ ((List.range n.toNatClampNeg).map (fun i => H.size + 1 + i)).map (fun a => (a, .inl (cy, z)))) F.heap := hP1.app (fun k9 x hx => by
    obtain ⟨a, ha, rfl⟩ := List.mem_map.mp (List.mem_of_getElem? hx)
    obtain ⟨i, hi, rfl⟩ := List.mem_map.mp ha
    exact hrow i (List.mem_range.mp hi))
  have hD2 : va_D A (((X ++ va_pl L f) ++ [(H.size, .inl (cA, n.toNatClampNeg, .inr (.inr (.inr (.inr (fun i => if i < n.toNatClampNeg then some (H.size + 1 + i) else none))))))]) ++ ((List.range n.toNatClampNeg).map (fun i => H.size + 1 + i)).map (fun a => (a, .inl (cy, z)))) := by
    have hD1 := hD.push (e := .inl (cA, n.toNatClampNeg, .inr (.inr (.inr (.inr (fun i => if i < n.toNatClampNeg then some (H.size + 1 + i) else none)))))) hP rfl (hA _ hS.1)
    generalize hW1 : (X ++ va_pl L f) ++ [(H.size, .inl (cA, n.toNatClampNeg, .inr (.inr (.inr (.inr (fun i => if i < n.toNatClampNeg then some (H.size + 1 + i) else none))))))] = W1 at hD1 hP1 ⊢
    have hle : ∀ (k9 : Nat) (x : Nat × va_E), W1[k9]? = some x → x.1 ≤ H.size := fun k9 x hx => by
      rw [← hW1] at hx
      by_cases hl : k9 < (X ++ va_pl L f).length
      · rw [List.getElem?_append_left hl] at hx
        exact Nat.le_of_lt ((hP k9 x hx).lt)
      · rw [List.getElem?_append_right (by omega)] at hx
        have h0 : k9 - (X ++ va_pl L f).length < 1 := (List.getElem?_eq_some_iff.mp hx).1
        rw [show k9 - (X ++ va_pl L f).length = 0 by omega] at hx
        cases hx
        exact Nat.le_refl _
    have hr : ∀ (k9 : Nat) (x : Nat × va_E), (((List.range n.toNatClampNeg).map (fun i => H.size + 1 + i)).map (fun a => ((a, .inl (cy, z)) : Nat × va_E)))[k9]? = some x → x.1 = H.size + 1 + k9 := fun k9 x hx => by
      rw [List.getElem?_map, List.getElem?_map] at hx
      by_cases h9 : k9 < n.toNatClampNeg
      · rw [List.getElem?_range h9] at hx
        cases hx
        rfl
      · have hn0 : (List.range n.toNatClampNeg)[k9]? = none := List.getElem?_eq_none (by rw [List.length_range]; omega)
        rw [hn0] at hx
        cases hx
    refine ⟨fun i j x y hi hj hxy => ?_, fun k9 x hx => ?_⟩
    · by_cases h1 : i < W1.length <;> by_cases h2 : j < W1.length
      · rw [List.getElem?_append_left h1] at hi
        rw [List.getElem?_append_left h2] at hj
        exact hD1.1 i j x y hi hj hxy
      · rw [List.getElem?_append_left h1] at hi
        rw [List.getElem?_append_right (by omega)] at hj
        have := hle _ _ hi
        have := hr _ _ hj
        omega
      · rw [List.getElem?_append_right (by omega)] at hi
        rw [List.getElem?_append_left h2] at hj
        have := hle _ _ hj
        have := hr _ _ hi
        omega
      · rw [List.getElem?_append_right (by omega)] at hi hj
        have := hr _ _ hi
        have := hr _ _ hj
        omega
    · by_cases h1 : k9 < W1.length
      · rw [List.getElem?_append_left h1] at hx
        exact hD1.2 k9 x hx
      · rw [List.getElem?_append_right (by omega)] at hx
        have := hr _ _ hx
        exact hA _ (by have := hS.1; omega)
  have hAr : ArrOfT s cA (.array ty) := fun N9 z9 => by
    obtain ⟨-, k9, hk9, cm9, hkk9⟩ := (hO 0 0 0).1
    exact ⟨(fun q hq => by cases hq), k9, hk9, cm9, hkk9⟩
  have hK2 : va_K D cl (tys ++ [(cA, .array ty)]) s := ⟨hK.1, fun k9 x hx => by
    by_cases hl : k9 < tys.length
    · rw [List.getElem?_append_left hl] at hx
      exact hK.2 k9 x hx
    · rw [List.getElem?_append_right (by omega)] at hx
      have h0 : k9 - tys.length < 1 := (List.getElem?_eq_some_iff.mp hx).1
      rw [show k9 - tys.length = 0 by omega] at hx
      cases hx
      exact ⟨hAr, fA⟩⟩
  obtain ⟨t, a1, b1⟩ := kk H.size (fun i => H.size + 1 + i) cA F.heap (fun i j _ _ h => by have h9 : H.size + 1 + i = H.size + 1 + j := h; omega) hnl hK2 (by rw [← vr_rows hnm]; exact vr_lay hP2) (by rw [← vr_rows hnm]; exact vr_layD hD2) ⟨by rw [f1]; have := hS.1; omega, fun x h1 h2 => (hold x (Nat.lt_of_lt_of_le h1 hS.1)).trans (hS.2.1 x h1 h2), hS.2.2⟩ F rfl X'
  refine ⟨t, step t ?_, b1⟩
  have e : T.heap.size = H.size := by rw [hT]
  rw [e]
  exact a1
end VGM
/-! ===== END ===== -/
def RX0 : String := "NumbersInherited$Heir"
def TX0 : u_T := fun k => match k with
  | 0 => ("NumbersInherited$Heir", "number", "I", false)
  | 1 => ("NumbersInherited$Heir", "kind", "I", false)
  | 2 => ("NumbersInherited$Heir", "more", "I", false)
  | _ => ("NumbersInherited$Heir", "own", "I", false)
def tyX0 : Nat → FieldType := fun k => match k with
  | 0 => .int
  | 1 => .int
  | 2 => .int
  | _ => .int
abbrev wsX00 : List Cond := u_ws RX0 TX0 4
theorem nmX0 : ∀ a, a < 4 → ∀ b, b < 4 → a ≠ b → (TX0 a).2.1 ≠ (TX0 b).2.1 := by decide +kernel
theorem tyX0_ok : ∀ k, k < 4 → parseFieldDescriptor (TX0 k).2.2.1 = some (tyX0 k) := by decide +kernel
abbrev cX0_init : ByteArray := prog_2_method_1_code
def yX0_init : MethodName := ⟨RX0, "<init>", "()V"⟩
abbrev cX0_become : ByteArray := prog_2_method_2_code
def yX0_become : MethodName := ⟨RX0, "become", "(LNumbersInherited$Heir;)V"⟩
abbrev cX0_sayable : ByteArray := prog_2_method_3_code
def yX0_sayable : MethodName := ⟨RX0, "sayable", "()I"⟩
abbrev cX0_costsFor : ByteArray := prog_2_method_4_code
def yX0_costsFor : MethodName := ⟨RX0, "costsFor", "(I)I"⟩
abbrev cX0_sums : ByteArray := prog_2_method_5_code
def yX0_sums : MethodName := ⟨RX0, "sums", "()I"⟩
abbrev cX0_rests : ByteArray := prog_2_method_6_code
def yX0_rests : MethodName := ⟨RX0, "rests", "()I"⟩
abbrev cX0_halves : ByteArray := prog_2_method_7_code
def yX0_halves : MethodName := ⟨RX0, "halves", "()I"⟩
abbrev cX0_above : ByteArray := prog_2_method_8_code
def yX0_above : MethodName := ⟨RX0, "above", "(I)I"⟩
abbrev cX0_drawOwn : ByteArray := prog_2_method_9_code
def yX0_drawOwn : MethodName := ⟨RX0, "drawOwn", "(I)I"⟩
def RX1 : String := "NumbersInherited$Image"
def TX1 : u_T := fun k => match k with
  | 0 => ("NumbersInherited$Image", "size", "I", false)
  | 1 => ("NumbersInherited$Image", "day", "I", false)
  | 2 => ("NumbersInherited$Image", "rule", "I", false)
  | 3 => ("NumbersInherited$Image", "mores", "[I", true)
  | _ => ("NumbersInherited$Image", "owns", "[I", true)
def tyX1 : Nat → FieldType := fun k => match k with
  | 0 => .int
  | 1 => .int
  | 2 => .int
  | 3 => .array .int
  | _ => .array .int
abbrev wsX10 : List Cond := u_ws RX1 TX1 5
theorem nmX1 : ∀ a, a < 5 → ∀ b, b < 5 → a ≠ b → (TX1 a).2.1 ≠ (TX1 b).2.1 := by decide +kernel
theorem tyX1_ok : ∀ k, k < 5 → parseFieldDescriptor (TX1 k).2.2.1 = some (tyX1 k) := by decide +kernel
abbrev cX1_init : ByteArray := prog_3_method_1_code
def yX1_init : MethodName := ⟨RX1, "<init>", "()V"⟩
def RX2 : String := "NumbersInherited$Law"
def TX2 : u_T := fun k => match k with
  | 0 => ("NumbersInherited$Law", "reader", "LNumbersInherited$Reader;", true)
  | 1 => ("NumbersInherited$Law", "codes", "[[I", true)
  | 2 => ("NumbersInherited$Law", "starts", "[[I", true)
  | 3 => ("NumbersInherited$Law", "names", "[I", true)
  | 4 => ("NumbersInherited$Law", "stack", "[I", true)
  | 5 => ("NumbersInherited$Law", "texts", "I", false)
  | 6 => ("NumbersInherited$Law", "rule", "I", false)
  | _ => ("NumbersInherited$Law", "day", "I", false)
def tyX2 : Nat → FieldType := fun k => match k with
  | 0 => .object "NumbersInherited$Reader"
  | 1 => .array (.array .int)
  | 2 => .array (.array .int)
  | 3 => .array .int
  | 4 => .array .int
  | 5 => .int
  | 6 => .int
  | _ => .int
abbrev wsX20 : List Cond := u_ws RX2 TX2 8
theorem nmX2 : ∀ a, a < 8 → ∀ b, b < 8 → a ≠ b → (TX2 a).2.1 ≠ (TX2 b).2.1 := by decide +kernel
theorem tyX2_ok : ∀ k, k < 8 → parseFieldDescriptor (TX2 k).2.2.1 = some (tyX2 k) := by decide +kernel
abbrev cX2_init : ByteArray := prog_4_method_1_code
def yX2_init : MethodName := ⟨RX2, "<init>", "()V"⟩
abbrev cX2_readText : ByteArray := prog_4_method_2_code
def yX2_readText : MethodName := ⟨RX2, "readText", "()I"⟩
abbrev cX2_costs : ByteArray := prog_4_method_3_code
def yX2_costs : MethodName := ⟨RX2, "costs", "(LNumbersInherited$Heir;I)I"⟩
abbrev cX2_isMeant : ByteArray := prog_4_method_4_code
def yX2_isMeant : MethodName := ⟨RX2, "isMeant", "(LNumbersInherited$Heir;I)Z"⟩
abbrev cX2_worthOf : ByteArray := prog_4_method_5_code
def yX2_worthOf : MethodName := ⟨RX2, "worthOf", "(LNumbersInherited$Heir;I)I"⟩
abbrev cX2_name : ByteArray := prog_4_method_6_code
def yX2_name : MethodName := ⟨RX2, "name", "(LNumbersInherited$Heir;II)V"⟩
abbrev cX2_bounded : ByteArray := prog_4_method_7_code
def yX2_bounded : MethodName := ⟨RX2, "bounded", "(I)I"⟩
abbrev cX2_value : ByteArray := prog_4_method_8_code
def yX2_value : MethodName := ⟨RX2, "value", "(I)I"⟩
abbrev cX2_operand : ByteArray := prog_4_method_9_code
def yX2_operand : MethodName := ⟨RX2, "operand", "(I)I"⟩
abbrev cX2_joined : ByteArray := prog_4_method_10_code
def yX2_joined : MethodName := ⟨RX2, "joined", "(III)I"⟩
def RX3 : String := "NumbersInherited$Paying"
def TX3 : u_T := fun k => match k with
  | 0 => ("NumbersInherited$Paying", "law", "LNumbersInherited$Law;", true)
  | 1 => ("NumbersInherited$Paying", "parts", "[I", true)
  | 2 => ("NumbersInherited$Paying", "weights", "[I", true)
  | 3 => ("NumbersInherited$Paying", "least", "[I", true)
  | 4 => ("NumbersInherited$Paying", "can", "[Z", true)
  | _ => ("NumbersInherited$Paying", "heard", "[Z", true)
def tyX3 : Nat → FieldType := fun k => match k with
  | 0 => .object "NumbersInherited$Law"
  | 1 => .array .int
  | 2 => .array .int
  | 3 => .array .int
  | 4 => .array .boolean
  | _ => .array .boolean
abbrev wsX30 : List Cond := u_ws RX3 TX3 6
theorem nmX3 : ∀ a, a < 6 → ∀ b, b < 6 → a ≠ b → (TX3 a).2.1 ≠ (TX3 b).2.1 := by decide +kernel
theorem tyX3_ok : ∀ k, k < 6 → parseFieldDescriptor (TX3 k).2.2.1 = some (tyX3 k) := by decide +kernel
abbrev cX3_init : ByteArray := prog_5_method_1_code
def yX3_init : MethodName := ⟨RX3, "<init>", "(LNumbersInherited$Law;)V"⟩
abbrev cX3_fillLeast : ByteArray := prog_5_method_2_code
def yX3_fillLeast : MethodName := ⟨RX3, "fillLeast", "(LNumbersInherited$Heir;LNumbersInherited$Heir;IZ)V"⟩
abbrev cX3_leastOf : ByteArray := prog_5_method_3_code
def yX3_leastOf : MethodName := ⟨RX3, "leastOf", "(I)I"⟩
abbrev cX3_fillParts : ByteArray := prog_5_method_4_code
def yX3_fillParts : MethodName := ⟨RX3, "fillParts", "(I)I"⟩
abbrev cX3_leastAt : ByteArray := prog_5_method_5_code
def yX3_leastAt : MethodName := ⟨RX3, "leastAt", "(II)I"⟩
abbrev cX3_fillCan : ByteArray := prog_5_method_6_code
def yX3_fillCan : MethodName := ⟨RX3, "fillCan", "(LNumbersInherited$Heir;LNumbersInherited$Heir;)V"⟩
abbrev cX3_payable : ByteArray := prog_5_method_7_code
def yX3_payable : MethodName := ⟨RX3, "payable", "(LNumbersInherited$Heir;LNumbersInherited$Heir;)I"⟩
abbrev cX3_hindered : ByteArray := prog_5_method_8_code
def yX3_hindered : MethodName := ⟨RX3, "hindered", "(LNumbersInherited$Heir;LNumbersInherited$Heir;I)I"⟩
abbrev cX3_hearNone : ByteArray := prog_5_method_9_code
def yX3_hearNone : MethodName := ⟨RX3, "hearNone", "()V"⟩
abbrev cX3_hear : ByteArray := prog_5_method_10_code
def yX3_hear : MethodName := ⟨RX3, "hear", "(LNumbersInherited$Heir;LNumbersInherited$Heir;)V"⟩
abbrev cX3_unheard : ByteArray := prog_5_method_11_code
def yX3_unheard : MethodName := ⟨RX3, "unheard", "()I"⟩
abbrev cX3_firstUnheard : ByteArray := prog_5_method_12_code
def yX3_firstUnheard : MethodName := ⟨RX3, "firstUnheard", "()I"⟩
abbrev cX3_firstOtherwise : ByteArray := prog_5_method_13_code
def yX3_firstOtherwise : MethodName := ⟨RX3, "firstOtherwise", "(LNumbersInherited$Sheet;LNumbersInherited$Heir;LNumbersInherited$Heir;)I"⟩
def RX4 : String := "NumbersInherited$Reader"
def TX4 : u_T := fun k => match k with
  | 0 => ("NumbersInherited$Reader", "bytes", "[I", true)
  | 1 => ("NumbersInherited$Reader", "size", "I", false)
  | 2 => ("NumbersInherited$Reader", "place", "I", false)
  | 3 => ("NumbersInherited$Reader", "token", "I", false)
  | 4 => ("NumbersInherited$Reader", "begin", "I", false)
  | 5 => ("NumbersInherited$Reader", "amount", "I", false)
  | 6 => ("NumbersInherited$Reader", "code", "[I", false)
  | _ => ("NumbersInherited$Reader", "written", "I", false)
def tyX4 : Nat → FieldType := fun k => match k with
  | 0 => .array .int
  | 1 => .int
  | 2 => .int
  | 3 => .int
  | 4 => .int
  | 5 => .int
  | 6 => .array .int
  | _ => .int
abbrev wsX40 : List Cond := u_ws RX4 TX4 8
theorem nmX4 : ∀ a, a < 8 → ∀ b, b < 8 → a ≠ b → (TX4 a).2.1 ≠ (TX4 b).2.1 := by decide +kernel
theorem tyX4_ok : ∀ k, k < 8 → parseFieldDescriptor (TX4 k).2.2.1 = some (tyX4 k) := by decide +kernel
abbrev cX4_init : ByteArray := prog_6_method_1_code
def yX4_init : MethodName := ⟨RX4, "<init>", "()V"⟩
abbrev cX4_put : ByteArray := prog_6_method_2_code
def yX4_put : MethodName := ⟨RX4, "put", "(I)Z"⟩
abbrev cX4_read : ByteArray := prog_6_method_3_code
def yX4_read : MethodName := ⟨RX4, "read", "([I[I)I"⟩
abbrev cX4_part : ByteArray := prog_6_method_4_code
def yX4_part : MethodName := ⟨RX4, "part", "(I)Z"⟩
abbrev cX4_either : ByteArray := prog_6_method_5_code
def yX4_either : MethodName := ⟨RX4, "either", "(I)Z"⟩
abbrev cX4_both : ByteArray := prog_6_method_6_code
def yX4_both : MethodName := ⟨RX4, "both", "(I)Z"⟩
abbrev cX4_not : ByteArray := prog_6_method_7_code
def yX4_not : MethodName := ⟨RX4, "not", "(I)Z"⟩
abbrev cX4_compared : ByteArray := prog_6_method_8_code
def yX4_compared : MethodName := ⟨RX4, "compared", "(I)Z"⟩
abbrev cX4_sum : ByteArray := prog_6_method_9_code
def yX4_sum : MethodName := ⟨RX4, "sum", "(I)Z"⟩
abbrev cX4_term : ByteArray := prog_6_method_10_code
def yX4_term : MethodName := ⟨RX4, "term", "(I)Z"⟩
abbrev cX4_single : ByteArray := prog_6_method_11_code
def yX4_single : MethodName := ⟨RX4, "single", "(I)Z"⟩
abbrev cX4_bracket : ByteArray := prog_6_method_12_code
def yX4_bracket : MethodName := ⟨RX4, "bracket", "(I)Z"⟩
abbrev cX4_negated : ByteArray := prog_6_method_13_code
def yX4_negated : MethodName := ⟨RX4, "negated", "(I)Z"⟩
abbrev cX4_write : ByteArray := prog_6_method_14_code
def yX4_write : MethodName := ⟨RX4, "write", "(I)V"⟩
abbrev cX4_next : ByteArray := prog_6_method_15_code
def yX4_next : MethodName := ⟨RX4, "next", "()V"⟩
abbrev cX4_nextWord : ByteArray := prog_6_method_16_code
def yX4_nextWord : MethodName := ⟨RX4, "nextWord", "()V"⟩
abbrev cX4_nextNumber : ByteArray := prog_6_method_17_code
def yX4_nextNumber : MethodName := ⟨RX4, "nextNumber", "()V"⟩
abbrev cX4_stands : ByteArray := prog_6_method_18_code
def yX4_stands : MethodName := ⟨RX4, "stands", "(Ljava/lang/String;)Z"⟩
abbrev cX4_word : ByteArray := prog_6_method_19_code
def yX4_word : MethodName := ⟨RX4, "word", "(I)Ljava/lang/String;"⟩
abbrev cX4_isLetter : ByteArray := prog_6_method_20_code
def yX4_isLetter : MethodName := ⟨RX4, "isLetter", "(I)Z"⟩
abbrev cX4_isDigit : ByteArray := prog_6_method_21_code
def yX4_isDigit : MethodName := ⟨RX4, "isDigit", "(I)Z"⟩
abbrev cX4_isSign : ByteArray := prog_6_method_22_code
def yX4_isSign : MethodName := ⟨RX4, "isSign", "(I)Z"⟩
def RX5 : String := "NumbersInherited$Sheet"
def TX5 : u_T := fun k => match k with
  | 0 => ("NumbersInherited$Sheet", "sort", "I", false)
  | 1 => ("NumbersInherited$Sheet", "size", "I", false)
  | _ => ("NumbersInherited$Sheet", "items", "[I", true)
def tyX5 : Nat → FieldType := fun k => match k with
  | 0 => .int
  | 1 => .int
  | _ => .array .int
abbrev wsX50 : List Cond := u_ws RX5 TX5 3
theorem nmX5 : ∀ a, a < 3 → ∀ b, b < 3 → a ≠ b → (TX5 a).2.1 ≠ (TX5 b).2.1 := by decide +kernel
theorem tyX5_ok : ∀ k, k < 3 → parseFieldDescriptor (TX5 k).2.2.1 = some (tyX5 k) := by decide +kernel
abbrev cX5_init : ByteArray := prog_7_method_1_code
def yX5_init : MethodName := ⟨RX5, "<init>", "()V"⟩
abbrev cX5_lay : ByteArray := prog_7_method_2_code
def yX5_lay : MethodName := ⟨RX5, "lay", "(II)V"⟩
abbrev cX5_holds : ByteArray := prog_7_method_3_code
def yX5_holds : MethodName := ⟨RX5, "holds", "(I)Z"⟩
abbrev cX5_holdsRun : ByteArray := prog_7_method_4_code
def yX5_holdsRun : MethodName := ⟨RX5, "holdsRun", "(II)Z"⟩
abbrev cX5_at : ByteArray := prog_7_method_5_code
def yX5_at : MethodName := ⟨RX5, "at", "(I)I"⟩
abbrev cX5_put : ByteArray := prog_7_method_6_code
def yX5_put : MethodName := ⟨RX5, "put", "(II)V"⟩
abbrev cX5_tellsSums : ByteArray := prog_7_method_7_code
def yX5_tellsSums : MethodName := ⟨RX5, "tellsSums", "()Z"⟩
def RX6 : String := "NumbersInherited$Ways"
def TX6 : u_T := fun k => match k with
  | 0 => ("NumbersInherited$Ways", "paying", "LNumbersInherited$Paying;", true)
  | 1 => ("NumbersInherited$Ways", "toll", "[[I", true)
  | 2 => ("NumbersInherited$Ways", "cost", "[I", true)
  | 3 => ("NumbersInherited$Ways", "steps", "[I", true)
  | _ => ("NumbersInherited$Ways", "size", "I", false)
def tyX6 : Nat → FieldType := fun k => match k with
  | 0 => .object "NumbersInherited$Paying"
  | 1 => .array (.array .int)
  | 2 => .array .int
  | 3 => .array .int
  | _ => .int
abbrev wsX60 : List Cond := u_ws RX6 TX6 5
theorem nmX6 : ∀ a, a < 5 → ∀ b, b < 5 → a ≠ b → (TX6 a).2.1 ≠ (TX6 b).2.1 := by decide +kernel
theorem tyX6_ok : ∀ k, k < 5 → parseFieldDescriptor (TX6 k).2.2.1 = some (tyX6 k) := by decide +kernel
abbrev cX6_init : ByteArray := prog_8_method_1_code
def yX6_init : MethodName := ⟨RX6, "<init>", "(LNumbersInherited$Paying;)V"⟩
abbrev cX6_lay : ByteArray := prog_8_method_2_code
def yX6_lay : MethodName := ⟨RX6, "lay", "([LNumbersInherited$Heir;II)V"⟩
abbrev cX6_walk : ByteArray := prog_8_method_3_code
def yX6_walk : MethodName := ⟨RX6, "walk", "(I)V"⟩
abbrev cX6_walkOn : ByteArray := prog_8_method_4_code
def yX6_walkOn : MethodName := ⟨RX6, "walkOn", "(I)V"⟩
abbrev cX6_isBetter : ByteArray := prog_8_method_5_code
def yX6_isBetter : MethodName := ⟨RX6, "isBetter", "(III)Z"⟩
abbrev cX6_costTo : ByteArray := prog_8_method_6_code
def yX6_costTo : MethodName := ⟨RX6, "costTo", "(I)I"⟩
abbrev cX6_stepsTo : ByteArray := prog_8_method_7_code
def yX6_stepsTo : MethodName := ⟨RX6, "stepsTo", "(I)I"⟩
abbrev cX6_partedWithout : ByteArray := prog_8_method_8_code
def yX6_partedWithout : MethodName := ⟨RX6, "partedWithout", "(I)I"⟩
abbrev cX6_reached : ByteArray := prog_8_method_9_code
def yX6_reached : MethodName := ⟨RX6, "reached", "(II)I"⟩
def RX7 : String := "NumbersInherited"
def TX7 : u_T := fun k => match k with
  | 0 => ("NumbersInherited", "family", "[LNumbersInherited$Heir;", true)
  | 1 => ("NumbersInherited", "sheets", "[LNumbersInherited$Sheet;", true)
  | 2 => ("NumbersInherited", "law", "LNumbersInherited$Law;", true)
  | 3 => ("NumbersInherited", "paying", "LNumbersInherited$Paying;", true)
  | 4 => ("NumbersInherited", "ways", "LNumbersInherited$Ways;", true)
  | 5 => ("NumbersInherited", "kept", "LNumbersInherited$Image;", true)
  | 6 => ("NumbersInherited", "asIf", "LNumbersInherited$Heir;", true)
  | 7 => ("NumbersInherited", "asIfToo", "LNumbersInherited$Heir;", true)
  | _ => ("NumbersInherited", "size", "I", false)
def tyX7 : Nat → FieldType := fun k => match k with
  | 0 => .array (.object "NumbersInherited$Heir")
  | 1 => .array (.object "NumbersInherited$Sheet")
  | 2 => .object "NumbersInherited$Law"
  | 3 => .object "NumbersInherited$Paying"
  | 4 => .object "NumbersInherited$Ways"
  | 5 => .object "NumbersInherited$Image"
  | 6 => .object "NumbersInherited$Heir"
  | 7 => .object "NumbersInherited$Heir"
  | _ => .int
abbrev wsX70 : List Cond := u_ws RX7 TX7 9
theorem nmX7 : ∀ a, a < 9 → ∀ b, b < 9 → a ≠ b → (TX7 a).2.1 ≠ (TX7 b).2.1 := by decide +kernel
theorem tyX7_ok : ∀ k, k < 9 → parseFieldDescriptor (TX7 k).2.2.1 = some (tyX7 k) := by decide +kernel
abbrev cX7_init : ByteArray := prog_1_method_1_code
def yX7_init : MethodName := ⟨RX7, "<init>", "()V"⟩
abbrev cX7_set : ByteArray := prog_1_method_2_code
def yX7_set : MethodName := ⟨RX7, "set", "(III)I"⟩
abbrev cX7_heir : ByteArray := prog_1_method_3_code
def yX7_heir : MethodName := ⟨RX7, "heir", "(II)I"⟩
abbrev cX7_give : ByteArray := prog_1_method_4_code
def yX7_give : MethodName := ⟨RX7, "give", "(III)I"⟩
abbrev cX7_told : ByteArray := prog_1_method_5_code
def yX7_told : MethodName := ⟨RX7, "told", "(II)I"⟩
abbrev cX7_heirAt : ByteArray := prog_1_method_6_code
def yX7_heirAt : MethodName := ⟨RX7, "heirAt", "(I)LNumbersInherited$Heir;"⟩
abbrev cX7_setDay : ByteArray := prog_1_method_7_code
def yX7_setDay : MethodName := ⟨RX7, "setDay", "(I)I"⟩
abbrev cX7_setMore : ByteArray := prog_1_method_8_code
def yX7_setMore : MethodName := ⟨RX7, "setMore", "(LNumbersInherited$Heir;I)I"⟩
abbrev cX7_setOwn : ByteArray := prog_1_method_9_code
def yX7_setOwn : MethodName := ⟨RX7, "setOwn", "(LNumbersInherited$Heir;I)I"⟩
abbrev cX7_feed : ByteArray := prog_1_method_10_code
def yX7_feed : MethodName := ⟨RX7, "feed", "(I)I"⟩
abbrev cX7_text : ByteArray := prog_1_method_11_code
def yX7_text : MethodName := ⟨RX7, "text", "()I"⟩
abbrev cX7_force : ByteArray := prog_1_method_12_code
def yX7_force : MethodName := ⟨RX7, "force", "(I)I"⟩
abbrev cX7_says : ByteArray := prog_1_method_13_code
def yX7_says : MethodName := ⟨RX7, "says", "(III)I"⟩
abbrev cX7_common : ByteArray := prog_1_method_14_code
def yX7_common : MethodName := ⟨RX7, "common", "(II)I"⟩
abbrev cX7_pays : ByteArray := prog_1_method_15_code
def yX7_pays : MethodName := ⟨RX7, "pays", "(IIII)I"⟩
abbrev cX7_barred : ByteArray := prog_1_method_16_code
def yX7_barred : MethodName := ⟨RX7, "barred", "(III)I"⟩
abbrev cX7_silent : ByteArray := prog_1_method_17_code
def yX7_silent : MethodName := ⟨RX7, "silent", "(I)I"⟩
abbrev cX7_middle : ByteArray := prog_1_method_18_code
def yX7_middle : MethodName := ⟨RX7, "middle", "(II)I"⟩
abbrev cX7_leave : ByteArray := prog_1_method_19_code
def yX7_leave : MethodName := ⟨RX7, "leave", "(II)I"⟩
abbrev cX7_buy : ByteArray := prog_1_method_20_code
def yX7_buy : MethodName := ⟨RX7, "buy", "(III)I"⟩
abbrev cX7_pawn : ByteArray := prog_1_method_21_code
def yX7_pawn : MethodName := ⟨RX7, "pawn", "(III)I"⟩
abbrev cX7_worthOfLeaving : ByteArray := prog_1_method_22_code
def yX7_worthOfLeaving : MethodName := ⟨RX7, "worthOfLeaving", "(LNumbersInherited$Heir;LNumbersInherited$Heir;)I"⟩
abbrev cX7_rows : ByteArray := prog_1_method_23_code
def yX7_rows : MethodName := ⟨RX7, "rows", "(IIII)I"⟩
abbrev cX7_film : ByteArray := prog_1_method_24_code
def yX7_film : MethodName := ⟨RX7, "film", "(IIII)I"⟩
abbrev cX7_drawn : ByteArray := prog_1_method_25_code
def yX7_drawn : MethodName := ⟨RX7, "drawn", "(I)I"⟩
abbrev cX7_chance : ByteArray := prog_1_method_26_code
def yX7_chance : MethodName := ⟨RX7, "chance", "(III)J"⟩
abbrev cX7_image : ByteArray := prog_1_method_27_code
def yX7_image : MethodName := ⟨RX7, "image", "()I"⟩
abbrev cX7_back : ByteArray := prog_1_method_28_code
def yX7_back : MethodName := ⟨RX7, "back", "()I"⟩
abbrev cX7_count : ByteArray := prog_1_method_29_code
def yX7_count : MethodName := ⟨RX7, "count", "(I)I"⟩
abbrev cX7_kindsAsTold : ByteArray := prog_1_method_30_code
def yX7_kindsAsTold : MethodName := ⟨RX7, "kindsAsTold", "(LNumbersInherited$Sheet;LNumbersInherited$Heir;LNumbersInherited$Heir;)I"⟩
abbrev cX7_moresAsTold : ByteArray := prog_1_method_31_code
def yX7_moresAsTold : MethodName := ⟨RX7, "moresAsTold", "(LNumbersInherited$Sheet;LNumbersInherited$Heir;LNumbersInherited$Heir;)I"⟩
abbrev cX7_textsAsTold : ByteArray := prog_1_method_32_code
def yX7_textsAsTold : MethodName := ⟨RX7, "textsAsTold", "(LNumbersInherited$Sheet;LNumbersInherited$Heir;LNumbersInherited$Heir;)I"⟩
abbrev cX7_numbersThatMust : ByteArray := prog_1_method_33_code
def yX7_numbersThatMust : MethodName := ⟨RX7, "numbersThatMust", "(LNumbersInherited$Sheet;LNumbersInherited$Heir;LNumbersInherited$Heir;)I"⟩
abbrev cX7_numbersThatMay : ByteArray := prog_1_method_34_code
def yX7_numbersThatMay : MethodName := ⟨RX7, "numbersThatMay", "(LNumbersInherited$Sheet;LNumbersInherited$Heir;LNumbersInherited$Heir;)I"⟩
abbrev cX7_payableIfDrawn : ByteArray := prog_1_method_35_code
def yX7_payableIfDrawn : MethodName := ⟨RX7, "payableIfDrawn", "(ILNumbersInherited$Heir;LNumbersInherited$Heir;)I"⟩
abbrev cX7_commonMeasure : ByteArray := prog_1_method_36_code
def yX7_commonMeasure : MethodName := ⟨RX7, "commonMeasure", "(II)I"⟩
abbrev cX7_allOwn : ByteArray := prog_1_method_37_code
def yX7_allOwn : MethodName := ⟨RX7, "allOwn", "()I"⟩
abbrev cX7_sheet : ByteArray := prog_1_method_38_code
def yX7_sheet : MethodName := ⟨RX7, "sheet", "(III)I"⟩
abbrev cX7_cell : ByteArray := prog_1_method_39_code
def yX7_cell : MethodName := ⟨RX7, "cell", "(III)I"⟩
abbrev cX7_copy : ByteArray := prog_1_method_40_code
def yX7_copy : MethodName := ⟨RX7, "copy", "(IIIII)I"⟩
abbrev cX7_heirs : ByteArray := prog_1_method_41_code
def yX7_heirs : MethodName := ⟨RX7, "heirs", "(IIII)I"⟩
abbrev cX7_taken : ByteArray := prog_1_method_42_code
def yX7_taken : MethodName := ⟨RX7, "taken", "(II)I"⟩
abbrev cX7_sheetAt : ByteArray := prog_1_method_43_code
def yX7_sheetAt : MethodName := ⟨RX7, "sheetAt", "(I)LNumbersInherited$Sheet;"⟩
abbrev cX7_isUnder : ByteArray := prog_1_method_44_code
def yX7_isUnder : MethodName := ⟨RX7, "isUnder", "(II)Z"⟩
abbrev cX7_kindAbove : ByteArray := prog_1_method_45_code
def yX7_kindAbove : MethodName := ⟨RX7, "kindAbove", "(I)I"⟩
abbrev cX7_isNumber : ByteArray := prog_1_method_46_code
def yX7_isNumber : MethodName := ⟨RX7, "isNumber", "(I)Z"⟩
abbrev cX7_isSum : ByteArray := prog_1_method_47_code
def yX7_isSum : MethodName := ⟨RX7, "isSum", "(I)Z"⟩
abbrev cX7_bit : ByteArray := prog_1_method_48_code
def yX7_bit : MethodName := ⟨RX7, "bit", "(I)I"⟩
abbrev cX7_has : ByteArray := prog_1_method_49_code
def yX7_has : MethodName := ⟨RX7, "has", "(II)Z"⟩
abbrev cX7_truth : ByteArray := prog_1_method_50_code
def yX7_truth : MethodName := ⟨RX7, "truth", "(Z)I"⟩
def RX8 : String := "NumbersInheritedModel"
def TX8 : u_T := fun k => match k with
  | 0 => ("NumbersInheritedModel", "day", "I", false)
  | 1 => ("NumbersInheritedModel", "heirs", "I", false)
  | 2 => ("NumbersInheritedModel", "kind", "[I", true)
  | 3 => ("NumbersInheritedModel", "more", "[I", true)
  | 4 => ("NumbersInheritedModel", "own", "[I", true)
  | 5 => ("NumbersInheritedModel", "rule", "I", false)
  | 6 => ("NumbersInheritedModel", "taped", "I", false)
  | 7 => ("NumbersInheritedModel", "tape", "[I", true)
  | 8 => ("NumbersInheritedModel", "texts", "I", false)
  | 9 => ("NumbersInheritedModel", "begins", "[I", true)
  | 10 => ("NumbersInheritedModel", "length", "[I", true)
  | 11 => ("NumbersInheritedModel", "code", "[I", true)
  | 12 => ("NumbersInheritedModel", "coded", "I", false)
  | 13 => ("NumbersInheritedModel", "from", "I", false)
  | 14 => ("NumbersInheritedModel", "to", "I", false)
  | 15 => ("NumbersInheritedModel", "token", "I", false)
  | 16 => ("NumbersInheritedModel", "value", "I", false)
  | 17 => ("NumbersInheritedModel", "word", "I", false)
  | 18 => ("NumbersInheritedModel", "waits", "[I", true)
  | 19 => ("NumbersInheritedModel", "top", "I", false)
  | 20 => ("NumbersInheritedModel", "open", "I", false)
  | 21 => ("NumbersInheritedModel", "compared", "Z", false)
  | 22 => ("NumbersInheritedModel", "behind", "Z", false)
  | 23 => ("NumbersInheritedModel", "starts", "Z", false)
  | 24 => ("NumbersInheritedModel", "stack", "[I", true)
  | 25 => ("NumbersInheritedModel", "price", "[I", true)
  | 26 => ("NumbersInheritedModel", "least", "[I", true)
  | 27 => ("NumbersInheritedModel", "parts", "[I", true)
  | 28 => ("NumbersInheritedModel", "spoken", "[Z", true)
  | 29 => ("NumbersInheritedModel", "leg", "[I", true)
  | 30 => ("NumbersInheritedModel", "way", "[I", true)
  | 31 => ("NumbersInheritedModel", "steps", "[I", true)
  | 32 => ("NumbersInheritedModel", "imaged", "Z", false)
  | 33 => ("NumbersInheritedModel", "oldHeirs", "I", false)
  | 34 => ("NumbersInheritedModel", "old", "[I", true)
  | 35 => ("NumbersInheritedModel", "sheetSort", "[I", true)
  | 36 => ("NumbersInheritedModel", "sheetSize", "[I", true)
  | 37 => ("NumbersInheritedModel", "cells", "[I", true)
  | _ => ("NumbersInheritedModel", "kept", "[I", true)
def tyX8 : Nat → FieldType := fun k => match k with
  | 0 => .int
  | 1 => .int
  | 2 => .array .int
  | 3 => .array .int
  | 4 => .array .int
  | 5 => .int
  | 6 => .int
  | 7 => .array .int
  | 8 => .int
  | 9 => .array .int
  | 10 => .array .int
  | 11 => .array .int
  | 12 => .int
  | 13 => .int
  | 14 => .int
  | 15 => .int
  | 16 => .int
  | 17 => .int
  | 18 => .array .int
  | 19 => .int
  | 20 => .int
  | 21 => .boolean
  | 22 => .boolean
  | 23 => .boolean
  | 24 => .array .int
  | 25 => .array .int
  | 26 => .array .int
  | 27 => .array .int
  | 28 => .array .boolean
  | 29 => .array .int
  | 30 => .array .int
  | 31 => .array .int
  | 32 => .boolean
  | 33 => .int
  | 34 => .array .int
  | 35 => .array .int
  | 36 => .array .int
  | 37 => .array .int
  | _ => .array .int
abbrev wsX80 : List Cond := u_ws RX8 TX8 39
theorem nmX8 : ∀ a, a < 39 → ∀ b, b < 39 → a ≠ b → (TX8 a).2.1 ≠ (TX8 b).2.1 := by decide +kernel
theorem tyX8_ok : ∀ k, k < 39 → parseFieldDescriptor (TX8 k).2.2.1 = some (tyX8 k) := by decide +kernel
abbrev cX8_init : ByteArray := prog_10_method_1_code
def yX8_init : MethodName := ⟨RX8, "<init>", "()V"⟩
abbrev cX8_within : ByteArray := prog_10_method_2_code
def yX8_within : MethodName := ⟨RX8, "within", "(III)Z"⟩
abbrev cX8_bitsOf : ByteArray := prog_10_method_3_code
def yX8_bitsOf : MethodName := ⟨RX8, "bitsOf", "(I)I"⟩
abbrev cX8_has : ByteArray := prog_10_method_4_code
def yX8_has : MethodName := ⟨RX8, "has", "(II)Z"⟩
abbrev cX8_isHeir : ByteArray := prog_10_method_5_code
def yX8_isHeir : MethodName := ⟨RX8, "isHeir", "(I)Z"⟩
abbrev cX8_areTwo : ByteArray := prog_10_method_6_code
def yX8_areTwo : MethodName := ⟨RX8, "areTwo", "(II)Z"⟩
abbrev cX8_isNumber : ByteArray := prog_10_method_7_code
def yX8_isNumber : MethodName := ⟨RX8, "isNumber", "(I)Z"⟩
abbrev cX8_isSum : ByteArray := prog_10_method_8_code
def yX8_isSum : MethodName := ⟨RX8, "isSum", "(I)Z"⟩
abbrev cX8_isSheet : ByteArray := prog_10_method_9_code
def yX8_isSheet : MethodName := ⟨RX8, "isSheet", "(I)Z"⟩
abbrev cX8_may : ByteArray := prog_10_method_10_code
def yX8_may : MethodName := ⟨RX8, "may", "(II)Z"⟩
abbrev cX8_get : ByteArray := prog_10_method_11_code
def yX8_get : MethodName := ⟨RX8, "get", "(II)I"⟩
abbrev cX8_set : ByteArray := prog_10_method_12_code
def yX8_set : MethodName := ⟨RX8, "set", "(III)I"⟩
abbrev cX8_heir : ByteArray := prog_10_method_13_code
def yX8_heir : MethodName := ⟨RX8, "heir", "(II)I"⟩
abbrev cX8_give : ByteArray := prog_10_method_14_code
def yX8_give : MethodName := ⟨RX8, "give", "(III)I"⟩
abbrev cX8_told : ByteArray := prog_10_method_15_code
def yX8_told : MethodName := ⟨RX8, "told", "(II)I"⟩
abbrev cX8_feed : ByteArray := prog_10_method_16_code
def yX8_feed : MethodName := ⟨RX8, "feed", "(I)I"⟩
abbrev cX8_isLetter : ByteArray := prog_10_method_17_code
def yX8_isLetter : MethodName := ⟨RX8, "isLetter", "(I)Z"⟩
abbrev cX8_isDigit : ByteArray := prog_10_method_18_code
def yX8_isDigit : MethodName := ⟨RX8, "isDigit", "(I)Z"⟩
abbrev cX8_isSign : ByteArray := prog_10_method_19_code
def yX8_isSign : MethodName := ⟨RX8, "isSign", "(I)Z"⟩
abbrev cX8_named : ByteArray := prog_10_method_20_code
def yX8_named : MethodName := ⟨RX8, "named", "()I"⟩
abbrev cX8_isKey : ByteArray := prog_10_method_21_code
def yX8_isKey : MethodName := ⟨RX8, "isKey", "()Z"⟩
abbrev cX8_next : ByteArray := prog_10_method_22_code
def yX8_next : MethodName := ⟨RX8, "next", "()V"⟩
abbrev cX8_takes : ByteArray := prog_10_method_23_code
def yX8_takes : MethodName := ⟨RX8, "takes", "(I)Z"⟩
abbrev cX8_codes : ByteArray := prog_10_method_24_code
def yX8_codes : MethodName := ⟨RX8, "codes", "(I)V"⟩
abbrev cX8_rank : ByteArray := prog_10_method_25_code
def yX8_rank : MethodName := ⟨RX8, "rank", "(I)I"⟩
abbrev cX8_lays : ByteArray := prog_10_method_26_code
def yX8_lays : MethodName := ⟨RX8, "lays", "(I)V"⟩
abbrev cX8_push : ByteArray := prog_10_method_27_code
def yX8_push : MethodName := ⟨RX8, "push", "(I)V"⟩
abbrev cX8_one : ByteArray := prog_10_method_28_code
def yX8_one : MethodName := ⟨RX8, "one", "(Z)Z"⟩
abbrev cX8_signed : ByteArray := prog_10_method_29_code
def yX8_signed : MethodName := ⟨RX8, "signed", "()I"⟩
abbrev cX8_closes : ByteArray := prog_10_method_30_code
def yX8_closes : MethodName := ⟨RX8, "closes", "()Z"⟩
abbrev cX8_goesOn : ByteArray := prog_10_method_31_code
def yX8_goesOn : MethodName := ⟨RX8, "goesOn", "()Z"⟩
abbrev cX8_part : ByteArray := prog_10_method_32_code
def yX8_part : MethodName := ⟨RX8, "part", "(II)Z"⟩
abbrev cX8_text : ByteArray := prog_10_method_33_code
def yX8_text : MethodName := ⟨RX8, "text", "()I"⟩
abbrev cX8_force : ByteArray := prog_10_method_34_code
def yX8_force : MethodName := ⟨RX8, "force", "(I)I"⟩
abbrev cX8_tells : ByteArray := prog_10_method_35_code
def yX8_tells : MethodName := ⟨RX8, "tells", "(III)I"⟩
abbrev cX8_bound : ByteArray := prog_10_method_36_code
def yX8_bound : MethodName := ⟨RX8, "bound", "(I)I"⟩
abbrev cX8_both : ByteArray := prog_10_method_37_code
def yX8_both : MethodName := ⟨RX8, "both", "(III)I"⟩
abbrev cX8_isOwn : ByteArray := prog_10_method_38_code
def yX8_isOwn : MethodName := ⟨RX8, "isOwn", "(II)Z"⟩
abbrev cX8_isSaid : ByteArray := prog_10_method_39_code
def yX8_isSaid : MethodName := ⟨RX8, "isSaid", "(II)Z"⟩
abbrev cX8_isMade : ByteArray := prog_10_method_40_code
def yX8_isMade : MethodName := ⟨RX8, "isMade", "(II)Z"⟩
abbrev cX8_sayable : ByteArray := prog_10_method_41_code
def yX8_sayable : MethodName := ⟨RX8, "sayable", "(I)I"⟩
abbrev cX8_one_ : ByteArray := prog_10_method_42_code
def yX8_one_ : MethodName := ⟨RX8, "one", "(I)I"⟩
abbrev cX8_costs : ByteArray := prog_10_method_43_code
def yX8_costs : MethodName := ⟨RX8, "costs", "(II)I"⟩
abbrev cX8_isMeant : ByteArray := prog_10_method_44_code
def yX8_isMeant : MethodName := ⟨RX8, "isMeant", "(II)Z"⟩
abbrev cX8_worthOf : ByteArray := prog_10_method_45_code
def yX8_worthOf : MethodName := ⟨RX8, "worthOf", "(II)I"⟩
abbrev cX8_says : ByteArray := prog_10_method_46_code
def yX8_says : MethodName := ⟨RX8, "says", "(III)I"⟩
abbrev cX8_common : ByteArray := prog_10_method_47_code
def yX8_common : MethodName := ⟨RX8, "common", "(II)I"⟩
abbrev cX8_sums : ByteArray := prog_10_method_48_code
def yX8_sums : MethodName := ⟨RX8, "sums", "(II)V"⟩
abbrev cX8_legs : ByteArray := prog_10_method_49_code
def yX8_legs : MethodName := ⟨RX8, "legs", "(I)V"⟩
abbrev cX8_ways : ByteArray := prog_10_method_50_code
def yX8_ways : MethodName := ⟨RX8, "ways", "(I)V"⟩
abbrev cX8_pays : ByteArray := prog_10_method_51_code
def yX8_pays : MethodName := ⟨RX8, "pays", "(IIII)I"⟩
abbrev cX8_barredOf : ByteArray := prog_10_method_52_code
def yX8_barredOf : MethodName := ⟨RX8, "barredOf", "(III)I"⟩
abbrev cX8_barred : ByteArray := prog_10_method_53_code
def yX8_barred : MethodName := ⟨RX8, "barred", "(III)I"⟩
abbrev cX8_silent : ByteArray := prog_10_method_54_code
def yX8_silent : MethodName := ⟨RX8, "silent", "(I)I"⟩
abbrev cX8_reached : ByteArray := prog_10_method_55_code
def yX8_reached : MethodName := ⟨RX8, "reached", "(II)I"⟩
abbrev cX8_middle : ByteArray := prog_10_method_56_code
def yX8_middle : MethodName := ⟨RX8, "middle", "(II)I"⟩
abbrev cX8_leave : ByteArray := prog_10_method_57_code
def yX8_leave : MethodName := ⟨RX8, "leave", "(II)I"⟩
abbrev cX8_buy : ByteArray := prog_10_method_58_code
def yX8_buy : MethodName := ⟨RX8, "buy", "(III)I"⟩
abbrev cX8_unpaid : ByteArray := prog_10_method_59_code
def yX8_unpaid : MethodName := ⟨RX8, "unpaid", "(II)I"⟩
abbrev cX8_pawn : ByteArray := prog_10_method_60_code
def yX8_pawn : MethodName := ⟨RX8, "pawn", "(III)I"⟩
abbrev cX8_otherwise : ByteArray := prog_10_method_61_code
def yX8_otherwise : MethodName := ⟨RX8, "otherwise", "(III)I"⟩
abbrev cX8_isSo : ByteArray := prog_10_method_62_code
def yX8_isSo : MethodName := ⟨RX8, "isSo", "(III)Z"⟩
abbrev cX8_rows : ByteArray := prog_10_method_63_code
def yX8_rows : MethodName := ⟨RX8, "rows", "(IIII)I"⟩
abbrev cX8_kinds : ByteArray := prog_10_method_64_code
def yX8_kinds : MethodName := ⟨RX8, "kinds", "(III)I"⟩
abbrev cX8_mores : ByteArray := prog_10_method_65_code
def yX8_mores : MethodName := ⟨RX8, "mores", "(III)I"⟩
abbrev cX8_rules : ByteArray := prog_10_method_66_code
def yX8_rules : MethodName := ⟨RX8, "rules", "(III)I"⟩
abbrev cX8_owns : ByteArray := prog_10_method_67_code
def yX8_owns : MethodName := ⟨RX8, "owns", "(IIIZ)I"⟩
abbrev cX8_film : ByteArray := prog_10_method_68_code
def yX8_film : MethodName := ⟨RX8, "film", "(IIII)I"⟩
abbrev cX8_draw : ByteArray := prog_10_method_69_code
def yX8_draw : MethodName := ⟨RX8, "draw", "(I)I"⟩
abbrev cX8_keep : ByteArray := prog_10_method_70_code
def yX8_keep : MethodName := ⟨RX8, "keep", "()V"⟩
abbrev cX8_drawn : ByteArray := prog_10_method_71_code
def yX8_drawn : MethodName := ⟨RX8, "drawn", "(I)I"⟩
abbrev cX8_chance : ByteArray := prog_10_method_72_code
def yX8_chance : MethodName := ⟨RX8, "chance", "(III)J"⟩
abbrev cX8_image : ByteArray := prog_10_method_73_code
def yX8_image : MethodName := ⟨RX8, "image", "()I"⟩
abbrev cX8_back : ByteArray := prog_10_method_74_code
def yX8_back : MethodName := ⟨RX8, "back", "()I"⟩
abbrev cX8_count : ByteArray := prog_10_method_75_code
def yX8_count : MethodName := ⟨RX8, "count", "(I)I"⟩
abbrev cX8_sheet : ByteArray := prog_10_method_76_code
def yX8_sheet : MethodName := ⟨RX8, "sheet", "(III)I"⟩
abbrev cX8_cell : ByteArray := prog_10_method_77_code
def yX8_cell : MethodName := ⟨RX8, "cell", "(III)I"⟩
abbrev cX8_copy : ByteArray := prog_10_method_78_code
def yX8_copy : MethodName := ⟨RX8, "copy", "(IIIII)I"⟩
abbrev cX8_heirs : ByteArray := prog_10_method_79_code
def yX8_heirs : MethodName := ⟨RX8, "heirs", "(IIII)I"⟩
abbrev cX8_taken : ByteArray := prog_10_method_80_code
def yX8_taken : MethodName := ⟨RX8, "taken", "(II)I"⟩
def RJ11 : String := "java/lang/Character"
def TJ11 : u_T := fun k => match k with
  | _ => ("", "", "", false)
def tyJ11 : Nat → FieldType := fun k => match k with
  | _ => .int
theorem tyJ11_ok : ∀ k, k < 0 → parseFieldDescriptor (TJ11 k).2.2.1 = some (tyJ11 k) := by decide +kernel
abbrev cJ11_isValidCodePoint_9a6ad : ByteArray := prog_11_method_11_code
def yJ11_isValidCodePoint_9a6ad : MethodName := ⟨RJ11, "isValidCodePoint", "(I)Z"⟩
abbrev cJ11_highSurrogate_5068e : ByteArray := prog_11_method_28_code
def yJ11_highSurrogate_5068e : MethodName := ⟨RJ11, "highSurrogate", "(I)C"⟩
abbrev cJ11_lowSurrogate_5068e : ByteArray := prog_11_method_29_code
def yJ11_lowSurrogate_5068e : MethodName := ⟨RJ11, "lowSurrogate", "(I)C"⟩
def RJ6 : String := "java/lang/Integer"
def TJ6 : u_T := fun k => match k with
  | _ => ("", "", "", false)
def tyJ6 : Nat → FieldType := fun k => match k with
  | _ => .int
theorem tyJ6_ok : ∀ k, k < 0 → parseFieldDescriptor (TJ6 k).2.2.1 = some (tyJ6 k) := by decide +kernel
abbrev cJ6_bitCount_0f7a4 : ByteArray := prog_12_method_49_code
def yJ6_bitCount_0f7a4 : MethodName := ⟨RJ6, "bitCount", "(I)I"⟩
def RJ9 : String := "java/lang/Math"
def TJ9 : u_T := fun k => match k with
  | _ => ("", "", "", false)
def tyJ9 : Nat → FieldType := fun k => match k with
  | _ => .int
theorem tyJ9_ok : ∀ k, k < 0 → parseFieldDescriptor (TJ9 k).2.2.1 = some (tyJ9 k) := by decide +kernel
abbrev cJ9_max_7cf53 : ByteArray := prog_13_method_65_code
def yJ9_max_7cf53 : MethodName := ⟨RJ9, "max", "(II)I"⟩
abbrev cJ9_min_7cf53 : ByteArray := prog_13_method_69_code
def yJ9_min_7cf53 : MethodName := ⟨RJ9, "min", "(II)I"⟩
def RJ0 : String := "java/lang/String"
def TJ0 : u_T := fun k => match k with
  | _ => ("", "", "", false)
def tyJ0 : Nat → FieldType := fun k => match k with
  | _ => .int
theorem tyJ0_ok : ∀ k, k < 0 → parseFieldDescriptor (TJ0 k).2.2.1 = some (tyJ0 k) := by decide +kernel
abbrev cJ0_length_8abf5 : ByteArray := prog_14_method_54_code
def yJ0_length_8abf5 : MethodName := ⟨RJ0, "length", "()I"⟩
abbrev cJ0_charAt_5068e : ByteArray := prog_14_method_56_code
def yJ0_charAt_5068e : MethodName := ⟨RJ0, "charAt", "(I)C"⟩
abbrev cJ0_indexOf_0f7a4 : ByteArray := prog_14_method_79_code
def yJ0_indexOf_0f7a4 : MethodName := ⟨RJ0, "indexOf", "(I)I"⟩
abbrev cJ0_indexOf_7cf53 : ByteArray := prog_14_method_80_code
def yJ0_indexOf_7cf53 : MethodName := ⟨RJ0, "indexOf", "(II)I"⟩
abbrev cJ0_coder_7d493 : ByteArray := prog_14_method_152_code
def yJ0_coder_7d493 : MethodName := ⟨RJ0, "coder", "()B"⟩
abbrev cJ0_isLatin1_aae02 : ByteArray := prog_14_method_154_code
def yJ0_isLatin1_aae02 : MethodName := ⟨RJ0, "isLatin1", "()Z"⟩
abbrev cJ0_checkIndex_df160 : ByteArray := prog_14_method_155_code
def yJ0_checkIndex_df160 : MethodName := ⟨RJ0, "checkIndex", "(II)V"⟩
abbrev cJ0_checkBoundsBeginEnd_23922 : ByteArray := prog_14_method_158_code
def yJ0_checkBoundsBeginEnd_23922 : MethodName := ⟨RJ0, "checkBoundsBeginEnd", "(III)V"⟩
def RJ1 : String := "java/lang/StringLatin1"
def TJ1 : u_T := fun k => match k with
  | _ => ("", "", "", false)
def tyJ1 : Nat → FieldType := fun k => match k with
  | _ => .int
theorem tyJ1_ok : ∀ k, k < 0 → parseFieldDescriptor (TJ1 k).2.2.1 = some (tyJ1 k) := by decide +kernel
abbrev cJ1_charAt_3b067 : ByteArray := prog_15_method_2_code
def yJ1_charAt_3b067 : MethodName := ⟨RJ1, "charAt", "([BI)C"⟩
abbrev cJ1_canEncode_9a6ad : ByteArray := prog_15_method_4_code
def yJ1_canEncode_9a6ad : MethodName := ⟨RJ1, "canEncode", "(I)Z"⟩
abbrev cJ1_indexOf_4cfef : ByteArray := prog_15_method_22_code
def yJ1_indexOf_4cfef : MethodName := ⟨RJ1, "indexOf", "([BIII)I"⟩
abbrev cJ1_indexOfChar_4cfef : ByteArray := prog_15_method_23_code
def yJ1_indexOfChar_4cfef : MethodName := ⟨RJ1, "indexOfChar", "([BIII)I"⟩
def RJ2 : String := "java/lang/StringUTF16"
def TJ2 : u_T := fun k => match k with
  | _ => ("", "", "", false)
def tyJ2 : Nat → FieldType := fun k => match k with
  | _ => .int
theorem tyJ2_ok : ∀ k, k < 0 → parseFieldDescriptor (TJ2 k).2.2.1 = some (tyJ2 k) := by decide +kernel
abbrev cJ2_getChar_3b067 : ByteArray := prog_16_method_5_code
def yJ2_getChar_3b067 : MethodName := ⟨RJ2, "getChar", "([BI)C"⟩
abbrev cJ2_length_9d52b : ByteArray := prog_16_method_6_code
def yJ2_length_9d52b : MethodName := ⟨RJ2, "length", "([B)I"⟩
abbrev cJ2_indexOf_4cfef : ByteArray := prog_16_method_40_code
def yJ2_indexOf_4cfef : MethodName := ⟨RJ2, "indexOf", "([BIII)I"⟩
abbrev cJ2_indexOfChar_4cfef : ByteArray := prog_16_method_47_code
def yJ2_indexOfChar_4cfef : MethodName := ⟨RJ2, "indexOfChar", "([BIII)I"⟩
abbrev cJ2_indexOfCharUnsafe_4cfef : ByteArray := prog_16_method_48_code
def yJ2_indexOfCharUnsafe_4cfef : MethodName := ⟨RJ2, "indexOfCharUnsafe", "([BIII)I"⟩
abbrev cJ2_indexOfSupplementary_4cfef : ByteArray := prog_16_method_49_code
def yJ2_indexOfSupplementary_4cfef : MethodName := ⟨RJ2, "indexOfSupplementary", "([BIII)I"⟩
abbrev cJ2_charAt_3b067 : ByteArray := prog_16_method_83_code
def yJ2_charAt_3b067 : MethodName := ⟨RJ2, "charAt", "([BI)C"⟩
abbrev cJ2_checkIndex_2214a : ByteArray := prog_16_method_91_code
def yJ2_checkIndex_2214a : MethodName := ⟨RJ2, "checkIndex", "(I[B)V"⟩
abbrev cJ2_checkBoundsBeginEnd_d044e : ByteArray := prog_16_method_93_code
def yJ2_checkBoundsBeginEnd_d044e : MethodName := ⟨RJ2, "checkBoundsBeginEnd", "(II[B)V"⟩
def RJ10 : String := "java/lang/System"
def TJ10 : u_T := fun k => match k with
  | _ => ("", "", "", false)
def tyJ10 : Nat → FieldType := fun k => match k with
  | _ => .int
theorem tyJ10_ok : ∀ k, k < 0 → parseFieldDescriptor (TJ10 k).2.2.1 = some (tyJ10 k) := by decide +kernel
def RJ3 : String := "jdk/internal/util/Preconditions"
def TJ3 : u_T := fun k => match k with
  | _ => ("", "", "", false)
def tyJ3 : Nat → FieldType := fun k => match k with
  | _ => .int
theorem tyJ3_ok : ∀ k, k < 0 → parseFieldDescriptor (TJ3 k).2.2.1 = some (tyJ3 k) := by decide +kernel
abbrev cJ3_checkIndex_8e157 : ByteArray := prog_18_method_11_code
def yJ3_checkIndex_8e157 : MethodName := ⟨RJ3, "checkIndex", "(IILjava/util/function/BiFunction;)I"⟩
abbrev cJ3_checkFromToIndex_8c36e : ByteArray := prog_18_method_12_code
def yJ3_checkFromToIndex_8c36e : MethodName := ⟨RJ3, "checkFromToIndex", "(IIILjava/util/function/BiFunction;)I"⟩
def RL : String := "NumbersInheritedLaw"
abbrev cL_law : ByteArray := code
def yL_law : MethodName := ⟨RL, "law", "([I)Z"⟩
abbrev vwCl : List vw_C := [(RX0, TX0, 4), (RX1, TX1, 5), (RX2, TX2, 8), (RX3, TX3, 6), (RX4, TX4, 8), (RX5, TX5, 3), (RX6, TX6, 5), (RX7, TX7, 9), (RX8, TX8, 39)]
end
section
theorem dX0_init_0 : decode cX0_init 0 = .ok (.aload_n 0, 1) := by decide +kernel
theorem dX0_init_1 : decode cX0_init 1 = .ok (.invokespecial 3, 3) := by decide +kernel
theorem dX0_init_4 : decode cX0_init 4 = .ok (.return_, 1) := by decide +kernel
theorem dX0_become_0 : decode cX0_become 0 = .ok (.aload_n 0, 1) := by decide +kernel
theorem dX0_become_1 : decode cX0_become 1 = .ok (.aload_n 1, 1) := by decide +kernel
theorem dX0_become_2 : decode cX0_become 2 = .ok (.getfield 9, 3) := by decide +kernel
theorem dX0_become_5 : decode cX0_become 5 = .ok (.putfield 9, 3) := by decide +kernel
theorem dX0_become_8 : decode cX0_become 8 = .ok (.aload_n 0, 1) := by decide +kernel
theorem dX0_become_9 : decode cX0_become 9 = .ok (.aload_n 1, 1) := by decide +kernel
theorem dX0_become_10 : decode cX0_become 10 = .ok (.getfield 15, 3) := by decide +kernel
theorem dX0_become_13 : decode cX0_become 13 = .ok (.putfield 15, 3) := by decide +kernel
theorem dX0_become_16 : decode cX0_become 16 = .ok (.aload_n 0, 1) := by decide +kernel
theorem dX0_become_17 : decode cX0_become 17 = .ok (.aload_n 1, 1) := by decide +kernel
theorem dX0_become_18 : decode cX0_become 18 = .ok (.getfield 18, 3) := by decide +kernel
theorem dX0_become_21 : decode cX0_become 21 = .ok (.putfield 18, 3) := by decide +kernel
theorem dX0_become_24 : decode cX0_become 24 = .ok (.aload_n 0, 1) := by decide +kernel
theorem dX0_become_25 : decode cX0_become 25 = .ok (.aload_n 1, 1) := by decide +kernel
theorem dX0_become_26 : decode cX0_become 26 = .ok (.getfield 21, 3) := by decide +kernel
theorem dX0_become_29 : decode cX0_become 29 = .ok (.putfield 21, 3) := by decide +kernel
theorem dX0_become_32 : decode cX0_become 32 = .ok (.return_, 1) := by decide +kernel
theorem dX0_sayable_0 : decode cX0_sayable 0 = .ok (.aload_n 0, 1) := by decide +kernel
theorem dX0_sayable_1 : decode cX0_sayable 1 = .ok (.getfield 15, 3) := by decide +kernel
theorem dX0_sayable_4 : decode cX0_sayable 4 = .ok (.tableswitch 119 1 5 #[36, 46, 56, 71, 103], 36) := by decide +kernel
theorem dX0_sayable_40 : decode cX0_sayable 40 = .ok (.aload_n 0, 1) := by decide +kernel
theorem dX0_sayable_41 : decode cX0_sayable 41 = .ok (.getfield 21, 3) := by decide +kernel
theorem dX0_sayable_44 : decode cX0_sayable 44 = .ok (.aload_n 0, 1) := by decide +kernel
theorem dX0_sayable_45 : decode cX0_sayable 45 = .ok (.invokevirtual 24, 3) := by decide +kernel
theorem dX0_sayable_48 : decode cX0_sayable 48 = .ok (.ior, 1) := by decide +kernel
theorem dX0_sayable_49 : decode cX0_sayable 49 = .ok (.ireturn, 1) := by decide +kernel
theorem dX0_sayable_50 : decode cX0_sayable 50 = .ok (.aload_n 0, 1) := by decide +kernel
theorem dX0_sayable_51 : decode cX0_sayable 51 = .ok (.getfield 21, 3) := by decide +kernel
theorem dX0_sayable_54 : decode cX0_sayable 54 = .ok (.aload_n 0, 1) := by decide +kernel
theorem dX0_sayable_55 : decode cX0_sayable 55 = .ok (.invokevirtual 28, 3) := by decide +kernel
theorem dX0_sayable_58 : decode cX0_sayable 58 = .ok (.ior, 1) := by decide +kernel
theorem dX0_sayable_59 : decode cX0_sayable 59 = .ok (.ireturn, 1) := by decide +kernel
theorem dX0_sayable_60 : decode cX0_sayable 60 = .ok (.aload_n 0, 1) := by decide +kernel
theorem dX0_sayable_61 : decode cX0_sayable 61 = .ok (.getfield 21, 3) := by decide +kernel
theorem dX0_sayable_64 : decode cX0_sayable 64 = .ok (.aload_n 0, 1) := by decide +kernel
theorem dX0_sayable_65 : decode cX0_sayable 65 = .ok (.invokevirtual 24, 3) := by decide +kernel
theorem dX0_sayable_68 : decode cX0_sayable 68 = .ok (.ior, 1) := by decide +kernel
theorem dX0_sayable_69 : decode cX0_sayable 69 = .ok (.aload_n 0, 1) := by decide +kernel
theorem dX0_sayable_70 : decode cX0_sayable 70 = .ok (.invokevirtual 31, 3) := by decide +kernel
theorem dX0_sayable_73 : decode cX0_sayable 73 = .ok (.ior, 1) := by decide +kernel
theorem dX0_sayable_74 : decode cX0_sayable 74 = .ok (.ireturn, 1) := by decide +kernel
theorem dX0_sayable_75 : decode cX0_sayable 75 = .ok (.aload_n 0, 1) := by decide +kernel
theorem dX0_sayable_76 : decode cX0_sayable 76 = .ok (.getfield 21, 3) := by decide +kernel
theorem dX0_sayable_79 : decode cX0_sayable 79 = .ok (.aload_n 0, 1) := by decide +kernel
theorem dX0_sayable_80 : decode cX0_sayable 80 = .ok (.invokevirtual 28, 3) := by decide +kernel
theorem dX0_sayable_83 : decode cX0_sayable 83 = .ok (.ior, 1) := by decide +kernel
theorem dX0_sayable_84 : decode cX0_sayable 84 = .ok (.aload_n 0, 1) := by decide +kernel
theorem dX0_sayable_85 : decode cX0_sayable 85 = .ok (.getfield 18, 3) := by decide +kernel
theorem dX0_sayable_88 : decode cX0_sayable 88 = .ok (.invokestatic 34, 3) := by decide +kernel
theorem dX0_sayable_91 : decode cX0_sayable 91 = .ok (.ifCond .eq 13, 3) := by decide +kernel
theorem dX0_sayable_94 : decode cX0_sayable 94 = .ok (.aload_n 0, 1) := by decide +kernel
theorem dX0_sayable_95 : decode cX0_sayable 95 = .ok (.getfield 18, 3) := by decide +kernel
theorem dX0_sayable_98 : decode cX0_sayable 98 = .ok (.invokestatic 38, 3) := by decide +kernel
theorem dX0_sayable_101 : decode cX0_sayable 101 = .ok (.goto 4, 3) := by decide +kernel
theorem dX0_sayable_104 : decode cX0_sayable 104 = .ok (.iconst 0, 1) := by decide +kernel
theorem dX0_sayable_105 : decode cX0_sayable 105 = .ok (.ior, 1) := by decide +kernel
theorem dX0_sayable_106 : decode cX0_sayable 106 = .ok (.ireturn, 1) := by decide +kernel
theorem dX0_sayable_107 : decode cX0_sayable 107 = .ok (.aload_n 0, 1) := by decide +kernel
theorem dX0_sayable_108 : decode cX0_sayable 108 = .ok (.getfield 21, 3) := by decide +kernel
theorem dX0_sayable_111 : decode cX0_sayable 111 = .ok (.bipush 20, 2) := by decide +kernel
theorem dX0_sayable_113 : decode cX0_sayable 113 = .ok (.aload_n 0, 1) := by decide +kernel
theorem dX0_sayable_114 : decode cX0_sayable 114 = .ok (.getfield 18, 3) := by decide +kernel
theorem dX0_sayable_117 : decode cX0_sayable 117 = .ok (.iadd, 1) := by decide +kernel
theorem dX0_sayable_118 : decode cX0_sayable 118 = .ok (.invokestatic 42, 3) := by decide +kernel
theorem dX0_sayable_121 : decode cX0_sayable 121 = .ok (.ior, 1) := by decide +kernel
theorem dX0_sayable_122 : decode cX0_sayable 122 = .ok (.ireturn, 1) := by decide +kernel
theorem dX0_sayable_123 : decode cX0_sayable 123 = .ok (.aload_n 0, 1) := by decide +kernel
theorem dX0_sayable_124 : decode cX0_sayable 124 = .ok (.getfield 21, 3) := by decide +kernel
theorem dX0_sayable_127 : decode cX0_sayable 127 = .ok (.ireturn, 1) := by decide +kernel
theorem dX0_costsFor_0 : decode cX0_costsFor 0 = .ok (.aload_n 0, 1) := by decide +kernel
theorem dX0_costsFor_1 : decode cX0_costsFor 1 = .ok (.getfield 15, 3) := by decide +kernel
theorem dX0_costsFor_4 : decode cX0_costsFor 4 = .ok (.tableswitch 57 1 5 #[36, 40, 47, 40, 53], 36) := by decide +kernel
theorem dX0_costsFor_40 : decode cX0_costsFor 40 = .ok (.iload_n 1, 1) := by decide +kernel
theorem dX0_costsFor_41 : decode cX0_costsFor 41 = .ok (.iconst 1, 1) := by decide +kernel
theorem dX0_costsFor_42 : decode cX0_costsFor 42 = .ok (.iadd, 1) := by decide +kernel
theorem dX0_costsFor_43 : decode cX0_costsFor 43 = .ok (.ireturn, 1) := by decide +kernel
theorem dX0_costsFor_44 : decode cX0_costsFor 44 = .ok (.iload_n 1, 1) := by decide +kernel
theorem dX0_costsFor_45 : decode cX0_costsFor 45 = .ok (.aload_n 0, 1) := by decide +kernel
theorem dX0_costsFor_46 : decode cX0_costsFor 46 = .ok (.getfield 18, 3) := by decide +kernel
theorem dX0_costsFor_49 : decode cX0_costsFor 49 = .ok (.iadd, 1) := by decide +kernel
theorem dX0_costsFor_50 : decode cX0_costsFor 50 = .ok (.ireturn, 1) := by decide +kernel
theorem dX0_costsFor_51 : decode cX0_costsFor 51 = .ok (.iload_n 1, 1) := by decide +kernel
theorem dX0_costsFor_52 : decode cX0_costsFor 52 = .ok (.iconst 1, 1) := by decide +kernel
theorem dX0_costsFor_53 : decode cX0_costsFor 53 = .ok (.iadd, 1) := by decide +kernel
theorem dX0_costsFor_54 : decode cX0_costsFor 54 = .ok (.iconst 2, 1) := by decide +kernel
theorem dX0_costsFor_55 : decode cX0_costsFor 55 = .ok (.idiv, 1) := by decide +kernel
theorem dX0_costsFor_56 : decode cX0_costsFor 56 = .ok (.ireturn, 1) := by decide +kernel
theorem dX0_costsFor_57 : decode cX0_costsFor 57 = .ok (.iconst 2, 1) := by decide +kernel
theorem dX0_costsFor_58 : decode cX0_costsFor 58 = .ok (.iload_n 1, 1) := by decide +kernel
theorem dX0_costsFor_59 : decode cX0_costsFor 59 = .ok (.imul, 1) := by decide +kernel
theorem dX0_costsFor_60 : decode cX0_costsFor 60 = .ok (.ireturn, 1) := by decide +kernel
theorem dX0_costsFor_61 : decode cX0_costsFor 61 = .ok (.iload_n 1, 1) := by decide +kernel
theorem dX0_costsFor_62 : decode cX0_costsFor 62 = .ok (.ireturn, 1) := by decide +kernel
theorem dX0_sums_0 : decode cX0_sums 0 = .ok (.iconst 0, 1) := by decide +kernel
theorem dX0_sums_1 : decode cX0_sums 1 = .ok (.istore_n 1, 1) := by decide +kernel
theorem dX0_sums_2 : decode cX0_sums 2 = .ok (.iconst 1, 1) := by decide +kernel
theorem dX0_sums_3 : decode cX0_sums 3 = .ok (.istore_n 2, 1) := by decide +kernel
theorem dX0_sums_4 : decode cX0_sums 4 = .ok (.iload_n 2, 1) := by decide +kernel
theorem dX0_sums_5 : decode cX0_sums 5 = .ok (.bipush 30, 2) := by decide +kernel
theorem dX0_sums_7 : decode cX0_sums 7 = .ok (.if_icmp .gt 33, 3) := by decide +kernel
theorem dX0_sums_10 : decode cX0_sums 10 = .ok (.iload_n 1, 1) := by decide +kernel
theorem dX0_sums_11 : decode cX0_sums 11 = .ok (.aload_n 0, 1) := by decide +kernel
theorem dX0_sums_12 : decode cX0_sums 12 = .ok (.getfield 21, 3) := by decide +kernel
theorem dX0_sums_15 : decode cX0_sums 15 = .ok (.iload_n 2, 1) := by decide +kernel
theorem dX0_sums_16 : decode cX0_sums 16 = .ok (.invokestatic 45, 3) := by decide +kernel
theorem dX0_sums_19 : decode cX0_sums 19 = .ok (.ifCond .eq 12, 3) := by decide +kernel
theorem dX0_sums_22 : decode cX0_sums 22 = .ok (.aload_n 0, 1) := by decide +kernel
theorem dX0_sums_23 : decode cX0_sums 23 = .ok (.getfield 21, 3) := by decide +kernel
theorem dX0_sums_26 : decode cX0_sums 26 = .ok (.iload_n 2, 1) := by decide +kernel
theorem dX0_sums_27 : decode cX0_sums 27 = .ok (.ishl, 1) := by decide +kernel
theorem dX0_sums_28 : decode cX0_sums 28 = .ok (.goto 4, 3) := by decide +kernel
theorem dX0_sums_31 : decode cX0_sums 31 = .ok (.iconst 0, 1) := by decide +kernel
theorem dX0_sums_32 : decode cX0_sums 32 = .ok (.ior, 1) := by decide +kernel
theorem dX0_sums_33 : decode cX0_sums 33 = .ok (.istore_n 1, 1) := by decide +kernel
theorem dX0_sums_34 : decode cX0_sums 34 = .ok (.iinc 2 1, 3) := by decide +kernel
theorem dX0_sums_37 : decode cX0_sums 37 = .ok (.goto (-33), 3) := by decide +kernel
theorem dX0_sums_40 : decode cX0_sums 40 = .ok (.iload_n 1, 1) := by decide +kernel
theorem dX0_sums_41 : decode cX0_sums 41 = .ok (.ldc 49, 2) := by decide +kernel
theorem dX0_sums_43 : decode cX0_sums 43 = .ok (.iand, 1) := by decide +kernel
theorem dX0_sums_44 : decode cX0_sums 44 = .ok (.ireturn, 1) := by decide +kernel
theorem dX0_rests_0 : decode cX0_rests 0 = .ok (.iconst 0, 1) := by decide +kernel
theorem dX0_rests_1 : decode cX0_rests 1 = .ok (.istore_n 1, 1) := by decide +kernel
theorem dX0_rests_2 : decode cX0_rests 2 = .ok (.iconst 1, 1) := by decide +kernel
theorem dX0_rests_3 : decode cX0_rests 3 = .ok (.istore_n 2, 1) := by decide +kernel
theorem dX0_rests_4 : decode cX0_rests 4 = .ok (.iload_n 2, 1) := by decide +kernel
theorem dX0_rests_5 : decode cX0_rests 5 = .ok (.bipush 30, 2) := by decide +kernel
theorem dX0_rests_7 : decode cX0_rests 7 = .ok (.if_icmp .gt 33, 3) := by decide +kernel
theorem dX0_rests_10 : decode cX0_rests 10 = .ok (.iload_n 1, 1) := by decide +kernel
theorem dX0_rests_11 : decode cX0_rests 11 = .ok (.aload_n 0, 1) := by decide +kernel
theorem dX0_rests_12 : decode cX0_rests 12 = .ok (.getfield 21, 3) := by decide +kernel
theorem dX0_rests_15 : decode cX0_rests 15 = .ok (.iload_n 2, 1) := by decide +kernel
theorem dX0_rests_16 : decode cX0_rests 16 = .ok (.invokestatic 45, 3) := by decide +kernel
theorem dX0_rests_19 : decode cX0_rests 19 = .ok (.ifCond .eq 12, 3) := by decide +kernel
theorem dX0_rests_22 : decode cX0_rests 22 = .ok (.aload_n 0, 1) := by decide +kernel
theorem dX0_rests_23 : decode cX0_rests 23 = .ok (.getfield 21, 3) := by decide +kernel
theorem dX0_rests_26 : decode cX0_rests 26 = .ok (.iload_n 2, 1) := by decide +kernel
theorem dX0_rests_27 : decode cX0_rests 27 = .ok (.ishr, 1) := by decide +kernel
theorem dX0_rests_28 : decode cX0_rests 28 = .ok (.goto 4, 3) := by decide +kernel
theorem dX0_rests_31 : decode cX0_rests 31 = .ok (.iconst 0, 1) := by decide +kernel
theorem dX0_rests_32 : decode cX0_rests 32 = .ok (.ior, 1) := by decide +kernel
theorem dX0_rests_33 : decode cX0_rests 33 = .ok (.istore_n 1, 1) := by decide +kernel
theorem dX0_rests_34 : decode cX0_rests 34 = .ok (.iinc 2 1, 3) := by decide +kernel
theorem dX0_rests_37 : decode cX0_rests 37 = .ok (.goto (-33), 3) := by decide +kernel
theorem dX0_rests_40 : decode cX0_rests 40 = .ok (.iload_n 1, 1) := by decide +kernel
theorem dX0_rests_41 : decode cX0_rests 41 = .ok (.ireturn, 1) := by decide +kernel
theorem dX0_halves_0 : decode cX0_halves 0 = .ok (.iconst 0, 1) := by decide +kernel
theorem dX0_halves_1 : decode cX0_halves 1 = .ok (.istore_n 1, 1) := by decide +kernel
theorem dX0_halves_2 : decode cX0_halves 2 = .ok (.iconst 1, 1) := by decide +kernel
theorem dX0_halves_3 : decode cX0_halves 3 = .ok (.istore_n 2, 1) := by decide +kernel
theorem dX0_halves_4 : decode cX0_halves 4 = .ok (.iconst 2, 1) := by decide +kernel
theorem dX0_halves_5 : decode cX0_halves 5 = .ok (.iload_n 2, 1) := by decide +kernel
theorem dX0_halves_6 : decode cX0_halves 6 = .ok (.imul, 1) := by decide +kernel
theorem dX0_halves_7 : decode cX0_halves 7 = .ok (.bipush 30, 2) := by decide +kernel
theorem dX0_halves_9 : decode cX0_halves 9 = .ok (.if_icmp .gt 33, 3) := by decide +kernel
theorem dX0_halves_12 : decode cX0_halves 12 = .ok (.iload_n 1, 1) := by decide +kernel
theorem dX0_halves_13 : decode cX0_halves 13 = .ok (.aload_n 0, 1) := by decide +kernel
theorem dX0_halves_14 : decode cX0_halves 14 = .ok (.getfield 21, 3) := by decide +kernel
theorem dX0_halves_17 : decode cX0_halves 17 = .ok (.iconst 2, 1) := by decide +kernel
theorem dX0_halves_18 : decode cX0_halves 18 = .ok (.iload_n 2, 1) := by decide +kernel
theorem dX0_halves_19 : decode cX0_halves 19 = .ok (.imul, 1) := by decide +kernel
theorem dX0_halves_20 : decode cX0_halves 20 = .ok (.invokestatic 45, 3) := by decide +kernel
theorem dX0_halves_23 : decode cX0_halves 23 = .ok (.ifCond .eq 10, 3) := by decide +kernel
theorem dX0_halves_26 : decode cX0_halves 26 = .ok (.iload_n 2, 1) := by decide +kernel
theorem dX0_halves_27 : decode cX0_halves 27 = .ok (.invokestatic 38, 3) := by decide +kernel
theorem dX0_halves_30 : decode cX0_halves 30 = .ok (.goto 4, 3) := by decide +kernel
theorem dX0_halves_33 : decode cX0_halves 33 = .ok (.iconst 0, 1) := by decide +kernel
theorem dX0_halves_34 : decode cX0_halves 34 = .ok (.ior, 1) := by decide +kernel
theorem dX0_halves_35 : decode cX0_halves 35 = .ok (.istore_n 1, 1) := by decide +kernel
theorem dX0_halves_36 : decode cX0_halves 36 = .ok (.iinc 2 1, 3) := by decide +kernel
theorem dX0_halves_39 : decode cX0_halves 39 = .ok (.goto (-35), 3) := by decide +kernel
theorem dX0_halves_42 : decode cX0_halves 42 = .ok (.iload_n 1, 1) := by decide +kernel
theorem dX0_halves_43 : decode cX0_halves 43 = .ok (.ireturn, 1) := by decide +kernel
theorem dX0_above_0 : decode cX0_above 0 = .ok (.iconst 0, 1) := by decide +kernel
theorem dX0_above_1 : decode cX0_above 1 = .ok (.istore_n 1, 1) := by decide +kernel
theorem dX0_above_2 : decode cX0_above 2 = .ok (.iload_n 0, 1) := by decide +kernel
theorem dX0_above_3 : decode cX0_above 3 = .ok (.iconst 1, 1) := by decide +kernel
theorem dX0_above_4 : decode cX0_above 4 = .ok (.iadd, 1) := by decide +kernel
theorem dX0_above_5 : decode cX0_above 5 = .ok (.istore_n 2, 1) := by decide +kernel
theorem dX0_above_6 : decode cX0_above 6 = .ok (.iload_n 2, 1) := by decide +kernel
theorem dX0_above_7 : decode cX0_above 7 = .ok (.bipush 30, 2) := by decide +kernel
theorem dX0_above_9 : decode cX0_above 9 = .ok (.if_icmp .gt 16, 3) := by decide +kernel
theorem dX0_above_12 : decode cX0_above 12 = .ok (.iload_n 1, 1) := by decide +kernel
theorem dX0_above_13 : decode cX0_above 13 = .ok (.iload_n 2, 1) := by decide +kernel
theorem dX0_above_14 : decode cX0_above 14 = .ok (.invokestatic 38, 3) := by decide +kernel
theorem dX0_above_17 : decode cX0_above 17 = .ok (.ior, 1) := by decide +kernel
theorem dX0_above_18 : decode cX0_above 18 = .ok (.istore_n 1, 1) := by decide +kernel
theorem dX0_above_19 : decode cX0_above 19 = .ok (.iinc 2 1, 3) := by decide +kernel
theorem dX0_above_22 : decode cX0_above 22 = .ok (.goto (-16), 3) := by decide +kernel
theorem dX0_above_25 : decode cX0_above 25 = .ok (.iload_n 1, 1) := by decide +kernel
theorem dX0_above_26 : decode cX0_above 26 = .ok (.ireturn, 1) := by decide +kernel
theorem dX0_drawOwn_0 : decode cX0_drawOwn 0 = .ok (.iload_n 1, 1) := by decide +kernel
theorem dX0_drawOwn_1 : decode cX0_drawOwn 1 = .ok (.ldc 50, 2) := by decide +kernel
theorem dX0_drawOwn_3 : decode cX0_drawOwn 3 = .ok (.imul, 1) := by decide +kernel
theorem dX0_drawOwn_4 : decode cX0_drawOwn 4 = .ok (.sipush 12345, 3) := by decide +kernel
theorem dX0_drawOwn_7 : decode cX0_drawOwn 7 = .ok (.iadd, 1) := by decide +kernel
theorem dX0_drawOwn_8 : decode cX0_drawOwn 8 = .ok (.istore_n 2, 1) := by decide +kernel
theorem dX0_drawOwn_9 : decode cX0_drawOwn 9 = .ok (.iload_n 2, 1) := by decide +kernel
theorem dX0_drawOwn_10 : decode cX0_drawOwn 10 = .ok (.ldc 50, 2) := by decide +kernel
theorem dX0_drawOwn_12 : decode cX0_drawOwn 12 = .ok (.imul, 1) := by decide +kernel
theorem dX0_drawOwn_13 : decode cX0_drawOwn 13 = .ok (.sipush 12345, 3) := by decide +kernel
theorem dX0_drawOwn_16 : decode cX0_drawOwn 16 = .ok (.iadd, 1) := by decide +kernel
theorem dX0_drawOwn_17 : decode cX0_drawOwn 17 = .ok (.istore_n 3, 1) := by decide +kernel
theorem dX0_drawOwn_18 : decode cX0_drawOwn 18 = .ok (.aload_n 0, 1) := by decide +kernel
theorem dX0_drawOwn_19 : decode cX0_drawOwn 19 = .ok (.iload_n 3, 1) := by decide +kernel
theorem dX0_drawOwn_20 : decode cX0_drawOwn 20 = .ok (.bipush 9, 2) := by decide +kernel
theorem dX0_drawOwn_22 : decode cX0_drawOwn 22 = .ok (.iushr, 1) := by decide +kernel
theorem dX0_drawOwn_23 : decode cX0_drawOwn 23 = .ok (.sipush 1024, 3) := by decide +kernel
theorem dX0_drawOwn_26 : decode cX0_drawOwn 26 = .ok (.irem, 1) := by decide +kernel
theorem dX0_drawOwn_27 : decode cX0_drawOwn 27 = .ok (.sipush 1024, 3) := by decide +kernel
theorem dX0_drawOwn_30 : decode cX0_drawOwn 30 = .ok (.imul, 1) := by decide +kernel
theorem dX0_drawOwn_31 : decode cX0_drawOwn 31 = .ok (.iload_n 2, 1) := by decide +kernel
theorem dX0_drawOwn_32 : decode cX0_drawOwn 32 = .ok (.bipush 9, 2) := by decide +kernel
theorem dX0_drawOwn_34 : decode cX0_drawOwn 34 = .ok (.iushr, 1) := by decide +kernel
theorem dX0_drawOwn_35 : decode cX0_drawOwn 35 = .ok (.sipush 1024, 3) := by decide +kernel
theorem dX0_drawOwn_38 : decode cX0_drawOwn 38 = .ok (.irem, 1) := by decide +kernel
theorem dX0_drawOwn_39 : decode cX0_drawOwn 39 = .ok (.iadd, 1) := by decide +kernel
theorem dX0_drawOwn_40 : decode cX0_drawOwn 40 = .ok (.putfield 21, 3) := by decide +kernel
theorem dX0_drawOwn_43 : decode cX0_drawOwn 43 = .ok (.iload_n 3, 1) := by decide +kernel
theorem dX0_drawOwn_44 : decode cX0_drawOwn 44 = .ok (.ireturn, 1) := by decide +kernel
theorem dX1_init_0 : decode cX1_init 0 = .ok (.aload_n 0, 1) := by decide +kernel
theorem dX1_init_1 : decode cX1_init 1 = .ok (.invokespecial 3, 3) := by decide +kernel
theorem dX1_init_4 : decode cX1_init 4 = .ok (.aload_n 0, 1) := by decide +kernel
theorem dX1_init_5 : decode cX1_init 5 = .ok (.iconst (-1), 1) := by decide +kernel
theorem dX1_init_6 : decode cX1_init 6 = .ok (.putfield 9, 3) := by decide +kernel
theorem dX1_init_9 : decode cX1_init 9 = .ok (.aload_n 0, 1) := by decide +kernel
theorem dX1_init_10 : decode cX1_init 10 = .ok (.bipush 6, 2) := by decide +kernel
theorem dX1_init_12 : decode cX1_init 12 = .ok (.newarray .int, 2) := by decide +kernel
theorem dX1_init_14 : decode cX1_init 14 = .ok (.putfield 15, 3) := by decide +kernel
theorem dX1_init_17 : decode cX1_init 17 = .ok (.aload_n 0, 1) := by decide +kernel
theorem dX1_init_18 : decode cX1_init 18 = .ok (.bipush 6, 2) := by decide +kernel
theorem dX1_init_20 : decode cX1_init 20 = .ok (.newarray .int, 2) := by decide +kernel
theorem dX1_init_22 : decode cX1_init 22 = .ok (.putfield 19, 3) := by decide +kernel
theorem dX1_init_25 : decode cX1_init 25 = .ok (.return_, 1) := by decide +kernel
theorem dX2_init_0 : decode cX2_init 0 = .ok (.aload_n 0, 1) := by decide +kernel
theorem dX2_init_1 : decode cX2_init 1 = .ok (.invokespecial 3, 3) := by decide +kernel
theorem dX2_init_4 : decode cX2_init 4 = .ok (.aload_n 0, 1) := by decide +kernel
theorem dX2_init_5 : decode cX2_init 5 = .ok (.new 9, 3) := by decide +kernel
theorem dX2_init_8 : decode cX2_init 8 = .ok (.dup, 1) := by decide +kernel
theorem dX2_init_9 : decode cX2_init 9 = .ok (.invokespecial 11, 3) := by decide +kernel
theorem dX2_init_12 : decode cX2_init 12 = .ok (.putfield 12, 3) := by decide +kernel
theorem dX2_init_15 : decode cX2_init 15 = .ok (.aload_n 0, 1) := by decide +kernel
theorem dX2_init_16 : decode cX2_init 16 = .ok (.bipush 6, 2) := by decide +kernel
theorem dX2_init_18 : decode cX2_init 18 = .ok (.sipush 160, 3) := by decide +kernel
theorem dX2_init_21 : decode cX2_init 21 = .ok (.multianewarray 18 2, 4) := by decide +kernel
theorem dX2_init_25 : decode cX2_init 25 = .ok (.putfield 20, 3) := by decide +kernel
theorem dX2_init_28 : decode cX2_init 28 = .ok (.aload_n 0, 1) := by decide +kernel
theorem dX2_init_29 : decode cX2_init 29 = .ok (.bipush 6, 2) := by decide +kernel
theorem dX2_init_31 : decode cX2_init 31 = .ok (.iconst 3, 1) := by decide +kernel
theorem dX2_init_32 : decode cX2_init 32 = .ok (.multianewarray 18 2, 4) := by decide +kernel
theorem dX2_init_36 : decode cX2_init 36 = .ok (.putfield 23, 3) := by decide +kernel
theorem dX2_init_39 : decode cX2_init 39 = .ok (.aload_n 0, 1) := by decide +kernel
theorem dX2_init_40 : decode cX2_init 40 = .ok (.bipush 6, 2) := by decide +kernel
theorem dX2_init_42 : decode cX2_init 42 = .ok (.newarray .int, 2) := by decide +kernel
theorem dX2_init_44 : decode cX2_init 44 = .ok (.putfield 26, 3) := by decide +kernel
theorem dX2_init_47 : decode cX2_init 47 = .ok (.aload_n 0, 1) := by decide +kernel
theorem dX2_init_48 : decode cX2_init 48 = .ok (.bipush 64, 2) := by decide +kernel
theorem dX2_init_50 : decode cX2_init 50 = .ok (.newarray .int, 2) := by decide +kernel
theorem dX2_init_52 : decode cX2_init 52 = .ok (.putfield 30, 3) := by decide +kernel
theorem dX2_init_55 : decode cX2_init 55 = .ok (.iconst 0, 1) := by decide +kernel
theorem dX2_init_56 : decode cX2_init 56 = .ok (.istore_n 1, 1) := by decide +kernel
theorem dX2_init_57 : decode cX2_init 57 = .ok (.iload_n 1, 1) := by decide +kernel
theorem dX2_init_58 : decode cX2_init 58 = .ok (.ldc 33, 2) := by decide +kernel
theorem dX2_init_60 : decode cX2_init 60 = .ok (.invokevirtual 35, 3) := by decide +kernel
theorem dX2_init_63 : decode cX2_init 63 = .ok (.if_icmp .ge 23, 3) := by decide +kernel
theorem dX2_init_66 : decode cX2_init 66 = .ok (.aload_n 0, 1) := by decide +kernel
theorem dX2_init_67 : decode cX2_init 67 = .ok (.getfield 12, 3) := by decide +kernel
theorem dX2_init_70 : decode cX2_init 70 = .ok (.ldc 33, 2) := by decide +kernel
theorem dX2_init_72 : decode cX2_init 72 = .ok (.iload_n 1, 1) := by decide +kernel
theorem dX2_init_73 : decode cX2_init 73 = .ok (.invokevirtual 41, 3) := by decide +kernel
theorem dX2_init_76 : decode cX2_init 76 = .ok (.invokevirtual 45, 3) := by decide +kernel
theorem dX2_init_79 : decode cX2_init 79 = .ok (.pop, 1) := by decide +kernel
theorem dX2_init_80 : decode cX2_init 80 = .ok (.iinc 1 1, 3) := by decide +kernel
theorem dX2_init_83 : decode cX2_init 83 = .ok (.goto (-26), 3) := by decide +kernel
theorem dX2_init_86 : decode cX2_init 86 = .ok (.aload_n 0, 1) := by decide +kernel
theorem dX2_init_87 : decode cX2_init 87 = .ok (.invokevirtual 49, 3) := by decide +kernel
theorem dX2_init_90 : decode cX2_init 90 = .ok (.pop, 1) := by decide +kernel
theorem dX2_init_91 : decode cX2_init 91 = .ok (.return_, 1) := by decide +kernel
theorem dX2_readText_0 : decode cX2_readText 0 = .ok (.aload_n 0, 1) := by decide +kernel
theorem dX2_readText_1 : decode cX2_readText 1 = .ok (.getfield 52, 3) := by decide +kernel
theorem dX2_readText_4 : decode cX2_readText 4 = .ok (.ifCond .lt 12, 3) := by decide +kernel
theorem dX2_readText_7 : decode cX2_readText 7 = .ok (.aload_n 0, 1) := by decide +kernel
theorem dX2_readText_8 : decode cX2_readText 8 = .ok (.getfield 52, 3) := by decide +kernel
theorem dX2_readText_11 : decode cX2_readText 11 = .ok (.bipush 6, 2) := by decide +kernel
theorem dX2_readText_13 : decode cX2_readText 13 = .ok (.if_icmp .lt 5, 3) := by decide +kernel
theorem dX2_readText_16 : decode cX2_readText 16 = .ok (.iconst 0, 1) := by decide +kernel
theorem dX2_readText_17 : decode cX2_readText 17 = .ok (.ireturn, 1) := by decide +kernel
theorem dX2_readText_18 : decode cX2_readText 18 = .ok (.aload_n 0, 1) := by decide +kernel
theorem dX2_readText_19 : decode cX2_readText 19 = .ok (.getfield 12, 3) := by decide +kernel
theorem dX2_readText_22 : decode cX2_readText 22 = .ok (.aload_n 0, 1) := by decide +kernel
theorem dX2_readText_23 : decode cX2_readText 23 = .ok (.getfield 20, 3) := by decide +kernel
theorem dX2_readText_26 : decode cX2_readText 26 = .ok (.aload_n 0, 1) := by decide +kernel
theorem dX2_readText_27 : decode cX2_readText 27 = .ok (.getfield 52, 3) := by decide +kernel
theorem dX2_readText_30 : decode cX2_readText 30 = .ok (.aaload, 1) := by decide +kernel
theorem dX2_readText_31 : decode cX2_readText 31 = .ok (.aload_n 0, 1) := by decide +kernel
theorem dX2_readText_32 : decode cX2_readText 32 = .ok (.getfield 23, 3) := by decide +kernel
theorem dX2_readText_35 : decode cX2_readText 35 = .ok (.aload_n 0, 1) := by decide +kernel
theorem dX2_readText_36 : decode cX2_readText 36 = .ok (.getfield 52, 3) := by decide +kernel
theorem dX2_readText_39 : decode cX2_readText 39 = .ok (.aaload, 1) := by decide +kernel
theorem dX2_readText_40 : decode cX2_readText 40 = .ok (.invokevirtual 56, 3) := by decide +kernel
theorem dX2_readText_43 : decode cX2_readText 43 = .ok (.istore_n 1, 1) := by decide +kernel
theorem dX2_readText_44 : decode cX2_readText 44 = .ok (.iload_n 1, 1) := by decide +kernel
theorem dX2_readText_45 : decode cX2_readText 45 = .ok (.iconst (-1), 1) := by decide +kernel
theorem dX2_readText_46 : decode cX2_readText 46 = .ok (.if_icmp .ne 13, 3) := by decide +kernel
theorem dX2_readText_49 : decode cX2_readText 49 = .ok (.aload_n 0, 1) := by decide +kernel
theorem dX2_readText_50 : decode cX2_readText 50 = .ok (.dup, 1) := by decide +kernel
theorem dX2_readText_51 : decode cX2_readText 51 = .ok (.getfield 52, 3) := by decide +kernel
theorem dX2_readText_54 : decode cX2_readText 54 = .ok (.iconst 1, 1) := by decide +kernel
theorem dX2_readText_55 : decode cX2_readText 55 = .ok (.iadd, 1) := by decide +kernel
theorem dX2_readText_56 : decode cX2_readText 56 = .ok (.putfield 52, 3) := by decide +kernel
theorem dX2_readText_59 : decode cX2_readText 59 = .ok (.iload_n 1, 1) := by decide +kernel
theorem dX2_readText_60 : decode cX2_readText 60 = .ok (.ireturn, 1) := by decide +kernel
theorem dX2_costs_0 : decode cX2_costs 0 = .ok (.aload_n 0, 1) := by decide +kernel
theorem dX2_costs_1 : decode cX2_costs 1 = .ok (.aload_n 1, 1) := by decide +kernel
theorem dX2_costs_2 : decode cX2_costs 2 = .ok (.iload_n 2, 1) := by decide +kernel
theorem dX2_costs_3 : decode cX2_costs 3 = .ok (.aload_n 1, 1) := by decide +kernel
theorem dX2_costs_4 : decode cX2_costs 4 = .ok (.getfield 60, 3) := by decide +kernel
theorem dX2_costs_7 : decode cX2_costs 7 = .ok (.iload_n 2, 1) := by decide +kernel
theorem dX2_costs_8 : decode cX2_costs 8 = .ok (.invokestatic 65, 3) := by decide +kernel
theorem dX2_costs_11 : decode cX2_costs 11 = .ok (.invokestatic 69, 3) := by decide +kernel
theorem dX2_costs_14 : decode cX2_costs 14 = .ok (.invokevirtual 73, 3) := by decide +kernel
theorem dX2_costs_17 : decode cX2_costs 17 = .ok (.iconst 1, 1) := by decide +kernel
theorem dX2_costs_18 : decode cX2_costs 18 = .ok (.aload_n 1, 1) := by decide +kernel
theorem dX2_costs_19 : decode cX2_costs 19 = .ok (.aload_n 0, 1) := by decide +kernel
theorem dX2_costs_20 : decode cX2_costs 20 = .ok (.iconst 0, 1) := by decide +kernel
theorem dX2_costs_21 : decode cX2_costs 21 = .ok (.invokevirtual 77, 3) := by decide +kernel
theorem dX2_costs_24 : decode cX2_costs 24 = .ok (.invokestatic 81, 3) := by decide +kernel
theorem dX2_costs_27 : decode cX2_costs 27 = .ok (.invokevirtual 84, 3) := by decide +kernel
theorem dX2_costs_30 : decode cX2_costs 30 = .ok (.invokestatic 87, 3) := by decide +kernel
theorem dX2_costs_33 : decode cX2_costs 33 = .ok (.ireturn, 1) := by decide +kernel
theorem dX2_isMeant_0 : decode cX2_isMeant 0 = .ok (.aload_n 0, 1) := by decide +kernel
theorem dX2_isMeant_1 : decode cX2_isMeant 1 = .ok (.aload_n 1, 1) := by decide +kernel
theorem dX2_isMeant_2 : decode cX2_isMeant 2 = .ok (.iload_n 2, 1) := by decide +kernel
theorem dX2_isMeant_3 : decode cX2_isMeant 3 = .ok (.iconst 0, 1) := by decide +kernel
theorem dX2_isMeant_4 : decode cX2_isMeant 4 = .ok (.invokevirtual 73, 3) := by decide +kernel
theorem dX2_isMeant_7 : decode cX2_isMeant 7 = .ok (.aload_n 0, 1) := by decide +kernel
theorem dX2_isMeant_8 : decode cX2_isMeant 8 = .ok (.iconst 1, 1) := by decide +kernel
theorem dX2_isMeant_9 : decode cX2_isMeant 9 = .ok (.invokevirtual 77, 3) := by decide +kernel
theorem dX2_isMeant_12 : decode cX2_isMeant 12 = .ok (.ifCond .eq 7, 3) := by decide +kernel
theorem dX2_isMeant_15 : decode cX2_isMeant 15 = .ok (.iconst 1, 1) := by decide +kernel
theorem dX2_isMeant_16 : decode cX2_isMeant 16 = .ok (.goto 4, 3) := by decide +kernel
theorem dX2_isMeant_19 : decode cX2_isMeant 19 = .ok (.iconst 0, 1) := by decide +kernel
theorem dX2_isMeant_20 : decode cX2_isMeant 20 = .ok (.ireturn, 1) := by decide +kernel
theorem dX2_worthOf_0 : decode cX2_worthOf 0 = .ok (.aload_n 0, 1) := by decide +kernel
theorem dX2_worthOf_1 : decode cX2_worthOf 1 = .ok (.aload_n 1, 1) := by decide +kernel
theorem dX2_worthOf_2 : decode cX2_worthOf 2 = .ok (.iload_n 2, 1) := by decide +kernel
theorem dX2_worthOf_3 : decode cX2_worthOf 3 = .ok (.iconst 0, 1) := by decide +kernel
theorem dX2_worthOf_4 : decode cX2_worthOf 4 = .ok (.invokevirtual 73, 3) := by decide +kernel
theorem dX2_worthOf_7 : decode cX2_worthOf 7 = .ok (.aload_n 0, 1) := by decide +kernel
theorem dX2_worthOf_8 : decode cX2_worthOf 8 = .ok (.iconst 2, 1) := by decide +kernel
theorem dX2_worthOf_9 : decode cX2_worthOf 9 = .ok (.invokevirtual 77, 3) := by decide +kernel
theorem dX2_worthOf_12 : decode cX2_worthOf 12 = .ok (.invokestatic 81, 3) := by decide +kernel
theorem dX2_worthOf_15 : decode cX2_worthOf 15 = .ok (.ireturn, 1) := by decide +kernel
theorem dX2_name_0 : decode cX2_name 0 = .ok (.aload_n 0, 1) := by decide +kernel
theorem dX2_name_1 : decode cX2_name 1 = .ok (.getfield 26, 3) := by decide +kernel
theorem dX2_name_4 : decode cX2_name 4 = .ok (.iconst 0, 1) := by decide +kernel
theorem dX2_name_5 : decode cX2_name 5 = .ok (.iload_n 2, 1) := by decide +kernel
theorem dX2_name_6 : decode cX2_name 6 = .ok (.iastore, 1) := by decide +kernel
theorem dX2_name_7 : decode cX2_name 7 = .ok (.aload_n 0, 1) := by decide +kernel
theorem dX2_name_8 : decode cX2_name 8 = .ok (.getfield 26, 3) := by decide +kernel
theorem dX2_name_11 : decode cX2_name 11 = .ok (.iconst 1, 1) := by decide +kernel
theorem dX2_name_12 : decode cX2_name 12 = .ok (.iload_n 3, 1) := by decide +kernel
theorem dX2_name_13 : decode cX2_name 13 = .ok (.iastore, 1) := by decide +kernel
theorem dX2_name_14 : decode cX2_name 14 = .ok (.aload_n 0, 1) := by decide +kernel
theorem dX2_name_15 : decode cX2_name 15 = .ok (.getfield 26, 3) := by decide +kernel
theorem dX2_name_18 : decode cX2_name 18 = .ok (.iconst 2, 1) := by decide +kernel
theorem dX2_name_19 : decode cX2_name 19 = .ok (.aload_n 1, 1) := by decide +kernel
theorem dX2_name_20 : decode cX2_name 20 = .ok (.getfield 93, 3) := by decide +kernel
theorem dX2_name_23 : decode cX2_name 23 = .ok (.iastore, 1) := by decide +kernel
theorem dX2_name_24 : decode cX2_name 24 = .ok (.aload_n 0, 1) := by decide +kernel
theorem dX2_name_25 : decode cX2_name 25 = .ok (.getfield 26, 3) := by decide +kernel
theorem dX2_name_28 : decode cX2_name 28 = .ok (.iconst 3, 1) := by decide +kernel
theorem dX2_name_29 : decode cX2_name 29 = .ok (.aload_n 1, 1) := by decide +kernel
theorem dX2_name_30 : decode cX2_name 30 = .ok (.getfield 60, 3) := by decide +kernel
theorem dX2_name_33 : decode cX2_name 33 = .ok (.invokestatic 96, 3) := by decide +kernel
theorem dX2_name_36 : decode cX2_name 36 = .ok (.iastore, 1) := by decide +kernel
theorem dX2_name_37 : decode cX2_name 37 = .ok (.aload_n 0, 1) := by decide +kernel
theorem dX2_name_38 : decode cX2_name 38 = .ok (.getfield 26, 3) := by decide +kernel
theorem dX2_name_41 : decode cX2_name 41 = .ok (.iconst 4, 1) := by decide +kernel
theorem dX2_name_42 : decode cX2_name 42 = .ok (.aload_n 1, 1) := by decide +kernel
theorem dX2_name_43 : decode cX2_name 43 = .ok (.getfield 101, 3) := by decide +kernel
theorem dX2_name_46 : decode cX2_name 46 = .ok (.iastore, 1) := by decide +kernel
theorem dX2_name_47 : decode cX2_name 47 = .ok (.aload_n 0, 1) := by decide +kernel
theorem dX2_name_48 : decode cX2_name 48 = .ok (.getfield 26, 3) := by decide +kernel
theorem dX2_name_51 : decode cX2_name 51 = .ok (.iconst 5, 1) := by decide +kernel
theorem dX2_name_52 : decode cX2_name 52 = .ok (.aload_n 0, 1) := by decide +kernel
theorem dX2_name_53 : decode cX2_name 53 = .ok (.getfield 104, 3) := by decide +kernel
theorem dX2_name_56 : decode cX2_name 56 = .ok (.iastore, 1) := by decide +kernel
theorem dX2_name_57 : decode cX2_name 57 = .ok (.return_, 1) := by decide +kernel
theorem dX2_bounded_0 : decode cX2_bounded 0 = .ok (.iconst 0, 1) := by decide +kernel
theorem dX2_bounded_1 : decode cX2_bounded 1 = .ok (.bipush 99, 2) := by decide +kernel
theorem dX2_bounded_3 : decode cX2_bounded 3 = .ok (.iload_n 0, 1) := by decide +kernel
theorem dX2_bounded_4 : decode cX2_bounded 4 = .ok (.invokestatic 107, 3) := by decide +kernel
theorem dX2_bounded_7 : decode cX2_bounded 7 = .ok (.invokestatic 87, 3) := by decide +kernel
theorem dX2_bounded_10 : decode cX2_bounded 10 = .ok (.ireturn, 1) := by decide +kernel
theorem dX2_value_0 : decode cX2_value 0 = .ok (.aload_n 0, 1) := by decide +kernel
theorem dX2_value_1 : decode cX2_value 1 = .ok (.getfield 110, 3) := by decide +kernel
theorem dX2_value_4 : decode cX2_value 4 = .ok (.ifCond .lt 12, 3) := by decide +kernel
theorem dX2_value_7 : decode cX2_value 7 = .ok (.aload_n 0, 1) := by decide +kernel
theorem dX2_value_8 : decode cX2_value 8 = .ok (.getfield 110, 3) := by decide +kernel
theorem dX2_value_11 : decode cX2_value 11 = .ok (.bipush 6, 2) := by decide +kernel
theorem dX2_value_13 : decode cX2_value 13 = .ok (.if_icmp .lt 5, 3) := by decide +kernel
theorem dX2_value_16 : decode cX2_value 16 = .ok (.iconst 0, 1) := by decide +kernel
theorem dX2_value_17 : decode cX2_value 17 = .ok (.ireturn, 1) := by decide +kernel
theorem dX2_value_18 : decode cX2_value 18 = .ok (.aload_n 0, 1) := by decide +kernel
theorem dX2_value_19 : decode cX2_value 19 = .ok (.getfield 20, 3) := by decide +kernel
theorem dX2_value_22 : decode cX2_value 22 = .ok (.aload_n 0, 1) := by decide +kernel
theorem dX2_value_23 : decode cX2_value 23 = .ok (.getfield 110, 3) := by decide +kernel
theorem dX2_value_26 : decode cX2_value 26 = .ok (.aaload, 1) := by decide +kernel
theorem dX2_value_27 : decode cX2_value 27 = .ok (.astore_n 2, 1) := by decide +kernel
theorem dX2_value_28 : decode cX2_value 28 = .ok (.iconst 0, 1) := by decide +kernel
theorem dX2_value_29 : decode cX2_value 29 = .ok (.istore_n 3, 1) := by decide +kernel
theorem dX2_value_30 : decode cX2_value 30 = .ok (.aload_n 0, 1) := by decide +kernel
theorem dX2_value_31 : decode cX2_value 31 = .ok (.getfield 23, 3) := by decide +kernel
theorem dX2_value_34 : decode cX2_value 34 = .ok (.aload_n 0, 1) := by decide +kernel
theorem dX2_value_35 : decode cX2_value 35 = .ok (.getfield 110, 3) := by decide +kernel
theorem dX2_value_38 : decode cX2_value 38 = .ok (.aaload, 1) := by decide +kernel
theorem dX2_value_39 : decode cX2_value 39 = .ok (.iload_n 1, 1) := by decide +kernel
theorem dX2_value_40 : decode cX2_value 40 = .ok (.iaload, 1) := by decide +kernel
theorem dX2_value_41 : decode cX2_value 41 = .ok (.istore 4, 2) := by decide +kernel
theorem dX2_value_43 : decode cX2_value 43 = .ok (.iload 4, 2) := by decide +kernel
theorem dX2_value_45 : decode cX2_value 45 = .ok (.aload_n 2, 1) := by decide +kernel
theorem dX2_value_46 : decode cX2_value 46 = .ok (.arraylength, 1) := by decide +kernel
theorem dX2_value_47 : decode cX2_value 47 = .ok (.if_icmp .ge 156, 3) := by decide +kernel
theorem dX2_value_50 : decode cX2_value 50 = .ok (.aload_n 2, 1) := by decide +kernel
theorem dX2_value_51 : decode cX2_value 51 = .ok (.iload 4, 2) := by decide +kernel
theorem dX2_value_53 : decode cX2_value 53 = .ok (.iaload, 1) := by decide +kernel
theorem dX2_value_54 : decode cX2_value 54 = .ok (.bipush (-30), 2) := by decide +kernel
theorem dX2_value_56 : decode cX2_value 56 = .ok (.if_icmp .eq 147, 3) := by decide +kernel
theorem dX2_value_59 : decode cX2_value 59 = .ok (.aload_n 2, 1) := by decide +kernel
theorem dX2_value_60 : decode cX2_value 60 = .ok (.iload 4, 2) := by decide +kernel
theorem dX2_value_62 : decode cX2_value 62 = .ok (.iaload, 1) := by decide +kernel
theorem dX2_value_63 : decode cX2_value 63 = .ok (.istore 5, 2) := by decide +kernel
theorem dX2_value_65 : decode cX2_value 65 = .ok (.iload 5, 2) := by decide +kernel
theorem dX2_value_67 : decode cX2_value 67 = .ok (.bipush (-10), 2) := by decide +kernel
theorem dX2_value_69 : decode cX2_value 69 = .ok (.if_icmp .le 27, 3) := by decide +kernel
theorem dX2_value_72 : decode cX2_value 72 = .ok (.iload_n 3, 1) := by decide +kernel
theorem dX2_value_73 : decode cX2_value 73 = .ok (.bipush 64, 2) := by decide +kernel
theorem dX2_value_75 : decode cX2_value 75 = .ok (.if_icmp .ge 122, 3) := by decide +kernel
theorem dX2_value_78 : decode cX2_value 78 = .ok (.aload_n 0, 1) := by decide +kernel
theorem dX2_value_79 : decode cX2_value 79 = .ok (.getfield 30, 3) := by decide +kernel
theorem dX2_value_82 : decode cX2_value 82 = .ok (.iload_n 3, 1) := by decide +kernel
theorem dX2_value_83 : decode cX2_value 83 = .ok (.aload_n 0, 1) := by decide +kernel
theorem dX2_value_84 : decode cX2_value 84 = .ok (.iload 5, 2) := by decide +kernel
theorem dX2_value_86 : decode cX2_value 86 = .ok (.invokevirtual 113, 3) := by decide +kernel
theorem dX2_value_89 : decode cX2_value 89 = .ok (.iastore, 1) := by decide +kernel
theorem dX2_value_90 : decode cX2_value 90 = .ok (.iinc 3 1, 3) := by decide +kernel
theorem dX2_value_93 : decode cX2_value 93 = .ok (.goto 104, 3) := by decide +kernel
theorem dX2_value_96 : decode cX2_value 96 = .ok (.iload 5, 2) := by decide +kernel
theorem dX2_value_98 : decode cX2_value 98 = .ok (.bipush (-12), 2) := by decide +kernel
theorem dX2_value_100 : decode cX2_value 100 = .ok (.if_icmp .eq 10, 3) := by decide +kernel
theorem dX2_value_103 : decode cX2_value 103 = .ok (.iload 5, 2) := by decide +kernel
theorem dX2_value_105 : decode cX2_value 105 = .ok (.bipush (-11), 2) := by decide +kernel
theorem dX2_value_107 : decode cX2_value 107 = .ok (.if_icmp .ne 55, 3) := by decide +kernel
theorem dX2_value_110 : decode cX2_value 110 = .ok (.iload_n 3, 1) := by decide +kernel
theorem dX2_value_111 : decode cX2_value 111 = .ok (.iconst 1, 1) := by decide +kernel
theorem dX2_value_112 : decode cX2_value 112 = .ok (.if_icmp .lt 85, 3) := by decide +kernel
theorem dX2_value_115 : decode cX2_value 115 = .ok (.aload_n 0, 1) := by decide +kernel
theorem dX2_value_116 : decode cX2_value 116 = .ok (.getfield 30, 3) := by decide +kernel
theorem dX2_value_119 : decode cX2_value 119 = .ok (.iload_n 3, 1) := by decide +kernel
theorem dX2_value_120 : decode cX2_value 120 = .ok (.iconst 1, 1) := by decide +kernel
theorem dX2_value_121 : decode cX2_value 121 = .ok (.isub, 1) := by decide +kernel
theorem dX2_value_122 : decode cX2_value 122 = .ok (.iaload, 1) := by decide +kernel
theorem dX2_value_123 : decode cX2_value 123 = .ok (.istore 6, 2) := by decide +kernel
theorem dX2_value_125 : decode cX2_value 125 = .ok (.aload_n 0, 1) := by decide +kernel
theorem dX2_value_126 : decode cX2_value 126 = .ok (.getfield 30, 3) := by decide +kernel
theorem dX2_value_129 : decode cX2_value 129 = .ok (.iload_n 3, 1) := by decide +kernel
theorem dX2_value_130 : decode cX2_value 130 = .ok (.iconst 1, 1) := by decide +kernel
theorem dX2_value_131 : decode cX2_value 131 = .ok (.isub, 1) := by decide +kernel
theorem dX2_value_132 : decode cX2_value 132 = .ok (.iload 5, 2) := by decide +kernel
theorem dX2_value_134 : decode cX2_value 134 = .ok (.bipush (-11), 2) := by decide +kernel
theorem dX2_value_136 : decode cX2_value 136 = .ok (.if_icmp .ne 19, 3) := by decide +kernel
theorem dX2_value_139 : decode cX2_value 139 = .ok (.iload 6, 2) := by decide +kernel
theorem dX2_value_141 : decode cX2_value 141 = .ok (.ifCond .ne 7, 3) := by decide +kernel
theorem dX2_value_144 : decode cX2_value 144 = .ok (.iconst 1, 1) := by decide +kernel
theorem dX2_value_145 : decode cX2_value 145 = .ok (.goto 4, 3) := by decide +kernel
theorem dX2_value_148 : decode cX2_value 148 = .ok (.iconst 0, 1) := by decide +kernel
theorem dX2_value_149 : decode cX2_value 149 = .ok (.invokestatic 69, 3) := by decide +kernel
theorem dX2_value_152 : decode cX2_value 152 = .ok (.goto 6, 3) := by decide +kernel
theorem dX2_value_155 : decode cX2_value 155 = .ok (.iload 6, 2) := by decide +kernel
theorem dX2_value_157 : decode cX2_value 157 = .ok (.ineg, 1) := by decide +kernel
theorem dX2_value_158 : decode cX2_value 158 = .ok (.iastore, 1) := by decide +kernel
theorem dX2_value_159 : decode cX2_value 159 = .ok (.goto 38, 3) := by decide +kernel
theorem dX2_value_162 : decode cX2_value 162 = .ok (.iload_n 3, 1) := by decide +kernel
theorem dX2_value_163 : decode cX2_value 163 = .ok (.iconst 2, 1) := by decide +kernel
theorem dX2_value_164 : decode cX2_value 164 = .ok (.if_icmp .lt 33, 3) := by decide +kernel
theorem dX2_value_167 : decode cX2_value 167 = .ok (.iinc 3 (-1), 3) := by decide +kernel
theorem dX2_value_170 : decode cX2_value 170 = .ok (.aload_n 0, 1) := by decide +kernel
theorem dX2_value_171 : decode cX2_value 171 = .ok (.getfield 30, 3) := by decide +kernel
theorem dX2_value_174 : decode cX2_value 174 = .ok (.iload_n 3, 1) := by decide +kernel
theorem dX2_value_175 : decode cX2_value 175 = .ok (.iconst 1, 1) := by decide +kernel
theorem dX2_value_176 : decode cX2_value 176 = .ok (.isub, 1) := by decide +kernel
theorem dX2_value_177 : decode cX2_value 177 = .ok (.iload 5, 2) := by decide +kernel
theorem dX2_value_179 : decode cX2_value 179 = .ok (.aload_n 0, 1) := by decide +kernel
theorem dX2_value_180 : decode cX2_value 180 = .ok (.getfield 30, 3) := by decide +kernel
theorem dX2_value_183 : decode cX2_value 183 = .ok (.iload_n 3, 1) := by decide +kernel
theorem dX2_value_184 : decode cX2_value 184 = .ok (.iconst 1, 1) := by decide +kernel
theorem dX2_value_185 : decode cX2_value 185 = .ok (.isub, 1) := by decide +kernel
theorem dX2_value_186 : decode cX2_value 186 = .ok (.iaload, 1) := by decide +kernel
theorem dX2_value_187 : decode cX2_value 187 = .ok (.aload_n 0, 1) := by decide +kernel
theorem dX2_value_188 : decode cX2_value 188 = .ok (.getfield 30, 3) := by decide +kernel
theorem dX2_value_191 : decode cX2_value 191 = .ok (.iload_n 3, 1) := by decide +kernel
theorem dX2_value_192 : decode cX2_value 192 = .ok (.iaload, 1) := by decide +kernel
theorem dX2_value_193 : decode cX2_value 193 = .ok (.invokestatic 116, 3) := by decide +kernel
theorem dX2_value_196 : decode cX2_value 196 = .ok (.iastore, 1) := by decide +kernel
theorem dX2_value_197 : decode cX2_value 197 = .ok (.iinc 4 1, 3) := by decide +kernel
theorem dX2_value_200 : decode cX2_value 200 = .ok (.goto (-157), 3) := by decide +kernel
theorem dX2_value_203 : decode cX2_value 203 = .ok (.iload_n 3, 1) := by decide +kernel
theorem dX2_value_204 : decode cX2_value 204 = .ok (.iconst 1, 1) := by decide +kernel
theorem dX2_value_205 : decode cX2_value 205 = .ok (.if_icmp .ge 7, 3) := by decide +kernel
theorem dX2_value_208 : decode cX2_value 208 = .ok (.iconst 0, 1) := by decide +kernel
theorem dX2_value_209 : decode cX2_value 209 = .ok (.goto 11, 3) := by decide +kernel
theorem dX2_value_212 : decode cX2_value 212 = .ok (.aload_n 0, 1) := by decide +kernel
theorem dX2_value_213 : decode cX2_value 213 = .ok (.getfield 30, 3) := by decide +kernel
theorem dX2_value_216 : decode cX2_value 216 = .ok (.iload_n 3, 1) := by decide +kernel
theorem dX2_value_217 : decode cX2_value 217 = .ok (.iconst 1, 1) := by decide +kernel
theorem dX2_value_218 : decode cX2_value 218 = .ok (.isub, 1) := by decide +kernel
theorem dX2_value_219 : decode cX2_value 219 = .ok (.iaload, 1) := by decide +kernel
theorem dX2_value_220 : decode cX2_value 220 = .ok (.ireturn, 1) := by decide +kernel
theorem dX2_operand_0 : decode cX2_operand 0 = .ok (.iload_n 1, 1) := by decide +kernel
theorem dX2_operand_1 : decode cX2_operand 1 = .ok (.ifCond .lt 5, 3) := by decide +kernel
theorem dX2_operand_4 : decode cX2_operand 4 = .ok (.iload_n 1, 1) := by decide +kernel
theorem dX2_operand_5 : decode cX2_operand 5 = .ok (.ireturn, 1) := by decide +kernel
theorem dX2_operand_6 : decode cX2_operand 6 = .ok (.iconst (-1), 1) := by decide +kernel
theorem dX2_operand_7 : decode cX2_operand 7 = .ok (.iload_n 1, 1) := by decide +kernel
theorem dX2_operand_8 : decode cX2_operand 8 = .ok (.isub, 1) := by decide +kernel
theorem dX2_operand_9 : decode cX2_operand 9 = .ok (.istore_n 2, 1) := by decide +kernel
theorem dX2_operand_10 : decode cX2_operand 10 = .ok (.iload_n 2, 1) := by decide +kernel
theorem dX2_operand_11 : decode cX2_operand 11 = .ok (.bipush 6, 2) := by decide +kernel
theorem dX2_operand_13 : decode cX2_operand 13 = .ok (.if_icmp .ge 12, 3) := by decide +kernel
theorem dX2_operand_16 : decode cX2_operand 16 = .ok (.aload_n 0, 1) := by decide +kernel
theorem dX2_operand_17 : decode cX2_operand 17 = .ok (.getfield 26, 3) := by decide +kernel
theorem dX2_operand_20 : decode cX2_operand 20 = .ok (.iload_n 2, 1) := by decide +kernel
theorem dX2_operand_21 : decode cX2_operand 21 = .ok (.iaload, 1) := by decide +kernel
theorem dX2_operand_22 : decode cX2_operand 22 = .ok (.goto 4, 3) := by decide +kernel
theorem dX2_operand_25 : decode cX2_operand 25 = .ok (.iconst 0, 1) := by decide +kernel
theorem dX2_operand_26 : decode cX2_operand 26 = .ok (.ireturn, 1) := by decide +kernel
theorem dX2_joined_0 : decode cX2_joined 0 = .ok (.iload_n 0, 1) := by decide +kernel
theorem dX2_joined_1 : decode cX2_joined 1 = .ok (.tableswitch 96 (-25) (-20) #[79, 65, 51, 47, 43, 39], 39) := by decide +kernel
theorem dX2_joined_40 : decode cX2_joined 40 = .ok (.iload_n 1, 1) := by decide +kernel
theorem dX2_joined_41 : decode cX2_joined 41 = .ok (.iload_n 2, 1) := by decide +kernel
theorem dX2_joined_42 : decode cX2_joined 42 = .ok (.imul, 1) := by decide +kernel
theorem dX2_joined_43 : decode cX2_joined 43 = .ok (.ireturn, 1) := by decide +kernel
theorem dX2_joined_44 : decode cX2_joined 44 = .ok (.iload_n 1, 1) := by decide +kernel
theorem dX2_joined_45 : decode cX2_joined 45 = .ok (.iload_n 2, 1) := by decide +kernel
theorem dX2_joined_46 : decode cX2_joined 46 = .ok (.iadd, 1) := by decide +kernel
theorem dX2_joined_47 : decode cX2_joined 47 = .ok (.ireturn, 1) := by decide +kernel
theorem dX2_joined_48 : decode cX2_joined 48 = .ok (.iload_n 1, 1) := by decide +kernel
theorem dX2_joined_49 : decode cX2_joined 49 = .ok (.iload_n 2, 1) := by decide +kernel
theorem dX2_joined_50 : decode cX2_joined 50 = .ok (.isub, 1) := by decide +kernel
theorem dX2_joined_51 : decode cX2_joined 51 = .ok (.ireturn, 1) := by decide +kernel
theorem dX2_joined_52 : decode cX2_joined 52 = .ok (.iload_n 1, 1) := by decide +kernel
theorem dX2_joined_53 : decode cX2_joined 53 = .ok (.iload_n 2, 1) := by decide +kernel
theorem dX2_joined_54 : decode cX2_joined 54 = .ok (.if_icmp .ge 7, 3) := by decide +kernel
theorem dX2_joined_57 : decode cX2_joined 57 = .ok (.iconst 1, 1) := by decide +kernel
theorem dX2_joined_58 : decode cX2_joined 58 = .ok (.goto 4, 3) := by decide +kernel
theorem dX2_joined_61 : decode cX2_joined 61 = .ok (.iconst 0, 1) := by decide +kernel
theorem dX2_joined_62 : decode cX2_joined 62 = .ok (.invokestatic 69, 3) := by decide +kernel
theorem dX2_joined_65 : decode cX2_joined 65 = .ok (.ireturn, 1) := by decide +kernel
theorem dX2_joined_66 : decode cX2_joined 66 = .ok (.iload_n 1, 1) := by decide +kernel
theorem dX2_joined_67 : decode cX2_joined 67 = .ok (.iload_n 2, 1) := by decide +kernel
theorem dX2_joined_68 : decode cX2_joined 68 = .ok (.if_icmp .ne 7, 3) := by decide +kernel
theorem dX2_joined_71 : decode cX2_joined 71 = .ok (.iconst 1, 1) := by decide +kernel
theorem dX2_joined_72 : decode cX2_joined 72 = .ok (.goto 4, 3) := by decide +kernel
theorem dX2_joined_75 : decode cX2_joined 75 = .ok (.iconst 0, 1) := by decide +kernel
theorem dX2_joined_76 : decode cX2_joined 76 = .ok (.invokestatic 69, 3) := by decide +kernel
theorem dX2_joined_79 : decode cX2_joined 79 = .ok (.ireturn, 1) := by decide +kernel
theorem dX2_joined_80 : decode cX2_joined 80 = .ok (.iload_n 1, 1) := by decide +kernel
theorem dX2_joined_81 : decode cX2_joined 81 = .ok (.ifCond .eq 11, 3) := by decide +kernel
theorem dX2_joined_84 : decode cX2_joined 84 = .ok (.iload_n 2, 1) := by decide +kernel
theorem dX2_joined_85 : decode cX2_joined 85 = .ok (.ifCond .eq 7, 3) := by decide +kernel
theorem dX2_joined_88 : decode cX2_joined 88 = .ok (.iconst 1, 1) := by decide +kernel
theorem dX2_joined_89 : decode cX2_joined 89 = .ok (.goto 4, 3) := by decide +kernel
theorem dX2_joined_92 : decode cX2_joined 92 = .ok (.iconst 0, 1) := by decide +kernel
theorem dX2_joined_93 : decode cX2_joined 93 = .ok (.invokestatic 69, 3) := by decide +kernel
theorem dX2_joined_96 : decode cX2_joined 96 = .ok (.ireturn, 1) := by decide +kernel
theorem dX2_joined_97 : decode cX2_joined 97 = .ok (.iload_n 1, 1) := by decide +kernel
theorem dX2_joined_98 : decode cX2_joined 98 = .ok (.ifCond .ne 7, 3) := by decide +kernel
theorem dX2_joined_101 : decode cX2_joined 101 = .ok (.iload_n 2, 1) := by decide +kernel
theorem dX2_joined_102 : decode cX2_joined 102 = .ok (.ifCond .eq 7, 3) := by decide +kernel
theorem dX2_joined_105 : decode cX2_joined 105 = .ok (.iconst 1, 1) := by decide +kernel
theorem dX2_joined_106 : decode cX2_joined 106 = .ok (.goto 4, 3) := by decide +kernel
theorem dX2_joined_109 : decode cX2_joined 109 = .ok (.iconst 0, 1) := by decide +kernel
theorem dX2_joined_110 : decode cX2_joined 110 = .ok (.invokestatic 69, 3) := by decide +kernel
theorem dX2_joined_113 : decode cX2_joined 113 = .ok (.ireturn, 1) := by decide +kernel
theorem dX3_init_0 : decode cX3_init 0 = .ok (.aload_n 0, 1) := by decide +kernel
theorem dX3_init_1 : decode cX3_init 1 = .ok (.invokespecial 3, 3) := by decide +kernel
theorem dX3_init_4 : decode cX3_init 4 = .ok (.aload_n 0, 1) := by decide +kernel
theorem dX3_init_5 : decode cX3_init 5 = .ok (.bipush 30, 2) := by decide +kernel
theorem dX3_init_7 : decode cX3_init 7 = .ok (.newarray .int, 2) := by decide +kernel
theorem dX3_init_9 : decode cX3_init 9 = .ok (.putfield 9, 3) := by decide +kernel
theorem dX3_init_12 : decode cX3_init 12 = .ok (.aload_n 0, 1) := by decide +kernel
theorem dX3_init_13 : decode cX3_init 13 = .ok (.bipush 30, 2) := by decide +kernel
theorem dX3_init_15 : decode cX3_init 15 = .ok (.newarray .int, 2) := by decide +kernel
theorem dX3_init_17 : decode cX3_init 17 = .ok (.putfield 15, 3) := by decide +kernel
theorem dX3_init_20 : decode cX3_init 20 = .ok (.aload_n 0, 1) := by decide +kernel
theorem dX3_init_21 : decode cX3_init 21 = .ok (.bipush 100, 2) := by decide +kernel
theorem dX3_init_23 : decode cX3_init 23 = .ok (.newarray .int, 2) := by decide +kernel
theorem dX3_init_25 : decode cX3_init 25 = .ok (.putfield 18, 3) := by decide +kernel
theorem dX3_init_28 : decode cX3_init 28 = .ok (.aload_n 0, 1) := by decide +kernel
theorem dX3_init_29 : decode cX3_init 29 = .ok (.bipush 100, 2) := by decide +kernel
theorem dX3_init_31 : decode cX3_init 31 = .ok (.newarray .boolean, 2) := by decide +kernel
theorem dX3_init_33 : decode cX3_init 33 = .ok (.putfield 21, 3) := by decide +kernel
theorem dX3_init_36 : decode cX3_init 36 = .ok (.aload_n 0, 1) := by decide +kernel
theorem dX3_init_37 : decode cX3_init 37 = .ok (.bipush 100, 2) := by decide +kernel
theorem dX3_init_39 : decode cX3_init 39 = .ok (.newarray .boolean, 2) := by decide +kernel
theorem dX3_init_41 : decode cX3_init 41 = .ok (.putfield 25, 3) := by decide +kernel
theorem dX3_init_44 : decode cX3_init 44 = .ok (.aload_n 0, 1) := by decide +kernel
theorem dX3_init_45 : decode cX3_init 45 = .ok (.aload_n 1, 1) := by decide +kernel
theorem dX3_init_46 : decode cX3_init 46 = .ok (.putfield 28, 3) := by decide +kernel
theorem dX3_init_49 : decode cX3_init 49 = .ok (.return_, 1) := by decide +kernel
theorem dX3_fillLeast_0 : decode cX3_fillLeast 0 = .ok (.aload_n 0, 1) := by decide +kernel
theorem dX3_fillLeast_1 : decode cX3_fillLeast 1 = .ok (.aload_n 1, 1) := by decide +kernel
theorem dX3_fillLeast_2 : decode cX3_fillLeast 2 = .ok (.invokevirtual 32, 3) := by decide +kernel
theorem dX3_fillLeast_5 : decode cX3_fillLeast 5 = .ok (.aload_n 2, 1) := by decide +kernel
theorem dX3_fillLeast_6 : decode cX3_fillLeast 6 = .ok (.invokevirtual 32, 3) := by decide +kernel
theorem dX3_fillLeast_9 : decode cX3_fillLeast 9 = .ok (.iand, 1) := by decide +kernel
theorem dX3_fillLeast_10 : decode cX3_fillLeast 10 = .ok (.invokevirtual 38, 3) := by decide +kernel
theorem dX3_fillLeast_13 : decode cX3_fillLeast 13 = .ok (.istore 5, 2) := by decide +kernel
theorem dX3_fillLeast_15 : decode cX3_fillLeast 15 = .ok (.iconst 0, 1) := by decide +kernel
theorem dX3_fillLeast_16 : decode cX3_fillLeast 16 = .ok (.istore 6, 2) := by decide +kernel
theorem dX3_fillLeast_18 : decode cX3_fillLeast 18 = .ok (.iload 6, 2) := by decide +kernel
theorem dX3_fillLeast_20 : decode cX3_fillLeast 20 = .ok (.iload 5, 2) := by decide +kernel
theorem dX3_fillLeast_22 : decode cX3_fillLeast 22 = .ok (.if_icmp .ge 56, 3) := by decide +kernel
theorem dX3_fillLeast_25 : decode cX3_fillLeast 25 = .ok (.aload_n 0, 1) := by decide +kernel
theorem dX3_fillLeast_26 : decode cX3_fillLeast 26 = .ok (.getfield 15, 3) := by decide +kernel
theorem dX3_fillLeast_29 : decode cX3_fillLeast 29 = .ok (.iload 6, 2) := by decide +kernel
theorem dX3_fillLeast_31 : decode cX3_fillLeast 31 = .ok (.iload 4, 2) := by decide +kernel
theorem dX3_fillLeast_33 : decode cX3_fillLeast 33 = .ok (.ifCond .eq 7, 3) := by decide +kernel
theorem dX3_fillLeast_36 : decode cX3_fillLeast 36 = .ok (.iconst 1, 1) := by decide +kernel
theorem dX3_fillLeast_37 : decode cX3_fillLeast 37 = .ok (.goto 34, 3) := by decide +kernel
theorem dX3_fillLeast_40 : decode cX3_fillLeast 40 = .ok (.aload_n 0, 1) := by decide +kernel
theorem dX3_fillLeast_41 : decode cX3_fillLeast 41 = .ok (.getfield 28, 3) := by decide +kernel
theorem dX3_fillLeast_44 : decode cX3_fillLeast 44 = .ok (.aload_n 1, 1) := by decide +kernel
theorem dX3_fillLeast_45 : decode cX3_fillLeast 45 = .ok (.aload_n 0, 1) := by decide +kernel
theorem dX3_fillLeast_46 : decode cX3_fillLeast 46 = .ok (.getfield 9, 3) := by decide +kernel
theorem dX3_fillLeast_49 : decode cX3_fillLeast 49 = .ok (.iload 6, 2) := by decide +kernel
theorem dX3_fillLeast_51 : decode cX3_fillLeast 51 = .ok (.iaload, 1) := by decide +kernel
theorem dX3_fillLeast_52 : decode cX3_fillLeast 52 = .ok (.invokevirtual 42, 3) := by decide +kernel
theorem dX3_fillLeast_55 : decode cX3_fillLeast 55 = .ok (.aload_n 0, 1) := by decide +kernel
theorem dX3_fillLeast_56 : decode cX3_fillLeast 56 = .ok (.getfield 28, 3) := by decide +kernel
theorem dX3_fillLeast_59 : decode cX3_fillLeast 59 = .ok (.aload_n 2, 1) := by decide +kernel
theorem dX3_fillLeast_60 : decode cX3_fillLeast 60 = .ok (.aload_n 0, 1) := by decide +kernel
theorem dX3_fillLeast_61 : decode cX3_fillLeast 61 = .ok (.getfield 9, 3) := by decide +kernel
theorem dX3_fillLeast_64 : decode cX3_fillLeast 64 = .ok (.iload 6, 2) := by decide +kernel
theorem dX3_fillLeast_66 : decode cX3_fillLeast 66 = .ok (.iaload, 1) := by decide +kernel
theorem dX3_fillLeast_67 : decode cX3_fillLeast 67 = .ok (.invokevirtual 42, 3) := by decide +kernel
theorem dX3_fillLeast_70 : decode cX3_fillLeast 70 = .ok (.iadd, 1) := by decide +kernel
theorem dX3_fillLeast_71 : decode cX3_fillLeast 71 = .ok (.iastore, 1) := by decide +kernel
theorem dX3_fillLeast_72 : decode cX3_fillLeast 72 = .ok (.iinc 6 1, 3) := by decide +kernel
theorem dX3_fillLeast_75 : decode cX3_fillLeast 75 = .ok (.goto (-57), 3) := by decide +kernel
theorem dX3_fillLeast_78 : decode cX3_fillLeast 78 = .ok (.aload_n 0, 1) := by decide +kernel
theorem dX3_fillLeast_79 : decode cX3_fillLeast 79 = .ok (.getfield 18, 3) := by decide +kernel
theorem dX3_fillLeast_82 : decode cX3_fillLeast 82 = .ok (.iconst 0, 1) := by decide +kernel
theorem dX3_fillLeast_83 : decode cX3_fillLeast 83 = .ok (.iconst 0, 1) := by decide +kernel
theorem dX3_fillLeast_84 : decode cX3_fillLeast 84 = .ok (.iastore, 1) := by decide +kernel
theorem dX3_fillLeast_85 : decode cX3_fillLeast 85 = .ok (.iconst 1, 1) := by decide +kernel
theorem dX3_fillLeast_86 : decode cX3_fillLeast 86 = .ok (.istore 6, 2) := by decide +kernel
theorem dX3_fillLeast_88 : decode cX3_fillLeast 88 = .ok (.iload 6, 2) := by decide +kernel
theorem dX3_fillLeast_90 : decode cX3_fillLeast 90 = .ok (.iload_n 3, 1) := by decide +kernel
theorem dX3_fillLeast_91 : decode cX3_fillLeast 91 = .ok (.if_icmp .gt 31, 3) := by decide +kernel
theorem dX3_fillLeast_94 : decode cX3_fillLeast 94 = .ok (.iload 6, 2) := by decide +kernel
theorem dX3_fillLeast_96 : decode cX3_fillLeast 96 = .ok (.bipush 99, 2) := by decide +kernel
theorem dX3_fillLeast_98 : decode cX3_fillLeast 98 = .ok (.if_icmp .gt 24, 3) := by decide +kernel
theorem dX3_fillLeast_101 : decode cX3_fillLeast 101 = .ok (.aload_n 0, 1) := by decide +kernel
theorem dX3_fillLeast_102 : decode cX3_fillLeast 102 = .ok (.getfield 18, 3) := by decide +kernel
theorem dX3_fillLeast_105 : decode cX3_fillLeast 105 = .ok (.iload 6, 2) := by decide +kernel
theorem dX3_fillLeast_107 : decode cX3_fillLeast 107 = .ok (.aload_n 0, 1) := by decide +kernel
theorem dX3_fillLeast_108 : decode cX3_fillLeast 108 = .ok (.iload 6, 2) := by decide +kernel
theorem dX3_fillLeast_110 : decode cX3_fillLeast 110 = .ok (.iload 5, 2) := by decide +kernel
theorem dX3_fillLeast_112 : decode cX3_fillLeast 112 = .ok (.invokevirtual 48, 3) := by decide +kernel
theorem dX3_fillLeast_115 : decode cX3_fillLeast 115 = .ok (.iastore, 1) := by decide +kernel
theorem dX3_fillLeast_116 : decode cX3_fillLeast 116 = .ok (.iinc 6 1, 3) := by decide +kernel
theorem dX3_fillLeast_119 : decode cX3_fillLeast 119 = .ok (.goto (-31), 3) := by decide +kernel
theorem dX3_fillLeast_122 : decode cX3_fillLeast 122 = .ok (.return_, 1) := by decide +kernel
theorem dX3_leastOf_0 : decode cX3_leastOf 0 = .ok (.iload_n 1, 1) := by decide +kernel
theorem dX3_leastOf_1 : decode cX3_leastOf 1 = .ok (.invokestatic 52, 3) := by decide +kernel
theorem dX3_leastOf_4 : decode cX3_leastOf 4 = .ok (.ifCond .eq 12, 3) := by decide +kernel
theorem dX3_leastOf_7 : decode cX3_leastOf 7 = .ok (.aload_n 0, 1) := by decide +kernel
theorem dX3_leastOf_8 : decode cX3_leastOf 8 = .ok (.getfield 18, 3) := by decide +kernel
theorem dX3_leastOf_11 : decode cX3_leastOf 11 = .ok (.iload_n 1, 1) := by decide +kernel
theorem dX3_leastOf_12 : decode cX3_leastOf 12 = .ok (.iaload, 1) := by decide +kernel
theorem dX3_leastOf_13 : decode cX3_leastOf 13 = .ok (.goto 4, 3) := by decide +kernel
theorem dX3_leastOf_16 : decode cX3_leastOf 16 = .ok (.iconst (-1), 1) := by decide +kernel
theorem dX3_leastOf_17 : decode cX3_leastOf 17 = .ok (.ireturn, 1) := by decide +kernel
theorem dX3_fillParts_0 : decode cX3_fillParts 0 = .ok (.iconst 0, 1) := by decide +kernel
theorem dX3_fillParts_1 : decode cX3_fillParts 1 = .ok (.istore_n 2, 1) := by decide +kernel
theorem dX3_fillParts_2 : decode cX3_fillParts 2 = .ok (.iconst 1, 1) := by decide +kernel
theorem dX3_fillParts_3 : decode cX3_fillParts 3 = .ok (.istore_n 3, 1) := by decide +kernel
theorem dX3_fillParts_4 : decode cX3_fillParts 4 = .ok (.iload_n 3, 1) := by decide +kernel
theorem dX3_fillParts_5 : decode cX3_fillParts 5 = .ok (.bipush 30, 2) := by decide +kernel
theorem dX3_fillParts_7 : decode cX3_fillParts 7 = .ok (.if_icmp .gt 27, 3) := by decide +kernel
theorem dX3_fillParts_10 : decode cX3_fillParts 10 = .ok (.iload_n 1, 1) := by decide +kernel
theorem dX3_fillParts_11 : decode cX3_fillParts 11 = .ok (.iload_n 3, 1) := by decide +kernel
theorem dX3_fillParts_12 : decode cX3_fillParts 12 = .ok (.invokestatic 56, 3) := by decide +kernel
theorem dX3_fillParts_15 : decode cX3_fillParts 15 = .ok (.ifCond .eq 13, 3) := by decide +kernel
theorem dX3_fillParts_18 : decode cX3_fillParts 18 = .ok (.aload_n 0, 1) := by decide +kernel
theorem dX3_fillParts_19 : decode cX3_fillParts 19 = .ok (.getfield 9, 3) := by decide +kernel
theorem dX3_fillParts_22 : decode cX3_fillParts 22 = .ok (.iload_n 2, 1) := by decide +kernel
theorem dX3_fillParts_23 : decode cX3_fillParts 23 = .ok (.iload_n 3, 1) := by decide +kernel
theorem dX3_fillParts_24 : decode cX3_fillParts 24 = .ok (.iastore, 1) := by decide +kernel
theorem dX3_fillParts_25 : decode cX3_fillParts 25 = .ok (.iinc 2 1, 3) := by decide +kernel
theorem dX3_fillParts_28 : decode cX3_fillParts 28 = .ok (.iinc 3 1, 3) := by decide +kernel
theorem dX3_fillParts_31 : decode cX3_fillParts 31 = .ok (.goto (-27), 3) := by decide +kernel
theorem dX3_fillParts_34 : decode cX3_fillParts 34 = .ok (.iload_n 2, 1) := by decide +kernel
theorem dX3_fillParts_35 : decode cX3_fillParts 35 = .ok (.ireturn, 1) := by decide +kernel
theorem dX3_leastAt_0 : decode cX3_leastAt 0 = .ok (.iconst (-1), 1) := by decide +kernel
theorem dX3_leastAt_1 : decode cX3_leastAt 1 = .ok (.istore_n 3, 1) := by decide +kernel
theorem dX3_leastAt_2 : decode cX3_leastAt 2 = .ok (.iconst 0, 1) := by decide +kernel
theorem dX3_leastAt_3 : decode cX3_leastAt 3 = .ok (.istore 4, 2) := by decide +kernel
theorem dX3_leastAt_5 : decode cX3_leastAt 5 = .ok (.iload 4, 2) := by decide +kernel
theorem dX3_leastAt_7 : decode cX3_leastAt 7 = .ok (.iload_n 2, 1) := by decide +kernel
theorem dX3_leastAt_8 : decode cX3_leastAt 8 = .ok (.if_icmp .ge 72, 3) := by decide +kernel
theorem dX3_leastAt_11 : decode cX3_leastAt 11 = .ok (.aload_n 0, 1) := by decide +kernel
theorem dX3_leastAt_12 : decode cX3_leastAt 12 = .ok (.getfield 9, 3) := by decide +kernel
theorem dX3_leastAt_15 : decode cX3_leastAt 15 = .ok (.iload 4, 2) := by decide +kernel
theorem dX3_leastAt_17 : decode cX3_leastAt 17 = .ok (.iaload, 1) := by decide +kernel
theorem dX3_leastAt_18 : decode cX3_leastAt 18 = .ok (.iload_n 1, 1) := by decide +kernel
theorem dX3_leastAt_19 : decode cX3_leastAt 19 = .ok (.if_icmp .gt 61, 3) := by decide +kernel
theorem dX3_leastAt_22 : decode cX3_leastAt 22 = .ok (.aload_n 0, 1) := by decide +kernel
theorem dX3_leastAt_23 : decode cX3_leastAt 23 = .ok (.getfield 18, 3) := by decide +kernel
theorem dX3_leastAt_26 : decode cX3_leastAt 26 = .ok (.iload_n 1, 1) := by decide +kernel
theorem dX3_leastAt_27 : decode cX3_leastAt 27 = .ok (.aload_n 0, 1) := by decide +kernel
theorem dX3_leastAt_28 : decode cX3_leastAt 28 = .ok (.getfield 9, 3) := by decide +kernel
theorem dX3_leastAt_31 : decode cX3_leastAt 31 = .ok (.iload 4, 2) := by decide +kernel
theorem dX3_leastAt_33 : decode cX3_leastAt 33 = .ok (.iaload, 1) := by decide +kernel
theorem dX3_leastAt_34 : decode cX3_leastAt 34 = .ok (.isub, 1) := by decide +kernel
theorem dX3_leastAt_35 : decode cX3_leastAt 35 = .ok (.iaload, 1) := by decide +kernel
theorem dX3_leastAt_36 : decode cX3_leastAt 36 = .ok (.istore 5, 2) := by decide +kernel
theorem dX3_leastAt_38 : decode cX3_leastAt 38 = .ok (.iload 5, 2) := by decide +kernel
theorem dX3_leastAt_40 : decode cX3_leastAt 40 = .ok (.iconst (-1), 1) := by decide +kernel
theorem dX3_leastAt_41 : decode cX3_leastAt 41 = .ok (.if_icmp .eq 33, 3) := by decide +kernel
theorem dX3_leastAt_44 : decode cX3_leastAt 44 = .ok (.iload_n 3, 1) := by decide +kernel
theorem dX3_leastAt_45 : decode cX3_leastAt 45 = .ok (.iconst (-1), 1) := by decide +kernel
theorem dX3_leastAt_46 : decode cX3_leastAt 46 = .ok (.if_icmp .eq 17, 3) := by decide +kernel
theorem dX3_leastAt_49 : decode cX3_leastAt 49 = .ok (.iload 5, 2) := by decide +kernel
theorem dX3_leastAt_51 : decode cX3_leastAt 51 = .ok (.aload_n 0, 1) := by decide +kernel
theorem dX3_leastAt_52 : decode cX3_leastAt 52 = .ok (.getfield 15, 3) := by decide +kernel
theorem dX3_leastAt_55 : decode cX3_leastAt 55 = .ok (.iload 4, 2) := by decide +kernel
theorem dX3_leastAt_57 : decode cX3_leastAt 57 = .ok (.iaload, 1) := by decide +kernel
theorem dX3_leastAt_58 : decode cX3_leastAt 58 = .ok (.iadd, 1) := by decide +kernel
theorem dX3_leastAt_59 : decode cX3_leastAt 59 = .ok (.iload_n 3, 1) := by decide +kernel
theorem dX3_leastAt_60 : decode cX3_leastAt 60 = .ok (.if_icmp .ge 14, 3) := by decide +kernel
theorem dX3_leastAt_63 : decode cX3_leastAt 63 = .ok (.iload 5, 2) := by decide +kernel
theorem dX3_leastAt_65 : decode cX3_leastAt 65 = .ok (.aload_n 0, 1) := by decide +kernel
theorem dX3_leastAt_66 : decode cX3_leastAt 66 = .ok (.getfield 15, 3) := by decide +kernel
theorem dX3_leastAt_69 : decode cX3_leastAt 69 = .ok (.iload 4, 2) := by decide +kernel
theorem dX3_leastAt_71 : decode cX3_leastAt 71 = .ok (.iaload, 1) := by decide +kernel
theorem dX3_leastAt_72 : decode cX3_leastAt 72 = .ok (.iadd, 1) := by decide +kernel
theorem dX3_leastAt_73 : decode cX3_leastAt 73 = .ok (.istore_n 3, 1) := by decide +kernel
theorem dX3_leastAt_74 : decode cX3_leastAt 74 = .ok (.iinc 4 1, 3) := by decide +kernel
theorem dX3_leastAt_77 : decode cX3_leastAt 77 = .ok (.goto (-72), 3) := by decide +kernel
theorem dX3_leastAt_80 : decode cX3_leastAt 80 = .ok (.iload_n 3, 1) := by decide +kernel
theorem dX3_leastAt_81 : decode cX3_leastAt 81 = .ok (.ireturn, 1) := by decide +kernel
theorem dX3_fillCan_0 : decode cX3_fillCan 0 = .ok (.aload_n 1, 1) := by decide +kernel
theorem dX3_fillCan_1 : decode cX3_fillCan 1 = .ok (.invokevirtual 32, 3) := by decide +kernel
theorem dX3_fillCan_4 : decode cX3_fillCan 4 = .ok (.aload_n 2, 1) := by decide +kernel
theorem dX3_fillCan_5 : decode cX3_fillCan 5 = .ok (.invokevirtual 32, 3) := by decide +kernel
theorem dX3_fillCan_8 : decode cX3_fillCan 8 = .ok (.iand, 1) := by decide +kernel
theorem dX3_fillCan_9 : decode cX3_fillCan 9 = .ok (.istore_n 3, 1) := by decide +kernel
theorem dX3_fillCan_10 : decode cX3_fillCan 10 = .ok (.aload_n 0, 1) := by decide +kernel
theorem dX3_fillCan_11 : decode cX3_fillCan 11 = .ok (.getfield 21, 3) := by decide +kernel
theorem dX3_fillCan_14 : decode cX3_fillCan 14 = .ok (.iconst 0, 1) := by decide +kernel
theorem dX3_fillCan_15 : decode cX3_fillCan 15 = .ok (.iconst 1, 1) := by decide +kernel
theorem dX3_fillCan_16 : decode cX3_fillCan 16 = .ok (.bastore, 1) := by decide +kernel
theorem dX3_fillCan_17 : decode cX3_fillCan 17 = .ok (.iconst 1, 1) := by decide +kernel
theorem dX3_fillCan_18 : decode cX3_fillCan 18 = .ok (.istore 4, 2) := by decide +kernel
theorem dX3_fillCan_20 : decode cX3_fillCan 20 = .ok (.iload 4, 2) := by decide +kernel
theorem dX3_fillCan_22 : decode cX3_fillCan 22 = .ok (.bipush 99, 2) := by decide +kernel
theorem dX3_fillCan_24 : decode cX3_fillCan 24 = .ok (.if_icmp .gt 17, 3) := by decide +kernel
theorem dX3_fillCan_27 : decode cX3_fillCan 27 = .ok (.aload_n 0, 1) := by decide +kernel
theorem dX3_fillCan_28 : decode cX3_fillCan 28 = .ok (.getfield 21, 3) := by decide +kernel
theorem dX3_fillCan_31 : decode cX3_fillCan 31 = .ok (.iload 4, 2) := by decide +kernel
theorem dX3_fillCan_33 : decode cX3_fillCan 33 = .ok (.iconst 0, 1) := by decide +kernel
theorem dX3_fillCan_34 : decode cX3_fillCan 34 = .ok (.bastore, 1) := by decide +kernel
theorem dX3_fillCan_35 : decode cX3_fillCan 35 = .ok (.iinc 4 1, 3) := by decide +kernel
theorem dX3_fillCan_38 : decode cX3_fillCan 38 = .ok (.goto (-18), 3) := by decide +kernel
theorem dX3_fillCan_41 : decode cX3_fillCan 41 = .ok (.iconst 1, 1) := by decide +kernel
theorem dX3_fillCan_42 : decode cX3_fillCan 42 = .ok (.istore 4, 2) := by decide +kernel
theorem dX3_fillCan_44 : decode cX3_fillCan 44 = .ok (.iload 4, 2) := by decide +kernel
theorem dX3_fillCan_46 : decode cX3_fillCan 46 = .ok (.bipush 30, 2) := by decide +kernel
theorem dX3_fillCan_48 : decode cX3_fillCan 48 = .ok (.if_icmp .gt 80, 3) := by decide +kernel
theorem dX3_fillCan_51 : decode cX3_fillCan 51 = .ok (.iload_n 3, 1) := by decide +kernel
theorem dX3_fillCan_52 : decode cX3_fillCan 52 = .ok (.iload 4, 2) := by decide +kernel
theorem dX3_fillCan_54 : decode cX3_fillCan 54 = .ok (.invokestatic 56, 3) := by decide +kernel
theorem dX3_fillCan_57 : decode cX3_fillCan 57 = .ok (.ifCond .eq 65, 3) := by decide +kernel
theorem dX3_fillCan_60 : decode cX3_fillCan 60 = .ok (.aload_n 0, 1) := by decide +kernel
theorem dX3_fillCan_61 : decode cX3_fillCan 61 = .ok (.getfield 21, 3) := by decide +kernel
theorem dX3_fillCan_64 : decode cX3_fillCan 64 = .ok (.iload 4, 2) := by decide +kernel
theorem dX3_fillCan_66 : decode cX3_fillCan 66 = .ok (.baload, 1) := by decide +kernel
theorem dX3_fillCan_67 : decode cX3_fillCan 67 = .ok (.ifCond .ne 55, 3) := by decide +kernel
theorem dX3_fillCan_70 : decode cX3_fillCan 70 = .ok (.iload 4, 2) := by decide +kernel
theorem dX3_fillCan_72 : decode cX3_fillCan 72 = .ok (.istore 5, 2) := by decide +kernel
theorem dX3_fillCan_74 : decode cX3_fillCan 74 = .ok (.iload 5, 2) := by decide +kernel
theorem dX3_fillCan_76 : decode cX3_fillCan 76 = .ok (.bipush 99, 2) := by decide +kernel
theorem dX3_fillCan_78 : decode cX3_fillCan 78 = .ok (.if_icmp .gt 44, 3) := by decide +kernel
theorem dX3_fillCan_81 : decode cX3_fillCan 81 = .ok (.aload_n 0, 1) := by decide +kernel
theorem dX3_fillCan_82 : decode cX3_fillCan 82 = .ok (.getfield 21, 3) := by decide +kernel
theorem dX3_fillCan_85 : decode cX3_fillCan 85 = .ok (.iload 5, 2) := by decide +kernel
theorem dX3_fillCan_87 : decode cX3_fillCan 87 = .ok (.aload_n 0, 1) := by decide +kernel
theorem dX3_fillCan_88 : decode cX3_fillCan 88 = .ok (.getfield 21, 3) := by decide +kernel
theorem dX3_fillCan_91 : decode cX3_fillCan 91 = .ok (.iload 5, 2) := by decide +kernel
theorem dX3_fillCan_93 : decode cX3_fillCan 93 = .ok (.baload, 1) := by decide +kernel
theorem dX3_fillCan_94 : decode cX3_fillCan 94 = .ok (.ifCond .ne 16, 3) := by decide +kernel
theorem dX3_fillCan_97 : decode cX3_fillCan 97 = .ok (.aload_n 0, 1) := by decide +kernel
theorem dX3_fillCan_98 : decode cX3_fillCan 98 = .ok (.getfield 21, 3) := by decide +kernel
theorem dX3_fillCan_101 : decode cX3_fillCan 101 = .ok (.iload 5, 2) := by decide +kernel
theorem dX3_fillCan_103 : decode cX3_fillCan 103 = .ok (.iload 4, 2) := by decide +kernel
theorem dX3_fillCan_105 : decode cX3_fillCan 105 = .ok (.isub, 1) := by decide +kernel
theorem dX3_fillCan_106 : decode cX3_fillCan 106 = .ok (.baload, 1) := by decide +kernel
theorem dX3_fillCan_107 : decode cX3_fillCan 107 = .ok (.ifCond .eq 7, 3) := by decide +kernel
theorem dX3_fillCan_110 : decode cX3_fillCan 110 = .ok (.iconst 1, 1) := by decide +kernel
theorem dX3_fillCan_111 : decode cX3_fillCan 111 = .ok (.goto 4, 3) := by decide +kernel
theorem dX3_fillCan_114 : decode cX3_fillCan 114 = .ok (.iconst 0, 1) := by decide +kernel
theorem dX3_fillCan_115 : decode cX3_fillCan 115 = .ok (.bastore, 1) := by decide +kernel
theorem dX3_fillCan_116 : decode cX3_fillCan 116 = .ok (.iinc 5 1, 3) := by decide +kernel
theorem dX3_fillCan_119 : decode cX3_fillCan 119 = .ok (.goto (-45), 3) := by decide +kernel
theorem dX3_fillCan_122 : decode cX3_fillCan 122 = .ok (.iinc 4 1, 3) := by decide +kernel
theorem dX3_fillCan_125 : decode cX3_fillCan 125 = .ok (.goto (-81), 3) := by decide +kernel
theorem dX3_fillCan_128 : decode cX3_fillCan 128 = .ok (.return_, 1) := by decide +kernel
theorem dX3_payable_0 : decode cX3_payable 0 = .ok (.aload_n 0, 1) := by decide +kernel
theorem dX3_payable_1 : decode cX3_payable 1 = .ok (.aload_n 1, 1) := by decide +kernel
theorem dX3_payable_2 : decode cX3_payable 2 = .ok (.aload_n 2, 1) := by decide +kernel
theorem dX3_payable_3 : decode cX3_payable 3 = .ok (.invokevirtual 60, 3) := by decide +kernel
theorem dX3_payable_6 : decode cX3_payable 6 = .ok (.iconst 0, 1) := by decide +kernel
theorem dX3_payable_7 : decode cX3_payable 7 = .ok (.istore_n 3, 1) := by decide +kernel
theorem dX3_payable_8 : decode cX3_payable 8 = .ok (.iconst 1, 1) := by decide +kernel
theorem dX3_payable_9 : decode cX3_payable 9 = .ok (.istore 4, 2) := by decide +kernel
theorem dX3_payable_11 : decode cX3_payable 11 = .ok (.iload 4, 2) := by decide +kernel
theorem dX3_payable_13 : decode cX3_payable 13 = .ok (.bipush 99, 2) := by decide +kernel
theorem dX3_payable_15 : decode cX3_payable 15 = .ok (.if_icmp .gt 22, 3) := by decide +kernel
theorem dX3_payable_18 : decode cX3_payable 18 = .ok (.iload_n 3, 1) := by decide +kernel
theorem dX3_payable_19 : decode cX3_payable 19 = .ok (.aload_n 0, 1) := by decide +kernel
theorem dX3_payable_20 : decode cX3_payable 20 = .ok (.getfield 21, 3) := by decide +kernel
theorem dX3_payable_23 : decode cX3_payable 23 = .ok (.iload 4, 2) := by decide +kernel
theorem dX3_payable_25 : decode cX3_payable 25 = .ok (.baload, 1) := by decide +kernel
theorem dX3_payable_26 : decode cX3_payable 26 = .ok (.invokestatic 64, 3) := by decide +kernel
theorem dX3_payable_29 : decode cX3_payable 29 = .ok (.iadd, 1) := by decide +kernel
theorem dX3_payable_30 : decode cX3_payable 30 = .ok (.istore_n 3, 1) := by decide +kernel
theorem dX3_payable_31 : decode cX3_payable 31 = .ok (.iinc 4 1, 3) := by decide +kernel
theorem dX3_payable_34 : decode cX3_payable 34 = .ok (.goto (-23), 3) := by decide +kernel
theorem dX3_payable_37 : decode cX3_payable 37 = .ok (.iload_n 3, 1) := by decide +kernel
theorem dX3_payable_38 : decode cX3_payable 38 = .ok (.ireturn, 1) := by decide +kernel
theorem dX3_hindered_0 : decode cX3_hindered 0 = .ok (.aload_n 0, 1) := by decide +kernel
theorem dX3_hindered_1 : decode cX3_hindered 1 = .ok (.aload_n 1, 1) := by decide +kernel
theorem dX3_hindered_2 : decode cX3_hindered 2 = .ok (.aload_n 2, 1) := by decide +kernel
theorem dX3_hindered_3 : decode cX3_hindered 3 = .ok (.invokevirtual 60, 3) := by decide +kernel
theorem dX3_hindered_6 : decode cX3_hindered 6 = .ok (.iconst 0, 1) := by decide +kernel
theorem dX3_hindered_7 : decode cX3_hindered 7 = .ok (.istore 4, 2) := by decide +kernel
theorem dX3_hindered_9 : decode cX3_hindered 9 = .ok (.iconst (-1), 1) := by decide +kernel
theorem dX3_hindered_10 : decode cX3_hindered 10 = .ok (.istore 5, 2) := by decide +kernel
theorem dX3_hindered_12 : decode cX3_hindered 12 = .ok (.iconst 0, 1) := by decide +kernel
theorem dX3_hindered_13 : decode cX3_hindered 13 = .ok (.istore 6, 2) := by decide +kernel
theorem dX3_hindered_15 : decode cX3_hindered 15 = .ok (.iconst 1, 1) := by decide +kernel
theorem dX3_hindered_16 : decode cX3_hindered 16 = .ok (.istore 7, 2) := by decide +kernel
theorem dX3_hindered_18 : decode cX3_hindered 18 = .ok (.iload 7, 2) := by decide +kernel
theorem dX3_hindered_20 : decode cX3_hindered 20 = .ok (.bipush 99, 2) := by decide +kernel
theorem dX3_hindered_22 : decode cX3_hindered 22 = .ok (.if_icmp .gt 74, 3) := by decide +kernel
theorem dX3_hindered_25 : decode cX3_hindered 25 = .ok (.aload_n 0, 1) := by decide +kernel
theorem dX3_hindered_26 : decode cX3_hindered 26 = .ok (.getfield 21, 3) := by decide +kernel
theorem dX3_hindered_29 : decode cX3_hindered 29 = .ok (.iload 7, 2) := by decide +kernel
theorem dX3_hindered_31 : decode cX3_hindered 31 = .ok (.baload, 1) := by decide +kernel
theorem dX3_hindered_32 : decode cX3_hindered 32 = .ok (.ifCond .ne 58, 3) := by decide +kernel
theorem dX3_hindered_35 : decode cX3_hindered 35 = .ok (.aload_n 0, 1) := by decide +kernel
theorem dX3_hindered_36 : decode cX3_hindered 36 = .ok (.getfield 28, 3) := by decide +kernel
theorem dX3_hindered_39 : decode cX3_hindered 39 = .ok (.aload_n 1, 1) := by decide +kernel
theorem dX3_hindered_40 : decode cX3_hindered 40 = .ok (.iload 7, 2) := by decide +kernel
theorem dX3_hindered_42 : decode cX3_hindered 42 = .ok (.invokevirtual 68, 3) := by decide +kernel
theorem dX3_hindered_45 : decode cX3_hindered 45 = .ok (.ifCond .eq 45, 3) := by decide +kernel
theorem dX3_hindered_48 : decode cX3_hindered 48 = .ok (.iinc 4 1, 3) := by decide +kernel
theorem dX3_hindered_51 : decode cX3_hindered 51 = .ok (.iload 5, 2) := by decide +kernel
theorem dX3_hindered_53 : decode cX3_hindered 53 = .ok (.iconst (-1), 1) := by decide +kernel
theorem dX3_hindered_54 : decode cX3_hindered 54 = .ok (.if_icmp .ne 8, 3) := by decide +kernel
theorem dX3_hindered_57 : decode cX3_hindered 57 = .ok (.iload 7, 2) := by decide +kernel
theorem dX3_hindered_59 : decode cX3_hindered 59 = .ok (.goto 5, 3) := by decide +kernel
theorem dX3_hindered_62 : decode cX3_hindered 62 = .ok (.iload 5, 2) := by decide +kernel
theorem dX3_hindered_64 : decode cX3_hindered 64 = .ok (.istore 5, 2) := by decide +kernel
theorem dX3_hindered_66 : decode cX3_hindered 66 = .ok (.iload 6, 2) := by decide +kernel
theorem dX3_hindered_68 : decode cX3_hindered 68 = .ok (.iload_n 3, 1) := by decide +kernel
theorem dX3_hindered_69 : decode cX3_hindered 69 = .ok (.iconst 2, 1) := by decide +kernel
theorem dX3_hindered_70 : decode cX3_hindered 70 = .ok (.if_icmp .ne 16, 3) := by decide +kernel
theorem dX3_hindered_73 : decode cX3_hindered 73 = .ok (.aload_n 0, 1) := by decide +kernel
theorem dX3_hindered_74 : decode cX3_hindered 74 = .ok (.getfield 28, 3) := by decide +kernel
theorem dX3_hindered_77 : decode cX3_hindered 77 = .ok (.aload_n 1, 1) := by decide +kernel
theorem dX3_hindered_78 : decode cX3_hindered 78 = .ok (.iload 7, 2) := by decide +kernel
theorem dX3_hindered_80 : decode cX3_hindered 80 = .ok (.invokevirtual 72, 3) := by decide +kernel
theorem dX3_hindered_83 : decode cX3_hindered 83 = .ok (.goto 4, 3) := by decide +kernel
theorem dX3_hindered_86 : decode cX3_hindered 86 = .ok (.iconst 0, 1) := by decide +kernel
theorem dX3_hindered_87 : decode cX3_hindered 87 = .ok (.iadd, 1) := by decide +kernel
theorem dX3_hindered_88 : decode cX3_hindered 88 = .ok (.istore 6, 2) := by decide +kernel
theorem dX3_hindered_90 : decode cX3_hindered 90 = .ok (.iinc 7 1, 3) := by decide +kernel
theorem dX3_hindered_93 : decode cX3_hindered 93 = .ok (.goto (-75), 3) := by decide +kernel
theorem dX3_hindered_96 : decode cX3_hindered 96 = .ok (.iload_n 3, 1) := by decide +kernel
theorem dX3_hindered_97 : decode cX3_hindered 97 = .ok (.ifCond .ne 8, 3) := by decide +kernel
theorem dX3_hindered_100 : decode cX3_hindered 100 = .ok (.iload 4, 2) := by decide +kernel
theorem dX3_hindered_102 : decode cX3_hindered 102 = .ok (.goto 15, 3) := by decide +kernel
theorem dX3_hindered_105 : decode cX3_hindered 105 = .ok (.iload_n 3, 1) := by decide +kernel
theorem dX3_hindered_106 : decode cX3_hindered 106 = .ok (.iconst 1, 1) := by decide +kernel
theorem dX3_hindered_107 : decode cX3_hindered 107 = .ok (.if_icmp .ne 8, 3) := by decide +kernel
theorem dX3_hindered_110 : decode cX3_hindered 110 = .ok (.iload 5, 2) := by decide +kernel
theorem dX3_hindered_112 : decode cX3_hindered 112 = .ok (.goto 5, 3) := by decide +kernel
theorem dX3_hindered_115 : decode cX3_hindered 115 = .ok (.iload 6, 2) := by decide +kernel
theorem dX3_hindered_117 : decode cX3_hindered 117 = .ok (.ireturn, 1) := by decide +kernel
theorem dX3_hearNone_0 : decode cX3_hearNone 0 = .ok (.iconst 0, 1) := by decide +kernel
theorem dX3_hearNone_1 : decode cX3_hearNone 1 = .ok (.istore_n 1, 1) := by decide +kernel
theorem dX3_hearNone_2 : decode cX3_hearNone 2 = .ok (.iload_n 1, 1) := by decide +kernel
theorem dX3_hearNone_3 : decode cX3_hearNone 3 = .ok (.bipush 99, 2) := by decide +kernel
theorem dX3_hearNone_5 : decode cX3_hearNone 5 = .ok (.if_icmp .gt 16, 3) := by decide +kernel
theorem dX3_hearNone_8 : decode cX3_hearNone 8 = .ok (.aload_n 0, 1) := by decide +kernel
theorem dX3_hearNone_9 : decode cX3_hearNone 9 = .ok (.getfield 25, 3) := by decide +kernel
theorem dX3_hearNone_12 : decode cX3_hearNone 12 = .ok (.iload_n 1, 1) := by decide +kernel
theorem dX3_hearNone_13 : decode cX3_hearNone 13 = .ok (.iconst 0, 1) := by decide +kernel
theorem dX3_hearNone_14 : decode cX3_hearNone 14 = .ok (.bastore, 1) := by decide +kernel
theorem dX3_hearNone_15 : decode cX3_hearNone 15 = .ok (.iinc 1 1, 3) := by decide +kernel
theorem dX3_hearNone_18 : decode cX3_hearNone 18 = .ok (.goto (-16), 3) := by decide +kernel
theorem dX3_hearNone_21 : decode cX3_hearNone 21 = .ok (.return_, 1) := by decide +kernel
theorem dX3_hear_0 : decode cX3_hear 0 = .ok (.aload_n 1, 1) := by decide +kernel
theorem dX3_hear_1 : decode cX3_hear 1 = .ok (.ifnull 7, 3) := by decide +kernel
theorem dX3_hear_4 : decode cX3_hear 4 = .ok (.aload_n 2, 1) := by decide +kernel
theorem dX3_hear_5 : decode cX3_hear 5 = .ok (.ifnonnull 4, 3) := by decide +kernel
theorem dX3_hear_8 : decode cX3_hear 8 = .ok (.return_, 1) := by decide +kernel
theorem dX3_hear_9 : decode cX3_hear 9 = .ok (.aload_n 0, 1) := by decide +kernel
theorem dX3_hear_10 : decode cX3_hear 10 = .ok (.aload_n 1, 1) := by decide +kernel
theorem dX3_hear_11 : decode cX3_hear 11 = .ok (.aload_n 2, 1) := by decide +kernel
theorem dX3_hear_12 : decode cX3_hear 12 = .ok (.invokevirtual 60, 3) := by decide +kernel
theorem dX3_hear_15 : decode cX3_hear 15 = .ok (.iconst 0, 1) := by decide +kernel
theorem dX3_hear_16 : decode cX3_hear 16 = .ok (.istore_n 3, 1) := by decide +kernel
theorem dX3_hear_17 : decode cX3_hear 17 = .ok (.iload_n 3, 1) := by decide +kernel
theorem dX3_hear_18 : decode cX3_hear 18 = .ok (.bipush 99, 2) := by decide +kernel
theorem dX3_hear_20 : decode cX3_hear 20 = .ok (.if_icmp .gt 38, 3) := by decide +kernel
theorem dX3_hear_23 : decode cX3_hear 23 = .ok (.aload_n 0, 1) := by decide +kernel
theorem dX3_hear_24 : decode cX3_hear 24 = .ok (.getfield 25, 3) := by decide +kernel
theorem dX3_hear_27 : decode cX3_hear 27 = .ok (.iload_n 3, 1) := by decide +kernel
theorem dX3_hear_28 : decode cX3_hear 28 = .ok (.aload_n 0, 1) := by decide +kernel
theorem dX3_hear_29 : decode cX3_hear 29 = .ok (.getfield 25, 3) := by decide +kernel
theorem dX3_hear_32 : decode cX3_hear 32 = .ok (.iload_n 3, 1) := by decide +kernel
theorem dX3_hear_33 : decode cX3_hear 33 = .ok (.baload, 1) := by decide +kernel
theorem dX3_hear_34 : decode cX3_hear 34 = .ok (.ifCond .ne 12, 3) := by decide +kernel
theorem dX3_hear_37 : decode cX3_hear 37 = .ok (.aload_n 0, 1) := by decide +kernel
theorem dX3_hear_38 : decode cX3_hear 38 = .ok (.getfield 21, 3) := by decide +kernel
theorem dX3_hear_41 : decode cX3_hear 41 = .ok (.iload_n 3, 1) := by decide +kernel
theorem dX3_hear_42 : decode cX3_hear 42 = .ok (.baload, 1) := by decide +kernel
theorem dX3_hear_43 : decode cX3_hear 43 = .ok (.ifCond .eq 7, 3) := by decide +kernel
theorem dX3_hear_46 : decode cX3_hear 46 = .ok (.iconst 1, 1) := by decide +kernel
theorem dX3_hear_47 : decode cX3_hear 47 = .ok (.goto 4, 3) := by decide +kernel
theorem dX3_hear_50 : decode cX3_hear 50 = .ok (.iconst 0, 1) := by decide +kernel
theorem dX3_hear_51 : decode cX3_hear 51 = .ok (.bastore, 1) := by decide +kernel
theorem dX3_hear_52 : decode cX3_hear 52 = .ok (.iinc 3 1, 3) := by decide +kernel
theorem dX3_hear_55 : decode cX3_hear 55 = .ok (.goto (-38), 3) := by decide +kernel
theorem dX3_hear_58 : decode cX3_hear 58 = .ok (.return_, 1) := by decide +kernel
theorem dX3_unheard_0 : decode cX3_unheard 0 = .ok (.iconst 0, 1) := by decide +kernel
theorem dX3_unheard_1 : decode cX3_unheard 1 = .ok (.istore_n 1, 1) := by decide +kernel
theorem dX3_unheard_2 : decode cX3_unheard 2 = .ok (.iconst 1, 1) := by decide +kernel
theorem dX3_unheard_3 : decode cX3_unheard 3 = .ok (.istore_n 2, 1) := by decide +kernel
theorem dX3_unheard_4 : decode cX3_unheard 4 = .ok (.iload_n 2, 1) := by decide +kernel
theorem dX3_unheard_5 : decode cX3_unheard 5 = .ok (.bipush 99, 2) := by decide +kernel
theorem dX3_unheard_7 : decode cX3_unheard 7 = .ok (.if_icmp .gt 29, 3) := by decide +kernel
theorem dX3_unheard_10 : decode cX3_unheard 10 = .ok (.iload_n 1, 1) := by decide +kernel
theorem dX3_unheard_11 : decode cX3_unheard 11 = .ok (.aload_n 0, 1) := by decide +kernel
theorem dX3_unheard_12 : decode cX3_unheard 12 = .ok (.getfield 25, 3) := by decide +kernel
theorem dX3_unheard_15 : decode cX3_unheard 15 = .ok (.iload_n 2, 1) := by decide +kernel
theorem dX3_unheard_16 : decode cX3_unheard 16 = .ok (.baload, 1) := by decide +kernel
theorem dX3_unheard_17 : decode cX3_unheard 17 = .ok (.ifCond .ne 7, 3) := by decide +kernel
theorem dX3_unheard_20 : decode cX3_unheard 20 = .ok (.iconst 1, 1) := by decide +kernel
theorem dX3_unheard_21 : decode cX3_unheard 21 = .ok (.goto 4, 3) := by decide +kernel
theorem dX3_unheard_24 : decode cX3_unheard 24 = .ok (.iconst 0, 1) := by decide +kernel
theorem dX3_unheard_25 : decode cX3_unheard 25 = .ok (.invokestatic 64, 3) := by decide +kernel
theorem dX3_unheard_28 : decode cX3_unheard 28 = .ok (.iadd, 1) := by decide +kernel
theorem dX3_unheard_29 : decode cX3_unheard 29 = .ok (.istore_n 1, 1) := by decide +kernel
theorem dX3_unheard_30 : decode cX3_unheard 30 = .ok (.iinc 2 1, 3) := by decide +kernel
theorem dX3_unheard_33 : decode cX3_unheard 33 = .ok (.goto (-29), 3) := by decide +kernel
theorem dX3_unheard_36 : decode cX3_unheard 36 = .ok (.iload_n 1, 1) := by decide +kernel
theorem dX3_unheard_37 : decode cX3_unheard 37 = .ok (.ireturn, 1) := by decide +kernel
theorem dX3_firstUnheard_0 : decode cX3_firstUnheard 0 = .ok (.iconst 1, 1) := by decide +kernel
theorem dX3_firstUnheard_1 : decode cX3_firstUnheard 1 = .ok (.istore_n 1, 1) := by decide +kernel
theorem dX3_firstUnheard_2 : decode cX3_firstUnheard 2 = .ok (.iload_n 1, 1) := by decide +kernel
theorem dX3_firstUnheard_3 : decode cX3_firstUnheard 3 = .ok (.bipush 99, 2) := by decide +kernel
theorem dX3_firstUnheard_5 : decode cX3_firstUnheard 5 = .ok (.if_icmp .gt 20, 3) := by decide +kernel
theorem dX3_firstUnheard_8 : decode cX3_firstUnheard 8 = .ok (.aload_n 0, 1) := by decide +kernel
theorem dX3_firstUnheard_9 : decode cX3_firstUnheard 9 = .ok (.getfield 25, 3) := by decide +kernel
theorem dX3_firstUnheard_12 : decode cX3_firstUnheard 12 = .ok (.iload_n 1, 1) := by decide +kernel
theorem dX3_firstUnheard_13 : decode cX3_firstUnheard 13 = .ok (.baload, 1) := by decide +kernel
theorem dX3_firstUnheard_14 : decode cX3_firstUnheard 14 = .ok (.ifCond .ne 5, 3) := by decide +kernel
theorem dX3_firstUnheard_17 : decode cX3_firstUnheard 17 = .ok (.iload_n 1, 1) := by decide +kernel
theorem dX3_firstUnheard_18 : decode cX3_firstUnheard 18 = .ok (.ireturn, 1) := by decide +kernel
theorem dX3_firstUnheard_19 : decode cX3_firstUnheard 19 = .ok (.iinc 1 1, 3) := by decide +kernel
theorem dX3_firstUnheard_22 : decode cX3_firstUnheard 22 = .ok (.goto (-20), 3) := by decide +kernel
theorem dX3_firstUnheard_25 : decode cX3_firstUnheard 25 = .ok (.iconst (-1), 1) := by decide +kernel
theorem dX3_firstUnheard_26 : decode cX3_firstUnheard 26 = .ok (.ireturn, 1) := by decide +kernel
theorem dX3_firstOtherwise_0 : decode cX3_firstOtherwise 0 = .ok (.aload_n 0, 1) := by decide +kernel
theorem dX3_firstOtherwise_1 : decode cX3_firstOtherwise 1 = .ok (.aload_n 2, 1) := by decide +kernel
theorem dX3_firstOtherwise_2 : decode cX3_firstOtherwise 2 = .ok (.aload_n 3, 1) := by decide +kernel
theorem dX3_firstOtherwise_3 : decode cX3_firstOtherwise 3 = .ok (.bipush 99, 2) := by decide +kernel
theorem dX3_firstOtherwise_5 : decode cX3_firstOtherwise 5 = .ok (.iconst 0, 1) := by decide +kernel
theorem dX3_firstOtherwise_6 : decode cX3_firstOtherwise 6 = .ok (.invokevirtual 75, 3) := by decide +kernel
theorem dX3_firstOtherwise_9 : decode cX3_firstOtherwise 9 = .ok (.iconst 0, 1) := by decide +kernel
theorem dX3_firstOtherwise_10 : decode cX3_firstOtherwise 10 = .ok (.istore 4, 2) := by decide +kernel
theorem dX3_firstOtherwise_12 : decode cX3_firstOtherwise 12 = .ok (.iload 4, 2) := by decide +kernel
theorem dX3_firstOtherwise_14 : decode cX3_firstOtherwise 14 = .ok (.iconst 1, 1) := by decide +kernel
theorem dX3_firstOtherwise_15 : decode cX3_firstOtherwise 15 = .ok (.iadd, 1) := by decide +kernel
theorem dX3_firstOtherwise_16 : decode cX3_firstOtherwise 16 = .ok (.aload_n 1, 1) := by decide +kernel
theorem dX3_firstOtherwise_17 : decode cX3_firstOtherwise 17 = .ok (.getfield 79, 3) := by decide +kernel
theorem dX3_firstOtherwise_20 : decode cX3_firstOtherwise 20 = .ok (.if_icmp .ge 35, 3) := by decide +kernel
theorem dX3_firstOtherwise_23 : decode cX3_firstOtherwise 23 = .ok (.aload_n 0, 1) := by decide +kernel
theorem dX3_firstOtherwise_24 : decode cX3_firstOtherwise 24 = .ok (.aload_n 1, 1) := by decide +kernel
theorem dX3_firstOtherwise_25 : decode cX3_firstOtherwise 25 = .ok (.iload 4, 2) := by decide +kernel
theorem dX3_firstOtherwise_27 : decode cX3_firstOtherwise 27 = .ok (.invokevirtual 85, 3) := by decide +kernel
theorem dX3_firstOtherwise_30 : decode cX3_firstOtherwise 30 = .ok (.invokevirtual 88, 3) := by decide +kernel
theorem dX3_firstOtherwise_33 : decode cX3_firstOtherwise 33 = .ok (.aload_n 1, 1) := by decide +kernel
theorem dX3_firstOtherwise_34 : decode cX3_firstOtherwise 34 = .ok (.iload 4, 2) := by decide +kernel
theorem dX3_firstOtherwise_36 : decode cX3_firstOtherwise 36 = .ok (.iconst 1, 1) := by decide +kernel
theorem dX3_firstOtherwise_37 : decode cX3_firstOtherwise 37 = .ok (.iadd, 1) := by decide +kernel
theorem dX3_firstOtherwise_38 : decode cX3_firstOtherwise 38 = .ok (.invokevirtual 85, 3) := by decide +kernel
theorem dX3_firstOtherwise_41 : decode cX3_firstOtherwise 41 = .ok (.if_icmp .eq 8, 3) := by decide +kernel
theorem dX3_firstOtherwise_44 : decode cX3_firstOtherwise 44 = .ok (.iload 4, 2) := by decide +kernel
theorem dX3_firstOtherwise_46 : decode cX3_firstOtherwise 46 = .ok (.iconst 2, 1) := by decide +kernel
theorem dX3_firstOtherwise_47 : decode cX3_firstOtherwise 47 = .ok (.idiv, 1) := by decide +kernel
theorem dX3_firstOtherwise_48 : decode cX3_firstOtherwise 48 = .ok (.ireturn, 1) := by decide +kernel
theorem dX3_firstOtherwise_49 : decode cX3_firstOtherwise 49 = .ok (.iinc 4 2, 3) := by decide +kernel
theorem dX3_firstOtherwise_52 : decode cX3_firstOtherwise 52 = .ok (.goto (-40), 3) := by decide +kernel
theorem dX3_firstOtherwise_55 : decode cX3_firstOtherwise 55 = .ok (.iconst (-1), 1) := by decide +kernel
theorem dX3_firstOtherwise_56 : decode cX3_firstOtherwise 56 = .ok (.ireturn, 1) := by decide +kernel
theorem dX4_init_0 : decode cX4_init 0 = .ok (.aload_n 0, 1) := by decide +kernel
theorem dX4_init_1 : decode cX4_init 1 = .ok (.invokespecial 5, 3) := by decide +kernel
theorem dX4_init_4 : decode cX4_init 4 = .ok (.aload_n 0, 1) := by decide +kernel
theorem dX4_init_5 : decode cX4_init 5 = .ok (.sipush 160, 3) := by decide +kernel
theorem dX4_init_8 : decode cX4_init 8 = .ok (.newarray .int, 2) := by decide +kernel
theorem dX4_init_10 : decode cX4_init 10 = .ok (.putfield 11, 3) := by decide +kernel
theorem dX4_init_13 : decode cX4_init 13 = .ok (.return_, 1) := by decide +kernel
theorem dX4_put_0 : decode cX4_put 0 = .ok (.aload_n 0, 1) := by decide +kernel
theorem dX4_put_1 : decode cX4_put 1 = .ok (.getfield 15, 3) := by decide +kernel
theorem dX4_put_4 : decode cX4_put 4 = .ok (.aload_n 0, 1) := by decide +kernel
theorem dX4_put_5 : decode cX4_put 5 = .ok (.getfield 11, 3) := by decide +kernel
theorem dX4_put_8 : decode cX4_put 8 = .ok (.arraylength, 1) := by decide +kernel
theorem dX4_put_9 : decode cX4_put 9 = .ok (.if_icmp .lt 5, 3) := by decide +kernel
theorem dX4_put_12 : decode cX4_put 12 = .ok (.iconst 0, 1) := by decide +kernel
theorem dX4_put_13 : decode cX4_put 13 = .ok (.ireturn, 1) := by decide +kernel
theorem dX4_put_14 : decode cX4_put 14 = .ok (.aload_n 0, 1) := by decide +kernel
theorem dX4_put_15 : decode cX4_put 15 = .ok (.getfield 11, 3) := by decide +kernel
theorem dX4_put_18 : decode cX4_put 18 = .ok (.aload_n 0, 1) := by decide +kernel
theorem dX4_put_19 : decode cX4_put 19 = .ok (.getfield 15, 3) := by decide +kernel
theorem dX4_put_22 : decode cX4_put 22 = .ok (.iload_n 1, 1) := by decide +kernel
theorem dX4_put_23 : decode cX4_put 23 = .ok (.iastore, 1) := by decide +kernel
theorem dX4_put_24 : decode cX4_put 24 = .ok (.aload_n 0, 1) := by decide +kernel
theorem dX4_put_25 : decode cX4_put 25 = .ok (.dup, 1) := by decide +kernel
theorem dX4_put_26 : decode cX4_put 26 = .ok (.getfield 15, 3) := by decide +kernel
theorem dX4_put_29 : decode cX4_put 29 = .ok (.iconst 1, 1) := by decide +kernel
theorem dX4_put_30 : decode cX4_put 30 = .ok (.iadd, 1) := by decide +kernel
theorem dX4_put_31 : decode cX4_put 31 = .ok (.putfield 15, 3) := by decide +kernel
theorem dX4_put_34 : decode cX4_put 34 = .ok (.iconst 1, 1) := by decide +kernel
theorem dX4_put_35 : decode cX4_put 35 = .ok (.ireturn, 1) := by decide +kernel
theorem dX4_read_0 : decode cX4_read 0 = .ok (.aload_n 0, 1) := by decide +kernel
theorem dX4_read_1 : decode cX4_read 1 = .ok (.aload_n 1, 1) := by decide +kernel
theorem dX4_read_2 : decode cX4_read 2 = .ok (.putfield 19, 3) := by decide +kernel
theorem dX4_read_5 : decode cX4_read 5 = .ok (.aload_n 0, 1) := by decide +kernel
theorem dX4_read_6 : decode cX4_read 6 = .ok (.iconst 0, 1) := by decide +kernel
theorem dX4_read_7 : decode cX4_read 7 = .ok (.putfield 22, 3) := by decide +kernel
theorem dX4_read_10 : decode cX4_read 10 = .ok (.aload_n 0, 1) := by decide +kernel
theorem dX4_read_11 : decode cX4_read 11 = .ok (.iconst 0, 1) := by decide +kernel
theorem dX4_read_12 : decode cX4_read 12 = .ok (.putfield 25, 3) := by decide +kernel
theorem dX4_read_15 : decode cX4_read 15 = .ok (.aload_n 0, 1) := by decide +kernel
theorem dX4_read_16 : decode cX4_read 16 = .ok (.invokevirtual 28, 3) := by decide +kernel
theorem dX4_read_19 : decode cX4_read 19 = .ok (.iconst 1, 1) := by decide +kernel
theorem dX4_read_20 : decode cX4_read 20 = .ok (.istore_n 3, 1) := by decide +kernel
theorem dX4_read_21 : decode cX4_read 21 = .ok (.iconst 0, 1) := by decide +kernel
theorem dX4_read_22 : decode cX4_read 22 = .ok (.istore 4, 2) := by decide +kernel
theorem dX4_read_24 : decode cX4_read 24 = .ok (.iload 4, 2) := by decide +kernel
theorem dX4_read_26 : decode cX4_read 26 = .ok (.aload_n 2, 1) := by decide +kernel
theorem dX4_read_27 : decode cX4_read 27 = .ok (.arraylength, 1) := by decide +kernel
theorem dX4_read_28 : decode cX4_read 28 = .ok (.if_icmp .ge 32, 3) := by decide +kernel
theorem dX4_read_31 : decode cX4_read 31 = .ok (.iload_n 3, 1) := by decide +kernel
theorem dX4_read_32 : decode cX4_read 32 = .ok (.ifCond .eq 28, 3) := by decide +kernel
theorem dX4_read_35 : decode cX4_read 35 = .ok (.aload_n 2, 1) := by decide +kernel
theorem dX4_read_36 : decode cX4_read 36 = .ok (.iload 4, 2) := by decide +kernel
theorem dX4_read_38 : decode cX4_read 38 = .ok (.aload_n 0, 1) := by decide +kernel
theorem dX4_read_39 : decode cX4_read 39 = .ok (.getfield 22, 3) := by decide +kernel
theorem dX4_read_42 : decode cX4_read 42 = .ok (.iastore, 1) := by decide +kernel
theorem dX4_read_43 : decode cX4_read 43 = .ok (.aload_n 0, 1) := by decide +kernel
theorem dX4_read_44 : decode cX4_read 44 = .ok (.sipush 1006, 3) := by decide +kernel
theorem dX4_read_47 : decode cX4_read 47 = .ok (.iload 4, 2) := by decide +kernel
theorem dX4_read_49 : decode cX4_read 49 = .ok (.iadd, 1) := by decide +kernel
theorem dX4_read_50 : decode cX4_read 50 = .ok (.invokevirtual 31, 3) := by decide +kernel
theorem dX4_read_53 : decode cX4_read 53 = .ok (.istore_n 3, 1) := by decide +kernel
theorem dX4_read_54 : decode cX4_read 54 = .ok (.iinc 4 1, 3) := by decide +kernel
theorem dX4_read_57 : decode cX4_read 57 = .ok (.goto (-33), 3) := by decide +kernel
theorem dX4_read_60 : decode cX4_read 60 = .ok (.aload_n 0, 1) := by decide +kernel
theorem dX4_read_61 : decode cX4_read 61 = .ok (.iconst 0, 1) := by decide +kernel
theorem dX4_read_62 : decode cX4_read 62 = .ok (.putfield 15, 3) := by decide +kernel
theorem dX4_read_65 : decode cX4_read 65 = .ok (.iload_n 3, 1) := by decide +kernel
theorem dX4_read_66 : decode cX4_read 66 = .ok (.ifCond .eq 15, 3) := by decide +kernel
theorem dX4_read_69 : decode cX4_read 69 = .ok (.aload_n 0, 1) := by decide +kernel
theorem dX4_read_70 : decode cX4_read 70 = .ok (.getfield 35, 3) := by decide +kernel
theorem dX4_read_73 : decode cX4_read 73 = .ok (.iconst 1, 1) := by decide +kernel
theorem dX4_read_74 : decode cX4_read 74 = .ok (.if_icmp .ne 7, 3) := by decide +kernel
theorem dX4_read_77 : decode cX4_read 77 = .ok (.iconst (-1), 1) := by decide +kernel
theorem dX4_read_78 : decode cX4_read 78 = .ok (.goto 7, 3) := by decide +kernel
theorem dX4_read_81 : decode cX4_read 81 = .ok (.aload_n 0, 1) := by decide +kernel
theorem dX4_read_82 : decode cX4_read 82 = .ok (.getfield 38, 3) := by decide +kernel
theorem dX4_read_85 : decode cX4_read 85 = .ok (.ireturn, 1) := by decide +kernel
theorem dX4_part_0 : decode cX4_part 0 = .ok (.aload_n 0, 1) := by decide +kernel
theorem dX4_part_1 : decode cX4_part 1 = .ok (.getfield 35, 3) := by decide +kernel
theorem dX4_part_4 : decode cX4_part 4 = .ok (.iload_n 1, 1) := by decide +kernel
theorem dX4_part_5 : decode cX4_part 5 = .ok (.if_icmp .eq 5, 3) := by decide +kernel
theorem dX4_part_8 : decode cX4_part 8 = .ok (.iconst 0, 1) := by decide +kernel
theorem dX4_part_9 : decode cX4_part 9 = .ok (.ireturn, 1) := by decide +kernel
theorem dX4_part_10 : decode cX4_part 10 = .ok (.aload_n 0, 1) := by decide +kernel
theorem dX4_part_11 : decode cX4_part 11 = .ok (.invokevirtual 28, 3) := by decide +kernel
theorem dX4_part_14 : decode cX4_part 14 = .ok (.aload_n 0, 1) := by decide +kernel
theorem dX4_part_15 : decode cX4_part 15 = .ok (.iconst 0, 1) := by decide +kernel
theorem dX4_part_16 : decode cX4_part 16 = .ok (.invokevirtual 41, 3) := by decide +kernel
theorem dX4_part_19 : decode cX4_part 19 = .ok (.ifCond .eq 12, 3) := by decide +kernel
theorem dX4_part_22 : decode cX4_part 22 = .ok (.aload_n 0, 1) := by decide +kernel
theorem dX4_part_23 : decode cX4_part 23 = .ok (.getfield 35, 3) := by decide +kernel
theorem dX4_part_26 : decode cX4_part 26 = .ok (.bipush 59, 2) := by decide +kernel
theorem dX4_part_28 : decode cX4_part 28 = .ok (.if_icmp .eq 5, 3) := by decide +kernel
theorem dX4_part_31 : decode cX4_part 31 = .ok (.iconst 0, 1) := by decide +kernel
theorem dX4_part_32 : decode cX4_part 32 = .ok (.ireturn, 1) := by decide +kernel
theorem dX4_part_33 : decode cX4_part 33 = .ok (.aload_n 0, 1) := by decide +kernel
theorem dX4_part_34 : decode cX4_part 34 = .ok (.invokevirtual 28, 3) := by decide +kernel
theorem dX4_part_37 : decode cX4_part 37 = .ok (.aload_n 0, 1) := by decide +kernel
theorem dX4_part_38 : decode cX4_part 38 = .ok (.bipush (-30), 2) := by decide +kernel
theorem dX4_part_40 : decode cX4_part 40 = .ok (.invokevirtual 44, 3) := by decide +kernel
theorem dX4_part_43 : decode cX4_part 43 = .ok (.iconst 1, 1) := by decide +kernel
theorem dX4_part_44 : decode cX4_part 44 = .ok (.ireturn, 1) := by decide +kernel
theorem dX4_either_0 : decode cX4_either 0 = .ok (.aload_n 0, 1) := by decide +kernel
theorem dX4_either_1 : decode cX4_either 1 = .ok (.iload_n 1, 1) := by decide +kernel
theorem dX4_either_2 : decode cX4_either 2 = .ok (.invokevirtual 48, 3) := by decide +kernel
theorem dX4_either_5 : decode cX4_either 5 = .ok (.ifCond .ne 5, 3) := by decide +kernel
theorem dX4_either_8 : decode cX4_either 8 = .ok (.iconst 0, 1) := by decide +kernel
theorem dX4_either_9 : decode cX4_either 9 = .ok (.ireturn, 1) := by decide +kernel
theorem dX4_either_10 : decode cX4_either 10 = .ok (.iconst 0, 1) := by decide +kernel
theorem dX4_either_11 : decode cX4_either 11 = .ok (.istore_n 2, 1) := by decide +kernel
theorem dX4_either_12 : decode cX4_either 12 = .ok (.iload_n 2, 1) := by decide +kernel
theorem dX4_either_13 : decode cX4_either 13 = .ok (.aload_n 0, 1) := by decide +kernel
theorem dX4_either_14 : decode cX4_either 14 = .ok (.getfield 15, 3) := by decide +kernel
theorem dX4_either_17 : decode cX4_either 17 = .ok (.if_icmp .ge 39, 3) := by decide +kernel
theorem dX4_either_20 : decode cX4_either 20 = .ok (.aload_n 0, 1) := by decide +kernel
theorem dX4_either_21 : decode cX4_either 21 = .ok (.getfield 35, 3) := by decide +kernel
theorem dX4_either_24 : decode cX4_either 24 = .ok (.sipush 1009, 3) := by decide +kernel
theorem dX4_either_27 : decode cX4_either 27 = .ok (.if_icmp .ne 29, 3) := by decide +kernel
theorem dX4_either_30 : decode cX4_either 30 = .ok (.aload_n 0, 1) := by decide +kernel
theorem dX4_either_31 : decode cX4_either 31 = .ok (.invokevirtual 28, 3) := by decide +kernel
theorem dX4_either_34 : decode cX4_either 34 = .ok (.aload_n 0, 1) := by decide +kernel
theorem dX4_either_35 : decode cX4_either 35 = .ok (.iload_n 1, 1) := by decide +kernel
theorem dX4_either_36 : decode cX4_either 36 = .ok (.invokevirtual 48, 3) := by decide +kernel
theorem dX4_either_39 : decode cX4_either 39 = .ok (.ifCond .ne 5, 3) := by decide +kernel
theorem dX4_either_42 : decode cX4_either 42 = .ok (.iconst 0, 1) := by decide +kernel
theorem dX4_either_43 : decode cX4_either 43 = .ok (.ireturn, 1) := by decide +kernel
theorem dX4_either_44 : decode cX4_either 44 = .ok (.aload_n 0, 1) := by decide +kernel
theorem dX4_either_45 : decode cX4_either 45 = .ok (.bipush (-26), 2) := by decide +kernel
theorem dX4_either_47 : decode cX4_either 47 = .ok (.invokevirtual 44, 3) := by decide +kernel
theorem dX4_either_50 : decode cX4_either 50 = .ok (.iinc 2 1, 3) := by decide +kernel
theorem dX4_either_53 : decode cX4_either 53 = .ok (.goto (-41), 3) := by decide +kernel
theorem dX4_either_56 : decode cX4_either 56 = .ok (.iconst 1, 1) := by decide +kernel
theorem dX4_either_57 : decode cX4_either 57 = .ok (.ireturn, 1) := by decide +kernel
theorem dX4_both_0 : decode cX4_both 0 = .ok (.aload_n 0, 1) := by decide +kernel
theorem dX4_both_1 : decode cX4_both 1 = .ok (.iload_n 1, 1) := by decide +kernel
theorem dX4_both_2 : decode cX4_both 2 = .ok (.invokevirtual 51, 3) := by decide +kernel
theorem dX4_both_5 : decode cX4_both 5 = .ok (.ifCond .ne 5, 3) := by decide +kernel
theorem dX4_both_8 : decode cX4_both 8 = .ok (.iconst 0, 1) := by decide +kernel
theorem dX4_both_9 : decode cX4_both 9 = .ok (.ireturn, 1) := by decide +kernel
theorem dX4_both_10 : decode cX4_both 10 = .ok (.iconst 0, 1) := by decide +kernel
theorem dX4_both_11 : decode cX4_both 11 = .ok (.istore_n 2, 1) := by decide +kernel
theorem dX4_both_12 : decode cX4_both 12 = .ok (.iload_n 2, 1) := by decide +kernel
theorem dX4_both_13 : decode cX4_both 13 = .ok (.aload_n 0, 1) := by decide +kernel
theorem dX4_both_14 : decode cX4_both 14 = .ok (.getfield 15, 3) := by decide +kernel
theorem dX4_both_17 : decode cX4_both 17 = .ok (.if_icmp .ge 39, 3) := by decide +kernel
theorem dX4_both_20 : decode cX4_both 20 = .ok (.aload_n 0, 1) := by decide +kernel
theorem dX4_both_21 : decode cX4_both 21 = .ok (.getfield 35, 3) := by decide +kernel
theorem dX4_both_24 : decode cX4_both 24 = .ok (.sipush 1010, 3) := by decide +kernel
theorem dX4_both_27 : decode cX4_both 27 = .ok (.if_icmp .ne 29, 3) := by decide +kernel
theorem dX4_both_30 : decode cX4_both 30 = .ok (.aload_n 0, 1) := by decide +kernel
theorem dX4_both_31 : decode cX4_both 31 = .ok (.invokevirtual 28, 3) := by decide +kernel
theorem dX4_both_34 : decode cX4_both 34 = .ok (.aload_n 0, 1) := by decide +kernel
theorem dX4_both_35 : decode cX4_both 35 = .ok (.iload_n 1, 1) := by decide +kernel
theorem dX4_both_36 : decode cX4_both 36 = .ok (.invokevirtual 51, 3) := by decide +kernel
theorem dX4_both_39 : decode cX4_both 39 = .ok (.ifCond .ne 5, 3) := by decide +kernel
theorem dX4_both_42 : decode cX4_both 42 = .ok (.iconst 0, 1) := by decide +kernel
theorem dX4_both_43 : decode cX4_both 43 = .ok (.ireturn, 1) := by decide +kernel
theorem dX4_both_44 : decode cX4_both 44 = .ok (.aload_n 0, 1) := by decide +kernel
theorem dX4_both_45 : decode cX4_both 45 = .ok (.bipush (-25), 2) := by decide +kernel
theorem dX4_both_47 : decode cX4_both 47 = .ok (.invokevirtual 44, 3) := by decide +kernel
theorem dX4_both_50 : decode cX4_both 50 = .ok (.iinc 2 1, 3) := by decide +kernel
theorem dX4_both_53 : decode cX4_both 53 = .ok (.goto (-41), 3) := by decide +kernel
theorem dX4_both_56 : decode cX4_both 56 = .ok (.iconst 1, 1) := by decide +kernel
theorem dX4_both_57 : decode cX4_both 57 = .ok (.ireturn, 1) := by decide +kernel
theorem dX4_not_0 : decode cX4_not 0 = .ok (.aload_n 0, 1) := by decide +kernel
theorem dX4_not_1 : decode cX4_not 1 = .ok (.getfield 35, 3) := by decide +kernel
theorem dX4_not_4 : decode cX4_not 4 = .ok (.sipush 1011, 3) := by decide +kernel
theorem dX4_not_7 : decode cX4_not 7 = .ok (.if_icmp .eq 9, 3) := by decide +kernel
theorem dX4_not_10 : decode cX4_not 10 = .ok (.aload_n 0, 1) := by decide +kernel
theorem dX4_not_11 : decode cX4_not 11 = .ok (.iload_n 1, 1) := by decide +kernel
theorem dX4_not_12 : decode cX4_not 12 = .ok (.invokevirtual 54, 3) := by decide +kernel
theorem dX4_not_15 : decode cX4_not 15 = .ok (.ireturn, 1) := by decide +kernel
theorem dX4_not_16 : decode cX4_not 16 = .ok (.iload_n 1, 1) := by decide +kernel
theorem dX4_not_17 : decode cX4_not 17 = .ok (.iconst 5, 1) := by decide +kernel
theorem dX4_not_18 : decode cX4_not 18 = .ok (.if_icmp .lt 5, 3) := by decide +kernel
theorem dX4_not_21 : decode cX4_not 21 = .ok (.iconst 0, 1) := by decide +kernel
theorem dX4_not_22 : decode cX4_not 22 = .ok (.ireturn, 1) := by decide +kernel
theorem dX4_not_23 : decode cX4_not 23 = .ok (.aload_n 0, 1) := by decide +kernel
theorem dX4_not_24 : decode cX4_not 24 = .ok (.invokevirtual 28, 3) := by decide +kernel
theorem dX4_not_27 : decode cX4_not 27 = .ok (.aload_n 0, 1) := by decide +kernel
theorem dX4_not_28 : decode cX4_not 28 = .ok (.iload_n 1, 1) := by decide +kernel
theorem dX4_not_29 : decode cX4_not 29 = .ok (.iconst 1, 1) := by decide +kernel
theorem dX4_not_30 : decode cX4_not 30 = .ok (.iadd, 1) := by decide +kernel
theorem dX4_not_31 : decode cX4_not 31 = .ok (.invokevirtual 51, 3) := by decide +kernel
theorem dX4_not_34 : decode cX4_not 34 = .ok (.ifCond .ne 5, 3) := by decide +kernel
theorem dX4_not_37 : decode cX4_not 37 = .ok (.iconst 0, 1) := by decide +kernel
theorem dX4_not_38 : decode cX4_not 38 = .ok (.ireturn, 1) := by decide +kernel
theorem dX4_not_39 : decode cX4_not 39 = .ok (.aload_n 0, 1) := by decide +kernel
theorem dX4_not_40 : decode cX4_not 40 = .ok (.bipush (-11), 2) := by decide +kernel
theorem dX4_not_42 : decode cX4_not 42 = .ok (.invokevirtual 44, 3) := by decide +kernel
theorem dX4_not_45 : decode cX4_not 45 = .ok (.iconst 1, 1) := by decide +kernel
theorem dX4_not_46 : decode cX4_not 46 = .ok (.ireturn, 1) := by decide +kernel
theorem dX4_compared_0 : decode cX4_compared 0 = .ok (.aload_n 0, 1) := by decide +kernel
theorem dX4_compared_1 : decode cX4_compared 1 = .ok (.iload_n 1, 1) := by decide +kernel
theorem dX4_compared_2 : decode cX4_compared 2 = .ok (.invokevirtual 57, 3) := by decide +kernel
theorem dX4_compared_5 : decode cX4_compared 5 = .ok (.ifCond .ne 5, 3) := by decide +kernel
theorem dX4_compared_8 : decode cX4_compared 8 = .ok (.iconst 0, 1) := by decide +kernel
theorem dX4_compared_9 : decode cX4_compared 9 = .ok (.ireturn, 1) := by decide +kernel
theorem dX4_compared_10 : decode cX4_compared 10 = .ok (.aload_n 0, 1) := by decide +kernel
theorem dX4_compared_11 : decode cX4_compared 11 = .ok (.getfield 35, 3) := by decide +kernel
theorem dX4_compared_14 : decode cX4_compared 14 = .ok (.bipush 60, 2) := by decide +kernel
theorem dX4_compared_16 : decode cX4_compared 16 = .ok (.if_icmp .eq 14, 3) := by decide +kernel
theorem dX4_compared_19 : decode cX4_compared 19 = .ok (.aload_n 0, 1) := by decide +kernel
theorem dX4_compared_20 : decode cX4_compared 20 = .ok (.getfield 35, 3) := by decide +kernel
theorem dX4_compared_23 : decode cX4_compared 23 = .ok (.bipush 61, 2) := by decide +kernel
theorem dX4_compared_25 : decode cX4_compared 25 = .ok (.if_icmp .eq 5, 3) := by decide +kernel
theorem dX4_compared_28 : decode cX4_compared 28 = .ok (.iconst 1, 1) := by decide +kernel
theorem dX4_compared_29 : decode cX4_compared 29 = .ok (.ireturn, 1) := by decide +kernel
theorem dX4_compared_30 : decode cX4_compared 30 = .ok (.aload_n 0, 1) := by decide +kernel
theorem dX4_compared_31 : decode cX4_compared 31 = .ok (.getfield 35, 3) := by decide +kernel
theorem dX4_compared_34 : decode cX4_compared 34 = .ok (.bipush 60, 2) := by decide +kernel
theorem dX4_compared_36 : decode cX4_compared 36 = .ok (.if_icmp .ne 8, 3) := by decide +kernel
theorem dX4_compared_39 : decode cX4_compared 39 = .ok (.bipush (-23), 2) := by decide +kernel
theorem dX4_compared_41 : decode cX4_compared 41 = .ok (.goto 5, 3) := by decide +kernel
theorem dX4_compared_44 : decode cX4_compared 44 = .ok (.bipush (-24), 2) := by decide +kernel
theorem dX4_compared_46 : decode cX4_compared 46 = .ok (.istore_n 2, 1) := by decide +kernel
theorem dX4_compared_47 : decode cX4_compared 47 = .ok (.aload_n 0, 1) := by decide +kernel
theorem dX4_compared_48 : decode cX4_compared 48 = .ok (.invokevirtual 28, 3) := by decide +kernel
theorem dX4_compared_51 : decode cX4_compared 51 = .ok (.aload_n 0, 1) := by decide +kernel
theorem dX4_compared_52 : decode cX4_compared 52 = .ok (.iload_n 1, 1) := by decide +kernel
theorem dX4_compared_53 : decode cX4_compared 53 = .ok (.invokevirtual 57, 3) := by decide +kernel
theorem dX4_compared_56 : decode cX4_compared 56 = .ok (.ifCond .ne 5, 3) := by decide +kernel
theorem dX4_compared_59 : decode cX4_compared 59 = .ok (.iconst 0, 1) := by decide +kernel
theorem dX4_compared_60 : decode cX4_compared 60 = .ok (.ireturn, 1) := by decide +kernel
theorem dX4_compared_61 : decode cX4_compared 61 = .ok (.aload_n 0, 1) := by decide +kernel
theorem dX4_compared_62 : decode cX4_compared 62 = .ok (.iload_n 2, 1) := by decide +kernel
theorem dX4_compared_63 : decode cX4_compared 63 = .ok (.invokevirtual 44, 3) := by decide +kernel
theorem dX4_compared_66 : decode cX4_compared 66 = .ok (.iconst 1, 1) := by decide +kernel
theorem dX4_compared_67 : decode cX4_compared 67 = .ok (.ireturn, 1) := by decide +kernel
theorem dX4_sum_0 : decode cX4_sum 0 = .ok (.aload_n 0, 1) := by decide +kernel
theorem dX4_sum_1 : decode cX4_sum 1 = .ok (.iload_n 1, 1) := by decide +kernel
theorem dX4_sum_2 : decode cX4_sum 2 = .ok (.invokevirtual 60, 3) := by decide +kernel
theorem dX4_sum_5 : decode cX4_sum 5 = .ok (.ifCond .ne 5, 3) := by decide +kernel
theorem dX4_sum_8 : decode cX4_sum 8 = .ok (.iconst 0, 1) := by decide +kernel
theorem dX4_sum_9 : decode cX4_sum 9 = .ok (.ireturn, 1) := by decide +kernel
theorem dX4_sum_10 : decode cX4_sum 10 = .ok (.iconst 0, 1) := by decide +kernel
theorem dX4_sum_11 : decode cX4_sum 11 = .ok (.istore_n 2, 1) := by decide +kernel
theorem dX4_sum_12 : decode cX4_sum 12 = .ok (.iload_n 2, 1) := by decide +kernel
theorem dX4_sum_13 : decode cX4_sum 13 = .ok (.aload_n 0, 1) := by decide +kernel
theorem dX4_sum_14 : decode cX4_sum 14 = .ok (.getfield 15, 3) := by decide +kernel
theorem dX4_sum_17 : decode cX4_sum 17 = .ok (.if_icmp .ge 63, 3) := by decide +kernel
theorem dX4_sum_20 : decode cX4_sum 20 = .ok (.aload_n 0, 1) := by decide +kernel
theorem dX4_sum_21 : decode cX4_sum 21 = .ok (.getfield 35, 3) := by decide +kernel
theorem dX4_sum_24 : decode cX4_sum 24 = .ok (.bipush 43, 2) := by decide +kernel
theorem dX4_sum_26 : decode cX4_sum 26 = .ok (.if_icmp .eq 12, 3) := by decide +kernel
theorem dX4_sum_29 : decode cX4_sum 29 = .ok (.aload_n 0, 1) := by decide +kernel
theorem dX4_sum_30 : decode cX4_sum 30 = .ok (.getfield 35, 3) := by decide +kernel
theorem dX4_sum_33 : decode cX4_sum 33 = .ok (.bipush 45, 2) := by decide +kernel
theorem dX4_sum_35 : decode cX4_sum 35 = .ok (.if_icmp .ne 45, 3) := by decide +kernel
theorem dX4_sum_38 : decode cX4_sum 38 = .ok (.aload_n 0, 1) := by decide +kernel
theorem dX4_sum_39 : decode cX4_sum 39 = .ok (.getfield 35, 3) := by decide +kernel
theorem dX4_sum_42 : decode cX4_sum 42 = .ok (.bipush 43, 2) := by decide +kernel
theorem dX4_sum_44 : decode cX4_sum 44 = .ok (.if_icmp .ne 8, 3) := by decide +kernel
theorem dX4_sum_47 : decode cX4_sum 47 = .ok (.bipush (-21), 2) := by decide +kernel
theorem dX4_sum_49 : decode cX4_sum 49 = .ok (.goto 5, 3) := by decide +kernel
theorem dX4_sum_52 : decode cX4_sum 52 = .ok (.bipush (-22), 2) := by decide +kernel
theorem dX4_sum_54 : decode cX4_sum 54 = .ok (.istore_n 3, 1) := by decide +kernel
theorem dX4_sum_55 : decode cX4_sum 55 = .ok (.aload_n 0, 1) := by decide +kernel
theorem dX4_sum_56 : decode cX4_sum 56 = .ok (.invokevirtual 28, 3) := by decide +kernel
theorem dX4_sum_59 : decode cX4_sum 59 = .ok (.aload_n 0, 1) := by decide +kernel
theorem dX4_sum_60 : decode cX4_sum 60 = .ok (.iload_n 1, 1) := by decide +kernel
theorem dX4_sum_61 : decode cX4_sum 61 = .ok (.invokevirtual 60, 3) := by decide +kernel
theorem dX4_sum_64 : decode cX4_sum 64 = .ok (.ifCond .ne 5, 3) := by decide +kernel
theorem dX4_sum_67 : decode cX4_sum 67 = .ok (.iconst 0, 1) := by decide +kernel
theorem dX4_sum_68 : decode cX4_sum 68 = .ok (.ireturn, 1) := by decide +kernel
theorem dX4_sum_69 : decode cX4_sum 69 = .ok (.aload_n 0, 1) := by decide +kernel
theorem dX4_sum_70 : decode cX4_sum 70 = .ok (.iload_n 3, 1) := by decide +kernel
theorem dX4_sum_71 : decode cX4_sum 71 = .ok (.invokevirtual 44, 3) := by decide +kernel
theorem dX4_sum_74 : decode cX4_sum 74 = .ok (.iinc 2 1, 3) := by decide +kernel
theorem dX4_sum_77 : decode cX4_sum 77 = .ok (.goto (-65), 3) := by decide +kernel
theorem dX4_sum_80 : decode cX4_sum 80 = .ok (.iconst 1, 1) := by decide +kernel
theorem dX4_sum_81 : decode cX4_sum 81 = .ok (.ireturn, 1) := by decide +kernel
theorem dX4_term_0 : decode cX4_term 0 = .ok (.aload_n 0, 1) := by decide +kernel
theorem dX4_term_1 : decode cX4_term 1 = .ok (.iload_n 1, 1) := by decide +kernel
theorem dX4_term_2 : decode cX4_term 2 = .ok (.invokevirtual 63, 3) := by decide +kernel
theorem dX4_term_5 : decode cX4_term 5 = .ok (.ifCond .ne 5, 3) := by decide +kernel
theorem dX4_term_8 : decode cX4_term 8 = .ok (.iconst 0, 1) := by decide +kernel
theorem dX4_term_9 : decode cX4_term 9 = .ok (.ireturn, 1) := by decide +kernel
theorem dX4_term_10 : decode cX4_term 10 = .ok (.iconst 0, 1) := by decide +kernel
theorem dX4_term_11 : decode cX4_term 11 = .ok (.istore_n 2, 1) := by decide +kernel
theorem dX4_term_12 : decode cX4_term 12 = .ok (.iload_n 2, 1) := by decide +kernel
theorem dX4_term_13 : decode cX4_term 13 = .ok (.aload_n 0, 1) := by decide +kernel
theorem dX4_term_14 : decode cX4_term 14 = .ok (.getfield 15, 3) := by decide +kernel
theorem dX4_term_17 : decode cX4_term 17 = .ok (.if_icmp .ge 38, 3) := by decide +kernel
theorem dX4_term_20 : decode cX4_term 20 = .ok (.aload_n 0, 1) := by decide +kernel
theorem dX4_term_21 : decode cX4_term 21 = .ok (.getfield 35, 3) := by decide +kernel
theorem dX4_term_24 : decode cX4_term 24 = .ok (.bipush 42, 2) := by decide +kernel
theorem dX4_term_26 : decode cX4_term 26 = .ok (.if_icmp .ne 29, 3) := by decide +kernel
theorem dX4_term_29 : decode cX4_term 29 = .ok (.aload_n 0, 1) := by decide +kernel
theorem dX4_term_30 : decode cX4_term 30 = .ok (.invokevirtual 28, 3) := by decide +kernel
theorem dX4_term_33 : decode cX4_term 33 = .ok (.aload_n 0, 1) := by decide +kernel
theorem dX4_term_34 : decode cX4_term 34 = .ok (.iload_n 1, 1) := by decide +kernel
theorem dX4_term_35 : decode cX4_term 35 = .ok (.invokevirtual 63, 3) := by decide +kernel
theorem dX4_term_38 : decode cX4_term 38 = .ok (.ifCond .ne 5, 3) := by decide +kernel
theorem dX4_term_41 : decode cX4_term 41 = .ok (.iconst 0, 1) := by decide +kernel
theorem dX4_term_42 : decode cX4_term 42 = .ok (.ireturn, 1) := by decide +kernel
theorem dX4_term_43 : decode cX4_term 43 = .ok (.aload_n 0, 1) := by decide +kernel
theorem dX4_term_44 : decode cX4_term 44 = .ok (.bipush (-20), 2) := by decide +kernel
theorem dX4_term_46 : decode cX4_term 46 = .ok (.invokevirtual 44, 3) := by decide +kernel
theorem dX4_term_49 : decode cX4_term 49 = .ok (.iinc 2 1, 3) := by decide +kernel
theorem dX4_term_52 : decode cX4_term 52 = .ok (.goto (-40), 3) := by decide +kernel
theorem dX4_term_55 : decode cX4_term 55 = .ok (.iconst 1, 1) := by decide +kernel
theorem dX4_term_56 : decode cX4_term 56 = .ok (.ireturn, 1) := by decide +kernel
theorem dX4_single_0 : decode cX4_single 0 = .ok (.aload_n 0, 1) := by decide +kernel
theorem dX4_single_1 : decode cX4_single 1 = .ok (.getfield 35, 3) := by decide +kernel
theorem dX4_single_4 : decode cX4_single 4 = .ok (.iconst 2, 1) := by decide +kernel
theorem dX4_single_5 : decode cX4_single 5 = .ok (.if_icmp .ne 17, 3) := by decide +kernel
theorem dX4_single_8 : decode cX4_single 8 = .ok (.aload_n 0, 1) := by decide +kernel
theorem dX4_single_9 : decode cX4_single 9 = .ok (.aload_n 0, 1) := by decide +kernel
theorem dX4_single_10 : decode cX4_single 10 = .ok (.getfield 66, 3) := by decide +kernel
theorem dX4_single_13 : decode cX4_single 13 = .ok (.invokevirtual 44, 3) := by decide +kernel
theorem dX4_single_16 : decode cX4_single 16 = .ok (.aload_n 0, 1) := by decide +kernel
theorem dX4_single_17 : decode cX4_single 17 = .ok (.invokevirtual 28, 3) := by decide +kernel
theorem dX4_single_20 : decode cX4_single 20 = .ok (.iconst 1, 1) := by decide +kernel
theorem dX4_single_21 : decode cX4_single 21 = .ok (.ireturn, 1) := by decide +kernel
theorem dX4_single_22 : decode cX4_single 22 = .ok (.aload_n 0, 1) := by decide +kernel
theorem dX4_single_23 : decode cX4_single 23 = .ok (.getfield 35, 3) := by decide +kernel
theorem dX4_single_26 : decode cX4_single 26 = .ok (.sipush 1000, 3) := by decide +kernel
theorem dX4_single_29 : decode cX4_single 29 = .ok (.if_icmp .lt 33, 3) := by decide +kernel
theorem dX4_single_32 : decode cX4_single 32 = .ok (.aload_n 0, 1) := by decide +kernel
theorem dX4_single_33 : decode cX4_single 33 = .ok (.getfield 35, 3) := by decide +kernel
theorem dX4_single_36 : decode cX4_single 36 = .ok (.sipush 1006, 3) := by decide +kernel
theorem dX4_single_39 : decode cX4_single 39 = .ok (.if_icmp .ge 23, 3) := by decide +kernel
theorem dX4_single_42 : decode cX4_single 42 = .ok (.aload_n 0, 1) := by decide +kernel
theorem dX4_single_43 : decode cX4_single 43 = .ok (.iconst (-1), 1) := by decide +kernel
theorem dX4_single_44 : decode cX4_single 44 = .ok (.aload_n 0, 1) := by decide +kernel
theorem dX4_single_45 : decode cX4_single 45 = .ok (.getfield 35, 3) := by decide +kernel
theorem dX4_single_48 : decode cX4_single 48 = .ok (.sipush 1000, 3) := by decide +kernel
theorem dX4_single_51 : decode cX4_single 51 = .ok (.isub, 1) := by decide +kernel
theorem dX4_single_52 : decode cX4_single 52 = .ok (.isub, 1) := by decide +kernel
theorem dX4_single_53 : decode cX4_single 53 = .ok (.invokevirtual 44, 3) := by decide +kernel
theorem dX4_single_56 : decode cX4_single 56 = .ok (.aload_n 0, 1) := by decide +kernel
theorem dX4_single_57 : decode cX4_single 57 = .ok (.invokevirtual 28, 3) := by decide +kernel
theorem dX4_single_60 : decode cX4_single 60 = .ok (.iconst 1, 1) := by decide +kernel
theorem dX4_single_61 : decode cX4_single 61 = .ok (.ireturn, 1) := by decide +kernel
theorem dX4_single_62 : decode cX4_single 62 = .ok (.aload_n 0, 1) := by decide +kernel
theorem dX4_single_63 : decode cX4_single 63 = .ok (.getfield 35, 3) := by decide +kernel
theorem dX4_single_66 : decode cX4_single 66 = .ok (.bipush 40, 2) := by decide +kernel
theorem dX4_single_68 : decode cX4_single 68 = .ok (.if_icmp .eq 12, 3) := by decide +kernel
theorem dX4_single_71 : decode cX4_single 71 = .ok (.aload_n 0, 1) := by decide +kernel
theorem dX4_single_72 : decode cX4_single 72 = .ok (.getfield 35, 3) := by decide +kernel
theorem dX4_single_75 : decode cX4_single 75 = .ok (.bipush 45, 2) := by decide +kernel
theorem dX4_single_77 : decode cX4_single 77 = .ok (.if_icmp .ne 8, 3) := by decide +kernel
theorem dX4_single_80 : decode cX4_single 80 = .ok (.iload_n 1, 1) := by decide +kernel
theorem dX4_single_81 : decode cX4_single 81 = .ok (.iconst 5, 1) := by decide +kernel
theorem dX4_single_82 : decode cX4_single 82 = .ok (.if_icmp .lt 5, 3) := by decide +kernel
theorem dX4_single_85 : decode cX4_single 85 = .ok (.iconst 0, 1) := by decide +kernel
theorem dX4_single_86 : decode cX4_single 86 = .ok (.ireturn, 1) := by decide +kernel
theorem dX4_single_87 : decode cX4_single 87 = .ok (.aload_n 0, 1) := by decide +kernel
theorem dX4_single_88 : decode cX4_single 88 = .ok (.getfield 35, 3) := by decide +kernel
theorem dX4_single_91 : decode cX4_single 91 = .ok (.bipush 40, 2) := by decide +kernel
theorem dX4_single_93 : decode cX4_single 93 = .ok (.if_icmp .ne 13, 3) := by decide +kernel
theorem dX4_single_96 : decode cX4_single 96 = .ok (.aload_n 0, 1) := by decide +kernel
theorem dX4_single_97 : decode cX4_single 97 = .ok (.iload_n 1, 1) := by decide +kernel
theorem dX4_single_98 : decode cX4_single 98 = .ok (.iconst 1, 1) := by decide +kernel
theorem dX4_single_99 : decode cX4_single 99 = .ok (.iadd, 1) := by decide +kernel
theorem dX4_single_100 : decode cX4_single 100 = .ok (.invokevirtual 69, 3) := by decide +kernel
theorem dX4_single_103 : decode cX4_single 103 = .ok (.goto 10, 3) := by decide +kernel
theorem dX4_single_106 : decode cX4_single 106 = .ok (.aload_n 0, 1) := by decide +kernel
theorem dX4_single_107 : decode cX4_single 107 = .ok (.iload_n 1, 1) := by decide +kernel
theorem dX4_single_108 : decode cX4_single 108 = .ok (.iconst 1, 1) := by decide +kernel
theorem dX4_single_109 : decode cX4_single 109 = .ok (.iadd, 1) := by decide +kernel
theorem dX4_single_110 : decode cX4_single 110 = .ok (.invokevirtual 72, 3) := by decide +kernel
theorem dX4_single_113 : decode cX4_single 113 = .ok (.ireturn, 1) := by decide +kernel
theorem dX4_bracket_0 : decode cX4_bracket 0 = .ok (.aload_n 0, 1) := by decide +kernel
theorem dX4_bracket_1 : decode cX4_bracket 1 = .ok (.invokevirtual 28, 3) := by decide +kernel
theorem dX4_bracket_4 : decode cX4_bracket 4 = .ok (.aload_n 0, 1) := by decide +kernel
theorem dX4_bracket_5 : decode cX4_bracket 5 = .ok (.iload_n 1, 1) := by decide +kernel
theorem dX4_bracket_6 : decode cX4_bracket 6 = .ok (.invokevirtual 41, 3) := by decide +kernel
theorem dX4_bracket_9 : decode cX4_bracket 9 = .ok (.ifCond .eq 12, 3) := by decide +kernel
theorem dX4_bracket_12 : decode cX4_bracket 12 = .ok (.aload_n 0, 1) := by decide +kernel
theorem dX4_bracket_13 : decode cX4_bracket 13 = .ok (.getfield 35, 3) := by decide +kernel
theorem dX4_bracket_16 : decode cX4_bracket 16 = .ok (.bipush 41, 2) := by decide +kernel
theorem dX4_bracket_18 : decode cX4_bracket 18 = .ok (.if_icmp .eq 5, 3) := by decide +kernel
theorem dX4_bracket_21 : decode cX4_bracket 21 = .ok (.iconst 0, 1) := by decide +kernel
theorem dX4_bracket_22 : decode cX4_bracket 22 = .ok (.ireturn, 1) := by decide +kernel
theorem dX4_bracket_23 : decode cX4_bracket 23 = .ok (.aload_n 0, 1) := by decide +kernel
theorem dX4_bracket_24 : decode cX4_bracket 24 = .ok (.invokevirtual 28, 3) := by decide +kernel
theorem dX4_bracket_27 : decode cX4_bracket 27 = .ok (.iconst 1, 1) := by decide +kernel
theorem dX4_bracket_28 : decode cX4_bracket 28 = .ok (.ireturn, 1) := by decide +kernel
theorem dX4_negated_0 : decode cX4_negated 0 = .ok (.aload_n 0, 1) := by decide +kernel
theorem dX4_negated_1 : decode cX4_negated 1 = .ok (.invokevirtual 28, 3) := by decide +kernel
theorem dX4_negated_4 : decode cX4_negated 4 = .ok (.aload_n 0, 1) := by decide +kernel
theorem dX4_negated_5 : decode cX4_negated 5 = .ok (.iload_n 1, 1) := by decide +kernel
theorem dX4_negated_6 : decode cX4_negated 6 = .ok (.invokevirtual 63, 3) := by decide +kernel
theorem dX4_negated_9 : decode cX4_negated 9 = .ok (.ifCond .ne 5, 3) := by decide +kernel
theorem dX4_negated_12 : decode cX4_negated 12 = .ok (.iconst 0, 1) := by decide +kernel
theorem dX4_negated_13 : decode cX4_negated 13 = .ok (.ireturn, 1) := by decide +kernel
theorem dX4_negated_14 : decode cX4_negated 14 = .ok (.aload_n 0, 1) := by decide +kernel
theorem dX4_negated_15 : decode cX4_negated 15 = .ok (.bipush (-12), 2) := by decide +kernel
theorem dX4_negated_17 : decode cX4_negated 17 = .ok (.invokevirtual 44, 3) := by decide +kernel
theorem dX4_negated_20 : decode cX4_negated 20 = .ok (.iconst 1, 1) := by decide +kernel
theorem dX4_negated_21 : decode cX4_negated 21 = .ok (.ireturn, 1) := by decide +kernel
theorem dX4_write_0 : decode cX4_write 0 = .ok (.aload_n 0, 1) := by decide +kernel
theorem dX4_write_1 : decode cX4_write 1 = .ok (.getfield 19, 3) := by decide +kernel
theorem dX4_write_4 : decode cX4_write 4 = .ok (.ifnull 35, 3) := by decide +kernel
theorem dX4_write_7 : decode cX4_write 7 = .ok (.aload_n 0, 1) := by decide +kernel
theorem dX4_write_8 : decode cX4_write 8 = .ok (.getfield 22, 3) := by decide +kernel
theorem dX4_write_11 : decode cX4_write 11 = .ok (.aload_n 0, 1) := by decide +kernel
theorem dX4_write_12 : decode cX4_write 12 = .ok (.getfield 19, 3) := by decide +kernel
theorem dX4_write_15 : decode cX4_write 15 = .ok (.arraylength, 1) := by decide +kernel
theorem dX4_write_16 : decode cX4_write 16 = .ok (.if_icmp .ge 23, 3) := by decide +kernel
theorem dX4_write_19 : decode cX4_write 19 = .ok (.aload_n 0, 1) := by decide +kernel
theorem dX4_write_20 : decode cX4_write 20 = .ok (.getfield 19, 3) := by decide +kernel
theorem dX4_write_23 : decode cX4_write 23 = .ok (.aload_n 0, 1) := by decide +kernel
theorem dX4_write_24 : decode cX4_write 24 = .ok (.getfield 22, 3) := by decide +kernel
theorem dX4_write_27 : decode cX4_write 27 = .ok (.iload_n 1, 1) := by decide +kernel
theorem dX4_write_28 : decode cX4_write 28 = .ok (.iastore, 1) := by decide +kernel
theorem dX4_write_29 : decode cX4_write 29 = .ok (.aload_n 0, 1) := by decide +kernel
theorem dX4_write_30 : decode cX4_write 30 = .ok (.dup, 1) := by decide +kernel
theorem dX4_write_31 : decode cX4_write 31 = .ok (.getfield 22, 3) := by decide +kernel
theorem dX4_write_34 : decode cX4_write 34 = .ok (.iconst 1, 1) := by decide +kernel
theorem dX4_write_35 : decode cX4_write 35 = .ok (.iadd, 1) := by decide +kernel
theorem dX4_write_36 : decode cX4_write 36 = .ok (.putfield 22, 3) := by decide +kernel
theorem dX4_write_39 : decode cX4_write 39 = .ok (.return_, 1) := by decide +kernel
theorem dX4_next_0 : decode cX4_next 0 = .ok (.aload_n 0, 1) := by decide +kernel
theorem dX4_next_1 : decode cX4_next 1 = .ok (.getfield 25, 3) := by decide +kernel
theorem dX4_next_4 : decode cX4_next 4 = .ok (.aload_n 0, 1) := by decide +kernel
theorem dX4_next_5 : decode cX4_next 5 = .ok (.getfield 15, 3) := by decide +kernel
theorem dX4_next_8 : decode cX4_next 8 = .ok (.if_icmp .ge 44, 3) := by decide +kernel
theorem dX4_next_11 : decode cX4_next 11 = .ok (.aload_n 0, 1) := by decide +kernel
theorem dX4_next_12 : decode cX4_next 12 = .ok (.getfield 11, 3) := by decide +kernel
theorem dX4_next_15 : decode cX4_next 15 = .ok (.aload_n 0, 1) := by decide +kernel
theorem dX4_next_16 : decode cX4_next 16 = .ok (.getfield 25, 3) := by decide +kernel
theorem dX4_next_19 : decode cX4_next 19 = .ok (.iaload, 1) := by decide +kernel
theorem dX4_next_20 : decode cX4_next 20 = .ok (.bipush 32, 2) := by decide +kernel
theorem dX4_next_22 : decode cX4_next 22 = .ok (.if_icmp .eq 17, 3) := by decide +kernel
theorem dX4_next_25 : decode cX4_next 25 = .ok (.aload_n 0, 1) := by decide +kernel
theorem dX4_next_26 : decode cX4_next 26 = .ok (.getfield 11, 3) := by decide +kernel
theorem dX4_next_29 : decode cX4_next 29 = .ok (.aload_n 0, 1) := by decide +kernel
theorem dX4_next_30 : decode cX4_next 30 = .ok (.getfield 25, 3) := by decide +kernel
theorem dX4_next_33 : decode cX4_next 33 = .ok (.iaload, 1) := by decide +kernel
theorem dX4_next_34 : decode cX4_next 34 = .ok (.bipush 10, 2) := by decide +kernel
theorem dX4_next_36 : decode cX4_next 36 = .ok (.if_icmp .ne 16, 3) := by decide +kernel
theorem dX4_next_39 : decode cX4_next 39 = .ok (.aload_n 0, 1) := by decide +kernel
theorem dX4_next_40 : decode cX4_next 40 = .ok (.dup, 1) := by decide +kernel
theorem dX4_next_41 : decode cX4_next 41 = .ok (.getfield 25, 3) := by decide +kernel
theorem dX4_next_44 : decode cX4_next 44 = .ok (.iconst 1, 1) := by decide +kernel
theorem dX4_next_45 : decode cX4_next 45 = .ok (.iadd, 1) := by decide +kernel
theorem dX4_next_46 : decode cX4_next 46 = .ok (.putfield 25, 3) := by decide +kernel
theorem dX4_next_49 : decode cX4_next 49 = .ok (.goto (-49), 3) := by decide +kernel
theorem dX4_next_52 : decode cX4_next 52 = .ok (.aload_n 0, 1) := by decide +kernel
theorem dX4_next_53 : decode cX4_next 53 = .ok (.aload_n 0, 1) := by decide +kernel
theorem dX4_next_54 : decode cX4_next 54 = .ok (.getfield 25, 3) := by decide +kernel
theorem dX4_next_57 : decode cX4_next 57 = .ok (.putfield 38, 3) := by decide +kernel
theorem dX4_next_60 : decode cX4_next 60 = .ok (.aload_n 0, 1) := by decide +kernel
theorem dX4_next_61 : decode cX4_next 61 = .ok (.getfield 25, 3) := by decide +kernel
theorem dX4_next_64 : decode cX4_next 64 = .ok (.aload_n 0, 1) := by decide +kernel
theorem dX4_next_65 : decode cX4_next 65 = .ok (.getfield 15, 3) := by decide +kernel
theorem dX4_next_68 : decode cX4_next 68 = .ok (.if_icmp .lt 9, 3) := by decide +kernel
theorem dX4_next_71 : decode cX4_next 71 = .ok (.aload_n 0, 1) := by decide +kernel
theorem dX4_next_72 : decode cX4_next 72 = .ok (.iconst 1, 1) := by decide +kernel
theorem dX4_next_73 : decode cX4_next 73 = .ok (.putfield 35, 3) := by decide +kernel
theorem dX4_next_76 : decode cX4_next 76 = .ok (.return_, 1) := by decide +kernel
theorem dX4_next_77 : decode cX4_next 77 = .ok (.aload_n 0, 1) := by decide +kernel
theorem dX4_next_78 : decode cX4_next 78 = .ok (.getfield 11, 3) := by decide +kernel
theorem dX4_next_81 : decode cX4_next 81 = .ok (.aload_n 0, 1) := by decide +kernel
theorem dX4_next_82 : decode cX4_next 82 = .ok (.getfield 25, 3) := by decide +kernel
theorem dX4_next_85 : decode cX4_next 85 = .ok (.iaload, 1) := by decide +kernel
theorem dX4_next_86 : decode cX4_next 86 = .ok (.istore_n 1, 1) := by decide +kernel
theorem dX4_next_87 : decode cX4_next 87 = .ok (.aload_n 0, 1) := by decide +kernel
theorem dX4_next_88 : decode cX4_next 88 = .ok (.dup, 1) := by decide +kernel
theorem dX4_next_89 : decode cX4_next 89 = .ok (.getfield 25, 3) := by decide +kernel
theorem dX4_next_92 : decode cX4_next 92 = .ok (.iconst 1, 1) := by decide +kernel
theorem dX4_next_93 : decode cX4_next 93 = .ok (.iadd, 1) := by decide +kernel
theorem dX4_next_94 : decode cX4_next 94 = .ok (.putfield 25, 3) := by decide +kernel
theorem dX4_next_97 : decode cX4_next 97 = .ok (.iload_n 1, 1) := by decide +kernel
theorem dX4_next_98 : decode cX4_next 98 = .ok (.invokestatic 75, 3) := by decide +kernel
theorem dX4_next_101 : decode cX4_next 101 = .ok (.ifCond .eq 10, 3) := by decide +kernel
theorem dX4_next_104 : decode cX4_next 104 = .ok (.aload_n 0, 1) := by decide +kernel
theorem dX4_next_105 : decode cX4_next 105 = .ok (.invokevirtual 78, 3) := by decide +kernel
theorem dX4_next_108 : decode cX4_next 108 = .ok (.goto 33, 3) := by decide +kernel
theorem dX4_next_111 : decode cX4_next 111 = .ok (.iload_n 1, 1) := by decide +kernel
theorem dX4_next_112 : decode cX4_next 112 = .ok (.invokestatic 81, 3) := by decide +kernel
theorem dX4_next_115 : decode cX4_next 115 = .ok (.ifCond .eq 10, 3) := by decide +kernel
theorem dX4_next_118 : decode cX4_next 118 = .ok (.aload_n 0, 1) := by decide +kernel
theorem dX4_next_119 : decode cX4_next 119 = .ok (.invokevirtual 84, 3) := by decide +kernel
theorem dX4_next_122 : decode cX4_next 122 = .ok (.goto 19, 3) := by decide +kernel
theorem dX4_next_125 : decode cX4_next 125 = .ok (.aload_n 0, 1) := by decide +kernel
theorem dX4_next_126 : decode cX4_next 126 = .ok (.iload_n 1, 1) := by decide +kernel
theorem dX4_next_127 : decode cX4_next 127 = .ok (.invokestatic 87, 3) := by decide +kernel
theorem dX4_next_130 : decode cX4_next 130 = .ok (.ifCond .eq 7, 3) := by decide +kernel
theorem dX4_next_133 : decode cX4_next 133 = .ok (.iload_n 1, 1) := by decide +kernel
theorem dX4_next_134 : decode cX4_next 134 = .ok (.goto 4, 3) := by decide +kernel
theorem dX4_next_137 : decode cX4_next 137 = .ok (.iconst 0, 1) := by decide +kernel
theorem dX4_next_138 : decode cX4_next 138 = .ok (.putfield 35, 3) := by decide +kernel
theorem dX4_next_141 : decode cX4_next 141 = .ok (.return_, 1) := by decide +kernel
theorem dX4_nextWord_0 : decode cX4_nextWord 0 = .ok (.aload_n 0, 1) := by decide +kernel
theorem dX4_nextWord_1 : decode cX4_nextWord 1 = .ok (.getfield 25, 3) := by decide +kernel
theorem dX4_nextWord_4 : decode cX4_nextWord 4 = .ok (.aload_n 0, 1) := by decide +kernel
theorem dX4_nextWord_5 : decode cX4_nextWord 5 = .ok (.getfield 15, 3) := by decide +kernel
theorem dX4_nextWord_8 : decode cX4_nextWord 8 = .ok (.if_icmp .ge 31, 3) := by decide +kernel
theorem dX4_nextWord_11 : decode cX4_nextWord 11 = .ok (.aload_n 0, 1) := by decide +kernel
theorem dX4_nextWord_12 : decode cX4_nextWord 12 = .ok (.getfield 11, 3) := by decide +kernel
theorem dX4_nextWord_15 : decode cX4_nextWord 15 = .ok (.aload_n 0, 1) := by decide +kernel
theorem dX4_nextWord_16 : decode cX4_nextWord 16 = .ok (.getfield 25, 3) := by decide +kernel
theorem dX4_nextWord_19 : decode cX4_nextWord 19 = .ok (.iaload, 1) := by decide +kernel
theorem dX4_nextWord_20 : decode cX4_nextWord 20 = .ok (.invokestatic 75, 3) := by decide +kernel
theorem dX4_nextWord_23 : decode cX4_nextWord 23 = .ok (.ifCond .eq 16, 3) := by decide +kernel
theorem dX4_nextWord_26 : decode cX4_nextWord 26 = .ok (.aload_n 0, 1) := by decide +kernel
theorem dX4_nextWord_27 : decode cX4_nextWord 27 = .ok (.dup, 1) := by decide +kernel
theorem dX4_nextWord_28 : decode cX4_nextWord 28 = .ok (.getfield 25, 3) := by decide +kernel
theorem dX4_nextWord_31 : decode cX4_nextWord 31 = .ok (.iconst 1, 1) := by decide +kernel
theorem dX4_nextWord_32 : decode cX4_nextWord 32 = .ok (.iadd, 1) := by decide +kernel
theorem dX4_nextWord_33 : decode cX4_nextWord 33 = .ok (.putfield 25, 3) := by decide +kernel
theorem dX4_nextWord_36 : decode cX4_nextWord 36 = .ok (.goto (-36), 3) := by decide +kernel
theorem dX4_nextWord_39 : decode cX4_nextWord 39 = .ok (.aload_n 0, 1) := by decide +kernel
theorem dX4_nextWord_40 : decode cX4_nextWord 40 = .ok (.iconst 0, 1) := by decide +kernel
theorem dX4_nextWord_41 : decode cX4_nextWord 41 = .ok (.putfield 35, 3) := by decide +kernel
theorem dX4_nextWord_44 : decode cX4_nextWord 44 = .ok (.iconst 0, 1) := by decide +kernel
theorem dX4_nextWord_45 : decode cX4_nextWord 45 = .ok (.istore_n 1, 1) := by decide +kernel
theorem dX4_nextWord_46 : decode cX4_nextWord 46 = .ok (.iload_n 1, 1) := by decide +kernel
theorem dX4_nextWord_47 : decode cX4_nextWord 47 = .ok (.bipush 12, 2) := by decide +kernel
theorem dX4_nextWord_49 : decode cX4_nextWord 49 = .ok (.if_icmp .ge 29, 3) := by decide +kernel
theorem dX4_nextWord_52 : decode cX4_nextWord 52 = .ok (.aload_n 0, 1) := by decide +kernel
theorem dX4_nextWord_53 : decode cX4_nextWord 53 = .ok (.iload_n 1, 1) := by decide +kernel
theorem dX4_nextWord_54 : decode cX4_nextWord 54 = .ok (.invokestatic 90, 3) := by decide +kernel
theorem dX4_nextWord_57 : decode cX4_nextWord 57 = .ok (.invokevirtual 94, 3) := by decide +kernel
theorem dX4_nextWord_60 : decode cX4_nextWord 60 = .ok (.ifCond .eq 12, 3) := by decide +kernel
theorem dX4_nextWord_63 : decode cX4_nextWord 63 = .ok (.aload_n 0, 1) := by decide +kernel
theorem dX4_nextWord_64 : decode cX4_nextWord 64 = .ok (.sipush 1000, 3) := by decide +kernel
theorem dX4_nextWord_67 : decode cX4_nextWord 67 = .ok (.iload_n 1, 1) := by decide +kernel
theorem dX4_nextWord_68 : decode cX4_nextWord 68 = .ok (.iadd, 1) := by decide +kernel
theorem dX4_nextWord_69 : decode cX4_nextWord 69 = .ok (.putfield 35, 3) := by decide +kernel
theorem dX4_nextWord_72 : decode cX4_nextWord 72 = .ok (.iinc 1 1, 3) := by decide +kernel
theorem dX4_nextWord_75 : decode cX4_nextWord 75 = .ok (.goto (-29), 3) := by decide +kernel
theorem dX4_nextWord_78 : decode cX4_nextWord 78 = .ok (.return_, 1) := by decide +kernel
theorem dX4_nextNumber_0 : decode cX4_nextNumber 0 = .ok (.aload_n 0, 1) := by decide +kernel
theorem dX4_nextNumber_1 : decode cX4_nextNumber 1 = .ok (.getfield 25, 3) := by decide +kernel
theorem dX4_nextNumber_4 : decode cX4_nextNumber 4 = .ok (.aload_n 0, 1) := by decide +kernel
theorem dX4_nextNumber_5 : decode cX4_nextNumber 5 = .ok (.getfield 15, 3) := by decide +kernel
theorem dX4_nextNumber_8 : decode cX4_nextNumber 8 = .ok (.if_icmp .ge 31, 3) := by decide +kernel
theorem dX4_nextNumber_11 : decode cX4_nextNumber 11 = .ok (.aload_n 0, 1) := by decide +kernel
theorem dX4_nextNumber_12 : decode cX4_nextNumber 12 = .ok (.getfield 11, 3) := by decide +kernel
theorem dX4_nextNumber_15 : decode cX4_nextNumber 15 = .ok (.aload_n 0, 1) := by decide +kernel
theorem dX4_nextNumber_16 : decode cX4_nextNumber 16 = .ok (.getfield 25, 3) := by decide +kernel
theorem dX4_nextNumber_19 : decode cX4_nextNumber 19 = .ok (.iaload, 1) := by decide +kernel
theorem dX4_nextNumber_20 : decode cX4_nextNumber 20 = .ok (.invokestatic 81, 3) := by decide +kernel
theorem dX4_nextNumber_23 : decode cX4_nextNumber 23 = .ok (.ifCond .eq 16, 3) := by decide +kernel
theorem dX4_nextNumber_26 : decode cX4_nextNumber 26 = .ok (.aload_n 0, 1) := by decide +kernel
theorem dX4_nextNumber_27 : decode cX4_nextNumber 27 = .ok (.dup, 1) := by decide +kernel
theorem dX4_nextNumber_28 : decode cX4_nextNumber 28 = .ok (.getfield 25, 3) := by decide +kernel
theorem dX4_nextNumber_31 : decode cX4_nextNumber 31 = .ok (.iconst 1, 1) := by decide +kernel
theorem dX4_nextNumber_32 : decode cX4_nextNumber 32 = .ok (.iadd, 1) := by decide +kernel
theorem dX4_nextNumber_33 : decode cX4_nextNumber 33 = .ok (.putfield 25, 3) := by decide +kernel
theorem dX4_nextNumber_36 : decode cX4_nextNumber 36 = .ok (.goto (-36), 3) := by decide +kernel
theorem dX4_nextNumber_39 : decode cX4_nextNumber 39 = .ok (.aload_n 0, 1) := by decide +kernel
theorem dX4_nextNumber_40 : decode cX4_nextNumber 40 = .ok (.iconst 0, 1) := by decide +kernel
theorem dX4_nextNumber_41 : decode cX4_nextNumber 41 = .ok (.putfield 66, 3) := by decide +kernel
theorem dX4_nextNumber_44 : decode cX4_nextNumber 44 = .ok (.aload_n 0, 1) := by decide +kernel
theorem dX4_nextNumber_45 : decode cX4_nextNumber 45 = .ok (.getfield 38, 3) := by decide +kernel
theorem dX4_nextNumber_48 : decode cX4_nextNumber 48 = .ok (.istore_n 1, 1) := by decide +kernel
theorem dX4_nextNumber_49 : decode cX4_nextNumber 49 = .ok (.iload_n 1, 1) := by decide +kernel
theorem dX4_nextNumber_50 : decode cX4_nextNumber 50 = .ok (.aload_n 0, 1) := by decide +kernel
theorem dX4_nextNumber_51 : decode cX4_nextNumber 51 = .ok (.getfield 25, 3) := by decide +kernel
theorem dX4_nextNumber_54 : decode cX4_nextNumber 54 = .ok (.if_icmp .ge 40, 3) := by decide +kernel
theorem dX4_nextNumber_57 : decode cX4_nextNumber 57 = .ok (.iload_n 1, 1) := by decide +kernel
theorem dX4_nextNumber_58 : decode cX4_nextNumber 58 = .ok (.aload_n 0, 1) := by decide +kernel
theorem dX4_nextNumber_59 : decode cX4_nextNumber 59 = .ok (.getfield 38, 3) := by decide +kernel
theorem dX4_nextNumber_62 : decode cX4_nextNumber 62 = .ok (.iconst 4, 1) := by decide +kernel
theorem dX4_nextNumber_63 : decode cX4_nextNumber 63 = .ok (.iadd, 1) := by decide +kernel
theorem dX4_nextNumber_64 : decode cX4_nextNumber 64 = .ok (.if_icmp .ge 30, 3) := by decide +kernel
theorem dX4_nextNumber_67 : decode cX4_nextNumber 67 = .ok (.aload_n 0, 1) := by decide +kernel
theorem dX4_nextNumber_68 : decode cX4_nextNumber 68 = .ok (.bipush 10, 2) := by decide +kernel
theorem dX4_nextNumber_70 : decode cX4_nextNumber 70 = .ok (.aload_n 0, 1) := by decide +kernel
theorem dX4_nextNumber_71 : decode cX4_nextNumber 71 = .ok (.getfield 66, 3) := by decide +kernel
theorem dX4_nextNumber_74 : decode cX4_nextNumber 74 = .ok (.imul, 1) := by decide +kernel
theorem dX4_nextNumber_75 : decode cX4_nextNumber 75 = .ok (.aload_n 0, 1) := by decide +kernel
theorem dX4_nextNumber_76 : decode cX4_nextNumber 76 = .ok (.getfield 11, 3) := by decide +kernel
theorem dX4_nextNumber_79 : decode cX4_nextNumber 79 = .ok (.iload_n 1, 1) := by decide +kernel
theorem dX4_nextNumber_80 : decode cX4_nextNumber 80 = .ok (.iaload, 1) := by decide +kernel
theorem dX4_nextNumber_81 : decode cX4_nextNumber 81 = .ok (.iadd, 1) := by decide +kernel
theorem dX4_nextNumber_82 : decode cX4_nextNumber 82 = .ok (.bipush 48, 2) := by decide +kernel
theorem dX4_nextNumber_84 : decode cX4_nextNumber 84 = .ok (.isub, 1) := by decide +kernel
theorem dX4_nextNumber_85 : decode cX4_nextNumber 85 = .ok (.putfield 66, 3) := by decide +kernel
theorem dX4_nextNumber_88 : decode cX4_nextNumber 88 = .ok (.iinc 1 1, 3) := by decide +kernel
theorem dX4_nextNumber_91 : decode cX4_nextNumber 91 = .ok (.goto (-42), 3) := by decide +kernel
theorem dX4_nextNumber_94 : decode cX4_nextNumber 94 = .ok (.aload_n 0, 1) := by decide +kernel
theorem dX4_nextNumber_95 : decode cX4_nextNumber 95 = .ok (.aload_n 0, 1) := by decide +kernel
theorem dX4_nextNumber_96 : decode cX4_nextNumber 96 = .ok (.getfield 25, 3) := by decide +kernel
theorem dX4_nextNumber_99 : decode cX4_nextNumber 99 = .ok (.aload_n 0, 1) := by decide +kernel
theorem dX4_nextNumber_100 : decode cX4_nextNumber 100 = .ok (.getfield 38, 3) := by decide +kernel
theorem dX4_nextNumber_103 : decode cX4_nextNumber 103 = .ok (.isub, 1) := by decide +kernel
theorem dX4_nextNumber_104 : decode cX4_nextNumber 104 = .ok (.iconst 4, 1) := by decide +kernel
theorem dX4_nextNumber_105 : decode cX4_nextNumber 105 = .ok (.if_icmp .le 7, 3) := by decide +kernel
theorem dX4_nextNumber_108 : decode cX4_nextNumber 108 = .ok (.iconst 0, 1) := by decide +kernel
theorem dX4_nextNumber_109 : decode cX4_nextNumber 109 = .ok (.goto 4, 3) := by decide +kernel
theorem dX4_nextNumber_112 : decode cX4_nextNumber 112 = .ok (.iconst 2, 1) := by decide +kernel
theorem dX4_nextNumber_113 : decode cX4_nextNumber 113 = .ok (.putfield 35, 3) := by decide +kernel
theorem dX4_nextNumber_116 : decode cX4_nextNumber 116 = .ok (.return_, 1) := by decide +kernel
theorem dX4_stands_0 : decode cX4_stands 0 = .ok (.aload_n 1, 1) := by decide +kernel
theorem dX4_stands_1 : decode cX4_stands 1 = .ok (.invokevirtual 98, 3) := by decide +kernel
theorem dX4_stands_4 : decode cX4_stands 4 = .ok (.aload_n 0, 1) := by decide +kernel
theorem dX4_stands_5 : decode cX4_stands 5 = .ok (.getfield 25, 3) := by decide +kernel
theorem dX4_stands_8 : decode cX4_stands 8 = .ok (.aload_n 0, 1) := by decide +kernel
theorem dX4_stands_9 : decode cX4_stands 9 = .ok (.getfield 38, 3) := by decide +kernel
theorem dX4_stands_12 : decode cX4_stands 12 = .ok (.isub, 1) := by decide +kernel
theorem dX4_stands_13 : decode cX4_stands 13 = .ok (.if_icmp .eq 5, 3) := by decide +kernel
theorem dX4_stands_16 : decode cX4_stands 16 = .ok (.iconst 0, 1) := by decide +kernel
theorem dX4_stands_17 : decode cX4_stands 17 = .ok (.ireturn, 1) := by decide +kernel
theorem dX4_stands_18 : decode cX4_stands 18 = .ok (.iconst 0, 1) := by decide +kernel
theorem dX4_stands_19 : decode cX4_stands 19 = .ok (.istore_n 2, 1) := by decide +kernel
theorem dX4_stands_20 : decode cX4_stands 20 = .ok (.iload_n 2, 1) := by decide +kernel
theorem dX4_stands_21 : decode cX4_stands 21 = .ok (.aload_n 1, 1) := by decide +kernel
theorem dX4_stands_22 : decode cX4_stands 22 = .ok (.invokevirtual 98, 3) := by decide +kernel
theorem dX4_stands_25 : decode cX4_stands 25 = .ok (.if_icmp .ge 30, 3) := by decide +kernel
theorem dX4_stands_28 : decode cX4_stands 28 = .ok (.aload_n 1, 1) := by decide +kernel
theorem dX4_stands_29 : decode cX4_stands 29 = .ok (.iload_n 2, 1) := by decide +kernel
theorem dX4_stands_30 : decode cX4_stands 30 = .ok (.invokevirtual 104, 3) := by decide +kernel
theorem dX4_stands_33 : decode cX4_stands 33 = .ok (.aload_n 0, 1) := by decide +kernel
theorem dX4_stands_34 : decode cX4_stands 34 = .ok (.getfield 11, 3) := by decide +kernel
theorem dX4_stands_37 : decode cX4_stands 37 = .ok (.aload_n 0, 1) := by decide +kernel
theorem dX4_stands_38 : decode cX4_stands 38 = .ok (.getfield 38, 3) := by decide +kernel
theorem dX4_stands_41 : decode cX4_stands 41 = .ok (.iload_n 2, 1) := by decide +kernel
theorem dX4_stands_42 : decode cX4_stands 42 = .ok (.iadd, 1) := by decide +kernel
theorem dX4_stands_43 : decode cX4_stands 43 = .ok (.iaload, 1) := by decide +kernel
theorem dX4_stands_44 : decode cX4_stands 44 = .ok (.if_icmp .eq 5, 3) := by decide +kernel
theorem dX4_stands_47 : decode cX4_stands 47 = .ok (.iconst 0, 1) := by decide +kernel
theorem dX4_stands_48 : decode cX4_stands 48 = .ok (.ireturn, 1) := by decide +kernel
theorem dX4_stands_49 : decode cX4_stands 49 = .ok (.iinc 2 1, 3) := by decide +kernel
theorem dX4_stands_52 : decode cX4_stands 52 = .ok (.goto (-32), 3) := by decide +kernel
theorem dX4_stands_55 : decode cX4_stands 55 = .ok (.iconst 1, 1) := by decide +kernel
theorem dX4_stands_56 : decode cX4_stands 56 = .ok (.ireturn, 1) := by decide +kernel
theorem dX4_word_0 : decode cX4_word 0 = .ok (.iload_n 0, 1) := by decide +kernel
theorem dX4_word_1 : decode cX4_word 1 = .ok (.tableswitch 92 0 10 #[59, 62, 65, 68, 71, 74, 77, 80, 83, 86, 89], 59) := by decide +kernel
theorem dX4_word_60 : decode cX4_word 60 = .ok (.ldc 108, 2) := by decide +kernel
theorem dX4_word_62 : decode cX4_word 62 = .ok (.areturn, 1) := by decide +kernel
theorem dX4_word_63 : decode cX4_word 63 = .ok (.ldc 110, 2) := by decide +kernel
theorem dX4_word_65 : decode cX4_word 65 = .ok (.areturn, 1) := by decide +kernel
theorem dX4_word_66 : decode cX4_word 66 = .ok (.ldc 112, 2) := by decide +kernel
theorem dX4_word_68 : decode cX4_word 68 = .ok (.areturn, 1) := by decide +kernel
theorem dX4_word_69 : decode cX4_word 69 = .ok (.ldc 114, 2) := by decide +kernel
theorem dX4_word_71 : decode cX4_word 71 = .ok (.areturn, 1) := by decide +kernel
theorem dX4_word_72 : decode cX4_word 72 = .ok (.ldc 116, 2) := by decide +kernel
theorem dX4_word_74 : decode cX4_word 74 = .ok (.areturn, 1) := by decide +kernel
theorem dX4_word_75 : decode cX4_word 75 = .ok (.ldc 118, 2) := by decide +kernel
theorem dX4_word_77 : decode cX4_word 77 = .ok (.areturn, 1) := by decide +kernel
theorem dX4_word_78 : decode cX4_word 78 = .ok (.ldc 120, 2) := by decide +kernel
theorem dX4_word_80 : decode cX4_word 80 = .ok (.areturn, 1) := by decide +kernel
theorem dX4_word_81 : decode cX4_word 81 = .ok (.ldc 122, 2) := by decide +kernel
theorem dX4_word_83 : decode cX4_word 83 = .ok (.areturn, 1) := by decide +kernel
theorem dX4_word_84 : decode cX4_word 84 = .ok (.ldc 124, 2) := by decide +kernel
theorem dX4_word_86 : decode cX4_word 86 = .ok (.areturn, 1) := by decide +kernel
theorem dX4_word_87 : decode cX4_word 87 = .ok (.ldc 126, 2) := by decide +kernel
theorem dX4_word_89 : decode cX4_word 89 = .ok (.areturn, 1) := by decide +kernel
theorem dX4_word_90 : decode cX4_word 90 = .ok (.ldc 128, 2) := by decide +kernel
theorem dX4_word_92 : decode cX4_word 92 = .ok (.areturn, 1) := by decide +kernel
theorem dX4_word_93 : decode cX4_word 93 = .ok (.ldc 130, 2) := by decide +kernel
theorem dX4_word_95 : decode cX4_word 95 = .ok (.areturn, 1) := by decide +kernel
theorem dX4_isLetter_0 : decode cX4_isLetter 0 = .ok (.iload_n 0, 1) := by decide +kernel
theorem dX4_isLetter_1 : decode cX4_isLetter 1 = .ok (.bipush 97, 2) := by decide +kernel
theorem dX4_isLetter_3 : decode cX4_isLetter 3 = .ok (.if_icmp .lt 13, 3) := by decide +kernel
theorem dX4_isLetter_6 : decode cX4_isLetter 6 = .ok (.iload_n 0, 1) := by decide +kernel
theorem dX4_isLetter_7 : decode cX4_isLetter 7 = .ok (.bipush 122, 2) := by decide +kernel
theorem dX4_isLetter_9 : decode cX4_isLetter 9 = .ok (.if_icmp .gt 7, 3) := by decide +kernel
theorem dX4_isLetter_12 : decode cX4_isLetter 12 = .ok (.iconst 1, 1) := by decide +kernel
theorem dX4_isLetter_13 : decode cX4_isLetter 13 = .ok (.goto 4, 3) := by decide +kernel
theorem dX4_isLetter_16 : decode cX4_isLetter 16 = .ok (.iconst 0, 1) := by decide +kernel
theorem dX4_isLetter_17 : decode cX4_isLetter 17 = .ok (.ireturn, 1) := by decide +kernel
theorem dX4_isDigit_0 : decode cX4_isDigit 0 = .ok (.iload_n 0, 1) := by decide +kernel
theorem dX4_isDigit_1 : decode cX4_isDigit 1 = .ok (.bipush 48, 2) := by decide +kernel
theorem dX4_isDigit_3 : decode cX4_isDigit 3 = .ok (.if_icmp .lt 13, 3) := by decide +kernel
theorem dX4_isDigit_6 : decode cX4_isDigit 6 = .ok (.iload_n 0, 1) := by decide +kernel
theorem dX4_isDigit_7 : decode cX4_isDigit 7 = .ok (.bipush 57, 2) := by decide +kernel
theorem dX4_isDigit_9 : decode cX4_isDigit 9 = .ok (.if_icmp .gt 7, 3) := by decide +kernel
theorem dX4_isDigit_12 : decode cX4_isDigit 12 = .ok (.iconst 1, 1) := by decide +kernel
theorem dX4_isDigit_13 : decode cX4_isDigit 13 = .ok (.goto 4, 3) := by decide +kernel
theorem dX4_isDigit_16 : decode cX4_isDigit 16 = .ok (.iconst 0, 1) := by decide +kernel
theorem dX4_isDigit_17 : decode cX4_isDigit 17 = .ok (.ireturn, 1) := by decide +kernel
theorem dX4_isSign_0 : decode cX4_isSign 0 = .ok (.ldc 131, 2) := by decide +kernel
theorem dX4_isSign_2 : decode cX4_isSign 2 = .ok (.iload_n 0, 1) := by decide +kernel
theorem dX4_isSign_3 : decode cX4_isSign 3 = .ok (.i2c, 1) := by decide +kernel
theorem dX4_isSign_4 : decode cX4_isSign 4 = .ok (.invokevirtual 133, 3) := by decide +kernel
theorem dX4_isSign_7 : decode cX4_isSign 7 = .ok (.ifCond .lt 7, 3) := by decide +kernel
theorem dX4_isSign_10 : decode cX4_isSign 10 = .ok (.iconst 1, 1) := by decide +kernel
theorem dX4_isSign_11 : decode cX4_isSign 11 = .ok (.goto 4, 3) := by decide +kernel
theorem dX4_isSign_14 : decode cX4_isSign 14 = .ok (.iconst 0, 1) := by decide +kernel
theorem dX4_isSign_15 : decode cX4_isSign 15 = .ok (.ireturn, 1) := by decide +kernel
theorem dX5_init_0 : decode cX5_init 0 = .ok (.aload_n 0, 1) := by decide +kernel
theorem dX5_init_1 : decode cX5_init 1 = .ok (.invokespecial 3, 3) := by decide +kernel
theorem dX5_init_4 : decode cX5_init 4 = .ok (.aload_n 0, 1) := by decide +kernel
theorem dX5_init_5 : decode cX5_init 5 = .ok (.iconst (-1), 1) := by decide +kernel
theorem dX5_init_6 : decode cX5_init 6 = .ok (.putfield 9, 3) := by decide +kernel
theorem dX5_init_9 : decode cX5_init 9 = .ok (.aload_n 0, 1) := by decide +kernel
theorem dX5_init_10 : decode cX5_init 10 = .ok (.bipush 40, 2) := by decide +kernel
theorem dX5_init_12 : decode cX5_init 12 = .ok (.newarray .int, 2) := by decide +kernel
theorem dX5_init_14 : decode cX5_init 14 = .ok (.putfield 15, 3) := by decide +kernel
theorem dX5_init_17 : decode cX5_init 17 = .ok (.return_, 1) := by decide +kernel
theorem dX5_lay_0 : decode cX5_lay 0 = .ok (.aload_n 0, 1) := by decide +kernel
theorem dX5_lay_1 : decode cX5_lay 1 = .ok (.iload_n 1, 1) := by decide +kernel
theorem dX5_lay_2 : decode cX5_lay 2 = .ok (.putfield 9, 3) := by decide +kernel
theorem dX5_lay_5 : decode cX5_lay 5 = .ok (.aload_n 0, 1) := by decide +kernel
theorem dX5_lay_6 : decode cX5_lay 6 = .ok (.iload_n 2, 1) := by decide +kernel
theorem dX5_lay_7 : decode cX5_lay 7 = .ok (.putfield 19, 3) := by decide +kernel
theorem dX5_lay_10 : decode cX5_lay 10 = .ok (.iconst 0, 1) := by decide +kernel
theorem dX5_lay_11 : decode cX5_lay 11 = .ok (.istore_n 3, 1) := by decide +kernel
theorem dX5_lay_12 : decode cX5_lay 12 = .ok (.iload_n 3, 1) := by decide +kernel
theorem dX5_lay_13 : decode cX5_lay 13 = .ok (.aload_n 0, 1) := by decide +kernel
theorem dX5_lay_14 : decode cX5_lay 14 = .ok (.getfield 15, 3) := by decide +kernel
theorem dX5_lay_17 : decode cX5_lay 17 = .ok (.arraylength, 1) := by decide +kernel
theorem dX5_lay_18 : decode cX5_lay 18 = .ok (.if_icmp .ge 16, 3) := by decide +kernel
theorem dX5_lay_21 : decode cX5_lay 21 = .ok (.aload_n 0, 1) := by decide +kernel
theorem dX5_lay_22 : decode cX5_lay 22 = .ok (.getfield 15, 3) := by decide +kernel
theorem dX5_lay_25 : decode cX5_lay 25 = .ok (.iload_n 3, 1) := by decide +kernel
theorem dX5_lay_26 : decode cX5_lay 26 = .ok (.iconst 0, 1) := by decide +kernel
theorem dX5_lay_27 : decode cX5_lay 27 = .ok (.iastore, 1) := by decide +kernel
theorem dX5_lay_28 : decode cX5_lay 28 = .ok (.iinc 3 1, 3) := by decide +kernel
theorem dX5_lay_31 : decode cX5_lay 31 = .ok (.goto (-19), 3) := by decide +kernel
theorem dX5_lay_34 : decode cX5_lay 34 = .ok (.return_, 1) := by decide +kernel
theorem dX5_holds_0 : decode cX5_holds 0 = .ok (.iload_n 1, 1) := by decide +kernel
theorem dX5_holds_1 : decode cX5_holds 1 = .ok (.ifCond .lt 24, 3) := by decide +kernel
theorem dX5_holds_4 : decode cX5_holds 4 = .ok (.iload_n 1, 1) := by decide +kernel
theorem dX5_holds_5 : decode cX5_holds 5 = .ok (.aload_n 0, 1) := by decide +kernel
theorem dX5_holds_6 : decode cX5_holds 6 = .ok (.getfield 19, 3) := by decide +kernel
theorem dX5_holds_9 : decode cX5_holds 9 = .ok (.if_icmp .ge 16, 3) := by decide +kernel
theorem dX5_holds_12 : decode cX5_holds 12 = .ok (.iload_n 1, 1) := by decide +kernel
theorem dX5_holds_13 : decode cX5_holds 13 = .ok (.aload_n 0, 1) := by decide +kernel
theorem dX5_holds_14 : decode cX5_holds 14 = .ok (.getfield 15, 3) := by decide +kernel
theorem dX5_holds_17 : decode cX5_holds 17 = .ok (.arraylength, 1) := by decide +kernel
theorem dX5_holds_18 : decode cX5_holds 18 = .ok (.if_icmp .ge 7, 3) := by decide +kernel
theorem dX5_holds_21 : decode cX5_holds 21 = .ok (.iconst 1, 1) := by decide +kernel
theorem dX5_holds_22 : decode cX5_holds 22 = .ok (.goto 4, 3) := by decide +kernel
theorem dX5_holds_25 : decode cX5_holds 25 = .ok (.iconst 0, 1) := by decide +kernel
theorem dX5_holds_26 : decode cX5_holds 26 = .ok (.ireturn, 1) := by decide +kernel
theorem dX5_holdsRun_0 : decode cX5_holdsRun 0 = .ok (.iload_n 1, 1) := by decide +kernel
theorem dX5_holdsRun_1 : decode cX5_holdsRun 1 = .ok (.ifCond .lt 29, 3) := by decide +kernel
theorem dX5_holdsRun_4 : decode cX5_holdsRun 4 = .ok (.iload_n 2, 1) := by decide +kernel
theorem dX5_holdsRun_5 : decode cX5_holdsRun 5 = .ok (.ifCond .lt 25, 3) := by decide +kernel
theorem dX5_holdsRun_8 : decode cX5_holdsRun 8 = .ok (.iload_n 2, 1) := by decide +kernel
theorem dX5_holdsRun_9 : decode cX5_holdsRun 9 = .ok (.aload_n 0, 1) := by decide +kernel
theorem dX5_holdsRun_10 : decode cX5_holdsRun 10 = .ok (.getfield 19, 3) := by decide +kernel
theorem dX5_holdsRun_13 : decode cX5_holdsRun 13 = .ok (.if_icmp .gt 17, 3) := by decide +kernel
theorem dX5_holdsRun_16 : decode cX5_holdsRun 16 = .ok (.iload_n 1, 1) := by decide +kernel
theorem dX5_holdsRun_17 : decode cX5_holdsRun 17 = .ok (.aload_n 0, 1) := by decide +kernel
theorem dX5_holdsRun_18 : decode cX5_holdsRun 18 = .ok (.getfield 19, 3) := by decide +kernel
theorem dX5_holdsRun_21 : decode cX5_holdsRun 21 = .ok (.iload_n 2, 1) := by decide +kernel
theorem dX5_holdsRun_22 : decode cX5_holdsRun 22 = .ok (.isub, 1) := by decide +kernel
theorem dX5_holdsRun_23 : decode cX5_holdsRun 23 = .ok (.if_icmp .gt 7, 3) := by decide +kernel
theorem dX5_holdsRun_26 : decode cX5_holdsRun 26 = .ok (.iconst 1, 1) := by decide +kernel
theorem dX5_holdsRun_27 : decode cX5_holdsRun 27 = .ok (.goto 4, 3) := by decide +kernel
theorem dX5_holdsRun_30 : decode cX5_holdsRun 30 = .ok (.iconst 0, 1) := by decide +kernel
theorem dX5_holdsRun_31 : decode cX5_holdsRun 31 = .ok (.ireturn, 1) := by decide +kernel
theorem dX5_at_0 : decode cX5_at 0 = .ok (.aload_n 0, 1) := by decide +kernel
theorem dX5_at_1 : decode cX5_at 1 = .ok (.iload_n 1, 1) := by decide +kernel
theorem dX5_at_2 : decode cX5_at 2 = .ok (.invokevirtual 22, 3) := by decide +kernel
theorem dX5_at_5 : decode cX5_at 5 = .ok (.ifCond .eq 12, 3) := by decide +kernel
theorem dX5_at_8 : decode cX5_at 8 = .ok (.aload_n 0, 1) := by decide +kernel
theorem dX5_at_9 : decode cX5_at 9 = .ok (.getfield 15, 3) := by decide +kernel
theorem dX5_at_12 : decode cX5_at 12 = .ok (.iload_n 1, 1) := by decide +kernel
theorem dX5_at_13 : decode cX5_at 13 = .ok (.iaload, 1) := by decide +kernel
theorem dX5_at_14 : decode cX5_at 14 = .ok (.goto 4, 3) := by decide +kernel
theorem dX5_at_17 : decode cX5_at 17 = .ok (.iconst 0, 1) := by decide +kernel
theorem dX5_at_18 : decode cX5_at 18 = .ok (.ireturn, 1) := by decide +kernel
theorem dX5_put_0 : decode cX5_put 0 = .ok (.aload_n 0, 1) := by decide +kernel
theorem dX5_put_1 : decode cX5_put 1 = .ok (.iload_n 1, 1) := by decide +kernel
theorem dX5_put_2 : decode cX5_put 2 = .ok (.invokevirtual 22, 3) := by decide +kernel
theorem dX5_put_5 : decode cX5_put 5 = .ok (.ifCond .eq 35, 3) := by decide +kernel
theorem dX5_put_8 : decode cX5_put 8 = .ok (.aload_n 0, 1) := by decide +kernel
theorem dX5_put_9 : decode cX5_put 9 = .ok (.getfield 15, 3) := by decide +kernel
theorem dX5_put_12 : decode cX5_put 12 = .ok (.iload_n 1, 1) := by decide +kernel
theorem dX5_put_13 : decode cX5_put 13 = .ok (.aload_n 0, 1) := by decide +kernel
theorem dX5_put_14 : decode cX5_put 14 = .ok (.getfield 9, 3) := by decide +kernel
theorem dX5_put_17 : decode cX5_put 17 = .ok (.ifCond .ne 8, 3) := by decide +kernel
theorem dX5_put_20 : decode cX5_put 20 = .ok (.iload_n 2, 1) := by decide +kernel
theorem dX5_put_21 : decode cX5_put 21 = .ok (.i2b, 1) := by decide +kernel
theorem dX5_put_22 : decode cX5_put 22 = .ok (.goto 17, 3) := by decide +kernel
theorem dX5_put_25 : decode cX5_put 25 = .ok (.aload_n 0, 1) := by decide +kernel
theorem dX5_put_26 : decode cX5_put 26 = .ok (.getfield 9, 3) := by decide +kernel
theorem dX5_put_29 : decode cX5_put 29 = .ok (.iconst 1, 1) := by decide +kernel
theorem dX5_put_30 : decode cX5_put 30 = .ok (.if_icmp .ne 8, 3) := by decide +kernel
theorem dX5_put_33 : decode cX5_put 33 = .ok (.iload_n 2, 1) := by decide +kernel
theorem dX5_put_34 : decode cX5_put 34 = .ok (.i2s, 1) := by decide +kernel
theorem dX5_put_35 : decode cX5_put 35 = .ok (.goto 4, 3) := by decide +kernel
theorem dX5_put_38 : decode cX5_put 38 = .ok (.iload_n 2, 1) := by decide +kernel
theorem dX5_put_39 : decode cX5_put 39 = .ok (.iastore, 1) := by decide +kernel
theorem dX5_put_40 : decode cX5_put 40 = .ok (.return_, 1) := by decide +kernel
theorem dX5_tellsSums_0 : decode cX5_tellsSums 0 = .ok (.aload_n 0, 1) := by decide +kernel
theorem dX5_tellsSums_1 : decode cX5_tellsSums 1 = .ok (.getfield 19, 3) := by decide +kernel
theorem dX5_tellsSums_4 : decode cX5_tellsSums 4 = .ok (.iconst 2, 1) := by decide +kernel
theorem dX5_tellsSums_5 : decode cX5_tellsSums 5 = .ok (.irem, 1) := by decide +kernel
theorem dX5_tellsSums_6 : decode cX5_tellsSums 6 = .ok (.ifCond .eq 5, 3) := by decide +kernel
theorem dX5_tellsSums_9 : decode cX5_tellsSums 9 = .ok (.iconst 0, 1) := by decide +kernel
theorem dX5_tellsSums_10 : decode cX5_tellsSums 10 = .ok (.ireturn, 1) := by decide +kernel
theorem dX5_tellsSums_11 : decode cX5_tellsSums 11 = .ok (.iconst 0, 1) := by decide +kernel
theorem dX5_tellsSums_12 : decode cX5_tellsSums 12 = .ok (.istore_n 1, 1) := by decide +kernel
theorem dX5_tellsSums_13 : decode cX5_tellsSums 13 = .ok (.iload_n 1, 1) := by decide +kernel
theorem dX5_tellsSums_14 : decode cX5_tellsSums 14 = .ok (.aload_n 0, 1) := by decide +kernel
theorem dX5_tellsSums_15 : decode cX5_tellsSums 15 = .ok (.getfield 19, 3) := by decide +kernel
theorem dX5_tellsSums_18 : decode cX5_tellsSums 18 = .ok (.if_icmp .ge 22, 3) := by decide +kernel
theorem dX5_tellsSums_21 : decode cX5_tellsSums 21 = .ok (.aload_n 0, 1) := by decide +kernel
theorem dX5_tellsSums_22 : decode cX5_tellsSums 22 = .ok (.iload_n 1, 1) := by decide +kernel
theorem dX5_tellsSums_23 : decode cX5_tellsSums 23 = .ok (.invokevirtual 26, 3) := by decide +kernel
theorem dX5_tellsSums_26 : decode cX5_tellsSums 26 = .ok (.invokestatic 30, 3) := by decide +kernel
theorem dX5_tellsSums_29 : decode cX5_tellsSums 29 = .ok (.ifCond .ne 5, 3) := by decide +kernel
theorem dX5_tellsSums_32 : decode cX5_tellsSums 32 = .ok (.iconst 0, 1) := by decide +kernel
theorem dX5_tellsSums_33 : decode cX5_tellsSums 33 = .ok (.ireturn, 1) := by decide +kernel
theorem dX5_tellsSums_34 : decode cX5_tellsSums 34 = .ok (.iinc 1 2, 3) := by decide +kernel
theorem dX5_tellsSums_37 : decode cX5_tellsSums 37 = .ok (.goto (-24), 3) := by decide +kernel
theorem dX5_tellsSums_40 : decode cX5_tellsSums 40 = .ok (.iconst 1, 1) := by decide +kernel
theorem dX5_tellsSums_41 : decode cX5_tellsSums 41 = .ok (.ireturn, 1) := by decide +kernel
theorem dX6_init_0 : decode cX6_init 0 = .ok (.aload_n 0, 1) := by decide +kernel
theorem dX6_init_1 : decode cX6_init 1 = .ok (.invokespecial 3, 3) := by decide +kernel
theorem dX6_init_4 : decode cX6_init 4 = .ok (.aload_n 0, 1) := by decide +kernel
theorem dX6_init_5 : decode cX6_init 5 = .ok (.bipush 6, 2) := by decide +kernel
theorem dX6_init_7 : decode cX6_init 7 = .ok (.bipush 6, 2) := by decide +kernel
theorem dX6_init_9 : decode cX6_init 9 = .ok (.multianewarray 9 2, 4) := by decide +kernel
theorem dX6_init_13 : decode cX6_init 13 = .ok (.putfield 11, 3) := by decide +kernel
theorem dX6_init_16 : decode cX6_init 16 = .ok (.aload_n 0, 1) := by decide +kernel
theorem dX6_init_17 : decode cX6_init 17 = .ok (.bipush 6, 2) := by decide +kernel
theorem dX6_init_19 : decode cX6_init 19 = .ok (.newarray .int, 2) := by decide +kernel
theorem dX6_init_21 : decode cX6_init 21 = .ok (.putfield 16, 3) := by decide +kernel
theorem dX6_init_24 : decode cX6_init 24 = .ok (.aload_n 0, 1) := by decide +kernel
theorem dX6_init_25 : decode cX6_init 25 = .ok (.bipush 6, 2) := by decide +kernel
theorem dX6_init_27 : decode cX6_init 27 = .ok (.newarray .int, 2) := by decide +kernel
theorem dX6_init_29 : decode cX6_init 29 = .ok (.putfield 20, 3) := by decide +kernel
theorem dX6_init_32 : decode cX6_init 32 = .ok (.aload_n 0, 1) := by decide +kernel
theorem dX6_init_33 : decode cX6_init 33 = .ok (.aload_n 1, 1) := by decide +kernel
theorem dX6_init_34 : decode cX6_init 34 = .ok (.putfield 23, 3) := by decide +kernel
theorem dX6_init_37 : decode cX6_init 37 = .ok (.return_, 1) := by decide +kernel
theorem dX6_lay_0 : decode cX6_lay 0 = .ok (.aload_n 0, 1) := by decide +kernel
theorem dX6_lay_1 : decode cX6_lay 1 = .ok (.iconst 0, 1) := by decide +kernel
theorem dX6_lay_2 : decode cX6_lay 2 = .ok (.iload_n 2, 1) := by decide +kernel
theorem dX6_lay_3 : decode cX6_lay 3 = .ok (.bipush 6, 2) := by decide +kernel
theorem dX6_lay_5 : decode cX6_lay 5 = .ok (.aload_n 1, 1) := by decide +kernel
theorem dX6_lay_6 : decode cX6_lay 6 = .ok (.arraylength, 1) := by decide +kernel
theorem dX6_lay_7 : decode cX6_lay 7 = .ok (.invokestatic 27, 3) := by decide +kernel
theorem dX6_lay_10 : decode cX6_lay 10 = .ok (.invokestatic 27, 3) := by decide +kernel
theorem dX6_lay_13 : decode cX6_lay 13 = .ok (.invokestatic 33, 3) := by decide +kernel
theorem dX6_lay_16 : decode cX6_lay 16 = .ok (.putfield 36, 3) := by decide +kernel
theorem dX6_lay_19 : decode cX6_lay 19 = .ok (.iconst 0, 1) := by decide +kernel
theorem dX6_lay_20 : decode cX6_lay 20 = .ok (.istore 4, 2) := by decide +kernel
theorem dX6_lay_22 : decode cX6_lay 22 = .ok (.iload 4, 2) := by decide +kernel
theorem dX6_lay_24 : decode cX6_lay 24 = .ok (.aload_n 0, 1) := by decide +kernel
theorem dX6_lay_25 : decode cX6_lay 25 = .ok (.getfield 36, 3) := by decide +kernel
theorem dX6_lay_28 : decode cX6_lay 28 = .ok (.if_icmp .ge 96, 3) := by decide +kernel
theorem dX6_lay_31 : decode cX6_lay 31 = .ok (.aload_n 0, 1) := by decide +kernel
theorem dX6_lay_32 : decode cX6_lay 32 = .ok (.getfield 11, 3) := by decide +kernel
theorem dX6_lay_35 : decode cX6_lay 35 = .ok (.iload 4, 2) := by decide +kernel
theorem dX6_lay_37 : decode cX6_lay 37 = .ok (.aaload, 1) := by decide +kernel
theorem dX6_lay_38 : decode cX6_lay 38 = .ok (.iload 4, 2) := by decide +kernel
theorem dX6_lay_40 : decode cX6_lay 40 = .ok (.iconst (-1), 1) := by decide +kernel
theorem dX6_lay_41 : decode cX6_lay 41 = .ok (.iastore, 1) := by decide +kernel
theorem dX6_lay_42 : decode cX6_lay 42 = .ok (.iload 4, 2) := by decide +kernel
theorem dX6_lay_44 : decode cX6_lay 44 = .ok (.iconst 1, 1) := by decide +kernel
theorem dX6_lay_45 : decode cX6_lay 45 = .ok (.iadd, 1) := by decide +kernel
theorem dX6_lay_46 : decode cX6_lay 46 = .ok (.istore 5, 2) := by decide +kernel
theorem dX6_lay_48 : decode cX6_lay 48 = .ok (.iload 5, 2) := by decide +kernel
theorem dX6_lay_50 : decode cX6_lay 50 = .ok (.aload_n 0, 1) := by decide +kernel
theorem dX6_lay_51 : decode cX6_lay 51 = .ok (.getfield 36, 3) := by decide +kernel
theorem dX6_lay_54 : decode cX6_lay 54 = .ok (.if_icmp .ge 64, 3) := by decide +kernel
theorem dX6_lay_57 : decode cX6_lay 57 = .ok (.aload_n 0, 1) := by decide +kernel
theorem dX6_lay_58 : decode cX6_lay 58 = .ok (.getfield 23, 3) := by decide +kernel
theorem dX6_lay_61 : decode cX6_lay 61 = .ok (.aload_n 1, 1) := by decide +kernel
theorem dX6_lay_62 : decode cX6_lay 62 = .ok (.iload 4, 2) := by decide +kernel
theorem dX6_lay_64 : decode cX6_lay 64 = .ok (.aaload, 1) := by decide +kernel
theorem dX6_lay_65 : decode cX6_lay 65 = .ok (.aload_n 1, 1) := by decide +kernel
theorem dX6_lay_66 : decode cX6_lay 66 = .ok (.iload 5, 2) := by decide +kernel
theorem dX6_lay_68 : decode cX6_lay 68 = .ok (.aaload, 1) := by decide +kernel
theorem dX6_lay_69 : decode cX6_lay 69 = .ok (.iload_n 3, 1) := by decide +kernel
theorem dX6_lay_70 : decode cX6_lay 70 = .ok (.iconst 0, 1) := by decide +kernel
theorem dX6_lay_71 : decode cX6_lay 71 = .ok (.invokevirtual 40, 3) := by decide +kernel
theorem dX6_lay_74 : decode cX6_lay 74 = .ok (.aload_n 0, 1) := by decide +kernel
theorem dX6_lay_75 : decode cX6_lay 75 = .ok (.getfield 11, 3) := by decide +kernel
theorem dX6_lay_78 : decode cX6_lay 78 = .ok (.iload 4, 2) := by decide +kernel
theorem dX6_lay_80 : decode cX6_lay 80 = .ok (.aaload, 1) := by decide +kernel
theorem dX6_lay_81 : decode cX6_lay 81 = .ok (.iload 5, 2) := by decide +kernel
theorem dX6_lay_83 : decode cX6_lay 83 = .ok (.aload_n 0, 1) := by decide +kernel
theorem dX6_lay_84 : decode cX6_lay 84 = .ok (.getfield 23, 3) := by decide +kernel
theorem dX6_lay_87 : decode cX6_lay 87 = .ok (.iload_n 3, 1) := by decide +kernel
theorem dX6_lay_88 : decode cX6_lay 88 = .ok (.invokevirtual 46, 3) := by decide +kernel
theorem dX6_lay_91 : decode cX6_lay 91 = .ok (.iastore, 1) := by decide +kernel
theorem dX6_lay_92 : decode cX6_lay 92 = .ok (.aload_n 0, 1) := by decide +kernel
theorem dX6_lay_93 : decode cX6_lay 93 = .ok (.getfield 11, 3) := by decide +kernel
theorem dX6_lay_96 : decode cX6_lay 96 = .ok (.iload 5, 2) := by decide +kernel
theorem dX6_lay_98 : decode cX6_lay 98 = .ok (.aaload, 1) := by decide +kernel
theorem dX6_lay_99 : decode cX6_lay 99 = .ok (.iload 4, 2) := by decide +kernel
theorem dX6_lay_101 : decode cX6_lay 101 = .ok (.aload_n 0, 1) := by decide +kernel
theorem dX6_lay_102 : decode cX6_lay 102 = .ok (.getfield 11, 3) := by decide +kernel
theorem dX6_lay_105 : decode cX6_lay 105 = .ok (.iload 4, 2) := by decide +kernel
theorem dX6_lay_107 : decode cX6_lay 107 = .ok (.aaload, 1) := by decide +kernel
theorem dX6_lay_108 : decode cX6_lay 108 = .ok (.iload 5, 2) := by decide +kernel
theorem dX6_lay_110 : decode cX6_lay 110 = .ok (.iaload, 1) := by decide +kernel
theorem dX6_lay_111 : decode cX6_lay 111 = .ok (.iastore, 1) := by decide +kernel
theorem dX6_lay_112 : decode cX6_lay 112 = .ok (.iinc 5 1, 3) := by decide +kernel
theorem dX6_lay_115 : decode cX6_lay 115 = .ok (.goto (-67), 3) := by decide +kernel
theorem dX6_lay_118 : decode cX6_lay 118 = .ok (.iinc 4 1, 3) := by decide +kernel
theorem dX6_lay_121 : decode cX6_lay 121 = .ok (.goto (-99), 3) := by decide +kernel
theorem dX6_lay_124 : decode cX6_lay 124 = .ok (.return_, 1) := by decide +kernel
theorem dX6_walk_0 : decode cX6_walk 0 = .ok (.iconst 0, 1) := by decide +kernel
theorem dX6_walk_1 : decode cX6_walk 1 = .ok (.istore_n 2, 1) := by decide +kernel
theorem dX6_walk_2 : decode cX6_walk 2 = .ok (.iload_n 2, 1) := by decide +kernel
theorem dX6_walk_3 : decode cX6_walk 3 = .ok (.aload_n 0, 1) := by decide +kernel
theorem dX6_walk_4 : decode cX6_walk 4 = .ok (.getfield 36, 3) := by decide +kernel
theorem dX6_walk_7 : decode cX6_walk 7 = .ok (.if_icmp .ge 41, 3) := by decide +kernel
theorem dX6_walk_10 : decode cX6_walk 10 = .ok (.aload_n 0, 1) := by decide +kernel
theorem dX6_walk_11 : decode cX6_walk 11 = .ok (.getfield 16, 3) := by decide +kernel
theorem dX6_walk_14 : decode cX6_walk 14 = .ok (.iload_n 2, 1) := by decide +kernel
theorem dX6_walk_15 : decode cX6_walk 15 = .ok (.iload_n 2, 1) := by decide +kernel
theorem dX6_walk_16 : decode cX6_walk 16 = .ok (.iload_n 1, 1) := by decide +kernel
theorem dX6_walk_17 : decode cX6_walk 17 = .ok (.if_icmp .ne 7, 3) := by decide +kernel
theorem dX6_walk_20 : decode cX6_walk 20 = .ok (.iconst 0, 1) := by decide +kernel
theorem dX6_walk_21 : decode cX6_walk 21 = .ok (.goto 4, 3) := by decide +kernel
theorem dX6_walk_24 : decode cX6_walk 24 = .ok (.iconst (-1), 1) := by decide +kernel
theorem dX6_walk_25 : decode cX6_walk 25 = .ok (.iastore, 1) := by decide +kernel
theorem dX6_walk_26 : decode cX6_walk 26 = .ok (.aload_n 0, 1) := by decide +kernel
theorem dX6_walk_27 : decode cX6_walk 27 = .ok (.getfield 20, 3) := by decide +kernel
theorem dX6_walk_30 : decode cX6_walk 30 = .ok (.iload_n 2, 1) := by decide +kernel
theorem dX6_walk_31 : decode cX6_walk 31 = .ok (.iload_n 2, 1) := by decide +kernel
theorem dX6_walk_32 : decode cX6_walk 32 = .ok (.iload_n 1, 1) := by decide +kernel
theorem dX6_walk_33 : decode cX6_walk 33 = .ok (.if_icmp .ne 7, 3) := by decide +kernel
theorem dX6_walk_36 : decode cX6_walk 36 = .ok (.iconst 0, 1) := by decide +kernel
theorem dX6_walk_37 : decode cX6_walk 37 = .ok (.goto 4, 3) := by decide +kernel
theorem dX6_walk_40 : decode cX6_walk 40 = .ok (.iconst (-1), 1) := by decide +kernel
theorem dX6_walk_41 : decode cX6_walk 41 = .ok (.iastore, 1) := by decide +kernel
theorem dX6_walk_42 : decode cX6_walk 42 = .ok (.iinc 2 1, 3) := by decide +kernel
theorem dX6_walk_45 : decode cX6_walk 45 = .ok (.goto (-43), 3) := by decide +kernel
theorem dX6_walk_48 : decode cX6_walk 48 = .ok (.iconst 1, 1) := by decide +kernel
theorem dX6_walk_49 : decode cX6_walk 49 = .ok (.istore_n 2, 1) := by decide +kernel
theorem dX6_walk_50 : decode cX6_walk 50 = .ok (.iload_n 2, 1) := by decide +kernel
theorem dX6_walk_51 : decode cX6_walk 51 = .ok (.aload_n 0, 1) := by decide +kernel
theorem dX6_walk_52 : decode cX6_walk 52 = .ok (.getfield 36, 3) := by decide +kernel
theorem dX6_walk_55 : decode cX6_walk 55 = .ok (.if_icmp .ge 30, 3) := by decide +kernel
theorem dX6_walk_58 : decode cX6_walk 58 = .ok (.iconst 0, 1) := by decide +kernel
theorem dX6_walk_59 : decode cX6_walk 59 = .ok (.istore_n 3, 1) := by decide +kernel
theorem dX6_walk_60 : decode cX6_walk 60 = .ok (.iload_n 3, 1) := by decide +kernel
theorem dX6_walk_61 : decode cX6_walk 61 = .ok (.aload_n 0, 1) := by decide +kernel
theorem dX6_walk_62 : decode cX6_walk 62 = .ok (.getfield 36, 3) := by decide +kernel
theorem dX6_walk_65 : decode cX6_walk 65 = .ok (.if_icmp .ge 14, 3) := by decide +kernel
theorem dX6_walk_68 : decode cX6_walk 68 = .ok (.aload_n 0, 1) := by decide +kernel
theorem dX6_walk_69 : decode cX6_walk 69 = .ok (.iload_n 3, 1) := by decide +kernel
theorem dX6_walk_70 : decode cX6_walk 70 = .ok (.invokevirtual 50, 3) := by decide +kernel
theorem dX6_walk_73 : decode cX6_walk 73 = .ok (.iinc 3 1, 3) := by decide +kernel
theorem dX6_walk_76 : decode cX6_walk 76 = .ok (.goto (-16), 3) := by decide +kernel
theorem dX6_walk_79 : decode cX6_walk 79 = .ok (.iinc 2 1, 3) := by decide +kernel
theorem dX6_walk_82 : decode cX6_walk 82 = .ok (.goto (-32), 3) := by decide +kernel
theorem dX6_walk_85 : decode cX6_walk 85 = .ok (.return_, 1) := by decide +kernel
theorem dX6_walkOn_0 : decode cX6_walkOn 0 = .ok (.aload_n 0, 1) := by decide +kernel
theorem dX6_walkOn_1 : decode cX6_walkOn 1 = .ok (.getfield 16, 3) := by decide +kernel
theorem dX6_walkOn_4 : decode cX6_walkOn 4 = .ok (.iload_n 1, 1) := by decide +kernel
theorem dX6_walkOn_5 : decode cX6_walkOn 5 = .ok (.iaload, 1) := by decide +kernel
theorem dX6_walkOn_6 : decode cX6_walkOn 6 = .ok (.iconst (-1), 1) := by decide +kernel
theorem dX6_walkOn_7 : decode cX6_walkOn 7 = .ok (.if_icmp .ne 4, 3) := by decide +kernel
theorem dX6_walkOn_10 : decode cX6_walkOn 10 = .ok (.return_, 1) := by decide +kernel
theorem dX6_walkOn_11 : decode cX6_walkOn 11 = .ok (.iconst 0, 1) := by decide +kernel
theorem dX6_walkOn_12 : decode cX6_walkOn 12 = .ok (.istore_n 2, 1) := by decide +kernel
theorem dX6_walkOn_13 : decode cX6_walkOn 13 = .ok (.iload_n 2, 1) := by decide +kernel
theorem dX6_walkOn_14 : decode cX6_walkOn 14 = .ok (.aload_n 0, 1) := by decide +kernel
theorem dX6_walkOn_15 : decode cX6_walkOn 15 = .ok (.getfield 36, 3) := by decide +kernel
theorem dX6_walkOn_18 : decode cX6_walkOn 18 = .ok (.if_icmp .ge 75, 3) := by decide +kernel
theorem dX6_walkOn_21 : decode cX6_walkOn 21 = .ok (.aload_n 0, 1) := by decide +kernel
theorem dX6_walkOn_22 : decode cX6_walkOn 22 = .ok (.getfield 16, 3) := by decide +kernel
theorem dX6_walkOn_25 : decode cX6_walkOn 25 = .ok (.iload_n 1, 1) := by decide +kernel
theorem dX6_walkOn_26 : decode cX6_walkOn 26 = .ok (.iaload, 1) := by decide +kernel
theorem dX6_walkOn_27 : decode cX6_walkOn 27 = .ok (.aload_n 0, 1) := by decide +kernel
theorem dX6_walkOn_28 : decode cX6_walkOn 28 = .ok (.getfield 11, 3) := by decide +kernel
theorem dX6_walkOn_31 : decode cX6_walkOn 31 = .ok (.iload_n 1, 1) := by decide +kernel
theorem dX6_walkOn_32 : decode cX6_walkOn 32 = .ok (.aaload, 1) := by decide +kernel
theorem dX6_walkOn_33 : decode cX6_walkOn 33 = .ok (.iload_n 2, 1) := by decide +kernel
theorem dX6_walkOn_34 : decode cX6_walkOn 34 = .ok (.iaload, 1) := by decide +kernel
theorem dX6_walkOn_35 : decode cX6_walkOn 35 = .ok (.iadd, 1) := by decide +kernel
theorem dX6_walkOn_36 : decode cX6_walkOn 36 = .ok (.istore_n 3, 1) := by decide +kernel
theorem dX6_walkOn_37 : decode cX6_walkOn 37 = .ok (.aload_n 0, 1) := by decide +kernel
theorem dX6_walkOn_38 : decode cX6_walkOn 38 = .ok (.getfield 11, 3) := by decide +kernel
theorem dX6_walkOn_41 : decode cX6_walkOn 41 = .ok (.iload_n 1, 1) := by decide +kernel
theorem dX6_walkOn_42 : decode cX6_walkOn 42 = .ok (.aaload, 1) := by decide +kernel
theorem dX6_walkOn_43 : decode cX6_walkOn 43 = .ok (.iload_n 2, 1) := by decide +kernel
theorem dX6_walkOn_44 : decode cX6_walkOn 44 = .ok (.iaload, 1) := by decide +kernel
theorem dX6_walkOn_45 : decode cX6_walkOn 45 = .ok (.iconst (-1), 1) := by decide +kernel
theorem dX6_walkOn_46 : decode cX6_walkOn 46 = .ok (.if_icmp .eq 41, 3) := by decide +kernel
theorem dX6_walkOn_49 : decode cX6_walkOn 49 = .ok (.aload_n 0, 1) := by decide +kernel
theorem dX6_walkOn_50 : decode cX6_walkOn 50 = .ok (.iload_n 3, 1) := by decide +kernel
theorem dX6_walkOn_51 : decode cX6_walkOn 51 = .ok (.aload_n 0, 1) := by decide +kernel
theorem dX6_walkOn_52 : decode cX6_walkOn 52 = .ok (.getfield 20, 3) := by decide +kernel
theorem dX6_walkOn_55 : decode cX6_walkOn 55 = .ok (.iload_n 1, 1) := by decide +kernel
theorem dX6_walkOn_56 : decode cX6_walkOn 56 = .ok (.iaload, 1) := by decide +kernel
theorem dX6_walkOn_57 : decode cX6_walkOn 57 = .ok (.iconst 1, 1) := by decide +kernel
theorem dX6_walkOn_58 : decode cX6_walkOn 58 = .ok (.iadd, 1) := by decide +kernel
theorem dX6_walkOn_59 : decode cX6_walkOn 59 = .ok (.iload_n 2, 1) := by decide +kernel
theorem dX6_walkOn_60 : decode cX6_walkOn 60 = .ok (.invokevirtual 54, 3) := by decide +kernel
theorem dX6_walkOn_63 : decode cX6_walkOn 63 = .ok (.ifCond .eq 24, 3) := by decide +kernel
theorem dX6_walkOn_66 : decode cX6_walkOn 66 = .ok (.aload_n 0, 1) := by decide +kernel
theorem dX6_walkOn_67 : decode cX6_walkOn 67 = .ok (.getfield 16, 3) := by decide +kernel
theorem dX6_walkOn_70 : decode cX6_walkOn 70 = .ok (.iload_n 2, 1) := by decide +kernel
theorem dX6_walkOn_71 : decode cX6_walkOn 71 = .ok (.iload_n 3, 1) := by decide +kernel
theorem dX6_walkOn_72 : decode cX6_walkOn 72 = .ok (.iastore, 1) := by decide +kernel
theorem dX6_walkOn_73 : decode cX6_walkOn 73 = .ok (.aload_n 0, 1) := by decide +kernel
theorem dX6_walkOn_74 : decode cX6_walkOn 74 = .ok (.getfield 20, 3) := by decide +kernel
theorem dX6_walkOn_77 : decode cX6_walkOn 77 = .ok (.iload_n 2, 1) := by decide +kernel
theorem dX6_walkOn_78 : decode cX6_walkOn 78 = .ok (.aload_n 0, 1) := by decide +kernel
theorem dX6_walkOn_79 : decode cX6_walkOn 79 = .ok (.getfield 20, 3) := by decide +kernel
theorem dX6_walkOn_82 : decode cX6_walkOn 82 = .ok (.iload_n 1, 1) := by decide +kernel
theorem dX6_walkOn_83 : decode cX6_walkOn 83 = .ok (.iaload, 1) := by decide +kernel
theorem dX6_walkOn_84 : decode cX6_walkOn 84 = .ok (.iconst 1, 1) := by decide +kernel
theorem dX6_walkOn_85 : decode cX6_walkOn 85 = .ok (.iadd, 1) := by decide +kernel
theorem dX6_walkOn_86 : decode cX6_walkOn 86 = .ok (.iastore, 1) := by decide +kernel
theorem dX6_walkOn_87 : decode cX6_walkOn 87 = .ok (.iinc 2 1, 3) := by decide +kernel
theorem dX6_walkOn_90 : decode cX6_walkOn 90 = .ok (.goto (-77), 3) := by decide +kernel
theorem dX6_walkOn_93 : decode cX6_walkOn 93 = .ok (.return_, 1) := by decide +kernel
theorem dX6_isBetter_0 : decode cX6_isBetter 0 = .ok (.aload_n 0, 1) := by decide +kernel
theorem dX6_isBetter_1 : decode cX6_isBetter 1 = .ok (.getfield 16, 3) := by decide +kernel
theorem dX6_isBetter_4 : decode cX6_isBetter 4 = .ok (.iload_n 3, 1) := by decide +kernel
theorem dX6_isBetter_5 : decode cX6_isBetter 5 = .ok (.iaload, 1) := by decide +kernel
theorem dX6_isBetter_6 : decode cX6_isBetter 6 = .ok (.iconst (-1), 1) := by decide +kernel
theorem dX6_isBetter_7 : decode cX6_isBetter 7 = .ok (.if_icmp .eq 33, 3) := by decide +kernel
theorem dX6_isBetter_10 : decode cX6_isBetter 10 = .ok (.iload_n 1, 1) := by decide +kernel
theorem dX6_isBetter_11 : decode cX6_isBetter 11 = .ok (.aload_n 0, 1) := by decide +kernel
theorem dX6_isBetter_12 : decode cX6_isBetter 12 = .ok (.getfield 16, 3) := by decide +kernel
theorem dX6_isBetter_15 : decode cX6_isBetter 15 = .ok (.iload_n 3, 1) := by decide +kernel
theorem dX6_isBetter_16 : decode cX6_isBetter 16 = .ok (.iaload, 1) := by decide +kernel
theorem dX6_isBetter_17 : decode cX6_isBetter 17 = .ok (.if_icmp .lt 23, 3) := by decide +kernel
theorem dX6_isBetter_20 : decode cX6_isBetter 20 = .ok (.iload_n 1, 1) := by decide +kernel
theorem dX6_isBetter_21 : decode cX6_isBetter 21 = .ok (.aload_n 0, 1) := by decide +kernel
theorem dX6_isBetter_22 : decode cX6_isBetter 22 = .ok (.getfield 16, 3) := by decide +kernel
theorem dX6_isBetter_25 : decode cX6_isBetter 25 = .ok (.iload_n 3, 1) := by decide +kernel
theorem dX6_isBetter_26 : decode cX6_isBetter 26 = .ok (.iaload, 1) := by decide +kernel
theorem dX6_isBetter_27 : decode cX6_isBetter 27 = .ok (.if_icmp .ne 17, 3) := by decide +kernel
theorem dX6_isBetter_30 : decode cX6_isBetter 30 = .ok (.iload_n 2, 1) := by decide +kernel
theorem dX6_isBetter_31 : decode cX6_isBetter 31 = .ok (.aload_n 0, 1) := by decide +kernel
theorem dX6_isBetter_32 : decode cX6_isBetter 32 = .ok (.getfield 20, 3) := by decide +kernel
theorem dX6_isBetter_35 : decode cX6_isBetter 35 = .ok (.iload_n 3, 1) := by decide +kernel
theorem dX6_isBetter_36 : decode cX6_isBetter 36 = .ok (.iaload, 1) := by decide +kernel
theorem dX6_isBetter_37 : decode cX6_isBetter 37 = .ok (.if_icmp .ge 7, 3) := by decide +kernel
theorem dX6_isBetter_40 : decode cX6_isBetter 40 = .ok (.iconst 1, 1) := by decide +kernel
theorem dX6_isBetter_41 : decode cX6_isBetter 41 = .ok (.goto 4, 3) := by decide +kernel
theorem dX6_isBetter_44 : decode cX6_isBetter 44 = .ok (.iconst 0, 1) := by decide +kernel
theorem dX6_isBetter_45 : decode cX6_isBetter 45 = .ok (.ireturn, 1) := by decide +kernel
theorem dX6_costTo_0 : decode cX6_costTo 0 = .ok (.iload_n 1, 1) := by decide +kernel
theorem dX6_costTo_1 : decode cX6_costTo 1 = .ok (.ifCond .lt 11, 3) := by decide +kernel
theorem dX6_costTo_4 : decode cX6_costTo 4 = .ok (.iload_n 1, 1) := by decide +kernel
theorem dX6_costTo_5 : decode cX6_costTo 5 = .ok (.aload_n 0, 1) := by decide +kernel
theorem dX6_costTo_6 : decode cX6_costTo 6 = .ok (.getfield 36, 3) := by decide +kernel
theorem dX6_costTo_9 : decode cX6_costTo 9 = .ok (.if_icmp .lt 7, 3) := by decide +kernel
theorem dX6_costTo_12 : decode cX6_costTo 12 = .ok (.iconst (-1), 1) := by decide +kernel
theorem dX6_costTo_13 : decode cX6_costTo 13 = .ok (.goto 9, 3) := by decide +kernel
theorem dX6_costTo_16 : decode cX6_costTo 16 = .ok (.aload_n 0, 1) := by decide +kernel
theorem dX6_costTo_17 : decode cX6_costTo 17 = .ok (.getfield 16, 3) := by decide +kernel
theorem dX6_costTo_20 : decode cX6_costTo 20 = .ok (.iload_n 1, 1) := by decide +kernel
theorem dX6_costTo_21 : decode cX6_costTo 21 = .ok (.iaload, 1) := by decide +kernel
theorem dX6_costTo_22 : decode cX6_costTo 22 = .ok (.ireturn, 1) := by decide +kernel
theorem dX6_stepsTo_0 : decode cX6_stepsTo 0 = .ok (.iload_n 1, 1) := by decide +kernel
theorem dX6_stepsTo_1 : decode cX6_stepsTo 1 = .ok (.ifCond .lt 11, 3) := by decide +kernel
theorem dX6_stepsTo_4 : decode cX6_stepsTo 4 = .ok (.iload_n 1, 1) := by decide +kernel
theorem dX6_stepsTo_5 : decode cX6_stepsTo 5 = .ok (.aload_n 0, 1) := by decide +kernel
theorem dX6_stepsTo_6 : decode cX6_stepsTo 6 = .ok (.getfield 36, 3) := by decide +kernel
theorem dX6_stepsTo_9 : decode cX6_stepsTo 9 = .ok (.if_icmp .lt 7, 3) := by decide +kernel
theorem dX6_stepsTo_12 : decode cX6_stepsTo 12 = .ok (.iconst (-1), 1) := by decide +kernel
theorem dX6_stepsTo_13 : decode cX6_stepsTo 13 = .ok (.goto 9, 3) := by decide +kernel
theorem dX6_stepsTo_16 : decode cX6_stepsTo 16 = .ok (.aload_n 0, 1) := by decide +kernel
theorem dX6_stepsTo_17 : decode cX6_stepsTo 17 = .ok (.getfield 20, 3) := by decide +kernel
theorem dX6_stepsTo_20 : decode cX6_stepsTo 20 = .ok (.iload_n 1, 1) := by decide +kernel
theorem dX6_stepsTo_21 : decode cX6_stepsTo 21 = .ok (.iaload, 1) := by decide +kernel
theorem dX6_stepsTo_22 : decode cX6_stepsTo 22 = .ok (.ireturn, 1) := by decide +kernel
theorem dX6_partedWithout_0 : decode cX6_partedWithout 0 = .ok (.iconst 0, 1) := by decide +kernel
theorem dX6_partedWithout_1 : decode cX6_partedWithout 1 = .ok (.istore_n 2, 1) := by decide +kernel
theorem dX6_partedWithout_2 : decode cX6_partedWithout 2 = .ok (.iconst 0, 1) := by decide +kernel
theorem dX6_partedWithout_3 : decode cX6_partedWithout 3 = .ok (.istore_n 3, 1) := by decide +kernel
theorem dX6_partedWithout_4 : decode cX6_partedWithout 4 = .ok (.iload_n 3, 1) := by decide +kernel
theorem dX6_partedWithout_5 : decode cX6_partedWithout 5 = .ok (.aload_n 0, 1) := by decide +kernel
theorem dX6_partedWithout_6 : decode cX6_partedWithout 6 = .ok (.getfield 36, 3) := by decide +kernel
theorem dX6_partedWithout_9 : decode cX6_partedWithout 9 = .ok (.if_icmp .ge 71, 3) := by decide +kernel
theorem dX6_partedWithout_12 : decode cX6_partedWithout 12 = .ok (.iload_n 3, 1) := by decide +kernel
theorem dX6_partedWithout_13 : decode cX6_partedWithout 13 = .ok (.iload_n 1, 1) := by decide +kernel
theorem dX6_partedWithout_14 : decode cX6_partedWithout 14 = .ok (.if_icmp .eq 60, 3) := by decide +kernel
theorem dX6_partedWithout_17 : decode cX6_partedWithout 17 = .ok (.aload_n 0, 1) := by decide +kernel
theorem dX6_partedWithout_18 : decode cX6_partedWithout 18 = .ok (.iload_n 3, 1) := by decide +kernel
theorem dX6_partedWithout_19 : decode cX6_partedWithout 19 = .ok (.iconst (-1), 1) := by decide +kernel
theorem dX6_partedWithout_20 : decode cX6_partedWithout 20 = .ok (.invokevirtual 58, 3) := by decide +kernel
theorem dX6_partedWithout_23 : decode cX6_partedWithout 23 = .ok (.aload_n 0, 1) := by decide +kernel
theorem dX6_partedWithout_24 : decode cX6_partedWithout 24 = .ok (.iload_n 3, 1) := by decide +kernel
theorem dX6_partedWithout_25 : decode cX6_partedWithout 25 = .ok (.iload_n 1, 1) := by decide +kernel
theorem dX6_partedWithout_26 : decode cX6_partedWithout 26 = .ok (.invokevirtual 58, 3) := by decide +kernel
theorem dX6_partedWithout_29 : decode cX6_partedWithout 29 = .ok (.iconst (-1), 1) := by decide +kernel
theorem dX6_partedWithout_30 : decode cX6_partedWithout 30 = .ok (.ixor, 1) := by decide +kernel
theorem dX6_partedWithout_31 : decode cX6_partedWithout 31 = .ok (.iand, 1) := by decide +kernel
theorem dX6_partedWithout_32 : decode cX6_partedWithout 32 = .ok (.istore 4, 2) := by decide +kernel
theorem dX6_partedWithout_34 : decode cX6_partedWithout 34 = .ok (.iload_n 3, 1) := by decide +kernel
theorem dX6_partedWithout_35 : decode cX6_partedWithout 35 = .ok (.iconst 1, 1) := by decide +kernel
theorem dX6_partedWithout_36 : decode cX6_partedWithout 36 = .ok (.iadd, 1) := by decide +kernel
theorem dX6_partedWithout_37 : decode cX6_partedWithout 37 = .ok (.istore 5, 2) := by decide +kernel
theorem dX6_partedWithout_39 : decode cX6_partedWithout 39 = .ok (.iload 5, 2) := by decide +kernel
theorem dX6_partedWithout_41 : decode cX6_partedWithout 41 = .ok (.aload_n 0, 1) := by decide +kernel
theorem dX6_partedWithout_42 : decode cX6_partedWithout 42 = .ok (.getfield 36, 3) := by decide +kernel
theorem dX6_partedWithout_45 : decode cX6_partedWithout 45 = .ok (.if_icmp .ge 29, 3) := by decide +kernel
theorem dX6_partedWithout_48 : decode cX6_partedWithout 48 = .ok (.iload_n 2, 1) := by decide +kernel
theorem dX6_partedWithout_49 : decode cX6_partedWithout 49 = .ok (.iload 5, 2) := by decide +kernel
theorem dX6_partedWithout_51 : decode cX6_partedWithout 51 = .ok (.iload_n 1, 1) := by decide +kernel
theorem dX6_partedWithout_52 : decode cX6_partedWithout 52 = .ok (.if_icmp .ne 7, 3) := by decide +kernel
theorem dX6_partedWithout_55 : decode cX6_partedWithout 55 = .ok (.iconst 0, 1) := by decide +kernel
theorem dX6_partedWithout_56 : decode cX6_partedWithout 56 = .ok (.goto 10, 3) := by decide +kernel
theorem dX6_partedWithout_59 : decode cX6_partedWithout 59 = .ok (.iload 4, 2) := by decide +kernel
theorem dX6_partedWithout_61 : decode cX6_partedWithout 61 = .ok (.iload 5, 2) := by decide +kernel
theorem dX6_partedWithout_63 : decode cX6_partedWithout 63 = .ok (.ishr, 1) := by decide +kernel
theorem dX6_partedWithout_64 : decode cX6_partedWithout 64 = .ok (.iconst 1, 1) := by decide +kernel
theorem dX6_partedWithout_65 : decode cX6_partedWithout 65 = .ok (.iand, 1) := by decide +kernel
theorem dX6_partedWithout_66 : decode cX6_partedWithout 66 = .ok (.iadd, 1) := by decide +kernel
theorem dX6_partedWithout_67 : decode cX6_partedWithout 67 = .ok (.istore_n 2, 1) := by decide +kernel
theorem dX6_partedWithout_68 : decode cX6_partedWithout 68 = .ok (.iinc 5 1, 3) := by decide +kernel
theorem dX6_partedWithout_71 : decode cX6_partedWithout 71 = .ok (.goto (-32), 3) := by decide +kernel
theorem dX6_partedWithout_74 : decode cX6_partedWithout 74 = .ok (.iinc 3 1, 3) := by decide +kernel
theorem dX6_partedWithout_77 : decode cX6_partedWithout 77 = .ok (.goto (-73), 3) := by decide +kernel
theorem dX6_partedWithout_80 : decode cX6_partedWithout 80 = .ok (.iload_n 2, 1) := by decide +kernel
theorem dX6_partedWithout_81 : decode cX6_partedWithout 81 = .ok (.ireturn, 1) := by decide +kernel
theorem dX6_reached_0 : decode cX6_reached 0 = .ok (.iconst 1, 1) := by decide +kernel
theorem dX6_reached_1 : decode cX6_reached 1 = .ok (.iload_n 1, 1) := by decide +kernel
theorem dX6_reached_2 : decode cX6_reached 2 = .ok (.ishl, 1) := by decide +kernel
theorem dX6_reached_3 : decode cX6_reached 3 = .ok (.istore_n 3, 1) := by decide +kernel
theorem dX6_reached_4 : decode cX6_reached 4 = .ok (.iconst 1, 1) := by decide +kernel
theorem dX6_reached_5 : decode cX6_reached 5 = .ok (.istore 4, 2) := by decide +kernel
theorem dX6_reached_7 : decode cX6_reached 7 = .ok (.iload 4, 2) := by decide +kernel
theorem dX6_reached_9 : decode cX6_reached 9 = .ok (.aload_n 0, 1) := by decide +kernel
theorem dX6_reached_10 : decode cX6_reached 10 = .ok (.getfield 36, 3) := by decide +kernel
theorem dX6_reached_13 : decode cX6_reached 13 = .ok (.if_icmp .ge 81, 3) := by decide +kernel
theorem dX6_reached_16 : decode cX6_reached 16 = .ok (.iconst 0, 1) := by decide +kernel
theorem dX6_reached_17 : decode cX6_reached 17 = .ok (.istore 5, 2) := by decide +kernel
theorem dX6_reached_19 : decode cX6_reached 19 = .ok (.iload 5, 2) := by decide +kernel
theorem dX6_reached_21 : decode cX6_reached 21 = .ok (.aload_n 0, 1) := by decide +kernel
theorem dX6_reached_22 : decode cX6_reached 22 = .ok (.getfield 36, 3) := by decide +kernel
theorem dX6_reached_25 : decode cX6_reached 25 = .ok (.if_icmp .ge 63, 3) := by decide +kernel
theorem dX6_reached_28 : decode cX6_reached 28 = .ok (.iconst 0, 1) := by decide +kernel
theorem dX6_reached_29 : decode cX6_reached 29 = .ok (.istore 6, 2) := by decide +kernel
theorem dX6_reached_31 : decode cX6_reached 31 = .ok (.iload 6, 2) := by decide +kernel
theorem dX6_reached_33 : decode cX6_reached 33 = .ok (.aload_n 0, 1) := by decide +kernel
theorem dX6_reached_34 : decode cX6_reached 34 = .ok (.getfield 36, 3) := by decide +kernel
theorem dX6_reached_37 : decode cX6_reached 37 = .ok (.if_icmp .ge 45, 3) := by decide +kernel
theorem dX6_reached_40 : decode cX6_reached 40 = .ok (.iload_n 3, 1) := by decide +kernel
theorem dX6_reached_41 : decode cX6_reached 41 = .ok (.iload 5, 2) := by decide +kernel
theorem dX6_reached_43 : decode cX6_reached 43 = .ok (.ishr, 1) := by decide +kernel
theorem dX6_reached_44 : decode cX6_reached 44 = .ok (.iconst 1, 1) := by decide +kernel
theorem dX6_reached_45 : decode cX6_reached 45 = .ok (.iand, 1) := by decide +kernel
theorem dX6_reached_46 : decode cX6_reached 46 = .ok (.ifCond .eq 30, 3) := by decide +kernel
theorem dX6_reached_49 : decode cX6_reached 49 = .ok (.iload 6, 2) := by decide +kernel
theorem dX6_reached_51 : decode cX6_reached 51 = .ok (.iload_n 2, 1) := by decide +kernel
theorem dX6_reached_52 : decode cX6_reached 52 = .ok (.if_icmp .eq 24, 3) := by decide +kernel
theorem dX6_reached_55 : decode cX6_reached 55 = .ok (.aload_n 0, 1) := by decide +kernel
theorem dX6_reached_56 : decode cX6_reached 56 = .ok (.getfield 11, 3) := by decide +kernel
theorem dX6_reached_59 : decode cX6_reached 59 = .ok (.iload 5, 2) := by decide +kernel
theorem dX6_reached_61 : decode cX6_reached 61 = .ok (.aaload, 1) := by decide +kernel
theorem dX6_reached_62 : decode cX6_reached 62 = .ok (.iload 6, 2) := by decide +kernel
theorem dX6_reached_64 : decode cX6_reached 64 = .ok (.iaload, 1) := by decide +kernel
theorem dX6_reached_65 : decode cX6_reached 65 = .ok (.iconst (-1), 1) := by decide +kernel
theorem dX6_reached_66 : decode cX6_reached 66 = .ok (.if_icmp .eq 10, 3) := by decide +kernel
theorem dX6_reached_69 : decode cX6_reached 69 = .ok (.iload_n 3, 1) := by decide +kernel
theorem dX6_reached_70 : decode cX6_reached 70 = .ok (.iconst 1, 1) := by decide +kernel
theorem dX6_reached_71 : decode cX6_reached 71 = .ok (.iload 6, 2) := by decide +kernel
theorem dX6_reached_73 : decode cX6_reached 73 = .ok (.ishl, 1) := by decide +kernel
theorem dX6_reached_74 : decode cX6_reached 74 = .ok (.ior, 1) := by decide +kernel
theorem dX6_reached_75 : decode cX6_reached 75 = .ok (.istore_n 3, 1) := by decide +kernel
theorem dX6_reached_76 : decode cX6_reached 76 = .ok (.iinc 6 1, 3) := by decide +kernel
theorem dX6_reached_79 : decode cX6_reached 79 = .ok (.goto (-48), 3) := by decide +kernel
theorem dX6_reached_82 : decode cX6_reached 82 = .ok (.iinc 5 1, 3) := by decide +kernel
theorem dX6_reached_85 : decode cX6_reached 85 = .ok (.goto (-66), 3) := by decide +kernel
theorem dX6_reached_88 : decode cX6_reached 88 = .ok (.iinc 4 1, 3) := by decide +kernel
theorem dX6_reached_91 : decode cX6_reached 91 = .ok (.goto (-84), 3) := by decide +kernel
theorem dX6_reached_94 : decode cX6_reached 94 = .ok (.iload_n 3, 1) := by decide +kernel
theorem dX6_reached_95 : decode cX6_reached 95 = .ok (.ireturn, 1) := by decide +kernel
theorem dX7_init_0 : decode cX7_init 0 = .ok (.aload_n 0, 1) := by decide +kernel
theorem dX7_init_1 : decode cX7_init 1 = .ok (.invokespecial 3, 3) := by decide +kernel
theorem dX7_init_4 : decode cX7_init 4 = .ok (.aload_n 0, 1) := by decide +kernel
theorem dX7_init_5 : decode cX7_init 5 = .ok (.bipush 6, 2) := by decide +kernel
theorem dX7_init_7 : decode cX7_init 7 = .ok (.anewarray 9, 3) := by decide +kernel
theorem dX7_init_10 : decode cX7_init 10 = .ok (.putfield 11, 3) := by decide +kernel
theorem dX7_init_13 : decode cX7_init 13 = .ok (.aload_n 0, 1) := by decide +kernel
theorem dX7_init_14 : decode cX7_init 14 = .ok (.iconst 4, 1) := by decide +kernel
theorem dX7_init_15 : decode cX7_init 15 = .ok (.anewarray 15, 3) := by decide +kernel
theorem dX7_init_18 : decode cX7_init 18 = .ok (.putfield 17, 3) := by decide +kernel
theorem dX7_init_21 : decode cX7_init 21 = .ok (.aload_n 0, 1) := by decide +kernel
theorem dX7_init_22 : decode cX7_init 22 = .ok (.new 21, 3) := by decide +kernel
theorem dX7_init_25 : decode cX7_init 25 = .ok (.dup, 1) := by decide +kernel
theorem dX7_init_26 : decode cX7_init 26 = .ok (.invokespecial 23, 3) := by decide +kernel
end
section
theorem dX7_init_29 : decode cX7_init 29 = .ok (.putfield 24, 3) := by decide +kernel
theorem dX7_init_32 : decode cX7_init 32 = .ok (.aload_n 0, 1) := by decide +kernel
theorem dX7_init_33 : decode cX7_init 33 = .ok (.new 28, 3) := by decide +kernel
theorem dX7_init_36 : decode cX7_init 36 = .ok (.dup, 1) := by decide +kernel
theorem dX7_init_37 : decode cX7_init 37 = .ok (.aload_n 0, 1) := by decide +kernel
theorem dX7_init_38 : decode cX7_init 38 = .ok (.getfield 24, 3) := by decide +kernel
theorem dX7_init_41 : decode cX7_init 41 = .ok (.invokespecial 30, 3) := by decide +kernel
theorem dX7_init_44 : decode cX7_init 44 = .ok (.putfield 33, 3) := by decide +kernel
theorem dX7_init_47 : decode cX7_init 47 = .ok (.aload_n 0, 1) := by decide +kernel
theorem dX7_init_48 : decode cX7_init 48 = .ok (.new 37, 3) := by decide +kernel
theorem dX7_init_51 : decode cX7_init 51 = .ok (.dup, 1) := by decide +kernel
theorem dX7_init_52 : decode cX7_init 52 = .ok (.aload_n 0, 1) := by decide +kernel
theorem dX7_init_53 : decode cX7_init 53 = .ok (.getfield 33, 3) := by decide +kernel
theorem dX7_init_56 : decode cX7_init 56 = .ok (.invokespecial 39, 3) := by decide +kernel
theorem dX7_init_59 : decode cX7_init 59 = .ok (.putfield 42, 3) := by decide +kernel
theorem dX7_init_62 : decode cX7_init 62 = .ok (.aload_n 0, 1) := by decide +kernel
theorem dX7_init_63 : decode cX7_init 63 = .ok (.new 46, 3) := by decide +kernel
theorem dX7_init_66 : decode cX7_init 66 = .ok (.dup, 1) := by decide +kernel
theorem dX7_init_67 : decode cX7_init 67 = .ok (.invokespecial 48, 3) := by decide +kernel
theorem dX7_init_70 : decode cX7_init 70 = .ok (.putfield 49, 3) := by decide +kernel
theorem dX7_init_73 : decode cX7_init 73 = .ok (.aload_n 0, 1) := by decide +kernel
theorem dX7_init_74 : decode cX7_init 74 = .ok (.new 9, 3) := by decide +kernel
theorem dX7_init_77 : decode cX7_init 77 = .ok (.dup, 1) := by decide +kernel
theorem dX7_init_78 : decode cX7_init 78 = .ok (.invokespecial 53, 3) := by decide +kernel
theorem dX7_init_81 : decode cX7_init 81 = .ok (.putfield 54, 3) := by decide +kernel
theorem dX7_init_84 : decode cX7_init 84 = .ok (.aload_n 0, 1) := by decide +kernel
theorem dX7_init_85 : decode cX7_init 85 = .ok (.new 9, 3) := by decide +kernel
theorem dX7_init_88 : decode cX7_init 88 = .ok (.dup, 1) := by decide +kernel
theorem dX7_init_89 : decode cX7_init 89 = .ok (.invokespecial 53, 3) := by decide +kernel
theorem dX7_init_92 : decode cX7_init 92 = .ok (.putfield 58, 3) := by decide +kernel
theorem dX7_init_95 : decode cX7_init 95 = .ok (.iconst 0, 1) := by decide +kernel
theorem dX7_init_96 : decode cX7_init 96 = .ok (.istore_n 1, 1) := by decide +kernel
theorem dX7_init_97 : decode cX7_init 97 = .ok (.iload_n 1, 1) := by decide +kernel
theorem dX7_init_98 : decode cX7_init 98 = .ok (.bipush 6, 2) := by decide +kernel
theorem dX7_init_100 : decode cX7_init 100 = .ok (.if_icmp .ge 22, 3) := by decide +kernel
theorem dX7_init_103 : decode cX7_init 103 = .ok (.aload_n 0, 1) := by decide +kernel
theorem dX7_init_104 : decode cX7_init 104 = .ok (.getfield 11, 3) := by decide +kernel
theorem dX7_init_107 : decode cX7_init 107 = .ok (.iload_n 1, 1) := by decide +kernel
theorem dX7_init_108 : decode cX7_init 108 = .ok (.new 9, 3) := by decide +kernel
theorem dX7_init_111 : decode cX7_init 111 = .ok (.dup, 1) := by decide +kernel
theorem dX7_init_112 : decode cX7_init 112 = .ok (.invokespecial 53, 3) := by decide +kernel
theorem dX7_init_115 : decode cX7_init 115 = .ok (.aastore, 1) := by decide +kernel
theorem dX7_init_116 : decode cX7_init 116 = .ok (.iinc 1 1, 3) := by decide +kernel
theorem dX7_init_119 : decode cX7_init 119 = .ok (.goto (-22), 3) := by decide +kernel
theorem dX7_init_122 : decode cX7_init 122 = .ok (.iconst 0, 1) := by decide +kernel
theorem dX7_init_123 : decode cX7_init 123 = .ok (.istore_n 1, 1) := by decide +kernel
theorem dX7_init_124 : decode cX7_init 124 = .ok (.iload_n 1, 1) := by decide +kernel
theorem dX7_init_125 : decode cX7_init 125 = .ok (.iconst 4, 1) := by decide +kernel
theorem dX7_init_126 : decode cX7_init 126 = .ok (.if_icmp .ge 22, 3) := by decide +kernel
theorem dX7_init_129 : decode cX7_init 129 = .ok (.aload_n 0, 1) := by decide +kernel
theorem dX7_init_130 : decode cX7_init 130 = .ok (.getfield 17, 3) := by decide +kernel
theorem dX7_init_133 : decode cX7_init 133 = .ok (.iload_n 1, 1) := by decide +kernel
theorem dX7_init_134 : decode cX7_init 134 = .ok (.new 15, 3) := by decide +kernel
theorem dX7_init_137 : decode cX7_init 137 = .ok (.dup, 1) := by decide +kernel
theorem dX7_init_138 : decode cX7_init 138 = .ok (.invokespecial 61, 3) := by decide +kernel
theorem dX7_init_141 : decode cX7_init 141 = .ok (.aastore, 1) := by decide +kernel
theorem dX7_init_142 : decode cX7_init 142 = .ok (.iinc 1 1, 3) := by decide +kernel
theorem dX7_init_145 : decode cX7_init 145 = .ok (.goto (-21), 3) := by decide +kernel
theorem dX7_init_148 : decode cX7_init 148 = .ok (.return_, 1) := by decide +kernel
theorem dX7_set_0 : decode cX7_set 0 = .ok (.iload_n 1, 1) := by decide +kernel
theorem dX7_set_1 : decode cX7_set 1 = .ok (.ifCond .ne 9, 3) := by decide +kernel
theorem dX7_set_4 : decode cX7_set 4 = .ok (.aload_n 0, 1) := by decide +kernel
theorem dX7_set_5 : decode cX7_set 5 = .ok (.iload_n 3, 1) := by decide +kernel
theorem dX7_set_6 : decode cX7_set 6 = .ok (.invokevirtual 62, 3) := by decide +kernel
theorem dX7_set_9 : decode cX7_set 9 = .ok (.ireturn, 1) := by decide +kernel
theorem dX7_set_10 : decode cX7_set 10 = .ok (.aload_n 0, 1) := by decide +kernel
theorem dX7_set_11 : decode cX7_set 11 = .ok (.iload_n 2, 1) := by decide +kernel
theorem dX7_set_12 : decode cX7_set 12 = .ok (.invokevirtual 66, 3) := by decide +kernel
theorem dX7_set_15 : decode cX7_set 15 = .ok (.astore 4, 2) := by decide +kernel
theorem dX7_set_17 : decode cX7_set 17 = .ok (.aload 4, 2) := by decide +kernel
theorem dX7_set_19 : decode cX7_set 19 = .ok (.ifnull 13, 3) := by decide +kernel
theorem dX7_set_22 : decode cX7_set 22 = .ok (.iload_n 1, 1) := by decide +kernel
theorem dX7_set_23 : decode cX7_set 23 = .ok (.iconst 1, 1) := by decide +kernel
theorem dX7_set_24 : decode cX7_set 24 = .ok (.if_icmp .lt 8, 3) := by decide +kernel
theorem dX7_set_27 : decode cX7_set 27 = .ok (.iload_n 1, 1) := by decide +kernel
theorem dX7_set_28 : decode cX7_set 28 = .ok (.iconst 2, 1) := by decide +kernel
theorem dX7_set_29 : decode cX7_set 29 = .ok (.if_icmp .le 6, 3) := by decide +kernel
theorem dX7_set_32 : decode cX7_set 32 = .ok (.bipush (-2), 2) := by decide +kernel
theorem dX7_set_34 : decode cX7_set 34 = .ok (.ireturn, 1) := by decide +kernel
theorem dX7_set_35 : decode cX7_set 35 = .ok (.iload_n 1, 1) := by decide +kernel
theorem dX7_set_36 : decode cX7_set 36 = .ok (.iconst 1, 1) := by decide +kernel
theorem dX7_set_37 : decode cX7_set 37 = .ok (.if_icmp .ne 10, 3) := by decide +kernel
theorem dX7_set_40 : decode cX7_set 40 = .ok (.aload 4, 2) := by decide +kernel
theorem dX7_set_42 : decode cX7_set 42 = .ok (.iload_n 3, 1) := by decide +kernel
theorem dX7_set_43 : decode cX7_set 43 = .ok (.invokestatic 70, 3) := by decide +kernel
theorem dX7_set_46 : decode cX7_set 46 = .ok (.ireturn, 1) := by decide +kernel
theorem dX7_set_47 : decode cX7_set 47 = .ok (.aload 4, 2) := by decide +kernel
theorem dX7_set_49 : decode cX7_set 49 = .ok (.iload_n 3, 1) := by decide +kernel
theorem dX7_set_50 : decode cX7_set 50 = .ok (.invokestatic 74, 3) := by decide +kernel
theorem dX7_set_53 : decode cX7_set 53 = .ok (.ireturn, 1) := by decide +kernel
theorem dX7_heir_0 : decode cX7_heir 0 = .ok (.iload_n 1, 1) := by decide +kernel
theorem dX7_heir_1 : decode cX7_heir 1 = .ok (.ifCond .lt 19, 3) := by decide +kernel
theorem dX7_heir_4 : decode cX7_heir 4 = .ok (.iload_n 1, 1) := by decide +kernel
theorem dX7_heir_5 : decode cX7_heir 5 = .ok (.bipush 6, 2) := by decide +kernel
theorem dX7_heir_7 : decode cX7_heir 7 = .ok (.if_icmp .ge 13, 3) := by decide +kernel
theorem dX7_heir_10 : decode cX7_heir 10 = .ok (.iload_n 2, 1) := by decide +kernel
theorem dX7_heir_11 : decode cX7_heir 11 = .ok (.ifCond .lt 9, 3) := by decide +kernel
theorem dX7_heir_14 : decode cX7_heir 14 = .ok (.iload_n 2, 1) := by decide +kernel
theorem dX7_heir_15 : decode cX7_heir 15 = .ok (.bipush 10, 2) := by decide +kernel
theorem dX7_heir_17 : decode cX7_heir 17 = .ok (.if_icmp .lt 6, 3) := by decide +kernel
theorem dX7_heir_20 : decode cX7_heir 20 = .ok (.bipush (-2), 2) := by decide +kernel
theorem dX7_heir_22 : decode cX7_heir 22 = .ok (.ireturn, 1) := by decide +kernel
theorem dX7_heir_23 : decode cX7_heir 23 = .ok (.aload_n 0, 1) := by decide +kernel
theorem dX7_heir_24 : decode cX7_heir 24 = .ok (.getfield 77, 3) := by decide +kernel
theorem dX7_heir_27 : decode cX7_heir 27 = .ok (.aload_n 0, 1) := by decide +kernel
theorem dX7_heir_28 : decode cX7_heir 28 = .ok (.getfield 11, 3) := by decide +kernel
theorem dX7_heir_31 : decode cX7_heir 31 = .ok (.arraylength, 1) := by decide +kernel
theorem dX7_heir_32 : decode cX7_heir 32 = .ok (.if_icmp .lt 6, 3) := by decide +kernel
theorem dX7_heir_35 : decode cX7_heir 35 = .ok (.bipush (-4), 2) := by decide +kernel
theorem dX7_heir_37 : decode cX7_heir 37 = .ok (.ireturn, 1) := by decide +kernel
theorem dX7_heir_38 : decode cX7_heir 38 = .ok (.aload_n 0, 1) := by decide +kernel
theorem dX7_heir_39 : decode cX7_heir 39 = .ok (.getfield 11, 3) := by decide +kernel
theorem dX7_heir_42 : decode cX7_heir 42 = .ok (.aload_n 0, 1) := by decide +kernel
theorem dX7_heir_43 : decode cX7_heir 43 = .ok (.getfield 77, 3) := by decide +kernel
theorem dX7_heir_46 : decode cX7_heir 46 = .ok (.aaload, 1) := by decide +kernel
theorem dX7_heir_47 : decode cX7_heir 47 = .ok (.astore_n 3, 1) := by decide +kernel
theorem dX7_heir_48 : decode cX7_heir 48 = .ok (.aload_n 3, 1) := by decide +kernel
theorem dX7_heir_49 : decode cX7_heir 49 = .ok (.aload_n 0, 1) := by decide +kernel
theorem dX7_heir_50 : decode cX7_heir 50 = .ok (.getfield 77, 3) := by decide +kernel
theorem dX7_heir_53 : decode cX7_heir 53 = .ok (.putfield 81, 3) := by decide +kernel
theorem dX7_heir_56 : decode cX7_heir 56 = .ok (.aload_n 3, 1) := by decide +kernel
theorem dX7_heir_57 : decode cX7_heir 57 = .ok (.iload_n 1, 1) := by decide +kernel
theorem dX7_heir_58 : decode cX7_heir 58 = .ok (.putfield 84, 3) := by decide +kernel
theorem dX7_heir_61 : decode cX7_heir 61 = .ok (.aload_n 3, 1) := by decide +kernel
theorem dX7_heir_62 : decode cX7_heir 62 = .ok (.iload_n 2, 1) := by decide +kernel
theorem dX7_heir_63 : decode cX7_heir 63 = .ok (.putfield 87, 3) := by decide +kernel
theorem dX7_heir_66 : decode cX7_heir 66 = .ok (.aload_n 3, 1) := by decide +kernel
theorem dX7_heir_67 : decode cX7_heir 67 = .ok (.iconst 0, 1) := by decide +kernel
theorem dX7_heir_68 : decode cX7_heir 68 = .ok (.putfield 90, 3) := by decide +kernel
theorem dX7_heir_71 : decode cX7_heir 71 = .ok (.aload_n 0, 1) := by decide +kernel
theorem dX7_heir_72 : decode cX7_heir 72 = .ok (.dup, 1) := by decide +kernel
theorem dX7_heir_73 : decode cX7_heir 73 = .ok (.getfield 77, 3) := by decide +kernel
theorem dX7_heir_76 : decode cX7_heir 76 = .ok (.iconst 1, 1) := by decide +kernel
theorem dX7_heir_77 : decode cX7_heir 77 = .ok (.iadd, 1) := by decide +kernel
theorem dX7_heir_78 : decode cX7_heir 78 = .ok (.putfield 77, 3) := by decide +kernel
theorem dX7_heir_81 : decode cX7_heir 81 = .ok (.aload_n 3, 1) := by decide +kernel
theorem dX7_heir_82 : decode cX7_heir 82 = .ok (.getfield 81, 3) := by decide +kernel
theorem dX7_heir_85 : decode cX7_heir 85 = .ok (.ireturn, 1) := by decide +kernel
theorem dX7_give_0 : decode cX7_give 0 = .ok (.aload_n 0, 1) := by decide +kernel
theorem dX7_give_1 : decode cX7_give 1 = .ok (.iload_n 1, 1) := by decide +kernel
theorem dX7_give_2 : decode cX7_give 2 = .ok (.invokevirtual 66, 3) := by decide +kernel
theorem dX7_give_5 : decode cX7_give 5 = .ok (.astore 4, 2) := by decide +kernel
theorem dX7_give_7 : decode cX7_give 7 = .ok (.aload_n 0, 1) := by decide +kernel
theorem dX7_give_8 : decode cX7_give 8 = .ok (.iload_n 2, 1) := by decide +kernel
theorem dX7_give_9 : decode cX7_give 9 = .ok (.invokevirtual 66, 3) := by decide +kernel
theorem dX7_give_12 : decode cX7_give 12 = .ok (.astore 5, 2) := by decide +kernel
theorem dX7_give_14 : decode cX7_give 14 = .ok (.aload 4, 2) := by decide +kernel
theorem dX7_give_16 : decode cX7_give 16 = .ok (.ifnull 22, 3) := by decide +kernel
theorem dX7_give_19 : decode cX7_give 19 = .ok (.aload 5, 2) := by decide +kernel
theorem dX7_give_21 : decode cX7_give 21 = .ok (.ifnull 17, 3) := by decide +kernel
theorem dX7_give_24 : decode cX7_give 24 = .ok (.aload 4, 2) := by decide +kernel
theorem dX7_give_26 : decode cX7_give 26 = .ok (.aload 5, 2) := by decide +kernel
theorem dX7_give_28 : decode cX7_give 28 = .ok (.if_acmp .eq 10, 3) := by decide +kernel
theorem dX7_give_31 : decode cX7_give 31 = .ok (.iload_n 3, 1) := by decide +kernel
theorem dX7_give_32 : decode cX7_give 32 = .ok (.invokestatic 93, 3) := by decide +kernel
theorem dX7_give_35 : decode cX7_give 35 = .ok (.ifCond .ne 6, 3) := by decide +kernel
theorem dX7_give_38 : decode cX7_give 38 = .ok (.bipush (-2), 2) := by decide +kernel
theorem dX7_give_40 : decode cX7_give 40 = .ok (.ireturn, 1) := by decide +kernel
theorem dX7_give_41 : decode cX7_give 41 = .ok (.aload 4, 2) := by decide +kernel
theorem dX7_give_43 : decode cX7_give 43 = .ok (.getfield 90, 3) := by decide +kernel
theorem dX7_give_46 : decode cX7_give 46 = .ok (.iload_n 3, 1) := by decide +kernel
theorem dX7_give_47 : decode cX7_give 47 = .ok (.invokestatic 97, 3) := by decide +kernel
theorem dX7_give_50 : decode cX7_give 50 = .ok (.ifCond .eq 15, 3) := by decide +kernel
theorem dX7_give_53 : decode cX7_give 53 = .ok (.aload 5, 2) := by decide +kernel
theorem dX7_give_55 : decode cX7_give 55 = .ok (.getfield 90, 3) := by decide +kernel
theorem dX7_give_58 : decode cX7_give 58 = .ok (.iload_n 3, 1) := by decide +kernel
theorem dX7_give_59 : decode cX7_give 59 = .ok (.invokestatic 97, 3) := by decide +kernel
theorem dX7_give_62 : decode cX7_give 62 = .ok (.ifCond .eq 6, 3) := by decide +kernel
theorem dX7_give_65 : decode cX7_give 65 = .ok (.bipush (-3), 2) := by decide +kernel
theorem dX7_give_67 : decode cX7_give 67 = .ok (.ireturn, 1) := by decide +kernel
theorem dX7_give_68 : decode cX7_give 68 = .ok (.aload 4, 2) := by decide +kernel
theorem dX7_give_70 : decode cX7_give 70 = .ok (.dup, 1) := by decide +kernel
theorem dX7_give_71 : decode cX7_give 71 = .ok (.getfield 90, 3) := by decide +kernel
theorem dX7_give_74 : decode cX7_give 74 = .ok (.iload_n 3, 1) := by decide +kernel
theorem dX7_give_75 : decode cX7_give 75 = .ok (.invokestatic 101, 3) := by decide +kernel
theorem dX7_give_78 : decode cX7_give 78 = .ok (.iconst (-1), 1) := by decide +kernel
theorem dX7_give_79 : decode cX7_give 79 = .ok (.ixor, 1) := by decide +kernel
theorem dX7_give_80 : decode cX7_give 80 = .ok (.iand, 1) := by decide +kernel
theorem dX7_give_81 : decode cX7_give 81 = .ok (.putfield 90, 3) := by decide +kernel
theorem dX7_give_84 : decode cX7_give 84 = .ok (.aload 5, 2) := by decide +kernel
theorem dX7_give_86 : decode cX7_give 86 = .ok (.dup, 1) := by decide +kernel
theorem dX7_give_87 : decode cX7_give 87 = .ok (.getfield 90, 3) := by decide +kernel
theorem dX7_give_90 : decode cX7_give 90 = .ok (.iload_n 3, 1) := by decide +kernel
theorem dX7_give_91 : decode cX7_give 91 = .ok (.invokestatic 101, 3) := by decide +kernel
theorem dX7_give_94 : decode cX7_give 94 = .ok (.ior, 1) := by decide +kernel
theorem dX7_give_95 : decode cX7_give 95 = .ok (.putfield 90, 3) := by decide +kernel
theorem dX7_give_98 : decode cX7_give 98 = .ok (.aload 4, 2) := by decide +kernel
theorem dX7_give_100 : decode cX7_give 100 = .ok (.getfield 90, 3) := by decide +kernel
theorem dX7_give_103 : decode cX7_give 103 = .ok (.invokestatic 104, 3) := by decide +kernel
theorem dX7_give_106 : decode cX7_give 106 = .ok (.ireturn, 1) := by decide +kernel
theorem dX7_told_0 : decode cX7_told 0 = .ok (.iload_n 2, 1) := by decide +kernel
theorem dX7_told_1 : decode cX7_told 1 = .ok (.ifCond .ne 11, 3) := by decide +kernel
theorem dX7_told_4 : decode cX7_told 4 = .ok (.aload_n 0, 1) := by decide +kernel
theorem dX7_told_5 : decode cX7_told 5 = .ok (.getfield 24, 3) := by decide +kernel
theorem dX7_told_8 : decode cX7_told 8 = .ok (.getfield 109, 3) := by decide +kernel
theorem dX7_told_11 : decode cX7_told 11 = .ok (.ireturn, 1) := by decide +kernel
theorem dX7_told_12 : decode cX7_told 12 = .ok (.aload_n 0, 1) := by decide +kernel
theorem dX7_told_13 : decode cX7_told 13 = .ok (.iload_n 1, 1) := by decide +kernel
theorem dX7_told_14 : decode cX7_told 14 = .ok (.invokevirtual 66, 3) := by decide +kernel
theorem dX7_told_17 : decode cX7_told 17 = .ok (.astore_n 3, 1) := by decide +kernel
theorem dX7_told_18 : decode cX7_told 18 = .ok (.aload_n 3, 1) := by decide +kernel
theorem dX7_told_19 : decode cX7_told 19 = .ok (.ifnonnull 6, 3) := by decide +kernel
theorem dX7_told_22 : decode cX7_told 22 = .ok (.bipush (-2), 2) := by decide +kernel
theorem dX7_told_24 : decode cX7_told 24 = .ok (.ireturn, 1) := by decide +kernel
theorem dX7_told_25 : decode cX7_told 25 = .ok (.iload_n 2, 1) := by decide +kernel
theorem dX7_told_26 : decode cX7_told 26 = .ok (.tableswitch 62 1 5 #[34, 39, 44, 49, 57], 34) := by decide +kernel
theorem dX7_told_60 : decode cX7_told 60 = .ok (.aload_n 3, 1) := by decide +kernel
theorem dX7_told_61 : decode cX7_told 61 = .ok (.getfield 87, 3) := by decide +kernel
theorem dX7_told_64 : decode cX7_told 64 = .ok (.ireturn, 1) := by decide +kernel
theorem dX7_told_65 : decode cX7_told 65 = .ok (.aload_n 3, 1) := by decide +kernel
theorem dX7_told_66 : decode cX7_told 66 = .ok (.getfield 90, 3) := by decide +kernel
theorem dX7_told_69 : decode cX7_told 69 = .ok (.ireturn, 1) := by decide +kernel
theorem dX7_told_70 : decode cX7_told 70 = .ok (.aload_n 3, 1) := by decide +kernel
theorem dX7_told_71 : decode cX7_told 71 = .ok (.getfield 84, 3) := by decide +kernel
theorem dX7_told_74 : decode cX7_told 74 = .ok (.ireturn, 1) := by decide +kernel
theorem dX7_told_75 : decode cX7_told 75 = .ok (.aload_n 3, 1) := by decide +kernel
theorem dX7_told_76 : decode cX7_told 76 = .ok (.getfield 90, 3) := by decide +kernel
theorem dX7_told_79 : decode cX7_told 79 = .ok (.invokestatic 104, 3) := by decide +kernel
theorem dX7_told_82 : decode cX7_told 82 = .ok (.ireturn, 1) := by decide +kernel
theorem dX7_told_83 : decode cX7_told 83 = .ok (.aload_n 3, 1) := by decide +kernel
theorem dX7_told_84 : decode cX7_told 84 = .ok (.invokevirtual 112, 3) := by decide +kernel
theorem dX7_told_87 : decode cX7_told 87 = .ok (.ireturn, 1) := by decide +kernel
theorem dX7_told_88 : decode cX7_told 88 = .ok (.bipush (-2), 2) := by decide +kernel
theorem dX7_told_90 : decode cX7_told 90 = .ok (.ireturn, 1) := by decide +kernel
theorem dX7_heirAt_0 : decode cX7_heirAt 0 = .ok (.iload_n 1, 1) := by decide +kernel
theorem dX7_heirAt_1 : decode cX7_heirAt 1 = .ok (.ifCond .lt 20, 3) := by decide +kernel
theorem dX7_heirAt_4 : decode cX7_heirAt 4 = .ok (.iload_n 1, 1) := by decide +kernel
theorem dX7_heirAt_5 : decode cX7_heirAt 5 = .ok (.aload_n 0, 1) := by decide +kernel
theorem dX7_heirAt_6 : decode cX7_heirAt 6 = .ok (.getfield 77, 3) := by decide +kernel
theorem dX7_heirAt_9 : decode cX7_heirAt 9 = .ok (.if_icmp .ge 12, 3) := by decide +kernel
theorem dX7_heirAt_12 : decode cX7_heirAt 12 = .ok (.iload_n 1, 1) := by decide +kernel
theorem dX7_heirAt_13 : decode cX7_heirAt 13 = .ok (.aload_n 0, 1) := by decide +kernel
theorem dX7_heirAt_14 : decode cX7_heirAt 14 = .ok (.getfield 11, 3) := by decide +kernel
theorem dX7_heirAt_17 : decode cX7_heirAt 17 = .ok (.arraylength, 1) := by decide +kernel
theorem dX7_heirAt_18 : decode cX7_heirAt 18 = .ok (.if_icmp .lt 7, 3) := by decide +kernel
theorem dX7_heirAt_21 : decode cX7_heirAt 21 = .ok (.aconst_null, 1) := by decide +kernel
theorem dX7_heirAt_22 : decode cX7_heirAt 22 = .ok (.goto 9, 3) := by decide +kernel
theorem dX7_heirAt_25 : decode cX7_heirAt 25 = .ok (.aload_n 0, 1) := by decide +kernel
theorem dX7_heirAt_26 : decode cX7_heirAt 26 = .ok (.getfield 11, 3) := by decide +kernel
theorem dX7_heirAt_29 : decode cX7_heirAt 29 = .ok (.iload_n 1, 1) := by decide +kernel
theorem dX7_heirAt_30 : decode cX7_heirAt 30 = .ok (.aaload, 1) := by decide +kernel
theorem dX7_heirAt_31 : decode cX7_heirAt 31 = .ok (.areturn, 1) := by decide +kernel
theorem dX7_setDay_0 : decode cX7_setDay 0 = .ok (.iload_n 1, 1) := by decide +kernel
theorem dX7_setDay_1 : decode cX7_setDay 1 = .ok (.ifCond .lt 9, 3) := by decide +kernel
theorem dX7_setDay_4 : decode cX7_setDay 4 = .ok (.iload_n 1, 1) := by decide +kernel
theorem dX7_setDay_5 : decode cX7_setDay 5 = .ok (.bipush 99, 2) := by decide +kernel
theorem dX7_setDay_7 : decode cX7_setDay 7 = .ok (.if_icmp .le 6, 3) := by decide +kernel
theorem dX7_setDay_10 : decode cX7_setDay 10 = .ok (.bipush (-2), 2) := by decide +kernel
theorem dX7_setDay_12 : decode cX7_setDay 12 = .ok (.ireturn, 1) := by decide +kernel
theorem dX7_setDay_13 : decode cX7_setDay 13 = .ok (.aload_n 0, 1) := by decide +kernel
theorem dX7_setDay_14 : decode cX7_setDay 14 = .ok (.getfield 24, 3) := by decide +kernel
theorem dX7_setDay_17 : decode cX7_setDay 17 = .ok (.getfield 109, 3) := by decide +kernel
theorem dX7_setDay_20 : decode cX7_setDay 20 = .ok (.istore_n 2, 1) := by decide +kernel
theorem dX7_setDay_21 : decode cX7_setDay 21 = .ok (.aload_n 0, 1) := by decide +kernel
theorem dX7_setDay_22 : decode cX7_setDay 22 = .ok (.getfield 24, 3) := by decide +kernel
theorem dX7_setDay_25 : decode cX7_setDay 25 = .ok (.iload_n 1, 1) := by decide +kernel
theorem dX7_setDay_26 : decode cX7_setDay 26 = .ok (.putfield 109, 3) := by decide +kernel
theorem dX7_setDay_29 : decode cX7_setDay 29 = .ok (.iload_n 2, 1) := by decide +kernel
theorem dX7_setDay_30 : decode cX7_setDay 30 = .ok (.ireturn, 1) := by decide +kernel
theorem dX7_setMore_0 : decode cX7_setMore 0 = .ok (.iload_n 1, 1) := by decide +kernel
theorem dX7_setMore_1 : decode cX7_setMore 1 = .ok (.ifCond .lt 9, 3) := by decide +kernel
theorem dX7_setMore_4 : decode cX7_setMore 4 = .ok (.iload_n 1, 1) := by decide +kernel
theorem dX7_setMore_5 : decode cX7_setMore 5 = .ok (.bipush 10, 2) := by decide +kernel
theorem dX7_setMore_7 : decode cX7_setMore 7 = .ok (.if_icmp .lt 6, 3) := by decide +kernel
theorem dX7_setMore_10 : decode cX7_setMore 10 = .ok (.bipush (-2), 2) := by decide +kernel
theorem dX7_setMore_12 : decode cX7_setMore 12 = .ok (.ireturn, 1) := by decide +kernel
theorem dX7_setMore_13 : decode cX7_setMore 13 = .ok (.aload_n 0, 1) := by decide +kernel
theorem dX7_setMore_14 : decode cX7_setMore 14 = .ok (.getfield 87, 3) := by decide +kernel
theorem dX7_setMore_17 : decode cX7_setMore 17 = .ok (.istore_n 2, 1) := by decide +kernel
theorem dX7_setMore_18 : decode cX7_setMore 18 = .ok (.aload_n 0, 1) := by decide +kernel
theorem dX7_setMore_19 : decode cX7_setMore 19 = .ok (.iload_n 1, 1) := by decide +kernel
theorem dX7_setMore_20 : decode cX7_setMore 20 = .ok (.putfield 87, 3) := by decide +kernel
theorem dX7_setMore_23 : decode cX7_setMore 23 = .ok (.iload_n 2, 1) := by decide +kernel
theorem dX7_setMore_24 : decode cX7_setMore 24 = .ok (.ireturn, 1) := by decide +kernel
theorem dX7_setOwn_0 : decode cX7_setOwn 0 = .ok (.iload_n 1, 1) := by decide +kernel
theorem dX7_setOwn_1 : decode cX7_setOwn 1 = .ok (.ifCond .lt 9, 3) := by decide +kernel
theorem dX7_setOwn_4 : decode cX7_setOwn 4 = .ok (.iload_n 1, 1) := by decide +kernel
theorem dX7_setOwn_5 : decode cX7_setOwn 5 = .ok (.ldc 116, 2) := by decide +kernel
theorem dX7_setOwn_7 : decode cX7_setOwn 7 = .ok (.if_icmp .le 6, 3) := by decide +kernel
theorem dX7_setOwn_10 : decode cX7_setOwn 10 = .ok (.bipush (-2), 2) := by decide +kernel
theorem dX7_setOwn_12 : decode cX7_setOwn 12 = .ok (.ireturn, 1) := by decide +kernel
theorem dX7_setOwn_13 : decode cX7_setOwn 13 = .ok (.aload_n 0, 1) := by decide +kernel
theorem dX7_setOwn_14 : decode cX7_setOwn 14 = .ok (.getfield 90, 3) := by decide +kernel
theorem dX7_setOwn_17 : decode cX7_setOwn 17 = .ok (.istore_n 2, 1) := by decide +kernel
theorem dX7_setOwn_18 : decode cX7_setOwn 18 = .ok (.aload_n 0, 1) := by decide +kernel
theorem dX7_setOwn_19 : decode cX7_setOwn 19 = .ok (.iload_n 1, 1) := by decide +kernel
theorem dX7_setOwn_20 : decode cX7_setOwn 20 = .ok (.putfield 90, 3) := by decide +kernel
theorem dX7_setOwn_23 : decode cX7_setOwn 23 = .ok (.iload_n 2, 1) := by decide +kernel
theorem dX7_setOwn_24 : decode cX7_setOwn 24 = .ok (.ireturn, 1) := by decide +kernel
theorem dX7_feed_0 : decode cX7_feed 0 = .ok (.iload_n 1, 1) := by decide +kernel
theorem dX7_feed_1 : decode cX7_feed 1 = .ok (.ifCond .lt 10, 3) := by decide +kernel
theorem dX7_feed_4 : decode cX7_feed 4 = .ok (.iload_n 1, 1) := by decide +kernel
theorem dX7_feed_5 : decode cX7_feed 5 = .ok (.sipush 255, 3) := by decide +kernel
theorem dX7_feed_8 : decode cX7_feed 8 = .ok (.if_icmp .le 6, 3) := by decide +kernel
theorem dX7_feed_11 : decode cX7_feed 11 = .ok (.bipush (-2), 2) := by decide +kernel
theorem dX7_feed_13 : decode cX7_feed 13 = .ok (.ireturn, 1) := by decide +kernel
theorem dX7_feed_14 : decode cX7_feed 14 = .ok (.aload_n 0, 1) := by decide +kernel
theorem dX7_feed_15 : decode cX7_feed 15 = .ok (.getfield 24, 3) := by decide +kernel
theorem dX7_feed_18 : decode cX7_feed 18 = .ok (.getfield 117, 3) := by decide +kernel
theorem dX7_feed_21 : decode cX7_feed 21 = .ok (.iload_n 1, 1) := by decide +kernel
theorem dX7_feed_22 : decode cX7_feed 22 = .ok (.invokevirtual 121, 3) := by decide +kernel
theorem dX7_feed_25 : decode cX7_feed 25 = .ok (.ifCond .eq 16, 3) := by decide +kernel
theorem dX7_feed_28 : decode cX7_feed 28 = .ok (.aload_n 0, 1) := by decide +kernel
theorem dX7_feed_29 : decode cX7_feed 29 = .ok (.getfield 24, 3) := by decide +kernel
theorem dX7_feed_32 : decode cX7_feed 32 = .ok (.getfield 117, 3) := by decide +kernel
theorem dX7_feed_35 : decode cX7_feed 35 = .ok (.getfield 126, 3) := by decide +kernel
theorem dX7_feed_38 : decode cX7_feed 38 = .ok (.goto 5, 3) := by decide +kernel
theorem dX7_feed_41 : decode cX7_feed 41 = .ok (.bipush (-4), 2) := by decide +kernel
theorem dX7_feed_43 : decode cX7_feed 43 = .ok (.ireturn, 1) := by decide +kernel
theorem dX7_text_0 : decode cX7_text 0 = .ok (.aload_n 0, 1) := by decide +kernel
theorem dX7_text_1 : decode cX7_text 1 = .ok (.getfield 24, 3) := by decide +kernel
theorem dX7_text_4 : decode cX7_text 4 = .ok (.getfield 127, 3) := by decide +kernel
theorem dX7_text_7 : decode cX7_text 7 = .ok (.bipush 6, 2) := by decide +kernel
theorem dX7_text_9 : decode cX7_text 9 = .ok (.if_icmp .lt 6, 3) := by decide +kernel
theorem dX7_text_12 : decode cX7_text 12 = .ok (.bipush (-4), 2) := by decide +kernel
theorem dX7_text_14 : decode cX7_text 14 = .ok (.ireturn, 1) := by decide +kernel
theorem dX7_text_15 : decode cX7_text 15 = .ok (.aload_n 0, 1) := by decide +kernel
theorem dX7_text_16 : decode cX7_text 16 = .ok (.getfield 24, 3) := by decide +kernel
theorem dX7_text_19 : decode cX7_text 19 = .ok (.invokevirtual 130, 3) := by decide +kernel
theorem dX7_text_22 : decode cX7_text 22 = .ok (.istore_n 1, 1) := by decide +kernel
theorem dX7_text_23 : decode cX7_text 23 = .ok (.iload_n 1, 1) := by decide +kernel
theorem dX7_text_24 : decode cX7_text 24 = .ok (.iconst (-1), 1) := by decide +kernel
theorem dX7_text_25 : decode cX7_text 25 = .ok (.if_icmp .ne 15, 3) := by decide +kernel
theorem dX7_text_28 : decode cX7_text 28 = .ok (.aload_n 0, 1) := by decide +kernel
theorem dX7_text_29 : decode cX7_text 29 = .ok (.getfield 24, 3) := by decide +kernel
theorem dX7_text_32 : decode cX7_text 32 = .ok (.getfield 127, 3) := by decide +kernel
theorem dX7_text_35 : decode cX7_text 35 = .ok (.iconst 1, 1) := by decide +kernel
theorem dX7_text_36 : decode cX7_text 36 = .ok (.isub, 1) := by decide +kernel
theorem dX7_text_37 : decode cX7_text 37 = .ok (.goto 7, 3) := by decide +kernel
theorem dX7_text_40 : decode cX7_text 40 = .ok (.bipush (-100), 2) := by decide +kernel
theorem dX7_text_42 : decode cX7_text 42 = .ok (.iload_n 1, 1) := by decide +kernel
theorem dX7_text_43 : decode cX7_text 43 = .ok (.isub, 1) := by decide +kernel
theorem dX7_text_44 : decode cX7_text 44 = .ok (.ireturn, 1) := by decide +kernel
theorem dX7_force_0 : decode cX7_force 0 = .ok (.iload_n 1, 1) := by decide +kernel
theorem dX7_force_1 : decode cX7_force 1 = .ok (.ifCond .lt 14, 3) := by decide +kernel
theorem dX7_force_4 : decode cX7_force 4 = .ok (.iload_n 1, 1) := by decide +kernel
theorem dX7_force_5 : decode cX7_force 5 = .ok (.aload_n 0, 1) := by decide +kernel
theorem dX7_force_6 : decode cX7_force 6 = .ok (.getfield 24, 3) := by decide +kernel
theorem dX7_force_9 : decode cX7_force 9 = .ok (.getfield 127, 3) := by decide +kernel
theorem dX7_force_12 : decode cX7_force 12 = .ok (.if_icmp .lt 6, 3) := by decide +kernel
theorem dX7_force_15 : decode cX7_force 15 = .ok (.bipush (-2), 2) := by decide +kernel
theorem dX7_force_17 : decode cX7_force 17 = .ok (.ireturn, 1) := by decide +kernel
theorem dX7_force_18 : decode cX7_force 18 = .ok (.aload_n 0, 1) := by decide +kernel
theorem dX7_force_19 : decode cX7_force 19 = .ok (.getfield 24, 3) := by decide +kernel
theorem dX7_force_22 : decode cX7_force 22 = .ok (.getfield 133, 3) := by decide +kernel
theorem dX7_force_25 : decode cX7_force 25 = .ok (.istore_n 2, 1) := by decide +kernel
theorem dX7_force_26 : decode cX7_force 26 = .ok (.aload_n 0, 1) := by decide +kernel
theorem dX7_force_27 : decode cX7_force 27 = .ok (.getfield 24, 3) := by decide +kernel
theorem dX7_force_30 : decode cX7_force 30 = .ok (.iload_n 1, 1) := by decide +kernel
theorem dX7_force_31 : decode cX7_force 31 = .ok (.putfield 133, 3) := by decide +kernel
theorem dX7_force_34 : decode cX7_force 34 = .ok (.iload_n 2, 1) := by decide +kernel
theorem dX7_force_35 : decode cX7_force 35 = .ok (.ireturn, 1) := by decide +kernel
theorem dX7_says_0 : decode cX7_says 0 = .ok (.aload_n 0, 1) := by decide +kernel
theorem dX7_says_1 : decode cX7_says 1 = .ok (.iload_n 1, 1) := by decide +kernel
theorem dX7_says_2 : decode cX7_says 2 = .ok (.invokevirtual 66, 3) := by decide +kernel
theorem dX7_says_5 : decode cX7_says 5 = .ok (.astore 4, 2) := by decide +kernel
theorem dX7_says_7 : decode cX7_says 7 = .ok (.aload 4, 2) := by decide +kernel
theorem dX7_says_9 : decode cX7_says 9 = .ok (.ifnull 12, 3) := by decide +kernel
theorem dX7_says_12 : decode cX7_says 12 = .ok (.iload_n 3, 1) := by decide +kernel
theorem dX7_says_13 : decode cX7_says 13 = .ok (.ifCond .lt 8, 3) := by decide +kernel
theorem dX7_says_16 : decode cX7_says 16 = .ok (.iload_n 3, 1) := by decide +kernel
theorem dX7_says_17 : decode cX7_says 17 = .ok (.iconst 3, 1) := by decide +kernel
theorem dX7_says_18 : decode cX7_says 18 = .ok (.if_icmp .le 6, 3) := by decide +kernel
theorem dX7_says_21 : decode cX7_says 21 = .ok (.bipush (-2), 2) := by decide +kernel
theorem dX7_says_23 : decode cX7_says 23 = .ok (.ireturn, 1) := by decide +kernel
theorem dX7_says_24 : decode cX7_says 24 = .ok (.iload_n 3, 1) := by decide +kernel
theorem dX7_says_25 : decode cX7_says 25 = .ok (.iconst 2, 1) := by decide +kernel
theorem dX7_says_26 : decode cX7_says 26 = .ok (.if_icmp .ge 13, 3) := by decide +kernel
theorem dX7_says_29 : decode cX7_says 29 = .ok (.iload_n 2, 1) := by decide +kernel
theorem dX7_says_30 : decode cX7_says 30 = .ok (.invokestatic 93, 3) := by decide +kernel
theorem dX7_says_33 : decode cX7_says 33 = .ok (.ifCond .ne 16, 3) := by decide +kernel
theorem dX7_says_36 : decode cX7_says 36 = .ok (.goto 10, 3) := by decide +kernel
theorem dX7_says_39 : decode cX7_says 39 = .ok (.iload_n 2, 1) := by decide +kernel
theorem dX7_says_40 : decode cX7_says 40 = .ok (.invokestatic 136, 3) := by decide +kernel
theorem dX7_says_43 : decode cX7_says 43 = .ok (.ifCond .ne 6, 3) := by decide +kernel
theorem dX7_says_46 : decode cX7_says 46 = .ok (.bipush (-2), 2) := by decide +kernel
theorem dX7_says_48 : decode cX7_says 48 = .ok (.ireturn, 1) := by decide +kernel
theorem dX7_says_49 : decode cX7_says 49 = .ok (.iload_n 3, 1) := by decide +kernel
theorem dX7_says_50 : decode cX7_says 50 = .ok (.tableswitch 64 0 2 #[26, 39, 50], 26) := by decide +kernel
theorem dX7_says_76 : decode cX7_says 76 = .ok (.aload 4, 2) := by decide +kernel
theorem dX7_says_78 : decode cX7_says 78 = .ok (.invokevirtual 112, 3) := by decide +kernel
theorem dX7_says_81 : decode cX7_says 81 = .ok (.iload_n 2, 1) := by decide +kernel
theorem dX7_says_82 : decode cX7_says 82 = .ok (.invokestatic 97, 3) := by decide +kernel
theorem dX7_says_85 : decode cX7_says 85 = .ok (.invokestatic 139, 3) := by decide +kernel
theorem dX7_says_88 : decode cX7_says 88 = .ok (.ireturn, 1) := by decide +kernel
theorem dX7_says_89 : decode cX7_says 89 = .ok (.aload_n 0, 1) := by decide +kernel
theorem dX7_says_90 : decode cX7_says 90 = .ok (.getfield 24, 3) := by decide +kernel
theorem dX7_says_93 : decode cX7_says 93 = .ok (.aload 4, 2) := by decide +kernel
theorem dX7_says_95 : decode cX7_says 95 = .ok (.iload_n 2, 1) := by decide +kernel
theorem dX7_says_96 : decode cX7_says 96 = .ok (.invokevirtual 143, 3) := by decide +kernel
theorem dX7_says_99 : decode cX7_says 99 = .ok (.ireturn, 1) := by decide +kernel
theorem dX7_says_100 : decode cX7_says 100 = .ok (.aload_n 0, 1) := by decide +kernel
theorem dX7_says_101 : decode cX7_says 101 = .ok (.getfield 24, 3) := by decide +kernel
theorem dX7_says_104 : decode cX7_says 104 = .ok (.aload 4, 2) := by decide +kernel
theorem dX7_says_106 : decode cX7_says 106 = .ok (.iload_n 2, 1) := by decide +kernel
theorem dX7_says_107 : decode cX7_says 107 = .ok (.invokevirtual 146, 3) := by decide +kernel
theorem dX7_says_110 : decode cX7_says 110 = .ok (.invokestatic 139, 3) := by decide +kernel
theorem dX7_says_113 : decode cX7_says 113 = .ok (.ireturn, 1) := by decide +kernel
theorem dX7_says_114 : decode cX7_says 114 = .ok (.aload_n 0, 1) := by decide +kernel
theorem dX7_says_115 : decode cX7_says 115 = .ok (.getfield 24, 3) := by decide +kernel
theorem dX7_says_118 : decode cX7_says 118 = .ok (.aload 4, 2) := by decide +kernel
theorem dX7_says_120 : decode cX7_says 120 = .ok (.iload_n 2, 1) := by decide +kernel
theorem dX7_says_121 : decode cX7_says 121 = .ok (.invokevirtual 150, 3) := by decide +kernel
theorem dX7_says_124 : decode cX7_says 124 = .ok (.ireturn, 1) := by decide +kernel
theorem dX7_common_0 : decode cX7_common 0 = .ok (.aload_n 0, 1) := by decide +kernel
theorem dX7_common_1 : decode cX7_common 1 = .ok (.iload_n 1, 1) := by decide +kernel
theorem dX7_common_2 : decode cX7_common 2 = .ok (.invokevirtual 66, 3) := by decide +kernel
theorem dX7_common_5 : decode cX7_common 5 = .ok (.astore_n 3, 1) := by decide +kernel
theorem dX7_common_6 : decode cX7_common 6 = .ok (.aload_n 0, 1) := by decide +kernel
theorem dX7_common_7 : decode cX7_common 7 = .ok (.iload_n 2, 1) := by decide +kernel
theorem dX7_common_8 : decode cX7_common 8 = .ok (.invokevirtual 66, 3) := by decide +kernel
theorem dX7_common_11 : decode cX7_common 11 = .ok (.astore 4, 2) := by decide +kernel
theorem dX7_common_13 : decode cX7_common 13 = .ok (.aload_n 3, 1) := by decide +kernel
theorem dX7_common_14 : decode cX7_common 14 = .ok (.ifnull 14, 3) := by decide +kernel
theorem dX7_common_17 : decode cX7_common 17 = .ok (.aload 4, 2) := by decide +kernel
theorem dX7_common_19 : decode cX7_common 19 = .ok (.ifnull 9, 3) := by decide +kernel
theorem dX7_common_22 : decode cX7_common 22 = .ok (.aload_n 3, 1) := by decide +kernel
theorem dX7_common_23 : decode cX7_common 23 = .ok (.aload 4, 2) := by decide +kernel
theorem dX7_common_25 : decode cX7_common 25 = .ok (.if_acmp .ne 6, 3) := by decide +kernel
theorem dX7_common_28 : decode cX7_common 28 = .ok (.bipush (-2), 2) := by decide +kernel
theorem dX7_common_30 : decode cX7_common 30 = .ok (.ireturn, 1) := by decide +kernel
theorem dX7_common_31 : decode cX7_common 31 = .ok (.aload_n 3, 1) := by decide +kernel
theorem dX7_common_32 : decode cX7_common 32 = .ok (.invokevirtual 112, 3) := by decide +kernel
theorem dX7_common_35 : decode cX7_common 35 = .ok (.aload 4, 2) := by decide +kernel
theorem dX7_common_37 : decode cX7_common 37 = .ok (.invokevirtual 112, 3) := by decide +kernel
theorem dX7_common_40 : decode cX7_common 40 = .ok (.iand, 1) := by decide +kernel
theorem dX7_common_41 : decode cX7_common 41 = .ok (.ireturn, 1) := by decide +kernel
theorem dX7_pays_0 : decode cX7_pays 0 = .ok (.aload_n 0, 1) := by decide +kernel
theorem dX7_pays_1 : decode cX7_pays 1 = .ok (.iload_n 1, 1) := by decide +kernel
theorem dX7_pays_2 : decode cX7_pays 2 = .ok (.invokevirtual 66, 3) := by decide +kernel
theorem dX7_pays_5 : decode cX7_pays 5 = .ok (.astore 5, 2) := by decide +kernel
theorem dX7_pays_7 : decode cX7_pays 7 = .ok (.aload_n 0, 1) := by decide +kernel
theorem dX7_pays_8 : decode cX7_pays 8 = .ok (.iload_n 2, 1) := by decide +kernel
theorem dX7_pays_9 : decode cX7_pays 9 = .ok (.invokevirtual 66, 3) := by decide +kernel
theorem dX7_pays_12 : decode cX7_pays 12 = .ok (.astore 6, 2) := by decide +kernel
theorem dX7_pays_14 : decode cX7_pays 14 = .ok (.aload 5, 2) := by decide +kernel
theorem dX7_pays_16 : decode cX7_pays 16 = .ok (.ifnull 33, 3) := by decide +kernel
theorem dX7_pays_19 : decode cX7_pays 19 = .ok (.aload 6, 2) := by decide +kernel
theorem dX7_pays_21 : decode cX7_pays 21 = .ok (.ifnull 28, 3) := by decide +kernel
theorem dX7_pays_24 : decode cX7_pays 24 = .ok (.aload 5, 2) := by decide +kernel
theorem dX7_pays_26 : decode cX7_pays 26 = .ok (.aload 6, 2) := by decide +kernel
theorem dX7_pays_28 : decode cX7_pays 28 = .ok (.if_acmp .eq 21, 3) := by decide +kernel
theorem dX7_pays_31 : decode cX7_pays 31 = .ok (.iload_n 3, 1) := by decide +kernel
theorem dX7_pays_32 : decode cX7_pays 32 = .ok (.invokestatic 136, 3) := by decide +kernel
theorem dX7_pays_35 : decode cX7_pays 35 = .ok (.ifCond .eq 14, 3) := by decide +kernel
theorem dX7_pays_38 : decode cX7_pays 38 = .ok (.iload 4, 2) := by decide +kernel
theorem dX7_pays_40 : decode cX7_pays 40 = .ok (.ifCond .lt 9, 3) := by decide +kernel
theorem dX7_pays_43 : decode cX7_pays 43 = .ok (.iload 4, 2) := by decide +kernel
theorem dX7_pays_45 : decode cX7_pays 45 = .ok (.iconst 3, 1) := by decide +kernel
theorem dX7_pays_46 : decode cX7_pays 46 = .ok (.if_icmp .le 6, 3) := by decide +kernel
theorem dX7_pays_49 : decode cX7_pays 49 = .ok (.bipush (-2), 2) := by decide +kernel
theorem dX7_pays_51 : decode cX7_pays 51 = .ok (.ireturn, 1) := by decide +kernel
theorem dX7_pays_52 : decode cX7_pays 52 = .ok (.iload 4, 2) := by decide +kernel
theorem dX7_pays_54 : decode cX7_pays 54 = .ok (.iconst 2, 1) := by decide +kernel
theorem dX7_pays_55 : decode cX7_pays 55 = .ok (.if_icmp .ge 35, 3) := by decide +kernel
theorem dX7_pays_58 : decode cX7_pays 58 = .ok (.aload_n 0, 1) := by decide +kernel
theorem dX7_pays_59 : decode cX7_pays 59 = .ok (.getfield 33, 3) := by decide +kernel
theorem dX7_pays_62 : decode cX7_pays 62 = .ok (.aload 5, 2) := by decide +kernel
theorem dX7_pays_64 : decode cX7_pays 64 = .ok (.aload 6, 2) := by decide +kernel
theorem dX7_pays_66 : decode cX7_pays 66 = .ok (.iload_n 3, 1) := by decide +kernel
theorem dX7_pays_67 : decode cX7_pays 67 = .ok (.iload 4, 2) := by decide +kernel
theorem dX7_pays_69 : decode cX7_pays 69 = .ok (.iconst 1, 1) := by decide +kernel
theorem dX7_pays_70 : decode cX7_pays 70 = .ok (.if_icmp .ne 7, 3) := by decide +kernel
theorem dX7_pays_73 : decode cX7_pays 73 = .ok (.iconst 1, 1) := by decide +kernel
theorem dX7_pays_74 : decode cX7_pays 74 = .ok (.goto 4, 3) := by decide +kernel
theorem dX7_pays_77 : decode cX7_pays 77 = .ok (.iconst 0, 1) := by decide +kernel
theorem dX7_pays_78 : decode cX7_pays 78 = .ok (.invokevirtual 153, 3) := by decide +kernel
theorem dX7_pays_81 : decode cX7_pays 81 = .ok (.aload_n 0, 1) := by decide +kernel
theorem dX7_pays_82 : decode cX7_pays 82 = .ok (.getfield 33, 3) := by decide +kernel
theorem dX7_pays_85 : decode cX7_pays 85 = .ok (.iload_n 3, 1) := by decide +kernel
theorem dX7_pays_86 : decode cX7_pays 86 = .ok (.invokevirtual 157, 3) := by decide +kernel
theorem dX7_pays_89 : decode cX7_pays 89 = .ok (.ireturn, 1) := by decide +kernel
theorem dX7_pays_90 : decode cX7_pays 90 = .ok (.aload_n 0, 1) := by decide +kernel
theorem dX7_pays_91 : decode cX7_pays 91 = .ok (.getfield 42, 3) := by decide +kernel
theorem dX7_pays_94 : decode cX7_pays 94 = .ok (.aload_n 0, 1) := by decide +kernel
theorem dX7_pays_95 : decode cX7_pays 95 = .ok (.getfield 11, 3) := by decide +kernel
theorem dX7_pays_98 : decode cX7_pays 98 = .ok (.aload_n 0, 1) := by decide +kernel
theorem dX7_pays_99 : decode cX7_pays 99 = .ok (.getfield 77, 3) := by decide +kernel
theorem dX7_pays_102 : decode cX7_pays 102 = .ok (.iload_n 3, 1) := by decide +kernel
theorem dX7_pays_103 : decode cX7_pays 103 = .ok (.invokevirtual 160, 3) := by decide +kernel
theorem dX7_pays_106 : decode cX7_pays 106 = .ok (.aload_n 0, 1) := by decide +kernel
theorem dX7_pays_107 : decode cX7_pays 107 = .ok (.getfield 42, 3) := by decide +kernel
theorem dX7_pays_110 : decode cX7_pays 110 = .ok (.iload_n 1, 1) := by decide +kernel
theorem dX7_pays_111 : decode cX7_pays 111 = .ok (.invokevirtual 164, 3) := by decide +kernel
theorem dX7_pays_114 : decode cX7_pays 114 = .ok (.iload 4, 2) := by decide +kernel
theorem dX7_pays_116 : decode cX7_pays 116 = .ok (.iconst 2, 1) := by decide +kernel
theorem dX7_pays_117 : decode cX7_pays 117 = .ok (.if_icmp .ne 14, 3) := by decide +kernel
theorem dX7_pays_120 : decode cX7_pays 120 = .ok (.aload_n 0, 1) := by decide +kernel
theorem dX7_pays_121 : decode cX7_pays 121 = .ok (.getfield 42, 3) := by decide +kernel
theorem dX7_pays_124 : decode cX7_pays 124 = .ok (.iload_n 2, 1) := by decide +kernel
theorem dX7_pays_125 : decode cX7_pays 125 = .ok (.invokevirtual 168, 3) := by decide +kernel
theorem dX7_pays_128 : decode cX7_pays 128 = .ok (.goto 11, 3) := by decide +kernel
theorem dX7_pays_131 : decode cX7_pays 131 = .ok (.aload_n 0, 1) := by decide +kernel
theorem dX7_pays_132 : decode cX7_pays 132 = .ok (.getfield 42, 3) := by decide +kernel
theorem dX7_pays_135 : decode cX7_pays 135 = .ok (.iload_n 2, 1) := by decide +kernel
theorem dX7_pays_136 : decode cX7_pays 136 = .ok (.invokevirtual 171, 3) := by decide +kernel
theorem dX7_pays_139 : decode cX7_pays 139 = .ok (.ireturn, 1) := by decide +kernel
theorem dX7_barred_0 : decode cX7_barred 0 = .ok (.aload_n 0, 1) := by decide +kernel
theorem dX7_barred_1 : decode cX7_barred 1 = .ok (.iload_n 1, 1) := by decide +kernel
theorem dX7_barred_2 : decode cX7_barred 2 = .ok (.invokevirtual 66, 3) := by decide +kernel
theorem dX7_barred_5 : decode cX7_barred 5 = .ok (.astore 4, 2) := by decide +kernel
theorem dX7_barred_7 : decode cX7_barred 7 = .ok (.aload_n 0, 1) := by decide +kernel
theorem dX7_barred_8 : decode cX7_barred 8 = .ok (.iload_n 2, 1) := by decide +kernel
theorem dX7_barred_9 : decode cX7_barred 9 = .ok (.invokevirtual 66, 3) := by decide +kernel
theorem dX7_barred_12 : decode cX7_barred 12 = .ok (.astore 5, 2) := by decide +kernel
theorem dX7_barred_14 : decode cX7_barred 14 = .ok (.aload 4, 2) := by decide +kernel
theorem dX7_barred_16 : decode cX7_barred 16 = .ok (.ifnull 24, 3) := by decide +kernel
theorem dX7_barred_19 : decode cX7_barred 19 = .ok (.aload 5, 2) := by decide +kernel
theorem dX7_barred_21 : decode cX7_barred 21 = .ok (.ifnull 19, 3) := by decide +kernel
theorem dX7_barred_24 : decode cX7_barred 24 = .ok (.aload 4, 2) := by decide +kernel
theorem dX7_barred_26 : decode cX7_barred 26 = .ok (.aload 5, 2) := by decide +kernel
theorem dX7_barred_28 : decode cX7_barred 28 = .ok (.if_acmp .eq 12, 3) := by decide +kernel
theorem dX7_barred_31 : decode cX7_barred 31 = .ok (.iload_n 3, 1) := by decide +kernel
theorem dX7_barred_32 : decode cX7_barred 32 = .ok (.ifCond .lt 8, 3) := by decide +kernel
theorem dX7_barred_35 : decode cX7_barred 35 = .ok (.iload_n 3, 1) := by decide +kernel
theorem dX7_barred_36 : decode cX7_barred 36 = .ok (.iconst 2, 1) := by decide +kernel
theorem dX7_barred_37 : decode cX7_barred 37 = .ok (.if_icmp .le 6, 3) := by decide +kernel
theorem dX7_barred_40 : decode cX7_barred 40 = .ok (.bipush (-2), 2) := by decide +kernel
theorem dX7_barred_42 : decode cX7_barred 42 = .ok (.ireturn, 1) := by decide +kernel
theorem dX7_barred_43 : decode cX7_barred 43 = .ok (.aload_n 0, 1) := by decide +kernel
theorem dX7_barred_44 : decode cX7_barred 44 = .ok (.getfield 33, 3) := by decide +kernel
theorem dX7_barred_47 : decode cX7_barred 47 = .ok (.aload 4, 2) := by decide +kernel
theorem dX7_barred_49 : decode cX7_barred 49 = .ok (.aload 5, 2) := by decide +kernel
theorem dX7_barred_51 : decode cX7_barred 51 = .ok (.iload_n 3, 1) := by decide +kernel
theorem dX7_barred_52 : decode cX7_barred 52 = .ok (.invokevirtual 174, 3) := by decide +kernel
theorem dX7_barred_55 : decode cX7_barred 55 = .ok (.ireturn, 1) := by decide +kernel
theorem dX7_silent_0 : decode cX7_silent 0 = .ok (.iload_n 1, 1) := by decide +kernel
theorem dX7_silent_1 : decode cX7_silent 1 = .ok (.ifCond .lt 8, 3) := by decide +kernel
theorem dX7_silent_4 : decode cX7_silent 4 = .ok (.iload_n 1, 1) := by decide +kernel
theorem dX7_silent_5 : decode cX7_silent 5 = .ok (.iconst 1, 1) := by decide +kernel
theorem dX7_silent_6 : decode cX7_silent 6 = .ok (.if_icmp .le 6, 3) := by decide +kernel
theorem dX7_silent_9 : decode cX7_silent 9 = .ok (.bipush (-2), 2) := by decide +kernel
theorem dX7_silent_11 : decode cX7_silent 11 = .ok (.ireturn, 1) := by decide +kernel
theorem dX7_silent_12 : decode cX7_silent 12 = .ok (.aload_n 0, 1) := by decide +kernel
theorem dX7_silent_13 : decode cX7_silent 13 = .ok (.getfield 33, 3) := by decide +kernel
theorem dX7_silent_16 : decode cX7_silent 16 = .ok (.invokevirtual 178, 3) := by decide +kernel
theorem dX7_silent_19 : decode cX7_silent 19 = .ok (.iconst 0, 1) := by decide +kernel
theorem dX7_silent_20 : decode cX7_silent 20 = .ok (.istore_n 2, 1) := by decide +kernel
theorem dX7_silent_21 : decode cX7_silent 21 = .ok (.iload_n 2, 1) := by decide +kernel
theorem dX7_silent_22 : decode cX7_silent 22 = .ok (.aload_n 0, 1) := by decide +kernel
theorem dX7_silent_23 : decode cX7_silent 23 = .ok (.getfield 77, 3) := by decide +kernel
theorem dX7_silent_26 : decode cX7_silent 26 = .ok (.if_icmp .ge 44, 3) := by decide +kernel
theorem dX7_silent_29 : decode cX7_silent 29 = .ok (.iload_n 2, 1) := by decide +kernel
theorem dX7_silent_30 : decode cX7_silent 30 = .ok (.iconst 1, 1) := by decide +kernel
theorem dX7_silent_31 : decode cX7_silent 31 = .ok (.iadd, 1) := by decide +kernel
theorem dX7_silent_32 : decode cX7_silent 32 = .ok (.istore_n 3, 1) := by decide +kernel
theorem dX7_silent_33 : decode cX7_silent 33 = .ok (.iload_n 3, 1) := by decide +kernel
theorem dX7_silent_34 : decode cX7_silent 34 = .ok (.aload_n 0, 1) := by decide +kernel
theorem dX7_silent_35 : decode cX7_silent 35 = .ok (.getfield 77, 3) := by decide +kernel
theorem dX7_silent_38 : decode cX7_silent 38 = .ok (.if_icmp .ge 26, 3) := by decide +kernel
theorem dX7_silent_41 : decode cX7_silent 41 = .ok (.aload_n 0, 1) := by decide +kernel
theorem dX7_silent_42 : decode cX7_silent 42 = .ok (.getfield 33, 3) := by decide +kernel
theorem dX7_silent_45 : decode cX7_silent 45 = .ok (.aload_n 0, 1) := by decide +kernel
theorem dX7_silent_46 : decode cX7_silent 46 = .ok (.iload_n 2, 1) := by decide +kernel
theorem dX7_silent_47 : decode cX7_silent 47 = .ok (.invokevirtual 66, 3) := by decide +kernel
theorem dX7_silent_50 : decode cX7_silent 50 = .ok (.aload_n 0, 1) := by decide +kernel
theorem dX7_silent_51 : decode cX7_silent 51 = .ok (.iload_n 3, 1) := by decide +kernel
theorem dX7_silent_52 : decode cX7_silent 52 = .ok (.invokevirtual 66, 3) := by decide +kernel
theorem dX7_silent_55 : decode cX7_silent 55 = .ok (.invokevirtual 181, 3) := by decide +kernel
theorem dX7_silent_58 : decode cX7_silent 58 = .ok (.iinc 3 1, 3) := by decide +kernel
theorem dX7_silent_61 : decode cX7_silent 61 = .ok (.goto (-28), 3) := by decide +kernel
theorem dX7_silent_64 : decode cX7_silent 64 = .ok (.iinc 2 1, 3) := by decide +kernel
theorem dX7_silent_67 : decode cX7_silent 67 = .ok (.goto (-46), 3) := by decide +kernel
theorem dX7_silent_70 : decode cX7_silent 70 = .ok (.iload_n 1, 1) := by decide +kernel
theorem dX7_silent_71 : decode cX7_silent 71 = .ok (.ifCond .ne 13, 3) := by decide +kernel
theorem dX7_silent_74 : decode cX7_silent 74 = .ok (.aload_n 0, 1) := by decide +kernel
theorem dX7_silent_75 : decode cX7_silent 75 = .ok (.getfield 33, 3) := by decide +kernel
theorem dX7_silent_78 : decode cX7_silent 78 = .ok (.invokevirtual 185, 3) := by decide +kernel
theorem dX7_silent_81 : decode cX7_silent 81 = .ok (.goto 10, 3) := by decide +kernel
theorem dX7_silent_84 : decode cX7_silent 84 = .ok (.aload_n 0, 1) := by decide +kernel
theorem dX7_silent_85 : decode cX7_silent 85 = .ok (.getfield 33, 3) := by decide +kernel
theorem dX7_silent_88 : decode cX7_silent 88 = .ok (.invokevirtual 188, 3) := by decide +kernel
theorem dX7_silent_91 : decode cX7_silent 91 = .ok (.ireturn, 1) := by decide +kernel
theorem dX7_middle_0 : decode cX7_middle 0 = .ok (.iload_n 1, 1) := by decide +kernel
theorem dX7_middle_1 : decode cX7_middle 1 = .ok (.iconst 1, 1) := by decide +kernel
theorem dX7_middle_2 : decode cX7_middle 2 = .ok (.if_icmp .lt 18, 3) := by decide +kernel
theorem dX7_middle_5 : decode cX7_middle 5 = .ok (.iload_n 1, 1) := by decide +kernel
theorem dX7_middle_6 : decode cX7_middle 6 = .ok (.bipush 99, 2) := by decide +kernel
theorem dX7_middle_8 : decode cX7_middle 8 = .ok (.if_icmp .gt 12, 3) := by decide +kernel
theorem dX7_middle_11 : decode cX7_middle 11 = .ok (.iload_n 2, 1) := by decide +kernel
theorem dX7_middle_12 : decode cX7_middle 12 = .ok (.ifCond .lt 8, 3) := by decide +kernel
theorem dX7_middle_15 : decode cX7_middle 15 = .ok (.iload_n 2, 1) := by decide +kernel
theorem dX7_middle_16 : decode cX7_middle 16 = .ok (.iconst 1, 1) := by decide +kernel
theorem dX7_middle_17 : decode cX7_middle 17 = .ok (.if_icmp .le 6, 3) := by decide +kernel
theorem dX7_middle_20 : decode cX7_middle 20 = .ok (.bipush (-2), 2) := by decide +kernel
theorem dX7_middle_22 : decode cX7_middle 22 = .ok (.ireturn, 1) := by decide +kernel
theorem dX7_middle_23 : decode cX7_middle 23 = .ok (.aload_n 0, 1) := by decide +kernel
theorem dX7_middle_24 : decode cX7_middle 24 = .ok (.getfield 42, 3) := by decide +kernel
theorem dX7_middle_27 : decode cX7_middle 27 = .ok (.aload_n 0, 1) := by decide +kernel
theorem dX7_middle_28 : decode cX7_middle 28 = .ok (.getfield 11, 3) := by decide +kernel
theorem dX7_middle_31 : decode cX7_middle 31 = .ok (.aload_n 0, 1) := by decide +kernel
theorem dX7_middle_32 : decode cX7_middle 32 = .ok (.getfield 77, 3) := by decide +kernel
theorem dX7_middle_35 : decode cX7_middle 35 = .ok (.iload_n 1, 1) := by decide +kernel
theorem dX7_middle_36 : decode cX7_middle 36 = .ok (.invokevirtual 160, 3) := by decide +kernel
theorem dX7_middle_39 : decode cX7_middle 39 = .ok (.iconst (-1), 1) := by decide +kernel
theorem dX7_middle_40 : decode cX7_middle 40 = .ok (.istore_n 3, 1) := by decide +kernel
theorem dX7_middle_41 : decode cX7_middle 41 = .ok (.iconst 0, 1) := by decide +kernel
theorem dX7_middle_42 : decode cX7_middle 42 = .ok (.istore 4, 2) := by decide +kernel
theorem dX7_middle_44 : decode cX7_middle 44 = .ok (.iconst 0, 1) := by decide +kernel
theorem dX7_middle_45 : decode cX7_middle 45 = .ok (.istore 5, 2) := by decide +kernel
theorem dX7_middle_47 : decode cX7_middle 47 = .ok (.iload 5, 2) := by decide +kernel
theorem dX7_middle_49 : decode cX7_middle 49 = .ok (.aload_n 0, 1) := by decide +kernel
theorem dX7_middle_50 : decode cX7_middle 50 = .ok (.getfield 77, 3) := by decide +kernel
theorem dX7_middle_53 : decode cX7_middle 53 = .ok (.if_icmp .ge 34, 3) := by decide +kernel
theorem dX7_middle_56 : decode cX7_middle 56 = .ok (.aload_n 0, 1) := by decide +kernel
theorem dX7_middle_57 : decode cX7_middle 57 = .ok (.getfield 42, 3) := by decide +kernel
theorem dX7_middle_60 : decode cX7_middle 60 = .ok (.iload 5, 2) := by decide +kernel
theorem dX7_middle_62 : decode cX7_middle 62 = .ok (.invokevirtual 191, 3) := by decide +kernel
theorem dX7_middle_65 : decode cX7_middle 65 = .ok (.istore 6, 2) := by decide +kernel
theorem dX7_middle_67 : decode cX7_middle 67 = .ok (.iload 6, 2) := by decide +kernel
theorem dX7_middle_69 : decode cX7_middle 69 = .ok (.iload 4, 2) := by decide +kernel
theorem dX7_middle_71 : decode cX7_middle 71 = .ok (.if_icmp .le 10, 3) := by decide +kernel
theorem dX7_middle_74 : decode cX7_middle 74 = .ok (.iload 6, 2) := by decide +kernel
theorem dX7_middle_76 : decode cX7_middle 76 = .ok (.istore 4, 2) := by decide +kernel
theorem dX7_middle_78 : decode cX7_middle 78 = .ok (.iload 5, 2) := by decide +kernel
theorem dX7_middle_80 : decode cX7_middle 80 = .ok (.istore_n 3, 1) := by decide +kernel
theorem dX7_middle_81 : decode cX7_middle 81 = .ok (.iinc 5 1, 3) := by decide +kernel
theorem dX7_middle_84 : decode cX7_middle 84 = .ok (.goto (-37), 3) := by decide +kernel
theorem dX7_middle_87 : decode cX7_middle 87 = .ok (.iload_n 2, 1) := by decide +kernel
theorem dX7_middle_88 : decode cX7_middle 88 = .ok (.ifCond .ne 7, 3) := by decide +kernel
theorem dX7_middle_91 : decode cX7_middle 91 = .ok (.iload_n 3, 1) := by decide +kernel
theorem dX7_middle_92 : decode cX7_middle 92 = .ok (.goto 5, 3) := by decide +kernel
theorem dX7_middle_95 : decode cX7_middle 95 = .ok (.iload 4, 2) := by decide +kernel
theorem dX7_middle_97 : decode cX7_middle 97 = .ok (.ireturn, 1) := by decide +kernel
theorem dX7_leave_0 : decode cX7_leave 0 = .ok (.aload_n 0, 1) := by decide +kernel
theorem dX7_leave_1 : decode cX7_leave 1 = .ok (.iload_n 1, 1) := by decide +kernel
theorem dX7_leave_2 : decode cX7_leave 2 = .ok (.invokevirtual 66, 3) := by decide +kernel
theorem dX7_leave_5 : decode cX7_leave 5 = .ok (.astore_n 3, 1) := by decide +kernel
theorem dX7_leave_6 : decode cX7_leave 6 = .ok (.aload_n 3, 1) := by decide +kernel
theorem dX7_leave_7 : decode cX7_leave 7 = .ok (.ifnull 12, 3) := by decide +kernel
theorem dX7_leave_10 : decode cX7_leave 10 = .ok (.iload_n 2, 1) := by decide +kernel
theorem dX7_leave_11 : decode cX7_leave 11 = .ok (.ifCond .lt 8, 3) := by decide +kernel
theorem dX7_leave_14 : decode cX7_leave 14 = .ok (.iload_n 2, 1) := by decide +kernel
theorem dX7_leave_15 : decode cX7_leave 15 = .ok (.iconst 1, 1) := by decide +kernel
theorem dX7_leave_16 : decode cX7_leave 16 = .ok (.if_icmp .le 6, 3) := by decide +kernel
theorem dX7_leave_19 : decode cX7_leave 19 = .ok (.bipush (-2), 2) := by decide +kernel
theorem dX7_leave_21 : decode cX7_leave 21 = .ok (.ireturn, 1) := by decide +kernel
theorem dX7_leave_22 : decode cX7_leave 22 = .ok (.iconst (-1), 1) := by decide +kernel
theorem dX7_leave_23 : decode cX7_leave 23 = .ok (.istore 4, 2) := by decide +kernel
theorem dX7_leave_25 : decode cX7_leave 25 = .ok (.iconst (-1), 1) := by decide +kernel
theorem dX7_leave_26 : decode cX7_leave 26 = .ok (.istore 5, 2) := by decide +kernel
theorem dX7_leave_28 : decode cX7_leave 28 = .ok (.iconst 0, 1) := by decide +kernel
theorem dX7_leave_29 : decode cX7_leave 29 = .ok (.istore 6, 2) := by decide +kernel
theorem dX7_leave_31 : decode cX7_leave 31 = .ok (.iload 6, 2) := by decide +kernel
theorem dX7_leave_33 : decode cX7_leave 33 = .ok (.aload_n 0, 1) := by decide +kernel
theorem dX7_leave_34 : decode cX7_leave 34 = .ok (.getfield 77, 3) := by decide +kernel
theorem dX7_leave_37 : decode cX7_leave 37 = .ok (.if_icmp .ge 49, 3) := by decide +kernel
theorem dX7_leave_40 : decode cX7_leave 40 = .ok (.iload 6, 2) := by decide +kernel
theorem dX7_leave_42 : decode cX7_leave 42 = .ok (.iload_n 1, 1) := by decide +kernel
theorem dX7_leave_43 : decode cX7_leave 43 = .ok (.if_icmp .eq 37, 3) := by decide +kernel
theorem dX7_leave_46 : decode cX7_leave 46 = .ok (.aload_n 0, 1) := by decide +kernel
theorem dX7_leave_47 : decode cX7_leave 47 = .ok (.aload_n 3, 1) := by decide +kernel
theorem dX7_leave_48 : decode cX7_leave 48 = .ok (.aload_n 0, 1) := by decide +kernel
theorem dX7_leave_49 : decode cX7_leave 49 = .ok (.iload 6, 2) := by decide +kernel
theorem dX7_leave_51 : decode cX7_leave 51 = .ok (.invokevirtual 66, 3) := by decide +kernel
theorem dX7_leave_54 : decode cX7_leave 54 = .ok (.invokevirtual 194, 3) := by decide +kernel
theorem dX7_leave_57 : decode cX7_leave 57 = .ok (.istore 7, 2) := by decide +kernel
theorem dX7_leave_59 : decode cX7_leave 59 = .ok (.iload 4, 2) := by decide +kernel
theorem dX7_leave_61 : decode cX7_leave 61 = .ok (.iconst (-1), 1) := by decide +kernel
theorem dX7_leave_62 : decode cX7_leave 62 = .ok (.if_icmp .eq 10, 3) := by decide +kernel
theorem dX7_leave_65 : decode cX7_leave 65 = .ok (.iload 7, 2) := by decide +kernel
theorem dX7_leave_67 : decode cX7_leave 67 = .ok (.iload 5, 2) := by decide +kernel
theorem dX7_leave_69 : decode cX7_leave 69 = .ok (.if_icmp .ge 11, 3) := by decide +kernel
theorem dX7_leave_72 : decode cX7_leave 72 = .ok (.iload 7, 2) := by decide +kernel
theorem dX7_leave_74 : decode cX7_leave 74 = .ok (.istore 5, 2) := by decide +kernel
theorem dX7_leave_76 : decode cX7_leave 76 = .ok (.iload 6, 2) := by decide +kernel
theorem dX7_leave_78 : decode cX7_leave 78 = .ok (.istore 4, 2) := by decide +kernel
theorem dX7_leave_80 : decode cX7_leave 80 = .ok (.iinc 6 1, 3) := by decide +kernel
theorem dX7_leave_83 : decode cX7_leave 83 = .ok (.goto (-52), 3) := by decide +kernel
theorem dX7_leave_86 : decode cX7_leave 86 = .ok (.iload_n 2, 1) := by decide +kernel
theorem dX7_leave_87 : decode cX7_leave 87 = .ok (.ifCond .ne 8, 3) := by decide +kernel
theorem dX7_leave_90 : decode cX7_leave 90 = .ok (.iload 4, 2) := by decide +kernel
theorem dX7_leave_92 : decode cX7_leave 92 = .ok (.goto 5, 3) := by decide +kernel
theorem dX7_leave_95 : decode cX7_leave 95 = .ok (.iload 5, 2) := by decide +kernel
theorem dX7_leave_97 : decode cX7_leave 97 = .ok (.ireturn, 1) := by decide +kernel
theorem dX7_buy_0 : decode cX7_buy 0 = .ok (.aload_n 0, 1) := by decide +kernel
theorem dX7_buy_1 : decode cX7_buy 1 = .ok (.iload_n 1, 1) := by decide +kernel
theorem dX7_buy_2 : decode cX7_buy 2 = .ok (.invokevirtual 66, 3) := by decide +kernel
theorem dX7_buy_5 : decode cX7_buy 5 = .ok (.astore 4, 2) := by decide +kernel
theorem dX7_buy_7 : decode cX7_buy 7 = .ok (.aload_n 0, 1) := by decide +kernel
theorem dX7_buy_8 : decode cX7_buy 8 = .ok (.iload_n 2, 1) := by decide +kernel
theorem dX7_buy_9 : decode cX7_buy 9 = .ok (.invokevirtual 66, 3) := by decide +kernel
theorem dX7_buy_12 : decode cX7_buy 12 = .ok (.astore 5, 2) := by decide +kernel
theorem dX7_buy_14 : decode cX7_buy 14 = .ok (.aload 4, 2) := by decide +kernel
theorem dX7_buy_16 : decode cX7_buy 16 = .ok (.ifnull 24, 3) := by decide +kernel
theorem dX7_buy_19 : decode cX7_buy 19 = .ok (.aload 5, 2) := by decide +kernel
theorem dX7_buy_21 : decode cX7_buy 21 = .ok (.ifnull 19, 3) := by decide +kernel
theorem dX7_buy_24 : decode cX7_buy 24 = .ok (.aload 4, 2) := by decide +kernel
theorem dX7_buy_26 : decode cX7_buy 26 = .ok (.aload 5, 2) := by decide +kernel
theorem dX7_buy_28 : decode cX7_buy 28 = .ok (.if_acmp .eq 12, 3) := by decide +kernel
theorem dX7_buy_31 : decode cX7_buy 31 = .ok (.iload_n 3, 1) := by decide +kernel
theorem dX7_buy_32 : decode cX7_buy 32 = .ok (.ifCond .lt 8, 3) := by decide +kernel
theorem dX7_buy_35 : decode cX7_buy 35 = .ok (.iload_n 3, 1) := by decide +kernel
theorem dX7_buy_36 : decode cX7_buy 36 = .ok (.iconst 1, 1) := by decide +kernel
theorem dX7_buy_37 : decode cX7_buy 37 = .ok (.if_icmp .le 6, 3) := by decide +kernel
theorem dX7_buy_40 : decode cX7_buy 40 = .ok (.bipush (-2), 2) := by decide +kernel
theorem dX7_buy_42 : decode cX7_buy 42 = .ok (.ireturn, 1) := by decide +kernel
theorem dX7_buy_43 : decode cX7_buy 43 = .ok (.iconst (-1), 1) := by decide +kernel
theorem dX7_buy_44 : decode cX7_buy 44 = .ok (.istore 6, 2) := by decide +kernel
theorem dX7_buy_46 : decode cX7_buy 46 = .ok (.iconst (-1), 1) := by decide +kernel
theorem dX7_buy_47 : decode cX7_buy 47 = .ok (.istore 7, 2) := by decide +kernel
theorem dX7_buy_49 : decode cX7_buy 49 = .ok (.aload_n 0, 1) := by decide +kernel
theorem dX7_buy_50 : decode cX7_buy 50 = .ok (.getfield 54, 3) := by decide +kernel
theorem dX7_buy_53 : decode cX7_buy 53 = .ok (.aload 4, 2) := by decide +kernel
theorem dX7_buy_55 : decode cX7_buy 55 = .ok (.invokevirtual 198, 3) := by decide +kernel
theorem dX7_buy_58 : decode cX7_buy 58 = .ok (.iconst 1, 1) := by decide +kernel
theorem dX7_buy_59 : decode cX7_buy 59 = .ok (.istore 8, 2) := by decide +kernel
theorem dX7_buy_61 : decode cX7_buy 61 = .ok (.iload 8, 2) := by decide +kernel
theorem dX7_buy_63 : decode cX7_buy 63 = .ok (.bipush 30, 2) := by decide +kernel
theorem dX7_buy_65 : decode cX7_buy 65 = .ok (.if_icmp .gt 64, 3) := by decide +kernel
theorem dX7_buy_68 : decode cX7_buy 68 = .ok (.aload_n 0, 1) := by decide +kernel
theorem dX7_buy_69 : decode cX7_buy 69 = .ok (.getfield 54, 3) := by decide +kernel
theorem dX7_buy_72 : decode cX7_buy 72 = .ok (.aload 4, 2) := by decide +kernel
theorem dX7_buy_74 : decode cX7_buy 74 = .ok (.getfield 90, 3) := by decide +kernel
theorem dX7_buy_77 : decode cX7_buy 77 = .ok (.iload 8, 2) := by decide +kernel
theorem dX7_buy_79 : decode cX7_buy 79 = .ok (.invokestatic 101, 3) := by decide +kernel
theorem dX7_buy_82 : decode cX7_buy 82 = .ok (.ior, 1) := by decide +kernel
theorem dX7_buy_83 : decode cX7_buy 83 = .ok (.putfield 90, 3) := by decide +kernel
theorem dX7_buy_86 : decode cX7_buy 86 = .ok (.aload_n 0, 1) := by decide +kernel
theorem dX7_buy_87 : decode cX7_buy 87 = .ok (.getfield 33, 3) := by decide +kernel
theorem dX7_buy_90 : decode cX7_buy 90 = .ok (.aload_n 0, 1) := by decide +kernel
theorem dX7_buy_91 : decode cX7_buy 91 = .ok (.getfield 54, 3) := by decide +kernel
theorem dX7_buy_94 : decode cX7_buy 94 = .ok (.aload 5, 2) := by decide +kernel
theorem dX7_buy_96 : decode cX7_buy 96 = .ok (.iconst 0, 1) := by decide +kernel
theorem dX7_buy_97 : decode cX7_buy 97 = .ok (.invokevirtual 174, 3) := by decide +kernel
theorem dX7_buy_100 : decode cX7_buy 100 = .ok (.istore 9, 2) := by decide +kernel
theorem dX7_buy_102 : decode cX7_buy 102 = .ok (.iload 6, 2) := by decide +kernel
theorem dX7_buy_104 : decode cX7_buy 104 = .ok (.iconst (-1), 1) := by decide +kernel
theorem dX7_buy_105 : decode cX7_buy 105 = .ok (.if_icmp .eq 10, 3) := by decide +kernel
theorem dX7_buy_108 : decode cX7_buy 108 = .ok (.iload 9, 2) := by decide +kernel
theorem dX7_buy_110 : decode cX7_buy 110 = .ok (.iload 7, 2) := by decide +kernel
theorem dX7_buy_112 : decode cX7_buy 112 = .ok (.if_icmp .ge 11, 3) := by decide +kernel
theorem dX7_buy_115 : decode cX7_buy 115 = .ok (.iload 9, 2) := by decide +kernel
theorem dX7_buy_117 : decode cX7_buy 117 = .ok (.istore 7, 2) := by decide +kernel
theorem dX7_buy_119 : decode cX7_buy 119 = .ok (.iload 8, 2) := by decide +kernel
theorem dX7_buy_121 : decode cX7_buy 121 = .ok (.istore 6, 2) := by decide +kernel
theorem dX7_buy_123 : decode cX7_buy 123 = .ok (.iinc 8 1, 3) := by decide +kernel
theorem dX7_buy_126 : decode cX7_buy 126 = .ok (.goto (-65), 3) := by decide +kernel
theorem dX7_buy_129 : decode cX7_buy 129 = .ok (.iload_n 3, 1) := by decide +kernel
theorem dX7_buy_130 : decode cX7_buy 130 = .ok (.ifCond .ne 8, 3) := by decide +kernel
theorem dX7_buy_133 : decode cX7_buy 133 = .ok (.iload 6, 2) := by decide +kernel
theorem dX7_buy_135 : decode cX7_buy 135 = .ok (.goto 5, 3) := by decide +kernel
theorem dX7_buy_138 : decode cX7_buy 138 = .ok (.iload 7, 2) := by decide +kernel
theorem dX7_buy_140 : decode cX7_buy 140 = .ok (.ireturn, 1) := by decide +kernel
theorem dX7_pawn_0 : decode cX7_pawn 0 = .ok (.aload_n 0, 1) := by decide +kernel
theorem dX7_pawn_1 : decode cX7_pawn 1 = .ok (.iload_n 1, 1) := by decide +kernel
theorem dX7_pawn_2 : decode cX7_pawn 2 = .ok (.invokevirtual 66, 3) := by decide +kernel
theorem dX7_pawn_5 : decode cX7_pawn 5 = .ok (.astore 4, 2) := by decide +kernel
theorem dX7_pawn_7 : decode cX7_pawn 7 = .ok (.aload_n 0, 1) := by decide +kernel
theorem dX7_pawn_8 : decode cX7_pawn 8 = .ok (.iload_n 2, 1) := by decide +kernel
theorem dX7_pawn_9 : decode cX7_pawn 9 = .ok (.invokevirtual 66, 3) := by decide +kernel
theorem dX7_pawn_12 : decode cX7_pawn 12 = .ok (.astore 5, 2) := by decide +kernel
theorem dX7_pawn_14 : decode cX7_pawn 14 = .ok (.aload 4, 2) := by decide +kernel
theorem dX7_pawn_16 : decode cX7_pawn 16 = .ok (.ifnull 24, 3) := by decide +kernel
theorem dX7_pawn_19 : decode cX7_pawn 19 = .ok (.aload 5, 2) := by decide +kernel
theorem dX7_pawn_21 : decode cX7_pawn 21 = .ok (.ifnull 19, 3) := by decide +kernel
theorem dX7_pawn_24 : decode cX7_pawn 24 = .ok (.aload 4, 2) := by decide +kernel
theorem dX7_pawn_26 : decode cX7_pawn 26 = .ok (.aload 5, 2) := by decide +kernel
theorem dX7_pawn_28 : decode cX7_pawn 28 = .ok (.if_acmp .eq 12, 3) := by decide +kernel
theorem dX7_pawn_31 : decode cX7_pawn 31 = .ok (.iload_n 3, 1) := by decide +kernel
theorem dX7_pawn_32 : decode cX7_pawn 32 = .ok (.ifCond .lt 8, 3) := by decide +kernel
theorem dX7_pawn_35 : decode cX7_pawn 35 = .ok (.iload_n 3, 1) := by decide +kernel
theorem dX7_pawn_36 : decode cX7_pawn 36 = .ok (.iconst 1, 1) := by decide +kernel
theorem dX7_pawn_37 : decode cX7_pawn 37 = .ok (.if_icmp .le 6, 3) := by decide +kernel
theorem dX7_pawn_40 : decode cX7_pawn 40 = .ok (.bipush (-2), 2) := by decide +kernel
theorem dX7_pawn_42 : decode cX7_pawn 42 = .ok (.ireturn, 1) := by decide +kernel
theorem dX7_pawn_43 : decode cX7_pawn 43 = .ok (.iconst (-1), 1) := by decide +kernel
theorem dX7_pawn_44 : decode cX7_pawn 44 = .ok (.istore 6, 2) := by decide +kernel
theorem dX7_pawn_46 : decode cX7_pawn 46 = .ok (.iconst (-1), 1) := by decide +kernel
theorem dX7_pawn_47 : decode cX7_pawn 47 = .ok (.istore 7, 2) := by decide +kernel
theorem dX7_pawn_49 : decode cX7_pawn 49 = .ok (.aload_n 0, 1) := by decide +kernel
theorem dX7_pawn_50 : decode cX7_pawn 50 = .ok (.getfield 54, 3) := by decide +kernel
theorem dX7_pawn_53 : decode cX7_pawn 53 = .ok (.aload 4, 2) := by decide +kernel
theorem dX7_pawn_55 : decode cX7_pawn 55 = .ok (.invokevirtual 198, 3) := by decide +kernel
theorem dX7_pawn_58 : decode cX7_pawn 58 = .ok (.iconst 1, 1) := by decide +kernel
theorem dX7_pawn_59 : decode cX7_pawn 59 = .ok (.istore 8, 2) := by decide +kernel
theorem dX7_pawn_61 : decode cX7_pawn 61 = .ok (.iload 8, 2) := by decide +kernel
theorem dX7_pawn_63 : decode cX7_pawn 63 = .ok (.bipush 30, 2) := by decide +kernel
theorem dX7_pawn_65 : decode cX7_pawn 65 = .ok (.if_icmp .gt 81, 3) := by decide +kernel
theorem dX7_pawn_68 : decode cX7_pawn 68 = .ok (.aload 4, 2) := by decide +kernel
theorem dX7_pawn_70 : decode cX7_pawn 70 = .ok (.getfield 90, 3) := by decide +kernel
theorem dX7_pawn_73 : decode cX7_pawn 73 = .ok (.iload 8, 2) := by decide +kernel
theorem dX7_pawn_75 : decode cX7_pawn 75 = .ok (.invokestatic 97, 3) := by decide +kernel
theorem dX7_pawn_78 : decode cX7_pawn 78 = .ok (.ifCond .eq 62, 3) := by decide +kernel
theorem dX7_pawn_81 : decode cX7_pawn 81 = .ok (.aload_n 0, 1) := by decide +kernel
theorem dX7_pawn_82 : decode cX7_pawn 82 = .ok (.getfield 54, 3) := by decide +kernel
theorem dX7_pawn_85 : decode cX7_pawn 85 = .ok (.aload 4, 2) := by decide +kernel
theorem dX7_pawn_87 : decode cX7_pawn 87 = .ok (.getfield 90, 3) := by decide +kernel
theorem dX7_pawn_90 : decode cX7_pawn 90 = .ok (.iload 8, 2) := by decide +kernel
theorem dX7_pawn_92 : decode cX7_pawn 92 = .ok (.invokestatic 101, 3) := by decide +kernel
theorem dX7_pawn_95 : decode cX7_pawn 95 = .ok (.iconst (-1), 1) := by decide +kernel
theorem dX7_pawn_96 : decode cX7_pawn 96 = .ok (.ixor, 1) := by decide +kernel
theorem dX7_pawn_97 : decode cX7_pawn 97 = .ok (.iand, 1) := by decide +kernel
theorem dX7_pawn_98 : decode cX7_pawn 98 = .ok (.putfield 90, 3) := by decide +kernel
theorem dX7_pawn_101 : decode cX7_pawn 101 = .ok (.bipush 99, 2) := by decide +kernel
theorem dX7_pawn_103 : decode cX7_pawn 103 = .ok (.aload_n 0, 1) := by decide +kernel
theorem dX7_pawn_104 : decode cX7_pawn 104 = .ok (.getfield 33, 3) := by decide +kernel
theorem dX7_pawn_107 : decode cX7_pawn 107 = .ok (.aload_n 0, 1) := by decide +kernel
theorem dX7_pawn_108 : decode cX7_pawn 108 = .ok (.getfield 54, 3) := by decide +kernel
theorem dX7_pawn_111 : decode cX7_pawn 111 = .ok (.aload 5, 2) := by decide +kernel
theorem dX7_pawn_113 : decode cX7_pawn 113 = .ok (.invokevirtual 202, 3) := by decide +kernel
theorem dX7_pawn_116 : decode cX7_pawn 116 = .ok (.isub, 1) := by decide +kernel
theorem dX7_pawn_117 : decode cX7_pawn 117 = .ok (.istore 9, 2) := by decide +kernel
theorem dX7_pawn_119 : decode cX7_pawn 119 = .ok (.iload 6, 2) := by decide +kernel
theorem dX7_pawn_121 : decode cX7_pawn 121 = .ok (.iconst (-1), 1) := by decide +kernel
theorem dX7_pawn_122 : decode cX7_pawn 122 = .ok (.if_icmp .eq 10, 3) := by decide +kernel
theorem dX7_pawn_125 : decode cX7_pawn 125 = .ok (.iload 9, 2) := by decide +kernel
theorem dX7_pawn_127 : decode cX7_pawn 127 = .ok (.iload 7, 2) := by decide +kernel
theorem dX7_pawn_129 : decode cX7_pawn 129 = .ok (.if_icmp .ge 11, 3) := by decide +kernel
theorem dX7_pawn_132 : decode cX7_pawn 132 = .ok (.iload 9, 2) := by decide +kernel
theorem dX7_pawn_134 : decode cX7_pawn 134 = .ok (.istore 7, 2) := by decide +kernel
theorem dX7_pawn_136 : decode cX7_pawn 136 = .ok (.iload 8, 2) := by decide +kernel
theorem dX7_pawn_138 : decode cX7_pawn 138 = .ok (.istore 6, 2) := by decide +kernel
theorem dX7_pawn_140 : decode cX7_pawn 140 = .ok (.iinc 8 1, 3) := by decide +kernel
theorem dX7_pawn_143 : decode cX7_pawn 143 = .ok (.goto (-82), 3) := by decide +kernel
theorem dX7_pawn_146 : decode cX7_pawn 146 = .ok (.iload_n 3, 1) := by decide +kernel
theorem dX7_pawn_147 : decode cX7_pawn 147 = .ok (.ifCond .ne 8, 3) := by decide +kernel
theorem dX7_pawn_150 : decode cX7_pawn 150 = .ok (.iload 6, 2) := by decide +kernel
theorem dX7_pawn_152 : decode cX7_pawn 152 = .ok (.goto 5, 3) := by decide +kernel
theorem dX7_pawn_155 : decode cX7_pawn 155 = .ok (.iload 7, 2) := by decide +kernel
theorem dX7_pawn_157 : decode cX7_pawn 157 = .ok (.ireturn, 1) := by decide +kernel
theorem dX7_worthOfLeaving_0 : decode cX7_worthOfLeaving 0 = .ok (.aload_n 2, 1) := by decide +kernel
theorem dX7_worthOfLeaving_1 : decode cX7_worthOfLeaving 1 = .ok (.ifnonnull 5, 3) := by decide +kernel
theorem dX7_worthOfLeaving_4 : decode cX7_worthOfLeaving 4 = .ok (.iconst 0, 1) := by decide +kernel
theorem dX7_worthOfLeaving_5 : decode cX7_worthOfLeaving 5 = .ok (.ireturn, 1) := by decide +kernel
theorem dX7_worthOfLeaving_6 : decode cX7_worthOfLeaving 6 = .ok (.aload_n 0, 1) := by decide +kernel
theorem dX7_worthOfLeaving_7 : decode cX7_worthOfLeaving 7 = .ok (.getfield 54, 3) := by decide +kernel
theorem dX7_worthOfLeaving_10 : decode cX7_worthOfLeaving 10 = .ok (.aload_n 2, 1) := by decide +kernel
theorem dX7_worthOfLeaving_11 : decode cX7_worthOfLeaving 11 = .ok (.invokevirtual 198, 3) := by decide +kernel
theorem dX7_worthOfLeaving_14 : decode cX7_worthOfLeaving 14 = .ok (.aload_n 0, 1) := by decide +kernel
theorem dX7_worthOfLeaving_15 : decode cX7_worthOfLeaving 15 = .ok (.getfield 54, 3) := by decide +kernel
theorem dX7_worthOfLeaving_18 : decode cX7_worthOfLeaving 18 = .ok (.aload_n 2, 1) := by decide +kernel
theorem dX7_worthOfLeaving_19 : decode cX7_worthOfLeaving 19 = .ok (.getfield 90, 3) := by decide +kernel
theorem dX7_worthOfLeaving_22 : decode cX7_worthOfLeaving 22 = .ok (.aload_n 1, 1) := by decide +kernel
theorem dX7_worthOfLeaving_23 : decode cX7_worthOfLeaving 23 = .ok (.getfield 90, 3) := by decide +kernel
theorem dX7_worthOfLeaving_26 : decode cX7_worthOfLeaving 26 = .ok (.ior, 1) := by decide +kernel
theorem dX7_worthOfLeaving_27 : decode cX7_worthOfLeaving 27 = .ok (.putfield 90, 3) := by decide +kernel
theorem dX7_worthOfLeaving_30 : decode cX7_worthOfLeaving 30 = .ok (.iconst 0, 1) := by decide +kernel
theorem dX7_worthOfLeaving_31 : decode cX7_worthOfLeaving 31 = .ok (.istore_n 3, 1) := by decide +kernel
theorem dX7_worthOfLeaving_32 : decode cX7_worthOfLeaving 32 = .ok (.iconst 0, 1) := by decide +kernel
theorem dX7_worthOfLeaving_33 : decode cX7_worthOfLeaving 33 = .ok (.istore 4, 2) := by decide +kernel
theorem dX7_worthOfLeaving_35 : decode cX7_worthOfLeaving 35 = .ok (.iload 4, 2) := by decide +kernel
theorem dX7_worthOfLeaving_37 : decode cX7_worthOfLeaving 37 = .ok (.aload_n 0, 1) := by decide +kernel
theorem dX7_worthOfLeaving_38 : decode cX7_worthOfLeaving 38 = .ok (.getfield 77, 3) := by decide +kernel
theorem dX7_worthOfLeaving_41 : decode cX7_worthOfLeaving 41 = .ok (.if_icmp .ge 51, 3) := by decide +kernel
theorem dX7_worthOfLeaving_44 : decode cX7_worthOfLeaving 44 = .ok (.aload_n 0, 1) := by decide +kernel
theorem dX7_worthOfLeaving_45 : decode cX7_worthOfLeaving 45 = .ok (.iload 4, 2) := by decide +kernel
theorem dX7_worthOfLeaving_47 : decode cX7_worthOfLeaving 47 = .ok (.invokevirtual 66, 3) := by decide +kernel
theorem dX7_worthOfLeaving_50 : decode cX7_worthOfLeaving 50 = .ok (.astore 5, 2) := by decide +kernel
theorem dX7_worthOfLeaving_52 : decode cX7_worthOfLeaving 52 = .ok (.aload 5, 2) := by decide +kernel
theorem dX7_worthOfLeaving_54 : decode cX7_worthOfLeaving 54 = .ok (.ifnull 32, 3) := by decide +kernel
theorem dX7_worthOfLeaving_57 : decode cX7_worthOfLeaving 57 = .ok (.aload 5, 2) := by decide +kernel
theorem dX7_worthOfLeaving_59 : decode cX7_worthOfLeaving 59 = .ok (.aload_n 2, 1) := by decide +kernel
theorem dX7_worthOfLeaving_60 : decode cX7_worthOfLeaving 60 = .ok (.if_acmp .eq 26, 3) := by decide +kernel
theorem dX7_worthOfLeaving_63 : decode cX7_worthOfLeaving 63 = .ok (.aload 5, 2) := by decide +kernel
theorem dX7_worthOfLeaving_65 : decode cX7_worthOfLeaving 65 = .ok (.aload_n 1, 1) := by decide +kernel
theorem dX7_worthOfLeaving_66 : decode cX7_worthOfLeaving 66 = .ok (.if_acmp .eq 20, 3) := by decide +kernel
theorem dX7_worthOfLeaving_69 : decode cX7_worthOfLeaving 69 = .ok (.iload_n 3, 1) := by decide +kernel
theorem dX7_worthOfLeaving_70 : decode cX7_worthOfLeaving 70 = .ok (.aload_n 0, 1) := by decide +kernel
theorem dX7_worthOfLeaving_71 : decode cX7_worthOfLeaving 71 = .ok (.getfield 33, 3) := by decide +kernel
theorem dX7_worthOfLeaving_74 : decode cX7_worthOfLeaving 74 = .ok (.aload_n 0, 1) := by decide +kernel
theorem dX7_worthOfLeaving_75 : decode cX7_worthOfLeaving 75 = .ok (.getfield 54, 3) := by decide +kernel
theorem dX7_worthOfLeaving_78 : decode cX7_worthOfLeaving 78 = .ok (.aload 5, 2) := by decide +kernel
theorem dX7_worthOfLeaving_80 : decode cX7_worthOfLeaving 80 = .ok (.iconst 2, 1) := by decide +kernel
theorem dX7_worthOfLeaving_81 : decode cX7_worthOfLeaving 81 = .ok (.invokevirtual 174, 3) := by decide +kernel
theorem dX7_worthOfLeaving_84 : decode cX7_worthOfLeaving 84 = .ok (.iadd, 1) := by decide +kernel
theorem dX7_worthOfLeaving_85 : decode cX7_worthOfLeaving 85 = .ok (.istore_n 3, 1) := by decide +kernel
theorem dX7_worthOfLeaving_86 : decode cX7_worthOfLeaving 86 = .ok (.iinc 4 1, 3) := by decide +kernel
theorem dX7_worthOfLeaving_89 : decode cX7_worthOfLeaving 89 = .ok (.goto (-54), 3) := by decide +kernel
theorem dX7_worthOfLeaving_92 : decode cX7_worthOfLeaving 92 = .ok (.iload_n 3, 1) := by decide +kernel
theorem dX7_worthOfLeaving_93 : decode cX7_worthOfLeaving 93 = .ok (.ireturn, 1) := by decide +kernel
theorem dX7_rows_0 : decode cX7_rows 0 = .ok (.aload_n 0, 1) := by decide +kernel
theorem dX7_rows_1 : decode cX7_rows 1 = .ok (.iload_n 1, 1) := by decide +kernel
theorem dX7_rows_2 : decode cX7_rows 2 = .ok (.invokevirtual 205, 3) := by decide +kernel
theorem dX7_rows_5 : decode cX7_rows 5 = .ok (.astore 5, 2) := by decide +kernel
theorem dX7_rows_7 : decode cX7_rows 7 = .ok (.aload_n 0, 1) := by decide +kernel
theorem dX7_rows_8 : decode cX7_rows 8 = .ok (.iload_n 2, 1) := by decide +kernel
theorem dX7_rows_9 : decode cX7_rows 9 = .ok (.invokevirtual 66, 3) := by decide +kernel
theorem dX7_rows_12 : decode cX7_rows 12 = .ok (.astore 6, 2) := by decide +kernel
theorem dX7_rows_14 : decode cX7_rows 14 = .ok (.aload_n 0, 1) := by decide +kernel
theorem dX7_rows_15 : decode cX7_rows 15 = .ok (.iload_n 3, 1) := by decide +kernel
theorem dX7_rows_16 : decode cX7_rows 16 = .ok (.invokevirtual 66, 3) := by decide +kernel
theorem dX7_rows_19 : decode cX7_rows 19 = .ok (.astore 7, 2) := by decide +kernel
theorem dX7_rows_21 : decode cX7_rows 21 = .ok (.aload 5, 2) := by decide +kernel
theorem dX7_rows_23 : decode cX7_rows 23 = .ok (.ifnull 31, 3) := by decide +kernel
theorem dX7_rows_26 : decode cX7_rows 26 = .ok (.aload 6, 2) := by decide +kernel
theorem dX7_rows_28 : decode cX7_rows 28 = .ok (.ifnull 26, 3) := by decide +kernel
theorem dX7_rows_31 : decode cX7_rows 31 = .ok (.aload 7, 2) := by decide +kernel
theorem dX7_rows_33 : decode cX7_rows 33 = .ok (.ifnull 21, 3) := by decide +kernel
theorem dX7_rows_36 : decode cX7_rows 36 = .ok (.aload 6, 2) := by decide +kernel
theorem dX7_rows_38 : decode cX7_rows 38 = .ok (.aload 7, 2) := by decide +kernel
theorem dX7_rows_40 : decode cX7_rows 40 = .ok (.if_acmp .eq 14, 3) := by decide +kernel
theorem dX7_rows_43 : decode cX7_rows 43 = .ok (.iload 4, 2) := by decide +kernel
theorem dX7_rows_45 : decode cX7_rows 45 = .ok (.ifCond .lt 9, 3) := by decide +kernel
theorem dX7_rows_48 : decode cX7_rows 48 = .ok (.iload 4, 2) := by decide +kernel
theorem dX7_rows_50 : decode cX7_rows 50 = .ok (.iconst 5, 1) := by decide +kernel
theorem dX7_rows_51 : decode cX7_rows 51 = .ok (.if_icmp .le 6, 3) := by decide +kernel
theorem dX7_rows_54 : decode cX7_rows 54 = .ok (.bipush (-2), 2) := by decide +kernel
theorem dX7_rows_56 : decode cX7_rows 56 = .ok (.ireturn, 1) := by decide +kernel
theorem dX7_rows_57 : decode cX7_rows 57 = .ok (.aload 5, 2) := by decide +kernel
theorem dX7_rows_59 : decode cX7_rows 59 = .ok (.getfield 209, 3) := by decide +kernel
theorem dX7_rows_62 : decode cX7_rows 62 = .ok (.iconst (-1), 1) := by decide +kernel
theorem dX7_rows_63 : decode cX7_rows 63 = .ok (.if_icmp .ne 6, 3) := by decide +kernel
theorem dX7_rows_66 : decode cX7_rows 66 = .ok (.bipush (-11), 2) := by decide +kernel
theorem dX7_rows_68 : decode cX7_rows 68 = .ok (.ireturn, 1) := by decide +kernel
theorem dX7_rows_69 : decode cX7_rows 69 = .ok (.aload 5, 2) := by decide +kernel
theorem dX7_rows_71 : decode cX7_rows 71 = .ok (.invokevirtual 212, 3) := by decide +kernel
theorem dX7_rows_74 : decode cX7_rows 74 = .ok (.ifCond .ne 6, 3) := by decide +kernel
theorem dX7_rows_77 : decode cX7_rows 77 = .ok (.bipush (-2), 2) := by decide +kernel
theorem dX7_rows_79 : decode cX7_rows 79 = .ok (.ireturn, 1) := by decide +kernel
theorem dX7_rows_80 : decode cX7_rows 80 = .ok (.iload 4, 2) := by decide +kernel
theorem dX7_rows_82 : decode cX7_rows 82 = .ok (.tableswitch 92 0 4 #[34, 48, 59, 70, 81], 34) := by decide +kernel
theorem dX7_rows_116 : decode cX7_rows 116 = .ok (.aload_n 0, 1) := by decide +kernel
theorem dX7_rows_117 : decode cX7_rows 117 = .ok (.getfield 33, 3) := by decide +kernel
theorem dX7_rows_120 : decode cX7_rows 120 = .ok (.aload 5, 2) := by decide +kernel
theorem dX7_rows_122 : decode cX7_rows 122 = .ok (.aload 6, 2) := by decide +kernel
theorem dX7_rows_124 : decode cX7_rows 124 = .ok (.aload 7, 2) := by decide +kernel
theorem dX7_rows_126 : decode cX7_rows 126 = .ok (.invokevirtual 216, 3) := by decide +kernel
theorem dX7_rows_129 : decode cX7_rows 129 = .ok (.ireturn, 1) := by decide +kernel
theorem dX7_rows_130 : decode cX7_rows 130 = .ok (.aload_n 0, 1) := by decide +kernel
theorem dX7_rows_131 : decode cX7_rows 131 = .ok (.aload 5, 2) := by decide +kernel
theorem dX7_rows_133 : decode cX7_rows 133 = .ok (.aload 6, 2) := by decide +kernel
theorem dX7_rows_135 : decode cX7_rows 135 = .ok (.aload 7, 2) := by decide +kernel
theorem dX7_rows_137 : decode cX7_rows 137 = .ok (.invokevirtual 220, 3) := by decide +kernel
theorem dX7_rows_140 : decode cX7_rows 140 = .ok (.ireturn, 1) := by decide +kernel
theorem dX7_rows_141 : decode cX7_rows 141 = .ok (.aload_n 0, 1) := by decide +kernel
theorem dX7_rows_142 : decode cX7_rows 142 = .ok (.aload 5, 2) := by decide +kernel
theorem dX7_rows_144 : decode cX7_rows 144 = .ok (.aload 6, 2) := by decide +kernel
theorem dX7_rows_146 : decode cX7_rows 146 = .ok (.aload 7, 2) := by decide +kernel
theorem dX7_rows_148 : decode cX7_rows 148 = .ok (.invokevirtual 223, 3) := by decide +kernel
theorem dX7_rows_151 : decode cX7_rows 151 = .ok (.ireturn, 1) := by decide +kernel
theorem dX7_rows_152 : decode cX7_rows 152 = .ok (.aload_n 0, 1) := by decide +kernel
theorem dX7_rows_153 : decode cX7_rows 153 = .ok (.aload 5, 2) := by decide +kernel
theorem dX7_rows_155 : decode cX7_rows 155 = .ok (.aload 6, 2) := by decide +kernel
theorem dX7_rows_157 : decode cX7_rows 157 = .ok (.aload 7, 2) := by decide +kernel
theorem dX7_rows_159 : decode cX7_rows 159 = .ok (.invokevirtual 226, 3) := by decide +kernel
theorem dX7_rows_162 : decode cX7_rows 162 = .ok (.ireturn, 1) := by decide +kernel
theorem dX7_rows_163 : decode cX7_rows 163 = .ok (.aload_n 0, 1) := by decide +kernel
theorem dX7_rows_164 : decode cX7_rows 164 = .ok (.aload 5, 2) := by decide +kernel
theorem dX7_rows_166 : decode cX7_rows 166 = .ok (.aload 6, 2) := by decide +kernel
theorem dX7_rows_168 : decode cX7_rows 168 = .ok (.aload 7, 2) := by decide +kernel
theorem dX7_rows_170 : decode cX7_rows 170 = .ok (.invokevirtual 229, 3) := by decide +kernel
theorem dX7_rows_173 : decode cX7_rows 173 = .ok (.ireturn, 1) := by decide +kernel
theorem dX7_rows_174 : decode cX7_rows 174 = .ok (.aload_n 0, 1) := by decide +kernel
theorem dX7_rows_175 : decode cX7_rows 175 = .ok (.aload 5, 2) := by decide +kernel
theorem dX7_rows_177 : decode cX7_rows 177 = .ok (.aload 6, 2) := by decide +kernel
theorem dX7_rows_179 : decode cX7_rows 179 = .ok (.aload 7, 2) := by decide +kernel
theorem dX7_rows_181 : decode cX7_rows 181 = .ok (.invokevirtual 232, 3) := by decide +kernel
theorem dX7_rows_184 : decode cX7_rows 184 = .ok (.ireturn, 1) := by decide +kernel
theorem dX7_film_0 : decode cX7_film 0 = .ok (.aload_n 0, 1) := by decide +kernel
theorem dX7_film_1 : decode cX7_film 1 = .ok (.iload_n 1, 1) := by decide +kernel
theorem dX7_film_2 : decode cX7_film 2 = .ok (.invokevirtual 205, 3) := by decide +kernel
theorem dX7_film_5 : decode cX7_film 5 = .ok (.astore 5, 2) := by decide +kernel
theorem dX7_film_7 : decode cX7_film 7 = .ok (.aload_n 0, 1) := by decide +kernel
theorem dX7_film_8 : decode cX7_film 8 = .ok (.iload_n 2, 1) := by decide +kernel
theorem dX7_film_9 : decode cX7_film 9 = .ok (.bipush 10, 2) := by decide +kernel
theorem dX7_film_11 : decode cX7_film 11 = .ok (.idiv, 1) := by decide +kernel
theorem dX7_film_12 : decode cX7_film 12 = .ok (.invokevirtual 66, 3) := by decide +kernel
theorem dX7_film_15 : decode cX7_film 15 = .ok (.astore 6, 2) := by decide +kernel
theorem dX7_film_17 : decode cX7_film 17 = .ok (.aload_n 0, 1) := by decide +kernel
theorem dX7_film_18 : decode cX7_film 18 = .ok (.iload_n 2, 1) := by decide +kernel
theorem dX7_film_19 : decode cX7_film 19 = .ok (.bipush 10, 2) := by decide +kernel
theorem dX7_film_21 : decode cX7_film 21 = .ok (.irem, 1) := by decide +kernel
theorem dX7_film_22 : decode cX7_film 22 = .ok (.invokevirtual 66, 3) := by decide +kernel
theorem dX7_film_25 : decode cX7_film 25 = .ok (.astore 7, 2) := by decide +kernel
theorem dX7_film_27 : decode cX7_film 27 = .ok (.aload 5, 2) := by decide +kernel
theorem dX7_film_29 : decode cX7_film 29 = .ok (.ifnull 20, 3) := by decide +kernel
theorem dX7_film_32 : decode cX7_film 32 = .ok (.aload 6, 2) := by decide +kernel
theorem dX7_film_34 : decode cX7_film 34 = .ok (.ifnull 15, 3) := by decide +kernel
theorem dX7_film_37 : decode cX7_film 37 = .ok (.aload 7, 2) := by decide +kernel
theorem dX7_film_39 : decode cX7_film 39 = .ok (.ifnull 10, 3) := by decide +kernel
theorem dX7_film_42 : decode cX7_film 42 = .ok (.aload 6, 2) := by decide +kernel
theorem dX7_film_44 : decode cX7_film 44 = .ok (.aload 7, 2) := by decide +kernel
theorem dX7_film_46 : decode cX7_film 46 = .ok (.if_acmp .ne 6, 3) := by decide +kernel
theorem dX7_film_49 : decode cX7_film 49 = .ok (.bipush (-2), 2) := by decide +kernel
theorem dX7_film_51 : decode cX7_film 51 = .ok (.ireturn, 1) := by decide +kernel
theorem dX7_film_52 : decode cX7_film 52 = .ok (.iload_n 3, 1) := by decide +kernel
theorem dX7_film_53 : decode cX7_film 53 = .ok (.invokestatic 136, 3) := by decide +kernel
theorem dX7_film_56 : decode cX7_film 56 = .ok (.ifCond .eq 15, 3) := by decide +kernel
theorem dX7_film_59 : decode cX7_film 59 = .ok (.iload 4, 2) := by decide +kernel
theorem dX7_film_61 : decode cX7_film 61 = .ok (.ifCond .lt 10, 3) := by decide +kernel
theorem dX7_film_64 : decode cX7_film 64 = .ok (.iload 4, 2) := by decide +kernel
theorem dX7_film_66 : decode cX7_film 66 = .ok (.bipush 20, 2) := by decide +kernel
theorem dX7_film_68 : decode cX7_film 68 = .ok (.if_icmp .le 6, 3) := by decide +kernel
theorem dX7_film_71 : decode cX7_film 71 = .ok (.bipush (-2), 2) := by decide +kernel
theorem dX7_film_73 : decode cX7_film 73 = .ok (.ireturn, 1) := by decide +kernel
theorem dX7_film_74 : decode cX7_film 74 = .ok (.iload 4, 2) := by decide +kernel
theorem dX7_film_76 : decode cX7_film 76 = .ok (.bipush 100, 2) := by decide +kernel
theorem dX7_film_78 : decode cX7_film 78 = .ok (.iload_n 3, 1) := by decide +kernel
theorem dX7_film_79 : decode cX7_film 79 = .ok (.isub, 1) := by decide +kernel
theorem dX7_film_80 : decode cX7_film 80 = .ok (.invokestatic 235, 3) := by decide +kernel
theorem dX7_film_83 : decode cX7_film 83 = .ok (.istore 8, 2) := by decide +kernel
theorem dX7_film_85 : decode cX7_film 85 = .ok (.aload_n 0, 1) := by decide +kernel
theorem dX7_film_86 : decode cX7_film 86 = .ok (.getfield 33, 3) := by decide +kernel
theorem dX7_film_89 : decode cX7_film 89 = .ok (.aload 6, 2) := by decide +kernel
theorem dX7_film_91 : decode cX7_film 91 = .ok (.aload 7, 2) := by decide +kernel
theorem dX7_film_93 : decode cX7_film 93 = .ok (.bipush 99, 2) := by decide +kernel
theorem dX7_film_95 : decode cX7_film 95 = .ok (.iconst 0, 1) := by decide +kernel
theorem dX7_film_96 : decode cX7_film 96 = .ok (.invokevirtual 153, 3) := by decide +kernel
theorem dX7_film_99 : decode cX7_film 99 = .ok (.aload 5, 2) := by decide +kernel
theorem dX7_film_101 : decode cX7_film 101 = .ok (.iconst 1, 1) := by decide +kernel
theorem dX7_film_102 : decode cX7_film 102 = .ok (.iconst 2, 1) := by decide +kernel
theorem dX7_film_103 : decode cX7_film 103 = .ok (.iload 8, 2) := by decide +kernel
theorem dX7_film_105 : decode cX7_film 105 = .ok (.imul, 1) := by decide +kernel
theorem dX7_film_106 : decode cX7_film 106 = .ok (.invokevirtual 241, 3) := by decide +kernel
theorem dX7_film_109 : decode cX7_film 109 = .ok (.iconst 0, 1) := by decide +kernel
theorem dX7_film_110 : decode cX7_film 110 = .ok (.istore 9, 2) := by decide +kernel
theorem dX7_film_112 : decode cX7_film 112 = .ok (.iload 9, 2) := by decide +kernel
theorem dX7_film_114 : decode cX7_film 114 = .ok (.iload 8, 2) := by decide +kernel
theorem dX7_film_116 : decode cX7_film 116 = .ok (.if_icmp .ge 44, 3) := by decide +kernel
theorem dX7_film_119 : decode cX7_film 119 = .ok (.aload 5, 2) := by decide +kernel
theorem dX7_film_121 : decode cX7_film 121 = .ok (.iconst 2, 1) := by decide +kernel
theorem dX7_film_122 : decode cX7_film 122 = .ok (.iload 9, 2) := by decide +kernel
theorem dX7_film_124 : decode cX7_film 124 = .ok (.imul, 1) := by decide +kernel
theorem dX7_film_125 : decode cX7_film 125 = .ok (.iload_n 3, 1) := by decide +kernel
theorem dX7_film_126 : decode cX7_film 126 = .ok (.iload 9, 2) := by decide +kernel
theorem dX7_film_128 : decode cX7_film 128 = .ok (.iadd, 1) := by decide +kernel
theorem dX7_film_129 : decode cX7_film 129 = .ok (.invokevirtual 244, 3) := by decide +kernel
theorem dX7_film_132 : decode cX7_film 132 = .ok (.aload 5, 2) := by decide +kernel
theorem dX7_film_134 : decode cX7_film 134 = .ok (.iconst 2, 1) := by decide +kernel
theorem dX7_film_135 : decode cX7_film 135 = .ok (.iload 9, 2) := by decide +kernel
theorem dX7_film_137 : decode cX7_film 137 = .ok (.imul, 1) := by decide +kernel
theorem dX7_film_138 : decode cX7_film 138 = .ok (.iconst 1, 1) := by decide +kernel
theorem dX7_film_139 : decode cX7_film 139 = .ok (.iadd, 1) := by decide +kernel
theorem dX7_film_140 : decode cX7_film 140 = .ok (.aload_n 0, 1) := by decide +kernel
theorem dX7_film_141 : decode cX7_film 141 = .ok (.getfield 33, 3) := by decide +kernel
theorem dX7_film_144 : decode cX7_film 144 = .ok (.iload_n 3, 1) := by decide +kernel
theorem dX7_film_145 : decode cX7_film 145 = .ok (.iload 9, 2) := by decide +kernel
theorem dX7_film_147 : decode cX7_film 147 = .ok (.iadd, 1) := by decide +kernel
theorem dX7_film_148 : decode cX7_film 148 = .ok (.invokevirtual 157, 3) := by decide +kernel
theorem dX7_film_151 : decode cX7_film 151 = .ok (.invokevirtual 244, 3) := by decide +kernel
theorem dX7_film_154 : decode cX7_film 154 = .ok (.iinc 9 1, 3) := by decide +kernel
theorem dX7_film_157 : decode cX7_film 157 = .ok (.goto (-45), 3) := by decide +kernel
theorem dX7_film_160 : decode cX7_film 160 = .ok (.iload 8, 2) := by decide +kernel
theorem dX7_film_162 : decode cX7_film 162 = .ok (.ireturn, 1) := by decide +kernel
theorem dX7_drawn_0 : decode cX7_drawn 0 = .ok (.aload_n 0, 1) := by decide +kernel
theorem dX7_drawn_1 : decode cX7_drawn 1 = .ok (.iconst 0, 1) := by decide +kernel
theorem dX7_drawn_2 : decode cX7_drawn 2 = .ok (.invokevirtual 66, 3) := by decide +kernel
theorem dX7_drawn_5 : decode cX7_drawn 5 = .ok (.astore_n 2, 1) := by decide +kernel
theorem dX7_drawn_6 : decode cX7_drawn 6 = .ok (.aload_n 0, 1) := by decide +kernel
theorem dX7_drawn_7 : decode cX7_drawn 7 = .ok (.iconst 1, 1) := by decide +kernel
theorem dX7_drawn_8 : decode cX7_drawn 8 = .ok (.invokevirtual 66, 3) := by decide +kernel
theorem dX7_drawn_11 : decode cX7_drawn 11 = .ok (.astore_n 3, 1) := by decide +kernel
theorem dX7_drawn_12 : decode cX7_drawn 12 = .ok (.aload_n 2, 1) := by decide +kernel
theorem dX7_drawn_13 : decode cX7_drawn 13 = .ok (.ifnull 7, 3) := by decide +kernel
theorem dX7_drawn_16 : decode cX7_drawn 16 = .ok (.aload_n 3, 1) := by decide +kernel
theorem dX7_drawn_17 : decode cX7_drawn 17 = .ok (.ifnonnull 6, 3) := by decide +kernel
theorem dX7_drawn_20 : decode cX7_drawn 20 = .ok (.bipush (-3), 2) := by decide +kernel
theorem dX7_drawn_22 : decode cX7_drawn 22 = .ok (.ireturn, 1) := by decide +kernel
theorem dX7_drawn_23 : decode cX7_drawn 23 = .ok (.aload_n 0, 1) := by decide +kernel
theorem dX7_drawn_24 : decode cX7_drawn 24 = .ok (.iload_n 1, 1) := by decide +kernel
theorem dX7_drawn_25 : decode cX7_drawn 25 = .ok (.aload_n 2, 1) := by decide +kernel
theorem dX7_drawn_26 : decode cX7_drawn 26 = .ok (.aload_n 3, 1) := by decide +kernel
theorem dX7_drawn_27 : decode cX7_drawn 27 = .ok (.invokevirtual 246, 3) := by decide +kernel
theorem dX7_drawn_30 : decode cX7_drawn 30 = .ok (.ireturn, 1) := by decide +kernel
theorem dX7_chance_0 : decode cX7_chance 0 = .ok (.aload_n 0, 1) := by decide +kernel
theorem dX7_chance_1 : decode cX7_chance 1 = .ok (.iconst 0, 1) := by decide +kernel
theorem dX7_chance_2 : decode cX7_chance 2 = .ok (.invokevirtual 66, 3) := by decide +kernel
theorem dX7_chance_5 : decode cX7_chance 5 = .ok (.astore 4, 2) := by decide +kernel
theorem dX7_chance_7 : decode cX7_chance 7 = .ok (.aload_n 0, 1) := by decide +kernel
theorem dX7_chance_8 : decode cX7_chance 8 = .ok (.iconst 1, 1) := by decide +kernel
theorem dX7_chance_9 : decode cX7_chance 9 = .ok (.invokevirtual 66, 3) := by decide +kernel
theorem dX7_chance_12 : decode cX7_chance 12 = .ok (.astore 5, 2) := by decide +kernel
theorem dX7_chance_14 : decode cX7_chance 14 = .ok (.iload_n 2, 1) := by decide +kernel
theorem dX7_chance_15 : decode cX7_chance 15 = .ok (.iconst 1, 1) := by decide +kernel
theorem dX7_chance_16 : decode cX7_chance 16 = .ok (.if_icmp .lt 28, 3) := by decide +kernel
theorem dX7_chance_19 : decode cX7_chance 19 = .ok (.iload_n 2, 1) := by decide +kernel
theorem dX7_chance_20 : decode cX7_chance 20 = .ok (.bipush 20, 2) := by decide +kernel
theorem dX7_chance_22 : decode cX7_chance 22 = .ok (.if_icmp .gt 22, 3) := by decide +kernel
theorem dX7_chance_25 : decode cX7_chance 25 = .ok (.iload_n 3, 1) := by decide +kernel
theorem dX7_chance_26 : decode cX7_chance 26 = .ok (.ifCond .lt 18, 3) := by decide +kernel
theorem dX7_chance_29 : decode cX7_chance 29 = .ok (.iload_n 3, 1) := by decide +kernel
theorem dX7_chance_30 : decode cX7_chance 30 = .ok (.iconst 1, 1) := by decide +kernel
theorem dX7_chance_31 : decode cX7_chance 31 = .ok (.if_icmp .gt 13, 3) := by decide +kernel
theorem dX7_chance_34 : decode cX7_chance 34 = .ok (.aload 4, 2) := by decide +kernel
theorem dX7_chance_36 : decode cX7_chance 36 = .ok (.ifnull 8, 3) := by decide +kernel
theorem dX7_chance_39 : decode cX7_chance 39 = .ok (.aload 5, 2) := by decide +kernel
theorem dX7_chance_41 : decode cX7_chance 41 = .ok (.ifnonnull 7, 3) := by decide +kernel
theorem dX7_chance_44 : decode cX7_chance 44 = .ok (.ldc2_w 250, 3) := by decide +kernel
theorem dX7_chance_47 : decode cX7_chance 47 = .ok (.lreturn, 1) := by decide +kernel
theorem dX7_chance_48 : decode cX7_chance 48 = .ok (.aload_n 0, 1) := by decide +kernel
theorem dX7_chance_49 : decode cX7_chance 49 = .ok (.getfield 33, 3) := by decide +kernel
theorem dX7_chance_52 : decode cX7_chance 52 = .ok (.aload 4, 2) := by decide +kernel
theorem dX7_chance_54 : decode cX7_chance 54 = .ok (.aload 5, 2) := by decide +kernel
theorem dX7_chance_56 : decode cX7_chance 56 = .ok (.invokevirtual 202, 3) := by decide +kernel
theorem dX7_chance_59 : decode cX7_chance 59 = .ok (.istore 6, 2) := by decide +kernel
theorem dX7_chance_61 : decode cX7_chance 61 = .ok (.iconst 0, 1) := by decide +kernel
theorem dX7_chance_62 : decode cX7_chance 62 = .ok (.istore 7, 2) := by decide +kernel
theorem dX7_chance_64 : decode cX7_chance 64 = .ok (.iconst 0, 1) := by decide +kernel
theorem dX7_chance_65 : decode cX7_chance 65 = .ok (.istore 8, 2) := by decide +kernel
theorem dX7_chance_67 : decode cX7_chance 67 = .ok (.iload 8, 2) := by decide +kernel
theorem dX7_chance_69 : decode cX7_chance 69 = .ok (.iload_n 2, 1) := by decide +kernel
theorem dX7_chance_70 : decode cX7_chance 70 = .ok (.if_icmp .ge 29, 3) := by decide +kernel
theorem dX7_chance_73 : decode cX7_chance 73 = .ok (.aload_n 0, 1) := by decide +kernel
theorem dX7_chance_74 : decode cX7_chance 74 = .ok (.iload_n 1, 1) := by decide +kernel
theorem dX7_chance_75 : decode cX7_chance 75 = .ok (.iload 8, 2) := by decide +kernel
theorem dX7_chance_77 : decode cX7_chance 77 = .ok (.iadd, 1) := by decide +kernel
theorem dX7_chance_78 : decode cX7_chance 78 = .ok (.aload 4, 2) := by decide +kernel
theorem dX7_chance_80 : decode cX7_chance 80 = .ok (.aload 5, 2) := by decide +kernel
theorem dX7_chance_82 : decode cX7_chance 82 = .ok (.invokevirtual 246, 3) := by decide +kernel
theorem dX7_chance_85 : decode cX7_chance 85 = .ok (.iload 6, 2) := by decide +kernel
theorem dX7_chance_87 : decode cX7_chance 87 = .ok (.if_icmp .le 6, 3) := by decide +kernel
theorem dX7_chance_90 : decode cX7_chance 90 = .ok (.iinc 7 1, 3) := by decide +kernel
theorem dX7_chance_93 : decode cX7_chance 93 = .ok (.iinc 8 1, 3) := by decide +kernel
theorem dX7_chance_96 : decode cX7_chance 96 = .ok (.goto (-29), 3) := by decide +kernel
theorem dX7_chance_99 : decode cX7_chance 99 = .ok (.iload_n 2, 1) := by decide +kernel
theorem dX7_chance_100 : decode cX7_chance 100 = .ok (.iload 7, 2) := by decide +kernel
theorem dX7_chance_102 : decode cX7_chance 102 = .ok (.invokestatic 252, 3) := by decide +kernel
theorem dX7_chance_105 : decode cX7_chance 105 = .ok (.istore 8, 2) := by decide +kernel
theorem dX7_chance_107 : decode cX7_chance 107 = .ok (.iload 8, 2) := by decide +kernel
theorem dX7_chance_109 : decode cX7_chance 109 = .ok (.iconst 1, 1) := by decide +kernel
theorem dX7_chance_110 : decode cX7_chance 110 = .ok (.if_icmp .ge 9, 3) := by decide +kernel
theorem dX7_chance_113 : decode cX7_chance 113 = .ok (.ldc2_w 250, 3) := by decide +kernel
theorem dX7_chance_116 : decode cX7_chance 116 = .ok (.goto 17, 3) := by decide +kernel
theorem dX7_chance_119 : decode cX7_chance 119 = .ok (.iload_n 3, 1) := by decide +kernel
theorem dX7_chance_120 : decode cX7_chance 120 = .ok (.ifCond .ne 8, 3) := by decide +kernel
theorem dX7_chance_123 : decode cX7_chance 123 = .ok (.iload 7, 2) := by decide +kernel
theorem dX7_chance_125 : decode cX7_chance 125 = .ok (.goto 4, 3) := by decide +kernel
theorem dX7_chance_128 : decode cX7_chance 128 = .ok (.iload_n 2, 1) := by decide +kernel
theorem dX7_chance_129 : decode cX7_chance 129 = .ok (.iload 8, 2) := by decide +kernel
theorem dX7_chance_131 : decode cX7_chance 131 = .ok (.idiv, 1) := by decide +kernel
theorem dX7_chance_132 : decode cX7_chance 132 = .ok (.i2l, 1) := by decide +kernel
theorem dX7_chance_133 : decode cX7_chance 133 = .ok (.lreturn, 1) := by decide +kernel
theorem dX7_image_0 : decode cX7_image 0 = .ok (.aload_n 0, 1) := by decide +kernel
theorem dX7_image_1 : decode cX7_image 1 = .ok (.getfield 49, 3) := by decide +kernel
theorem dX7_image_4 : decode cX7_image 4 = .ok (.aload_n 0, 1) := by decide +kernel
theorem dX7_image_5 : decode cX7_image 5 = .ok (.getfield 24, 3) := by decide +kernel
theorem dX7_image_8 : decode cX7_image 8 = .ok (.getfield 109, 3) := by decide +kernel
theorem dX7_image_11 : decode cX7_image 11 = .ok (.putfield 255, 3) := by decide +kernel
theorem dX7_image_14 : decode cX7_image 14 = .ok (.aload_n 0, 1) := by decide +kernel
theorem dX7_image_15 : decode cX7_image 15 = .ok (.getfield 49, 3) := by decide +kernel
theorem dX7_image_18 : decode cX7_image 18 = .ok (.aload_n 0, 1) := by decide +kernel
theorem dX7_image_19 : decode cX7_image 19 = .ok (.getfield 24, 3) := by decide +kernel
theorem dX7_image_22 : decode cX7_image 22 = .ok (.getfield 133, 3) := by decide +kernel
theorem dX7_image_25 : decode cX7_image 25 = .ok (.putfield 256, 3) := by decide +kernel
theorem dX7_image_28 : decode cX7_image 28 = .ok (.aload_n 0, 1) := by decide +kernel
theorem dX7_image_29 : decode cX7_image 29 = .ok (.getfield 49, 3) := by decide +kernel
theorem dX7_image_32 : decode cX7_image 32 = .ok (.aload_n 0, 1) := by decide +kernel
theorem dX7_image_33 : decode cX7_image 33 = .ok (.getfield 77, 3) := by decide +kernel
theorem dX7_image_36 : decode cX7_image 36 = .ok (.putfield 257, 3) := by decide +kernel
theorem dX7_image_39 : decode cX7_image 39 = .ok (.iconst 0, 1) := by decide +kernel
theorem dX7_image_40 : decode cX7_image 40 = .ok (.istore_n 1, 1) := by decide +kernel
theorem dX7_image_41 : decode cX7_image 41 = .ok (.iload_n 1, 1) := by decide +kernel
theorem dX7_image_42 : decode cX7_image 42 = .ok (.aload_n 0, 1) := by decide +kernel
theorem dX7_image_43 : decode cX7_image 43 = .ok (.getfield 77, 3) := by decide +kernel
theorem dX7_image_46 : decode cX7_image 46 = .ok (.if_icmp .ge 51, 3) := by decide +kernel
theorem dX7_image_49 : decode cX7_image 49 = .ok (.iload_n 1, 1) := by decide +kernel
theorem dX7_image_50 : decode cX7_image 50 = .ok (.bipush 6, 2) := by decide +kernel
theorem dX7_image_52 : decode cX7_image 52 = .ok (.if_icmp .ge 45, 3) := by decide +kernel
theorem dX7_image_55 : decode cX7_image 55 = .ok (.aload_n 0, 1) := by decide +kernel
theorem dX7_image_56 : decode cX7_image 56 = .ok (.getfield 49, 3) := by decide +kernel
theorem dX7_image_59 : decode cX7_image 59 = .ok (.getfield 258, 3) := by decide +kernel
theorem dX7_image_62 : decode cX7_image 62 = .ok (.iload_n 1, 1) := by decide +kernel
theorem dX7_image_63 : decode cX7_image 63 = .ok (.aload_n 0, 1) := by decide +kernel
theorem dX7_image_64 : decode cX7_image 64 = .ok (.getfield 11, 3) := by decide +kernel
theorem dX7_image_67 : decode cX7_image 67 = .ok (.iload_n 1, 1) := by decide +kernel
theorem dX7_image_68 : decode cX7_image 68 = .ok (.aaload, 1) := by decide +kernel
theorem dX7_image_69 : decode cX7_image 69 = .ok (.getfield 87, 3) := by decide +kernel
theorem dX7_image_72 : decode cX7_image 72 = .ok (.iastore, 1) := by decide +kernel
theorem dX7_image_73 : decode cX7_image 73 = .ok (.aload_n 0, 1) := by decide +kernel
theorem dX7_image_74 : decode cX7_image 74 = .ok (.getfield 49, 3) := by decide +kernel
theorem dX7_image_77 : decode cX7_image 77 = .ok (.getfield 262, 3) := by decide +kernel
theorem dX7_image_80 : decode cX7_image 80 = .ok (.iload_n 1, 1) := by decide +kernel
theorem dX7_image_81 : decode cX7_image 81 = .ok (.aload_n 0, 1) := by decide +kernel
theorem dX7_image_82 : decode cX7_image 82 = .ok (.getfield 11, 3) := by decide +kernel
theorem dX7_image_85 : decode cX7_image 85 = .ok (.iload_n 1, 1) := by decide +kernel
theorem dX7_image_86 : decode cX7_image 86 = .ok (.aaload, 1) := by decide +kernel
theorem dX7_image_87 : decode cX7_image 87 = .ok (.getfield 90, 3) := by decide +kernel
theorem dX7_image_90 : decode cX7_image 90 = .ok (.iastore, 1) := by decide +kernel
theorem dX7_image_91 : decode cX7_image 91 = .ok (.iinc 1 1, 3) := by decide +kernel
theorem dX7_image_94 : decode cX7_image 94 = .ok (.goto (-53), 3) := by decide +kernel
theorem dX7_image_97 : decode cX7_image 97 = .ok (.aload_n 0, 1) := by decide +kernel
theorem dX7_image_98 : decode cX7_image 98 = .ok (.getfield 77, 3) := by decide +kernel
theorem dX7_image_101 : decode cX7_image 101 = .ok (.ireturn, 1) := by decide +kernel
theorem dX7_back_0 : decode cX7_back 0 = .ok (.aload_n 0, 1) := by decide +kernel
theorem dX7_back_1 : decode cX7_back 1 = .ok (.getfield 49, 3) := by decide +kernel
theorem dX7_back_4 : decode cX7_back 4 = .ok (.getfield 257, 3) := by decide +kernel
theorem dX7_back_7 : decode cX7_back 7 = .ok (.iconst (-1), 1) := by decide +kernel
theorem dX7_back_8 : decode cX7_back 8 = .ok (.if_icmp .ne 6, 3) := by decide +kernel
theorem dX7_back_11 : decode cX7_back 11 = .ok (.bipush (-3), 2) := by decide +kernel
theorem dX7_back_13 : decode cX7_back 13 = .ok (.ireturn, 1) := by decide +kernel
theorem dX7_back_14 : decode cX7_back 14 = .ok (.aload_n 0, 1) := by decide +kernel
theorem dX7_back_15 : decode cX7_back 15 = .ok (.getfield 24, 3) := by decide +kernel
theorem dX7_back_18 : decode cX7_back 18 = .ok (.aload_n 0, 1) := by decide +kernel
theorem dX7_back_19 : decode cX7_back 19 = .ok (.getfield 49, 3) := by decide +kernel
theorem dX7_back_22 : decode cX7_back 22 = .ok (.getfield 255, 3) := by decide +kernel
theorem dX7_back_25 : decode cX7_back 25 = .ok (.putfield 109, 3) := by decide +kernel
theorem dX7_back_28 : decode cX7_back 28 = .ok (.aload_n 0, 1) := by decide +kernel
theorem dX7_back_29 : decode cX7_back 29 = .ok (.getfield 24, 3) := by decide +kernel
theorem dX7_back_32 : decode cX7_back 32 = .ok (.aload_n 0, 1) := by decide +kernel
theorem dX7_back_33 : decode cX7_back 33 = .ok (.getfield 49, 3) := by decide +kernel
theorem dX7_back_36 : decode cX7_back 36 = .ok (.getfield 256, 3) := by decide +kernel
theorem dX7_back_39 : decode cX7_back 39 = .ok (.putfield 133, 3) := by decide +kernel
theorem dX7_back_42 : decode cX7_back 42 = .ok (.aload_n 0, 1) := by decide +kernel
theorem dX7_back_43 : decode cX7_back 43 = .ok (.aload_n 0, 1) := by decide +kernel
theorem dX7_back_44 : decode cX7_back 44 = .ok (.getfield 49, 3) := by decide +kernel
theorem dX7_back_47 : decode cX7_back 47 = .ok (.getfield 257, 3) := by decide +kernel
theorem dX7_back_50 : decode cX7_back 50 = .ok (.putfield 77, 3) := by decide +kernel
theorem dX7_back_53 : decode cX7_back 53 = .ok (.iconst 0, 1) := by decide +kernel
theorem dX7_back_54 : decode cX7_back 54 = .ok (.istore_n 1, 1) := by decide +kernel
theorem dX7_back_55 : decode cX7_back 55 = .ok (.iload_n 1, 1) := by decide +kernel
theorem dX7_back_56 : decode cX7_back 56 = .ok (.aload_n 0, 1) := by decide +kernel
theorem dX7_back_57 : decode cX7_back 57 = .ok (.getfield 77, 3) := by decide +kernel
theorem dX7_back_60 : decode cX7_back 60 = .ok (.if_icmp .ge 51, 3) := by decide +kernel
theorem dX7_back_63 : decode cX7_back 63 = .ok (.iload_n 1, 1) := by decide +kernel
theorem dX7_back_64 : decode cX7_back 64 = .ok (.bipush 6, 2) := by decide +kernel
theorem dX7_back_66 : decode cX7_back 66 = .ok (.if_icmp .ge 45, 3) := by decide +kernel
theorem dX7_back_69 : decode cX7_back 69 = .ok (.aload_n 0, 1) := by decide +kernel
theorem dX7_back_70 : decode cX7_back 70 = .ok (.getfield 11, 3) := by decide +kernel
theorem dX7_back_73 : decode cX7_back 73 = .ok (.iload_n 1, 1) := by decide +kernel
theorem dX7_back_74 : decode cX7_back 74 = .ok (.aaload, 1) := by decide +kernel
theorem dX7_back_75 : decode cX7_back 75 = .ok (.aload_n 0, 1) := by decide +kernel
theorem dX7_back_76 : decode cX7_back 76 = .ok (.getfield 49, 3) := by decide +kernel
theorem dX7_back_79 : decode cX7_back 79 = .ok (.getfield 258, 3) := by decide +kernel
theorem dX7_back_82 : decode cX7_back 82 = .ok (.iload_n 1, 1) := by decide +kernel
theorem dX7_back_83 : decode cX7_back 83 = .ok (.iaload, 1) := by decide +kernel
theorem dX7_back_84 : decode cX7_back 84 = .ok (.putfield 87, 3) := by decide +kernel
theorem dX7_back_87 : decode cX7_back 87 = .ok (.aload_n 0, 1) := by decide +kernel
theorem dX7_back_88 : decode cX7_back 88 = .ok (.getfield 11, 3) := by decide +kernel
theorem dX7_back_91 : decode cX7_back 91 = .ok (.iload_n 1, 1) := by decide +kernel
theorem dX7_back_92 : decode cX7_back 92 = .ok (.aaload, 1) := by decide +kernel
theorem dX7_back_93 : decode cX7_back 93 = .ok (.aload_n 0, 1) := by decide +kernel
theorem dX7_back_94 : decode cX7_back 94 = .ok (.getfield 49, 3) := by decide +kernel
theorem dX7_back_97 : decode cX7_back 97 = .ok (.getfield 262, 3) := by decide +kernel
theorem dX7_back_100 : decode cX7_back 100 = .ok (.iload_n 1, 1) := by decide +kernel
theorem dX7_back_101 : decode cX7_back 101 = .ok (.iaload, 1) := by decide +kernel
theorem dX7_back_102 : decode cX7_back 102 = .ok (.putfield 90, 3) := by decide +kernel
theorem dX7_back_105 : decode cX7_back 105 = .ok (.iinc 1 1, 3) := by decide +kernel
theorem dX7_back_108 : decode cX7_back 108 = .ok (.goto (-53), 3) := by decide +kernel
theorem dX7_back_111 : decode cX7_back 111 = .ok (.aload_n 0, 1) := by decide +kernel
theorem dX7_back_112 : decode cX7_back 112 = .ok (.getfield 77, 3) := by decide +kernel
theorem dX7_back_115 : decode cX7_back 115 = .ok (.ireturn, 1) := by decide +kernel
theorem dX7_count_0 : decode cX7_count 0 = .ok (.iload_n 1, 1) := by decide +kernel
theorem dX7_count_1 : decode cX7_count 1 = .ok (.tableswitch 72 0 4 #[35, 40, 48, 59, 67], 35) := by decide +kernel
theorem dX7_count_36 : decode cX7_count 36 = .ok (.aload_n 0, 1) := by decide +kernel
theorem dX7_count_37 : decode cX7_count 37 = .ok (.getfield 77, 3) := by decide +kernel
theorem dX7_count_40 : decode cX7_count 40 = .ok (.ireturn, 1) := by decide +kernel
theorem dX7_count_41 : decode cX7_count 41 = .ok (.aload_n 0, 1) := by decide +kernel
theorem dX7_count_42 : decode cX7_count 42 = .ok (.getfield 24, 3) := by decide +kernel
theorem dX7_count_45 : decode cX7_count 45 = .ok (.getfield 127, 3) := by decide +kernel
theorem dX7_count_48 : decode cX7_count 48 = .ok (.ireturn, 1) := by decide +kernel
theorem dX7_count_49 : decode cX7_count 49 = .ok (.aload_n 0, 1) := by decide +kernel
theorem dX7_count_50 : decode cX7_count 50 = .ok (.getfield 24, 3) := by decide +kernel
theorem dX7_count_53 : decode cX7_count 53 = .ok (.getfield 117, 3) := by decide +kernel
theorem dX7_count_56 : decode cX7_count 56 = .ok (.getfield 126, 3) := by decide +kernel
theorem dX7_count_59 : decode cX7_count 59 = .ok (.ireturn, 1) := by decide +kernel
theorem dX7_count_60 : decode cX7_count 60 = .ok (.aload_n 0, 1) := by decide +kernel
theorem dX7_count_61 : decode cX7_count 61 = .ok (.getfield 24, 3) := by decide +kernel
theorem dX7_count_64 : decode cX7_count 64 = .ok (.getfield 133, 3) := by decide +kernel
theorem dX7_count_67 : decode cX7_count 67 = .ok (.ireturn, 1) := by decide +kernel
theorem dX7_count_68 : decode cX7_count 68 = .ok (.aload_n 0, 1) := by decide +kernel
theorem dX7_count_69 : decode cX7_count 69 = .ok (.invokevirtual 265, 3) := by decide +kernel
theorem dX7_count_72 : decode cX7_count 72 = .ok (.ireturn, 1) := by decide +kernel
theorem dX7_count_73 : decode cX7_count 73 = .ok (.bipush (-2), 2) := by decide +kernel
theorem dX7_count_75 : decode cX7_count 75 = .ok (.ireturn, 1) := by decide +kernel
theorem dX7_kindsAsTold_0 : decode cX7_kindsAsTold 0 = .ok (.iconst 0, 1) := by decide +kernel
theorem dX7_kindsAsTold_1 : decode cX7_kindsAsTold 1 = .ok (.istore 4, 2) := by decide +kernel
theorem dX7_kindsAsTold_3 : decode cX7_kindsAsTold 3 = .ok (.aload_n 0, 1) := by decide +kernel
theorem dX7_kindsAsTold_4 : decode cX7_kindsAsTold 4 = .ok (.getfield 54, 3) := by decide +kernel
theorem dX7_kindsAsTold_7 : decode cX7_kindsAsTold 7 = .ok (.aload_n 2, 1) := by decide +kernel
theorem dX7_kindsAsTold_8 : decode cX7_kindsAsTold 8 = .ok (.invokevirtual 198, 3) := by decide +kernel
theorem dX7_kindsAsTold_11 : decode cX7_kindsAsTold 11 = .ok (.iconst 0, 1) := by decide +kernel
theorem dX7_kindsAsTold_12 : decode cX7_kindsAsTold 12 = .ok (.istore 5, 2) := by decide +kernel
theorem dX7_kindsAsTold_14 : decode cX7_kindsAsTold 14 = .ok (.iload 5, 2) := by decide +kernel
theorem dX7_kindsAsTold_16 : decode cX7_kindsAsTold 16 = .ok (.bipush 6, 2) := by decide +kernel
theorem dX7_kindsAsTold_18 : decode cX7_kindsAsTold 18 = .ok (.if_icmp .ge 44, 3) := by decide +kernel
theorem dX7_kindsAsTold_21 : decode cX7_kindsAsTold 21 = .ok (.aload_n 0, 1) := by decide +kernel
theorem dX7_kindsAsTold_22 : decode cX7_kindsAsTold 22 = .ok (.getfield 54, 3) := by decide +kernel
theorem dX7_kindsAsTold_25 : decode cX7_kindsAsTold 25 = .ok (.iload 5, 2) := by decide +kernel
theorem dX7_kindsAsTold_27 : decode cX7_kindsAsTold 27 = .ok (.putfield 84, 3) := by decide +kernel
theorem dX7_kindsAsTold_30 : decode cX7_kindsAsTold 30 = .ok (.aload_n 0, 1) := by decide +kernel
theorem dX7_kindsAsTold_31 : decode cX7_kindsAsTold 31 = .ok (.getfield 33, 3) := by decide +kernel
theorem dX7_kindsAsTold_34 : decode cX7_kindsAsTold 34 = .ok (.aload_n 1, 1) := by decide +kernel
theorem dX7_kindsAsTold_35 : decode cX7_kindsAsTold 35 = .ok (.aload_n 0, 1) := by decide +kernel
theorem dX7_kindsAsTold_36 : decode cX7_kindsAsTold 36 = .ok (.getfield 54, 3) := by decide +kernel
theorem dX7_kindsAsTold_39 : decode cX7_kindsAsTold 39 = .ok (.aload_n 3, 1) := by decide +kernel
theorem dX7_kindsAsTold_40 : decode cX7_kindsAsTold 40 = .ok (.invokevirtual 216, 3) := by decide +kernel
theorem dX7_kindsAsTold_43 : decode cX7_kindsAsTold 43 = .ok (.iconst (-1), 1) := by decide +kernel
theorem dX7_kindsAsTold_44 : decode cX7_kindsAsTold 44 = .ok (.if_icmp .ne 12, 3) := by decide +kernel
theorem dX7_kindsAsTold_47 : decode cX7_kindsAsTold 47 = .ok (.iload 4, 2) := by decide +kernel
theorem dX7_kindsAsTold_49 : decode cX7_kindsAsTold 49 = .ok (.iconst 1, 1) := by decide +kernel
theorem dX7_kindsAsTold_50 : decode cX7_kindsAsTold 50 = .ok (.iload 5, 2) := by decide +kernel
theorem dX7_kindsAsTold_52 : decode cX7_kindsAsTold 52 = .ok (.ishl, 1) := by decide +kernel
theorem dX7_kindsAsTold_53 : decode cX7_kindsAsTold 53 = .ok (.ior, 1) := by decide +kernel
theorem dX7_kindsAsTold_54 : decode cX7_kindsAsTold 54 = .ok (.istore 4, 2) := by decide +kernel
theorem dX7_kindsAsTold_56 : decode cX7_kindsAsTold 56 = .ok (.iinc 5 1, 3) := by decide +kernel
theorem dX7_kindsAsTold_59 : decode cX7_kindsAsTold 59 = .ok (.goto (-45), 3) := by decide +kernel
theorem dX7_kindsAsTold_62 : decode cX7_kindsAsTold 62 = .ok (.iload 4, 2) := by decide +kernel
theorem dX7_kindsAsTold_64 : decode cX7_kindsAsTold 64 = .ok (.ireturn, 1) := by decide +kernel
theorem dX7_moresAsTold_0 : decode cX7_moresAsTold 0 = .ok (.iconst 0, 1) := by decide +kernel
theorem dX7_moresAsTold_1 : decode cX7_moresAsTold 1 = .ok (.istore 4, 2) := by decide +kernel
theorem dX7_moresAsTold_3 : decode cX7_moresAsTold 3 = .ok (.aload_n 0, 1) := by decide +kernel
theorem dX7_moresAsTold_4 : decode cX7_moresAsTold 4 = .ok (.getfield 54, 3) := by decide +kernel
theorem dX7_moresAsTold_7 : decode cX7_moresAsTold 7 = .ok (.aload_n 2, 1) := by decide +kernel
theorem dX7_moresAsTold_8 : decode cX7_moresAsTold 8 = .ok (.invokevirtual 198, 3) := by decide +kernel
theorem dX7_moresAsTold_11 : decode cX7_moresAsTold 11 = .ok (.iconst 0, 1) := by decide +kernel
theorem dX7_moresAsTold_12 : decode cX7_moresAsTold 12 = .ok (.istore 5, 2) := by decide +kernel
theorem dX7_moresAsTold_14 : decode cX7_moresAsTold 14 = .ok (.iload 5, 2) := by decide +kernel
theorem dX7_moresAsTold_16 : decode cX7_moresAsTold 16 = .ok (.bipush 10, 2) := by decide +kernel
theorem dX7_moresAsTold_18 : decode cX7_moresAsTold 18 = .ok (.if_icmp .ge 44, 3) := by decide +kernel
theorem dX7_moresAsTold_21 : decode cX7_moresAsTold 21 = .ok (.aload_n 0, 1) := by decide +kernel
theorem dX7_moresAsTold_22 : decode cX7_moresAsTold 22 = .ok (.getfield 54, 3) := by decide +kernel
theorem dX7_moresAsTold_25 : decode cX7_moresAsTold 25 = .ok (.iload 5, 2) := by decide +kernel
theorem dX7_moresAsTold_27 : decode cX7_moresAsTold 27 = .ok (.putfield 87, 3) := by decide +kernel
theorem dX7_moresAsTold_30 : decode cX7_moresAsTold 30 = .ok (.aload_n 0, 1) := by decide +kernel
theorem dX7_moresAsTold_31 : decode cX7_moresAsTold 31 = .ok (.getfield 33, 3) := by decide +kernel
theorem dX7_moresAsTold_34 : decode cX7_moresAsTold 34 = .ok (.aload_n 1, 1) := by decide +kernel
theorem dX7_moresAsTold_35 : decode cX7_moresAsTold 35 = .ok (.aload_n 0, 1) := by decide +kernel
theorem dX7_moresAsTold_36 : decode cX7_moresAsTold 36 = .ok (.getfield 54, 3) := by decide +kernel
theorem dX7_moresAsTold_39 : decode cX7_moresAsTold 39 = .ok (.aload_n 3, 1) := by decide +kernel
theorem dX7_moresAsTold_40 : decode cX7_moresAsTold 40 = .ok (.invokevirtual 216, 3) := by decide +kernel
theorem dX7_moresAsTold_43 : decode cX7_moresAsTold 43 = .ok (.iconst (-1), 1) := by decide +kernel
theorem dX7_moresAsTold_44 : decode cX7_moresAsTold 44 = .ok (.if_icmp .ne 12, 3) := by decide +kernel
theorem dX7_moresAsTold_47 : decode cX7_moresAsTold 47 = .ok (.iload 4, 2) := by decide +kernel
theorem dX7_moresAsTold_49 : decode cX7_moresAsTold 49 = .ok (.iconst 1, 1) := by decide +kernel
theorem dX7_moresAsTold_50 : decode cX7_moresAsTold 50 = .ok (.iload 5, 2) := by decide +kernel
theorem dX7_moresAsTold_52 : decode cX7_moresAsTold 52 = .ok (.ishl, 1) := by decide +kernel
theorem dX7_moresAsTold_53 : decode cX7_moresAsTold 53 = .ok (.ior, 1) := by decide +kernel
theorem dX7_moresAsTold_54 : decode cX7_moresAsTold 54 = .ok (.istore 4, 2) := by decide +kernel
theorem dX7_moresAsTold_56 : decode cX7_moresAsTold 56 = .ok (.iinc 5 1, 3) := by decide +kernel
theorem dX7_moresAsTold_59 : decode cX7_moresAsTold 59 = .ok (.goto (-45), 3) := by decide +kernel
theorem dX7_moresAsTold_62 : decode cX7_moresAsTold 62 = .ok (.iload 4, 2) := by decide +kernel
theorem dX7_moresAsTold_64 : decode cX7_moresAsTold 64 = .ok (.ireturn, 1) := by decide +kernel
theorem dX7_textsAsTold_0 : decode cX7_textsAsTold 0 = .ok (.iconst 0, 1) := by decide +kernel
theorem dX7_textsAsTold_1 : decode cX7_textsAsTold 1 = .ok (.istore 4, 2) := by decide +kernel
theorem dX7_textsAsTold_3 : decode cX7_textsAsTold 3 = .ok (.aload_n 0, 1) := by decide +kernel
theorem dX7_textsAsTold_4 : decode cX7_textsAsTold 4 = .ok (.getfield 24, 3) := by decide +kernel
theorem dX7_textsAsTold_7 : decode cX7_textsAsTold 7 = .ok (.getfield 133, 3) := by decide +kernel
theorem dX7_textsAsTold_10 : decode cX7_textsAsTold 10 = .ok (.istore 5, 2) := by decide +kernel
theorem dX7_textsAsTold_12 : decode cX7_textsAsTold 12 = .ok (.iconst 0, 1) := by decide +kernel
theorem dX7_textsAsTold_13 : decode cX7_textsAsTold 13 = .ok (.istore 6, 2) := by decide +kernel
theorem dX7_textsAsTold_15 : decode cX7_textsAsTold 15 = .ok (.iload 6, 2) := by decide +kernel
theorem dX7_textsAsTold_17 : decode cX7_textsAsTold 17 = .ok (.aload_n 0, 1) := by decide +kernel
theorem dX7_textsAsTold_18 : decode cX7_textsAsTold 18 = .ok (.getfield 24, 3) := by decide +kernel
theorem dX7_textsAsTold_21 : decode cX7_textsAsTold 21 = .ok (.getfield 127, 3) := by decide +kernel
theorem dX7_textsAsTold_24 : decode cX7_textsAsTold 24 = .ok (.if_icmp .ge 41, 3) := by decide +kernel
theorem dX7_textsAsTold_27 : decode cX7_textsAsTold 27 = .ok (.aload_n 0, 1) := by decide +kernel
theorem dX7_textsAsTold_28 : decode cX7_textsAsTold 28 = .ok (.getfield 24, 3) := by decide +kernel
theorem dX7_textsAsTold_31 : decode cX7_textsAsTold 31 = .ok (.iload 6, 2) := by decide +kernel
theorem dX7_textsAsTold_33 : decode cX7_textsAsTold 33 = .ok (.putfield 133, 3) := by decide +kernel
theorem dX7_textsAsTold_36 : decode cX7_textsAsTold 36 = .ok (.aload_n 0, 1) := by decide +kernel
theorem dX7_textsAsTold_37 : decode cX7_textsAsTold 37 = .ok (.getfield 33, 3) := by decide +kernel
theorem dX7_textsAsTold_40 : decode cX7_textsAsTold 40 = .ok (.aload_n 1, 1) := by decide +kernel
theorem dX7_textsAsTold_41 : decode cX7_textsAsTold 41 = .ok (.aload_n 2, 1) := by decide +kernel
theorem dX7_textsAsTold_42 : decode cX7_textsAsTold 42 = .ok (.aload_n 3, 1) := by decide +kernel
theorem dX7_textsAsTold_43 : decode cX7_textsAsTold 43 = .ok (.invokevirtual 216, 3) := by decide +kernel
theorem dX7_textsAsTold_46 : decode cX7_textsAsTold 46 = .ok (.iconst (-1), 1) := by decide +kernel
theorem dX7_textsAsTold_47 : decode cX7_textsAsTold 47 = .ok (.if_icmp .ne 12, 3) := by decide +kernel
theorem dX7_textsAsTold_50 : decode cX7_textsAsTold 50 = .ok (.iload 4, 2) := by decide +kernel
theorem dX7_textsAsTold_52 : decode cX7_textsAsTold 52 = .ok (.iconst 1, 1) := by decide +kernel
theorem dX7_textsAsTold_53 : decode cX7_textsAsTold 53 = .ok (.iload 6, 2) := by decide +kernel
theorem dX7_textsAsTold_55 : decode cX7_textsAsTold 55 = .ok (.ishl, 1) := by decide +kernel
theorem dX7_textsAsTold_56 : decode cX7_textsAsTold 56 = .ok (.ior, 1) := by decide +kernel
theorem dX7_textsAsTold_57 : decode cX7_textsAsTold 57 = .ok (.istore 4, 2) := by decide +kernel
theorem dX7_textsAsTold_59 : decode cX7_textsAsTold 59 = .ok (.iinc 6 1, 3) := by decide +kernel
theorem dX7_textsAsTold_62 : decode cX7_textsAsTold 62 = .ok (.goto (-47), 3) := by decide +kernel
theorem dX7_textsAsTold_65 : decode cX7_textsAsTold 65 = .ok (.aload_n 0, 1) := by decide +kernel
theorem dX7_textsAsTold_66 : decode cX7_textsAsTold 66 = .ok (.getfield 24, 3) := by decide +kernel
theorem dX7_textsAsTold_69 : decode cX7_textsAsTold 69 = .ok (.iload 5, 2) := by decide +kernel
theorem dX7_textsAsTold_71 : decode cX7_textsAsTold 71 = .ok (.putfield 133, 3) := by decide +kernel
theorem dX7_textsAsTold_74 : decode cX7_textsAsTold 74 = .ok (.iload 4, 2) := by decide +kernel
theorem dX7_textsAsTold_76 : decode cX7_textsAsTold 76 = .ok (.ireturn, 1) := by decide +kernel
theorem dX7_numbersThatMust_0 : decode cX7_numbersThatMust 0 = .ok (.iconst 0, 1) := by decide +kernel
theorem dX7_numbersThatMust_1 : decode cX7_numbersThatMust 1 = .ok (.istore 4, 2) := by decide +kernel
theorem dX7_numbersThatMust_3 : decode cX7_numbersThatMust 3 = .ok (.aload_n 0, 1) := by decide +kernel
theorem dX7_numbersThatMust_4 : decode cX7_numbersThatMust 4 = .ok (.getfield 54, 3) := by decide +kernel
theorem dX7_numbersThatMust_7 : decode cX7_numbersThatMust 7 = .ok (.aload_n 2, 1) := by decide +kernel
theorem dX7_numbersThatMust_8 : decode cX7_numbersThatMust 8 = .ok (.invokevirtual 198, 3) := by decide +kernel
theorem dX7_numbersThatMust_11 : decode cX7_numbersThatMust 11 = .ok (.iconst 1, 1) := by decide +kernel
theorem dX7_numbersThatMust_12 : decode cX7_numbersThatMust 12 = .ok (.istore 5, 2) := by decide +kernel
theorem dX7_numbersThatMust_14 : decode cX7_numbersThatMust 14 = .ok (.iload 5, 2) := by decide +kernel
theorem dX7_numbersThatMust_16 : decode cX7_numbersThatMust 16 = .ok (.bipush 30, 2) := by decide +kernel
theorem dX7_numbersThatMust_18 : decode cX7_numbersThatMust 18 = .ok (.if_icmp .gt 67, 3) := by decide +kernel
theorem dX7_numbersThatMust_21 : decode cX7_numbersThatMust 21 = .ok (.aload_n 2, 1) := by decide +kernel
theorem dX7_numbersThatMust_22 : decode cX7_numbersThatMust 22 = .ok (.getfield 90, 3) := by decide +kernel
theorem dX7_numbersThatMust_25 : decode cX7_numbersThatMust 25 = .ok (.iload 5, 2) := by decide +kernel
theorem dX7_numbersThatMust_27 : decode cX7_numbersThatMust 27 = .ok (.invokestatic 97, 3) := by decide +kernel
theorem dX7_numbersThatMust_30 : decode cX7_numbersThatMust 30 = .ok (.ifCond .eq 49, 3) := by decide +kernel
theorem dX7_numbersThatMust_33 : decode cX7_numbersThatMust 33 = .ok (.aload_n 0, 1) := by decide +kernel
theorem dX7_numbersThatMust_34 : decode cX7_numbersThatMust 34 = .ok (.getfield 54, 3) := by decide +kernel
theorem dX7_numbersThatMust_37 : decode cX7_numbersThatMust 37 = .ok (.aload_n 2, 1) := by decide +kernel
theorem dX7_numbersThatMust_38 : decode cX7_numbersThatMust 38 = .ok (.getfield 90, 3) := by decide +kernel
theorem dX7_numbersThatMust_41 : decode cX7_numbersThatMust 41 = .ok (.iload 5, 2) := by decide +kernel
theorem dX7_numbersThatMust_43 : decode cX7_numbersThatMust 43 = .ok (.invokestatic 101, 3) := by decide +kernel
theorem dX7_numbersThatMust_46 : decode cX7_numbersThatMust 46 = .ok (.iconst (-1), 1) := by decide +kernel
theorem dX7_numbersThatMust_47 : decode cX7_numbersThatMust 47 = .ok (.ixor, 1) := by decide +kernel
theorem dX7_numbersThatMust_48 : decode cX7_numbersThatMust 48 = .ok (.iand, 1) := by decide +kernel
theorem dX7_numbersThatMust_49 : decode cX7_numbersThatMust 49 = .ok (.putfield 90, 3) := by decide +kernel
theorem dX7_numbersThatMust_52 : decode cX7_numbersThatMust 52 = .ok (.aload_n 0, 1) := by decide +kernel
theorem dX7_numbersThatMust_53 : decode cX7_numbersThatMust 53 = .ok (.getfield 33, 3) := by decide +kernel
theorem dX7_numbersThatMust_56 : decode cX7_numbersThatMust 56 = .ok (.aload_n 1, 1) := by decide +kernel
theorem dX7_numbersThatMust_57 : decode cX7_numbersThatMust 57 = .ok (.aload_n 0, 1) := by decide +kernel
theorem dX7_numbersThatMust_58 : decode cX7_numbersThatMust 58 = .ok (.getfield 54, 3) := by decide +kernel
theorem dX7_numbersThatMust_61 : decode cX7_numbersThatMust 61 = .ok (.aload_n 3, 1) := by decide +kernel
theorem dX7_numbersThatMust_62 : decode cX7_numbersThatMust 62 = .ok (.invokevirtual 216, 3) := by decide +kernel
theorem dX7_numbersThatMust_65 : decode cX7_numbersThatMust 65 = .ok (.iconst (-1), 1) := by decide +kernel
theorem dX7_numbersThatMust_66 : decode cX7_numbersThatMust 66 = .ok (.if_icmp .eq 13, 3) := by decide +kernel
theorem dX7_numbersThatMust_69 : decode cX7_numbersThatMust 69 = .ok (.iload 4, 2) := by decide +kernel
theorem dX7_numbersThatMust_71 : decode cX7_numbersThatMust 71 = .ok (.iload 5, 2) := by decide +kernel
theorem dX7_numbersThatMust_73 : decode cX7_numbersThatMust 73 = .ok (.invokestatic 101, 3) := by decide +kernel
theorem dX7_numbersThatMust_76 : decode cX7_numbersThatMust 76 = .ok (.ior, 1) := by decide +kernel
theorem dX7_numbersThatMust_77 : decode cX7_numbersThatMust 77 = .ok (.istore 4, 2) := by decide +kernel
theorem dX7_numbersThatMust_79 : decode cX7_numbersThatMust 79 = .ok (.iinc 5 1, 3) := by decide +kernel
theorem dX7_numbersThatMust_82 : decode cX7_numbersThatMust 82 = .ok (.goto (-68), 3) := by decide +kernel
theorem dX7_numbersThatMust_85 : decode cX7_numbersThatMust 85 = .ok (.iload 4, 2) := by decide +kernel
theorem dX7_numbersThatMust_87 : decode cX7_numbersThatMust 87 = .ok (.ireturn, 1) := by decide +kernel
theorem dX7_numbersThatMay_0 : decode cX7_numbersThatMay 0 = .ok (.iconst 0, 1) := by decide +kernel
theorem dX7_numbersThatMay_1 : decode cX7_numbersThatMay 1 = .ok (.istore 4, 2) := by decide +kernel
theorem dX7_numbersThatMay_3 : decode cX7_numbersThatMay 3 = .ok (.aload_n 0, 1) := by decide +kernel
theorem dX7_numbersThatMay_4 : decode cX7_numbersThatMay 4 = .ok (.getfield 54, 3) := by decide +kernel
theorem dX7_numbersThatMay_7 : decode cX7_numbersThatMay 7 = .ok (.aload_n 2, 1) := by decide +kernel
theorem dX7_numbersThatMay_8 : decode cX7_numbersThatMay 8 = .ok (.invokevirtual 198, 3) := by decide +kernel
theorem dX7_numbersThatMay_11 : decode cX7_numbersThatMay 11 = .ok (.iconst 1, 1) := by decide +kernel
theorem dX7_numbersThatMay_12 : decode cX7_numbersThatMay 12 = .ok (.istore 5, 2) := by decide +kernel
theorem dX7_numbersThatMay_14 : decode cX7_numbersThatMay 14 = .ok (.iload 5, 2) := by decide +kernel
theorem dX7_numbersThatMay_16 : decode cX7_numbersThatMay 16 = .ok (.bipush 30, 2) := by decide +kernel
theorem dX7_numbersThatMay_18 : decode cX7_numbersThatMay 18 = .ok (.if_icmp .gt 65, 3) := by decide +kernel
theorem dX7_numbersThatMay_21 : decode cX7_numbersThatMay 21 = .ok (.aload_n 2, 1) := by decide +kernel
theorem dX7_numbersThatMay_22 : decode cX7_numbersThatMay 22 = .ok (.getfield 90, 3) := by decide +kernel
theorem dX7_numbersThatMay_25 : decode cX7_numbersThatMay 25 = .ok (.iload 5, 2) := by decide +kernel
theorem dX7_numbersThatMay_27 : decode cX7_numbersThatMay 27 = .ok (.invokestatic 97, 3) := by decide +kernel
theorem dX7_numbersThatMay_30 : decode cX7_numbersThatMay 30 = .ok (.ifCond .ne 47, 3) := by decide +kernel
theorem dX7_numbersThatMay_33 : decode cX7_numbersThatMay 33 = .ok (.aload_n 0, 1) := by decide +kernel
theorem dX7_numbersThatMay_34 : decode cX7_numbersThatMay 34 = .ok (.getfield 54, 3) := by decide +kernel
theorem dX7_numbersThatMay_37 : decode cX7_numbersThatMay 37 = .ok (.aload_n 2, 1) := by decide +kernel
theorem dX7_numbersThatMay_38 : decode cX7_numbersThatMay 38 = .ok (.getfield 90, 3) := by decide +kernel
theorem dX7_numbersThatMay_41 : decode cX7_numbersThatMay 41 = .ok (.iload 5, 2) := by decide +kernel
theorem dX7_numbersThatMay_43 : decode cX7_numbersThatMay 43 = .ok (.invokestatic 101, 3) := by decide +kernel
theorem dX7_numbersThatMay_46 : decode cX7_numbersThatMay 46 = .ok (.ior, 1) := by decide +kernel
theorem dX7_numbersThatMay_47 : decode cX7_numbersThatMay 47 = .ok (.putfield 90, 3) := by decide +kernel
theorem dX7_numbersThatMay_50 : decode cX7_numbersThatMay 50 = .ok (.aload_n 0, 1) := by decide +kernel
theorem dX7_numbersThatMay_51 : decode cX7_numbersThatMay 51 = .ok (.getfield 33, 3) := by decide +kernel
theorem dX7_numbersThatMay_54 : decode cX7_numbersThatMay 54 = .ok (.aload_n 1, 1) := by decide +kernel
theorem dX7_numbersThatMay_55 : decode cX7_numbersThatMay 55 = .ok (.aload_n 0, 1) := by decide +kernel
theorem dX7_numbersThatMay_56 : decode cX7_numbersThatMay 56 = .ok (.getfield 54, 3) := by decide +kernel
theorem dX7_numbersThatMay_59 : decode cX7_numbersThatMay 59 = .ok (.aload_n 3, 1) := by decide +kernel
theorem dX7_numbersThatMay_60 : decode cX7_numbersThatMay 60 = .ok (.invokevirtual 216, 3) := by decide +kernel
theorem dX7_numbersThatMay_63 : decode cX7_numbersThatMay 63 = .ok (.iconst (-1), 1) := by decide +kernel
theorem dX7_numbersThatMay_64 : decode cX7_numbersThatMay 64 = .ok (.if_icmp .ne 13, 3) := by decide +kernel
theorem dX7_numbersThatMay_67 : decode cX7_numbersThatMay 67 = .ok (.iload 4, 2) := by decide +kernel
theorem dX7_numbersThatMay_69 : decode cX7_numbersThatMay 69 = .ok (.iload 5, 2) := by decide +kernel
theorem dX7_numbersThatMay_71 : decode cX7_numbersThatMay 71 = .ok (.invokestatic 101, 3) := by decide +kernel
theorem dX7_numbersThatMay_74 : decode cX7_numbersThatMay 74 = .ok (.ior, 1) := by decide +kernel
theorem dX7_numbersThatMay_75 : decode cX7_numbersThatMay 75 = .ok (.istore 4, 2) := by decide +kernel
theorem dX7_numbersThatMay_77 : decode cX7_numbersThatMay 77 = .ok (.iinc 5 1, 3) := by decide +kernel
theorem dX7_numbersThatMay_80 : decode cX7_numbersThatMay 80 = .ok (.goto (-66), 3) := by decide +kernel
theorem dX7_numbersThatMay_83 : decode cX7_numbersThatMay 83 = .ok (.iload 4, 2) := by decide +kernel
theorem dX7_numbersThatMay_85 : decode cX7_numbersThatMay 85 = .ok (.ireturn, 1) := by decide +kernel
theorem dX7_payableIfDrawn_0 : decode cX7_payableIfDrawn 0 = .ok (.aload_n 0, 1) := by decide +kernel
theorem dX7_payableIfDrawn_1 : decode cX7_payableIfDrawn 1 = .ok (.getfield 54, 3) := by decide +kernel
theorem dX7_payableIfDrawn_4 : decode cX7_payableIfDrawn 4 = .ok (.aload_n 2, 1) := by decide +kernel
theorem dX7_payableIfDrawn_5 : decode cX7_payableIfDrawn 5 = .ok (.invokevirtual 198, 3) := by decide +kernel
theorem dX7_payableIfDrawn_8 : decode cX7_payableIfDrawn 8 = .ok (.aload_n 0, 1) := by decide +kernel
theorem dX7_payableIfDrawn_9 : decode cX7_payableIfDrawn 9 = .ok (.getfield 58, 3) := by decide +kernel
theorem dX7_payableIfDrawn_12 : decode cX7_payableIfDrawn 12 = .ok (.aload_n 3, 1) := by decide +kernel
theorem dX7_payableIfDrawn_13 : decode cX7_payableIfDrawn 13 = .ok (.invokevirtual 198, 3) := by decide +kernel
theorem dX7_payableIfDrawn_16 : decode cX7_payableIfDrawn 16 = .ok (.aload_n 0, 1) := by decide +kernel
theorem dX7_payableIfDrawn_17 : decode cX7_payableIfDrawn 17 = .ok (.getfield 54, 3) := by decide +kernel
theorem dX7_payableIfDrawn_20 : decode cX7_payableIfDrawn 20 = .ok (.iload_n 1, 1) := by decide +kernel
theorem dX7_payableIfDrawn_21 : decode cX7_payableIfDrawn 21 = .ok (.invokevirtual 268, 3) := by decide +kernel
theorem dX7_payableIfDrawn_24 : decode cX7_payableIfDrawn 24 = .ok (.istore 4, 2) := by decide +kernel
theorem dX7_payableIfDrawn_26 : decode cX7_payableIfDrawn 26 = .ok (.aload_n 0, 1) := by decide +kernel
theorem dX7_payableIfDrawn_27 : decode cX7_payableIfDrawn 27 = .ok (.getfield 58, 3) := by decide +kernel
theorem dX7_payableIfDrawn_30 : decode cX7_payableIfDrawn 30 = .ok (.iload 4, 2) := by decide +kernel
theorem dX7_payableIfDrawn_32 : decode cX7_payableIfDrawn 32 = .ok (.invokevirtual 268, 3) := by decide +kernel
theorem dX7_payableIfDrawn_35 : decode cX7_payableIfDrawn 35 = .ok (.pop, 1) := by decide +kernel
theorem dX7_payableIfDrawn_36 : decode cX7_payableIfDrawn 36 = .ok (.aload_n 0, 1) := by decide +kernel
theorem dX7_payableIfDrawn_37 : decode cX7_payableIfDrawn 37 = .ok (.getfield 33, 3) := by decide +kernel
theorem dX7_payableIfDrawn_40 : decode cX7_payableIfDrawn 40 = .ok (.aload_n 0, 1) := by decide +kernel
theorem dX7_payableIfDrawn_41 : decode cX7_payableIfDrawn 41 = .ok (.getfield 54, 3) := by decide +kernel
theorem dX7_payableIfDrawn_44 : decode cX7_payableIfDrawn 44 = .ok (.aload_n 0, 1) := by decide +kernel
theorem dX7_payableIfDrawn_45 : decode cX7_payableIfDrawn 45 = .ok (.getfield 58, 3) := by decide +kernel
theorem dX7_payableIfDrawn_48 : decode cX7_payableIfDrawn 48 = .ok (.invokevirtual 202, 3) := by decide +kernel
theorem dX7_payableIfDrawn_51 : decode cX7_payableIfDrawn 51 = .ok (.ireturn, 1) := by decide +kernel
theorem dX7_commonMeasure_0 : decode cX7_commonMeasure 0 = .ok (.iload_n 0, 1) := by decide +kernel
theorem dX7_commonMeasure_1 : decode cX7_commonMeasure 1 = .ok (.istore_n 2, 1) := by decide +kernel
theorem dX7_commonMeasure_2 : decode cX7_commonMeasure 2 = .ok (.iload_n 1, 1) := by decide +kernel
theorem dX7_commonMeasure_3 : decode cX7_commonMeasure 3 = .ok (.istore_n 3, 1) := by decide +kernel
theorem dX7_commonMeasure_4 : decode cX7_commonMeasure 4 = .ok (.iconst 0, 1) := by decide +kernel
theorem dX7_commonMeasure_5 : decode cX7_commonMeasure 5 = .ok (.istore 4, 2) := by decide +kernel
theorem dX7_commonMeasure_7 : decode cX7_commonMeasure 7 = .ok (.iload 4, 2) := by decide +kernel
theorem dX7_commonMeasure_9 : decode cX7_commonMeasure 9 = .ok (.bipush 20, 2) := by decide +kernel
theorem dX7_commonMeasure_11 : decode cX7_commonMeasure 11 = .ok (.if_icmp .ge 23, 3) := by decide +kernel
theorem dX7_commonMeasure_14 : decode cX7_commonMeasure 14 = .ok (.iload_n 3, 1) := by decide +kernel
theorem dX7_commonMeasure_15 : decode cX7_commonMeasure 15 = .ok (.ifCond .eq 19, 3) := by decide +kernel
theorem dX7_commonMeasure_18 : decode cX7_commonMeasure 18 = .ok (.iload_n 2, 1) := by decide +kernel
theorem dX7_commonMeasure_19 : decode cX7_commonMeasure 19 = .ok (.iload_n 3, 1) := by decide +kernel
theorem dX7_commonMeasure_20 : decode cX7_commonMeasure 20 = .ok (.irem, 1) := by decide +kernel
theorem dX7_commonMeasure_21 : decode cX7_commonMeasure 21 = .ok (.istore 5, 2) := by decide +kernel
theorem dX7_commonMeasure_23 : decode cX7_commonMeasure 23 = .ok (.iload_n 3, 1) := by decide +kernel
theorem dX7_commonMeasure_24 : decode cX7_commonMeasure 24 = .ok (.istore_n 2, 1) := by decide +kernel
theorem dX7_commonMeasure_25 : decode cX7_commonMeasure 25 = .ok (.iload 5, 2) := by decide +kernel
theorem dX7_commonMeasure_27 : decode cX7_commonMeasure 27 = .ok (.istore_n 3, 1) := by decide +kernel
theorem dX7_commonMeasure_28 : decode cX7_commonMeasure 28 = .ok (.iinc 4 1, 3) := by decide +kernel
theorem dX7_commonMeasure_31 : decode cX7_commonMeasure 31 = .ok (.goto (-24), 3) := by decide +kernel
theorem dX7_commonMeasure_34 : decode cX7_commonMeasure 34 = .ok (.iload_n 2, 1) := by decide +kernel
theorem dX7_commonMeasure_35 : decode cX7_commonMeasure 35 = .ok (.ireturn, 1) := by decide +kernel
theorem dX7_allOwn_0 : decode cX7_allOwn 0 = .ok (.iconst 0, 1) := by decide +kernel
theorem dX7_allOwn_1 : decode cX7_allOwn 1 = .ok (.istore_n 1, 1) := by decide +kernel
theorem dX7_allOwn_2 : decode cX7_allOwn 2 = .ok (.iconst 0, 1) := by decide +kernel
theorem dX7_allOwn_3 : decode cX7_allOwn 3 = .ok (.istore_n 2, 1) := by decide +kernel
theorem dX7_allOwn_4 : decode cX7_allOwn 4 = .ok (.iload_n 2, 1) := by decide +kernel
theorem dX7_allOwn_5 : decode cX7_allOwn 5 = .ok (.aload_n 0, 1) := by decide +kernel
theorem dX7_allOwn_6 : decode cX7_allOwn 6 = .ok (.getfield 77, 3) := by decide +kernel
theorem dX7_allOwn_9 : decode cX7_allOwn 9 = .ok (.if_icmp .ge 30, 3) := by decide +kernel
theorem dX7_allOwn_12 : decode cX7_allOwn 12 = .ok (.iload_n 2, 1) := by decide +kernel
theorem dX7_allOwn_13 : decode cX7_allOwn 13 = .ok (.bipush 6, 2) := by decide +kernel
theorem dX7_allOwn_15 : decode cX7_allOwn 15 = .ok (.if_icmp .ge 24, 3) := by decide +kernel
theorem dX7_allOwn_18 : decode cX7_allOwn 18 = .ok (.iload_n 1, 1) := by decide +kernel
theorem dX7_allOwn_19 : decode cX7_allOwn 19 = .ok (.aload_n 0, 1) := by decide +kernel
theorem dX7_allOwn_20 : decode cX7_allOwn 20 = .ok (.getfield 11, 3) := by decide +kernel
theorem dX7_allOwn_23 : decode cX7_allOwn 23 = .ok (.iload_n 2, 1) := by decide +kernel
theorem dX7_allOwn_24 : decode cX7_allOwn 24 = .ok (.aaload, 1) := by decide +kernel
theorem dX7_allOwn_25 : decode cX7_allOwn 25 = .ok (.getfield 90, 3) := by decide +kernel
theorem dX7_allOwn_28 : decode cX7_allOwn 28 = .ok (.invokestatic 104, 3) := by decide +kernel
theorem dX7_allOwn_31 : decode cX7_allOwn 31 = .ok (.iadd, 1) := by decide +kernel
theorem dX7_allOwn_32 : decode cX7_allOwn 32 = .ok (.istore_n 1, 1) := by decide +kernel
theorem dX7_allOwn_33 : decode cX7_allOwn 33 = .ok (.iinc 2 1, 3) := by decide +kernel
theorem dX7_allOwn_36 : decode cX7_allOwn 36 = .ok (.goto (-32), 3) := by decide +kernel
theorem dX7_allOwn_39 : decode cX7_allOwn 39 = .ok (.iload_n 1, 1) := by decide +kernel
theorem dX7_allOwn_40 : decode cX7_allOwn 40 = .ok (.ireturn, 1) := by decide +kernel
theorem dX7_sheet_0 : decode cX7_sheet 0 = .ok (.aload_n 0, 1) := by decide +kernel
theorem dX7_sheet_1 : decode cX7_sheet 1 = .ok (.iload_n 1, 1) := by decide +kernel
theorem dX7_sheet_2 : decode cX7_sheet 2 = .ok (.invokevirtual 205, 3) := by decide +kernel
theorem dX7_sheet_5 : decode cX7_sheet 5 = .ok (.astore 4, 2) := by decide +kernel
theorem dX7_sheet_7 : decode cX7_sheet 7 = .ok (.aload 4, 2) := by decide +kernel
theorem dX7_sheet_9 : decode cX7_sheet 9 = .ok (.ifnull 13, 3) := by decide +kernel
theorem dX7_sheet_12 : decode cX7_sheet 12 = .ok (.iload_n 2, 1) := by decide +kernel
theorem dX7_sheet_13 : decode cX7_sheet 13 = .ok (.iconst (-1), 1) := by decide +kernel
theorem dX7_sheet_14 : decode cX7_sheet 14 = .ok (.if_icmp .lt 8, 3) := by decide +kernel
theorem dX7_sheet_17 : decode cX7_sheet 17 = .ok (.iload_n 2, 1) := by decide +kernel
theorem dX7_sheet_18 : decode cX7_sheet 18 = .ok (.iconst 2, 1) := by decide +kernel
theorem dX7_sheet_19 : decode cX7_sheet 19 = .ok (.if_icmp .le 6, 3) := by decide +kernel
theorem dX7_sheet_22 : decode cX7_sheet 22 = .ok (.bipush (-2), 2) := by decide +kernel
theorem dX7_sheet_24 : decode cX7_sheet 24 = .ok (.ireturn, 1) := by decide +kernel
theorem dX7_sheet_25 : decode cX7_sheet 25 = .ok (.iload_n 2, 1) := by decide +kernel
theorem dX7_sheet_26 : decode cX7_sheet 26 = .ok (.iconst (-1), 1) := by decide +kernel
theorem dX7_sheet_27 : decode cX7_sheet 27 = .ok (.if_icmp .ne 12, 3) := by decide +kernel
theorem dX7_sheet_30 : decode cX7_sheet 30 = .ok (.aload 4, 2) := by decide +kernel
theorem dX7_sheet_32 : decode cX7_sheet 32 = .ok (.iconst (-1), 1) := by decide +kernel
theorem dX7_sheet_33 : decode cX7_sheet 33 = .ok (.iconst 0, 1) := by decide +kernel
theorem dX7_sheet_34 : decode cX7_sheet 34 = .ok (.invokevirtual 241, 3) := by decide +kernel
theorem dX7_sheet_37 : decode cX7_sheet 37 = .ok (.iconst 1, 1) := by decide +kernel
theorem dX7_sheet_38 : decode cX7_sheet 38 = .ok (.ireturn, 1) := by decide +kernel
theorem dX7_sheet_39 : decode cX7_sheet 39 = .ok (.iload_n 3, 1) := by decide +kernel
theorem dX7_sheet_40 : decode cX7_sheet 40 = .ok (.bipush 40, 2) := by decide +kernel
theorem dX7_sheet_42 : decode cX7_sheet 42 = .ok (.if_icmp .le 6, 3) := by decide +kernel
theorem dX7_sheet_45 : decode cX7_sheet 45 = .ok (.bipush (-2), 2) := by decide +kernel
theorem dX7_sheet_47 : decode cX7_sheet 47 = .ok (.ireturn, 1) := by decide +kernel
theorem dX7_sheet_48 : decode cX7_sheet 48 = .ok (.iload_n 3, 1) := by decide +kernel
theorem dX7_sheet_49 : decode cX7_sheet 49 = .ok (.ifCond .ge 6, 3) := by decide +kernel
theorem dX7_sheet_52 : decode cX7_sheet 52 = .ok (.bipush (-14), 2) := by decide +kernel
theorem dX7_sheet_54 : decode cX7_sheet 54 = .ok (.ireturn, 1) := by decide +kernel
theorem dX7_sheet_55 : decode cX7_sheet 55 = .ok (.aload 4, 2) := by decide +kernel
theorem dX7_sheet_57 : decode cX7_sheet 57 = .ok (.iload_n 2, 1) := by decide +kernel
theorem dX7_sheet_58 : decode cX7_sheet 58 = .ok (.iload_n 3, 1) := by decide +kernel
theorem dX7_sheet_59 : decode cX7_sheet 59 = .ok (.invokevirtual 241, 3) := by decide +kernel
theorem dX7_sheet_62 : decode cX7_sheet 62 = .ok (.iconst 1, 1) := by decide +kernel
theorem dX7_sheet_63 : decode cX7_sheet 63 = .ok (.ireturn, 1) := by decide +kernel
theorem dX7_cell_0 : decode cX7_cell 0 = .ok (.aload_n 0, 1) := by decide +kernel
theorem dX7_cell_1 : decode cX7_cell 1 = .ok (.iload_n 1, 1) := by decide +kernel
theorem dX7_cell_2 : decode cX7_cell 2 = .ok (.invokevirtual 205, 3) := by decide +kernel
theorem dX7_cell_5 : decode cX7_cell 5 = .ok (.astore 4, 2) := by decide +kernel
theorem dX7_cell_7 : decode cX7_cell 7 = .ok (.aload 4, 2) := by decide +kernel
theorem dX7_cell_9 : decode cX7_cell 9 = .ok (.ifnonnull 6, 3) := by decide +kernel
theorem dX7_cell_12 : decode cX7_cell 12 = .ok (.bipush (-2), 2) := by decide +kernel
theorem dX7_cell_14 : decode cX7_cell 14 = .ok (.ireturn, 1) := by decide +kernel
theorem dX7_cell_15 : decode cX7_cell 15 = .ok (.aload 4, 2) := by decide +kernel
theorem dX7_cell_17 : decode cX7_cell 17 = .ok (.getfield 209, 3) := by decide +kernel
theorem dX7_cell_20 : decode cX7_cell 20 = .ok (.iconst (-1), 1) := by decide +kernel
theorem dX7_cell_21 : decode cX7_cell 21 = .ok (.if_icmp .ne 6, 3) := by decide +kernel
theorem dX7_cell_24 : decode cX7_cell 24 = .ok (.bipush (-11), 2) := by decide +kernel
theorem dX7_cell_26 : decode cX7_cell 26 = .ok (.ireturn, 1) := by decide +kernel
theorem dX7_cell_27 : decode cX7_cell 27 = .ok (.aload 4, 2) := by decide +kernel
theorem dX7_cell_29 : decode cX7_cell 29 = .ok (.iload_n 2, 1) := by decide +kernel
theorem dX7_cell_30 : decode cX7_cell 30 = .ok (.invokevirtual 271, 3) := by decide +kernel
theorem dX7_cell_33 : decode cX7_cell 33 = .ok (.ifCond .ne 6, 3) := by decide +kernel
theorem dX7_cell_36 : decode cX7_cell 36 = .ok (.bipush (-12), 2) := by decide +kernel
theorem dX7_cell_38 : decode cX7_cell 38 = .ok (.ireturn, 1) := by decide +kernel
theorem dX7_cell_39 : decode cX7_cell 39 = .ok (.aload 4, 2) := by decide +kernel
theorem dX7_cell_41 : decode cX7_cell 41 = .ok (.iload_n 2, 1) := by decide +kernel
theorem dX7_cell_42 : decode cX7_cell 42 = .ok (.iload_n 3, 1) := by decide +kernel
theorem dX7_cell_43 : decode cX7_cell 43 = .ok (.invokevirtual 244, 3) := by decide +kernel
theorem dX7_cell_46 : decode cX7_cell 46 = .ok (.iconst 1, 1) := by decide +kernel
theorem dX7_cell_47 : decode cX7_cell 47 = .ok (.ireturn, 1) := by decide +kernel
theorem dX7_copy_0 : decode cX7_copy 0 = .ok (.aload_n 0, 1) := by decide +kernel
theorem dX7_copy_1 : decode cX7_copy 1 = .ok (.iload_n 1, 1) := by decide +kernel
theorem dX7_copy_2 : decode cX7_copy 2 = .ok (.invokevirtual 205, 3) := by decide +kernel
theorem dX7_copy_5 : decode cX7_copy 5 = .ok (.astore 6, 2) := by decide +kernel
theorem dX7_copy_7 : decode cX7_copy 7 = .ok (.aload_n 0, 1) := by decide +kernel
theorem dX7_copy_8 : decode cX7_copy 8 = .ok (.iload_n 3, 1) := by decide +kernel
theorem dX7_copy_9 : decode cX7_copy 9 = .ok (.invokevirtual 205, 3) := by decide +kernel
theorem dX7_copy_12 : decode cX7_copy 12 = .ok (.astore 7, 2) := by decide +kernel
theorem dX7_copy_14 : decode cX7_copy 14 = .ok (.aload 6, 2) := by decide +kernel
theorem dX7_copy_16 : decode cX7_copy 16 = .ok (.ifnull 8, 3) := by decide +kernel
theorem dX7_copy_19 : decode cX7_copy 19 = .ok (.aload 7, 2) := by decide +kernel
theorem dX7_copy_21 : decode cX7_copy 21 = .ok (.ifnonnull 6, 3) := by decide +kernel
theorem dX7_copy_24 : decode cX7_copy 24 = .ok (.bipush (-2), 2) := by decide +kernel
theorem dX7_copy_26 : decode cX7_copy 26 = .ok (.ireturn, 1) := by decide +kernel
theorem dX7_copy_27 : decode cX7_copy 27 = .ok (.aload 6, 2) := by decide +kernel
theorem dX7_copy_29 : decode cX7_copy 29 = .ok (.getfield 209, 3) := by decide +kernel
theorem dX7_copy_32 : decode cX7_copy 32 = .ok (.iconst (-1), 1) := by decide +kernel
theorem dX7_copy_33 : decode cX7_copy 33 = .ok (.if_icmp .eq 12, 3) := by decide +kernel
theorem dX7_copy_36 : decode cX7_copy 36 = .ok (.aload 7, 2) := by decide +kernel
theorem dX7_copy_38 : decode cX7_copy 38 = .ok (.getfield 209, 3) := by decide +kernel
theorem dX7_copy_41 : decode cX7_copy 41 = .ok (.iconst (-1), 1) := by decide +kernel
theorem dX7_copy_42 : decode cX7_copy 42 = .ok (.if_icmp .ne 6, 3) := by decide +kernel
theorem dX7_copy_45 : decode cX7_copy 45 = .ok (.bipush (-11), 2) := by decide +kernel
theorem dX7_copy_47 : decode cX7_copy 47 = .ok (.ireturn, 1) := by decide +kernel
theorem dX7_copy_48 : decode cX7_copy 48 = .ok (.aload 6, 2) := by decide +kernel
theorem dX7_copy_50 : decode cX7_copy 50 = .ok (.getfield 209, 3) := by decide +kernel
theorem dX7_copy_53 : decode cX7_copy 53 = .ok (.aload 7, 2) := by decide +kernel
theorem dX7_copy_55 : decode cX7_copy 55 = .ok (.getfield 209, 3) := by decide +kernel
theorem dX7_copy_58 : decode cX7_copy 58 = .ok (.if_icmp .eq 6, 3) := by decide +kernel
theorem dX7_copy_61 : decode cX7_copy 61 = .ok (.bipush (-13), 2) := by decide +kernel
theorem dX7_copy_63 : decode cX7_copy 63 = .ok (.ireturn, 1) := by decide +kernel
theorem dX7_copy_64 : decode cX7_copy 64 = .ok (.aload 6, 2) := by decide +kernel
theorem dX7_copy_66 : decode cX7_copy 66 = .ok (.iload_n 2, 1) := by decide +kernel
theorem dX7_copy_67 : decode cX7_copy 67 = .ok (.iload 5, 2) := by decide +kernel
theorem dX7_copy_69 : decode cX7_copy 69 = .ok (.invokevirtual 274, 3) := by decide +kernel
theorem dX7_copy_72 : decode cX7_copy 72 = .ok (.ifCond .eq 15, 3) := by decide +kernel
theorem dX7_copy_75 : decode cX7_copy 75 = .ok (.aload 7, 2) := by decide +kernel
theorem dX7_copy_77 : decode cX7_copy 77 = .ok (.iload 4, 2) := by decide +kernel
theorem dX7_copy_79 : decode cX7_copy 79 = .ok (.iload 5, 2) := by decide +kernel
theorem dX7_copy_81 : decode cX7_copy 81 = .ok (.invokevirtual 274, 3) := by decide +kernel
theorem dX7_copy_84 : decode cX7_copy 84 = .ok (.ifCond .ne 6, 3) := by decide +kernel
theorem dX7_copy_87 : decode cX7_copy 87 = .ok (.bipush (-12), 2) := by decide +kernel
theorem dX7_copy_89 : decode cX7_copy 89 = .ok (.ireturn, 1) := by decide +kernel
theorem dX7_copy_90 : decode cX7_copy 90 = .ok (.aload 6, 2) := by decide +kernel
theorem dX7_copy_92 : decode cX7_copy 92 = .ok (.getfield 277, 3) := by decide +kernel
theorem dX7_copy_95 : decode cX7_copy 95 = .ok (.iload_n 2, 1) := by decide +kernel
theorem dX7_copy_96 : decode cX7_copy 96 = .ok (.aload 7, 2) := by decide +kernel
theorem dX7_copy_98 : decode cX7_copy 98 = .ok (.getfield 277, 3) := by decide +kernel
theorem dX7_copy_101 : decode cX7_copy 101 = .ok (.iload 4, 2) := by decide +kernel
theorem dX7_copy_103 : decode cX7_copy 103 = .ok (.iload 5, 2) := by decide +kernel
theorem dX7_copy_105 : decode cX7_copy 105 = .ok (.invokestatic 280, 3) := by decide +kernel
theorem dX7_copy_108 : decode cX7_copy 108 = .ok (.iload 5, 2) := by decide +kernel
theorem dX7_copy_110 : decode cX7_copy 110 = .ok (.ireturn, 1) := by decide +kernel
theorem dX7_heirs_0 : decode cX7_heirs 0 = .ok (.aload_n 0, 1) := by decide +kernel
theorem dX7_heirs_1 : decode cX7_heirs 1 = .ok (.iload_n 1, 1) := by decide +kernel
theorem dX7_heirs_2 : decode cX7_heirs 2 = .ok (.invokevirtual 205, 3) := by decide +kernel
theorem dX7_heirs_5 : decode cX7_heirs 5 = .ok (.astore 5, 2) := by decide +kernel
theorem dX7_heirs_7 : decode cX7_heirs 7 = .ok (.aload 5, 2) := by decide +kernel
theorem dX7_heirs_9 : decode cX7_heirs 9 = .ok (.ifnull 24, 3) := by decide +kernel
theorem dX7_heirs_12 : decode cX7_heirs 12 = .ok (.iload_n 2, 1) := by decide +kernel
theorem dX7_heirs_13 : decode cX7_heirs 13 = .ok (.ifCond .lt 20, 3) := by decide +kernel
theorem dX7_heirs_16 : decode cX7_heirs 16 = .ok (.iload_n 2, 1) := by decide +kernel
theorem dX7_heirs_17 : decode cX7_heirs 17 = .ok (.iconst 2, 1) := by decide +kernel
theorem dX7_heirs_18 : decode cX7_heirs 18 = .ok (.if_icmp .gt 15, 3) := by decide +kernel
theorem dX7_heirs_21 : decode cX7_heirs 21 = .ok (.iload 4, 2) := by decide +kernel
theorem dX7_heirs_23 : decode cX7_heirs 23 = .ok (.ifCond .lt 10, 3) := by decide +kernel
theorem dX7_heirs_26 : decode cX7_heirs 26 = .ok (.iload 4, 2) := by decide +kernel
theorem dX7_heirs_28 : decode cX7_heirs 28 = .ok (.bipush 6, 2) := by decide +kernel
theorem dX7_heirs_30 : decode cX7_heirs 30 = .ok (.if_icmp .le 6, 3) := by decide +kernel
theorem dX7_heirs_33 : decode cX7_heirs 33 = .ok (.bipush (-2), 2) := by decide +kernel
theorem dX7_heirs_35 : decode cX7_heirs 35 = .ok (.ireturn, 1) := by decide +kernel
theorem dX7_heirs_36 : decode cX7_heirs 36 = .ok (.aload 5, 2) := by decide +kernel
theorem dX7_heirs_38 : decode cX7_heirs 38 = .ok (.getfield 209, 3) := by decide +kernel
theorem dX7_heirs_41 : decode cX7_heirs 41 = .ok (.iconst (-1), 1) := by decide +kernel
theorem dX7_heirs_42 : decode cX7_heirs 42 = .ok (.if_icmp .eq 15, 3) := by decide +kernel
theorem dX7_heirs_45 : decode cX7_heirs 45 = .ok (.aload 5, 2) := by decide +kernel
theorem dX7_heirs_47 : decode cX7_heirs 47 = .ok (.getfield 209, 3) := by decide +kernel
theorem dX7_heirs_50 : decode cX7_heirs 50 = .ok (.iload_n 2, 1) := by decide +kernel
theorem dX7_heirs_51 : decode cX7_heirs 51 = .ok (.if_icmp .eq 6, 3) := by decide +kernel
theorem dX7_heirs_54 : decode cX7_heirs 54 = .ok (.bipush (-13), 2) := by decide +kernel
theorem dX7_heirs_56 : decode cX7_heirs 56 = .ok (.ireturn, 1) := by decide +kernel
theorem dX7_heirs_57 : decode cX7_heirs 57 = .ok (.aload 5, 2) := by decide +kernel
theorem dX7_heirs_59 : decode cX7_heirs 59 = .ok (.getfield 209, 3) := by decide +kernel
theorem dX7_heirs_62 : decode cX7_heirs 62 = .ok (.iconst (-1), 1) := by decide +kernel
theorem dX7_heirs_63 : decode cX7_heirs 63 = .ok (.if_icmp .ne 6, 3) := by decide +kernel
theorem dX7_heirs_66 : decode cX7_heirs 66 = .ok (.bipush (-11), 2) := by decide +kernel
theorem dX7_heirs_68 : decode cX7_heirs 68 = .ok (.ireturn, 1) := by decide +kernel
theorem dX7_heirs_69 : decode cX7_heirs 69 = .ok (.iconst 0, 1) := by decide +kernel
theorem dX7_heirs_70 : decode cX7_heirs 70 = .ok (.istore 6, 2) := by decide +kernel
theorem dX7_heirs_72 : decode cX7_heirs 72 = .ok (.iload_n 3, 1) := by decide +kernel
theorem dX7_heirs_73 : decode cX7_heirs 73 = .ok (.istore 7, 2) := by decide +kernel
theorem dX7_heirs_75 : decode cX7_heirs 75 = .ok (.iconst 0, 1) := by decide +kernel
theorem dX7_heirs_76 : decode cX7_heirs 76 = .ok (.istore 8, 2) := by decide +kernel
theorem dX7_heirs_78 : decode cX7_heirs 78 = .ok (.iload 8, 2) := by decide +kernel
theorem dX7_heirs_80 : decode cX7_heirs 80 = .ok (.iload 4, 2) := by decide +kernel
theorem dX7_heirs_82 : decode cX7_heirs 82 = .ok (.if_icmp .ge 52, 3) := by decide +kernel
theorem dX7_heirs_85 : decode cX7_heirs 85 = .ok (.aload 5, 2) := by decide +kernel
theorem dX7_heirs_87 : decode cX7_heirs 87 = .ok (.iload 7, 2) := by decide +kernel
theorem dX7_heirs_89 : decode cX7_heirs 89 = .ok (.iconst 2, 1) := by decide +kernel
theorem dX7_heirs_90 : decode cX7_heirs 90 = .ok (.invokevirtual 274, 3) := by decide +kernel
theorem dX7_heirs_93 : decode cX7_heirs 93 = .ok (.ifCond .ne 6, 3) := by decide +kernel
theorem dX7_heirs_96 : decode cX7_heirs 96 = .ok (.bipush (-12), 2) := by decide +kernel
theorem dX7_heirs_98 : decode cX7_heirs 98 = .ok (.ireturn, 1) := by decide +kernel
theorem dX7_heirs_99 : decode cX7_heirs 99 = .ok (.aload_n 0, 1) := by decide +kernel
theorem dX7_heirs_100 : decode cX7_heirs 100 = .ok (.aload 5, 2) := by decide +kernel
theorem dX7_heirs_102 : decode cX7_heirs 102 = .ok (.iload 7, 2) := by decide +kernel
theorem dX7_heirs_104 : decode cX7_heirs 104 = .ok (.invokevirtual 286, 3) := by decide +kernel
theorem dX7_heirs_107 : decode cX7_heirs 107 = .ok (.aload 5, 2) := by decide +kernel
theorem dX7_heirs_109 : decode cX7_heirs 109 = .ok (.iload 7, 2) := by decide +kernel
theorem dX7_heirs_111 : decode cX7_heirs 111 = .ok (.iconst 1, 1) := by decide +kernel
theorem dX7_heirs_112 : decode cX7_heirs 112 = .ok (.iadd, 1) := by decide +kernel
theorem dX7_heirs_113 : decode cX7_heirs 113 = .ok (.invokevirtual 286, 3) := by decide +kernel
theorem dX7_heirs_116 : decode cX7_heirs 116 = .ok (.invokevirtual 289, 3) := by decide +kernel
theorem dX7_heirs_119 : decode cX7_heirs 119 = .ok (.ifCond .lt 6, 3) := by decide +kernel
theorem dX7_heirs_122 : decode cX7_heirs 122 = .ok (.iinc 6 1, 3) := by decide +kernel
theorem dX7_heirs_125 : decode cX7_heirs 125 = .ok (.iinc 7 2, 3) := by decide +kernel
theorem dX7_heirs_128 : decode cX7_heirs 128 = .ok (.iinc 8 1, 3) := by decide +kernel
theorem dX7_heirs_131 : decode cX7_heirs 131 = .ok (.goto (-53), 3) := by decide +kernel
theorem dX7_heirs_134 : decode cX7_heirs 134 = .ok (.iload 6, 2) := by decide +kernel
theorem dX7_heirs_136 : decode cX7_heirs 136 = .ok (.ireturn, 1) := by decide +kernel
theorem dX7_taken_0 : decode cX7_taken 0 = .ok (.iload_n 2, 1) := by decide +kernel
theorem dX7_taken_1 : decode cX7_taken 1 = .ok (.ifCond .lt 9, 3) := by decide +kernel
theorem dX7_taken_4 : decode cX7_taken 4 = .ok (.iload_n 2, 1) := by decide +kernel
theorem dX7_taken_5 : decode cX7_taken 5 = .ok (.bipush 6, 2) := by decide +kernel
theorem dX7_taken_7 : decode cX7_taken 7 = .ok (.if_icmp .lt 6, 3) := by decide +kernel
theorem dX7_taken_10 : decode cX7_taken 10 = .ok (.bipush (-2), 2) := by decide +kernel
theorem dX7_taken_12 : decode cX7_taken 12 = .ok (.ireturn, 1) := by decide +kernel
theorem dX7_taken_13 : decode cX7_taken 13 = .ok (.aload_n 0, 1) := by decide +kernel
theorem dX7_taken_14 : decode cX7_taken 14 = .ok (.iload_n 1, 1) := by decide +kernel
theorem dX7_taken_15 : decode cX7_taken 15 = .ok (.invokevirtual 66, 3) := by decide +kernel
theorem dX7_taken_18 : decode cX7_taken 18 = .ok (.astore_n 3, 1) := by decide +kernel
theorem dX7_taken_19 : decode cX7_taken 19 = .ok (.aload_n 3, 1) := by decide +kernel
theorem dX7_taken_20 : decode cX7_taken 20 = .ok (.ifnonnull 6, 3) := by decide +kernel
theorem dX7_taken_23 : decode cX7_taken 23 = .ok (.bipush (-11), 2) := by decide +kernel
theorem dX7_taken_25 : decode cX7_taken 25 = .ok (.ireturn, 1) := by decide +kernel
theorem dX7_taken_26 : decode cX7_taken 26 = .ok (.aload_n 3, 1) := by decide +kernel
theorem dX7_taken_27 : decode cX7_taken 27 = .ok (.getfield 84, 3) := by decide +kernel
theorem dX7_taken_30 : decode cX7_taken 30 = .ok (.iload_n 2, 1) := by decide +kernel
theorem dX7_taken_31 : decode cX7_taken 31 = .ok (.invokestatic 292, 3) := by decide +kernel
theorem dX7_taken_34 : decode cX7_taken 34 = .ok (.ifCond .eq 10, 3) := by decide +kernel
theorem dX7_taken_37 : decode cX7_taken 37 = .ok (.aload_n 3, 1) := by decide +kernel
theorem dX7_taken_38 : decode cX7_taken 38 = .ok (.getfield 87, 3) := by decide +kernel
theorem dX7_taken_41 : decode cX7_taken 41 = .ok (.goto 5, 3) := by decide +kernel
theorem dX7_taken_44 : decode cX7_taken 44 = .ok (.bipush (-13), 2) := by decide +kernel
theorem dX7_taken_46 : decode cX7_taken 46 = .ok (.ireturn, 1) := by decide +kernel
theorem dX7_sheetAt_0 : decode cX7_sheetAt 0 = .ok (.iload_n 1, 1) := by decide +kernel
theorem dX7_sheetAt_1 : decode cX7_sheetAt 1 = .ok (.ifCond .lt 12, 3) := by decide +kernel
theorem dX7_sheetAt_4 : decode cX7_sheetAt 4 = .ok (.iload_n 1, 1) := by decide +kernel
theorem dX7_sheetAt_5 : decode cX7_sheetAt 5 = .ok (.aload_n 0, 1) := by decide +kernel
theorem dX7_sheetAt_6 : decode cX7_sheetAt 6 = .ok (.getfield 17, 3) := by decide +kernel
theorem dX7_sheetAt_9 : decode cX7_sheetAt 9 = .ok (.arraylength, 1) := by decide +kernel
theorem dX7_sheetAt_10 : decode cX7_sheetAt 10 = .ok (.if_icmp .lt 7, 3) := by decide +kernel
theorem dX7_sheetAt_13 : decode cX7_sheetAt 13 = .ok (.aconst_null, 1) := by decide +kernel
theorem dX7_sheetAt_14 : decode cX7_sheetAt 14 = .ok (.goto 9, 3) := by decide +kernel
theorem dX7_sheetAt_17 : decode cX7_sheetAt 17 = .ok (.aload_n 0, 1) := by decide +kernel
theorem dX7_sheetAt_18 : decode cX7_sheetAt 18 = .ok (.getfield 17, 3) := by decide +kernel
theorem dX7_sheetAt_21 : decode cX7_sheetAt 21 = .ok (.iload_n 1, 1) := by decide +kernel
theorem dX7_sheetAt_22 : decode cX7_sheetAt 22 = .ok (.aaload, 1) := by decide +kernel
theorem dX7_sheetAt_23 : decode cX7_sheetAt 23 = .ok (.areturn, 1) := by decide +kernel
theorem dX7_isUnder_0 : decode cX7_isUnder 0 = .ok (.iload_n 0, 1) := by decide +kernel
theorem dX7_isUnder_1 : decode cX7_isUnder 1 = .ok (.istore_n 2, 1) := by decide +kernel
theorem dX7_isUnder_2 : decode cX7_isUnder 2 = .ok (.iconst 0, 1) := by decide +kernel
theorem dX7_isUnder_3 : decode cX7_isUnder 3 = .ok (.istore_n 3, 1) := by decide +kernel
theorem dX7_isUnder_4 : decode cX7_isUnder 4 = .ok (.iload_n 3, 1) := by decide +kernel
theorem dX7_isUnder_5 : decode cX7_isUnder 5 = .ok (.bipush 6, 2) := by decide +kernel
theorem dX7_isUnder_7 : decode cX7_isUnder 7 = .ok (.if_icmp .ge 31, 3) := by decide +kernel
theorem dX7_isUnder_10 : decode cX7_isUnder 10 = .ok (.iload_n 2, 1) := by decide +kernel
theorem dX7_isUnder_11 : decode cX7_isUnder 11 = .ok (.ifCond .lt 27, 3) := by decide +kernel
theorem dX7_isUnder_14 : decode cX7_isUnder 14 = .ok (.iload_n 2, 1) := by decide +kernel
theorem dX7_isUnder_15 : decode cX7_isUnder 15 = .ok (.bipush 6, 2) := by decide +kernel
theorem dX7_isUnder_17 : decode cX7_isUnder 17 = .ok (.if_icmp .ge 21, 3) := by decide +kernel
theorem dX7_isUnder_20 : decode cX7_isUnder 20 = .ok (.iload_n 2, 1) := by decide +kernel
theorem dX7_isUnder_21 : decode cX7_isUnder 21 = .ok (.iload_n 1, 1) := by decide +kernel
theorem dX7_isUnder_22 : decode cX7_isUnder 22 = .ok (.if_icmp .ne 5, 3) := by decide +kernel
theorem dX7_isUnder_25 : decode cX7_isUnder 25 = .ok (.iconst 1, 1) := by decide +kernel
theorem dX7_isUnder_26 : decode cX7_isUnder 26 = .ok (.ireturn, 1) := by decide +kernel
theorem dX7_isUnder_27 : decode cX7_isUnder 27 = .ok (.iload_n 2, 1) := by decide +kernel
theorem dX7_isUnder_28 : decode cX7_isUnder 28 = .ok (.invokestatic 295, 3) := by decide +kernel
theorem dX7_isUnder_31 : decode cX7_isUnder 31 = .ok (.istore_n 2, 1) := by decide +kernel
theorem dX7_isUnder_32 : decode cX7_isUnder 32 = .ok (.iinc 3 1, 3) := by decide +kernel
theorem dX7_isUnder_35 : decode cX7_isUnder 35 = .ok (.goto (-31), 3) := by decide +kernel
theorem dX7_isUnder_38 : decode cX7_isUnder 38 = .ok (.iconst 0, 1) := by decide +kernel
theorem dX7_isUnder_39 : decode cX7_isUnder 39 = .ok (.ireturn, 1) := by decide +kernel
theorem dX7_kindAbove_0 : decode cX7_kindAbove 0 = .ok (.iload_n 0, 1) := by decide +kernel
theorem dX7_kindAbove_1 : decode cX7_kindAbove 1 = .ok (.tableswitch 41 1 5 #[35, 35, 37, 39, 35], 35) := by decide +kernel
theorem dX7_kindAbove_36 : decode cX7_kindAbove 36 = .ok (.iconst 0, 1) := by decide +kernel
theorem dX7_kindAbove_37 : decode cX7_kindAbove 37 = .ok (.ireturn, 1) := by decide +kernel
theorem dX7_kindAbove_38 : decode cX7_kindAbove 38 = .ok (.iconst 1, 1) := by decide +kernel
theorem dX7_kindAbove_39 : decode cX7_kindAbove 39 = .ok (.ireturn, 1) := by decide +kernel
theorem dX7_kindAbove_40 : decode cX7_kindAbove 40 = .ok (.iconst 2, 1) := by decide +kernel
theorem dX7_kindAbove_41 : decode cX7_kindAbove 41 = .ok (.ireturn, 1) := by decide +kernel
theorem dX7_kindAbove_42 : decode cX7_kindAbove 42 = .ok (.iconst (-1), 1) := by decide +kernel
theorem dX7_kindAbove_43 : decode cX7_kindAbove 43 = .ok (.ireturn, 1) := by decide +kernel
theorem dX7_isNumber_0 : decode cX7_isNumber 0 = .ok (.iload_n 0, 1) := by decide +kernel
theorem dX7_isNumber_1 : decode cX7_isNumber 1 = .ok (.iconst 1, 1) := by decide +kernel
theorem dX7_isNumber_2 : decode cX7_isNumber 2 = .ok (.if_icmp .lt 13, 3) := by decide +kernel
theorem dX7_isNumber_5 : decode cX7_isNumber 5 = .ok (.iload_n 0, 1) := by decide +kernel
theorem dX7_isNumber_6 : decode cX7_isNumber 6 = .ok (.bipush 30, 2) := by decide +kernel
theorem dX7_isNumber_8 : decode cX7_isNumber 8 = .ok (.if_icmp .gt 7, 3) := by decide +kernel
theorem dX7_isNumber_11 : decode cX7_isNumber 11 = .ok (.iconst 1, 1) := by decide +kernel
theorem dX7_isNumber_12 : decode cX7_isNumber 12 = .ok (.goto 4, 3) := by decide +kernel
theorem dX7_isNumber_15 : decode cX7_isNumber 15 = .ok (.iconst 0, 1) := by decide +kernel
theorem dX7_isNumber_16 : decode cX7_isNumber 16 = .ok (.ireturn, 1) := by decide +kernel
theorem dX7_isSum_0 : decode cX7_isSum 0 = .ok (.iload_n 0, 1) := by decide +kernel
theorem dX7_isSum_1 : decode cX7_isSum 1 = .ok (.ifCond .lt 13, 3) := by decide +kernel
theorem dX7_isSum_4 : decode cX7_isSum 4 = .ok (.iload_n 0, 1) := by decide +kernel
theorem dX7_isSum_5 : decode cX7_isSum 5 = .ok (.bipush 99, 2) := by decide +kernel
theorem dX7_isSum_7 : decode cX7_isSum 7 = .ok (.if_icmp .gt 7, 3) := by decide +kernel
theorem dX7_isSum_10 : decode cX7_isSum 10 = .ok (.iconst 1, 1) := by decide +kernel
theorem dX7_isSum_11 : decode cX7_isSum 11 = .ok (.goto 4, 3) := by decide +kernel
theorem dX7_isSum_14 : decode cX7_isSum 14 = .ok (.iconst 0, 1) := by decide +kernel
theorem dX7_isSum_15 : decode cX7_isSum 15 = .ok (.ireturn, 1) := by decide +kernel
theorem dX7_bit_0 : decode cX7_bit 0 = .ok (.iconst 1, 1) := by decide +kernel
theorem dX7_bit_1 : decode cX7_bit 1 = .ok (.iload_n 0, 1) := by decide +kernel
theorem dX7_bit_2 : decode cX7_bit 2 = .ok (.iconst 1, 1) := by decide +kernel
theorem dX7_bit_3 : decode cX7_bit 3 = .ok (.isub, 1) := by decide +kernel
theorem dX7_bit_4 : decode cX7_bit 4 = .ok (.ishl, 1) := by decide +kernel
theorem dX7_bit_5 : decode cX7_bit 5 = .ok (.ireturn, 1) := by decide +kernel
theorem dX7_has_0 : decode cX7_has 0 = .ok (.iload_n 0, 1) := by decide +kernel
theorem dX7_has_1 : decode cX7_has 1 = .ok (.iload_n 1, 1) := by decide +kernel
theorem dX7_has_2 : decode cX7_has 2 = .ok (.invokestatic 101, 3) := by decide +kernel
theorem dX7_has_5 : decode cX7_has 5 = .ok (.iand, 1) := by decide +kernel
theorem dX7_has_6 : decode cX7_has 6 = .ok (.ifCond .eq 7, 3) := by decide +kernel
theorem dX7_has_9 : decode cX7_has 9 = .ok (.iconst 1, 1) := by decide +kernel
theorem dX7_has_10 : decode cX7_has 10 = .ok (.goto 4, 3) := by decide +kernel
theorem dX7_has_13 : decode cX7_has 13 = .ok (.iconst 0, 1) := by decide +kernel
theorem dX7_has_14 : decode cX7_has 14 = .ok (.ireturn, 1) := by decide +kernel
theorem dX7_truth_0 : decode cX7_truth 0 = .ok (.iload_n 0, 1) := by decide +kernel
theorem dX7_truth_1 : decode cX7_truth 1 = .ok (.ifCond .eq 7, 3) := by decide +kernel
theorem dX7_truth_4 : decode cX7_truth 4 = .ok (.iconst 1, 1) := by decide +kernel
theorem dX7_truth_5 : decode cX7_truth 5 = .ok (.goto 4, 3) := by decide +kernel
theorem dX7_truth_8 : decode cX7_truth 8 = .ok (.iconst 0, 1) := by decide +kernel
theorem dX7_truth_9 : decode cX7_truth 9 = .ok (.ireturn, 1) := by decide +kernel
theorem dX8_init_0 : decode cX8_init 0 = .ok (.aload_n 0, 1) := by decide +kernel
theorem dX8_init_1 : decode cX8_init 1 = .ok (.invokespecial 1, 3) := by decide +kernel
theorem dX8_init_4 : decode cX8_init 4 = .ok (.aload_n 0, 1) := by decide +kernel
theorem dX8_init_5 : decode cX8_init 5 = .ok (.bipush 6, 2) := by decide +kernel
theorem dX8_init_7 : decode cX8_init 7 = .ok (.newarray .int, 2) := by decide +kernel
theorem dX8_init_9 : decode cX8_init 9 = .ok (.putfield 7, 3) := by decide +kernel
theorem dX8_init_12 : decode cX8_init 12 = .ok (.aload_n 0, 1) := by decide +kernel
theorem dX8_init_13 : decode cX8_init 13 = .ok (.bipush 6, 2) := by decide +kernel
theorem dX8_init_15 : decode cX8_init 15 = .ok (.newarray .int, 2) := by decide +kernel
theorem dX8_init_17 : decode cX8_init 17 = .ok (.putfield 13, 3) := by decide +kernel
theorem dX8_init_20 : decode cX8_init 20 = .ok (.aload_n 0, 1) := by decide +kernel
theorem dX8_init_21 : decode cX8_init 21 = .ok (.bipush 6, 2) := by decide +kernel
theorem dX8_init_23 : decode cX8_init 23 = .ok (.newarray .int, 2) := by decide +kernel
theorem dX8_init_25 : decode cX8_init 25 = .ok (.putfield 16, 3) := by decide +kernel
theorem dX8_init_28 : decode cX8_init 28 = .ok (.aload_n 0, 1) := by decide +kernel
theorem dX8_init_29 : decode cX8_init 29 = .ok (.sipush 160, 3) := by decide +kernel
theorem dX8_init_32 : decode cX8_init 32 = .ok (.newarray .int, 2) := by decide +kernel
theorem dX8_init_34 : decode cX8_init 34 = .ok (.putfield 19, 3) := by decide +kernel
theorem dX8_init_37 : decode cX8_init 37 = .ok (.aload_n 0, 1) := by decide +kernel
theorem dX8_init_38 : decode cX8_init 38 = .ok (.bipush 18, 2) := by decide +kernel
theorem dX8_init_40 : decode cX8_init 40 = .ok (.newarray .int, 2) := by decide +kernel
theorem dX8_init_42 : decode cX8_init 42 = .ok (.putfield 22, 3) := by decide +kernel
theorem dX8_init_45 : decode cX8_init 45 = .ok (.aload_n 0, 1) := by decide +kernel
theorem dX8_init_46 : decode cX8_init 46 = .ok (.bipush 18, 2) := by decide +kernel
theorem dX8_init_48 : decode cX8_init 48 = .ok (.newarray .int, 2) := by decide +kernel
theorem dX8_init_50 : decode cX8_init 50 = .ok (.putfield 25, 3) := by decide +kernel
theorem dX8_init_53 : decode cX8_init 53 = .ok (.aload_n 0, 1) := by decide +kernel
theorem dX8_init_54 : decode cX8_init 54 = .ok (.sipush 3000, 3) := by decide +kernel
theorem dX8_init_57 : decode cX8_init 57 = .ok (.newarray .int, 2) := by decide +kernel
theorem dX8_init_59 : decode cX8_init 59 = .ok (.putfield 28, 3) := by decide +kernel
theorem dX8_init_62 : decode cX8_init 62 = .ok (.aload_n 0, 1) := by decide +kernel
theorem dX8_init_63 : decode cX8_init 63 = .ok (.sipush 200, 3) := by decide +kernel
theorem dX8_init_66 : decode cX8_init 66 = .ok (.newarray .int, 2) := by decide +kernel
theorem dX8_init_68 : decode cX8_init 68 = .ok (.putfield 31, 3) := by decide +kernel
theorem dX8_init_71 : decode cX8_init 71 = .ok (.aload_n 0, 1) := by decide +kernel
theorem dX8_init_72 : decode cX8_init 72 = .ok (.sipush 200, 3) := by decide +kernel
theorem dX8_init_75 : decode cX8_init 75 = .ok (.newarray .int, 2) := by decide +kernel
theorem dX8_init_77 : decode cX8_init 77 = .ok (.putfield 34, 3) := by decide +kernel
theorem dX8_init_80 : decode cX8_init 80 = .ok (.aload_n 0, 1) := by decide +kernel
theorem dX8_init_81 : decode cX8_init 81 = .ok (.bipush 31, 2) := by decide +kernel
theorem dX8_init_83 : decode cX8_init 83 = .ok (.newarray .int, 2) := by decide +kernel
theorem dX8_init_85 : decode cX8_init 85 = .ok (.putfield 37, 3) := by decide +kernel
theorem dX8_init_88 : decode cX8_init 88 = .ok (.aload_n 0, 1) := by decide +kernel
theorem dX8_init_89 : decode cX8_init 89 = .ok (.bipush 100, 2) := by decide +kernel
theorem dX8_init_91 : decode cX8_init 91 = .ok (.newarray .int, 2) := by decide +kernel
theorem dX8_init_93 : decode cX8_init 93 = .ok (.putfield 40, 3) := by decide +kernel
theorem dX8_init_96 : decode cX8_init 96 = .ok (.aload_n 0, 1) := by decide +kernel
theorem dX8_init_97 : decode cX8_init 97 = .ok (.bipush 100, 2) := by decide +kernel
theorem dX8_init_99 : decode cX8_init 99 = .ok (.newarray .int, 2) := by decide +kernel
theorem dX8_init_101 : decode cX8_init 101 = .ok (.putfield 43, 3) := by decide +kernel
theorem dX8_init_104 : decode cX8_init 104 = .ok (.aload_n 0, 1) := by decide +kernel
theorem dX8_init_105 : decode cX8_init 105 = .ok (.bipush 100, 2) := by decide +kernel
theorem dX8_init_107 : decode cX8_init 107 = .ok (.newarray .boolean, 2) := by decide +kernel
theorem dX8_init_109 : decode cX8_init 109 = .ok (.putfield 46, 3) := by decide +kernel
theorem dX8_init_112 : decode cX8_init 112 = .ok (.aload_n 0, 1) := by decide +kernel
theorem dX8_init_113 : decode cX8_init 113 = .ok (.bipush 36, 2) := by decide +kernel
theorem dX8_init_115 : decode cX8_init 115 = .ok (.newarray .int, 2) := by decide +kernel
theorem dX8_init_117 : decode cX8_init 117 = .ok (.putfield 50, 3) := by decide +kernel
theorem dX8_init_120 : decode cX8_init 120 = .ok (.aload_n 0, 1) := by decide +kernel
theorem dX8_init_121 : decode cX8_init 121 = .ok (.bipush 6, 2) := by decide +kernel
theorem dX8_init_123 : decode cX8_init 123 = .ok (.newarray .int, 2) := by decide +kernel
theorem dX8_init_125 : decode cX8_init 125 = .ok (.putfield 53, 3) := by decide +kernel
theorem dX8_init_128 : decode cX8_init 128 = .ok (.aload_n 0, 1) := by decide +kernel
theorem dX8_init_129 : decode cX8_init 129 = .ok (.bipush 6, 2) := by decide +kernel
theorem dX8_init_131 : decode cX8_init 131 = .ok (.newarray .int, 2) := by decide +kernel
theorem dX8_init_133 : decode cX8_init 133 = .ok (.putfield 56, 3) := by decide +kernel
theorem dX8_init_136 : decode cX8_init 136 = .ok (.aload_n 0, 1) := by decide +kernel
theorem dX8_init_137 : decode cX8_init 137 = .ok (.bipush 14, 2) := by decide +kernel
theorem dX8_init_139 : decode cX8_init 139 = .ok (.newarray .int, 2) := by decide +kernel
theorem dX8_init_141 : decode cX8_init 141 = .ok (.putfield 59, 3) := by decide +kernel
theorem dX8_init_144 : decode cX8_init 144 = .ok (.aload_n 0, 1) := by decide +kernel
theorem dX8_init_145 : decode cX8_init 145 = .ok (.iconst 4, 1) := by decide +kernel
theorem dX8_init_146 : decode cX8_init 146 = .ok (.newarray .int, 2) := by decide +kernel
theorem dX8_init_148 : decode cX8_init 148 = .ok (.putfield 62, 3) := by decide +kernel
theorem dX8_init_151 : decode cX8_init 151 = .ok (.aload_n 0, 1) := by decide +kernel
theorem dX8_init_152 : decode cX8_init 152 = .ok (.iconst 4, 1) := by decide +kernel
theorem dX8_init_153 : decode cX8_init 153 = .ok (.newarray .int, 2) := by decide +kernel
theorem dX8_init_155 : decode cX8_init 155 = .ok (.putfield 65, 3) := by decide +kernel
theorem dX8_init_158 : decode cX8_init 158 = .ok (.aload_n 0, 1) := by decide +kernel
theorem dX8_init_159 : decode cX8_init 159 = .ok (.sipush 160, 3) := by decide +kernel
theorem dX8_init_162 : decode cX8_init 162 = .ok (.newarray .int, 2) := by decide +kernel
theorem dX8_init_164 : decode cX8_init 164 = .ok (.putfield 68, 3) := by decide +kernel
theorem dX8_init_167 : decode cX8_init 167 = .ok (.aload_n 0, 1) := by decide +kernel
theorem dX8_init_168 : decode cX8_init 168 = .ok (.bipush 6, 2) := by decide +kernel
theorem dX8_init_170 : decode cX8_init 170 = .ok (.newarray .int, 2) := by decide +kernel
theorem dX8_init_172 : decode cX8_init 172 = .ok (.putfield 71, 3) := by decide +kernel
theorem dX8_init_175 : decode cX8_init 175 = .ok (.iconst 0, 1) := by decide +kernel
theorem dX8_init_176 : decode cX8_init 176 = .ok (.istore_n 1, 1) := by decide +kernel
theorem dX8_init_177 : decode cX8_init 177 = .ok (.iload_n 1, 1) := by decide +kernel
theorem dX8_init_178 : decode cX8_init 178 = .ok (.iconst 4, 1) := by decide +kernel
theorem dX8_init_179 : decode cX8_init 179 = .ok (.if_icmp .ge 16, 3) := by decide +kernel
theorem dX8_init_182 : decode cX8_init 182 = .ok (.aload_n 0, 1) := by decide +kernel
theorem dX8_init_183 : decode cX8_init 183 = .ok (.getfield 62, 3) := by decide +kernel
theorem dX8_init_186 : decode cX8_init 186 = .ok (.iload_n 1, 1) := by decide +kernel
theorem dX8_init_187 : decode cX8_init 187 = .ok (.iconst (-1), 1) := by decide +kernel
theorem dX8_init_188 : decode cX8_init 188 = .ok (.iastore, 1) := by decide +kernel
theorem dX8_init_189 : decode cX8_init 189 = .ok (.iinc 1 1, 3) := by decide +kernel
theorem dX8_init_192 : decode cX8_init 192 = .ok (.goto (-15), 3) := by decide +kernel
theorem dX8_init_195 : decode cX8_init 195 = .ok (.iconst 0, 1) := by decide +kernel
theorem dX8_init_196 : decode cX8_init 196 = .ok (.istore_n 1, 1) := by decide +kernel
theorem dX8_init_197 : decode cX8_init 197 = .ok (.iload_n 1, 1) := by decide +kernel
theorem dX8_init_198 : decode cX8_init 198 = .ok (.iconst 3, 1) := by decide +kernel
theorem dX8_init_199 : decode cX8_init 199 = .ok (.if_icmp .ge 38, 3) := by decide +kernel
theorem dX8_init_202 : decode cX8_init 202 = .ok (.aload_n 0, 1) := by decide +kernel
theorem dX8_init_203 : decode cX8_init 203 = .ok (.getfield 22, 3) := by decide +kernel
theorem dX8_init_206 : decode cX8_init 206 = .ok (.iload_n 1, 1) := by decide +kernel
theorem dX8_init_207 : decode cX8_init 207 = .ok (.iload_n 1, 1) := by decide +kernel
theorem dX8_init_208 : decode cX8_init 208 = .ok (.iastore, 1) := by decide +kernel
theorem dX8_init_209 : decode cX8_init 209 = .ok (.aload_n 0, 1) := by decide +kernel
theorem dX8_init_210 : decode cX8_init 210 = .ok (.getfield 25, 3) := by decide +kernel
theorem dX8_init_213 : decode cX8_init 213 = .ok (.iload_n 1, 1) := by decide +kernel
theorem dX8_init_214 : decode cX8_init 214 = .ok (.iconst 1, 1) := by decide +kernel
theorem dX8_init_215 : decode cX8_init 215 = .ok (.iastore, 1) := by decide +kernel
theorem dX8_init_216 : decode cX8_init 216 = .ok (.aload_n 0, 1) := by decide +kernel
theorem dX8_init_217 : decode cX8_init 217 = .ok (.iload_n 1, 1) := by decide +kernel
theorem dX8_init_218 : decode cX8_init 218 = .ok (.iconst 2, 1) := by decide +kernel
theorem dX8_init_219 : decode cX8_init 219 = .ok (.if_icmp .ge 8, 3) := by decide +kernel
theorem dX8_init_222 : decode cX8_init 222 = .ok (.bipush 16, 2) := by decide +kernel
theorem dX8_init_224 : decode cX8_init 224 = .ok (.goto 4, 3) := by decide +kernel
theorem dX8_init_227 : decode cX8_init 227 = .ok (.iconst 0, 1) := by decide +kernel
theorem dX8_init_228 : decode cX8_init 228 = .ok (.invokevirtual 74, 3) := by decide +kernel
theorem dX8_init_231 : decode cX8_init 231 = .ok (.iinc 1 1, 3) := by decide +kernel
theorem dX8_init_234 : decode cX8_init 234 = .ok (.goto (-37), 3) := by decide +kernel
theorem dX8_init_237 : decode cX8_init 237 = .ok (.aload_n 0, 1) := by decide +kernel
theorem dX8_init_238 : decode cX8_init 238 = .ok (.iconst 1, 1) := by decide +kernel
theorem dX8_init_239 : decode cX8_init 239 = .ok (.putfield 78, 3) := by decide +kernel
theorem dX8_init_242 : decode cX8_init 242 = .ok (.return_, 1) := by decide +kernel
theorem dX8_within_0 : decode cX8_within 0 = .ok (.iload_n 0, 1) := by decide +kernel
theorem dX8_within_1 : decode cX8_within 1 = .ok (.iload_n 1, 1) := by decide +kernel
theorem dX8_within_2 : decode cX8_within 2 = .ok (.if_icmp .lt 12, 3) := by decide +kernel
theorem dX8_within_5 : decode cX8_within 5 = .ok (.iload_n 0, 1) := by decide +kernel
theorem dX8_within_6 : decode cX8_within 6 = .ok (.iload_n 2, 1) := by decide +kernel
theorem dX8_within_7 : decode cX8_within 7 = .ok (.if_icmp .gt 7, 3) := by decide +kernel
theorem dX8_within_10 : decode cX8_within 10 = .ok (.iconst 1, 1) := by decide +kernel
theorem dX8_within_11 : decode cX8_within 11 = .ok (.goto 4, 3) := by decide +kernel
theorem dX8_within_14 : decode cX8_within 14 = .ok (.iconst 0, 1) := by decide +kernel
theorem dX8_within_15 : decode cX8_within 15 = .ok (.ireturn, 1) := by decide +kernel
theorem dX8_bitsOf_0 : decode cX8_bitsOf 0 = .ok (.iconst 0, 1) := by decide +kernel
theorem dX8_bitsOf_1 : decode cX8_bitsOf 1 = .ok (.istore_n 1, 1) := by decide +kernel
theorem dX8_bitsOf_2 : decode cX8_bitsOf 2 = .ok (.iconst 0, 1) := by decide +kernel
theorem dX8_bitsOf_3 : decode cX8_bitsOf 3 = .ok (.istore_n 2, 1) := by decide +kernel
theorem dX8_bitsOf_4 : decode cX8_bitsOf 4 = .ok (.iload_n 2, 1) := by decide +kernel
theorem dX8_bitsOf_5 : decode cX8_bitsOf 5 = .ok (.bipush 30, 2) := by decide +kernel
theorem dX8_bitsOf_7 : decode cX8_bitsOf 7 = .ok (.if_icmp .ge 17, 3) := by decide +kernel
theorem dX8_bitsOf_10 : decode cX8_bitsOf 10 = .ok (.iload_n 1, 1) := by decide +kernel
theorem dX8_bitsOf_11 : decode cX8_bitsOf 11 = .ok (.iload_n 0, 1) := by decide +kernel
theorem dX8_bitsOf_12 : decode cX8_bitsOf 12 = .ok (.iload_n 2, 1) := by decide +kernel
theorem dX8_bitsOf_13 : decode cX8_bitsOf 13 = .ok (.ishr, 1) := by decide +kernel
theorem dX8_bitsOf_14 : decode cX8_bitsOf 14 = .ok (.iconst 1, 1) := by decide +kernel
theorem dX8_bitsOf_15 : decode cX8_bitsOf 15 = .ok (.iand, 1) := by decide +kernel
theorem dX8_bitsOf_16 : decode cX8_bitsOf 16 = .ok (.iadd, 1) := by decide +kernel
theorem dX8_bitsOf_17 : decode cX8_bitsOf 17 = .ok (.istore_n 1, 1) := by decide +kernel
theorem dX8_bitsOf_18 : decode cX8_bitsOf 18 = .ok (.iinc 2 1, 3) := by decide +kernel
theorem dX8_bitsOf_21 : decode cX8_bitsOf 21 = .ok (.goto (-17), 3) := by decide +kernel
theorem dX8_bitsOf_24 : decode cX8_bitsOf 24 = .ok (.iload_n 1, 1) := by decide +kernel
theorem dX8_bitsOf_25 : decode cX8_bitsOf 25 = .ok (.ireturn, 1) := by decide +kernel
theorem dX8_has_0 : decode cX8_has 0 = .ok (.iload_n 0, 1) := by decide +kernel
theorem dX8_has_1 : decode cX8_has 1 = .ok (.iload_n 1, 1) := by decide +kernel
theorem dX8_has_2 : decode cX8_has 2 = .ok (.ishr, 1) := by decide +kernel
theorem dX8_has_3 : decode cX8_has 3 = .ok (.iconst 1, 1) := by decide +kernel
theorem dX8_has_4 : decode cX8_has 4 = .ok (.iand, 1) := by decide +kernel
theorem dX8_has_5 : decode cX8_has 5 = .ok (.iconst 1, 1) := by decide +kernel
theorem dX8_has_6 : decode cX8_has 6 = .ok (.if_icmp .ne 7, 3) := by decide +kernel
theorem dX8_has_9 : decode cX8_has 9 = .ok (.iconst 1, 1) := by decide +kernel
theorem dX8_has_10 : decode cX8_has 10 = .ok (.goto 4, 3) := by decide +kernel
theorem dX8_has_13 : decode cX8_has 13 = .ok (.iconst 0, 1) := by decide +kernel
theorem dX8_has_14 : decode cX8_has 14 = .ok (.ireturn, 1) := by decide +kernel
theorem dX8_isHeir_0 : decode cX8_isHeir 0 = .ok (.iload_n 1, 1) := by decide +kernel
theorem dX8_isHeir_1 : decode cX8_isHeir 1 = .ok (.iconst 0, 1) := by decide +kernel
theorem dX8_isHeir_2 : decode cX8_isHeir 2 = .ok (.aload_n 0, 1) := by decide +kernel
theorem dX8_isHeir_3 : decode cX8_isHeir 3 = .ok (.getfield 82, 3) := by decide +kernel
theorem dX8_isHeir_6 : decode cX8_isHeir 6 = .ok (.iconst 1, 1) := by decide +kernel
theorem dX8_isHeir_7 : decode cX8_isHeir 7 = .ok (.isub, 1) := by decide +kernel
theorem dX8_isHeir_8 : decode cX8_isHeir 8 = .ok (.invokestatic 85, 3) := by decide +kernel
theorem dX8_isHeir_11 : decode cX8_isHeir 11 = .ok (.ireturn, 1) := by decide +kernel
theorem dX8_areTwo_0 : decode cX8_areTwo 0 = .ok (.aload_n 0, 1) := by decide +kernel
theorem dX8_areTwo_1 : decode cX8_areTwo 1 = .ok (.iload_n 1, 1) := by decide +kernel
theorem dX8_areTwo_2 : decode cX8_areTwo 2 = .ok (.invokevirtual 89, 3) := by decide +kernel
theorem dX8_areTwo_5 : decode cX8_areTwo 5 = .ok (.ifCond .eq 20, 3) := by decide +kernel
theorem dX8_areTwo_8 : decode cX8_areTwo 8 = .ok (.aload_n 0, 1) := by decide +kernel
theorem dX8_areTwo_9 : decode cX8_areTwo 9 = .ok (.iload_n 2, 1) := by decide +kernel
theorem dX8_areTwo_10 : decode cX8_areTwo 10 = .ok (.invokevirtual 89, 3) := by decide +kernel
theorem dX8_areTwo_13 : decode cX8_areTwo 13 = .ok (.ifCond .eq 12, 3) := by decide +kernel
theorem dX8_areTwo_16 : decode cX8_areTwo 16 = .ok (.iload_n 1, 1) := by decide +kernel
theorem dX8_areTwo_17 : decode cX8_areTwo 17 = .ok (.iload_n 2, 1) := by decide +kernel
theorem dX8_areTwo_18 : decode cX8_areTwo 18 = .ok (.if_icmp .eq 7, 3) := by decide +kernel
theorem dX8_areTwo_21 : decode cX8_areTwo 21 = .ok (.iconst 1, 1) := by decide +kernel
theorem dX8_areTwo_22 : decode cX8_areTwo 22 = .ok (.goto 4, 3) := by decide +kernel
theorem dX8_areTwo_25 : decode cX8_areTwo 25 = .ok (.iconst 0, 1) := by decide +kernel
theorem dX8_areTwo_26 : decode cX8_areTwo 26 = .ok (.ireturn, 1) := by decide +kernel
theorem dX8_isNumber_0 : decode cX8_isNumber 0 = .ok (.iload_n 0, 1) := by decide +kernel
theorem dX8_isNumber_1 : decode cX8_isNumber 1 = .ok (.iconst 1, 1) := by decide +kernel
theorem dX8_isNumber_2 : decode cX8_isNumber 2 = .ok (.bipush 30, 2) := by decide +kernel
theorem dX8_isNumber_4 : decode cX8_isNumber 4 = .ok (.invokestatic 85, 3) := by decide +kernel
theorem dX8_isNumber_7 : decode cX8_isNumber 7 = .ok (.ireturn, 1) := by decide +kernel
theorem dX8_isSum_0 : decode cX8_isSum 0 = .ok (.iload_n 0, 1) := by decide +kernel
theorem dX8_isSum_1 : decode cX8_isSum 1 = .ok (.iconst 0, 1) := by decide +kernel
theorem dX8_isSum_2 : decode cX8_isSum 2 = .ok (.bipush 99, 2) := by decide +kernel
theorem dX8_isSum_4 : decode cX8_isSum 4 = .ok (.invokestatic 85, 3) := by decide +kernel
theorem dX8_isSum_7 : decode cX8_isSum 7 = .ok (.ireturn, 1) := by decide +kernel
theorem dX8_isSheet_0 : decode cX8_isSheet 0 = .ok (.iload_n 0, 1) := by decide +kernel
theorem dX8_isSheet_1 : decode cX8_isSheet 1 = .ok (.iconst 0, 1) := by decide +kernel
theorem dX8_isSheet_2 : decode cX8_isSheet 2 = .ok (.iconst 3, 1) := by decide +kernel
theorem dX8_isSheet_3 : decode cX8_isSheet 3 = .ok (.invokestatic 85, 3) := by decide +kernel
theorem dX8_isSheet_6 : decode cX8_isSheet 6 = .ok (.ireturn, 1) := by decide +kernel
theorem dX8_may_0 : decode cX8_may 0 = .ok (.iload_n 2, 1) := by decide +kernel
theorem dX8_may_1 : decode cX8_may 1 = .ok (.iconst 0, 1) := by decide +kernel
theorem dX8_may_2 : decode cX8_may 2 = .ok (.iload_n 1, 1) := by decide +kernel
theorem dX8_may_3 : decode cX8_may 3 = .ok (.ifCond .ne 8, 3) := by decide +kernel
theorem dX8_may_6 : decode cX8_may 6 = .ok (.bipush 99, 2) := by decide +kernel
theorem dX8_may_8 : decode cX8_may 8 = .ok (.goto 15, 3) := by decide +kernel
theorem dX8_may_11 : decode cX8_may 11 = .ok (.iload_n 1, 1) := by decide +kernel
theorem dX8_may_12 : decode cX8_may 12 = .ok (.iconst 1, 1) := by decide +kernel
theorem dX8_may_13 : decode cX8_may 13 = .ok (.if_icmp .ne 8, 3) := by decide +kernel
theorem dX8_may_16 : decode cX8_may 16 = .ok (.bipush 9, 2) := by decide +kernel
theorem dX8_may_18 : decode cX8_may 18 = .ok (.goto 5, 3) := by decide +kernel
theorem dX8_may_21 : decode cX8_may 21 = .ok (.ldc 93, 2) := by decide +kernel
theorem dX8_may_23 : decode cX8_may 23 = .ok (.invokestatic 85, 3) := by decide +kernel
theorem dX8_may_26 : decode cX8_may 26 = .ok (.ireturn, 1) := by decide +kernel
theorem dX8_get_0 : decode cX8_get 0 = .ok (.iload_n 2, 1) := by decide +kernel
theorem dX8_get_1 : decode cX8_get 1 = .ok (.tableswitch 71 0 4 #[35, 40, 47, 54, 61], 35) := by decide +kernel
theorem dX8_get_36 : decode cX8_get 36 = .ok (.aload_n 0, 1) := by decide +kernel
theorem dX8_get_37 : decode cX8_get 37 = .ok (.getfield 94, 3) := by decide +kernel
theorem dX8_get_40 : decode cX8_get 40 = .ok (.ireturn, 1) := by decide +kernel
theorem dX8_get_41 : decode cX8_get 41 = .ok (.aload_n 0, 1) := by decide +kernel
theorem dX8_get_42 : decode cX8_get 42 = .ok (.getfield 13, 3) := by decide +kernel
theorem dX8_get_45 : decode cX8_get 45 = .ok (.iload_n 1, 1) := by decide +kernel
theorem dX8_get_46 : decode cX8_get 46 = .ok (.iaload, 1) := by decide +kernel
theorem dX8_get_47 : decode cX8_get 47 = .ok (.ireturn, 1) := by decide +kernel
theorem dX8_get_48 : decode cX8_get 48 = .ok (.aload_n 0, 1) := by decide +kernel
theorem dX8_get_49 : decode cX8_get 49 = .ok (.getfield 16, 3) := by decide +kernel
theorem dX8_get_52 : decode cX8_get 52 = .ok (.iload_n 1, 1) := by decide +kernel
theorem dX8_get_53 : decode cX8_get 53 = .ok (.iaload, 1) := by decide +kernel
theorem dX8_get_54 : decode cX8_get 54 = .ok (.ireturn, 1) := by decide +kernel
theorem dX8_get_55 : decode cX8_get 55 = .ok (.aload_n 0, 1) := by decide +kernel
theorem dX8_get_56 : decode cX8_get 56 = .ok (.getfield 7, 3) := by decide +kernel
theorem dX8_get_59 : decode cX8_get 59 = .ok (.iload_n 1, 1) := by decide +kernel
theorem dX8_get_60 : decode cX8_get 60 = .ok (.iaload, 1) := by decide +kernel
theorem dX8_get_61 : decode cX8_get 61 = .ok (.ireturn, 1) := by decide +kernel
theorem dX8_get_62 : decode cX8_get 62 = .ok (.aload_n 0, 1) := by decide +kernel
theorem dX8_get_63 : decode cX8_get 63 = .ok (.getfield 16, 3) := by decide +kernel
theorem dX8_get_66 : decode cX8_get 66 = .ok (.iload_n 1, 1) := by decide +kernel
theorem dX8_get_67 : decode cX8_get 67 = .ok (.iaload, 1) := by decide +kernel
theorem dX8_get_68 : decode cX8_get 68 = .ok (.invokestatic 97, 3) := by decide +kernel
theorem dX8_get_71 : decode cX8_get 71 = .ok (.ireturn, 1) := by decide +kernel
theorem dX8_get_72 : decode cX8_get 72 = .ok (.aload_n 0, 1) := by decide +kernel
theorem dX8_get_73 : decode cX8_get 73 = .ok (.iload_n 1, 1) := by decide +kernel
theorem dX8_get_74 : decode cX8_get 74 = .ok (.invokevirtual 101, 3) := by decide +kernel
theorem dX8_get_77 : decode cX8_get 77 = .ok (.ireturn, 1) := by decide +kernel
theorem dX8_set_0 : decode cX8_set 0 = .ok (.iload_n 1, 1) := by decide +kernel
theorem dX8_set_1 : decode cX8_set 1 = .ok (.iconst 0, 1) := by decide +kernel
theorem dX8_set_2 : decode cX8_set 2 = .ok (.iconst 2, 1) := by decide +kernel
theorem dX8_set_3 : decode cX8_set 3 = .ok (.invokestatic 85, 3) := by decide +kernel
theorem dX8_set_6 : decode cX8_set 6 = .ok (.ifCond .eq 24, 3) := by decide +kernel
theorem dX8_set_9 : decode cX8_set 9 = .ok (.iload_n 1, 1) := by decide +kernel
theorem dX8_set_10 : decode cX8_set 10 = .ok (.ifCond .le 11, 3) := by decide +kernel
theorem dX8_set_13 : decode cX8_set 13 = .ok (.aload_n 0, 1) := by decide +kernel
theorem dX8_set_14 : decode cX8_set 14 = .ok (.iload_n 2, 1) := by decide +kernel
theorem dX8_set_15 : decode cX8_set 15 = .ok (.invokevirtual 89, 3) := by decide +kernel
theorem dX8_set_18 : decode cX8_set 18 = .ok (.ifCond .eq 12, 3) := by decide +kernel
theorem dX8_set_21 : decode cX8_set 21 = .ok (.aload_n 0, 1) := by decide +kernel
theorem dX8_set_22 : decode cX8_set 22 = .ok (.iload_n 1, 1) := by decide +kernel
theorem dX8_set_23 : decode cX8_set 23 = .ok (.iload_n 3, 1) := by decide +kernel
theorem dX8_set_24 : decode cX8_set 24 = .ok (.invokevirtual 104, 3) := by decide +kernel
theorem dX8_set_27 : decode cX8_set 27 = .ok (.ifCond .ne 6, 3) := by decide +kernel
theorem dX8_set_30 : decode cX8_set 30 = .ok (.bipush (-2), 2) := by decide +kernel
theorem dX8_set_32 : decode cX8_set 32 = .ok (.ireturn, 1) := by decide +kernel
theorem dX8_set_33 : decode cX8_set 33 = .ok (.aload_n 0, 1) := by decide +kernel
theorem dX8_set_34 : decode cX8_set 34 = .ok (.iload_n 2, 1) := by decide +kernel
theorem dX8_set_35 : decode cX8_set 35 = .ok (.iload_n 1, 1) := by decide +kernel
theorem dX8_set_36 : decode cX8_set 36 = .ok (.invokevirtual 108, 3) := by decide +kernel
theorem dX8_set_39 : decode cX8_set 39 = .ok (.istore 4, 2) := by decide +kernel
theorem dX8_set_41 : decode cX8_set 41 = .ok (.iload_n 1, 1) := by decide +kernel
theorem dX8_set_42 : decode cX8_set 42 = .ok (.ifCond .ne 11, 3) := by decide +kernel
theorem dX8_set_45 : decode cX8_set 45 = .ok (.aload_n 0, 1) := by decide +kernel
theorem dX8_set_46 : decode cX8_set 46 = .ok (.iload_n 3, 1) := by decide +kernel
theorem dX8_set_47 : decode cX8_set 47 = .ok (.putfield 94, 3) := by decide +kernel
theorem dX8_set_50 : decode cX8_set 50 = .ok (.goto 25, 3) := by decide +kernel
theorem dX8_set_53 : decode cX8_set 53 = .ok (.iload_n 1, 1) := by decide +kernel
theorem dX8_set_54 : decode cX8_set 54 = .ok (.iconst 1, 1) := by decide +kernel
theorem dX8_set_55 : decode cX8_set 55 = .ok (.if_icmp .ne 13, 3) := by decide +kernel
theorem dX8_set_58 : decode cX8_set 58 = .ok (.aload_n 0, 1) := by decide +kernel
theorem dX8_set_59 : decode cX8_set 59 = .ok (.getfield 13, 3) := by decide +kernel
theorem dX8_set_62 : decode cX8_set 62 = .ok (.iload_n 2, 1) := by decide +kernel
theorem dX8_set_63 : decode cX8_set 63 = .ok (.iload_n 3, 1) := by decide +kernel
theorem dX8_set_64 : decode cX8_set 64 = .ok (.iastore, 1) := by decide +kernel
theorem dX8_set_65 : decode cX8_set 65 = .ok (.goto 10, 3) := by decide +kernel
theorem dX8_set_68 : decode cX8_set 68 = .ok (.aload_n 0, 1) := by decide +kernel
theorem dX8_set_69 : decode cX8_set 69 = .ok (.getfield 16, 3) := by decide +kernel
theorem dX8_set_72 : decode cX8_set 72 = .ok (.iload_n 2, 1) := by decide +kernel
theorem dX8_set_73 : decode cX8_set 73 = .ok (.iload_n 3, 1) := by decide +kernel
theorem dX8_set_74 : decode cX8_set 74 = .ok (.iastore, 1) := by decide +kernel
theorem dX8_set_75 : decode cX8_set 75 = .ok (.iload 4, 2) := by decide +kernel
theorem dX8_set_77 : decode cX8_set 77 = .ok (.ireturn, 1) := by decide +kernel
theorem dX8_heir_0 : decode cX8_heir 0 = .ok (.iload_n 1, 1) := by decide +kernel
theorem dX8_heir_1 : decode cX8_heir 1 = .ok (.iconst 0, 1) := by decide +kernel
theorem dX8_heir_2 : decode cX8_heir 2 = .ok (.iconst 5, 1) := by decide +kernel
theorem dX8_heir_3 : decode cX8_heir 3 = .ok (.invokestatic 85, 3) := by decide +kernel
theorem dX8_heir_6 : decode cX8_heir 6 = .ok (.ifCond .eq 13, 3) := by decide +kernel
theorem dX8_heir_9 : decode cX8_heir 9 = .ok (.iload_n 2, 1) := by decide +kernel
theorem dX8_heir_10 : decode cX8_heir 10 = .ok (.iconst 0, 1) := by decide +kernel
theorem dX8_heir_11 : decode cX8_heir 11 = .ok (.bipush 9, 2) := by decide +kernel
theorem dX8_heir_13 : decode cX8_heir 13 = .ok (.invokestatic 85, 3) := by decide +kernel
theorem dX8_heir_16 : decode cX8_heir 16 = .ok (.ifCond .ne 6, 3) := by decide +kernel
theorem dX8_heir_19 : decode cX8_heir 19 = .ok (.bipush (-2), 2) := by decide +kernel
theorem dX8_heir_21 : decode cX8_heir 21 = .ok (.ireturn, 1) := by decide +kernel
theorem dX8_heir_22 : decode cX8_heir 22 = .ok (.aload_n 0, 1) := by decide +kernel
theorem dX8_heir_23 : decode cX8_heir 23 = .ok (.getfield 82, 3) := by decide +kernel
theorem dX8_heir_26 : decode cX8_heir 26 = .ok (.bipush 6, 2) := by decide +kernel
theorem dX8_heir_28 : decode cX8_heir 28 = .ok (.if_icmp .ne 6, 3) := by decide +kernel
theorem dX8_heir_31 : decode cX8_heir 31 = .ok (.bipush (-4), 2) := by decide +kernel
theorem dX8_heir_33 : decode cX8_heir 33 = .ok (.ireturn, 1) := by decide +kernel
theorem dX8_heir_34 : decode cX8_heir 34 = .ok (.aload_n 0, 1) := by decide +kernel
theorem dX8_heir_35 : decode cX8_heir 35 = .ok (.getfield 7, 3) := by decide +kernel
theorem dX8_heir_38 : decode cX8_heir 38 = .ok (.aload_n 0, 1) := by decide +kernel
theorem dX8_heir_39 : decode cX8_heir 39 = .ok (.getfield 82, 3) := by decide +kernel
theorem dX8_heir_42 : decode cX8_heir 42 = .ok (.iload_n 1, 1) := by decide +kernel
theorem dX8_heir_43 : decode cX8_heir 43 = .ok (.iastore, 1) := by decide +kernel
theorem dX8_heir_44 : decode cX8_heir 44 = .ok (.aload_n 0, 1) := by decide +kernel
theorem dX8_heir_45 : decode cX8_heir 45 = .ok (.getfield 13, 3) := by decide +kernel
theorem dX8_heir_48 : decode cX8_heir 48 = .ok (.aload_n 0, 1) := by decide +kernel
theorem dX8_heir_49 : decode cX8_heir 49 = .ok (.getfield 82, 3) := by decide +kernel
theorem dX8_heir_52 : decode cX8_heir 52 = .ok (.iload_n 2, 1) := by decide +kernel
theorem dX8_heir_53 : decode cX8_heir 53 = .ok (.iastore, 1) := by decide +kernel
theorem dX8_heir_54 : decode cX8_heir 54 = .ok (.aload_n 0, 1) := by decide +kernel
theorem dX8_heir_55 : decode cX8_heir 55 = .ok (.getfield 16, 3) := by decide +kernel
theorem dX8_heir_58 : decode cX8_heir 58 = .ok (.aload_n 0, 1) := by decide +kernel
theorem dX8_heir_59 : decode cX8_heir 59 = .ok (.getfield 82, 3) := by decide +kernel
theorem dX8_heir_62 : decode cX8_heir 62 = .ok (.iconst 0, 1) := by decide +kernel
theorem dX8_heir_63 : decode cX8_heir 63 = .ok (.iastore, 1) := by decide +kernel
theorem dX8_heir_64 : decode cX8_heir 64 = .ok (.aload_n 0, 1) := by decide +kernel
theorem dX8_heir_65 : decode cX8_heir 65 = .ok (.dup, 1) := by decide +kernel
theorem dX8_heir_66 : decode cX8_heir 66 = .ok (.getfield 82, 3) := by decide +kernel
theorem dX8_heir_69 : decode cX8_heir 69 = .ok (.dup_x1, 1) := by decide +kernel
theorem dX8_heir_70 : decode cX8_heir 70 = .ok (.iconst 1, 1) := by decide +kernel
theorem dX8_heir_71 : decode cX8_heir 71 = .ok (.iadd, 1) := by decide +kernel
theorem dX8_heir_72 : decode cX8_heir 72 = .ok (.putfield 82, 3) := by decide +kernel
theorem dX8_heir_75 : decode cX8_heir 75 = .ok (.ireturn, 1) := by decide +kernel
theorem dX8_give_0 : decode cX8_give 0 = .ok (.aload_n 0, 1) := by decide +kernel
theorem dX8_give_1 : decode cX8_give 1 = .ok (.iload_n 1, 1) := by decide +kernel
theorem dX8_give_2 : decode cX8_give 2 = .ok (.iload_n 2, 1) := by decide +kernel
theorem dX8_give_3 : decode cX8_give 3 = .ok (.invokevirtual 112, 3) := by decide +kernel
theorem dX8_give_6 : decode cX8_give 6 = .ok (.ifCond .eq 10, 3) := by decide +kernel
theorem dX8_give_9 : decode cX8_give 9 = .ok (.iload_n 3, 1) := by decide +kernel
theorem dX8_give_10 : decode cX8_give 10 = .ok (.invokestatic 115, 3) := by decide +kernel
theorem dX8_give_13 : decode cX8_give 13 = .ok (.ifCond .ne 6, 3) := by decide +kernel
theorem dX8_give_16 : decode cX8_give 16 = .ok (.bipush (-2), 2) := by decide +kernel
theorem dX8_give_18 : decode cX8_give 18 = .ok (.ireturn, 1) := by decide +kernel
theorem dX8_give_19 : decode cX8_give 19 = .ok (.aload_n 0, 1) := by decide +kernel
theorem dX8_give_20 : decode cX8_give 20 = .ok (.getfield 16, 3) := by decide +kernel
theorem dX8_give_23 : decode cX8_give 23 = .ok (.iload_n 1, 1) := by decide +kernel
theorem dX8_give_24 : decode cX8_give 24 = .ok (.iaload, 1) := by decide +kernel
theorem dX8_give_25 : decode cX8_give 25 = .ok (.iload_n 3, 1) := by decide +kernel
theorem dX8_give_26 : decode cX8_give 26 = .ok (.iconst 1, 1) := by decide +kernel
theorem dX8_give_27 : decode cX8_give 27 = .ok (.isub, 1) := by decide +kernel
theorem dX8_give_28 : decode cX8_give 28 = .ok (.invokestatic 118, 3) := by decide +kernel
theorem dX8_give_31 : decode cX8_give 31 = .ok (.ifCond .eq 18, 3) := by decide +kernel
theorem dX8_give_34 : decode cX8_give 34 = .ok (.aload_n 0, 1) := by decide +kernel
theorem dX8_give_35 : decode cX8_give 35 = .ok (.getfield 16, 3) := by decide +kernel
theorem dX8_give_38 : decode cX8_give 38 = .ok (.iload_n 2, 1) := by decide +kernel
theorem dX8_give_39 : decode cX8_give 39 = .ok (.iaload, 1) := by decide +kernel
theorem dX8_give_40 : decode cX8_give 40 = .ok (.iload_n 3, 1) := by decide +kernel
theorem dX8_give_41 : decode cX8_give 41 = .ok (.iconst 1, 1) := by decide +kernel
theorem dX8_give_42 : decode cX8_give 42 = .ok (.isub, 1) := by decide +kernel
theorem dX8_give_43 : decode cX8_give 43 = .ok (.invokestatic 118, 3) := by decide +kernel
theorem dX8_give_46 : decode cX8_give 46 = .ok (.ifCond .eq 6, 3) := by decide +kernel
theorem dX8_give_49 : decode cX8_give 49 = .ok (.bipush (-3), 2) := by decide +kernel
theorem dX8_give_51 : decode cX8_give 51 = .ok (.ireturn, 1) := by decide +kernel
theorem dX8_give_52 : decode cX8_give 52 = .ok (.aload_n 0, 1) := by decide +kernel
theorem dX8_give_53 : decode cX8_give 53 = .ok (.getfield 16, 3) := by decide +kernel
theorem dX8_give_56 : decode cX8_give 56 = .ok (.iload_n 1, 1) := by decide +kernel
theorem dX8_give_57 : decode cX8_give 57 = .ok (.dup2, 1) := by decide +kernel
theorem dX8_give_58 : decode cX8_give 58 = .ok (.iaload, 1) := by decide +kernel
theorem dX8_give_59 : decode cX8_give 59 = .ok (.iconst 1, 1) := by decide +kernel
theorem dX8_give_60 : decode cX8_give 60 = .ok (.iload_n 3, 1) := by decide +kernel
end
section
theorem dX8_give_61 : decode cX8_give 61 = .ok (.iconst 1, 1) := by decide +kernel
theorem dX8_give_62 : decode cX8_give 62 = .ok (.isub, 1) := by decide +kernel
theorem dX8_give_63 : decode cX8_give 63 = .ok (.ishl, 1) := by decide +kernel
theorem dX8_give_64 : decode cX8_give 64 = .ok (.isub, 1) := by decide +kernel
theorem dX8_give_65 : decode cX8_give 65 = .ok (.iastore, 1) := by decide +kernel
theorem dX8_give_66 : decode cX8_give 66 = .ok (.aload_n 0, 1) := by decide +kernel
theorem dX8_give_67 : decode cX8_give 67 = .ok (.getfield 16, 3) := by decide +kernel
theorem dX8_give_70 : decode cX8_give 70 = .ok (.iload_n 2, 1) := by decide +kernel
theorem dX8_give_71 : decode cX8_give 71 = .ok (.dup2, 1) := by decide +kernel
theorem dX8_give_72 : decode cX8_give 72 = .ok (.iaload, 1) := by decide +kernel
theorem dX8_give_73 : decode cX8_give 73 = .ok (.iconst 1, 1) := by decide +kernel
theorem dX8_give_74 : decode cX8_give 74 = .ok (.iload_n 3, 1) := by decide +kernel
theorem dX8_give_75 : decode cX8_give 75 = .ok (.iconst 1, 1) := by decide +kernel
theorem dX8_give_76 : decode cX8_give 76 = .ok (.isub, 1) := by decide +kernel
theorem dX8_give_77 : decode cX8_give 77 = .ok (.ishl, 1) := by decide +kernel
theorem dX8_give_78 : decode cX8_give 78 = .ok (.iadd, 1) := by decide +kernel
theorem dX8_give_79 : decode cX8_give 79 = .ok (.iastore, 1) := by decide +kernel
theorem dX8_give_80 : decode cX8_give 80 = .ok (.aload_n 0, 1) := by decide +kernel
theorem dX8_give_81 : decode cX8_give 81 = .ok (.getfield 16, 3) := by decide +kernel
theorem dX8_give_84 : decode cX8_give 84 = .ok (.iload_n 1, 1) := by decide +kernel
theorem dX8_give_85 : decode cX8_give 85 = .ok (.iaload, 1) := by decide +kernel
theorem dX8_give_86 : decode cX8_give 86 = .ok (.invokestatic 97, 3) := by decide +kernel
theorem dX8_give_89 : decode cX8_give 89 = .ok (.ireturn, 1) := by decide +kernel
theorem dX8_told_0 : decode cX8_told 0 = .ok (.iload_n 2, 1) := by decide +kernel
theorem dX8_told_1 : decode cX8_told 1 = .ok (.iconst 0, 1) := by decide +kernel
theorem dX8_told_2 : decode cX8_told 2 = .ok (.iconst 5, 1) := by decide +kernel
theorem dX8_told_3 : decode cX8_told 3 = .ok (.invokestatic 85, 3) := by decide +kernel
theorem dX8_told_6 : decode cX8_told 6 = .ok (.ifCond .eq 24, 3) := by decide +kernel
theorem dX8_told_9 : decode cX8_told 9 = .ok (.iload_n 2, 1) := by decide +kernel
theorem dX8_told_10 : decode cX8_told 10 = .ok (.ifCond .eq 11, 3) := by decide +kernel
theorem dX8_told_13 : decode cX8_told 13 = .ok (.aload_n 0, 1) := by decide +kernel
theorem dX8_told_14 : decode cX8_told 14 = .ok (.iload_n 1, 1) := by decide +kernel
theorem dX8_told_15 : decode cX8_told 15 = .ok (.invokevirtual 89, 3) := by decide +kernel
theorem dX8_told_18 : decode cX8_told 18 = .ok (.ifCond .eq 12, 3) := by decide +kernel
theorem dX8_told_21 : decode cX8_told 21 = .ok (.aload_n 0, 1) := by decide +kernel
theorem dX8_told_22 : decode cX8_told 22 = .ok (.iload_n 1, 1) := by decide +kernel
theorem dX8_told_23 : decode cX8_told 23 = .ok (.iload_n 2, 1) := by decide +kernel
theorem dX8_told_24 : decode cX8_told 24 = .ok (.invokevirtual 108, 3) := by decide +kernel
theorem dX8_told_27 : decode cX8_told 27 = .ok (.goto 5, 3) := by decide +kernel
theorem dX8_told_30 : decode cX8_told 30 = .ok (.bipush (-2), 2) := by decide +kernel
theorem dX8_told_32 : decode cX8_told 32 = .ok (.ireturn, 1) := by decide +kernel
theorem dX8_feed_0 : decode cX8_feed 0 = .ok (.iload_n 1, 1) := by decide +kernel
theorem dX8_feed_1 : decode cX8_feed 1 = .ok (.iconst 0, 1) := by decide +kernel
theorem dX8_feed_2 : decode cX8_feed 2 = .ok (.sipush 255, 3) := by decide +kernel
theorem dX8_feed_5 : decode cX8_feed 5 = .ok (.invokestatic 85, 3) := by decide +kernel
theorem dX8_feed_8 : decode cX8_feed 8 = .ok (.ifCond .ne 6, 3) := by decide +kernel
theorem dX8_feed_11 : decode cX8_feed 11 = .ok (.bipush (-2), 2) := by decide +kernel
theorem dX8_feed_13 : decode cX8_feed 13 = .ok (.ireturn, 1) := by decide +kernel
theorem dX8_feed_14 : decode cX8_feed 14 = .ok (.aload_n 0, 1) := by decide +kernel
theorem dX8_feed_15 : decode cX8_feed 15 = .ok (.getfield 121, 3) := by decide +kernel
theorem dX8_feed_18 : decode cX8_feed 18 = .ok (.sipush 160, 3) := by decide +kernel
theorem dX8_feed_21 : decode cX8_feed 21 = .ok (.if_icmp .ne 6, 3) := by decide +kernel
theorem dX8_feed_24 : decode cX8_feed 24 = .ok (.bipush (-4), 2) := by decide +kernel
theorem dX8_feed_26 : decode cX8_feed 26 = .ok (.ireturn, 1) := by decide +kernel
theorem dX8_feed_27 : decode cX8_feed 27 = .ok (.aload_n 0, 1) := by decide +kernel
theorem dX8_feed_28 : decode cX8_feed 28 = .ok (.getfield 19, 3) := by decide +kernel
theorem dX8_feed_31 : decode cX8_feed 31 = .ok (.aload_n 0, 1) := by decide +kernel
theorem dX8_feed_32 : decode cX8_feed 32 = .ok (.dup, 1) := by decide +kernel
theorem dX8_feed_33 : decode cX8_feed 33 = .ok (.getfield 121, 3) := by decide +kernel
theorem dX8_feed_36 : decode cX8_feed 36 = .ok (.dup_x1, 1) := by decide +kernel
theorem dX8_feed_37 : decode cX8_feed 37 = .ok (.iconst 1, 1) := by decide +kernel
theorem dX8_feed_38 : decode cX8_feed 38 = .ok (.iadd, 1) := by decide +kernel
theorem dX8_feed_39 : decode cX8_feed 39 = .ok (.putfield 121, 3) := by decide +kernel
theorem dX8_feed_42 : decode cX8_feed 42 = .ok (.iload_n 1, 1) := by decide +kernel
theorem dX8_feed_43 : decode cX8_feed 43 = .ok (.iastore, 1) := by decide +kernel
theorem dX8_feed_44 : decode cX8_feed 44 = .ok (.aload_n 0, 1) := by decide +kernel
theorem dX8_feed_45 : decode cX8_feed 45 = .ok (.getfield 121, 3) := by decide +kernel
theorem dX8_feed_48 : decode cX8_feed 48 = .ok (.ireturn, 1) := by decide +kernel
theorem dX8_isLetter_0 : decode cX8_isLetter 0 = .ok (.iload_n 0, 1) := by decide +kernel
theorem dX8_isLetter_1 : decode cX8_isLetter 1 = .ok (.bipush 97, 2) := by decide +kernel
theorem dX8_isLetter_3 : decode cX8_isLetter 3 = .ok (.if_icmp .lt 13, 3) := by decide +kernel
theorem dX8_isLetter_6 : decode cX8_isLetter 6 = .ok (.iload_n 0, 1) := by decide +kernel
theorem dX8_isLetter_7 : decode cX8_isLetter 7 = .ok (.bipush 122, 2) := by decide +kernel
theorem dX8_isLetter_9 : decode cX8_isLetter 9 = .ok (.if_icmp .gt 7, 3) := by decide +kernel
theorem dX8_isLetter_12 : decode cX8_isLetter 12 = .ok (.iconst 1, 1) := by decide +kernel
theorem dX8_isLetter_13 : decode cX8_isLetter 13 = .ok (.goto 4, 3) := by decide +kernel
theorem dX8_isLetter_16 : decode cX8_isLetter 16 = .ok (.iconst 0, 1) := by decide +kernel
theorem dX8_isLetter_17 : decode cX8_isLetter 17 = .ok (.ireturn, 1) := by decide +kernel
theorem dX8_isDigit_0 : decode cX8_isDigit 0 = .ok (.iload_n 0, 1) := by decide +kernel
theorem dX8_isDigit_1 : decode cX8_isDigit 1 = .ok (.bipush 48, 2) := by decide +kernel
theorem dX8_isDigit_3 : decode cX8_isDigit 3 = .ok (.if_icmp .lt 13, 3) := by decide +kernel
theorem dX8_isDigit_6 : decode cX8_isDigit 6 = .ok (.iload_n 0, 1) := by decide +kernel
theorem dX8_isDigit_7 : decode cX8_isDigit 7 = .ok (.bipush 57, 2) := by decide +kernel
theorem dX8_isDigit_9 : decode cX8_isDigit 9 = .ok (.if_icmp .gt 7, 3) := by decide +kernel
theorem dX8_isDigit_12 : decode cX8_isDigit 12 = .ok (.iconst 1, 1) := by decide +kernel
theorem dX8_isDigit_13 : decode cX8_isDigit 13 = .ok (.goto 4, 3) := by decide +kernel
theorem dX8_isDigit_16 : decode cX8_isDigit 16 = .ok (.iconst 0, 1) := by decide +kernel
theorem dX8_isDigit_17 : decode cX8_isDigit 17 = .ok (.ireturn, 1) := by decide +kernel
theorem dX8_isSign_0 : decode cX8_isSign 0 = .ok (.iload_n 0, 1) := by decide +kernel
theorem dX8_isSign_1 : decode cX8_isSign 1 = .ok (.tableswitch 105 40 61 #[103, 103, 103, 103, 105, 103, 105, 105, 105, 105, 105, 105, 105, 105, 105, 105, 105, 105, 105, 103, 103, 103], 103) := by decide +kernel
theorem dX8_isSign_104 : decode cX8_isSign 104 = .ok (.iconst 1, 1) := by decide +kernel
theorem dX8_isSign_105 : decode cX8_isSign 105 = .ok (.ireturn, 1) := by decide +kernel
theorem dX8_isSign_106 : decode cX8_isSign 106 = .ok (.iconst 0, 1) := by decide +kernel
theorem dX8_isSign_107 : decode cX8_isSign 107 = .ok (.ireturn, 1) := by decide +kernel
theorem dX8_named_0 : decode cX8_named 0 = .ok (.aload_n 0, 1) := by decide +kernel
theorem dX8_named_1 : decode cX8_named 1 = .ok (.getfield 124, 3) := by decide +kernel
theorem dX8_named_4 : decode cX8_named 4 = .ok (.lookupswitch 72 #[(14, 60), (2968, 70), (11570, 62), (161370, 68), (257011, 66), (267305, 64)], 60) := by decide +kernel
theorem dX8_named_64 : decode cX8_named 64 = .ok (.iconst 0, 1) := by decide +kernel
theorem dX8_named_65 : decode cX8_named 65 = .ok (.ireturn, 1) := by decide +kernel
theorem dX8_named_66 : decode cX8_named 66 = .ok (.iconst 1, 1) := by decide +kernel
theorem dX8_named_67 : decode cX8_named 67 = .ok (.ireturn, 1) := by decide +kernel
theorem dX8_named_68 : decode cX8_named 68 = .ok (.iconst 2, 1) := by decide +kernel
theorem dX8_named_69 : decode cX8_named 69 = .ok (.ireturn, 1) := by decide +kernel
theorem dX8_named_70 : decode cX8_named 70 = .ok (.iconst 3, 1) := by decide +kernel
theorem dX8_named_71 : decode cX8_named 71 = .ok (.ireturn, 1) := by decide +kernel
theorem dX8_named_72 : decode cX8_named 72 = .ok (.iconst 4, 1) := by decide +kernel
theorem dX8_named_73 : decode cX8_named 73 = .ok (.ireturn, 1) := by decide +kernel
theorem dX8_named_74 : decode cX8_named 74 = .ok (.iconst 5, 1) := by decide +kernel
theorem dX8_named_75 : decode cX8_named 75 = .ok (.ireturn, 1) := by decide +kernel
theorem dX8_named_76 : decode cX8_named 76 = .ok (.iconst (-1), 1) := by decide +kernel
theorem dX8_named_77 : decode cX8_named 77 = .ok (.ireturn, 1) := by decide +kernel
theorem dX8_isKey_0 : decode cX8_isKey 0 = .ok (.aload_n 0, 1) := by decide +kernel
theorem dX8_isKey_1 : decode cX8_isKey 1 = .ok (.getfield 124, 3) := by decide +kernel
theorem dX8_isKey_4 : decode cX8_isKey 4 = .ok (.lookupswitch 62 #[(423, 60), (1111, 60), (10631, 60), (375400, 60), (7008275, 60), (12532058, 60)], 60) := by decide +kernel
theorem dX8_isKey_64 : decode cX8_isKey 64 = .ok (.iconst 1, 1) := by decide +kernel
theorem dX8_isKey_65 : decode cX8_isKey 65 = .ok (.ireturn, 1) := by decide +kernel
theorem dX8_isKey_66 : decode cX8_isKey 66 = .ok (.iconst 0, 1) := by decide +kernel
theorem dX8_isKey_67 : decode cX8_isKey 67 = .ok (.ireturn, 1) := by decide +kernel
theorem dX8_next_0 : decode cX8_next 0 = .ok (.aload_n 0, 1) := by decide +kernel
theorem dX8_next_1 : decode cX8_next 1 = .ok (.aload_n 0, 1) := by decide +kernel
theorem dX8_next_2 : decode cX8_next 2 = .ok (.getfield 127, 3) := by decide +kernel
theorem dX8_next_5 : decode cX8_next 5 = .ok (.putfield 130, 3) := by decide +kernel
theorem dX8_next_8 : decode cX8_next 8 = .ok (.aload_n 0, 1) := by decide +kernel
theorem dX8_next_9 : decode cX8_next 9 = .ok (.getfield 130, 3) := by decide +kernel
theorem dX8_next_12 : decode cX8_next 12 = .ok (.aload_n 0, 1) := by decide +kernel
theorem dX8_next_13 : decode cX8_next 13 = .ok (.getfield 121, 3) := by decide +kernel
theorem dX8_next_16 : decode cX8_next 16 = .ok (.if_icmp .ge 44, 3) := by decide +kernel
theorem dX8_next_19 : decode cX8_next 19 = .ok (.aload_n 0, 1) := by decide +kernel
theorem dX8_next_20 : decode cX8_next 20 = .ok (.getfield 19, 3) := by decide +kernel
theorem dX8_next_23 : decode cX8_next 23 = .ok (.aload_n 0, 1) := by decide +kernel
theorem dX8_next_24 : decode cX8_next 24 = .ok (.getfield 130, 3) := by decide +kernel
theorem dX8_next_27 : decode cX8_next 27 = .ok (.iaload, 1) := by decide +kernel
theorem dX8_next_28 : decode cX8_next 28 = .ok (.bipush 32, 2) := by decide +kernel
theorem dX8_next_30 : decode cX8_next 30 = .ok (.if_icmp .eq 17, 3) := by decide +kernel
theorem dX8_next_33 : decode cX8_next 33 = .ok (.aload_n 0, 1) := by decide +kernel
theorem dX8_next_34 : decode cX8_next 34 = .ok (.getfield 19, 3) := by decide +kernel
theorem dX8_next_37 : decode cX8_next 37 = .ok (.aload_n 0, 1) := by decide +kernel
theorem dX8_next_38 : decode cX8_next 38 = .ok (.getfield 130, 3) := by decide +kernel
theorem dX8_next_41 : decode cX8_next 41 = .ok (.iaload, 1) := by decide +kernel
theorem dX8_next_42 : decode cX8_next 42 = .ok (.bipush 10, 2) := by decide +kernel
theorem dX8_next_44 : decode cX8_next 44 = .ok (.if_icmp .ne 16, 3) := by decide +kernel
theorem dX8_next_47 : decode cX8_next 47 = .ok (.aload_n 0, 1) := by decide +kernel
theorem dX8_next_48 : decode cX8_next 48 = .ok (.dup, 1) := by decide +kernel
theorem dX8_next_49 : decode cX8_next 49 = .ok (.getfield 130, 3) := by decide +kernel
theorem dX8_next_52 : decode cX8_next 52 = .ok (.iconst 1, 1) := by decide +kernel
theorem dX8_next_53 : decode cX8_next 53 = .ok (.iadd, 1) := by decide +kernel
theorem dX8_next_54 : decode cX8_next 54 = .ok (.putfield 130, 3) := by decide +kernel
theorem dX8_next_57 : decode cX8_next 57 = .ok (.goto (-49), 3) := by decide +kernel
theorem dX8_next_60 : decode cX8_next 60 = .ok (.aload_n 0, 1) := by decide +kernel
theorem dX8_next_61 : decode cX8_next 61 = .ok (.aload_n 0, 1) := by decide +kernel
theorem dX8_next_62 : decode cX8_next 62 = .ok (.getfield 130, 3) := by decide +kernel
theorem dX8_next_65 : decode cX8_next 65 = .ok (.putfield 127, 3) := by decide +kernel
theorem dX8_next_68 : decode cX8_next 68 = .ok (.aload_n 0, 1) := by decide +kernel
theorem dX8_next_69 : decode cX8_next 69 = .ok (.iconst 0, 1) := by decide +kernel
theorem dX8_next_70 : decode cX8_next 70 = .ok (.putfield 124, 3) := by decide +kernel
theorem dX8_next_73 : decode cX8_next 73 = .ok (.aload_n 0, 1) := by decide +kernel
theorem dX8_next_74 : decode cX8_next 74 = .ok (.getfield 130, 3) := by decide +kernel
theorem dX8_next_77 : decode cX8_next 77 = .ok (.aload_n 0, 1) := by decide +kernel
theorem dX8_next_78 : decode cX8_next 78 = .ok (.getfield 121, 3) := by decide +kernel
theorem dX8_next_81 : decode cX8_next 81 = .ok (.if_icmp .ne 10, 3) := by decide +kernel
theorem dX8_next_84 : decode cX8_next 84 = .ok (.aload_n 0, 1) := by decide +kernel
theorem dX8_next_85 : decode cX8_next 85 = .ok (.bipush 101, 2) := by decide +kernel
theorem dX8_next_87 : decode cX8_next 87 = .ok (.putfield 133, 3) := by decide +kernel
theorem dX8_next_90 : decode cX8_next 90 = .ok (.return_, 1) := by decide +kernel
theorem dX8_next_91 : decode cX8_next 91 = .ok (.aload_n 0, 1) := by decide +kernel
theorem dX8_next_92 : decode cX8_next 92 = .ok (.getfield 19, 3) := by decide +kernel
theorem dX8_next_95 : decode cX8_next 95 = .ok (.aload_n 0, 1) := by decide +kernel
theorem dX8_next_96 : decode cX8_next 96 = .ok (.getfield 130, 3) := by decide +kernel
theorem dX8_next_99 : decode cX8_next 99 = .ok (.iaload, 1) := by decide +kernel
theorem dX8_next_100 : decode cX8_next 100 = .ok (.istore_n 1, 1) := by decide +kernel
theorem dX8_next_101 : decode cX8_next 101 = .ok (.iload_n 1, 1) := by decide +kernel
theorem dX8_next_102 : decode cX8_next 102 = .ok (.invokestatic 136, 3) := by decide +kernel
theorem dX8_next_105 : decode cX8_next 105 = .ok (.ifCond .eq 126, 3) := by decide +kernel
theorem dX8_next_108 : decode cX8_next 108 = .ok (.aload_n 0, 1) := by decide +kernel
theorem dX8_next_109 : decode cX8_next 109 = .ok (.getfield 127, 3) := by decide +kernel
theorem dX8_next_112 : decode cX8_next 112 = .ok (.aload_n 0, 1) := by decide +kernel
theorem dX8_next_113 : decode cX8_next 113 = .ok (.getfield 121, 3) := by decide +kernel
theorem dX8_next_116 : decode cX8_next 116 = .ok (.if_icmp .ge 68, 3) := by decide +kernel
theorem dX8_next_119 : decode cX8_next 119 = .ok (.aload_n 0, 1) := by decide +kernel
theorem dX8_next_120 : decode cX8_next 120 = .ok (.getfield 19, 3) := by decide +kernel
theorem dX8_next_123 : decode cX8_next 123 = .ok (.aload_n 0, 1) := by decide +kernel
theorem dX8_next_124 : decode cX8_next 124 = .ok (.getfield 127, 3) := by decide +kernel
theorem dX8_next_127 : decode cX8_next 127 = .ok (.iaload, 1) := by decide +kernel
theorem dX8_next_128 : decode cX8_next 128 = .ok (.invokestatic 136, 3) := by decide +kernel
theorem dX8_next_131 : decode cX8_next 131 = .ok (.ifCond .eq 53, 3) := by decide +kernel
theorem dX8_next_134 : decode cX8_next 134 = .ok (.aload_n 0, 1) := by decide +kernel
theorem dX8_next_135 : decode cX8_next 135 = .ok (.getfield 127, 3) := by decide +kernel
theorem dX8_next_138 : decode cX8_next 138 = .ok (.aload_n 0, 1) := by decide +kernel
theorem dX8_next_139 : decode cX8_next 139 = .ok (.getfield 130, 3) := by decide +kernel
theorem dX8_next_142 : decode cX8_next 142 = .ok (.isub, 1) := by decide +kernel
theorem dX8_next_143 : decode cX8_next 143 = .ok (.iconst 5, 1) := by decide +kernel
theorem dX8_next_144 : decode cX8_next 144 = .ok (.if_icmp .ge 27, 3) := by decide +kernel
theorem dX8_next_147 : decode cX8_next 147 = .ok (.aload_n 0, 1) := by decide +kernel
theorem dX8_next_148 : decode cX8_next 148 = .ok (.bipush 27, 2) := by decide +kernel
theorem dX8_next_150 : decode cX8_next 150 = .ok (.aload_n 0, 1) := by decide +kernel
theorem dX8_next_151 : decode cX8_next 151 = .ok (.getfield 124, 3) := by decide +kernel
theorem dX8_next_154 : decode cX8_next 154 = .ok (.imul, 1) := by decide +kernel
theorem dX8_next_155 : decode cX8_next 155 = .ok (.aload_n 0, 1) := by decide +kernel
theorem dX8_next_156 : decode cX8_next 156 = .ok (.getfield 19, 3) := by decide +kernel
theorem dX8_next_159 : decode cX8_next 159 = .ok (.aload_n 0, 1) := by decide +kernel
theorem dX8_next_160 : decode cX8_next 160 = .ok (.getfield 127, 3) := by decide +kernel
theorem dX8_next_163 : decode cX8_next 163 = .ok (.iaload, 1) := by decide +kernel
theorem dX8_next_164 : decode cX8_next 164 = .ok (.iadd, 1) := by decide +kernel
theorem dX8_next_165 : decode cX8_next 165 = .ok (.bipush 96, 2) := by decide +kernel
theorem dX8_next_167 : decode cX8_next 167 = .ok (.isub, 1) := by decide +kernel
theorem dX8_next_168 : decode cX8_next 168 = .ok (.putfield 124, 3) := by decide +kernel
theorem dX8_next_171 : decode cX8_next 171 = .ok (.aload_n 0, 1) := by decide +kernel
theorem dX8_next_172 : decode cX8_next 172 = .ok (.dup, 1) := by decide +kernel
theorem dX8_next_173 : decode cX8_next 173 = .ok (.getfield 127, 3) := by decide +kernel
theorem dX8_next_176 : decode cX8_next 176 = .ok (.iconst 1, 1) := by decide +kernel
theorem dX8_next_177 : decode cX8_next 177 = .ok (.iadd, 1) := by decide +kernel
theorem dX8_next_178 : decode cX8_next 178 = .ok (.putfield 127, 3) := by decide +kernel
theorem dX8_next_181 : decode cX8_next 181 = .ok (.goto (-73), 3) := by decide +kernel
theorem dX8_next_184 : decode cX8_next 184 = .ok (.aload_n 0, 1) := by decide +kernel
theorem dX8_next_185 : decode cX8_next 185 = .ok (.getfield 127, 3) := by decide +kernel
theorem dX8_next_188 : decode cX8_next 188 = .ok (.aload_n 0, 1) := by decide +kernel
theorem dX8_next_189 : decode cX8_next 189 = .ok (.getfield 130, 3) := by decide +kernel
theorem dX8_next_192 : decode cX8_next 192 = .ok (.isub, 1) := by decide +kernel
theorem dX8_next_193 : decode cX8_next 193 = .ok (.iconst 5, 1) := by decide +kernel
theorem dX8_next_194 : decode cX8_next 194 = .ok (.if_icmp .le 8, 3) := by decide +kernel
theorem dX8_next_197 : decode cX8_next 197 = .ok (.aload_n 0, 1) := by decide +kernel
theorem dX8_next_198 : decode cX8_next 198 = .ok (.iconst (-1), 1) := by decide +kernel
theorem dX8_next_199 : decode cX8_next 199 = .ok (.putfield 124, 3) := by decide +kernel
theorem dX8_next_202 : decode cX8_next 202 = .ok (.aload_n 0, 1) := by decide +kernel
theorem dX8_next_203 : decode cX8_next 203 = .ok (.aload_n 0, 1) := by decide +kernel
theorem dX8_next_204 : decode cX8_next 204 = .ok (.invokevirtual 139, 3) := by decide +kernel
theorem dX8_next_207 : decode cX8_next 207 = .ok (.iconst (-1), 1) := by decide +kernel
theorem dX8_next_208 : decode cX8_next 208 = .ok (.if_icmp .ne 15, 3) := by decide +kernel
theorem dX8_next_211 : decode cX8_next 211 = .ok (.aload_n 0, 1) := by decide +kernel
theorem dX8_next_212 : decode cX8_next 212 = .ok (.invokevirtual 143, 3) := by decide +kernel
theorem dX8_next_215 : decode cX8_next 215 = .ok (.ifCond .ne 8, 3) := by decide +kernel
theorem dX8_next_218 : decode cX8_next 218 = .ok (.bipush 120, 2) := by decide +kernel
theorem dX8_next_220 : decode cX8_next 220 = .ok (.goto 5, 3) := by decide +kernel
theorem dX8_next_223 : decode cX8_next 223 = .ok (.bipush 119, 2) := by decide +kernel
theorem dX8_next_225 : decode cX8_next 225 = .ok (.putfield 133, 3) := by decide +kernel
theorem dX8_next_228 : decode cX8_next 228 = .ok (.goto 145, 3) := by decide +kernel
theorem dX8_next_231 : decode cX8_next 231 = .ok (.iload_n 1, 1) := by decide +kernel
theorem dX8_next_232 : decode cX8_next 232 = .ok (.invokestatic 147, 3) := by decide +kernel
theorem dX8_next_235 : decode cX8_next 235 = .ok (.ifCond .eq 111, 3) := by decide +kernel
theorem dX8_next_238 : decode cX8_next 238 = .ok (.aload_n 0, 1) := by decide +kernel
theorem dX8_next_239 : decode cX8_next 239 = .ok (.iconst 0, 1) := by decide +kernel
theorem dX8_next_240 : decode cX8_next 240 = .ok (.putfield 150, 3) := by decide +kernel
theorem dX8_next_243 : decode cX8_next 243 = .ok (.aload_n 0, 1) := by decide +kernel
theorem dX8_next_244 : decode cX8_next 244 = .ok (.getfield 127, 3) := by decide +kernel
theorem dX8_next_247 : decode cX8_next 247 = .ok (.aload_n 0, 1) := by decide +kernel
theorem dX8_next_248 : decode cX8_next 248 = .ok (.getfield 121, 3) := by decide +kernel
theorem dX8_next_251 : decode cX8_next 251 = .ok (.if_icmp .ge 68, 3) := by decide +kernel
theorem dX8_next_254 : decode cX8_next 254 = .ok (.aload_n 0, 1) := by decide +kernel
theorem dX8_next_255 : decode cX8_next 255 = .ok (.getfield 19, 3) := by decide +kernel
theorem dX8_next_258 : decode cX8_next 258 = .ok (.aload_n 0, 1) := by decide +kernel
theorem dX8_next_259 : decode cX8_next 259 = .ok (.getfield 127, 3) := by decide +kernel
theorem dX8_next_262 : decode cX8_next 262 = .ok (.iaload, 1) := by decide +kernel
theorem dX8_next_263 : decode cX8_next 263 = .ok (.invokestatic 147, 3) := by decide +kernel
theorem dX8_next_266 : decode cX8_next 266 = .ok (.ifCond .eq 53, 3) := by decide +kernel
theorem dX8_next_269 : decode cX8_next 269 = .ok (.aload_n 0, 1) := by decide +kernel
theorem dX8_next_270 : decode cX8_next 270 = .ok (.getfield 127, 3) := by decide +kernel
theorem dX8_next_273 : decode cX8_next 273 = .ok (.aload_n 0, 1) := by decide +kernel
theorem dX8_next_274 : decode cX8_next 274 = .ok (.getfield 130, 3) := by decide +kernel
theorem dX8_next_277 : decode cX8_next 277 = .ok (.isub, 1) := by decide +kernel
theorem dX8_next_278 : decode cX8_next 278 = .ok (.iconst 4, 1) := by decide +kernel
theorem dX8_next_279 : decode cX8_next 279 = .ok (.if_icmp .ge 27, 3) := by decide +kernel
theorem dX8_next_282 : decode cX8_next 282 = .ok (.aload_n 0, 1) := by decide +kernel
theorem dX8_next_283 : decode cX8_next 283 = .ok (.bipush 10, 2) := by decide +kernel
theorem dX8_next_285 : decode cX8_next 285 = .ok (.aload_n 0, 1) := by decide +kernel
theorem dX8_next_286 : decode cX8_next 286 = .ok (.getfield 150, 3) := by decide +kernel
theorem dX8_next_289 : decode cX8_next 289 = .ok (.imul, 1) := by decide +kernel
theorem dX8_next_290 : decode cX8_next 290 = .ok (.aload_n 0, 1) := by decide +kernel
theorem dX8_next_291 : decode cX8_next 291 = .ok (.getfield 19, 3) := by decide +kernel
theorem dX8_next_294 : decode cX8_next 294 = .ok (.aload_n 0, 1) := by decide +kernel
theorem dX8_next_295 : decode cX8_next 295 = .ok (.getfield 127, 3) := by decide +kernel
theorem dX8_next_298 : decode cX8_next 298 = .ok (.iaload, 1) := by decide +kernel
theorem dX8_next_299 : decode cX8_next 299 = .ok (.iadd, 1) := by decide +kernel
theorem dX8_next_300 : decode cX8_next 300 = .ok (.bipush 48, 2) := by decide +kernel
theorem dX8_next_302 : decode cX8_next 302 = .ok (.isub, 1) := by decide +kernel
theorem dX8_next_303 : decode cX8_next 303 = .ok (.putfield 150, 3) := by decide +kernel
theorem dX8_next_306 : decode cX8_next 306 = .ok (.aload_n 0, 1) := by decide +kernel
theorem dX8_next_307 : decode cX8_next 307 = .ok (.dup, 1) := by decide +kernel
theorem dX8_next_308 : decode cX8_next 308 = .ok (.getfield 127, 3) := by decide +kernel
theorem dX8_next_311 : decode cX8_next 311 = .ok (.iconst 1, 1) := by decide +kernel
theorem dX8_next_312 : decode cX8_next 312 = .ok (.iadd, 1) := by decide +kernel
theorem dX8_next_313 : decode cX8_next 313 = .ok (.putfield 127, 3) := by decide +kernel
theorem dX8_next_316 : decode cX8_next 316 = .ok (.goto (-73), 3) := by decide +kernel
theorem dX8_next_319 : decode cX8_next 319 = .ok (.aload_n 0, 1) := by decide +kernel
theorem dX8_next_320 : decode cX8_next 320 = .ok (.aload_n 0, 1) := by decide +kernel
theorem dX8_next_321 : decode cX8_next 321 = .ok (.getfield 127, 3) := by decide +kernel
theorem dX8_next_324 : decode cX8_next 324 = .ok (.aload_n 0, 1) := by decide +kernel
theorem dX8_next_325 : decode cX8_next 325 = .ok (.getfield 130, 3) := by decide +kernel
theorem dX8_next_328 : decode cX8_next 328 = .ok (.isub, 1) := by decide +kernel
theorem dX8_next_329 : decode cX8_next 329 = .ok (.iconst 4, 1) := by decide +kernel
theorem dX8_next_330 : decode cX8_next 330 = .ok (.if_icmp .le 8, 3) := by decide +kernel
theorem dX8_next_333 : decode cX8_next 333 = .ok (.bipush 120, 2) := by decide +kernel
theorem dX8_next_335 : decode cX8_next 335 = .ok (.goto 5, 3) := by decide +kernel
theorem dX8_next_338 : decode cX8_next 338 = .ok (.bipush 48, 2) := by decide +kernel
theorem dX8_next_340 : decode cX8_next 340 = .ok (.putfield 133, 3) := by decide +kernel
theorem dX8_next_343 : decode cX8_next 343 = .ok (.goto 30, 3) := by decide +kernel
theorem dX8_next_346 : decode cX8_next 346 = .ok (.aload_n 0, 1) := by decide +kernel
theorem dX8_next_347 : decode cX8_next 347 = .ok (.dup, 1) := by decide +kernel
theorem dX8_next_348 : decode cX8_next 348 = .ok (.getfield 127, 3) := by decide +kernel
theorem dX8_next_351 : decode cX8_next 351 = .ok (.iconst 1, 1) := by decide +kernel
theorem dX8_next_352 : decode cX8_next 352 = .ok (.iadd, 1) := by decide +kernel
theorem dX8_next_353 : decode cX8_next 353 = .ok (.putfield 127, 3) := by decide +kernel
theorem dX8_next_356 : decode cX8_next 356 = .ok (.aload_n 0, 1) := by decide +kernel
theorem dX8_next_357 : decode cX8_next 357 = .ok (.iload_n 1, 1) := by decide +kernel
theorem dX8_next_358 : decode cX8_next 358 = .ok (.invokestatic 153, 3) := by decide +kernel
theorem dX8_next_361 : decode cX8_next 361 = .ok (.ifCond .eq 7, 3) := by decide +kernel
theorem dX8_next_364 : decode cX8_next 364 = .ok (.iload_n 1, 1) := by decide +kernel
theorem dX8_next_365 : decode cX8_next 365 = .ok (.goto 5, 3) := by decide +kernel
theorem dX8_next_368 : decode cX8_next 368 = .ok (.bipush 120, 2) := by decide +kernel
theorem dX8_next_370 : decode cX8_next 370 = .ok (.putfield 133, 3) := by decide +kernel
theorem dX8_next_373 : decode cX8_next 373 = .ok (.return_, 1) := by decide +kernel
theorem dX8_takes_0 : decode cX8_takes 0 = .ok (.aload_n 0, 1) := by decide +kernel
theorem dX8_takes_1 : decode cX8_takes 1 = .ok (.getfield 133, 3) := by decide +kernel
theorem dX8_takes_4 : decode cX8_takes 4 = .ok (.bipush 119, 2) := by decide +kernel
theorem dX8_takes_6 : decode cX8_takes 6 = .ok (.if_icmp .ne 11, 3) := by decide +kernel
theorem dX8_takes_9 : decode cX8_takes 9 = .ok (.aload_n 0, 1) := by decide +kernel
theorem dX8_takes_10 : decode cX8_takes 10 = .ok (.getfield 124, 3) := by decide +kernel
theorem dX8_takes_13 : decode cX8_takes 13 = .ok (.iload_n 1, 1) := by decide +kernel
theorem dX8_takes_14 : decode cX8_takes 14 = .ok (.if_icmp .eq 5, 3) := by decide +kernel
theorem dX8_takes_17 : decode cX8_takes 17 = .ok (.iconst 0, 1) := by decide +kernel
theorem dX8_takes_18 : decode cX8_takes 18 = .ok (.ireturn, 1) := by decide +kernel
theorem dX8_takes_19 : decode cX8_takes 19 = .ok (.aload_n 0, 1) := by decide +kernel
theorem dX8_takes_20 : decode cX8_takes 20 = .ok (.invokevirtual 156, 3) := by decide +kernel
theorem dX8_takes_23 : decode cX8_takes 23 = .ok (.iconst 1, 1) := by decide +kernel
theorem dX8_takes_24 : decode cX8_takes 24 = .ok (.ireturn, 1) := by decide +kernel
theorem dX8_codes_0 : decode cX8_codes 0 = .ok (.aload_n 0, 1) := by decide +kernel
theorem dX8_codes_1 : decode cX8_codes 1 = .ok (.getfield 28, 3) := by decide +kernel
theorem dX8_codes_4 : decode cX8_codes 4 = .ok (.aload_n 0, 1) := by decide +kernel
theorem dX8_codes_5 : decode cX8_codes 5 = .ok (.dup, 1) := by decide +kernel
theorem dX8_codes_6 : decode cX8_codes 6 = .ok (.getfield 159, 3) := by decide +kernel
theorem dX8_codes_9 : decode cX8_codes 9 = .ok (.dup_x1, 1) := by decide +kernel
theorem dX8_codes_10 : decode cX8_codes 10 = .ok (.iconst 1, 1) := by decide +kernel
theorem dX8_codes_11 : decode cX8_codes 11 = .ok (.iadd, 1) := by decide +kernel
theorem dX8_codes_12 : decode cX8_codes 12 = .ok (.putfield 159, 3) := by decide +kernel
theorem dX8_codes_15 : decode cX8_codes 15 = .ok (.iload_n 1, 1) := by decide +kernel
theorem dX8_codes_16 : decode cX8_codes 16 = .ok (.iastore, 1) := by decide +kernel
theorem dX8_codes_17 : decode cX8_codes 17 = .ok (.return_, 1) := by decide +kernel
theorem dX8_rank_0 : decode cX8_rank 0 = .ok (.iload_n 0, 1) := by decide +kernel
theorem dX8_rank_1 : decode cX8_rank 1 = .ok (.tableswitch 67 6 14 #[59, 59, 61, 57, 57, 53, 51, 55, 64], 51) := by decide +kernel
theorem dX8_rank_52 : decode cX8_rank 52 = .ok (.iconst 1, 1) := by decide +kernel
theorem dX8_rank_53 : decode cX8_rank 53 = .ok (.ireturn, 1) := by decide +kernel
theorem dX8_rank_54 : decode cX8_rank 54 = .ok (.iconst 2, 1) := by decide +kernel
theorem dX8_rank_55 : decode cX8_rank 55 = .ok (.ireturn, 1) := by decide +kernel
theorem dX8_rank_56 : decode cX8_rank 56 = .ok (.iconst 3, 1) := by decide +kernel
theorem dX8_rank_57 : decode cX8_rank 57 = .ok (.ireturn, 1) := by decide +kernel
theorem dX8_rank_58 : decode cX8_rank 58 = .ok (.iconst 4, 1) := by decide +kernel
theorem dX8_rank_59 : decode cX8_rank 59 = .ok (.ireturn, 1) := by decide +kernel
theorem dX8_rank_60 : decode cX8_rank 60 = .ok (.iconst 5, 1) := by decide +kernel
theorem dX8_rank_61 : decode cX8_rank 61 = .ok (.ireturn, 1) := by decide +kernel
theorem dX8_rank_62 : decode cX8_rank 62 = .ok (.bipush 6, 2) := by decide +kernel
theorem dX8_rank_64 : decode cX8_rank 64 = .ok (.ireturn, 1) := by decide +kernel
theorem dX8_rank_65 : decode cX8_rank 65 = .ok (.bipush 7, 2) := by decide +kernel
theorem dX8_rank_67 : decode cX8_rank 67 = .ok (.ireturn, 1) := by decide +kernel
theorem dX8_rank_68 : decode cX8_rank 68 = .ok (.iconst 0, 1) := by decide +kernel
theorem dX8_rank_69 : decode cX8_rank 69 = .ok (.ireturn, 1) := by decide +kernel
theorem dX8_lays_0 : decode cX8_lays 0 = .ok (.aload_n 0, 1) := by decide +kernel
theorem dX8_lays_1 : decode cX8_lays 1 = .ok (.getfield 162, 3) := by decide +kernel
theorem dX8_lays_4 : decode cX8_lays 4 = .ok (.ifCond .le 85, 3) := by decide +kernel
theorem dX8_lays_7 : decode cX8_lays 7 = .ok (.aload_n 0, 1) := by decide +kernel
theorem dX8_lays_8 : decode cX8_lays 8 = .ok (.getfield 31, 3) := by decide +kernel
theorem dX8_lays_11 : decode cX8_lays 11 = .ok (.aload_n 0, 1) := by decide +kernel
theorem dX8_lays_12 : decode cX8_lays 12 = .ok (.getfield 162, 3) := by decide +kernel
theorem dX8_lays_15 : decode cX8_lays 15 = .ok (.iconst 1, 1) := by decide +kernel
theorem dX8_lays_16 : decode cX8_lays 16 = .ok (.isub, 1) := by decide +kernel
theorem dX8_lays_17 : decode cX8_lays 17 = .ok (.iaload, 1) := by decide +kernel
theorem dX8_lays_18 : decode cX8_lays 18 = .ok (.invokestatic 165, 3) := by decide +kernel
theorem dX8_lays_21 : decode cX8_lays 21 = .ok (.iload_n 1, 1) := by decide +kernel
theorem dX8_lays_22 : decode cX8_lays 22 = .ok (.if_icmp .lt 67, 3) := by decide +kernel
theorem dX8_lays_25 : decode cX8_lays 25 = .ok (.aload_n 0, 1) := by decide +kernel
theorem dX8_lays_26 : decode cX8_lays 26 = .ok (.dup, 1) := by decide +kernel
theorem dX8_lays_27 : decode cX8_lays 27 = .ok (.getfield 162, 3) := by decide +kernel
theorem dX8_lays_30 : decode cX8_lays 30 = .ok (.iconst 1, 1) := by decide +kernel
theorem dX8_lays_31 : decode cX8_lays 31 = .ok (.isub, 1) := by decide +kernel
theorem dX8_lays_32 : decode cX8_lays 32 = .ok (.putfield 162, 3) := by decide +kernel
theorem dX8_lays_35 : decode cX8_lays 35 = .ok (.aload_n 0, 1) := by decide +kernel
theorem dX8_lays_36 : decode cX8_lays 36 = .ok (.aload_n 0, 1) := by decide +kernel
theorem dX8_lays_37 : decode cX8_lays 37 = .ok (.getfield 31, 3) := by decide +kernel
theorem dX8_lays_40 : decode cX8_lays 40 = .ok (.aload_n 0, 1) := by decide +kernel
theorem dX8_lays_41 : decode cX8_lays 41 = .ok (.getfield 162, 3) := by decide +kernel
theorem dX8_lays_44 : decode cX8_lays 44 = .ok (.iaload, 1) := by decide +kernel
theorem dX8_lays_45 : decode cX8_lays 45 = .ok (.invokevirtual 74, 3) := by decide +kernel
theorem dX8_lays_48 : decode cX8_lays 48 = .ok (.aload_n 0, 1) := by decide +kernel
theorem dX8_lays_49 : decode cX8_lays 49 = .ok (.getfield 31, 3) := by decide +kernel
theorem dX8_lays_52 : decode cX8_lays 52 = .ok (.aload_n 0, 1) := by decide +kernel
theorem dX8_lays_53 : decode cX8_lays 53 = .ok (.getfield 162, 3) := by decide +kernel
theorem dX8_lays_56 : decode cX8_lays 56 = .ok (.iaload, 1) := by decide +kernel
theorem dX8_lays_57 : decode cX8_lays 57 = .ok (.bipush 13, 2) := by decide +kernel
theorem dX8_lays_59 : decode cX8_lays 59 = .ok (.if_icmp .eq 17, 3) := by decide +kernel
theorem dX8_lays_62 : decode cX8_lays 62 = .ok (.aload_n 0, 1) := by decide +kernel
theorem dX8_lays_63 : decode cX8_lays 63 = .ok (.getfield 31, 3) := by decide +kernel
theorem dX8_lays_66 : decode cX8_lays 66 = .ok (.aload_n 0, 1) := by decide +kernel
theorem dX8_lays_67 : decode cX8_lays 67 = .ok (.getfield 162, 3) := by decide +kernel
theorem dX8_lays_70 : decode cX8_lays 70 = .ok (.iaload, 1) := by decide +kernel
theorem dX8_lays_71 : decode cX8_lays 71 = .ok (.bipush 14, 2) := by decide +kernel
theorem dX8_lays_73 : decode cX8_lays 73 = .ok (.if_icmp .ne (-73), 3) := by decide +kernel
theorem dX8_lays_76 : decode cX8_lays 76 = .ok (.aload_n 0, 1) := by decide +kernel
theorem dX8_lays_77 : decode cX8_lays 77 = .ok (.dup, 1) := by decide +kernel
theorem dX8_lays_78 : decode cX8_lays 78 = .ok (.getfield 168, 3) := by decide +kernel
theorem dX8_lays_81 : decode cX8_lays 81 = .ok (.iconst 1, 1) := by decide +kernel
theorem dX8_lays_82 : decode cX8_lays 82 = .ok (.isub, 1) := by decide +kernel
theorem dX8_lays_83 : decode cX8_lays 83 = .ok (.putfield 168, 3) := by decide +kernel
theorem dX8_lays_86 : decode cX8_lays 86 = .ok (.goto (-86), 3) := by decide +kernel
theorem dX8_lays_89 : decode cX8_lays 89 = .ok (.return_, 1) := by decide +kernel
theorem dX8_push_0 : decode cX8_push 0 = .ok (.aload_n 0, 1) := by decide +kernel
theorem dX8_push_1 : decode cX8_push 1 = .ok (.getfield 31, 3) := by decide +kernel
theorem dX8_push_4 : decode cX8_push 4 = .ok (.aload_n 0, 1) := by decide +kernel
theorem dX8_push_5 : decode cX8_push 5 = .ok (.dup, 1) := by decide +kernel
theorem dX8_push_6 : decode cX8_push 6 = .ok (.getfield 162, 3) := by decide +kernel
theorem dX8_push_9 : decode cX8_push 9 = .ok (.dup_x1, 1) := by decide +kernel
theorem dX8_push_10 : decode cX8_push 10 = .ok (.iconst 1, 1) := by decide +kernel
theorem dX8_push_11 : decode cX8_push 11 = .ok (.iadd, 1) := by decide +kernel
theorem dX8_push_12 : decode cX8_push 12 = .ok (.putfield 162, 3) := by decide +kernel
theorem dX8_push_15 : decode cX8_push 15 = .ok (.iload_n 1, 1) := by decide +kernel
theorem dX8_push_16 : decode cX8_push 16 = .ok (.iastore, 1) := by decide +kernel
theorem dX8_push_17 : decode cX8_push 17 = .ok (.iload_n 1, 1) := by decide +kernel
theorem dX8_push_18 : decode cX8_push 18 = .ok (.bipush 13, 2) := by decide +kernel
theorem dX8_push_20 : decode cX8_push 20 = .ok (.if_icmp .eq 16, 3) := by decide +kernel
theorem dX8_push_23 : decode cX8_push 23 = .ok (.iload_n 1, 1) := by decide +kernel
theorem dX8_push_24 : decode cX8_push 24 = .ok (.bipush 14, 2) := by decide +kernel
theorem dX8_push_26 : decode cX8_push 26 = .ok (.if_icmp .eq 10, 3) := by decide +kernel
theorem dX8_push_29 : decode cX8_push 29 = .ok (.iload_n 1, 1) := by decide +kernel
theorem dX8_push_30 : decode cX8_push 30 = .ok (.invokestatic 165, 3) := by decide +kernel
theorem dX8_push_33 : decode cX8_push 33 = .ok (.ifCond .ne 13, 3) := by decide +kernel
theorem dX8_push_36 : decode cX8_push 36 = .ok (.aload_n 0, 1) := by decide +kernel
theorem dX8_push_37 : decode cX8_push 37 = .ok (.dup, 1) := by decide +kernel
theorem dX8_push_38 : decode cX8_push 38 = .ok (.getfield 168, 3) := by decide +kernel
theorem dX8_push_41 : decode cX8_push 41 = .ok (.iconst 1, 1) := by decide +kernel
theorem dX8_push_42 : decode cX8_push 42 = .ok (.iadd, 1) := by decide +kernel
theorem dX8_push_43 : decode cX8_push 43 = .ok (.putfield 168, 3) := by decide +kernel
theorem dX8_push_46 : decode cX8_push 46 = .ok (.return_, 1) := by decide +kernel
theorem dX8_one_0 : decode cX8_one 0 = .ok (.aload_n 0, 1) := by decide +kernel
theorem dX8_one_1 : decode cX8_one 1 = .ok (.getfield 133, 3) := by decide +kernel
theorem dX8_one_4 : decode cX8_one 4 = .ok (.bipush 119, 2) := by decide +kernel
theorem dX8_one_6 : decode cX8_one 6 = .ok (.if_icmp .ne 10, 3) := by decide +kernel
theorem dX8_one_9 : decode cX8_one 9 = .ok (.aload_n 0, 1) := by decide +kernel
theorem dX8_one_10 : decode cX8_one 10 = .ok (.invokevirtual 139, 3) := by decide +kernel
theorem dX8_one_13 : decode cX8_one 13 = .ok (.goto 4, 3) := by decide +kernel
theorem dX8_one_16 : decode cX8_one 16 = .ok (.iconst (-1), 1) := by decide +kernel
theorem dX8_one_17 : decode cX8_one 17 = .ok (.istore_n 2, 1) := by decide +kernel
theorem dX8_one_18 : decode cX8_one 18 = .ok (.aload_n 0, 1) := by decide +kernel
theorem dX8_one_19 : decode cX8_one 19 = .ok (.getfield 133, 3) := by decide +kernel
theorem dX8_one_22 : decode cX8_one 22 = .ok (.bipush 48, 2) := by decide +kernel
theorem dX8_one_24 : decode cX8_one 24 = .ok (.if_icmp .eq 8, 3) := by decide +kernel
theorem dX8_one_27 : decode cX8_one 27 = .ok (.iload_n 2, 1) := by decide +kernel
theorem dX8_one_28 : decode cX8_one 28 = .ok (.iconst (-1), 1) := by decide +kernel
theorem dX8_one_29 : decode cX8_one 29 = .ok (.if_icmp .eq 36, 3) := by decide +kernel
theorem dX8_one_32 : decode cX8_one 32 = .ok (.aload_n 0, 1) := by decide +kernel
theorem dX8_one_33 : decode cX8_one 33 = .ok (.iload_n 2, 1) := by decide +kernel
theorem dX8_one_34 : decode cX8_one 34 = .ok (.iconst (-1), 1) := by decide +kernel
theorem dX8_one_35 : decode cX8_one 35 = .ok (.if_icmp .ne 13, 3) := by decide +kernel
theorem dX8_one_38 : decode cX8_one 38 = .ok (.bipush 15, 2) := by decide +kernel
theorem dX8_one_40 : decode cX8_one 40 = .ok (.aload_n 0, 1) := by decide +kernel
theorem dX8_one_41 : decode cX8_one 41 = .ok (.getfield 150, 3) := by decide +kernel
theorem dX8_one_44 : decode cX8_one 44 = .ok (.iadd, 1) := by decide +kernel
theorem dX8_one_45 : decode cX8_one 45 = .ok (.goto 4, 3) := by decide +kernel
theorem dX8_one_48 : decode cX8_one 48 = .ok (.iload_n 2, 1) := by decide +kernel
theorem dX8_one_49 : decode cX8_one 49 = .ok (.invokevirtual 74, 3) := by decide +kernel
theorem dX8_one_52 : decode cX8_one 52 = .ok (.aload_n 0, 1) := by decide +kernel
theorem dX8_one_53 : decode cX8_one 53 = .ok (.bipush 7, 2) := by decide +kernel
theorem dX8_one_55 : decode cX8_one 55 = .ok (.invokevirtual 171, 3) := by decide +kernel
theorem dX8_one_58 : decode cX8_one 58 = .ok (.aload_n 0, 1) := by decide +kernel
theorem dX8_one_59 : decode cX8_one 59 = .ok (.iconst 1, 1) := by decide +kernel
theorem dX8_one_60 : decode cX8_one 60 = .ok (.putfield 174, 3) := by decide +kernel
theorem dX8_one_63 : decode cX8_one 63 = .ok (.iconst 1, 1) := by decide +kernel
theorem dX8_one_64 : decode cX8_one 64 = .ok (.ireturn, 1) := by decide +kernel
theorem dX8_one_65 : decode cX8_one 65 = .ok (.iload_n 1, 1) := by decide +kernel
theorem dX8_one_66 : decode cX8_one 66 = .ok (.ifCond .eq 26, 3) := by decide +kernel
theorem dX8_one_69 : decode cX8_one 69 = .ok (.aload_n 0, 1) := by decide +kernel
theorem dX8_one_70 : decode cX8_one 70 = .ok (.getfield 133, 3) := by decide +kernel
theorem dX8_one_73 : decode cX8_one 73 = .ok (.bipush 119, 2) := by decide +kernel
theorem dX8_one_75 : decode cX8_one 75 = .ok (.if_icmp .ne 17, 3) := by decide +kernel
theorem dX8_one_78 : decode cX8_one 78 = .ok (.aload_n 0, 1) := by decide +kernel
theorem dX8_one_79 : decode cX8_one 79 = .ok (.getfield 124, 3) := by decide +kernel
theorem dX8_one_82 : decode cX8_one 82 = .ok (.sipush 10631, 3) := by decide +kernel
theorem dX8_one_85 : decode cX8_one 85 = .ok (.if_icmp .ne 7, 3) := by decide +kernel
theorem dX8_one_88 : decode cX8_one 88 = .ok (.iconst 1, 1) := by decide +kernel
theorem dX8_one_89 : decode cX8_one 89 = .ok (.goto 4, 3) := by decide +kernel
theorem dX8_one_92 : decode cX8_one 92 = .ok (.iconst 0, 1) := by decide +kernel
theorem dX8_one_93 : decode cX8_one 93 = .ok (.istore_n 3, 1) := by decide +kernel
theorem dX8_one_94 : decode cX8_one 94 = .ok (.iload_n 3, 1) := by decide +kernel
theorem dX8_one_95 : decode cX8_one 95 = .ok (.ifCond .ne 21, 3) := by decide +kernel
theorem dX8_one_98 : decode cX8_one 98 = .ok (.aload_n 0, 1) := by decide +kernel
theorem dX8_one_99 : decode cX8_one 99 = .ok (.getfield 133, 3) := by decide +kernel
theorem dX8_one_102 : decode cX8_one 102 = .ok (.bipush 45, 2) := by decide +kernel
theorem dX8_one_104 : decode cX8_one 104 = .ok (.if_icmp .eq 12, 3) := by decide +kernel
theorem dX8_one_107 : decode cX8_one 107 = .ok (.aload_n 0, 1) := by decide +kernel
theorem dX8_one_108 : decode cX8_one 108 = .ok (.getfield 133, 3) := by decide +kernel
theorem dX8_one_111 : decode cX8_one 111 = .ok (.bipush 40, 2) := by decide +kernel
theorem dX8_one_113 : decode cX8_one 113 = .ok (.if_icmp .ne 11, 3) := by decide +kernel
theorem dX8_one_116 : decode cX8_one 116 = .ok (.aload_n 0, 1) := by decide +kernel
theorem dX8_one_117 : decode cX8_one 117 = .ok (.getfield 168, 3) := by decide +kernel
theorem dX8_one_120 : decode cX8_one 120 = .ok (.iconst 5, 1) := by decide +kernel
theorem dX8_one_121 : decode cX8_one 121 = .ok (.if_icmp .ne 5, 3) := by decide +kernel
theorem dX8_one_124 : decode cX8_one 124 = .ok (.iconst 0, 1) := by decide +kernel
theorem dX8_one_125 : decode cX8_one 125 = .ok (.ireturn, 1) := by decide +kernel
theorem dX8_one_126 : decode cX8_one 126 = .ok (.aload_n 0, 1) := by decide +kernel
theorem dX8_one_127 : decode cX8_one 127 = .ok (.getfield 133, 3) := by decide +kernel
theorem dX8_one_130 : decode cX8_one 130 = .ok (.bipush 40, 2) := by decide +kernel
theorem dX8_one_132 : decode cX8_one 132 = .ok (.if_icmp .ne 28, 3) := by decide +kernel
theorem dX8_one_135 : decode cX8_one 135 = .ok (.aload_n 0, 1) := by decide +kernel
theorem dX8_one_136 : decode cX8_one 136 = .ok (.aload_n 0, 1) := by decide +kernel
theorem dX8_one_137 : decode cX8_one 137 = .ok (.getfield 178, 3) := by decide +kernel
theorem dX8_one_140 : decode cX8_one 140 = .ok (.ifCond .eq 8, 3) := by decide +kernel
theorem dX8_one_143 : decode cX8_one 143 = .ok (.bipush (-2), 2) := by decide +kernel
theorem dX8_one_145 : decode cX8_one 145 = .ok (.goto 4, 3) := by decide +kernel
theorem dX8_one_148 : decode cX8_one 148 = .ok (.iconst (-1), 1) := by decide +kernel
theorem dX8_one_149 : decode cX8_one 149 = .ok (.invokevirtual 181, 3) := by decide +kernel
theorem dX8_one_152 : decode cX8_one 152 = .ok (.aload_n 0, 1) := by decide +kernel
theorem dX8_one_153 : decode cX8_one 153 = .ok (.iconst 0, 1) := by decide +kernel
theorem dX8_one_154 : decode cX8_one 154 = .ok (.putfield 178, 3) := by decide +kernel
theorem dX8_one_157 : decode cX8_one 157 = .ok (.goto 18, 3) := by decide +kernel
theorem dX8_one_160 : decode cX8_one 160 = .ok (.aload_n 0, 1) := by decide +kernel
theorem dX8_one_161 : decode cX8_one 161 = .ok (.iload_n 3, 1) := by decide +kernel
theorem dX8_one_162 : decode cX8_one 162 = .ok (.ifCond .eq 8, 3) := by decide +kernel
theorem dX8_one_165 : decode cX8_one 165 = .ok (.bipush 13, 2) := by decide +kernel
theorem dX8_one_167 : decode cX8_one 167 = .ok (.goto 5, 3) := by decide +kernel
theorem dX8_one_170 : decode cX8_one 170 = .ok (.bipush 14, 2) := by decide +kernel
theorem dX8_one_172 : decode cX8_one 172 = .ok (.invokevirtual 181, 3) := by decide +kernel
theorem dX8_one_175 : decode cX8_one 175 = .ok (.aload_n 0, 1) := by decide +kernel
theorem dX8_one_176 : decode cX8_one 176 = .ok (.aload_n 0, 1) := by decide +kernel
theorem dX8_one_177 : decode cX8_one 177 = .ok (.getfield 133, 3) := by decide +kernel
theorem dX8_one_180 : decode cX8_one 180 = .ok (.bipush 45, 2) := by decide +kernel
theorem dX8_one_182 : decode cX8_one 182 = .ok (.if_icmp .eq 7, 3) := by decide +kernel
theorem dX8_one_185 : decode cX8_one 185 = .ok (.iconst 1, 1) := by decide +kernel
theorem dX8_one_186 : decode cX8_one 186 = .ok (.goto 4, 3) := by decide +kernel
theorem dX8_one_189 : decode cX8_one 189 = .ok (.iconst 0, 1) := by decide +kernel
theorem dX8_one_190 : decode cX8_one 190 = .ok (.putfield 184, 3) := by decide +kernel
theorem dX8_one_193 : decode cX8_one 193 = .ok (.iconst 1, 1) := by decide +kernel
theorem dX8_one_194 : decode cX8_one 194 = .ok (.ireturn, 1) := by decide +kernel
theorem dX8_signed_0 : decode cX8_signed 0 = .ok (.aload_n 0, 1) := by decide +kernel
theorem dX8_signed_1 : decode cX8_signed 1 = .ok (.getfield 133, 3) := by decide +kernel
theorem dX8_signed_4 : decode cX8_signed 4 = .ok (.lookupswitch 129 #[(42, 60), (43, 63), (45, 66), (60, 69), (61, 83), (119, 97)], 60) := by decide +kernel
theorem dX8_signed_64 : decode cX8_signed 64 = .ok (.bipush 8, 2) := by decide +kernel
theorem dX8_signed_66 : decode cX8_signed 66 = .ok (.ireturn, 1) := by decide +kernel
theorem dX8_signed_67 : decode cX8_signed 67 = .ok (.bipush 6, 2) := by decide +kernel
theorem dX8_signed_69 : decode cX8_signed 69 = .ok (.ireturn, 1) := by decide +kernel
theorem dX8_signed_70 : decode cX8_signed 70 = .ok (.bipush 7, 2) := by decide +kernel
theorem dX8_signed_72 : decode cX8_signed 72 = .ok (.ireturn, 1) := by decide +kernel
theorem dX8_signed_73 : decode cX8_signed 73 = .ok (.aload_n 0, 1) := by decide +kernel
theorem dX8_signed_74 : decode cX8_signed 74 = .ok (.getfield 178, 3) := by decide +kernel
theorem dX8_signed_77 : decode cX8_signed 77 = .ok (.ifCond .eq 7, 3) := by decide +kernel
theorem dX8_signed_80 : decode cX8_signed 80 = .ok (.iconst (-1), 1) := by decide +kernel
theorem dX8_signed_81 : decode cX8_signed 81 = .ok (.goto 5, 3) := by decide +kernel
theorem dX8_signed_84 : decode cX8_signed 84 = .ok (.bipush 9, 2) := by decide +kernel
theorem dX8_signed_86 : decode cX8_signed 86 = .ok (.ireturn, 1) := by decide +kernel
theorem dX8_signed_87 : decode cX8_signed 87 = .ok (.aload_n 0, 1) := by decide +kernel
theorem dX8_signed_88 : decode cX8_signed 88 = .ok (.getfield 178, 3) := by decide +kernel
theorem dX8_signed_91 : decode cX8_signed 91 = .ok (.ifCond .eq 7, 3) := by decide +kernel
theorem dX8_signed_94 : decode cX8_signed 94 = .ok (.iconst (-1), 1) := by decide +kernel
theorem dX8_signed_95 : decode cX8_signed 95 = .ok (.goto 5, 3) := by decide +kernel
theorem dX8_signed_98 : decode cX8_signed 98 = .ok (.bipush 10, 2) := by decide +kernel
theorem dX8_signed_100 : decode cX8_signed 100 = .ok (.ireturn, 1) := by decide +kernel
theorem dX8_signed_101 : decode cX8_signed 101 = .ok (.aload_n 0, 1) := by decide +kernel
theorem dX8_signed_102 : decode cX8_signed 102 = .ok (.getfield 124, 3) := by decide +kernel
theorem dX8_signed_105 : decode cX8_signed 105 = .ok (.sipush 1111, 3) := by decide +kernel
theorem dX8_signed_108 : decode cX8_signed 108 = .ok (.if_icmp .ne 8, 3) := by decide +kernel
theorem dX8_signed_111 : decode cX8_signed 111 = .ok (.bipush 11, 2) := by decide +kernel
theorem dX8_signed_113 : decode cX8_signed 113 = .ok (.goto 19, 3) := by decide +kernel
theorem dX8_signed_116 : decode cX8_signed 116 = .ok (.aload_n 0, 1) := by decide +kernel
theorem dX8_signed_117 : decode cX8_signed 117 = .ok (.getfield 124, 3) := by decide +kernel
theorem dX8_signed_120 : decode cX8_signed 120 = .ok (.sipush 423, 3) := by decide +kernel
theorem dX8_signed_123 : decode cX8_signed 123 = .ok (.if_icmp .ne 8, 3) := by decide +kernel
theorem dX8_signed_126 : decode cX8_signed 126 = .ok (.bipush 12, 2) := by decide +kernel
theorem dX8_signed_128 : decode cX8_signed 128 = .ok (.goto 4, 3) := by decide +kernel
theorem dX8_signed_131 : decode cX8_signed 131 = .ok (.iconst (-1), 1) := by decide +kernel
theorem dX8_signed_132 : decode cX8_signed 132 = .ok (.ireturn, 1) := by decide +kernel
theorem dX8_signed_133 : decode cX8_signed 133 = .ok (.iconst (-1), 1) := by decide +kernel
theorem dX8_signed_134 : decode cX8_signed 134 = .ok (.ireturn, 1) := by decide +kernel
theorem dX8_closes_0 : decode cX8_closes 0 = .ok (.aload_n 0, 1) := by decide +kernel
theorem dX8_closes_1 : decode cX8_closes 1 = .ok (.iconst 1, 1) := by decide +kernel
theorem dX8_closes_2 : decode cX8_closes 2 = .ok (.invokevirtual 171, 3) := by decide +kernel
theorem dX8_closes_5 : decode cX8_closes 5 = .ok (.aload_n 0, 1) := by decide +kernel
theorem dX8_closes_6 : decode cX8_closes 6 = .ok (.getfield 162, 3) := by decide +kernel
theorem dX8_closes_9 : decode cX8_closes 9 = .ok (.ifCond .ne 5, 3) := by decide +kernel
theorem dX8_closes_12 : decode cX8_closes 12 = .ok (.iconst 0, 1) := by decide +kernel
theorem dX8_closes_13 : decode cX8_closes 13 = .ok (.ireturn, 1) := by decide +kernel
theorem dX8_closes_14 : decode cX8_closes 14 = .ok (.aload_n 0, 1) := by decide +kernel
theorem dX8_closes_15 : decode cX8_closes 15 = .ok (.dup, 1) := by decide +kernel
theorem dX8_closes_16 : decode cX8_closes 16 = .ok (.getfield 162, 3) := by decide +kernel
theorem dX8_closes_19 : decode cX8_closes 19 = .ok (.iconst 1, 1) := by decide +kernel
theorem dX8_closes_20 : decode cX8_closes 20 = .ok (.isub, 1) := by decide +kernel
theorem dX8_closes_21 : decode cX8_closes 21 = .ok (.putfield 162, 3) := by decide +kernel
theorem dX8_closes_24 : decode cX8_closes 24 = .ok (.aload_n 0, 1) := by decide +kernel
theorem dX8_closes_25 : decode cX8_closes 25 = .ok (.aload_n 0, 1) := by decide +kernel
theorem dX8_closes_26 : decode cX8_closes 26 = .ok (.getfield 31, 3) := by decide +kernel
theorem dX8_closes_29 : decode cX8_closes 29 = .ok (.aload_n 0, 1) := by decide +kernel
theorem dX8_closes_30 : decode cX8_closes 30 = .ok (.getfield 162, 3) := by decide +kernel
theorem dX8_closes_33 : decode cX8_closes 33 = .ok (.iaload, 1) := by decide +kernel
theorem dX8_closes_34 : decode cX8_closes 34 = .ok (.bipush (-2), 2) := by decide +kernel
theorem dX8_closes_36 : decode cX8_closes 36 = .ok (.if_icmp .ne 7, 3) := by decide +kernel
theorem dX8_closes_39 : decode cX8_closes 39 = .ok (.iconst 1, 1) := by decide +kernel
theorem dX8_closes_40 : decode cX8_closes 40 = .ok (.goto 4, 3) := by decide +kernel
theorem dX8_closes_43 : decode cX8_closes 43 = .ok (.iconst 0, 1) := by decide +kernel
theorem dX8_closes_44 : decode cX8_closes 44 = .ok (.putfield 178, 3) := by decide +kernel
theorem dX8_closes_47 : decode cX8_closes 47 = .ok (.aload_n 0, 1) := by decide +kernel
theorem dX8_closes_48 : decode cX8_closes 48 = .ok (.dup, 1) := by decide +kernel
theorem dX8_closes_49 : decode cX8_closes 49 = .ok (.getfield 168, 3) := by decide +kernel
theorem dX8_closes_52 : decode cX8_closes 52 = .ok (.iconst 1, 1) := by decide +kernel
theorem dX8_closes_53 : decode cX8_closes 53 = .ok (.isub, 1) := by decide +kernel
theorem dX8_closes_54 : decode cX8_closes 54 = .ok (.putfield 168, 3) := by decide +kernel
theorem dX8_closes_57 : decode cX8_closes 57 = .ok (.aload_n 0, 1) := by decide +kernel
theorem dX8_closes_58 : decode cX8_closes 58 = .ok (.bipush 7, 2) := by decide +kernel
theorem dX8_closes_60 : decode cX8_closes 60 = .ok (.invokevirtual 171, 3) := by decide +kernel
theorem dX8_closes_63 : decode cX8_closes 63 = .ok (.iconst 1, 1) := by decide +kernel
theorem dX8_closes_64 : decode cX8_closes 64 = .ok (.ireturn, 1) := by decide +kernel
theorem dX8_goesOn_0 : decode cX8_goesOn 0 = .ok (.aload_n 0, 1) := by decide +kernel
theorem dX8_goesOn_1 : decode cX8_goesOn 1 = .ok (.getfield 174, 3) := by decide +kernel
theorem dX8_goesOn_4 : decode cX8_goesOn 4 = .ok (.ifCond .ne 12, 3) := by decide +kernel
theorem dX8_goesOn_7 : decode cX8_goesOn 7 = .ok (.aload_n 0, 1) := by decide +kernel
theorem dX8_goesOn_8 : decode cX8_goesOn 8 = .ok (.aload_n 0, 1) := by decide +kernel
theorem dX8_goesOn_9 : decode cX8_goesOn 9 = .ok (.getfield 184, 3) := by decide +kernel
theorem dX8_goesOn_12 : decode cX8_goesOn 12 = .ok (.invokevirtual 187, 3) := by decide +kernel
theorem dX8_goesOn_15 : decode cX8_goesOn 15 = .ok (.ireturn, 1) := by decide +kernel
theorem dX8_goesOn_16 : decode cX8_goesOn 16 = .ok (.aload_n 0, 1) := by decide +kernel
theorem dX8_goesOn_17 : decode cX8_goesOn 17 = .ok (.getfield 133, 3) := by decide +kernel
theorem dX8_goesOn_20 : decode cX8_goesOn 20 = .ok (.bipush 41, 2) := by decide +kernel
theorem dX8_goesOn_22 : decode cX8_goesOn 22 = .ok (.if_icmp .ne 8, 3) := by decide +kernel
theorem dX8_goesOn_25 : decode cX8_goesOn 25 = .ok (.aload_n 0, 1) := by decide +kernel
theorem dX8_goesOn_26 : decode cX8_goesOn 26 = .ok (.invokevirtual 191, 3) := by decide +kernel
theorem dX8_goesOn_29 : decode cX8_goesOn 29 = .ok (.ireturn, 1) := by decide +kernel
theorem dX8_goesOn_30 : decode cX8_goesOn 30 = .ok (.aload_n 0, 1) := by decide +kernel
theorem dX8_goesOn_31 : decode cX8_goesOn 31 = .ok (.invokevirtual 194, 3) := by decide +kernel
theorem dX8_goesOn_34 : decode cX8_goesOn 34 = .ok (.istore_n 1, 1) := by decide +kernel
theorem dX8_goesOn_35 : decode cX8_goesOn 35 = .ok (.iload_n 1, 1) := by decide +kernel
theorem dX8_goesOn_36 : decode cX8_goesOn 36 = .ok (.iconst (-1), 1) := by decide +kernel
theorem dX8_goesOn_37 : decode cX8_goesOn 37 = .ok (.if_icmp .ne 5, 3) := by decide +kernel
theorem dX8_goesOn_40 : decode cX8_goesOn 40 = .ok (.iconst 0, 1) := by decide +kernel
theorem dX8_goesOn_41 : decode cX8_goesOn 41 = .ok (.ireturn, 1) := by decide +kernel
theorem dX8_goesOn_42 : decode cX8_goesOn 42 = .ok (.aload_n 0, 1) := by decide +kernel
theorem dX8_goesOn_43 : decode cX8_goesOn 43 = .ok (.iload_n 1, 1) := by decide +kernel
theorem dX8_goesOn_44 : decode cX8_goesOn 44 = .ok (.invokestatic 165, 3) := by decide +kernel
theorem dX8_goesOn_47 : decode cX8_goesOn 47 = .ok (.invokevirtual 171, 3) := by decide +kernel
theorem dX8_goesOn_50 : decode cX8_goesOn 50 = .ok (.aload_n 0, 1) := by decide +kernel
theorem dX8_goesOn_51 : decode cX8_goesOn 51 = .ok (.iload_n 1, 1) := by decide +kernel
theorem dX8_goesOn_52 : decode cX8_goesOn 52 = .ok (.invokevirtual 181, 3) := by decide +kernel
theorem dX8_goesOn_55 : decode cX8_goesOn 55 = .ok (.aload_n 0, 1) := by decide +kernel
theorem dX8_goesOn_56 : decode cX8_goesOn 56 = .ok (.iconst 0, 1) := by decide +kernel
theorem dX8_goesOn_57 : decode cX8_goesOn 57 = .ok (.putfield 174, 3) := by decide +kernel
theorem dX8_goesOn_60 : decode cX8_goesOn 60 = .ok (.aload_n 0, 1) := by decide +kernel
theorem dX8_goesOn_61 : decode cX8_goesOn 61 = .ok (.iload_n 1, 1) := by decide +kernel
theorem dX8_goesOn_62 : decode cX8_goesOn 62 = .ok (.invokestatic 165, 3) := by decide +kernel
theorem dX8_goesOn_65 : decode cX8_goesOn 65 = .ok (.iconst 3, 1) := by decide +kernel
theorem dX8_goesOn_66 : decode cX8_goesOn 66 = .ok (.if_icmp .ge 7, 3) := by decide +kernel
theorem dX8_goesOn_69 : decode cX8_goesOn 69 = .ok (.iconst 1, 1) := by decide +kernel
theorem dX8_goesOn_70 : decode cX8_goesOn 70 = .ok (.goto 4, 3) := by decide +kernel
theorem dX8_goesOn_73 : decode cX8_goesOn 73 = .ok (.iconst 0, 1) := by decide +kernel
theorem dX8_goesOn_74 : decode cX8_goesOn 74 = .ok (.putfield 184, 3) := by decide +kernel
theorem dX8_goesOn_77 : decode cX8_goesOn 77 = .ok (.aload_n 0, 1) := by decide +kernel
theorem dX8_goesOn_78 : decode cX8_goesOn 78 = .ok (.getfield 184, 3) := by decide +kernel
theorem dX8_goesOn_81 : decode cX8_goesOn 81 = .ok (.ifCond .eq 11, 3) := by decide +kernel
theorem dX8_goesOn_84 : decode cX8_goesOn 84 = .ok (.aload_n 0, 1) := by decide +kernel
theorem dX8_goesOn_85 : decode cX8_goesOn 85 = .ok (.iconst 0, 1) := by decide +kernel
theorem dX8_goesOn_86 : decode cX8_goesOn 86 = .ok (.putfield 178, 3) := by decide +kernel
theorem dX8_goesOn_89 : decode cX8_goesOn 89 = .ok (.goto 16, 3) := by decide +kernel
theorem dX8_goesOn_92 : decode cX8_goesOn 92 = .ok (.iload_n 1, 1) := by decide +kernel
theorem dX8_goesOn_93 : decode cX8_goesOn 93 = .ok (.invokestatic 165, 3) := by decide +kernel
theorem dX8_goesOn_96 : decode cX8_goesOn 96 = .ok (.iconst 4, 1) := by decide +kernel
theorem dX8_goesOn_97 : decode cX8_goesOn 97 = .ok (.if_icmp .ne 8, 3) := by decide +kernel
theorem dX8_goesOn_100 : decode cX8_goesOn 100 = .ok (.aload_n 0, 1) := by decide +kernel
theorem dX8_goesOn_101 : decode cX8_goesOn 101 = .ok (.iconst 1, 1) := by decide +kernel
theorem dX8_goesOn_102 : decode cX8_goesOn 102 = .ok (.putfield 178, 3) := by decide +kernel
theorem dX8_goesOn_105 : decode cX8_goesOn 105 = .ok (.iconst 1, 1) := by decide +kernel
theorem dX8_goesOn_106 : decode cX8_goesOn 106 = .ok (.ireturn, 1) := by decide +kernel
theorem dX8_part_0 : decode cX8_part 0 = .ok (.aload_n 0, 1) := by decide +kernel
theorem dX8_part_1 : decode cX8_part 1 = .ok (.iload_n 2, 1) := by decide +kernel
theorem dX8_part_2 : decode cX8_part 2 = .ok (.invokevirtual 197, 3) := by decide +kernel
theorem dX8_part_5 : decode cX8_part 5 = .ok (.ifCond .ne 5, 3) := by decide +kernel
theorem dX8_part_8 : decode cX8_part 8 = .ok (.iconst 0, 1) := by decide +kernel
theorem dX8_part_9 : decode cX8_part 9 = .ok (.ireturn, 1) := by decide +kernel
theorem dX8_part_10 : decode cX8_part 10 = .ok (.aload_n 0, 1) := by decide +kernel
theorem dX8_part_11 : decode cX8_part 11 = .ok (.getfield 22, 3) := by decide +kernel
theorem dX8_part_14 : decode cX8_part 14 = .ok (.iload_n 1, 1) := by decide +kernel
theorem dX8_part_15 : decode cX8_part 15 = .ok (.aload_n 0, 1) := by decide +kernel
theorem dX8_part_16 : decode cX8_part 16 = .ok (.getfield 159, 3) := by decide +kernel
theorem dX8_part_19 : decode cX8_part 19 = .ok (.iastore, 1) := by decide +kernel
theorem dX8_part_20 : decode cX8_part 20 = .ok (.aload_n 0, 1) := by decide +kernel
theorem dX8_part_21 : decode cX8_part 21 = .ok (.iconst 0, 1) := by decide +kernel
theorem dX8_part_22 : decode cX8_part 22 = .ok (.putfield 162, 3) := by decide +kernel
theorem dX8_part_25 : decode cX8_part 25 = .ok (.aload_n 0, 1) := by decide +kernel
theorem dX8_part_26 : decode cX8_part 26 = .ok (.iconst 0, 1) := by decide +kernel
theorem dX8_part_27 : decode cX8_part 27 = .ok (.putfield 168, 3) := by decide +kernel
theorem dX8_part_30 : decode cX8_part 30 = .ok (.aload_n 0, 1) := by decide +kernel
theorem dX8_part_31 : decode cX8_part 31 = .ok (.iconst 0, 1) := by decide +kernel
theorem dX8_part_32 : decode cX8_part 32 = .ok (.putfield 178, 3) := by decide +kernel
theorem dX8_part_35 : decode cX8_part 35 = .ok (.aload_n 0, 1) := by decide +kernel
theorem dX8_part_36 : decode cX8_part 36 = .ok (.iconst 0, 1) := by decide +kernel
theorem dX8_part_37 : decode cX8_part 37 = .ok (.putfield 174, 3) := by decide +kernel
theorem dX8_part_40 : decode cX8_part 40 = .ok (.aload_n 0, 1) := by decide +kernel
theorem dX8_part_41 : decode cX8_part 41 = .ok (.iconst 1, 1) := by decide +kernel
theorem dX8_part_42 : decode cX8_part 42 = .ok (.putfield 184, 3) := by decide +kernel
theorem dX8_part_45 : decode cX8_part 45 = .ok (.aload_n 0, 1) := by decide +kernel
theorem dX8_part_46 : decode cX8_part 46 = .ok (.getfield 174, 3) := by decide +kernel
theorem dX8_part_49 : decode cX8_part 49 = .ok (.ifCond .eq 12, 3) := by decide +kernel
theorem dX8_part_52 : decode cX8_part 52 = .ok (.aload_n 0, 1) := by decide +kernel
theorem dX8_part_53 : decode cX8_part 53 = .ok (.getfield 133, 3) := by decide +kernel
theorem dX8_part_56 : decode cX8_part 56 = .ok (.bipush 59, 2) := by decide +kernel
theorem dX8_part_58 : decode cX8_part 58 = .ok (.if_icmp .eq 19, 3) := by decide +kernel
theorem dX8_part_61 : decode cX8_part 61 = .ok (.aload_n 0, 1) := by decide +kernel
theorem dX8_part_62 : decode cX8_part 62 = .ok (.invokevirtual 200, 3) := by decide +kernel
theorem dX8_part_65 : decode cX8_part 65 = .ok (.ifCond .ne 5, 3) := by decide +kernel
theorem dX8_part_68 : decode cX8_part 68 = .ok (.iconst 0, 1) := by decide +kernel
theorem dX8_part_69 : decode cX8_part 69 = .ok (.ireturn, 1) := by decide +kernel
theorem dX8_part_70 : decode cX8_part 70 = .ok (.aload_n 0, 1) := by decide +kernel
theorem dX8_part_71 : decode cX8_part 71 = .ok (.invokevirtual 156, 3) := by decide +kernel
theorem dX8_part_74 : decode cX8_part 74 = .ok (.goto (-29), 3) := by decide +kernel
theorem dX8_part_77 : decode cX8_part 77 = .ok (.aload_n 0, 1) := by decide +kernel
theorem dX8_part_78 : decode cX8_part 78 = .ok (.iconst 1, 1) := by decide +kernel
theorem dX8_part_79 : decode cX8_part 79 = .ok (.invokevirtual 171, 3) := by decide +kernel
theorem dX8_part_82 : decode cX8_part 82 = .ok (.aload_n 0, 1) := by decide +kernel
theorem dX8_part_83 : decode cX8_part 83 = .ok (.getfield 162, 3) := by decide +kernel
theorem dX8_part_86 : decode cX8_part 86 = .ok (.ifCond .le 5, 3) := by decide +kernel
theorem dX8_part_89 : decode cX8_part 89 = .ok (.iconst 0, 1) := by decide +kernel
theorem dX8_part_90 : decode cX8_part 90 = .ok (.ireturn, 1) := by decide +kernel
theorem dX8_part_91 : decode cX8_part 91 = .ok (.aload_n 0, 1) := by decide +kernel
theorem dX8_part_92 : decode cX8_part 92 = .ok (.getfield 25, 3) := by decide +kernel
theorem dX8_part_95 : decode cX8_part 95 = .ok (.iload_n 1, 1) := by decide +kernel
theorem dX8_part_96 : decode cX8_part 96 = .ok (.aload_n 0, 1) := by decide +kernel
theorem dX8_part_97 : decode cX8_part 97 = .ok (.getfield 159, 3) := by decide +kernel
theorem dX8_part_100 : decode cX8_part 100 = .ok (.aload_n 0, 1) := by decide +kernel
theorem dX8_part_101 : decode cX8_part 101 = .ok (.getfield 22, 3) := by decide +kernel
theorem dX8_part_104 : decode cX8_part 104 = .ok (.iload_n 1, 1) := by decide +kernel
theorem dX8_part_105 : decode cX8_part 105 = .ok (.iaload, 1) := by decide +kernel
theorem dX8_part_106 : decode cX8_part 106 = .ok (.isub, 1) := by decide +kernel
theorem dX8_part_107 : decode cX8_part 107 = .ok (.iastore, 1) := by decide +kernel
theorem dX8_part_108 : decode cX8_part 108 = .ok (.aload_n 0, 1) := by decide +kernel
theorem dX8_part_109 : decode cX8_part 109 = .ok (.invokevirtual 156, 3) := by decide +kernel
theorem dX8_part_112 : decode cX8_part 112 = .ok (.iconst 1, 1) := by decide +kernel
theorem dX8_part_113 : decode cX8_part 113 = .ok (.ireturn, 1) := by decide +kernel
theorem dX8_text_0 : decode cX8_text 0 = .ok (.aload_n 0, 1) := by decide +kernel
theorem dX8_text_1 : decode cX8_text 1 = .ok (.getfield 78, 3) := by decide +kernel
theorem dX8_text_4 : decode cX8_text 4 = .ok (.bipush 6, 2) := by decide +kernel
theorem dX8_text_6 : decode cX8_text 6 = .ok (.if_icmp .ne 6, 3) := by decide +kernel
theorem dX8_text_9 : decode cX8_text 9 = .ok (.bipush (-4), 2) := by decide +kernel
theorem dX8_text_11 : decode cX8_text 11 = .ok (.ireturn, 1) := by decide +kernel
theorem dX8_text_12 : decode cX8_text 12 = .ok (.aload_n 0, 1) := by decide +kernel
theorem dX8_text_13 : decode cX8_text 13 = .ok (.getfield 159, 3) := by decide +kernel
theorem dX8_text_16 : decode cX8_text 16 = .ok (.istore_n 1, 1) := by decide +kernel
theorem dX8_text_17 : decode cX8_text 17 = .ok (.aload_n 0, 1) := by decide +kernel
theorem dX8_text_18 : decode cX8_text 18 = .ok (.iconst 0, 1) := by decide +kernel
theorem dX8_text_19 : decode cX8_text 19 = .ok (.putfield 127, 3) := by decide +kernel
theorem dX8_text_22 : decode cX8_text 22 = .ok (.aload_n 0, 1) := by decide +kernel
theorem dX8_text_23 : decode cX8_text 23 = .ok (.invokevirtual 156, 3) := by decide +kernel
theorem dX8_text_26 : decode cX8_text 26 = .ok (.aload_n 0, 1) := by decide +kernel
theorem dX8_text_27 : decode cX8_text 27 = .ok (.iconst 3, 1) := by decide +kernel
theorem dX8_text_28 : decode cX8_text 28 = .ok (.aload_n 0, 1) := by decide +kernel
theorem dX8_text_29 : decode cX8_text 29 = .ok (.getfield 78, 3) := by decide +kernel
theorem dX8_text_32 : decode cX8_text 32 = .ok (.imul, 1) := by decide +kernel
theorem dX8_text_33 : decode cX8_text 33 = .ok (.ldc 203, 2) := by decide +kernel
theorem dX8_text_35 : decode cX8_text 35 = .ok (.invokevirtual 204, 3) := by decide +kernel
theorem dX8_text_38 : decode cX8_text 38 = .ok (.ifCond .eq 50, 3) := by decide +kernel
theorem dX8_text_41 : decode cX8_text 41 = .ok (.aload_n 0, 1) := by decide +kernel
theorem dX8_text_42 : decode cX8_text 42 = .ok (.iconst 3, 1) := by decide +kernel
theorem dX8_text_43 : decode cX8_text 43 = .ok (.aload_n 0, 1) := by decide +kernel
theorem dX8_text_44 : decode cX8_text 44 = .ok (.getfield 78, 3) := by decide +kernel
theorem dX8_text_47 : decode cX8_text 47 = .ok (.imul, 1) := by decide +kernel
theorem dX8_text_48 : decode cX8_text 48 = .ok (.iconst 1, 1) := by decide +kernel
theorem dX8_text_49 : decode cX8_text 49 = .ok (.iadd, 1) := by decide +kernel
theorem dX8_text_50 : decode cX8_text 50 = .ok (.ldc 207, 2) := by decide +kernel
theorem dX8_text_52 : decode cX8_text 52 = .ok (.invokevirtual 204, 3) := by decide +kernel
theorem dX8_text_55 : decode cX8_text 55 = .ok (.ifCond .eq 33, 3) := by decide +kernel
theorem dX8_text_58 : decode cX8_text 58 = .ok (.aload_n 0, 1) := by decide +kernel
theorem dX8_text_59 : decode cX8_text 59 = .ok (.iconst 3, 1) := by decide +kernel
theorem dX8_text_60 : decode cX8_text 60 = .ok (.aload_n 0, 1) := by decide +kernel
theorem dX8_text_61 : decode cX8_text 61 = .ok (.getfield 78, 3) := by decide +kernel
theorem dX8_text_64 : decode cX8_text 64 = .ok (.imul, 1) := by decide +kernel
theorem dX8_text_65 : decode cX8_text 65 = .ok (.iconst 2, 1) := by decide +kernel
theorem dX8_text_66 : decode cX8_text 66 = .ok (.iadd, 1) := by decide +kernel
theorem dX8_text_67 : decode cX8_text 67 = .ok (.ldc 208, 2) := by decide +kernel
theorem dX8_text_69 : decode cX8_text 69 = .ok (.invokevirtual 204, 3) := by decide +kernel
theorem dX8_text_72 : decode cX8_text 72 = .ok (.ifCond .eq 16, 3) := by decide +kernel
theorem dX8_text_75 : decode cX8_text 75 = .ok (.aload_n 0, 1) := by decide +kernel
theorem dX8_text_76 : decode cX8_text 76 = .ok (.getfield 133, 3) := by decide +kernel
theorem dX8_text_79 : decode cX8_text 79 = .ok (.bipush 101, 2) := by decide +kernel
theorem dX8_text_81 : decode cX8_text 81 = .ok (.if_icmp .ne 7, 3) := by decide +kernel
theorem dX8_text_84 : decode cX8_text 84 = .ok (.iconst 1, 1) := by decide +kernel
theorem dX8_text_85 : decode cX8_text 85 = .ok (.goto 4, 3) := by decide +kernel
theorem dX8_text_88 : decode cX8_text 88 = .ok (.iconst 0, 1) := by decide +kernel
theorem dX8_text_89 : decode cX8_text 89 = .ok (.istore_n 2, 1) := by decide +kernel
theorem dX8_text_90 : decode cX8_text 90 = .ok (.aload_n 0, 1) := by decide +kernel
theorem dX8_text_91 : decode cX8_text 91 = .ok (.iconst 0, 1) := by decide +kernel
theorem dX8_text_92 : decode cX8_text 92 = .ok (.putfield 121, 3) := by decide +kernel
theorem dX8_text_95 : decode cX8_text 95 = .ok (.iload_n 2, 1) := by decide +kernel
theorem dX8_text_96 : decode cX8_text 96 = .ok (.ifCond .eq 15, 3) := by decide +kernel
theorem dX8_text_99 : decode cX8_text 99 = .ok (.aload_n 0, 1) := by decide +kernel
theorem dX8_text_100 : decode cX8_text 100 = .ok (.dup, 1) := by decide +kernel
theorem dX8_text_101 : decode cX8_text 101 = .ok (.getfield 78, 3) := by decide +kernel
theorem dX8_text_104 : decode cX8_text 104 = .ok (.dup_x1, 1) := by decide +kernel
theorem dX8_text_105 : decode cX8_text 105 = .ok (.iconst 1, 1) := by decide +kernel
theorem dX8_text_106 : decode cX8_text 106 = .ok (.iadd, 1) := by decide +kernel
theorem dX8_text_107 : decode cX8_text 107 = .ok (.putfield 78, 3) := by decide +kernel
theorem dX8_text_110 : decode cX8_text 110 = .ok (.ireturn, 1) := by decide +kernel
theorem dX8_text_111 : decode cX8_text 111 = .ok (.aload_n 0, 1) := by decide +kernel
theorem dX8_text_112 : decode cX8_text 112 = .ok (.iload_n 1, 1) := by decide +kernel
theorem dX8_text_113 : decode cX8_text 113 = .ok (.putfield 159, 3) := by decide +kernel
theorem dX8_text_116 : decode cX8_text 116 = .ok (.bipush (-100), 2) := by decide +kernel
theorem dX8_text_118 : decode cX8_text 118 = .ok (.aload_n 0, 1) := by decide +kernel
theorem dX8_text_119 : decode cX8_text 119 = .ok (.getfield 130, 3) := by decide +kernel
theorem dX8_text_122 : decode cX8_text 122 = .ok (.isub, 1) := by decide +kernel
theorem dX8_text_123 : decode cX8_text 123 = .ok (.ireturn, 1) := by decide +kernel
theorem dX8_force_0 : decode cX8_force 0 = .ok (.iload_n 1, 1) := by decide +kernel
theorem dX8_force_1 : decode cX8_force 1 = .ok (.iconst 0, 1) := by decide +kernel
theorem dX8_force_2 : decode cX8_force 2 = .ok (.aload_n 0, 1) := by decide +kernel
theorem dX8_force_3 : decode cX8_force 3 = .ok (.getfield 78, 3) := by decide +kernel
theorem dX8_force_6 : decode cX8_force 6 = .ok (.iconst 1, 1) := by decide +kernel
theorem dX8_force_7 : decode cX8_force 7 = .ok (.isub, 1) := by decide +kernel
theorem dX8_force_8 : decode cX8_force 8 = .ok (.invokestatic 85, 3) := by decide +kernel
theorem dX8_force_11 : decode cX8_force 11 = .ok (.ifCond .ne 6, 3) := by decide +kernel
theorem dX8_force_14 : decode cX8_force 14 = .ok (.bipush (-2), 2) := by decide +kernel
theorem dX8_force_16 : decode cX8_force 16 = .ok (.ireturn, 1) := by decide +kernel
theorem dX8_force_17 : decode cX8_force 17 = .ok (.aload_n 0, 1) := by decide +kernel
theorem dX8_force_18 : decode cX8_force 18 = .ok (.getfield 209, 3) := by decide +kernel
theorem dX8_force_21 : decode cX8_force 21 = .ok (.istore_n 2, 1) := by decide +kernel
theorem dX8_force_22 : decode cX8_force 22 = .ok (.aload_n 0, 1) := by decide +kernel
theorem dX8_force_23 : decode cX8_force 23 = .ok (.iload_n 1, 1) := by decide +kernel
theorem dX8_force_24 : decode cX8_force 24 = .ok (.putfield 209, 3) := by decide +kernel
theorem dX8_force_27 : decode cX8_force 27 = .ok (.iload_n 2, 1) := by decide +kernel
theorem dX8_force_28 : decode cX8_force 28 = .ok (.ireturn, 1) := by decide +kernel
theorem dX8_tells_0 : decode cX8_tells 0 = .ok (.iconst 0, 1) := by decide +kernel
theorem dX8_tells_1 : decode cX8_tells 1 = .ok (.istore 4, 2) := by decide +kernel
theorem dX8_tells_3 : decode cX8_tells 3 = .ok (.aload_n 0, 1) := by decide +kernel
theorem dX8_tells_4 : decode cX8_tells 4 = .ok (.getfield 22, 3) := by decide +kernel
theorem dX8_tells_7 : decode cX8_tells 7 = .ok (.iconst 3, 1) := by decide +kernel
theorem dX8_tells_8 : decode cX8_tells 8 = .ok (.aload_n 0, 1) := by decide +kernel
theorem dX8_tells_9 : decode cX8_tells 9 = .ok (.getfield 209, 3) := by decide +kernel
theorem dX8_tells_12 : decode cX8_tells 12 = .ok (.imul, 1) := by decide +kernel
theorem dX8_tells_13 : decode cX8_tells 13 = .ok (.iload_n 1, 1) := by decide +kernel
theorem dX8_tells_14 : decode cX8_tells 14 = .ok (.iadd, 1) := by decide +kernel
theorem dX8_tells_15 : decode cX8_tells 15 = .ok (.iaload, 1) := by decide +kernel
theorem dX8_tells_16 : decode cX8_tells 16 = .ok (.istore 5, 2) := by decide +kernel
theorem dX8_tells_18 : decode cX8_tells 18 = .ok (.iload_n 1, 1) := by decide +kernel
theorem dX8_tells_19 : decode cX8_tells 19 = .ok (.ifCond .ne 22, 3) := by decide +kernel
theorem dX8_tells_22 : decode cX8_tells 22 = .ok (.aload_n 0, 1) := by decide +kernel
theorem dX8_tells_23 : decode cX8_tells 23 = .ok (.getfield 16, 3) := by decide +kernel
theorem dX8_tells_26 : decode cX8_tells 26 = .ok (.iload_n 2, 1) := by decide +kernel
theorem dX8_tells_27 : decode cX8_tells 27 = .ok (.iaload, 1) := by decide +kernel
theorem dX8_tells_28 : decode cX8_tells 28 = .ok (.iload_n 3, 1) := by decide +kernel
theorem dX8_tells_29 : decode cX8_tells 29 = .ok (.iconst 1, 1) := by decide +kernel
theorem dX8_tells_30 : decode cX8_tells 30 = .ok (.isub, 1) := by decide +kernel
theorem dX8_tells_31 : decode cX8_tells 31 = .ok (.invokestatic 118, 3) := by decide +kernel
theorem dX8_tells_34 : decode cX8_tells 34 = .ok (.ifCond .eq 7, 3) := by decide +kernel
theorem dX8_tells_37 : decode cX8_tells 37 = .ok (.iconst 1, 1) := by decide +kernel
theorem dX8_tells_38 : decode cX8_tells 38 = .ok (.goto 4, 3) := by decide +kernel
theorem dX8_tells_41 : decode cX8_tells 41 = .ok (.iconst 0, 1) := by decide +kernel
theorem dX8_tells_42 : decode cX8_tells 42 = .ok (.istore 6, 2) := by decide +kernel
theorem dX8_tells_44 : decode cX8_tells 44 = .ok (.iload 5, 2) := by decide +kernel
theorem dX8_tells_46 : decode cX8_tells 46 = .ok (.istore 7, 2) := by decide +kernel
theorem dX8_tells_48 : decode cX8_tells 48 = .ok (.iload 7, 2) := by decide +kernel
theorem dX8_tells_50 : decode cX8_tells 50 = .ok (.iload 5, 2) := by decide +kernel
theorem dX8_tells_52 : decode cX8_tells 52 = .ok (.aload_n 0, 1) := by decide +kernel
theorem dX8_tells_53 : decode cX8_tells 53 = .ok (.getfield 25, 3) := by decide +kernel
theorem dX8_tells_56 : decode cX8_tells 56 = .ok (.iconst 3, 1) := by decide +kernel
theorem dX8_tells_57 : decode cX8_tells 57 = .ok (.aload_n 0, 1) := by decide +kernel
theorem dX8_tells_58 : decode cX8_tells 58 = .ok (.getfield 209, 3) := by decide +kernel
theorem dX8_tells_61 : decode cX8_tells 61 = .ok (.imul, 1) := by decide +kernel
theorem dX8_tells_62 : decode cX8_tells 62 = .ok (.iload_n 1, 1) := by decide +kernel
theorem dX8_tells_63 : decode cX8_tells 63 = .ok (.iadd, 1) := by decide +kernel
theorem dX8_tells_64 : decode cX8_tells 64 = .ok (.iaload, 1) := by decide +kernel
theorem dX8_tells_65 : decode cX8_tells 65 = .ok (.iadd, 1) := by decide +kernel
theorem dX8_tells_66 : decode cX8_tells 66 = .ok (.if_icmp .ge 230, 3) := by decide +kernel
theorem dX8_tells_69 : decode cX8_tells 69 = .ok (.aload_n 0, 1) := by decide +kernel
theorem dX8_tells_70 : decode cX8_tells 70 = .ok (.getfield 28, 3) := by decide +kernel
theorem dX8_tells_73 : decode cX8_tells 73 = .ok (.iload 7, 2) := by decide +kernel
theorem dX8_tells_75 : decode cX8_tells 75 = .ok (.iaload, 1) := by decide +kernel
theorem dX8_tells_76 : decode cX8_tells 76 = .ok (.istore 8, 2) := by decide +kernel
theorem dX8_tells_78 : decode cX8_tells 78 = .ok (.iload 8, 2) := by decide +kernel
theorem dX8_tells_80 : decode cX8_tells 80 = .ok (.bipush 15, 2) := by decide +kernel
theorem dX8_tells_82 : decode cX8_tells 82 = .ok (.if_icmp .ge 9, 3) := by decide +kernel
theorem dX8_tells_85 : decode cX8_tells 85 = .ok (.iload 8, 2) := by decide +kernel
theorem dX8_tells_87 : decode cX8_tells 87 = .ok (.iconst 5, 1) := by decide +kernel
theorem dX8_tells_88 : decode cX8_tells 88 = .ok (.if_icmp .gt 106, 3) := by decide +kernel
theorem dX8_tells_91 : decode cX8_tells 91 = .ok (.aload_n 0, 1) := by decide +kernel
theorem dX8_tells_92 : decode cX8_tells 92 = .ok (.getfield 34, 3) := by decide +kernel
theorem dX8_tells_95 : decode cX8_tells 95 = .ok (.iload 4, 2) := by decide +kernel
theorem dX8_tells_97 : decode cX8_tells 97 = .ok (.iinc 4 1, 3) := by decide +kernel
theorem dX8_tells_100 : decode cX8_tells 100 = .ok (.iload 8, 2) := by decide +kernel
theorem dX8_tells_102 : decode cX8_tells 102 = .ok (.bipush 15, 2) := by decide +kernel
theorem dX8_tells_104 : decode cX8_tells 104 = .ok (.if_icmp .lt 11, 3) := by decide +kernel
theorem dX8_tells_107 : decode cX8_tells 107 = .ok (.iload 8, 2) := by decide +kernel
theorem dX8_tells_109 : decode cX8_tells 109 = .ok (.bipush 15, 2) := by decide +kernel
theorem dX8_tells_111 : decode cX8_tells 111 = .ok (.isub, 1) := by decide +kernel
theorem dX8_tells_112 : decode cX8_tells 112 = .ok (.goto 78, 3) := by decide +kernel
theorem dX8_tells_115 : decode cX8_tells 115 = .ok (.iload 8, 2) := by decide +kernel
theorem dX8_tells_117 : decode cX8_tells 117 = .ok (.ifCond .ne 7, 3) := by decide +kernel
theorem dX8_tells_120 : decode cX8_tells 120 = .ok (.iload_n 3, 1) := by decide +kernel
theorem dX8_tells_121 : decode cX8_tells 121 = .ok (.goto 69, 3) := by decide +kernel
theorem dX8_tells_124 : decode cX8_tells 124 = .ok (.iload 8, 2) := by decide +kernel
theorem dX8_tells_126 : decode cX8_tells 126 = .ok (.iconst 1, 1) := by decide +kernel
theorem dX8_tells_127 : decode cX8_tells 127 = .ok (.if_icmp .ne 16, 3) := by decide +kernel
theorem dX8_tells_130 : decode cX8_tells 130 = .ok (.iload 6, 2) := by decide +kernel
theorem dX8_tells_132 : decode cX8_tells 132 = .ok (.ifCond .eq 7, 3) := by decide +kernel
theorem dX8_tells_135 : decode cX8_tells 135 = .ok (.iconst 1, 1) := by decide +kernel
theorem dX8_tells_136 : decode cX8_tells 136 = .ok (.goto 54, 3) := by decide +kernel
theorem dX8_tells_139 : decode cX8_tells 139 = .ok (.iconst 0, 1) := by decide +kernel
theorem dX8_tells_140 : decode cX8_tells 140 = .ok (.goto 50, 3) := by decide +kernel
theorem dX8_tells_143 : decode cX8_tells 143 = .ok (.iload 8, 2) := by decide +kernel
theorem dX8_tells_145 : decode cX8_tells 145 = .ok (.iconst 2, 1) := by decide +kernel
theorem dX8_tells_146 : decode cX8_tells 146 = .ok (.if_icmp .ne 12, 3) := by decide +kernel
theorem dX8_tells_149 : decode cX8_tells 149 = .ok (.aload_n 0, 1) := by decide +kernel
theorem dX8_tells_150 : decode cX8_tells 150 = .ok (.getfield 13, 3) := by decide +kernel
theorem dX8_tells_153 : decode cX8_tells 153 = .ok (.iload_n 2, 1) := by decide +kernel
theorem dX8_tells_154 : decode cX8_tells 154 = .ok (.iaload, 1) := by decide +kernel
theorem dX8_tells_155 : decode cX8_tells 155 = .ok (.goto 35, 3) := by decide +kernel
theorem dX8_tells_158 : decode cX8_tells 158 = .ok (.iload 8, 2) := by decide +kernel
theorem dX8_tells_160 : decode cX8_tells 160 = .ok (.iconst 3, 1) := by decide +kernel
theorem dX8_tells_161 : decode cX8_tells 161 = .ok (.if_icmp .ne 15, 3) := by decide +kernel
theorem dX8_tells_164 : decode cX8_tells 164 = .ok (.aload_n 0, 1) := by decide +kernel
theorem dX8_tells_165 : decode cX8_tells 165 = .ok (.getfield 16, 3) := by decide +kernel
theorem dX8_tells_168 : decode cX8_tells 168 = .ok (.iload_n 2, 1) := by decide +kernel
theorem dX8_tells_169 : decode cX8_tells 169 = .ok (.iaload, 1) := by decide +kernel
theorem dX8_tells_170 : decode cX8_tells 170 = .ok (.invokestatic 97, 3) := by decide +kernel
theorem dX8_tells_173 : decode cX8_tells 173 = .ok (.goto 17, 3) := by decide +kernel
theorem dX8_tells_176 : decode cX8_tells 176 = .ok (.iload 8, 2) := by decide +kernel
theorem dX8_tells_178 : decode cX8_tells 178 = .ok (.iconst 4, 1) := by decide +kernel
theorem dX8_tells_179 : decode cX8_tells 179 = .ok (.if_icmp .ne 7, 3) := by decide +kernel
theorem dX8_tells_182 : decode cX8_tells 182 = .ok (.iload_n 2, 1) := by decide +kernel
theorem dX8_tells_183 : decode cX8_tells 183 = .ok (.goto 7, 3) := by decide +kernel
theorem dX8_tells_186 : decode cX8_tells 186 = .ok (.aload_n 0, 1) := by decide +kernel
theorem dX8_tells_187 : decode cX8_tells 187 = .ok (.getfield 94, 3) := by decide +kernel
theorem dX8_tells_190 : decode cX8_tells 190 = .ok (.iastore, 1) := by decide +kernel
theorem dX8_tells_191 : decode cX8_tells 191 = .ok (.goto 99, 3) := by decide +kernel
theorem dX8_tells_194 : decode cX8_tells 194 = .ok (.iload 8, 2) := by decide +kernel
theorem dX8_tells_196 : decode cX8_tells 196 = .ok (.bipush 13, 2) := by decide +kernel
theorem dX8_tells_198 : decode cX8_tells 198 = .ok (.if_icmp .eq 10, 3) := by decide +kernel
theorem dX8_tells_201 : decode cX8_tells 201 = .ok (.iload 8, 2) := by decide +kernel
theorem dX8_tells_203 : decode cX8_tells 203 = .ok (.bipush 14, 2) := by decide +kernel
theorem dX8_tells_205 : decode cX8_tells 205 = .ok (.if_icmp .ne 52, 3) := by decide +kernel
theorem dX8_tells_208 : decode cX8_tells 208 = .ok (.aload_n 0, 1) := by decide +kernel
theorem dX8_tells_209 : decode cX8_tells 209 = .ok (.getfield 34, 3) := by decide +kernel
theorem dX8_tells_212 : decode cX8_tells 212 = .ok (.iload 4, 2) := by decide +kernel
theorem dX8_tells_214 : decode cX8_tells 214 = .ok (.iconst 1, 1) := by decide +kernel
theorem dX8_tells_215 : decode cX8_tells 215 = .ok (.isub, 1) := by decide +kernel
theorem dX8_tells_216 : decode cX8_tells 216 = .ok (.iload 8, 2) := by decide +kernel
theorem dX8_tells_218 : decode cX8_tells 218 = .ok (.bipush 14, 2) := by decide +kernel
theorem dX8_tells_220 : decode cX8_tells 220 = .ok (.if_icmp .ne 16, 3) := by decide +kernel
theorem dX8_tells_223 : decode cX8_tells 223 = .ok (.aload_n 0, 1) := by decide +kernel
theorem dX8_tells_224 : decode cX8_tells 224 = .ok (.getfield 34, 3) := by decide +kernel
theorem dX8_tells_227 : decode cX8_tells 227 = .ok (.iload 4, 2) := by decide +kernel
theorem dX8_tells_229 : decode cX8_tells 229 = .ok (.iconst 1, 1) := by decide +kernel
theorem dX8_tells_230 : decode cX8_tells 230 = .ok (.isub, 1) := by decide +kernel
theorem dX8_tells_231 : decode cX8_tells 231 = .ok (.iaload, 1) := by decide +kernel
theorem dX8_tells_232 : decode cX8_tells 232 = .ok (.ineg, 1) := by decide +kernel
theorem dX8_tells_233 : decode cX8_tells 233 = .ok (.goto 20, 3) := by decide +kernel
theorem dX8_tells_236 : decode cX8_tells 236 = .ok (.aload_n 0, 1) := by decide +kernel
theorem dX8_tells_237 : decode cX8_tells 237 = .ok (.getfield 34, 3) := by decide +kernel
theorem dX8_tells_240 : decode cX8_tells 240 = .ok (.iload 4, 2) := by decide +kernel
theorem dX8_tells_242 : decode cX8_tells 242 = .ok (.iconst 1, 1) := by decide +kernel
theorem dX8_tells_243 : decode cX8_tells 243 = .ok (.isub, 1) := by decide +kernel
theorem dX8_tells_244 : decode cX8_tells 244 = .ok (.iaload, 1) := by decide +kernel
theorem dX8_tells_245 : decode cX8_tells 245 = .ok (.ifCond .ne 7, 3) := by decide +kernel
theorem dX8_tells_248 : decode cX8_tells 248 = .ok (.iconst 1, 1) := by decide +kernel
theorem dX8_tells_249 : decode cX8_tells 249 = .ok (.goto 4, 3) := by decide +kernel
theorem dX8_tells_252 : decode cX8_tells 252 = .ok (.iconst 0, 1) := by decide +kernel
theorem dX8_tells_253 : decode cX8_tells 253 = .ok (.iastore, 1) := by decide +kernel
theorem dX8_tells_254 : decode cX8_tells 254 = .ok (.goto 36, 3) := by decide +kernel
theorem dX8_tells_257 : decode cX8_tells 257 = .ok (.iinc 4 (-1), 3) := by decide +kernel
theorem dX8_tells_260 : decode cX8_tells 260 = .ok (.aload_n 0, 1) := by decide +kernel
theorem dX8_tells_261 : decode cX8_tells 261 = .ok (.getfield 34, 3) := by decide +kernel
theorem dX8_tells_264 : decode cX8_tells 264 = .ok (.iload 4, 2) := by decide +kernel
theorem dX8_tells_266 : decode cX8_tells 266 = .ok (.iconst 1, 1) := by decide +kernel
theorem dX8_tells_267 : decode cX8_tells 267 = .ok (.isub, 1) := by decide +kernel
theorem dX8_tells_268 : decode cX8_tells 268 = .ok (.iload 8, 2) := by decide +kernel
theorem dX8_tells_270 : decode cX8_tells 270 = .ok (.aload_n 0, 1) := by decide +kernel
theorem dX8_tells_271 : decode cX8_tells 271 = .ok (.getfield 34, 3) := by decide +kernel
theorem dX8_tells_274 : decode cX8_tells 274 = .ok (.iload 4, 2) := by decide +kernel
theorem dX8_tells_276 : decode cX8_tells 276 = .ok (.iconst 1, 1) := by decide +kernel
theorem dX8_tells_277 : decode cX8_tells 277 = .ok (.isub, 1) := by decide +kernel
theorem dX8_tells_278 : decode cX8_tells 278 = .ok (.iaload, 1) := by decide +kernel
theorem dX8_tells_279 : decode cX8_tells 279 = .ok (.aload_n 0, 1) := by decide +kernel
theorem dX8_tells_280 : decode cX8_tells 280 = .ok (.getfield 34, 3) := by decide +kernel
theorem dX8_tells_283 : decode cX8_tells 283 = .ok (.iload 4, 2) := by decide +kernel
theorem dX8_tells_285 : decode cX8_tells 285 = .ok (.iaload, 1) := by decide +kernel
theorem dX8_tells_286 : decode cX8_tells 286 = .ok (.invokestatic 212, 3) := by decide +kernel
theorem dX8_tells_289 : decode cX8_tells 289 = .ok (.iastore, 1) := by decide +kernel
theorem dX8_tells_290 : decode cX8_tells 290 = .ok (.iinc 7 1, 3) := by decide +kernel
theorem dX8_tells_293 : decode cX8_tells 293 = .ok (.goto (-245), 3) := by decide +kernel
theorem dX8_tells_296 : decode cX8_tells 296 = .ok (.aload_n 0, 1) := by decide +kernel
theorem dX8_tells_297 : decode cX8_tells 297 = .ok (.getfield 34, 3) := by decide +kernel
theorem dX8_tells_300 : decode cX8_tells 300 = .ok (.iconst 0, 1) := by decide +kernel
theorem dX8_tells_301 : decode cX8_tells 301 = .ok (.iaload, 1) := by decide +kernel
theorem dX8_tells_302 : decode cX8_tells 302 = .ok (.ireturn, 1) := by decide +kernel
theorem dX8_bound_0 : decode cX8_bound 0 = .ok (.iload_n 0, 1) := by decide +kernel
theorem dX8_bound_1 : decode cX8_bound 1 = .ok (.ifCond .ge 7, 3) := by decide +kernel
theorem dX8_bound_4 : decode cX8_bound 4 = .ok (.iconst 0, 1) := by decide +kernel
theorem dX8_bound_5 : decode cX8_bound 5 = .ok (.goto 15, 3) := by decide +kernel
theorem dX8_bound_8 : decode cX8_bound 8 = .ok (.iload_n 0, 1) := by decide +kernel
theorem dX8_bound_9 : decode cX8_bound 9 = .ok (.bipush 99, 2) := by decide +kernel
theorem dX8_bound_11 : decode cX8_bound 11 = .ok (.if_icmp .le 8, 3) := by decide +kernel
theorem dX8_bound_14 : decode cX8_bound 14 = .ok (.bipush 99, 2) := by decide +kernel
theorem dX8_bound_16 : decode cX8_bound 16 = .ok (.goto 4, 3) := by decide +kernel
theorem dX8_bound_19 : decode cX8_bound 19 = .ok (.iload_n 0, 1) := by decide +kernel
theorem dX8_bound_20 : decode cX8_bound 20 = .ok (.ireturn, 1) := by decide +kernel
theorem dX8_both_0 : decode cX8_both 0 = .ok (.iload_n 0, 1) := by decide +kernel
theorem dX8_both_1 : decode cX8_both 1 = .ok (.tableswitch 87 6 11 #[39, 43, 47, 51, 62, 73], 39) := by decide +kernel
theorem dX8_both_40 : decode cX8_both 40 = .ok (.iload_n 1, 1) := by decide +kernel
theorem dX8_both_41 : decode cX8_both 41 = .ok (.iload_n 2, 1) := by decide +kernel
theorem dX8_both_42 : decode cX8_both 42 = .ok (.iadd, 1) := by decide +kernel
theorem dX8_both_43 : decode cX8_both 43 = .ok (.ireturn, 1) := by decide +kernel
theorem dX8_both_44 : decode cX8_both 44 = .ok (.iload_n 1, 1) := by decide +kernel
theorem dX8_both_45 : decode cX8_both 45 = .ok (.iload_n 2, 1) := by decide +kernel
theorem dX8_both_46 : decode cX8_both 46 = .ok (.isub, 1) := by decide +kernel
theorem dX8_both_47 : decode cX8_both 47 = .ok (.ireturn, 1) := by decide +kernel
theorem dX8_both_48 : decode cX8_both 48 = .ok (.iload_n 1, 1) := by decide +kernel
theorem dX8_both_49 : decode cX8_both 49 = .ok (.iload_n 2, 1) := by decide +kernel
theorem dX8_both_50 : decode cX8_both 50 = .ok (.imul, 1) := by decide +kernel
theorem dX8_both_51 : decode cX8_both 51 = .ok (.ireturn, 1) := by decide +kernel
theorem dX8_both_52 : decode cX8_both 52 = .ok (.iload_n 1, 1) := by decide +kernel
theorem dX8_both_53 : decode cX8_both 53 = .ok (.iload_n 2, 1) := by decide +kernel
theorem dX8_both_54 : decode cX8_both 54 = .ok (.if_icmp .ge 7, 3) := by decide +kernel
theorem dX8_both_57 : decode cX8_both 57 = .ok (.iconst 1, 1) := by decide +kernel
theorem dX8_both_58 : decode cX8_both 58 = .ok (.goto 4, 3) := by decide +kernel
theorem dX8_both_61 : decode cX8_both 61 = .ok (.iconst 0, 1) := by decide +kernel
theorem dX8_both_62 : decode cX8_both 62 = .ok (.ireturn, 1) := by decide +kernel
theorem dX8_both_63 : decode cX8_both 63 = .ok (.iload_n 1, 1) := by decide +kernel
theorem dX8_both_64 : decode cX8_both 64 = .ok (.iload_n 2, 1) := by decide +kernel
theorem dX8_both_65 : decode cX8_both 65 = .ok (.if_icmp .ne 7, 3) := by decide +kernel
theorem dX8_both_68 : decode cX8_both 68 = .ok (.iconst 1, 1) := by decide +kernel
theorem dX8_both_69 : decode cX8_both 69 = .ok (.goto 4, 3) := by decide +kernel
theorem dX8_both_72 : decode cX8_both 72 = .ok (.iconst 0, 1) := by decide +kernel
theorem dX8_both_73 : decode cX8_both 73 = .ok (.ireturn, 1) := by decide +kernel
theorem dX8_both_74 : decode cX8_both 74 = .ok (.iload_n 1, 1) := by decide +kernel
theorem dX8_both_75 : decode cX8_both 75 = .ok (.ifCond .eq 11, 3) := by decide +kernel
theorem dX8_both_78 : decode cX8_both 78 = .ok (.iload_n 2, 1) := by decide +kernel
theorem dX8_both_79 : decode cX8_both 79 = .ok (.ifCond .eq 7, 3) := by decide +kernel
theorem dX8_both_82 : decode cX8_both 82 = .ok (.iconst 1, 1) := by decide +kernel
theorem dX8_both_83 : decode cX8_both 83 = .ok (.goto 4, 3) := by decide +kernel
theorem dX8_both_86 : decode cX8_both 86 = .ok (.iconst 0, 1) := by decide +kernel
theorem dX8_both_87 : decode cX8_both 87 = .ok (.ireturn, 1) := by decide +kernel
theorem dX8_both_88 : decode cX8_both 88 = .ok (.iload_n 1, 1) := by decide +kernel
theorem dX8_both_89 : decode cX8_both 89 = .ok (.ifCond .ne 7, 3) := by decide +kernel
theorem dX8_both_92 : decode cX8_both 92 = .ok (.iload_n 2, 1) := by decide +kernel
theorem dX8_both_93 : decode cX8_both 93 = .ok (.ifCond .eq 7, 3) := by decide +kernel
theorem dX8_both_96 : decode cX8_both 96 = .ok (.iconst 1, 1) := by decide +kernel
theorem dX8_both_97 : decode cX8_both 97 = .ok (.goto 4, 3) := by decide +kernel
theorem dX8_both_100 : decode cX8_both 100 = .ok (.iconst 0, 1) := by decide +kernel
theorem dX8_both_101 : decode cX8_both 101 = .ok (.ireturn, 1) := by decide +kernel
theorem dX8_isOwn_0 : decode cX8_isOwn 0 = .ok (.iload_n 2, 1) := by decide +kernel
theorem dX8_isOwn_1 : decode cX8_isOwn 1 = .ok (.invokestatic 115, 3) := by decide +kernel
theorem dX8_isOwn_4 : decode cX8_isOwn 4 = .ok (.ifCond .eq 22, 3) := by decide +kernel
theorem dX8_isOwn_7 : decode cX8_isOwn 7 = .ok (.aload_n 0, 1) := by decide +kernel
theorem dX8_isOwn_8 : decode cX8_isOwn 8 = .ok (.getfield 16, 3) := by decide +kernel
theorem dX8_isOwn_11 : decode cX8_isOwn 11 = .ok (.iload_n 1, 1) := by decide +kernel
theorem dX8_isOwn_12 : decode cX8_isOwn 12 = .ok (.iaload, 1) := by decide +kernel
theorem dX8_isOwn_13 : decode cX8_isOwn 13 = .ok (.iload_n 2, 1) := by decide +kernel
theorem dX8_isOwn_14 : decode cX8_isOwn 14 = .ok (.iconst 1, 1) := by decide +kernel
theorem dX8_isOwn_15 : decode cX8_isOwn 15 = .ok (.isub, 1) := by decide +kernel
theorem dX8_isOwn_16 : decode cX8_isOwn 16 = .ok (.invokestatic 118, 3) := by decide +kernel
theorem dX8_isOwn_19 : decode cX8_isOwn 19 = .ok (.ifCond .eq 7, 3) := by decide +kernel
theorem dX8_isOwn_22 : decode cX8_isOwn 22 = .ok (.iconst 1, 1) := by decide +kernel
theorem dX8_isOwn_23 : decode cX8_isOwn 23 = .ok (.goto 4, 3) := by decide +kernel
theorem dX8_isOwn_26 : decode cX8_isOwn 26 = .ok (.iconst 0, 1) := by decide +kernel
theorem dX8_isOwn_27 : decode cX8_isOwn 27 = .ok (.ireturn, 1) := by decide +kernel
theorem dX8_isSaid_0 : decode cX8_isSaid 0 = .ok (.aload_n 0, 1) := by decide +kernel
theorem dX8_isSaid_1 : decode cX8_isSaid 1 = .ok (.iload_n 1, 1) := by decide +kernel
theorem dX8_isSaid_2 : decode cX8_isSaid 2 = .ok (.iload_n 2, 1) := by decide +kernel
theorem dX8_isSaid_3 : decode cX8_isSaid 3 = .ok (.invokevirtual 216, 3) := by decide +kernel
theorem dX8_isSaid_6 : decode cX8_isSaid 6 = .ok (.ifCond .eq 5, 3) := by decide +kernel
theorem dX8_isSaid_9 : decode cX8_isSaid 9 = .ok (.iconst 1, 1) := by decide +kernel
theorem dX8_isSaid_10 : decode cX8_isSaid 10 = .ok (.ireturn, 1) := by decide +kernel
theorem dX8_isSaid_11 : decode cX8_isSaid 11 = .ok (.iconst 0, 1) := by decide +kernel
theorem dX8_isSaid_12 : decode cX8_isSaid 12 = .ok (.istore_n 3, 1) := by decide +kernel
theorem dX8_isSaid_13 : decode cX8_isSaid 13 = .ok (.aload_n 0, 1) := by decide +kernel
theorem dX8_isSaid_14 : decode cX8_isSaid 14 = .ok (.getfield 7, 3) := by decide +kernel
theorem dX8_isSaid_17 : decode cX8_isSaid 17 = .ok (.iload_n 1, 1) := by decide +kernel
theorem dX8_isSaid_18 : decode cX8_isSaid 18 = .ok (.iaload, 1) := by decide +kernel
theorem dX8_isSaid_19 : decode cX8_isSaid 19 = .ok (.tableswitch 156 1 5 #[94, 128, 33, 101, 137], 33) := by decide +kernel
theorem dX8_isSaid_52 : decode cX8_isSaid 52 = .ok (.iload_n 2, 1) := by decide +kernel
theorem dX8_isSaid_53 : decode cX8_isSaid 53 = .ok (.iconst 1, 1) := by decide +kernel
theorem dX8_isSaid_54 : decode cX8_isSaid 54 = .ok (.iadd, 1) := by decide +kernel
theorem dX8_isSaid_55 : decode cX8_isSaid 55 = .ok (.istore 4, 2) := by decide +kernel
theorem dX8_isSaid_57 : decode cX8_isSaid 57 = .ok (.iload 4, 2) := by decide +kernel
theorem dX8_isSaid_59 : decode cX8_isSaid 59 = .ok (.bipush 31, 2) := by decide +kernel
theorem dX8_isSaid_61 : decode cX8_isSaid 61 = .ok (.if_icmp .ge 33, 3) := by decide +kernel
theorem dX8_isSaid_64 : decode cX8_isSaid 64 = .ok (.aload_n 0, 1) := by decide +kernel
theorem dX8_isSaid_65 : decode cX8_isSaid 65 = .ok (.iload_n 1, 1) := by decide +kernel
theorem dX8_isSaid_66 : decode cX8_isSaid 66 = .ok (.iload 4, 2) := by decide +kernel
theorem dX8_isSaid_68 : decode cX8_isSaid 68 = .ok (.invokevirtual 216, 3) := by decide +kernel
theorem dX8_isSaid_71 : decode cX8_isSaid 71 = .ok (.ifCond .eq 17, 3) := by decide +kernel
theorem dX8_isSaid_74 : decode cX8_isSaid 74 = .ok (.aload_n 0, 1) := by decide +kernel
theorem dX8_isSaid_75 : decode cX8_isSaid 75 = .ok (.iload_n 1, 1) := by decide +kernel
theorem dX8_isSaid_76 : decode cX8_isSaid 76 = .ok (.iload 4, 2) := by decide +kernel
theorem dX8_isSaid_78 : decode cX8_isSaid 78 = .ok (.iload_n 2, 1) := by decide +kernel
theorem dX8_isSaid_79 : decode cX8_isSaid 79 = .ok (.isub, 1) := by decide +kernel
theorem dX8_isSaid_80 : decode cX8_isSaid 80 = .ok (.invokevirtual 216, 3) := by decide +kernel
theorem dX8_isSaid_83 : decode cX8_isSaid 83 = .ok (.ifCond .eq 5, 3) := by decide +kernel
theorem dX8_isSaid_86 : decode cX8_isSaid 86 = .ok (.iconst 1, 1) := by decide +kernel
theorem dX8_isSaid_87 : decode cX8_isSaid 87 = .ok (.istore_n 3, 1) := by decide +kernel
theorem dX8_isSaid_88 : decode cX8_isSaid 88 = .ok (.iinc 4 1, 3) := by decide +kernel
theorem dX8_isSaid_91 : decode cX8_isSaid 91 = .ok (.goto (-34), 3) := by decide +kernel
theorem dX8_isSaid_94 : decode cX8_isSaid 94 = .ok (.iload_n 3, 1) := by decide +kernel
theorem dX8_isSaid_95 : decode cX8_isSaid 95 = .ok (.ifCond .ne 12, 3) := by decide +kernel
theorem dX8_isSaid_98 : decode cX8_isSaid 98 = .ok (.aload_n 0, 1) := by decide +kernel
theorem dX8_isSaid_99 : decode cX8_isSaid 99 = .ok (.iload_n 1, 1) := by decide +kernel
theorem dX8_isSaid_100 : decode cX8_isSaid 100 = .ok (.iload_n 2, 1) := by decide +kernel
theorem dX8_isSaid_101 : decode cX8_isSaid 101 = .ok (.invokevirtual 219, 3) := by decide +kernel
theorem dX8_isSaid_104 : decode cX8_isSaid 104 = .ok (.ifCond .eq 7, 3) := by decide +kernel
theorem dX8_isSaid_107 : decode cX8_isSaid 107 = .ok (.iconst 1, 1) := by decide +kernel
theorem dX8_isSaid_108 : decode cX8_isSaid 108 = .ok (.goto 4, 3) := by decide +kernel
theorem dX8_isSaid_111 : decode cX8_isSaid 111 = .ok (.iconst 0, 1) := by decide +kernel
theorem dX8_isSaid_112 : decode cX8_isSaid 112 = .ok (.ireturn, 1) := by decide +kernel
theorem dX8_isSaid_113 : decode cX8_isSaid 113 = .ok (.aload_n 0, 1) := by decide +kernel
theorem dX8_isSaid_114 : decode cX8_isSaid 114 = .ok (.iload_n 1, 1) := by decide +kernel
theorem dX8_isSaid_115 : decode cX8_isSaid 115 = .ok (.iload_n 2, 1) := by decide +kernel
theorem dX8_isSaid_116 : decode cX8_isSaid 116 = .ok (.invokevirtual 219, 3) := by decide +kernel
theorem dX8_isSaid_119 : decode cX8_isSaid 119 = .ok (.ireturn, 1) := by decide +kernel
theorem dX8_isSaid_120 : decode cX8_isSaid 120 = .ok (.iload_n 2, 1) := by decide +kernel
theorem dX8_isSaid_121 : decode cX8_isSaid 121 = .ok (.aload_n 0, 1) := by decide +kernel
theorem dX8_isSaid_122 : decode cX8_isSaid 122 = .ok (.getfield 13, 3) := by decide +kernel
theorem dX8_isSaid_125 : decode cX8_isSaid 125 = .ok (.iload_n 1, 1) := by decide +kernel
theorem dX8_isSaid_126 : decode cX8_isSaid 126 = .ok (.iaload, 1) := by decide +kernel
theorem dX8_isSaid_127 : decode cX8_isSaid 127 = .ok (.if_icmp .eq 14, 3) := by decide +kernel
theorem dX8_isSaid_130 : decode cX8_isSaid 130 = .ok (.aload_n 0, 1) := by decide +kernel
theorem dX8_isSaid_131 : decode cX8_isSaid 131 = .ok (.iload_n 1, 1) := by decide +kernel
theorem dX8_isSaid_132 : decode cX8_isSaid 132 = .ok (.iconst 2, 1) := by decide +kernel
theorem dX8_isSaid_133 : decode cX8_isSaid 133 = .ok (.iload_n 2, 1) := by decide +kernel
theorem dX8_isSaid_134 : decode cX8_isSaid 134 = .ok (.imul, 1) := by decide +kernel
theorem dX8_isSaid_135 : decode cX8_isSaid 135 = .ok (.invokevirtual 216, 3) := by decide +kernel
theorem dX8_isSaid_138 : decode cX8_isSaid 138 = .ok (.ifCond .eq 7, 3) := by decide +kernel
theorem dX8_isSaid_141 : decode cX8_isSaid 141 = .ok (.iconst 1, 1) := by decide +kernel
theorem dX8_isSaid_142 : decode cX8_isSaid 142 = .ok (.goto 4, 3) := by decide +kernel
theorem dX8_isSaid_145 : decode cX8_isSaid 145 = .ok (.iconst 0, 1) := by decide +kernel
theorem dX8_isSaid_146 : decode cX8_isSaid 146 = .ok (.ireturn, 1) := by decide +kernel
theorem dX8_isSaid_147 : decode cX8_isSaid 147 = .ok (.aload_n 0, 1) := by decide +kernel
theorem dX8_isSaid_148 : decode cX8_isSaid 148 = .ok (.iload_n 1, 1) := by decide +kernel
theorem dX8_isSaid_149 : decode cX8_isSaid 149 = .ok (.iconst 2, 1) := by decide +kernel
theorem dX8_isSaid_150 : decode cX8_isSaid 150 = .ok (.iload_n 2, 1) := by decide +kernel
theorem dX8_isSaid_151 : decode cX8_isSaid 151 = .ok (.imul, 1) := by decide +kernel
theorem dX8_isSaid_152 : decode cX8_isSaid 152 = .ok (.invokevirtual 216, 3) := by decide +kernel
theorem dX8_isSaid_155 : decode cX8_isSaid 155 = .ok (.ireturn, 1) := by decide +kernel
theorem dX8_isSaid_156 : decode cX8_isSaid 156 = .ok (.iload_n 2, 1) := by decide +kernel
theorem dX8_isSaid_157 : decode cX8_isSaid 157 = .ok (.bipush 20, 2) := by decide +kernel
theorem dX8_isSaid_159 : decode cX8_isSaid 159 = .ok (.aload_n 0, 1) := by decide +kernel
theorem dX8_isSaid_160 : decode cX8_isSaid 160 = .ok (.getfield 13, 3) := by decide +kernel
theorem dX8_isSaid_163 : decode cX8_isSaid 163 = .ok (.iload_n 1, 1) := by decide +kernel
theorem dX8_isSaid_164 : decode cX8_isSaid 164 = .ok (.iaload, 1) := by decide +kernel
theorem dX8_isSaid_165 : decode cX8_isSaid 165 = .ok (.iadd, 1) := by decide +kernel
theorem dX8_isSaid_166 : decode cX8_isSaid 166 = .ok (.if_icmp .le 7, 3) := by decide +kernel
theorem dX8_isSaid_169 : decode cX8_isSaid 169 = .ok (.iconst 1, 1) := by decide +kernel
theorem dX8_isSaid_170 : decode cX8_isSaid 170 = .ok (.goto 4, 3) := by decide +kernel
theorem dX8_isSaid_173 : decode cX8_isSaid 173 = .ok (.iconst 0, 1) := by decide +kernel
theorem dX8_isSaid_174 : decode cX8_isSaid 174 = .ok (.ireturn, 1) := by decide +kernel
theorem dX8_isSaid_175 : decode cX8_isSaid 175 = .ok (.iconst 0, 1) := by decide +kernel
theorem dX8_isSaid_176 : decode cX8_isSaid 176 = .ok (.ireturn, 1) := by decide +kernel
theorem dX8_isMade_0 : decode cX8_isMade 0 = .ok (.iconst 1, 1) := by decide +kernel
theorem dX8_isMade_1 : decode cX8_isMade 1 = .ok (.istore_n 3, 1) := by decide +kernel
theorem dX8_isMade_2 : decode cX8_isMade 2 = .ok (.iload_n 3, 1) := by decide +kernel
theorem dX8_isMade_3 : decode cX8_isMade 3 = .ok (.iload_n 2, 1) := by decide +kernel
theorem dX8_isMade_4 : decode cX8_isMade 4 = .ok (.if_icmp .ge 31, 3) := by decide +kernel
theorem dX8_isMade_7 : decode cX8_isMade 7 = .ok (.aload_n 0, 1) := by decide +kernel
theorem dX8_isMade_8 : decode cX8_isMade 8 = .ok (.iload_n 1, 1) := by decide +kernel
theorem dX8_isMade_9 : decode cX8_isMade 9 = .ok (.iload_n 3, 1) := by decide +kernel
theorem dX8_isMade_10 : decode cX8_isMade 10 = .ok (.invokevirtual 216, 3) := by decide +kernel
theorem dX8_isMade_13 : decode cX8_isMade 13 = .ok (.ifCond .eq 16, 3) := by decide +kernel
theorem dX8_isMade_16 : decode cX8_isMade 16 = .ok (.aload_n 0, 1) := by decide +kernel
theorem dX8_isMade_17 : decode cX8_isMade 17 = .ok (.iload_n 1, 1) := by decide +kernel
theorem dX8_isMade_18 : decode cX8_isMade 18 = .ok (.iload_n 2, 1) := by decide +kernel
theorem dX8_isMade_19 : decode cX8_isMade 19 = .ok (.iload_n 3, 1) := by decide +kernel
theorem dX8_isMade_20 : decode cX8_isMade 20 = .ok (.isub, 1) := by decide +kernel
theorem dX8_isMade_21 : decode cX8_isMade 21 = .ok (.invokevirtual 216, 3) := by decide +kernel
theorem dX8_isMade_24 : decode cX8_isMade 24 = .ok (.ifCond .eq 5, 3) := by decide +kernel
theorem dX8_isMade_27 : decode cX8_isMade 27 = .ok (.iconst 1, 1) := by decide +kernel
theorem dX8_isMade_28 : decode cX8_isMade 28 = .ok (.ireturn, 1) := by decide +kernel
theorem dX8_isMade_29 : decode cX8_isMade 29 = .ok (.iinc 3 1, 3) := by decide +kernel
theorem dX8_isMade_32 : decode cX8_isMade 32 = .ok (.goto (-30), 3) := by decide +kernel
theorem dX8_isMade_35 : decode cX8_isMade 35 = .ok (.iconst 0, 1) := by decide +kernel
theorem dX8_isMade_36 : decode cX8_isMade 36 = .ok (.ireturn, 1) := by decide +kernel
theorem dX8_sayable_0 : decode cX8_sayable 0 = .ok (.iconst 0, 1) := by decide +kernel
theorem dX8_sayable_1 : decode cX8_sayable 1 = .ok (.istore_n 2, 1) := by decide +kernel
theorem dX8_sayable_2 : decode cX8_sayable 2 = .ok (.iconst 1, 1) := by decide +kernel
theorem dX8_sayable_3 : decode cX8_sayable 3 = .ok (.istore_n 3, 1) := by decide +kernel
theorem dX8_sayable_4 : decode cX8_sayable 4 = .ok (.iload_n 3, 1) := by decide +kernel
theorem dX8_sayable_5 : decode cX8_sayable 5 = .ok (.bipush 31, 2) := by decide +kernel
theorem dX8_sayable_7 : decode cX8_sayable 7 = .ok (.if_icmp .ge 26, 3) := by decide +kernel
theorem dX8_sayable_10 : decode cX8_sayable 10 = .ok (.aload_n 0, 1) := by decide +kernel
theorem dX8_sayable_11 : decode cX8_sayable 11 = .ok (.iload_n 1, 1) := by decide +kernel
theorem dX8_sayable_12 : decode cX8_sayable 12 = .ok (.iload_n 3, 1) := by decide +kernel
theorem dX8_sayable_13 : decode cX8_sayable 13 = .ok (.invokevirtual 222, 3) := by decide +kernel
theorem dX8_sayable_16 : decode cX8_sayable 16 = .ok (.ifCond .eq 11, 3) := by decide +kernel
theorem dX8_sayable_19 : decode cX8_sayable 19 = .ok (.iload_n 2, 1) := by decide +kernel
theorem dX8_sayable_20 : decode cX8_sayable 20 = .ok (.iconst 1, 1) := by decide +kernel
theorem dX8_sayable_21 : decode cX8_sayable 21 = .ok (.iload_n 3, 1) := by decide +kernel
theorem dX8_sayable_22 : decode cX8_sayable 22 = .ok (.iconst 1, 1) := by decide +kernel
theorem dX8_sayable_23 : decode cX8_sayable 23 = .ok (.isub, 1) := by decide +kernel
theorem dX8_sayable_24 : decode cX8_sayable 24 = .ok (.ishl, 1) := by decide +kernel
theorem dX8_sayable_25 : decode cX8_sayable 25 = .ok (.ior, 1) := by decide +kernel
theorem dX8_sayable_26 : decode cX8_sayable 26 = .ok (.istore_n 2, 1) := by decide +kernel
theorem dX8_sayable_27 : decode cX8_sayable 27 = .ok (.iinc 3 1, 3) := by decide +kernel
theorem dX8_sayable_30 : decode cX8_sayable 30 = .ok (.goto (-26), 3) := by decide +kernel
theorem dX8_sayable_33 : decode cX8_sayable 33 = .ok (.iload_n 2, 1) := by decide +kernel
theorem dX8_sayable_34 : decode cX8_sayable 34 = .ok (.ireturn, 1) := by decide +kernel
theorem dX8_one__0 : decode cX8_one_ 0 = .ok (.iload_n 0, 1) := by decide +kernel
theorem dX8_one__1 : decode cX8_one_ 1 = .ok (.iconst 1, 1) := by decide +kernel
theorem dX8_one__2 : decode cX8_one_ 2 = .ok (.if_icmp .ge 7, 3) := by decide +kernel
theorem dX8_one__5 : decode cX8_one_ 5 = .ok (.iconst 1, 1) := by decide +kernel
theorem dX8_one__6 : decode cX8_one_ 6 = .ok (.goto 4, 3) := by decide +kernel
theorem dX8_one__9 : decode cX8_one_ 9 = .ok (.iload_n 0, 1) := by decide +kernel
theorem dX8_one__10 : decode cX8_one_ 10 = .ok (.ireturn, 1) := by decide +kernel
theorem dX8_costs_0 : decode cX8_costs 0 = .ok (.aload_n 0, 1) := by decide +kernel
theorem dX8_costs_1 : decode cX8_costs 1 = .ok (.iconst 0, 1) := by decide +kernel
theorem dX8_costs_2 : decode cX8_costs 2 = .ok (.iload_n 1, 1) := by decide +kernel
theorem dX8_costs_3 : decode cX8_costs 3 = .ok (.iload_n 2, 1) := by decide +kernel
theorem dX8_costs_4 : decode cX8_costs 4 = .ok (.invokevirtual 225, 3) := by decide +kernel
theorem dX8_costs_7 : decode cX8_costs 7 = .ok (.invokestatic 228, 3) := by decide +kernel
theorem dX8_costs_10 : decode cX8_costs 10 = .ok (.istore_n 3, 1) := by decide +kernel
theorem dX8_costs_11 : decode cX8_costs 11 = .ok (.aload_n 0, 1) := by decide +kernel
theorem dX8_costs_12 : decode cX8_costs 12 = .ok (.getfield 7, 3) := by decide +kernel
theorem dX8_costs_15 : decode cX8_costs 15 = .ok (.iload_n 1, 1) := by decide +kernel
theorem dX8_costs_16 : decode cX8_costs 16 = .ok (.iaload, 1) := by decide +kernel
theorem dX8_costs_17 : decode cX8_costs 17 = .ok (.tableswitch 67 1 5 #[35, 39, 51, 39, 60], 35) := by decide +kernel
theorem dX8_costs_52 : decode cX8_costs 52 = .ok (.iload_n 3, 1) := by decide +kernel
theorem dX8_costs_53 : decode cX8_costs 53 = .ok (.iconst 1, 1) := by decide +kernel
theorem dX8_costs_54 : decode cX8_costs 54 = .ok (.iadd, 1) := by decide +kernel
theorem dX8_costs_55 : decode cX8_costs 55 = .ok (.ireturn, 1) := by decide +kernel
theorem dX8_costs_56 : decode cX8_costs 56 = .ok (.iload_n 3, 1) := by decide +kernel
theorem dX8_costs_57 : decode cX8_costs 57 = .ok (.aload_n 0, 1) := by decide +kernel
theorem dX8_costs_58 : decode cX8_costs 58 = .ok (.getfield 13, 3) := by decide +kernel
theorem dX8_costs_61 : decode cX8_costs 61 = .ok (.iload_n 1, 1) := by decide +kernel
theorem dX8_costs_62 : decode cX8_costs 62 = .ok (.iaload, 1) := by decide +kernel
theorem dX8_costs_63 : decode cX8_costs 63 = .ok (.iadd, 1) := by decide +kernel
theorem dX8_costs_64 : decode cX8_costs 64 = .ok (.invokestatic 231, 3) := by decide +kernel
theorem dX8_costs_67 : decode cX8_costs 67 = .ok (.ireturn, 1) := by decide +kernel
theorem dX8_costs_68 : decode cX8_costs 68 = .ok (.iload_n 3, 1) := by decide +kernel
theorem dX8_costs_69 : decode cX8_costs 69 = .ok (.iconst 1, 1) := by decide +kernel
theorem dX8_costs_70 : decode cX8_costs 70 = .ok (.iadd, 1) := by decide +kernel
theorem dX8_costs_71 : decode cX8_costs 71 = .ok (.iconst 2, 1) := by decide +kernel
theorem dX8_costs_72 : decode cX8_costs 72 = .ok (.idiv, 1) := by decide +kernel
theorem dX8_costs_73 : decode cX8_costs 73 = .ok (.invokestatic 231, 3) := by decide +kernel
theorem dX8_costs_76 : decode cX8_costs 76 = .ok (.ireturn, 1) := by decide +kernel
theorem dX8_costs_77 : decode cX8_costs 77 = .ok (.iconst 2, 1) := by decide +kernel
theorem dX8_costs_78 : decode cX8_costs 78 = .ok (.iload_n 3, 1) := by decide +kernel
theorem dX8_costs_79 : decode cX8_costs 79 = .ok (.imul, 1) := by decide +kernel
theorem dX8_costs_80 : decode cX8_costs 80 = .ok (.invokestatic 231, 3) := by decide +kernel
theorem dX8_costs_83 : decode cX8_costs 83 = .ok (.ireturn, 1) := by decide +kernel
theorem dX8_costs_84 : decode cX8_costs 84 = .ok (.iload_n 3, 1) := by decide +kernel
theorem dX8_costs_85 : decode cX8_costs 85 = .ok (.invokestatic 231, 3) := by decide +kernel
theorem dX8_costs_88 : decode cX8_costs 88 = .ok (.ireturn, 1) := by decide +kernel
theorem dX8_isMeant_0 : decode cX8_isMeant 0 = .ok (.aload_n 0, 1) := by decide +kernel
theorem dX8_isMeant_1 : decode cX8_isMeant 1 = .ok (.iconst 1, 1) := by decide +kernel
theorem dX8_isMeant_2 : decode cX8_isMeant 2 = .ok (.iload_n 1, 1) := by decide +kernel
theorem dX8_isMeant_3 : decode cX8_isMeant 3 = .ok (.iload_n 2, 1) := by decide +kernel
theorem dX8_isMeant_4 : decode cX8_isMeant 4 = .ok (.invokevirtual 225, 3) := by decide +kernel
theorem dX8_isMeant_7 : decode cX8_isMeant 7 = .ok (.ifCond .eq 7, 3) := by decide +kernel
theorem dX8_isMeant_10 : decode cX8_isMeant 10 = .ok (.iconst 1, 1) := by decide +kernel
theorem dX8_isMeant_11 : decode cX8_isMeant 11 = .ok (.goto 4, 3) := by decide +kernel
theorem dX8_isMeant_14 : decode cX8_isMeant 14 = .ok (.iconst 0, 1) := by decide +kernel
theorem dX8_isMeant_15 : decode cX8_isMeant 15 = .ok (.ireturn, 1) := by decide +kernel
theorem dX8_worthOf_0 : decode cX8_worthOf 0 = .ok (.aload_n 0, 1) := by decide +kernel
theorem dX8_worthOf_1 : decode cX8_worthOf 1 = .ok (.iconst 2, 1) := by decide +kernel
theorem dX8_worthOf_2 : decode cX8_worthOf 2 = .ok (.iload_n 1, 1) := by decide +kernel
theorem dX8_worthOf_3 : decode cX8_worthOf 3 = .ok (.iload_n 2, 1) := by decide +kernel
theorem dX8_worthOf_4 : decode cX8_worthOf 4 = .ok (.invokevirtual 225, 3) := by decide +kernel
theorem dX8_worthOf_7 : decode cX8_worthOf 7 = .ok (.invokestatic 228, 3) := by decide +kernel
theorem dX8_worthOf_10 : decode cX8_worthOf 10 = .ok (.ireturn, 1) := by decide +kernel
theorem dX8_says_0 : decode cX8_says 0 = .ok (.aload_n 0, 1) := by decide +kernel
theorem dX8_says_1 : decode cX8_says 1 = .ok (.iload_n 1, 1) := by decide +kernel
theorem dX8_says_2 : decode cX8_says 2 = .ok (.invokevirtual 89, 3) := by decide +kernel
theorem dX8_says_5 : decode cX8_says 5 = .ok (.ifCond .eq 34, 3) := by decide +kernel
theorem dX8_says_8 : decode cX8_says 8 = .ok (.iload_n 3, 1) := by decide +kernel
theorem dX8_says_9 : decode cX8_says 9 = .ok (.iconst 0, 1) := by decide +kernel
theorem dX8_says_10 : decode cX8_says 10 = .ok (.iconst 3, 1) := by decide +kernel
theorem dX8_says_11 : decode cX8_says 11 = .ok (.invokestatic 85, 3) := by decide +kernel
theorem dX8_says_14 : decode cX8_says 14 = .ok (.ifCond .eq 25, 3) := by decide +kernel
theorem dX8_says_17 : decode cX8_says 17 = .ok (.iload_n 3, 1) := by decide +kernel
theorem dX8_says_18 : decode cX8_says 18 = .ok (.iconst 2, 1) := by decide +kernel
theorem dX8_says_19 : decode cX8_says 19 = .ok (.if_icmp .ge 13, 3) := by decide +kernel
theorem dX8_says_22 : decode cX8_says 22 = .ok (.iload_n 2, 1) := by decide +kernel
theorem dX8_says_23 : decode cX8_says 23 = .ok (.invokestatic 115, 3) := by decide +kernel
theorem dX8_says_26 : decode cX8_says 26 = .ok (.ifCond .ne 16, 3) := by decide +kernel
theorem dX8_says_29 : decode cX8_says 29 = .ok (.goto 10, 3) := by decide +kernel
theorem dX8_says_32 : decode cX8_says 32 = .ok (.iload_n 2, 1) := by decide +kernel
theorem dX8_says_33 : decode cX8_says 33 = .ok (.invokestatic 233, 3) := by decide +kernel
theorem dX8_says_36 : decode cX8_says 36 = .ok (.ifCond .ne 6, 3) := by decide +kernel
theorem dX8_says_39 : decode cX8_says 39 = .ok (.bipush (-2), 2) := by decide +kernel
theorem dX8_says_41 : decode cX8_says 41 = .ok (.ireturn, 1) := by decide +kernel
theorem dX8_says_42 : decode cX8_says 42 = .ok (.iload_n 3, 1) := by decide +kernel
theorem dX8_says_43 : decode cX8_says 43 = .ok (.tableswitch 62 0 2 #[25, 40, 47], 25) := by decide +kernel
theorem dX8_says_68 : decode cX8_says 68 = .ok (.aload_n 0, 1) := by decide +kernel
theorem dX8_says_69 : decode cX8_says 69 = .ok (.iload_n 1, 1) := by decide +kernel
theorem dX8_says_70 : decode cX8_says 70 = .ok (.iload_n 2, 1) := by decide +kernel
theorem dX8_says_71 : decode cX8_says 71 = .ok (.invokevirtual 222, 3) := by decide +kernel
theorem dX8_says_74 : decode cX8_says 74 = .ok (.ifCond .eq 7, 3) := by decide +kernel
theorem dX8_says_77 : decode cX8_says 77 = .ok (.iconst 1, 1) := by decide +kernel
theorem dX8_says_78 : decode cX8_says 78 = .ok (.goto 4, 3) := by decide +kernel
theorem dX8_says_81 : decode cX8_says 81 = .ok (.iconst 0, 1) := by decide +kernel
theorem dX8_says_82 : decode cX8_says 82 = .ok (.ireturn, 1) := by decide +kernel
theorem dX8_says_83 : decode cX8_says 83 = .ok (.aload_n 0, 1) := by decide +kernel
theorem dX8_says_84 : decode cX8_says 84 = .ok (.iload_n 1, 1) := by decide +kernel
theorem dX8_says_85 : decode cX8_says 85 = .ok (.iload_n 2, 1) := by decide +kernel
theorem dX8_says_86 : decode cX8_says 86 = .ok (.invokevirtual 236, 3) := by decide +kernel
theorem dX8_says_89 : decode cX8_says 89 = .ok (.ireturn, 1) := by decide +kernel
theorem dX8_says_90 : decode cX8_says 90 = .ok (.aload_n 0, 1) := by decide +kernel
theorem dX8_says_91 : decode cX8_says 91 = .ok (.iload_n 1, 1) := by decide +kernel
theorem dX8_says_92 : decode cX8_says 92 = .ok (.iload_n 2, 1) := by decide +kernel
theorem dX8_says_93 : decode cX8_says 93 = .ok (.invokevirtual 239, 3) := by decide +kernel
theorem dX8_says_96 : decode cX8_says 96 = .ok (.ifCond .eq 7, 3) := by decide +kernel
theorem dX8_says_99 : decode cX8_says 99 = .ok (.iconst 1, 1) := by decide +kernel
theorem dX8_says_100 : decode cX8_says 100 = .ok (.goto 4, 3) := by decide +kernel
theorem dX8_says_103 : decode cX8_says 103 = .ok (.iconst 0, 1) := by decide +kernel
theorem dX8_says_104 : decode cX8_says 104 = .ok (.ireturn, 1) := by decide +kernel
theorem dX8_says_105 : decode cX8_says 105 = .ok (.aload_n 0, 1) := by decide +kernel
theorem dX8_says_106 : decode cX8_says 106 = .ok (.iload_n 1, 1) := by decide +kernel
theorem dX8_says_107 : decode cX8_says 107 = .ok (.iload_n 2, 1) := by decide +kernel
theorem dX8_says_108 : decode cX8_says 108 = .ok (.invokevirtual 242, 3) := by decide +kernel
theorem dX8_says_111 : decode cX8_says 111 = .ok (.ireturn, 1) := by decide +kernel
theorem dX8_common_0 : decode cX8_common 0 = .ok (.aload_n 0, 1) := by decide +kernel
theorem dX8_common_1 : decode cX8_common 1 = .ok (.iload_n 1, 1) := by decide +kernel
theorem dX8_common_2 : decode cX8_common 2 = .ok (.iload_n 2, 1) := by decide +kernel
theorem dX8_common_3 : decode cX8_common 3 = .ok (.invokevirtual 112, 3) := by decide +kernel
theorem dX8_common_6 : decode cX8_common 6 = .ok (.ifCond .eq 17, 3) := by decide +kernel
theorem dX8_common_9 : decode cX8_common 9 = .ok (.aload_n 0, 1) := by decide +kernel
theorem dX8_common_10 : decode cX8_common 10 = .ok (.iload_n 1, 1) := by decide +kernel
theorem dX8_common_11 : decode cX8_common 11 = .ok (.invokevirtual 101, 3) := by decide +kernel
theorem dX8_common_14 : decode cX8_common 14 = .ok (.aload_n 0, 1) := by decide +kernel
theorem dX8_common_15 : decode cX8_common 15 = .ok (.iload_n 2, 1) := by decide +kernel
theorem dX8_common_16 : decode cX8_common 16 = .ok (.invokevirtual 101, 3) := by decide +kernel
theorem dX8_common_19 : decode cX8_common 19 = .ok (.iand, 1) := by decide +kernel
theorem dX8_common_20 : decode cX8_common 20 = .ok (.goto 5, 3) := by decide +kernel
theorem dX8_common_23 : decode cX8_common 23 = .ok (.bipush (-2), 2) := by decide +kernel
theorem dX8_common_25 : decode cX8_common 25 = .ok (.ireturn, 1) := by decide +kernel
theorem dX8_sums_0 : decode cX8_sums 0 = .ok (.iconst 1, 1) := by decide +kernel
theorem dX8_sums_1 : decode cX8_sums 1 = .ok (.istore_n 3, 1) := by decide +kernel
theorem dX8_sums_2 : decode cX8_sums 2 = .ok (.iload_n 3, 1) := by decide +kernel
theorem dX8_sums_3 : decode cX8_sums 3 = .ok (.bipush 31, 2) := by decide +kernel
theorem dX8_sums_5 : decode cX8_sums 5 = .ok (.if_icmp .ge 50, 3) := by decide +kernel
theorem dX8_sums_8 : decode cX8_sums 8 = .ok (.aload_n 0, 1) := by decide +kernel
theorem dX8_sums_9 : decode cX8_sums 9 = .ok (.getfield 37, 3) := by decide +kernel
theorem dX8_sums_12 : decode cX8_sums 12 = .ok (.iload_n 3, 1) := by decide +kernel
theorem dX8_sums_13 : decode cX8_sums 13 = .ok (.aload_n 0, 1) := by decide +kernel
theorem dX8_sums_14 : decode cX8_sums 14 = .ok (.iload_n 1, 1) := by decide +kernel
theorem dX8_sums_15 : decode cX8_sums 15 = .ok (.iload_n 3, 1) := by decide +kernel
theorem dX8_sums_16 : decode cX8_sums 16 = .ok (.invokevirtual 222, 3) := by decide +kernel
theorem dX8_sums_19 : decode cX8_sums 19 = .ok (.ifCond .eq 28, 3) := by decide +kernel
theorem dX8_sums_22 : decode cX8_sums 22 = .ok (.aload_n 0, 1) := by decide +kernel
theorem dX8_sums_23 : decode cX8_sums 23 = .ok (.iload_n 2, 1) := by decide +kernel
theorem dX8_sums_24 : decode cX8_sums 24 = .ok (.iload_n 3, 1) := by decide +kernel
theorem dX8_sums_25 : decode cX8_sums 25 = .ok (.invokevirtual 222, 3) := by decide +kernel
theorem dX8_sums_28 : decode cX8_sums 28 = .ok (.ifCond .eq 19, 3) := by decide +kernel
theorem dX8_sums_31 : decode cX8_sums 31 = .ok (.aload_n 0, 1) := by decide +kernel
theorem dX8_sums_32 : decode cX8_sums 32 = .ok (.iload_n 1, 1) := by decide +kernel
theorem dX8_sums_33 : decode cX8_sums 33 = .ok (.iload_n 3, 1) := by decide +kernel
theorem dX8_sums_34 : decode cX8_sums 34 = .ok (.invokevirtual 236, 3) := by decide +kernel
theorem dX8_sums_37 : decode cX8_sums 37 = .ok (.aload_n 0, 1) := by decide +kernel
theorem dX8_sums_38 : decode cX8_sums 38 = .ok (.iload_n 2, 1) := by decide +kernel
theorem dX8_sums_39 : decode cX8_sums 39 = .ok (.iload_n 3, 1) := by decide +kernel
theorem dX8_sums_40 : decode cX8_sums 40 = .ok (.invokevirtual 236, 3) := by decide +kernel
theorem dX8_sums_43 : decode cX8_sums 43 = .ok (.iadd, 1) := by decide +kernel
theorem dX8_sums_44 : decode cX8_sums 44 = .ok (.goto 4, 3) := by decide +kernel
theorem dX8_sums_47 : decode cX8_sums 47 = .ok (.iconst (-1), 1) := by decide +kernel
theorem dX8_sums_48 : decode cX8_sums 48 = .ok (.iastore, 1) := by decide +kernel
theorem dX8_sums_49 : decode cX8_sums 49 = .ok (.iinc 3 1, 3) := by decide +kernel
theorem dX8_sums_52 : decode cX8_sums 52 = .ok (.goto (-50), 3) := by decide +kernel
theorem dX8_sums_55 : decode cX8_sums 55 = .ok (.iconst 1, 1) := by decide +kernel
theorem dX8_sums_56 : decode cX8_sums 56 = .ok (.istore_n 3, 1) := by decide +kernel
theorem dX8_sums_57 : decode cX8_sums 57 = .ok (.iload_n 3, 1) := by decide +kernel
theorem dX8_sums_58 : decode cX8_sums 58 = .ok (.bipush 100, 2) := by decide +kernel
theorem dX8_sums_60 : decode cX8_sums 60 = .ok (.if_icmp .ge 174, 3) := by decide +kernel
theorem dX8_sums_63 : decode cX8_sums 63 = .ok (.aload_n 0, 1) := by decide +kernel
theorem dX8_sums_64 : decode cX8_sums 64 = .ok (.getfield 40, 3) := by decide +kernel
theorem dX8_sums_67 : decode cX8_sums 67 = .ok (.iload_n 3, 1) := by decide +kernel
theorem dX8_sums_68 : decode cX8_sums 68 = .ok (.iconst (-1), 1) := by decide +kernel
theorem dX8_sums_69 : decode cX8_sums 69 = .ok (.iastore, 1) := by decide +kernel
theorem dX8_sums_70 : decode cX8_sums 70 = .ok (.aload_n 0, 1) := by decide +kernel
theorem dX8_sums_71 : decode cX8_sums 71 = .ok (.getfield 43, 3) := by decide +kernel
theorem dX8_sums_74 : decode cX8_sums 74 = .ok (.iload_n 3, 1) := by decide +kernel
theorem dX8_sums_75 : decode cX8_sums 75 = .ok (.iconst (-1), 1) := by decide +kernel
theorem dX8_sums_76 : decode cX8_sums 76 = .ok (.iastore, 1) := by decide +kernel
theorem dX8_sums_77 : decode cX8_sums 77 = .ok (.iconst 1, 1) := by decide +kernel
theorem dX8_sums_78 : decode cX8_sums 78 = .ok (.istore 4, 2) := by decide +kernel
theorem dX8_sums_80 : decode cX8_sums 80 = .ok (.iload 4, 2) := by decide +kernel
theorem dX8_sums_82 : decode cX8_sums 82 = .ok (.bipush 31, 2) := by decide +kernel
theorem dX8_sums_84 : decode cX8_sums 84 = .ok (.if_icmp .ge 144, 3) := by decide +kernel
theorem dX8_sums_87 : decode cX8_sums 87 = .ok (.iload 4, 2) := by decide +kernel
theorem dX8_sums_89 : decode cX8_sums 89 = .ok (.iload_n 3, 1) := by decide +kernel
theorem dX8_sums_90 : decode cX8_sums 90 = .ok (.if_icmp .gt 138, 3) := by decide +kernel
theorem dX8_sums_93 : decode cX8_sums 93 = .ok (.iload_n 3, 1) := by decide +kernel
theorem dX8_sums_94 : decode cX8_sums 94 = .ok (.iload 4, 2) := by decide +kernel
theorem dX8_sums_96 : decode cX8_sums 96 = .ok (.isub, 1) := by decide +kernel
theorem dX8_sums_97 : decode cX8_sums 97 = .ok (.istore 5, 2) := by decide +kernel
theorem dX8_sums_99 : decode cX8_sums 99 = .ok (.aload_n 0, 1) := by decide +kernel
theorem dX8_sums_100 : decode cX8_sums 100 = .ok (.getfield 37, 3) := by decide +kernel
theorem dX8_sums_103 : decode cX8_sums 103 = .ok (.iload 4, 2) := by decide +kernel
theorem dX8_sums_105 : decode cX8_sums 105 = .ok (.iaload, 1) := by decide +kernel
theorem dX8_sums_106 : decode cX8_sums 106 = .ok (.iconst (-1), 1) := by decide +kernel
theorem dX8_sums_107 : decode cX8_sums 107 = .ok (.if_icmp .eq 115, 3) := by decide +kernel
theorem dX8_sums_110 : decode cX8_sums 110 = .ok (.aload_n 0, 1) := by decide +kernel
theorem dX8_sums_111 : decode cX8_sums 111 = .ok (.getfield 40, 3) := by decide +kernel
theorem dX8_sums_114 : decode cX8_sums 114 = .ok (.iload 5, 2) := by decide +kernel
theorem dX8_sums_116 : decode cX8_sums 116 = .ok (.iaload, 1) := by decide +kernel
theorem dX8_sums_117 : decode cX8_sums 117 = .ok (.iconst (-1), 1) := by decide +kernel
theorem dX8_sums_118 : decode cX8_sums 118 = .ok (.if_icmp .ne 6, 3) := by decide +kernel
theorem dX8_sums_121 : decode cX8_sums 121 = .ok (.goto 101, 3) := by decide +kernel
theorem dX8_sums_124 : decode cX8_sums 124 = .ok (.aload_n 0, 1) := by decide +kernel
theorem dX8_sums_125 : decode cX8_sums 125 = .ok (.getfield 40, 3) := by decide +kernel
theorem dX8_sums_128 : decode cX8_sums 128 = .ok (.iload_n 3, 1) := by decide +kernel
theorem dX8_sums_129 : decode cX8_sums 129 = .ok (.iaload, 1) := by decide +kernel
theorem dX8_sums_130 : decode cX8_sums 130 = .ok (.iconst (-1), 1) := by decide +kernel
theorem dX8_sums_131 : decode cX8_sums 131 = .ok (.if_icmp .eq 27, 3) := by decide +kernel
theorem dX8_sums_134 : decode cX8_sums 134 = .ok (.aload_n 0, 1) := by decide +kernel
theorem dX8_sums_135 : decode cX8_sums 135 = .ok (.getfield 40, 3) := by decide +kernel
theorem dX8_sums_138 : decode cX8_sums 138 = .ok (.iload 5, 2) := by decide +kernel
theorem dX8_sums_140 : decode cX8_sums 140 = .ok (.iaload, 1) := by decide +kernel
theorem dX8_sums_141 : decode cX8_sums 141 = .ok (.aload_n 0, 1) := by decide +kernel
theorem dX8_sums_142 : decode cX8_sums 142 = .ok (.getfield 37, 3) := by decide +kernel
theorem dX8_sums_145 : decode cX8_sums 145 = .ok (.iload 4, 2) := by decide +kernel
theorem dX8_sums_147 : decode cX8_sums 147 = .ok (.iaload, 1) := by decide +kernel
theorem dX8_sums_148 : decode cX8_sums 148 = .ok (.iadd, 1) := by decide +kernel
theorem dX8_sums_149 : decode cX8_sums 149 = .ok (.aload_n 0, 1) := by decide +kernel
theorem dX8_sums_150 : decode cX8_sums 150 = .ok (.getfield 40, 3) := by decide +kernel
theorem dX8_sums_153 : decode cX8_sums 153 = .ok (.iload_n 3, 1) := by decide +kernel
theorem dX8_sums_154 : decode cX8_sums 154 = .ok (.iaload, 1) := by decide +kernel
theorem dX8_sums_155 : decode cX8_sums 155 = .ok (.if_icmp .ge 24, 3) := by decide +kernel
theorem dX8_sums_158 : decode cX8_sums 158 = .ok (.aload_n 0, 1) := by decide +kernel
theorem dX8_sums_159 : decode cX8_sums 159 = .ok (.getfield 40, 3) := by decide +kernel
theorem dX8_sums_162 : decode cX8_sums 162 = .ok (.iload_n 3, 1) := by decide +kernel
theorem dX8_sums_163 : decode cX8_sums 163 = .ok (.aload_n 0, 1) := by decide +kernel
theorem dX8_sums_164 : decode cX8_sums 164 = .ok (.getfield 40, 3) := by decide +kernel
theorem dX8_sums_167 : decode cX8_sums 167 = .ok (.iload 5, 2) := by decide +kernel
theorem dX8_sums_169 : decode cX8_sums 169 = .ok (.iaload, 1) := by decide +kernel
theorem dX8_sums_170 : decode cX8_sums 170 = .ok (.aload_n 0, 1) := by decide +kernel
theorem dX8_sums_171 : decode cX8_sums 171 = .ok (.getfield 37, 3) := by decide +kernel
theorem dX8_sums_174 : decode cX8_sums 174 = .ok (.iload 4, 2) := by decide +kernel
theorem dX8_sums_176 : decode cX8_sums 176 = .ok (.iaload, 1) := by decide +kernel
theorem dX8_sums_177 : decode cX8_sums 177 = .ok (.iadd, 1) := by decide +kernel
theorem dX8_sums_178 : decode cX8_sums 178 = .ok (.iastore, 1) := by decide +kernel
theorem dX8_sums_179 : decode cX8_sums 179 = .ok (.aload_n 0, 1) := by decide +kernel
theorem dX8_sums_180 : decode cX8_sums 180 = .ok (.getfield 43, 3) := by decide +kernel
theorem dX8_sums_183 : decode cX8_sums 183 = .ok (.iload_n 3, 1) := by decide +kernel
theorem dX8_sums_184 : decode cX8_sums 184 = .ok (.iaload, 1) := by decide +kernel
theorem dX8_sums_185 : decode cX8_sums 185 = .ok (.iconst (-1), 1) := by decide +kernel
theorem dX8_sums_186 : decode cX8_sums 186 = .ok (.if_icmp .eq 21, 3) := by decide +kernel
theorem dX8_sums_189 : decode cX8_sums 189 = .ok (.aload_n 0, 1) := by decide +kernel
theorem dX8_sums_190 : decode cX8_sums 190 = .ok (.getfield 43, 3) := by decide +kernel
theorem dX8_sums_193 : decode cX8_sums 193 = .ok (.iload 5, 2) := by decide +kernel
theorem dX8_sums_195 : decode cX8_sums 195 = .ok (.iaload, 1) := by decide +kernel
theorem dX8_sums_196 : decode cX8_sums 196 = .ok (.iconst 1, 1) := by decide +kernel
theorem dX8_sums_197 : decode cX8_sums 197 = .ok (.iadd, 1) := by decide +kernel
theorem dX8_sums_198 : decode cX8_sums 198 = .ok (.aload_n 0, 1) := by decide +kernel
theorem dX8_sums_199 : decode cX8_sums 199 = .ok (.getfield 43, 3) := by decide +kernel
theorem dX8_sums_202 : decode cX8_sums 202 = .ok (.iload_n 3, 1) := by decide +kernel
theorem dX8_sums_203 : decode cX8_sums 203 = .ok (.iaload, 1) := by decide +kernel
theorem dX8_sums_204 : decode cX8_sums 204 = .ok (.if_icmp .ge 18, 3) := by decide +kernel
theorem dX8_sums_207 : decode cX8_sums 207 = .ok (.aload_n 0, 1) := by decide +kernel
theorem dX8_sums_208 : decode cX8_sums 208 = .ok (.getfield 43, 3) := by decide +kernel
theorem dX8_sums_211 : decode cX8_sums 211 = .ok (.iload_n 3, 1) := by decide +kernel
theorem dX8_sums_212 : decode cX8_sums 212 = .ok (.aload_n 0, 1) := by decide +kernel
theorem dX8_sums_213 : decode cX8_sums 213 = .ok (.getfield 43, 3) := by decide +kernel
theorem dX8_sums_216 : decode cX8_sums 216 = .ok (.iload 5, 2) := by decide +kernel
theorem dX8_sums_218 : decode cX8_sums 218 = .ok (.iaload, 1) := by decide +kernel
theorem dX8_sums_219 : decode cX8_sums 219 = .ok (.iconst 1, 1) := by decide +kernel
theorem dX8_sums_220 : decode cX8_sums 220 = .ok (.iadd, 1) := by decide +kernel
theorem dX8_sums_221 : decode cX8_sums 221 = .ok (.iastore, 1) := by decide +kernel
theorem dX8_sums_222 : decode cX8_sums 222 = .ok (.iinc 4 1, 3) := by decide +kernel
theorem dX8_sums_225 : decode cX8_sums 225 = .ok (.goto (-145), 3) := by decide +kernel
theorem dX8_sums_228 : decode cX8_sums 228 = .ok (.iinc 3 1, 3) := by decide +kernel
theorem dX8_sums_231 : decode cX8_sums 231 = .ok (.goto (-174), 3) := by decide +kernel
theorem dX8_sums_234 : decode cX8_sums 234 = .ok (.return_, 1) := by decide +kernel
theorem dX8_legs_0 : decode cX8_legs 0 = .ok (.iconst 0, 1) := by decide +kernel
theorem dX8_legs_1 : decode cX8_legs 1 = .ok (.istore_n 2, 1) := by decide +kernel
theorem dX8_legs_2 : decode cX8_legs 2 = .ok (.iload_n 2, 1) := by decide +kernel
theorem dX8_legs_3 : decode cX8_legs 3 = .ok (.aload_n 0, 1) := by decide +kernel
theorem dX8_legs_4 : decode cX8_legs 4 = .ok (.getfield 82, 3) := by decide +kernel
theorem dX8_legs_7 : decode cX8_legs 7 = .ok (.if_icmp .ge 62, 3) := by decide +kernel
theorem dX8_legs_10 : decode cX8_legs 10 = .ok (.iconst 0, 1) := by decide +kernel
theorem dX8_legs_11 : decode cX8_legs 11 = .ok (.istore_n 3, 1) := by decide +kernel
theorem dX8_legs_12 : decode cX8_legs 12 = .ok (.iload_n 3, 1) := by decide +kernel
theorem dX8_legs_13 : decode cX8_legs 13 = .ok (.iload_n 2, 1) := by decide +kernel
theorem dX8_legs_14 : decode cX8_legs 14 = .ok (.if_icmp .ge 49, 3) := by decide +kernel
theorem dX8_legs_17 : decode cX8_legs 17 = .ok (.aload_n 0, 1) := by decide +kernel
theorem dX8_legs_18 : decode cX8_legs 18 = .ok (.iload_n 2, 1) := by decide +kernel
theorem dX8_legs_19 : decode cX8_legs 19 = .ok (.iload_n 3, 1) := by decide +kernel
theorem dX8_legs_20 : decode cX8_legs 20 = .ok (.invokevirtual 245, 3) := by decide +kernel
theorem dX8_legs_23 : decode cX8_legs 23 = .ok (.aload_n 0, 1) := by decide +kernel
theorem dX8_legs_24 : decode cX8_legs 24 = .ok (.getfield 50, 3) := by decide +kernel
theorem dX8_legs_27 : decode cX8_legs 27 = .ok (.bipush 6, 2) := by decide +kernel
theorem dX8_legs_29 : decode cX8_legs 29 = .ok (.iload_n 2, 1) := by decide +kernel
theorem dX8_legs_30 : decode cX8_legs 30 = .ok (.imul, 1) := by decide +kernel
theorem dX8_legs_31 : decode cX8_legs 31 = .ok (.iload_n 3, 1) := by decide +kernel
theorem dX8_legs_32 : decode cX8_legs 32 = .ok (.iadd, 1) := by decide +kernel
theorem dX8_legs_33 : decode cX8_legs 33 = .ok (.aload_n 0, 1) := by decide +kernel
theorem dX8_legs_34 : decode cX8_legs 34 = .ok (.getfield 40, 3) := by decide +kernel
theorem dX8_legs_37 : decode cX8_legs 37 = .ok (.iload_n 1, 1) := by decide +kernel
theorem dX8_legs_38 : decode cX8_legs 38 = .ok (.iaload, 1) := by decide +kernel
theorem dX8_legs_39 : decode cX8_legs 39 = .ok (.iastore, 1) := by decide +kernel
theorem dX8_legs_40 : decode cX8_legs 40 = .ok (.aload_n 0, 1) := by decide +kernel
theorem dX8_legs_41 : decode cX8_legs 41 = .ok (.getfield 50, 3) := by decide +kernel
theorem dX8_legs_44 : decode cX8_legs 44 = .ok (.bipush 6, 2) := by decide +kernel
theorem dX8_legs_46 : decode cX8_legs 46 = .ok (.iload_n 3, 1) := by decide +kernel
theorem dX8_legs_47 : decode cX8_legs 47 = .ok (.imul, 1) := by decide +kernel
theorem dX8_legs_48 : decode cX8_legs 48 = .ok (.iload_n 2, 1) := by decide +kernel
theorem dX8_legs_49 : decode cX8_legs 49 = .ok (.iadd, 1) := by decide +kernel
theorem dX8_legs_50 : decode cX8_legs 50 = .ok (.aload_n 0, 1) := by decide +kernel
theorem dX8_legs_51 : decode cX8_legs 51 = .ok (.getfield 40, 3) := by decide +kernel
theorem dX8_legs_54 : decode cX8_legs 54 = .ok (.iload_n 1, 1) := by decide +kernel
theorem dX8_legs_55 : decode cX8_legs 55 = .ok (.iaload, 1) := by decide +kernel
theorem dX8_legs_56 : decode cX8_legs 56 = .ok (.iastore, 1) := by decide +kernel
theorem dX8_legs_57 : decode cX8_legs 57 = .ok (.iinc 3 1, 3) := by decide +kernel
theorem dX8_legs_60 : decode cX8_legs 60 = .ok (.goto (-48), 3) := by decide +kernel
theorem dX8_legs_63 : decode cX8_legs 63 = .ok (.iinc 2 1, 3) := by decide +kernel
theorem dX8_legs_66 : decode cX8_legs 66 = .ok (.goto (-64), 3) := by decide +kernel
theorem dX8_legs_69 : decode cX8_legs 69 = .ok (.return_, 1) := by decide +kernel
theorem dX8_ways_0 : decode cX8_ways 0 = .ok (.iconst 0, 1) := by decide +kernel
theorem dX8_ways_1 : decode cX8_ways 1 = .ok (.istore_n 2, 1) := by decide +kernel
theorem dX8_ways_2 : decode cX8_ways 2 = .ok (.iload_n 2, 1) := by decide +kernel
theorem dX8_ways_3 : decode cX8_ways 3 = .ok (.aload_n 0, 1) := by decide +kernel
theorem dX8_ways_4 : decode cX8_ways 4 = .ok (.getfield 82, 3) := by decide +kernel
theorem dX8_ways_7 : decode cX8_ways 7 = .ok (.if_icmp .ge 32, 3) := by decide +kernel
theorem dX8_ways_10 : decode cX8_ways 10 = .ok (.aload_n 0, 1) := by decide +kernel
theorem dX8_ways_11 : decode cX8_ways 11 = .ok (.getfield 53, 3) := by decide +kernel
theorem dX8_ways_14 : decode cX8_ways 14 = .ok (.iload_n 2, 1) := by decide +kernel
theorem dX8_ways_15 : decode cX8_ways 15 = .ok (.iload_n 2, 1) := by decide +kernel
theorem dX8_ways_16 : decode cX8_ways 16 = .ok (.iload_n 1, 1) := by decide +kernel
theorem dX8_ways_17 : decode cX8_ways 17 = .ok (.if_icmp .ne 7, 3) := by decide +kernel
theorem dX8_ways_20 : decode cX8_ways 20 = .ok (.iconst 0, 1) := by decide +kernel
theorem dX8_ways_21 : decode cX8_ways 21 = .ok (.goto 4, 3) := by decide +kernel
theorem dX8_ways_24 : decode cX8_ways 24 = .ok (.iconst (-1), 1) := by decide +kernel
theorem dX8_ways_25 : decode cX8_ways 25 = .ok (.iastore, 1) := by decide +kernel
theorem dX8_ways_26 : decode cX8_ways 26 = .ok (.aload_n 0, 1) := by decide +kernel
theorem dX8_ways_27 : decode cX8_ways 27 = .ok (.getfield 56, 3) := by decide +kernel
theorem dX8_ways_30 : decode cX8_ways 30 = .ok (.iload_n 2, 1) := by decide +kernel
theorem dX8_ways_31 : decode cX8_ways 31 = .ok (.iconst 0, 1) := by decide +kernel
theorem dX8_ways_32 : decode cX8_ways 32 = .ok (.iastore, 1) := by decide +kernel
theorem dX8_ways_33 : decode cX8_ways 33 = .ok (.iinc 2 1, 3) := by decide +kernel
theorem dX8_ways_36 : decode cX8_ways 36 = .ok (.goto (-34), 3) := by decide +kernel
theorem dX8_ways_39 : decode cX8_ways 39 = .ok (.iconst 0, 1) := by decide +kernel
theorem dX8_ways_40 : decode cX8_ways 40 = .ok (.istore_n 2, 1) := by decide +kernel
theorem dX8_ways_41 : decode cX8_ways 41 = .ok (.iload_n 2, 1) := by decide +kernel
theorem dX8_ways_42 : decode cX8_ways 42 = .ok (.bipush 6, 2) := by decide +kernel
theorem dX8_ways_44 : decode cX8_ways 44 = .ok (.if_icmp .ge 179, 3) := by decide +kernel
theorem dX8_ways_47 : decode cX8_ways 47 = .ok (.iconst 0, 1) := by decide +kernel
theorem dX8_ways_48 : decode cX8_ways 48 = .ok (.istore_n 3, 1) := by decide +kernel
theorem dX8_ways_49 : decode cX8_ways 49 = .ok (.iload_n 3, 1) := by decide +kernel
theorem dX8_ways_50 : decode cX8_ways 50 = .ok (.aload_n 0, 1) := by decide +kernel
theorem dX8_ways_51 : decode cX8_ways 51 = .ok (.getfield 82, 3) := by decide +kernel
theorem dX8_ways_54 : decode cX8_ways 54 = .ok (.if_icmp .ge 163, 3) := by decide +kernel
theorem dX8_ways_57 : decode cX8_ways 57 = .ok (.iconst 0, 1) := by decide +kernel
theorem dX8_ways_58 : decode cX8_ways 58 = .ok (.istore 4, 2) := by decide +kernel
theorem dX8_ways_60 : decode cX8_ways 60 = .ok (.iload 4, 2) := by decide +kernel
theorem dX8_ways_62 : decode cX8_ways 62 = .ok (.aload_n 0, 1) := by decide +kernel
theorem dX8_ways_63 : decode cX8_ways 63 = .ok (.getfield 82, 3) := by decide +kernel
theorem dX8_ways_66 : decode cX8_ways 66 = .ok (.if_icmp .ge 145, 3) := by decide +kernel
theorem dX8_ways_69 : decode cX8_ways 69 = .ok (.iload_n 3, 1) := by decide +kernel
theorem dX8_ways_70 : decode cX8_ways 70 = .ok (.iload 4, 2) := by decide +kernel
theorem dX8_ways_72 : decode cX8_ways 72 = .ok (.if_icmp .eq 133, 3) := by decide +kernel
theorem dX8_ways_75 : decode cX8_ways 75 = .ok (.aload_n 0, 1) := by decide +kernel
theorem dX8_ways_76 : decode cX8_ways 76 = .ok (.getfield 53, 3) := by decide +kernel
theorem dX8_ways_79 : decode cX8_ways 79 = .ok (.iload_n 3, 1) := by decide +kernel
theorem dX8_ways_80 : decode cX8_ways 80 = .ok (.iaload, 1) := by decide +kernel
theorem dX8_ways_81 : decode cX8_ways 81 = .ok (.iconst (-1), 1) := by decide +kernel
theorem dX8_ways_82 : decode cX8_ways 82 = .ok (.if_icmp .eq 123, 3) := by decide +kernel
theorem dX8_ways_85 : decode cX8_ways 85 = .ok (.aload_n 0, 1) := by decide +kernel
theorem dX8_ways_86 : decode cX8_ways 86 = .ok (.getfield 50, 3) := by decide +kernel
theorem dX8_ways_89 : decode cX8_ways 89 = .ok (.bipush 6, 2) := by decide +kernel
theorem dX8_ways_91 : decode cX8_ways 91 = .ok (.iload_n 3, 1) := by decide +kernel
theorem dX8_ways_92 : decode cX8_ways 92 = .ok (.imul, 1) := by decide +kernel
theorem dX8_ways_93 : decode cX8_ways 93 = .ok (.iload 4, 2) := by decide +kernel
theorem dX8_ways_95 : decode cX8_ways 95 = .ok (.iadd, 1) := by decide +kernel
theorem dX8_ways_96 : decode cX8_ways 96 = .ok (.iaload, 1) := by decide +kernel
theorem dX8_ways_97 : decode cX8_ways 97 = .ok (.iconst (-1), 1) := by decide +kernel
theorem dX8_ways_98 : decode cX8_ways 98 = .ok (.if_icmp .ne 6, 3) := by decide +kernel
theorem dX8_ways_101 : decode cX8_ways 101 = .ok (.goto 104, 3) := by decide +kernel
theorem dX8_ways_104 : decode cX8_ways 104 = .ok (.aload_n 0, 1) := by decide +kernel
theorem dX8_ways_105 : decode cX8_ways 105 = .ok (.getfield 53, 3) := by decide +kernel
theorem dX8_ways_108 : decode cX8_ways 108 = .ok (.iload_n 3, 1) := by decide +kernel
theorem dX8_ways_109 : decode cX8_ways 109 = .ok (.iaload, 1) := by decide +kernel
theorem dX8_ways_110 : decode cX8_ways 110 = .ok (.aload_n 0, 1) := by decide +kernel
theorem dX8_ways_111 : decode cX8_ways 111 = .ok (.getfield 50, 3) := by decide +kernel
theorem dX8_ways_114 : decode cX8_ways 114 = .ok (.bipush 6, 2) := by decide +kernel
theorem dX8_ways_116 : decode cX8_ways 116 = .ok (.iload_n 3, 1) := by decide +kernel
theorem dX8_ways_117 : decode cX8_ways 117 = .ok (.imul, 1) := by decide +kernel
theorem dX8_ways_118 : decode cX8_ways 118 = .ok (.iload 4, 2) := by decide +kernel
theorem dX8_ways_120 : decode cX8_ways 120 = .ok (.iadd, 1) := by decide +kernel
theorem dX8_ways_121 : decode cX8_ways 121 = .ok (.iaload, 1) := by decide +kernel
theorem dX8_ways_122 : decode cX8_ways 122 = .ok (.iadd, 1) := by decide +kernel
theorem dX8_ways_123 : decode cX8_ways 123 = .ok (.istore 5, 2) := by decide +kernel
theorem dX8_ways_125 : decode cX8_ways 125 = .ok (.aload_n 0, 1) := by decide +kernel
theorem dX8_ways_126 : decode cX8_ways 126 = .ok (.getfield 53, 3) := by decide +kernel
theorem dX8_ways_129 : decode cX8_ways 129 = .ok (.iload 4, 2) := by decide +kernel
theorem dX8_ways_131 : decode cX8_ways 131 = .ok (.iaload, 1) := by decide +kernel
theorem dX8_ways_132 : decode cX8_ways 132 = .ok (.iconst (-1), 1) := by decide +kernel
theorem dX8_ways_133 : decode cX8_ways 133 = .ok (.if_icmp .eq 48, 3) := by decide +kernel
theorem dX8_ways_136 : decode cX8_ways 136 = .ok (.iload 5, 2) := by decide +kernel
theorem dX8_ways_138 : decode cX8_ways 138 = .ok (.aload_n 0, 1) := by decide +kernel
theorem dX8_ways_139 : decode cX8_ways 139 = .ok (.getfield 53, 3) := by decide +kernel
theorem dX8_ways_142 : decode cX8_ways 142 = .ok (.iload 4, 2) := by decide +kernel
theorem dX8_ways_144 : decode cX8_ways 144 = .ok (.iaload, 1) := by decide +kernel
theorem dX8_ways_145 : decode cX8_ways 145 = .ok (.if_icmp .gt 60, 3) := by decide +kernel
theorem dX8_ways_148 : decode cX8_ways 148 = .ok (.iload 5, 2) := by decide +kernel
theorem dX8_ways_150 : decode cX8_ways 150 = .ok (.aload_n 0, 1) := by decide +kernel
theorem dX8_ways_151 : decode cX8_ways 151 = .ok (.getfield 53, 3) := by decide +kernel
theorem dX8_ways_154 : decode cX8_ways 154 = .ok (.iload 4, 2) := by decide +kernel
theorem dX8_ways_156 : decode cX8_ways 156 = .ok (.iaload, 1) := by decide +kernel
theorem dX8_ways_157 : decode cX8_ways 157 = .ok (.if_icmp .ne 24, 3) := by decide +kernel
theorem dX8_ways_160 : decode cX8_ways 160 = .ok (.aload_n 0, 1) := by decide +kernel
theorem dX8_ways_161 : decode cX8_ways 161 = .ok (.getfield 56, 3) := by decide +kernel
theorem dX8_ways_164 : decode cX8_ways 164 = .ok (.iload_n 3, 1) := by decide +kernel
theorem dX8_ways_165 : decode cX8_ways 165 = .ok (.iaload, 1) := by decide +kernel
theorem dX8_ways_166 : decode cX8_ways 166 = .ok (.iconst 1, 1) := by decide +kernel
theorem dX8_ways_167 : decode cX8_ways 167 = .ok (.iadd, 1) := by decide +kernel
theorem dX8_ways_168 : decode cX8_ways 168 = .ok (.aload_n 0, 1) := by decide +kernel
theorem dX8_ways_169 : decode cX8_ways 169 = .ok (.getfield 56, 3) := by decide +kernel
theorem dX8_ways_172 : decode cX8_ways 172 = .ok (.iload 4, 2) := by decide +kernel
theorem dX8_ways_174 : decode cX8_ways 174 = .ok (.iaload, 1) := by decide +kernel
theorem dX8_ways_175 : decode cX8_ways 175 = .ok (.if_icmp .lt 6, 3) := by decide +kernel
theorem dX8_ways_178 : decode cX8_ways 178 = .ok (.goto 27, 3) := by decide +kernel
theorem dX8_ways_181 : decode cX8_ways 181 = .ok (.aload_n 0, 1) := by decide +kernel
theorem dX8_ways_182 : decode cX8_ways 182 = .ok (.getfield 53, 3) := by decide +kernel
theorem dX8_ways_185 : decode cX8_ways 185 = .ok (.iload 4, 2) := by decide +kernel
theorem dX8_ways_187 : decode cX8_ways 187 = .ok (.iload 5, 2) := by decide +kernel
theorem dX8_ways_189 : decode cX8_ways 189 = .ok (.iastore, 1) := by decide +kernel
theorem dX8_ways_190 : decode cX8_ways 190 = .ok (.aload_n 0, 1) := by decide +kernel
theorem dX8_ways_191 : decode cX8_ways 191 = .ok (.getfield 56, 3) := by decide +kernel
theorem dX8_ways_194 : decode cX8_ways 194 = .ok (.iload 4, 2) := by decide +kernel
theorem dX8_ways_196 : decode cX8_ways 196 = .ok (.aload_n 0, 1) := by decide +kernel
theorem dX8_ways_197 : decode cX8_ways 197 = .ok (.getfield 56, 3) := by decide +kernel
theorem dX8_ways_200 : decode cX8_ways 200 = .ok (.iload_n 3, 1) := by decide +kernel
theorem dX8_ways_201 : decode cX8_ways 201 = .ok (.iaload, 1) := by decide +kernel
theorem dX8_ways_202 : decode cX8_ways 202 = .ok (.iconst 1, 1) := by decide +kernel
theorem dX8_ways_203 : decode cX8_ways 203 = .ok (.iadd, 1) := by decide +kernel
theorem dX8_ways_204 : decode cX8_ways 204 = .ok (.iastore, 1) := by decide +kernel
theorem dX8_ways_205 : decode cX8_ways 205 = .ok (.iinc 4 1, 3) := by decide +kernel
theorem dX8_ways_208 : decode cX8_ways 208 = .ok (.goto (-148), 3) := by decide +kernel
theorem dX8_ways_211 : decode cX8_ways 211 = .ok (.iinc 3 1, 3) := by decide +kernel
theorem dX8_ways_214 : decode cX8_ways 214 = .ok (.goto (-165), 3) := by decide +kernel
theorem dX8_ways_217 : decode cX8_ways 217 = .ok (.iinc 2 1, 3) := by decide +kernel
theorem dX8_ways_220 : decode cX8_ways 220 = .ok (.goto (-179), 3) := by decide +kernel
theorem dX8_ways_223 : decode cX8_ways 223 = .ok (.return_, 1) := by decide +kernel
theorem dX8_pays_0 : decode cX8_pays 0 = .ok (.aload_n 0, 1) := by decide +kernel
theorem dX8_pays_1 : decode cX8_pays 1 = .ok (.iload_n 1, 1) := by decide +kernel
theorem dX8_pays_2 : decode cX8_pays 2 = .ok (.iload_n 2, 1) := by decide +kernel
theorem dX8_pays_3 : decode cX8_pays 3 = .ok (.invokevirtual 112, 3) := by decide +kernel
theorem dX8_pays_6 : decode cX8_pays 6 = .ok (.ifCond .eq 20, 3) := by decide +kernel
theorem dX8_pays_9 : decode cX8_pays 9 = .ok (.iload_n 3, 1) := by decide +kernel
theorem dX8_pays_10 : decode cX8_pays 10 = .ok (.invokestatic 233, 3) := by decide +kernel
theorem dX8_pays_13 : decode cX8_pays 13 = .ok (.ifCond .eq 13, 3) := by decide +kernel
theorem dX8_pays_16 : decode cX8_pays 16 = .ok (.iload 4, 2) := by decide +kernel
theorem dX8_pays_18 : decode cX8_pays 18 = .ok (.iconst 0, 1) := by decide +kernel
theorem dX8_pays_19 : decode cX8_pays 19 = .ok (.iconst 3, 1) := by decide +kernel
theorem dX8_pays_20 : decode cX8_pays 20 = .ok (.invokestatic 85, 3) := by decide +kernel
theorem dX8_pays_23 : decode cX8_pays 23 = .ok (.ifCond .ne 6, 3) := by decide +kernel
theorem dX8_pays_26 : decode cX8_pays 26 = .ok (.bipush (-2), 2) := by decide +kernel
theorem dX8_pays_28 : decode cX8_pays 28 = .ok (.ireturn, 1) := by decide +kernel
theorem dX8_pays_29 : decode cX8_pays 29 = .ok (.iload 4, 2) := by decide +kernel
theorem dX8_pays_31 : decode cX8_pays 31 = .ok (.iconst 2, 1) := by decide +kernel
theorem dX8_pays_32 : decode cX8_pays 32 = .ok (.if_icmp .ge 30, 3) := by decide +kernel
theorem dX8_pays_35 : decode cX8_pays 35 = .ok (.aload_n 0, 1) := by decide +kernel
theorem dX8_pays_36 : decode cX8_pays 36 = .ok (.iload_n 1, 1) := by decide +kernel
theorem dX8_pays_37 : decode cX8_pays 37 = .ok (.iload_n 2, 1) := by decide +kernel
theorem dX8_pays_38 : decode cX8_pays 38 = .ok (.invokevirtual 245, 3) := by decide +kernel
theorem dX8_pays_41 : decode cX8_pays 41 = .ok (.iload 4, 2) := by decide +kernel
theorem dX8_pays_43 : decode cX8_pays 43 = .ok (.ifCond .ne 12, 3) := by decide +kernel
theorem dX8_pays_46 : decode cX8_pays 46 = .ok (.aload_n 0, 1) := by decide +kernel
theorem dX8_pays_47 : decode cX8_pays 47 = .ok (.getfield 40, 3) := by decide +kernel
theorem dX8_pays_50 : decode cX8_pays 50 = .ok (.iload_n 3, 1) := by decide +kernel
theorem dX8_pays_51 : decode cX8_pays 51 = .ok (.iaload, 1) := by decide +kernel
theorem dX8_pays_52 : decode cX8_pays 52 = .ok (.goto 9, 3) := by decide +kernel
theorem dX8_pays_55 : decode cX8_pays 55 = .ok (.aload_n 0, 1) := by decide +kernel
theorem dX8_pays_56 : decode cX8_pays 56 = .ok (.getfield 43, 3) := by decide +kernel
theorem dX8_pays_59 : decode cX8_pays 59 = .ok (.iload_n 3, 1) := by decide +kernel
theorem dX8_pays_60 : decode cX8_pays 60 = .ok (.iaload, 1) := by decide +kernel
theorem dX8_pays_61 : decode cX8_pays 61 = .ok (.ireturn, 1) := by decide +kernel
theorem dX8_pays_62 : decode cX8_pays 62 = .ok (.aload_n 0, 1) := by decide +kernel
theorem dX8_pays_63 : decode cX8_pays 63 = .ok (.iload_n 3, 1) := by decide +kernel
theorem dX8_pays_64 : decode cX8_pays 64 = .ok (.invokevirtual 249, 3) := by decide +kernel
theorem dX8_pays_67 : decode cX8_pays 67 = .ok (.aload_n 0, 1) := by decide +kernel
theorem dX8_pays_68 : decode cX8_pays 68 = .ok (.iload_n 1, 1) := by decide +kernel
theorem dX8_pays_69 : decode cX8_pays 69 = .ok (.invokevirtual 252, 3) := by decide +kernel
theorem dX8_pays_72 : decode cX8_pays 72 = .ok (.aload_n 0, 1) := by decide +kernel
theorem dX8_pays_73 : decode cX8_pays 73 = .ok (.getfield 53, 3) := by decide +kernel
theorem dX8_pays_76 : decode cX8_pays 76 = .ok (.iload_n 2, 1) := by decide +kernel
theorem dX8_pays_77 : decode cX8_pays 77 = .ok (.iaload, 1) := by decide +kernel
theorem dX8_pays_78 : decode cX8_pays 78 = .ok (.iconst (-1), 1) := by decide +kernel
theorem dX8_pays_79 : decode cX8_pays 79 = .ok (.if_icmp .ne 7, 3) := by decide +kernel
theorem dX8_pays_82 : decode cX8_pays 82 = .ok (.iconst (-1), 1) := by decide +kernel
theorem dX8_pays_83 : decode cX8_pays 83 = .ok (.goto 24, 3) := by decide +kernel
theorem dX8_pays_86 : decode cX8_pays 86 = .ok (.iload 4, 2) := by decide +kernel
theorem dX8_pays_88 : decode cX8_pays 88 = .ok (.iconst 2, 1) := by decide +kernel
theorem dX8_pays_89 : decode cX8_pays 89 = .ok (.if_icmp .ne 12, 3) := by decide +kernel
theorem dX8_pays_92 : decode cX8_pays 92 = .ok (.aload_n 0, 1) := by decide +kernel
theorem dX8_pays_93 : decode cX8_pays 93 = .ok (.getfield 53, 3) := by decide +kernel
theorem dX8_pays_96 : decode cX8_pays 96 = .ok (.iload_n 2, 1) := by decide +kernel
theorem dX8_pays_97 : decode cX8_pays 97 = .ok (.iaload, 1) := by decide +kernel
theorem dX8_pays_98 : decode cX8_pays 98 = .ok (.goto 9, 3) := by decide +kernel
theorem dX8_pays_101 : decode cX8_pays 101 = .ok (.aload_n 0, 1) := by decide +kernel
theorem dX8_pays_102 : decode cX8_pays 102 = .ok (.getfield 56, 3) := by decide +kernel
theorem dX8_pays_105 : decode cX8_pays 105 = .ok (.iload_n 2, 1) := by decide +kernel
theorem dX8_pays_106 : decode cX8_pays 106 = .ok (.iaload, 1) := by decide +kernel
theorem dX8_pays_107 : decode cX8_pays 107 = .ok (.ireturn, 1) := by decide +kernel
theorem dX8_barredOf_0 : decode cX8_barredOf 0 = .ok (.aload_n 0, 1) := by decide +kernel
theorem dX8_barredOf_1 : decode cX8_barredOf 1 = .ok (.iload_n 1, 1) := by decide +kernel
theorem dX8_barredOf_2 : decode cX8_barredOf 2 = .ok (.iload_n 2, 1) := by decide +kernel
theorem dX8_barredOf_3 : decode cX8_barredOf 3 = .ok (.invokevirtual 245, 3) := by decide +kernel
theorem dX8_barredOf_6 : decode cX8_barredOf 6 = .ok (.iconst 0, 1) := by decide +kernel
theorem dX8_barredOf_7 : decode cX8_barredOf 7 = .ok (.istore 4, 2) := by decide +kernel
theorem dX8_barredOf_9 : decode cX8_barredOf 9 = .ok (.iconst (-1), 1) := by decide +kernel
theorem dX8_barredOf_10 : decode cX8_barredOf 10 = .ok (.istore 5, 2) := by decide +kernel
theorem dX8_barredOf_12 : decode cX8_barredOf 12 = .ok (.iconst 0, 1) := by decide +kernel
theorem dX8_barredOf_13 : decode cX8_barredOf 13 = .ok (.istore 6, 2) := by decide +kernel
theorem dX8_barredOf_15 : decode cX8_barredOf 15 = .ok (.iconst 1, 1) := by decide +kernel
theorem dX8_barredOf_16 : decode cX8_barredOf 16 = .ok (.istore 7, 2) := by decide +kernel
theorem dX8_barredOf_18 : decode cX8_barredOf 18 = .ok (.iload 7, 2) := by decide +kernel
theorem dX8_barredOf_20 : decode cX8_barredOf 20 = .ok (.bipush 100, 2) := by decide +kernel
theorem dX8_barredOf_22 : decode cX8_barredOf 22 = .ok (.if_icmp .ge 58, 3) := by decide +kernel
theorem dX8_barredOf_25 : decode cX8_barredOf 25 = .ok (.aload_n 0, 1) := by decide +kernel
theorem dX8_barredOf_26 : decode cX8_barredOf 26 = .ok (.getfield 40, 3) := by decide +kernel
theorem dX8_barredOf_29 : decode cX8_barredOf 29 = .ok (.iload 7, 2) := by decide +kernel
theorem dX8_barredOf_31 : decode cX8_barredOf 31 = .ok (.iaload, 1) := by decide +kernel
theorem dX8_barredOf_32 : decode cX8_barredOf 32 = .ok (.iconst (-1), 1) := by decide +kernel
theorem dX8_barredOf_33 : decode cX8_barredOf 33 = .ok (.if_icmp .ne 41, 3) := by decide +kernel
theorem dX8_barredOf_36 : decode cX8_barredOf 36 = .ok (.aload_n 0, 1) := by decide +kernel
theorem dX8_barredOf_37 : decode cX8_barredOf 37 = .ok (.iload_n 1, 1) := by decide +kernel
theorem dX8_barredOf_38 : decode cX8_barredOf 38 = .ok (.iload 7, 2) := by decide +kernel
theorem dX8_barredOf_40 : decode cX8_barredOf 40 = .ok (.invokevirtual 239, 3) := by decide +kernel
theorem dX8_barredOf_43 : decode cX8_barredOf 43 = .ok (.ifCond .ne 6, 3) := by decide +kernel
theorem dX8_barredOf_46 : decode cX8_barredOf 46 = .ok (.goto 28, 3) := by decide +kernel
theorem dX8_barredOf_49 : decode cX8_barredOf 49 = .ok (.iinc 4 1, 3) := by decide +kernel
theorem dX8_barredOf_52 : decode cX8_barredOf 52 = .ok (.iload 5, 2) := by decide +kernel
theorem dX8_barredOf_54 : decode cX8_barredOf 54 = .ok (.iconst (-1), 1) := by decide +kernel
theorem dX8_barredOf_55 : decode cX8_barredOf 55 = .ok (.if_icmp .ne 7, 3) := by decide +kernel
theorem dX8_barredOf_58 : decode cX8_barredOf 58 = .ok (.iload 7, 2) := by decide +kernel
theorem dX8_barredOf_60 : decode cX8_barredOf 60 = .ok (.istore 5, 2) := by decide +kernel
theorem dX8_barredOf_62 : decode cX8_barredOf 62 = .ok (.iload 6, 2) := by decide +kernel
theorem dX8_barredOf_64 : decode cX8_barredOf 64 = .ok (.aload_n 0, 1) := by decide +kernel
theorem dX8_barredOf_65 : decode cX8_barredOf 65 = .ok (.iload_n 1, 1) := by decide +kernel
theorem dX8_barredOf_66 : decode cX8_barredOf 66 = .ok (.iload 7, 2) := by decide +kernel
theorem dX8_barredOf_68 : decode cX8_barredOf 68 = .ok (.invokevirtual 242, 3) := by decide +kernel
theorem dX8_barredOf_71 : decode cX8_barredOf 71 = .ok (.iadd, 1) := by decide +kernel
theorem dX8_barredOf_72 : decode cX8_barredOf 72 = .ok (.istore 6, 2) := by decide +kernel
theorem dX8_barredOf_74 : decode cX8_barredOf 74 = .ok (.iinc 7 1, 3) := by decide +kernel
theorem dX8_barredOf_77 : decode cX8_barredOf 77 = .ok (.goto (-59), 3) := by decide +kernel
theorem dX8_barredOf_80 : decode cX8_barredOf 80 = .ok (.iload_n 3, 1) := by decide +kernel
theorem dX8_barredOf_81 : decode cX8_barredOf 81 = .ok (.ifCond .ne 8, 3) := by decide +kernel
theorem dX8_barredOf_84 : decode cX8_barredOf 84 = .ok (.iload 4, 2) := by decide +kernel
theorem dX8_barredOf_86 : decode cX8_barredOf 86 = .ok (.goto 15, 3) := by decide +kernel
theorem dX8_barredOf_89 : decode cX8_barredOf 89 = .ok (.iload_n 3, 1) := by decide +kernel
theorem dX8_barredOf_90 : decode cX8_barredOf 90 = .ok (.iconst 1, 1) := by decide +kernel
theorem dX8_barredOf_91 : decode cX8_barredOf 91 = .ok (.if_icmp .ne 8, 3) := by decide +kernel
theorem dX8_barredOf_94 : decode cX8_barredOf 94 = .ok (.iload 5, 2) := by decide +kernel
theorem dX8_barredOf_96 : decode cX8_barredOf 96 = .ok (.goto 5, 3) := by decide +kernel
theorem dX8_barredOf_99 : decode cX8_barredOf 99 = .ok (.iload 6, 2) := by decide +kernel
theorem dX8_barredOf_101 : decode cX8_barredOf 101 = .ok (.ireturn, 1) := by decide +kernel
theorem dX8_barred_0 : decode cX8_barred 0 = .ok (.aload_n 0, 1) := by decide +kernel
theorem dX8_barred_1 : decode cX8_barred 1 = .ok (.iload_n 1, 1) := by decide +kernel
theorem dX8_barred_2 : decode cX8_barred 2 = .ok (.iload_n 2, 1) := by decide +kernel
theorem dX8_barred_3 : decode cX8_barred 3 = .ok (.invokevirtual 112, 3) := by decide +kernel
theorem dX8_barred_6 : decode cX8_barred 6 = .ok (.ifCond .eq 22, 3) := by decide +kernel
theorem dX8_barred_9 : decode cX8_barred 9 = .ok (.iload_n 3, 1) := by decide +kernel
theorem dX8_barred_10 : decode cX8_barred 10 = .ok (.iconst 0, 1) := by decide +kernel
theorem dX8_barred_11 : decode cX8_barred 11 = .ok (.iconst 2, 1) := by decide +kernel
theorem dX8_barred_12 : decode cX8_barred 12 = .ok (.invokestatic 85, 3) := by decide +kernel
theorem dX8_barred_15 : decode cX8_barred 15 = .ok (.ifCond .eq 13, 3) := by decide +kernel
theorem dX8_barred_18 : decode cX8_barred 18 = .ok (.aload_n 0, 1) := by decide +kernel
theorem dX8_barred_19 : decode cX8_barred 19 = .ok (.iload_n 1, 1) := by decide +kernel
theorem dX8_barred_20 : decode cX8_barred 20 = .ok (.iload_n 2, 1) := by decide +kernel
theorem dX8_barred_21 : decode cX8_barred 21 = .ok (.iload_n 3, 1) := by decide +kernel
theorem dX8_barred_22 : decode cX8_barred 22 = .ok (.invokevirtual 255, 3) := by decide +kernel
theorem dX8_barred_25 : decode cX8_barred 25 = .ok (.goto 5, 3) := by decide +kernel
theorem dX8_barred_28 : decode cX8_barred 28 = .ok (.bipush (-2), 2) := by decide +kernel
theorem dX8_barred_30 : decode cX8_barred 30 = .ok (.ireturn, 1) := by decide +kernel
theorem dX8_silent_0 : decode cX8_silent 0 = .ok (.iload_n 1, 1) := by decide +kernel
theorem dX8_silent_1 : decode cX8_silent 1 = .ok (.iconst 0, 1) := by decide +kernel
theorem dX8_silent_2 : decode cX8_silent 2 = .ok (.iconst 1, 1) := by decide +kernel
theorem dX8_silent_3 : decode cX8_silent 3 = .ok (.invokestatic 85, 3) := by decide +kernel
theorem dX8_silent_6 : decode cX8_silent 6 = .ok (.ifCond .ne 6, 3) := by decide +kernel
theorem dX8_silent_9 : decode cX8_silent 9 = .ok (.bipush (-2), 2) := by decide +kernel
theorem dX8_silent_11 : decode cX8_silent 11 = .ok (.ireturn, 1) := by decide +kernel
theorem dX8_silent_12 : decode cX8_silent 12 = .ok (.iconst 1, 1) := by decide +kernel
theorem dX8_silent_13 : decode cX8_silent 13 = .ok (.istore_n 2, 1) := by decide +kernel
theorem dX8_silent_14 : decode cX8_silent 14 = .ok (.iload_n 2, 1) := by decide +kernel
theorem dX8_silent_15 : decode cX8_silent 15 = .ok (.bipush 100, 2) := by decide +kernel
theorem dX8_silent_17 : decode cX8_silent 17 = .ok (.if_icmp .ge 16, 3) := by decide +kernel
theorem dX8_silent_20 : decode cX8_silent 20 = .ok (.aload_n 0, 1) := by decide +kernel
theorem dX8_silent_21 : decode cX8_silent 21 = .ok (.getfield 46, 3) := by decide +kernel
theorem dX8_silent_24 : decode cX8_silent 24 = .ok (.iload_n 2, 1) := by decide +kernel
theorem dX8_silent_25 : decode cX8_silent 25 = .ok (.iconst 0, 1) := by decide +kernel
theorem dX8_silent_26 : decode cX8_silent 26 = .ok (.bastore, 1) := by decide +kernel
theorem dX8_silent_27 : decode cX8_silent 27 = .ok (.iinc 2 1, 3) := by decide +kernel
theorem dX8_silent_30 : decode cX8_silent 30 = .ok (.goto (-16), 3) := by decide +kernel
theorem dX8_silent_33 : decode cX8_silent 33 = .ok (.iconst 0, 1) := by decide +kernel
theorem dX8_silent_34 : decode cX8_silent 34 = .ok (.istore_n 2, 1) := by decide +kernel
theorem dX8_silent_35 : decode cX8_silent 35 = .ok (.iload_n 2, 1) := by decide +kernel
theorem dX8_silent_36 : decode cX8_silent 36 = .ok (.aload_n 0, 1) := by decide +kernel
theorem dX8_silent_37 : decode cX8_silent 37 = .ok (.getfield 82, 3) := by decide +kernel
theorem dX8_silent_40 : decode cX8_silent 40 = .ok (.if_icmp .ge 63, 3) := by decide +kernel
theorem dX8_silent_43 : decode cX8_silent 43 = .ok (.iconst 0, 1) := by decide +kernel
theorem dX8_silent_44 : decode cX8_silent 44 = .ok (.istore_n 3, 1) := by decide +kernel
theorem dX8_silent_45 : decode cX8_silent 45 = .ok (.iload_n 3, 1) := by decide +kernel
theorem dX8_silent_46 : decode cX8_silent 46 = .ok (.iload_n 2, 1) := by decide +kernel
theorem dX8_silent_47 : decode cX8_silent 47 = .ok (.if_icmp .ge 50, 3) := by decide +kernel
theorem dX8_silent_50 : decode cX8_silent 50 = .ok (.aload_n 0, 1) := by decide +kernel
theorem dX8_silent_51 : decode cX8_silent 51 = .ok (.iload_n 2, 1) := by decide +kernel
theorem dX8_silent_52 : decode cX8_silent 52 = .ok (.iload_n 3, 1) := by decide +kernel
theorem dX8_silent_53 : decode cX8_silent 53 = .ok (.invokevirtual 245, 3) := by decide +kernel
theorem dX8_silent_56 : decode cX8_silent 56 = .ok (.iconst 1, 1) := by decide +kernel
theorem dX8_silent_57 : decode cX8_silent 57 = .ok (.istore 4, 2) := by decide +kernel
theorem dX8_silent_59 : decode cX8_silent 59 = .ok (.iload 4, 2) := by decide +kernel
theorem dX8_silent_61 : decode cX8_silent 61 = .ok (.bipush 100, 2) := by decide +kernel
theorem dX8_silent_63 : decode cX8_silent 63 = .ok (.if_icmp .ge 28, 3) := by decide +kernel
theorem dX8_silent_66 : decode cX8_silent 66 = .ok (.aload_n 0, 1) := by decide +kernel
theorem dX8_silent_67 : decode cX8_silent 67 = .ok (.getfield 40, 3) := by decide +kernel
theorem dX8_silent_70 : decode cX8_silent 70 = .ok (.iload 4, 2) := by decide +kernel
theorem dX8_silent_72 : decode cX8_silent 72 = .ok (.iaload, 1) := by decide +kernel
theorem dX8_silent_73 : decode cX8_silent 73 = .ok (.iconst (-1), 1) := by decide +kernel
theorem dX8_silent_74 : decode cX8_silent 74 = .ok (.if_icmp .eq 11, 3) := by decide +kernel
theorem dX8_silent_77 : decode cX8_silent 77 = .ok (.aload_n 0, 1) := by decide +kernel
theorem dX8_silent_78 : decode cX8_silent 78 = .ok (.getfield 46, 3) := by decide +kernel
theorem dX8_silent_81 : decode cX8_silent 81 = .ok (.iload 4, 2) := by decide +kernel
theorem dX8_silent_83 : decode cX8_silent 83 = .ok (.iconst 1, 1) := by decide +kernel
theorem dX8_silent_84 : decode cX8_silent 84 = .ok (.bastore, 1) := by decide +kernel
theorem dX8_silent_85 : decode cX8_silent 85 = .ok (.iinc 4 1, 3) := by decide +kernel
theorem dX8_silent_88 : decode cX8_silent 88 = .ok (.goto (-29), 3) := by decide +kernel
theorem dX8_silent_91 : decode cX8_silent 91 = .ok (.iinc 3 1, 3) := by decide +kernel
theorem dX8_silent_94 : decode cX8_silent 94 = .ok (.goto (-49), 3) := by decide +kernel
theorem dX8_silent_97 : decode cX8_silent 97 = .ok (.iinc 2 1, 3) := by decide +kernel
theorem dX8_silent_100 : decode cX8_silent 100 = .ok (.goto (-65), 3) := by decide +kernel
theorem dX8_silent_103 : decode cX8_silent 103 = .ok (.iconst 0, 1) := by decide +kernel
theorem dX8_silent_104 : decode cX8_silent 104 = .ok (.istore_n 2, 1) := by decide +kernel
theorem dX8_silent_105 : decode cX8_silent 105 = .ok (.iconst (-1), 1) := by decide +kernel
theorem dX8_silent_106 : decode cX8_silent 106 = .ok (.istore_n 3, 1) := by decide +kernel
theorem dX8_silent_107 : decode cX8_silent 107 = .ok (.bipush 99, 2) := by decide +kernel
theorem dX8_silent_109 : decode cX8_silent 109 = .ok (.istore 4, 2) := by decide +kernel
theorem dX8_silent_111 : decode cX8_silent 111 = .ok (.iload 4, 2) := by decide +kernel
theorem dX8_silent_113 : decode cX8_silent 113 = .ok (.ifCond .le 28, 3) := by decide +kernel
theorem dX8_silent_116 : decode cX8_silent 116 = .ok (.aload_n 0, 1) := by decide +kernel
theorem dX8_silent_117 : decode cX8_silent 117 = .ok (.getfield 46, 3) := by decide +kernel
theorem dX8_silent_120 : decode cX8_silent 120 = .ok (.iload 4, 2) := by decide +kernel
theorem dX8_silent_122 : decode cX8_silent 122 = .ok (.baload, 1) := by decide +kernel
theorem dX8_silent_123 : decode cX8_silent 123 = .ok (.ifCond .eq 6, 3) := by decide +kernel
theorem dX8_silent_126 : decode cX8_silent 126 = .ok (.goto 9, 3) := by decide +kernel
theorem dX8_silent_129 : decode cX8_silent 129 = .ok (.iinc 2 1, 3) := by decide +kernel
theorem dX8_silent_132 : decode cX8_silent 132 = .ok (.iload 4, 2) := by decide +kernel
theorem dX8_silent_134 : decode cX8_silent 134 = .ok (.istore_n 3, 1) := by decide +kernel
theorem dX8_silent_135 : decode cX8_silent 135 = .ok (.iinc 4 (-1), 3) := by decide +kernel
theorem dX8_silent_138 : decode cX8_silent 138 = .ok (.goto (-27), 3) := by decide +kernel
theorem dX8_silent_141 : decode cX8_silent 141 = .ok (.iload_n 1, 1) := by decide +kernel
theorem dX8_silent_142 : decode cX8_silent 142 = .ok (.ifCond .ne 7, 3) := by decide +kernel
theorem dX8_silent_145 : decode cX8_silent 145 = .ok (.iload_n 2, 1) := by decide +kernel
theorem dX8_silent_146 : decode cX8_silent 146 = .ok (.goto 4, 3) := by decide +kernel
theorem dX8_silent_149 : decode cX8_silent 149 = .ok (.iload_n 3, 1) := by decide +kernel
theorem dX8_silent_150 : decode cX8_silent 150 = .ok (.ireturn, 1) := by decide +kernel
theorem dX8_reached_0 : decode cX8_reached 0 = .ok (.iconst 1, 1) := by decide +kernel
theorem dX8_reached_1 : decode cX8_reached 1 = .ok (.iload_n 1, 1) := by decide +kernel
theorem dX8_reached_2 : decode cX8_reached 2 = .ok (.ishl, 1) := by decide +kernel
theorem dX8_reached_3 : decode cX8_reached 3 = .ok (.istore_n 3, 1) := by decide +kernel
theorem dX8_reached_4 : decode cX8_reached 4 = .ok (.iconst 0, 1) := by decide +kernel
theorem dX8_reached_5 : decode cX8_reached 5 = .ok (.istore 4, 2) := by decide +kernel
theorem dX8_reached_7 : decode cX8_reached 7 = .ok (.iload 4, 2) := by decide +kernel
theorem dX8_reached_9 : decode cX8_reached 9 = .ok (.bipush 6, 2) := by decide +kernel
theorem dX8_reached_11 : decode cX8_reached 11 = .ok (.if_icmp .ge 91, 3) := by decide +kernel
theorem dX8_reached_14 : decode cX8_reached 14 = .ok (.iconst 0, 1) := by decide +kernel
theorem dX8_reached_15 : decode cX8_reached 15 = .ok (.istore 5, 2) := by decide +kernel
theorem dX8_reached_17 : decode cX8_reached 17 = .ok (.iload 5, 2) := by decide +kernel
theorem dX8_reached_19 : decode cX8_reached 19 = .ok (.aload_n 0, 1) := by decide +kernel
theorem dX8_reached_20 : decode cX8_reached 20 = .ok (.getfield 82, 3) := by decide +kernel
theorem dX8_reached_23 : decode cX8_reached 23 = .ok (.if_icmp .ge 73, 3) := by decide +kernel
theorem dX8_reached_26 : decode cX8_reached 26 = .ok (.iconst 0, 1) := by decide +kernel
theorem dX8_reached_27 : decode cX8_reached 27 = .ok (.istore 6, 2) := by decide +kernel
theorem dX8_reached_29 : decode cX8_reached 29 = .ok (.iload 6, 2) := by decide +kernel
theorem dX8_reached_31 : decode cX8_reached 31 = .ok (.aload_n 0, 1) := by decide +kernel
theorem dX8_reached_32 : decode cX8_reached 32 = .ok (.getfield 82, 3) := by decide +kernel
theorem dX8_reached_35 : decode cX8_reached 35 = .ok (.if_icmp .ge 55, 3) := by decide +kernel
theorem dX8_reached_38 : decode cX8_reached 38 = .ok (.iload_n 3, 1) := by decide +kernel
theorem dX8_reached_39 : decode cX8_reached 39 = .ok (.iload 5, 2) := by decide +kernel
theorem dX8_reached_41 : decode cX8_reached 41 = .ok (.invokestatic 118, 3) := by decide +kernel
theorem dX8_reached_44 : decode cX8_reached 44 = .ok (.ifCond .eq 40, 3) := by decide +kernel
theorem dX8_reached_47 : decode cX8_reached 47 = .ok (.iload 5, 2) := by decide +kernel
theorem dX8_reached_49 : decode cX8_reached 49 = .ok (.iload 6, 2) := by decide +kernel
theorem dX8_reached_51 : decode cX8_reached 51 = .ok (.if_icmp .eq 33, 3) := by decide +kernel
theorem dX8_reached_54 : decode cX8_reached 54 = .ok (.iload 6, 2) := by decide +kernel
theorem dX8_reached_56 : decode cX8_reached 56 = .ok (.iload_n 2, 1) := by decide +kernel
theorem dX8_reached_57 : decode cX8_reached 57 = .ok (.if_icmp .eq 27, 3) := by decide +kernel
theorem dX8_reached_60 : decode cX8_reached 60 = .ok (.aload_n 0, 1) := by decide +kernel
theorem dX8_reached_61 : decode cX8_reached 61 = .ok (.getfield 50, 3) := by decide +kernel
theorem dX8_reached_64 : decode cX8_reached 64 = .ok (.bipush 6, 2) := by decide +kernel
theorem dX8_reached_66 : decode cX8_reached 66 = .ok (.iload 5, 2) := by decide +kernel
theorem dX8_reached_68 : decode cX8_reached 68 = .ok (.imul, 1) := by decide +kernel
theorem dX8_reached_69 : decode cX8_reached 69 = .ok (.iload 6, 2) := by decide +kernel
theorem dX8_reached_71 : decode cX8_reached 71 = .ok (.iadd, 1) := by decide +kernel
theorem dX8_reached_72 : decode cX8_reached 72 = .ok (.iaload, 1) := by decide +kernel
theorem dX8_reached_73 : decode cX8_reached 73 = .ok (.iconst (-1), 1) := by decide +kernel
theorem dX8_reached_74 : decode cX8_reached 74 = .ok (.if_icmp .eq 10, 3) := by decide +kernel
theorem dX8_reached_77 : decode cX8_reached 77 = .ok (.iload_n 3, 1) := by decide +kernel
theorem dX8_reached_78 : decode cX8_reached 78 = .ok (.iconst 1, 1) := by decide +kernel
theorem dX8_reached_79 : decode cX8_reached 79 = .ok (.iload 6, 2) := by decide +kernel
theorem dX8_reached_81 : decode cX8_reached 81 = .ok (.ishl, 1) := by decide +kernel
theorem dX8_reached_82 : decode cX8_reached 82 = .ok (.ior, 1) := by decide +kernel
theorem dX8_reached_83 : decode cX8_reached 83 = .ok (.istore_n 3, 1) := by decide +kernel
theorem dX8_reached_84 : decode cX8_reached 84 = .ok (.iinc 6 1, 3) := by decide +kernel
theorem dX8_reached_87 : decode cX8_reached 87 = .ok (.goto (-58), 3) := by decide +kernel
theorem dX8_reached_90 : decode cX8_reached 90 = .ok (.iinc 5 1, 3) := by decide +kernel
theorem dX8_reached_93 : decode cX8_reached 93 = .ok (.goto (-76), 3) := by decide +kernel
theorem dX8_reached_96 : decode cX8_reached 96 = .ok (.iinc 4 1, 3) := by decide +kernel
theorem dX8_reached_99 : decode cX8_reached 99 = .ok (.goto (-92), 3) := by decide +kernel
theorem dX8_reached_102 : decode cX8_reached 102 = .ok (.iload_n 3, 1) := by decide +kernel
theorem dX8_reached_103 : decode cX8_reached 103 = .ok (.ireturn, 1) := by decide +kernel
theorem dX8_middle_0 : decode cX8_middle 0 = .ok (.iload_n 1, 1) := by decide +kernel
theorem dX8_middle_1 : decode cX8_middle 1 = .ok (.iconst 1, 1) := by decide +kernel
theorem dX8_middle_2 : decode cX8_middle 2 = .ok (.bipush 99, 2) := by decide +kernel
theorem dX8_middle_4 : decode cX8_middle 4 = .ok (.invokestatic 85, 3) := by decide +kernel
theorem dX8_middle_7 : decode cX8_middle 7 = .ok (.ifCond .eq 12, 3) := by decide +kernel
theorem dX8_middle_10 : decode cX8_middle 10 = .ok (.iload_n 2, 1) := by decide +kernel
theorem dX8_middle_11 : decode cX8_middle 11 = .ok (.iconst 0, 1) := by decide +kernel
theorem dX8_middle_12 : decode cX8_middle 12 = .ok (.iconst 1, 1) := by decide +kernel
theorem dX8_middle_13 : decode cX8_middle 13 = .ok (.invokestatic 85, 3) := by decide +kernel
theorem dX8_middle_16 : decode cX8_middle 16 = .ok (.ifCond .ne 6, 3) := by decide +kernel
theorem dX8_middle_19 : decode cX8_middle 19 = .ok (.bipush (-2), 2) := by decide +kernel
theorem dX8_middle_21 : decode cX8_middle 21 = .ok (.ireturn, 1) := by decide +kernel
theorem dX8_middle_22 : decode cX8_middle 22 = .ok (.aload_n 0, 1) := by decide +kernel
theorem dX8_middle_23 : decode cX8_middle 23 = .ok (.iload_n 1, 1) := by decide +kernel
theorem dX8_middle_24 : decode cX8_middle 24 = .ok (.invokevirtual 249, 3) := by decide +kernel
theorem dX8_middle_27 : decode cX8_middle 27 = .ok (.iconst (-1), 1) := by decide +kernel
theorem dX8_middle_28 : decode cX8_middle 28 = .ok (.istore_n 3, 1) := by decide +kernel
theorem dX8_middle_29 : decode cX8_middle 29 = .ok (.iconst 0, 1) := by decide +kernel
theorem dX8_middle_30 : decode cX8_middle 30 = .ok (.istore 4, 2) := by decide +kernel
theorem dX8_middle_32 : decode cX8_middle 32 = .ok (.iconst 0, 1) := by decide +kernel
theorem dX8_middle_33 : decode cX8_middle 33 = .ok (.istore 5, 2) := by decide +kernel
theorem dX8_middle_35 : decode cX8_middle 35 = .ok (.iload 5, 2) := by decide +kernel
theorem dX8_middle_37 : decode cX8_middle 37 = .ok (.aload_n 0, 1) := by decide +kernel
theorem dX8_middle_38 : decode cX8_middle 38 = .ok (.getfield 82, 3) := by decide +kernel
theorem dX8_middle_41 : decode cX8_middle 41 = .ok (.if_icmp .ge 111, 3) := by decide +kernel
theorem dX8_middle_44 : decode cX8_middle 44 = .ok (.iconst 0, 1) := by decide +kernel
theorem dX8_middle_45 : decode cX8_middle 45 = .ok (.istore 6, 2) := by decide +kernel
theorem dX8_middle_47 : decode cX8_middle 47 = .ok (.iconst 0, 1) := by decide +kernel
theorem dX8_middle_48 : decode cX8_middle 48 = .ok (.istore 7, 2) := by decide +kernel
theorem dX8_middle_50 : decode cX8_middle 50 = .ok (.iload 7, 2) := by decide +kernel
theorem dX8_middle_52 : decode cX8_middle 52 = .ok (.aload_n 0, 1) := by decide +kernel
theorem dX8_middle_53 : decode cX8_middle 53 = .ok (.getfield 82, 3) := by decide +kernel
theorem dX8_middle_56 : decode cX8_middle 56 = .ok (.if_icmp .ge 73, 3) := by decide +kernel
theorem dX8_middle_59 : decode cX8_middle 59 = .ok (.iconst 0, 1) := by decide +kernel
theorem dX8_middle_60 : decode cX8_middle 60 = .ok (.istore 8, 2) := by decide +kernel
theorem dX8_middle_62 : decode cX8_middle 62 = .ok (.iload 8, 2) := by decide +kernel
theorem dX8_middle_64 : decode cX8_middle 64 = .ok (.iload 7, 2) := by decide +kernel
theorem dX8_middle_66 : decode cX8_middle 66 = .ok (.if_icmp .ge 57, 3) := by decide +kernel
theorem dX8_middle_69 : decode cX8_middle 69 = .ok (.iload 7, 2) := by decide +kernel
theorem dX8_middle_71 : decode cX8_middle 71 = .ok (.iload 5, 2) := by decide +kernel
theorem dX8_middle_73 : decode cX8_middle 73 = .ok (.if_icmp .eq 44, 3) := by decide +kernel
theorem dX8_middle_76 : decode cX8_middle 76 = .ok (.iload 8, 2) := by decide +kernel
theorem dX8_middle_78 : decode cX8_middle 78 = .ok (.iload 5, 2) := by decide +kernel
theorem dX8_middle_80 : decode cX8_middle 80 = .ok (.if_icmp .eq 37, 3) := by decide +kernel
theorem dX8_middle_83 : decode cX8_middle 83 = .ok (.aload_n 0, 1) := by decide +kernel
theorem dX8_middle_84 : decode cX8_middle 84 = .ok (.iload 7, 2) := by decide +kernel
theorem dX8_middle_86 : decode cX8_middle 86 = .ok (.iconst (-1), 1) := by decide +kernel
theorem dX8_middle_87 : decode cX8_middle 87 = .ok (.invokevirtual 258, 3) := by decide +kernel
theorem dX8_middle_90 : decode cX8_middle 90 = .ok (.iload 8, 2) := by decide +kernel
theorem dX8_middle_92 : decode cX8_middle 92 = .ok (.invokestatic 118, 3) := by decide +kernel
theorem dX8_middle_95 : decode cX8_middle 95 = .ok (.ifCond .eq 22, 3) := by decide +kernel
theorem dX8_middle_98 : decode cX8_middle 98 = .ok (.aload_n 0, 1) := by decide +kernel
theorem dX8_middle_99 : decode cX8_middle 99 = .ok (.iload 7, 2) := by decide +kernel
theorem dX8_middle_101 : decode cX8_middle 101 = .ok (.iload 5, 2) := by decide +kernel
theorem dX8_middle_103 : decode cX8_middle 103 = .ok (.invokevirtual 258, 3) := by decide +kernel
theorem dX8_middle_106 : decode cX8_middle 106 = .ok (.iload 8, 2) := by decide +kernel
theorem dX8_middle_108 : decode cX8_middle 108 = .ok (.invokestatic 118, 3) := by decide +kernel
theorem dX8_middle_111 : decode cX8_middle 111 = .ok (.ifCond .ne 6, 3) := by decide +kernel
theorem dX8_middle_114 : decode cX8_middle 114 = .ok (.iinc 6 1, 3) := by decide +kernel
theorem dX8_middle_117 : decode cX8_middle 117 = .ok (.iinc 8 1, 3) := by decide +kernel
theorem dX8_middle_120 : decode cX8_middle 120 = .ok (.goto (-58), 3) := by decide +kernel
theorem dX8_middle_123 : decode cX8_middle 123 = .ok (.iinc 7 1, 3) := by decide +kernel
theorem dX8_middle_126 : decode cX8_middle 126 = .ok (.goto (-76), 3) := by decide +kernel
theorem dX8_middle_129 : decode cX8_middle 129 = .ok (.iload 6, 2) := by decide +kernel
theorem dX8_middle_131 : decode cX8_middle 131 = .ok (.iload 4, 2) := by decide +kernel
theorem dX8_middle_133 : decode cX8_middle 133 = .ok (.if_icmp .gt 6, 3) := by decide +kernel
theorem dX8_middle_136 : decode cX8_middle 136 = .ok (.goto 10, 3) := by decide +kernel
theorem dX8_middle_139 : decode cX8_middle 139 = .ok (.iload 6, 2) := by decide +kernel
theorem dX8_middle_141 : decode cX8_middle 141 = .ok (.istore 4, 2) := by decide +kernel
theorem dX8_middle_143 : decode cX8_middle 143 = .ok (.iload 5, 2) := by decide +kernel
theorem dX8_middle_145 : decode cX8_middle 145 = .ok (.istore_n 3, 1) := by decide +kernel
theorem dX8_middle_146 : decode cX8_middle 146 = .ok (.iinc 5 1, 3) := by decide +kernel
theorem dX8_middle_149 : decode cX8_middle 149 = .ok (.goto (-114), 3) := by decide +kernel
theorem dX8_middle_152 : decode cX8_middle 152 = .ok (.iload_n 2, 1) := by decide +kernel
theorem dX8_middle_153 : decode cX8_middle 153 = .ok (.ifCond .ne 7, 3) := by decide +kernel
theorem dX8_middle_156 : decode cX8_middle 156 = .ok (.iload_n 3, 1) := by decide +kernel
theorem dX8_middle_157 : decode cX8_middle 157 = .ok (.goto 5, 3) := by decide +kernel
theorem dX8_middle_160 : decode cX8_middle 160 = .ok (.iload 4, 2) := by decide +kernel
theorem dX8_middle_162 : decode cX8_middle 162 = .ok (.ireturn, 1) := by decide +kernel
theorem dX8_leave_0 : decode cX8_leave 0 = .ok (.aload_n 0, 1) := by decide +kernel
theorem dX8_leave_1 : decode cX8_leave 1 = .ok (.iload_n 1, 1) := by decide +kernel
theorem dX8_leave_2 : decode cX8_leave 2 = .ok (.invokevirtual 89, 3) := by decide +kernel
theorem dX8_leave_5 : decode cX8_leave 5 = .ok (.ifCond .eq 12, 3) := by decide +kernel
theorem dX8_leave_8 : decode cX8_leave 8 = .ok (.iload_n 2, 1) := by decide +kernel
theorem dX8_leave_9 : decode cX8_leave 9 = .ok (.iconst 0, 1) := by decide +kernel
theorem dX8_leave_10 : decode cX8_leave 10 = .ok (.iconst 1, 1) := by decide +kernel
theorem dX8_leave_11 : decode cX8_leave 11 = .ok (.invokestatic 85, 3) := by decide +kernel
theorem dX8_leave_14 : decode cX8_leave 14 = .ok (.ifCond .ne 6, 3) := by decide +kernel
theorem dX8_leave_17 : decode cX8_leave 17 = .ok (.bipush (-2), 2) := by decide +kernel
theorem dX8_leave_19 : decode cX8_leave 19 = .ok (.ireturn, 1) := by decide +kernel
theorem dX8_leave_20 : decode cX8_leave 20 = .ok (.aload_n 0, 1) := by decide +kernel
theorem dX8_leave_21 : decode cX8_leave 21 = .ok (.getfield 16, 3) := by decide +kernel
theorem dX8_leave_24 : decode cX8_leave 24 = .ok (.iload_n 1, 1) := by decide +kernel
theorem dX8_leave_25 : decode cX8_leave 25 = .ok (.iaload, 1) := by decide +kernel
theorem dX8_leave_26 : decode cX8_leave 26 = .ok (.istore_n 3, 1) := by decide +kernel
theorem dX8_leave_27 : decode cX8_leave 27 = .ok (.iconst (-1), 1) := by decide +kernel
theorem dX8_leave_28 : decode cX8_leave 28 = .ok (.istore 4, 2) := by decide +kernel
theorem dX8_leave_30 : decode cX8_leave 30 = .ok (.iconst (-1), 1) := by decide +kernel
theorem dX8_leave_31 : decode cX8_leave 31 = .ok (.istore 5, 2) := by decide +kernel
theorem dX8_leave_33 : decode cX8_leave 33 = .ok (.iconst 0, 1) := by decide +kernel
theorem dX8_leave_34 : decode cX8_leave 34 = .ok (.istore 6, 2) := by decide +kernel
theorem dX8_leave_36 : decode cX8_leave 36 = .ok (.iload 6, 2) := by decide +kernel
theorem dX8_leave_38 : decode cX8_leave 38 = .ok (.aload_n 0, 1) := by decide +kernel
theorem dX8_leave_39 : decode cX8_leave 39 = .ok (.getfield 82, 3) := by decide +kernel
theorem dX8_leave_42 : decode cX8_leave 42 = .ok (.if_icmp .ge 133, 3) := by decide +kernel
theorem dX8_leave_45 : decode cX8_leave 45 = .ok (.iload 6, 2) := by decide +kernel
theorem dX8_leave_47 : decode cX8_leave 47 = .ok (.iload_n 1, 1) := by decide +kernel
theorem dX8_leave_48 : decode cX8_leave 48 = .ok (.if_icmp .ne 6, 3) := by decide +kernel
theorem dX8_leave_51 : decode cX8_leave 51 = .ok (.goto 118, 3) := by decide +kernel
theorem dX8_leave_54 : decode cX8_leave 54 = .ok (.aload_n 0, 1) := by decide +kernel
theorem dX8_leave_55 : decode cX8_leave 55 = .ok (.getfield 16, 3) := by decide +kernel
theorem dX8_leave_58 : decode cX8_leave 58 = .ok (.iload 6, 2) := by decide +kernel
theorem dX8_leave_60 : decode cX8_leave 60 = .ok (.iaload, 1) := by decide +kernel
theorem dX8_leave_61 : decode cX8_leave 61 = .ok (.istore 7, 2) := by decide +kernel
theorem dX8_leave_63 : decode cX8_leave 63 = .ok (.aload_n 0, 1) := by decide +kernel
theorem dX8_leave_64 : decode cX8_leave 64 = .ok (.getfield 16, 3) := by decide +kernel
theorem dX8_leave_67 : decode cX8_leave 67 = .ok (.iload 6, 2) := by decide +kernel
theorem dX8_leave_69 : decode cX8_leave 69 = .ok (.dup2, 1) := by decide +kernel
theorem dX8_leave_70 : decode cX8_leave 70 = .ok (.iaload, 1) := by decide +kernel
theorem dX8_leave_71 : decode cX8_leave 71 = .ok (.iload_n 3, 1) := by decide +kernel
theorem dX8_leave_72 : decode cX8_leave 72 = .ok (.ior, 1) := by decide +kernel
theorem dX8_leave_73 : decode cX8_leave 73 = .ok (.iastore, 1) := by decide +kernel
theorem dX8_leave_74 : decode cX8_leave 74 = .ok (.aload_n 0, 1) := by decide +kernel
theorem dX8_leave_75 : decode cX8_leave 75 = .ok (.getfield 16, 3) := by decide +kernel
theorem dX8_leave_78 : decode cX8_leave 78 = .ok (.iload_n 1, 1) := by decide +kernel
theorem dX8_leave_79 : decode cX8_leave 79 = .ok (.iconst 0, 1) := by decide +kernel
theorem dX8_leave_80 : decode cX8_leave 80 = .ok (.iastore, 1) := by decide +kernel
theorem dX8_leave_81 : decode cX8_leave 81 = .ok (.iconst 0, 1) := by decide +kernel
theorem dX8_leave_82 : decode cX8_leave 82 = .ok (.istore 8, 2) := by decide +kernel
theorem dX8_leave_84 : decode cX8_leave 84 = .ok (.iconst 0, 1) := by decide +kernel
theorem dX8_leave_85 : decode cX8_leave 85 = .ok (.istore 9, 2) := by decide +kernel
theorem dX8_leave_87 : decode cX8_leave 87 = .ok (.iload 9, 2) := by decide +kernel
theorem dX8_leave_89 : decode cX8_leave 89 = .ok (.aload_n 0, 1) := by decide +kernel
theorem dX8_leave_90 : decode cX8_leave 90 = .ok (.getfield 82, 3) := by decide +kernel
theorem dX8_leave_93 : decode cX8_leave 93 = .ok (.if_icmp .ge 36, 3) := by decide +kernel
theorem dX8_leave_96 : decode cX8_leave 96 = .ok (.iload 9, 2) := by decide +kernel
theorem dX8_leave_98 : decode cX8_leave 98 = .ok (.iload 6, 2) := by decide +kernel
theorem dX8_leave_100 : decode cX8_leave 100 = .ok (.if_icmp .eq 23, 3) := by decide +kernel
theorem dX8_leave_103 : decode cX8_leave 103 = .ok (.iload 9, 2) := by decide +kernel
theorem dX8_leave_105 : decode cX8_leave 105 = .ok (.iload_n 1, 1) := by decide +kernel
theorem dX8_leave_106 : decode cX8_leave 106 = .ok (.if_icmp .eq 17, 3) := by decide +kernel
theorem dX8_leave_109 : decode cX8_leave 109 = .ok (.iload 8, 2) := by decide +kernel
theorem dX8_leave_111 : decode cX8_leave 111 = .ok (.aload_n 0, 1) := by decide +kernel
theorem dX8_leave_112 : decode cX8_leave 112 = .ok (.iload 6, 2) := by decide +kernel
theorem dX8_leave_114 : decode cX8_leave 114 = .ok (.iload 9, 2) := by decide +kernel
theorem dX8_leave_116 : decode cX8_leave 116 = .ok (.iconst 2, 1) := by decide +kernel
theorem dX8_leave_117 : decode cX8_leave 117 = .ok (.invokevirtual 255, 3) := by decide +kernel
theorem dX8_leave_120 : decode cX8_leave 120 = .ok (.iadd, 1) := by decide +kernel
theorem dX8_leave_121 : decode cX8_leave 121 = .ok (.istore 8, 2) := by decide +kernel
theorem dX8_leave_123 : decode cX8_leave 123 = .ok (.iinc 9 1, 3) := by decide +kernel
theorem dX8_leave_126 : decode cX8_leave 126 = .ok (.goto (-39), 3) := by decide +kernel
theorem dX8_leave_129 : decode cX8_leave 129 = .ok (.aload_n 0, 1) := by decide +kernel
theorem dX8_leave_130 : decode cX8_leave 130 = .ok (.getfield 16, 3) := by decide +kernel
theorem dX8_leave_133 : decode cX8_leave 133 = .ok (.iload 6, 2) := by decide +kernel
theorem dX8_leave_135 : decode cX8_leave 135 = .ok (.iload 7, 2) := by decide +kernel
theorem dX8_leave_137 : decode cX8_leave 137 = .ok (.iastore, 1) := by decide +kernel
theorem dX8_leave_138 : decode cX8_leave 138 = .ok (.aload_n 0, 1) := by decide +kernel
theorem dX8_leave_139 : decode cX8_leave 139 = .ok (.getfield 16, 3) := by decide +kernel
theorem dX8_leave_142 : decode cX8_leave 142 = .ok (.iload_n 1, 1) := by decide +kernel
theorem dX8_leave_143 : decode cX8_leave 143 = .ok (.iload_n 3, 1) := by decide +kernel
theorem dX8_leave_144 : decode cX8_leave 144 = .ok (.iastore, 1) := by decide +kernel
theorem dX8_leave_145 : decode cX8_leave 145 = .ok (.iload 4, 2) := by decide +kernel
theorem dX8_leave_147 : decode cX8_leave 147 = .ok (.iconst (-1), 1) := by decide +kernel
theorem dX8_leave_148 : decode cX8_leave 148 = .ok (.if_icmp .eq 13, 3) := by decide +kernel
theorem dX8_leave_151 : decode cX8_leave 151 = .ok (.iload 8, 2) := by decide +kernel
theorem dX8_leave_153 : decode cX8_leave 153 = .ok (.iload 5, 2) := by decide +kernel
theorem dX8_leave_155 : decode cX8_leave 155 = .ok (.if_icmp .lt 6, 3) := by decide +kernel
theorem dX8_leave_158 : decode cX8_leave 158 = .ok (.goto 11, 3) := by decide +kernel
theorem dX8_leave_161 : decode cX8_leave 161 = .ok (.iload 6, 2) := by decide +kernel
theorem dX8_leave_163 : decode cX8_leave 163 = .ok (.istore 4, 2) := by decide +kernel
theorem dX8_leave_165 : decode cX8_leave 165 = .ok (.iload 8, 2) := by decide +kernel
theorem dX8_leave_167 : decode cX8_leave 167 = .ok (.istore 5, 2) := by decide +kernel
theorem dX8_leave_169 : decode cX8_leave 169 = .ok (.iinc 6 1, 3) := by decide +kernel
theorem dX8_leave_172 : decode cX8_leave 172 = .ok (.goto (-136), 3) := by decide +kernel
theorem dX8_leave_175 : decode cX8_leave 175 = .ok (.iload_n 2, 1) := by decide +kernel
theorem dX8_leave_176 : decode cX8_leave 176 = .ok (.ifCond .ne 8, 3) := by decide +kernel
theorem dX8_leave_179 : decode cX8_leave 179 = .ok (.iload 4, 2) := by decide +kernel
theorem dX8_leave_181 : decode cX8_leave 181 = .ok (.goto 5, 3) := by decide +kernel
theorem dX8_leave_184 : decode cX8_leave 184 = .ok (.iload 5, 2) := by decide +kernel
theorem dX8_leave_186 : decode cX8_leave 186 = .ok (.ireturn, 1) := by decide +kernel
theorem dX8_buy_0 : decode cX8_buy 0 = .ok (.aload_n 0, 1) := by decide +kernel
theorem dX8_buy_1 : decode cX8_buy 1 = .ok (.iload_n 1, 1) := by decide +kernel
theorem dX8_buy_2 : decode cX8_buy 2 = .ok (.iload_n 2, 1) := by decide +kernel
theorem dX8_buy_3 : decode cX8_buy 3 = .ok (.invokevirtual 112, 3) := by decide +kernel
theorem dX8_buy_6 : decode cX8_buy 6 = .ok (.ifCond .eq 12, 3) := by decide +kernel
theorem dX8_buy_9 : decode cX8_buy 9 = .ok (.iload_n 3, 1) := by decide +kernel
theorem dX8_buy_10 : decode cX8_buy 10 = .ok (.iconst 0, 1) := by decide +kernel
theorem dX8_buy_11 : decode cX8_buy 11 = .ok (.iconst 1, 1) := by decide +kernel
theorem dX8_buy_12 : decode cX8_buy 12 = .ok (.invokestatic 85, 3) := by decide +kernel
theorem dX8_buy_15 : decode cX8_buy 15 = .ok (.ifCond .ne 6, 3) := by decide +kernel
theorem dX8_buy_18 : decode cX8_buy 18 = .ok (.bipush (-2), 2) := by decide +kernel
theorem dX8_buy_20 : decode cX8_buy 20 = .ok (.ireturn, 1) := by decide +kernel
theorem dX8_buy_21 : decode cX8_buy 21 = .ok (.aload_n 0, 1) := by decide +kernel
theorem dX8_buy_22 : decode cX8_buy 22 = .ok (.getfield 16, 3) := by decide +kernel
theorem dX8_buy_25 : decode cX8_buy 25 = .ok (.iload_n 1, 1) := by decide +kernel
theorem dX8_buy_26 : decode cX8_buy 26 = .ok (.iaload, 1) := by decide +kernel
theorem dX8_buy_27 : decode cX8_buy 27 = .ok (.istore 4, 2) := by decide +kernel
theorem dX8_buy_29 : decode cX8_buy 29 = .ok (.iconst (-1), 1) := by decide +kernel
theorem dX8_buy_30 : decode cX8_buy 30 = .ok (.istore 5, 2) := by decide +kernel
theorem dX8_buy_32 : decode cX8_buy 32 = .ok (.iconst 0, 1) := by decide +kernel
theorem dX8_buy_33 : decode cX8_buy 33 = .ok (.istore 6, 2) := by decide +kernel
theorem dX8_buy_35 : decode cX8_buy 35 = .ok (.iconst 1, 1) := by decide +kernel
theorem dX8_buy_36 : decode cX8_buy 36 = .ok (.istore 7, 2) := by decide +kernel
theorem dX8_buy_38 : decode cX8_buy 38 = .ok (.iload 7, 2) := by decide +kernel
theorem dX8_buy_40 : decode cX8_buy 40 = .ok (.bipush 31, 2) := by decide +kernel
theorem dX8_buy_42 : decode cX8_buy 42 = .ok (.if_icmp .ge 57, 3) := by decide +kernel
theorem dX8_buy_45 : decode cX8_buy 45 = .ok (.aload_n 0, 1) := by decide +kernel
theorem dX8_buy_46 : decode cX8_buy 46 = .ok (.getfield 16, 3) := by decide +kernel
theorem dX8_buy_49 : decode cX8_buy 49 = .ok (.iload_n 1, 1) := by decide +kernel
theorem dX8_buy_50 : decode cX8_buy 50 = .ok (.iload 4, 2) := by decide +kernel
theorem dX8_buy_52 : decode cX8_buy 52 = .ok (.iconst 1, 1) := by decide +kernel
theorem dX8_buy_53 : decode cX8_buy 53 = .ok (.iload 7, 2) := by decide +kernel
theorem dX8_buy_55 : decode cX8_buy 55 = .ok (.iconst 1, 1) := by decide +kernel
theorem dX8_buy_56 : decode cX8_buy 56 = .ok (.isub, 1) := by decide +kernel
theorem dX8_buy_57 : decode cX8_buy 57 = .ok (.ishl, 1) := by decide +kernel
theorem dX8_buy_58 : decode cX8_buy 58 = .ok (.ior, 1) := by decide +kernel
theorem dX8_buy_59 : decode cX8_buy 59 = .ok (.iastore, 1) := by decide +kernel
theorem dX8_buy_60 : decode cX8_buy 60 = .ok (.aload_n 0, 1) := by decide +kernel
theorem dX8_buy_61 : decode cX8_buy 61 = .ok (.iload_n 1, 1) := by decide +kernel
theorem dX8_buy_62 : decode cX8_buy 62 = .ok (.iload_n 2, 1) := by decide +kernel
theorem dX8_buy_63 : decode cX8_buy 63 = .ok (.iconst 0, 1) := by decide +kernel
theorem dX8_buy_64 : decode cX8_buy 64 = .ok (.invokevirtual 255, 3) := by decide +kernel
theorem dX8_buy_67 : decode cX8_buy 67 = .ok (.istore 8, 2) := by decide +kernel
theorem dX8_buy_69 : decode cX8_buy 69 = .ok (.iload 5, 2) := by decide +kernel
theorem dX8_buy_71 : decode cX8_buy 71 = .ok (.iconst (-1), 1) := by decide +kernel
theorem dX8_buy_72 : decode cX8_buy 72 = .ok (.if_icmp .eq 13, 3) := by decide +kernel
theorem dX8_buy_75 : decode cX8_buy 75 = .ok (.iload 8, 2) := by decide +kernel
theorem dX8_buy_77 : decode cX8_buy 77 = .ok (.iload 6, 2) := by decide +kernel
theorem dX8_buy_79 : decode cX8_buy 79 = .ok (.if_icmp .lt 6, 3) := by decide +kernel
theorem dX8_buy_82 : decode cX8_buy 82 = .ok (.goto 11, 3) := by decide +kernel
theorem dX8_buy_85 : decode cX8_buy 85 = .ok (.iload 7, 2) := by decide +kernel
theorem dX8_buy_87 : decode cX8_buy 87 = .ok (.istore 5, 2) := by decide +kernel
theorem dX8_buy_89 : decode cX8_buy 89 = .ok (.iload 8, 2) := by decide +kernel
theorem dX8_buy_91 : decode cX8_buy 91 = .ok (.istore 6, 2) := by decide +kernel
theorem dX8_buy_93 : decode cX8_buy 93 = .ok (.iinc 7 1, 3) := by decide +kernel
theorem dX8_buy_96 : decode cX8_buy 96 = .ok (.goto (-58), 3) := by decide +kernel
theorem dX8_buy_99 : decode cX8_buy 99 = .ok (.aload_n 0, 1) := by decide +kernel
theorem dX8_buy_100 : decode cX8_buy 100 = .ok (.getfield 16, 3) := by decide +kernel
theorem dX8_buy_103 : decode cX8_buy 103 = .ok (.iload_n 1, 1) := by decide +kernel
theorem dX8_buy_104 : decode cX8_buy 104 = .ok (.iload 4, 2) := by decide +kernel
theorem dX8_buy_106 : decode cX8_buy 106 = .ok (.iastore, 1) := by decide +kernel
theorem dX8_buy_107 : decode cX8_buy 107 = .ok (.iload_n 3, 1) := by decide +kernel
theorem dX8_buy_108 : decode cX8_buy 108 = .ok (.ifCond .ne 8, 3) := by decide +kernel
theorem dX8_buy_111 : decode cX8_buy 111 = .ok (.iload 5, 2) := by decide +kernel
theorem dX8_buy_113 : decode cX8_buy 113 = .ok (.goto 5, 3) := by decide +kernel
theorem dX8_buy_116 : decode cX8_buy 116 = .ok (.iload 6, 2) := by decide +kernel
theorem dX8_buy_118 : decode cX8_buy 118 = .ok (.ireturn, 1) := by decide +kernel
theorem dX8_unpaid_0 : decode cX8_unpaid 0 = .ok (.aload_n 0, 1) := by decide +kernel
theorem dX8_unpaid_1 : decode cX8_unpaid 1 = .ok (.iload_n 1, 1) := by decide +kernel
theorem dX8_unpaid_2 : decode cX8_unpaid 2 = .ok (.iload_n 2, 1) := by decide +kernel
theorem dX8_unpaid_3 : decode cX8_unpaid 3 = .ok (.invokevirtual 245, 3) := by decide +kernel
theorem dX8_unpaid_6 : decode cX8_unpaid 6 = .ok (.iconst 0, 1) := by decide +kernel
theorem dX8_unpaid_7 : decode cX8_unpaid 7 = .ok (.istore_n 3, 1) := by decide +kernel
theorem dX8_unpaid_8 : decode cX8_unpaid 8 = .ok (.iconst 1, 1) := by decide +kernel
theorem dX8_unpaid_9 : decode cX8_unpaid 9 = .ok (.istore 4, 2) := by decide +kernel
theorem dX8_unpaid_11 : decode cX8_unpaid 11 = .ok (.iload 4, 2) := by decide +kernel
theorem dX8_unpaid_13 : decode cX8_unpaid 13 = .ok (.bipush 100, 2) := by decide +kernel
theorem dX8_unpaid_15 : decode cX8_unpaid 15 = .ok (.if_icmp .ge 23, 3) := by decide +kernel
theorem dX8_unpaid_18 : decode cX8_unpaid 18 = .ok (.aload_n 0, 1) := by decide +kernel
theorem dX8_unpaid_19 : decode cX8_unpaid 19 = .ok (.getfield 40, 3) := by decide +kernel
theorem dX8_unpaid_22 : decode cX8_unpaid 22 = .ok (.iload 4, 2) := by decide +kernel
theorem dX8_unpaid_24 : decode cX8_unpaid 24 = .ok (.iaload, 1) := by decide +kernel
theorem dX8_unpaid_25 : decode cX8_unpaid 25 = .ok (.iconst (-1), 1) := by decide +kernel
theorem dX8_unpaid_26 : decode cX8_unpaid 26 = .ok (.if_icmp .ne 6, 3) := by decide +kernel
theorem dX8_unpaid_29 : decode cX8_unpaid 29 = .ok (.iinc 3 1, 3) := by decide +kernel
theorem dX8_unpaid_32 : decode cX8_unpaid 32 = .ok (.iinc 4 1, 3) := by decide +kernel
theorem dX8_unpaid_35 : decode cX8_unpaid 35 = .ok (.goto (-24), 3) := by decide +kernel
theorem dX8_unpaid_38 : decode cX8_unpaid 38 = .ok (.iload_n 3, 1) := by decide +kernel
theorem dX8_unpaid_39 : decode cX8_unpaid 39 = .ok (.ireturn, 1) := by decide +kernel
theorem dX8_pawn_0 : decode cX8_pawn 0 = .ok (.aload_n 0, 1) := by decide +kernel
theorem dX8_pawn_1 : decode cX8_pawn 1 = .ok (.iload_n 1, 1) := by decide +kernel
theorem dX8_pawn_2 : decode cX8_pawn 2 = .ok (.iload_n 2, 1) := by decide +kernel
theorem dX8_pawn_3 : decode cX8_pawn 3 = .ok (.invokevirtual 112, 3) := by decide +kernel
theorem dX8_pawn_6 : decode cX8_pawn 6 = .ok (.ifCond .eq 12, 3) := by decide +kernel
theorem dX8_pawn_9 : decode cX8_pawn 9 = .ok (.iload_n 3, 1) := by decide +kernel
theorem dX8_pawn_10 : decode cX8_pawn 10 = .ok (.iconst 0, 1) := by decide +kernel
theorem dX8_pawn_11 : decode cX8_pawn 11 = .ok (.iconst 1, 1) := by decide +kernel
theorem dX8_pawn_12 : decode cX8_pawn 12 = .ok (.invokestatic 85, 3) := by decide +kernel
theorem dX8_pawn_15 : decode cX8_pawn 15 = .ok (.ifCond .ne 6, 3) := by decide +kernel
theorem dX8_pawn_18 : decode cX8_pawn 18 = .ok (.bipush (-2), 2) := by decide +kernel
theorem dX8_pawn_20 : decode cX8_pawn 20 = .ok (.ireturn, 1) := by decide +kernel
theorem dX8_pawn_21 : decode cX8_pawn 21 = .ok (.aload_n 0, 1) := by decide +kernel
theorem dX8_pawn_22 : decode cX8_pawn 22 = .ok (.getfield 16, 3) := by decide +kernel
theorem dX8_pawn_25 : decode cX8_pawn 25 = .ok (.iload_n 1, 1) := by decide +kernel
theorem dX8_pawn_26 : decode cX8_pawn 26 = .ok (.iaload, 1) := by decide +kernel
theorem dX8_pawn_27 : decode cX8_pawn 27 = .ok (.istore 4, 2) := by decide +kernel
theorem dX8_pawn_29 : decode cX8_pawn 29 = .ok (.iconst (-1), 1) := by decide +kernel
theorem dX8_pawn_30 : decode cX8_pawn 30 = .ok (.istore 5, 2) := by decide +kernel
theorem dX8_pawn_32 : decode cX8_pawn 32 = .ok (.iconst (-1), 1) := by decide +kernel
theorem dX8_pawn_33 : decode cX8_pawn 33 = .ok (.istore 6, 2) := by decide +kernel
theorem dX8_pawn_35 : decode cX8_pawn 35 = .ok (.iconst 1, 1) := by decide +kernel
theorem dX8_pawn_36 : decode cX8_pawn 36 = .ok (.istore 7, 2) := by decide +kernel
theorem dX8_pawn_38 : decode cX8_pawn 38 = .ok (.iload 7, 2) := by decide +kernel
theorem dX8_pawn_40 : decode cX8_pawn 40 = .ok (.bipush 31, 2) := by decide +kernel
theorem dX8_pawn_42 : decode cX8_pawn 42 = .ok (.if_icmp .ge 71, 3) := by decide +kernel
theorem dX8_pawn_45 : decode cX8_pawn 45 = .ok (.iload 4, 2) := by decide +kernel
theorem dX8_pawn_47 : decode cX8_pawn 47 = .ok (.iload 7, 2) := by decide +kernel
theorem dX8_pawn_49 : decode cX8_pawn 49 = .ok (.iconst 1, 1) := by decide +kernel
theorem dX8_pawn_50 : decode cX8_pawn 50 = .ok (.isub, 1) := by decide +kernel
theorem dX8_pawn_51 : decode cX8_pawn 51 = .ok (.invokestatic 118, 3) := by decide +kernel
theorem dX8_pawn_54 : decode cX8_pawn 54 = .ok (.ifCond .ne 6, 3) := by decide +kernel
end
section
theorem dX8_pawn_57 : decode cX8_pawn 57 = .ok (.goto 50, 3) := by decide +kernel
theorem dX8_pawn_60 : decode cX8_pawn 60 = .ok (.aload_n 0, 1) := by decide +kernel
theorem dX8_pawn_61 : decode cX8_pawn 61 = .ok (.getfield 16, 3) := by decide +kernel
theorem dX8_pawn_64 : decode cX8_pawn 64 = .ok (.iload_n 1, 1) := by decide +kernel
theorem dX8_pawn_65 : decode cX8_pawn 65 = .ok (.iload 4, 2) := by decide +kernel
theorem dX8_pawn_67 : decode cX8_pawn 67 = .ok (.iconst 1, 1) := by decide +kernel
theorem dX8_pawn_68 : decode cX8_pawn 68 = .ok (.iload 7, 2) := by decide +kernel
theorem dX8_pawn_70 : decode cX8_pawn 70 = .ok (.iconst 1, 1) := by decide +kernel
theorem dX8_pawn_71 : decode cX8_pawn 71 = .ok (.isub, 1) := by decide +kernel
theorem dX8_pawn_72 : decode cX8_pawn 72 = .ok (.ishl, 1) := by decide +kernel
theorem dX8_pawn_73 : decode cX8_pawn 73 = .ok (.isub, 1) := by decide +kernel
theorem dX8_pawn_74 : decode cX8_pawn 74 = .ok (.iastore, 1) := by decide +kernel
theorem dX8_pawn_75 : decode cX8_pawn 75 = .ok (.aload_n 0, 1) := by decide +kernel
theorem dX8_pawn_76 : decode cX8_pawn 76 = .ok (.iload_n 1, 1) := by decide +kernel
theorem dX8_pawn_77 : decode cX8_pawn 77 = .ok (.iload_n 2, 1) := by decide +kernel
theorem dX8_pawn_78 : decode cX8_pawn 78 = .ok (.invokevirtual 261, 3) := by decide +kernel
theorem dX8_pawn_81 : decode cX8_pawn 81 = .ok (.istore 8, 2) := by decide +kernel
theorem dX8_pawn_83 : decode cX8_pawn 83 = .ok (.iload 5, 2) := by decide +kernel
theorem dX8_pawn_85 : decode cX8_pawn 85 = .ok (.iconst (-1), 1) := by decide +kernel
theorem dX8_pawn_86 : decode cX8_pawn 86 = .ok (.if_icmp .eq 13, 3) := by decide +kernel
theorem dX8_pawn_89 : decode cX8_pawn 89 = .ok (.iload 8, 2) := by decide +kernel
theorem dX8_pawn_91 : decode cX8_pawn 91 = .ok (.iload 6, 2) := by decide +kernel
theorem dX8_pawn_93 : decode cX8_pawn 93 = .ok (.if_icmp .lt 6, 3) := by decide +kernel
theorem dX8_pawn_96 : decode cX8_pawn 96 = .ok (.goto 11, 3) := by decide +kernel
theorem dX8_pawn_99 : decode cX8_pawn 99 = .ok (.iload 7, 2) := by decide +kernel
theorem dX8_pawn_101 : decode cX8_pawn 101 = .ok (.istore 5, 2) := by decide +kernel
theorem dX8_pawn_103 : decode cX8_pawn 103 = .ok (.iload 8, 2) := by decide +kernel
theorem dX8_pawn_105 : decode cX8_pawn 105 = .ok (.istore 6, 2) := by decide +kernel
theorem dX8_pawn_107 : decode cX8_pawn 107 = .ok (.iinc 7 1, 3) := by decide +kernel
theorem dX8_pawn_110 : decode cX8_pawn 110 = .ok (.goto (-72), 3) := by decide +kernel
theorem dX8_pawn_113 : decode cX8_pawn 113 = .ok (.aload_n 0, 1) := by decide +kernel
theorem dX8_pawn_114 : decode cX8_pawn 114 = .ok (.getfield 16, 3) := by decide +kernel
theorem dX8_pawn_117 : decode cX8_pawn 117 = .ok (.iload_n 1, 1) := by decide +kernel
theorem dX8_pawn_118 : decode cX8_pawn 118 = .ok (.iload 4, 2) := by decide +kernel
theorem dX8_pawn_120 : decode cX8_pawn 120 = .ok (.iastore, 1) := by decide +kernel
theorem dX8_pawn_121 : decode cX8_pawn 121 = .ok (.iload_n 3, 1) := by decide +kernel
theorem dX8_pawn_122 : decode cX8_pawn 122 = .ok (.ifCond .ne 8, 3) := by decide +kernel
theorem dX8_pawn_125 : decode cX8_pawn 125 = .ok (.iload 5, 2) := by decide +kernel
theorem dX8_pawn_127 : decode cX8_pawn 127 = .ok (.goto 5, 3) := by decide +kernel
theorem dX8_pawn_130 : decode cX8_pawn 130 = .ok (.iload 6, 2) := by decide +kernel
theorem dX8_pawn_132 : decode cX8_pawn 132 = .ok (.ireturn, 1) := by decide +kernel
theorem dX8_otherwise_0 : decode cX8_otherwise 0 = .ok (.aload_n 0, 1) := by decide +kernel
theorem dX8_otherwise_1 : decode cX8_otherwise 1 = .ok (.iload_n 2, 1) := by decide +kernel
theorem dX8_otherwise_2 : decode cX8_otherwise 2 = .ok (.iload_n 3, 1) := by decide +kernel
theorem dX8_otherwise_3 : decode cX8_otherwise 3 = .ok (.invokevirtual 245, 3) := by decide +kernel
theorem dX8_otherwise_6 : decode cX8_otherwise 6 = .ok (.iconst 0, 1) := by decide +kernel
theorem dX8_otherwise_7 : decode cX8_otherwise 7 = .ok (.istore 4, 2) := by decide +kernel
theorem dX8_otherwise_9 : decode cX8_otherwise 9 = .ok (.iload 4, 2) := by decide +kernel
theorem dX8_otherwise_11 : decode cX8_otherwise 11 = .ok (.aload_n 0, 1) := by decide +kernel
theorem dX8_otherwise_12 : decode cX8_otherwise 12 = .ok (.getfield 65, 3) := by decide +kernel
theorem dX8_otherwise_15 : decode cX8_otherwise 15 = .ok (.iload_n 1, 1) := by decide +kernel
theorem dX8_otherwise_16 : decode cX8_otherwise 16 = .ok (.iaload, 1) := by decide +kernel
theorem dX8_otherwise_17 : decode cX8_otherwise 17 = .ok (.if_icmp .ge 48, 3) := by decide +kernel
theorem dX8_otherwise_20 : decode cX8_otherwise 20 = .ok (.aload_n 0, 1) := by decide +kernel
theorem dX8_otherwise_21 : decode cX8_otherwise 21 = .ok (.getfield 68, 3) := by decide +kernel
theorem dX8_otherwise_24 : decode cX8_otherwise 24 = .ok (.bipush 40, 2) := by decide +kernel
theorem dX8_otherwise_26 : decode cX8_otherwise 26 = .ok (.iload_n 1, 1) := by decide +kernel
theorem dX8_otherwise_27 : decode cX8_otherwise 27 = .ok (.imul, 1) := by decide +kernel
theorem dX8_otherwise_28 : decode cX8_otherwise 28 = .ok (.iload 4, 2) := by decide +kernel
theorem dX8_otherwise_30 : decode cX8_otherwise 30 = .ok (.iadd, 1) := by decide +kernel
theorem dX8_otherwise_31 : decode cX8_otherwise 31 = .ok (.iconst 1, 1) := by decide +kernel
theorem dX8_otherwise_32 : decode cX8_otherwise 32 = .ok (.iadd, 1) := by decide +kernel
theorem dX8_otherwise_33 : decode cX8_otherwise 33 = .ok (.iaload, 1) := by decide +kernel
theorem dX8_otherwise_34 : decode cX8_otherwise 34 = .ok (.aload_n 0, 1) := by decide +kernel
theorem dX8_otherwise_35 : decode cX8_otherwise 35 = .ok (.getfield 40, 3) := by decide +kernel
theorem dX8_otherwise_38 : decode cX8_otherwise 38 = .ok (.aload_n 0, 1) := by decide +kernel
theorem dX8_otherwise_39 : decode cX8_otherwise 39 = .ok (.getfield 68, 3) := by decide +kernel
theorem dX8_otherwise_42 : decode cX8_otherwise 42 = .ok (.bipush 40, 2) := by decide +kernel
theorem dX8_otherwise_44 : decode cX8_otherwise 44 = .ok (.iload_n 1, 1) := by decide +kernel
theorem dX8_otherwise_45 : decode cX8_otherwise 45 = .ok (.imul, 1) := by decide +kernel
theorem dX8_otherwise_46 : decode cX8_otherwise 46 = .ok (.iload 4, 2) := by decide +kernel
theorem dX8_otherwise_48 : decode cX8_otherwise 48 = .ok (.iadd, 1) := by decide +kernel
theorem dX8_otherwise_49 : decode cX8_otherwise 49 = .ok (.iaload, 1) := by decide +kernel
theorem dX8_otherwise_50 : decode cX8_otherwise 50 = .ok (.iaload, 1) := by decide +kernel
theorem dX8_otherwise_51 : decode cX8_otherwise 51 = .ok (.if_icmp .eq 8, 3) := by decide +kernel
theorem dX8_otherwise_54 : decode cX8_otherwise 54 = .ok (.iload 4, 2) := by decide +kernel
theorem dX8_otherwise_56 : decode cX8_otherwise 56 = .ok (.iconst 2, 1) := by decide +kernel
theorem dX8_otherwise_57 : decode cX8_otherwise 57 = .ok (.idiv, 1) := by decide +kernel
theorem dX8_otherwise_58 : decode cX8_otherwise 58 = .ok (.ireturn, 1) := by decide +kernel
theorem dX8_otherwise_59 : decode cX8_otherwise 59 = .ok (.iinc 4 2, 3) := by decide +kernel
theorem dX8_otherwise_62 : decode cX8_otherwise 62 = .ok (.goto (-53), 3) := by decide +kernel
theorem dX8_otherwise_65 : decode cX8_otherwise 65 = .ok (.iconst (-1), 1) := by decide +kernel
theorem dX8_otherwise_66 : decode cX8_otherwise 66 = .ok (.ireturn, 1) := by decide +kernel
theorem dX8_isSo_0 : decode cX8_isSo 0 = .ok (.aload_n 0, 1) := by decide +kernel
theorem dX8_isSo_1 : decode cX8_isSo 1 = .ok (.iload_n 1, 1) := by decide +kernel
theorem dX8_isSo_2 : decode cX8_isSo 2 = .ok (.iload_n 2, 1) := by decide +kernel
theorem dX8_isSo_3 : decode cX8_isSo 3 = .ok (.iload_n 3, 1) := by decide +kernel
theorem dX8_isSo_4 : decode cX8_isSo 4 = .ok (.invokevirtual 264, 3) := by decide +kernel
theorem dX8_isSo_7 : decode cX8_isSo 7 = .ok (.iconst (-1), 1) := by decide +kernel
theorem dX8_isSo_8 : decode cX8_isSo 8 = .ok (.if_icmp .ne 7, 3) := by decide +kernel
theorem dX8_isSo_11 : decode cX8_isSo 11 = .ok (.iconst 1, 1) := by decide +kernel
theorem dX8_isSo_12 : decode cX8_isSo 12 = .ok (.goto 4, 3) := by decide +kernel
theorem dX8_isSo_15 : decode cX8_isSo 15 = .ok (.iconst 0, 1) := by decide +kernel
theorem dX8_isSo_16 : decode cX8_isSo 16 = .ok (.ireturn, 1) := by decide +kernel
theorem dX8_rows_0 : decode cX8_rows 0 = .ok (.iload_n 1, 1) := by decide +kernel
theorem dX8_rows_1 : decode cX8_rows 1 = .ok (.invokestatic 267, 3) := by decide +kernel
theorem dX8_rows_4 : decode cX8_rows 4 = .ok (.ifCond .eq 22, 3) := by decide +kernel
theorem dX8_rows_7 : decode cX8_rows 7 = .ok (.aload_n 0, 1) := by decide +kernel
theorem dX8_rows_8 : decode cX8_rows 8 = .ok (.iload_n 2, 1) := by decide +kernel
theorem dX8_rows_9 : decode cX8_rows 9 = .ok (.iload_n 3, 1) := by decide +kernel
theorem dX8_rows_10 : decode cX8_rows 10 = .ok (.invokevirtual 112, 3) := by decide +kernel
theorem dX8_rows_13 : decode cX8_rows 13 = .ok (.ifCond .eq 13, 3) := by decide +kernel
theorem dX8_rows_16 : decode cX8_rows 16 = .ok (.iload 4, 2) := by decide +kernel
theorem dX8_rows_18 : decode cX8_rows 18 = .ok (.iconst 0, 1) := by decide +kernel
theorem dX8_rows_19 : decode cX8_rows 19 = .ok (.iconst 5, 1) := by decide +kernel
theorem dX8_rows_20 : decode cX8_rows 20 = .ok (.invokestatic 85, 3) := by decide +kernel
theorem dX8_rows_23 : decode cX8_rows 23 = .ok (.ifCond .ne 6, 3) := by decide +kernel
theorem dX8_rows_26 : decode cX8_rows 26 = .ok (.bipush (-2), 2) := by decide +kernel
theorem dX8_rows_28 : decode cX8_rows 28 = .ok (.ireturn, 1) := by decide +kernel
theorem dX8_rows_29 : decode cX8_rows 29 = .ok (.aload_n 0, 1) := by decide +kernel
theorem dX8_rows_30 : decode cX8_rows 30 = .ok (.getfield 62, 3) := by decide +kernel
theorem dX8_rows_33 : decode cX8_rows 33 = .ok (.iload_n 1, 1) := by decide +kernel
theorem dX8_rows_34 : decode cX8_rows 34 = .ok (.iaload, 1) := by decide +kernel
theorem dX8_rows_35 : decode cX8_rows 35 = .ok (.ifCond .ge 6, 3) := by decide +kernel
theorem dX8_rows_38 : decode cX8_rows 38 = .ok (.bipush (-11), 2) := by decide +kernel
theorem dX8_rows_40 : decode cX8_rows 40 = .ok (.ireturn, 1) := by decide +kernel
theorem dX8_rows_41 : decode cX8_rows 41 = .ok (.aload_n 0, 1) := by decide +kernel
theorem dX8_rows_42 : decode cX8_rows 42 = .ok (.getfield 65, 3) := by decide +kernel
theorem dX8_rows_45 : decode cX8_rows 45 = .ok (.iload_n 1, 1) := by decide +kernel
theorem dX8_rows_46 : decode cX8_rows 46 = .ok (.iaload, 1) := by decide +kernel
theorem dX8_rows_47 : decode cX8_rows 47 = .ok (.iconst 2, 1) := by decide +kernel
theorem dX8_rows_48 : decode cX8_rows 48 = .ok (.irem, 1) := by decide +kernel
theorem dX8_rows_49 : decode cX8_rows 49 = .ok (.iconst 1, 1) := by decide +kernel
theorem dX8_rows_50 : decode cX8_rows 50 = .ok (.if_icmp .ne 6, 3) := by decide +kernel
theorem dX8_rows_53 : decode cX8_rows 53 = .ok (.bipush (-2), 2) := by decide +kernel
theorem dX8_rows_55 : decode cX8_rows 55 = .ok (.ireturn, 1) := by decide +kernel
theorem dX8_rows_56 : decode cX8_rows 56 = .ok (.iconst 0, 1) := by decide +kernel
theorem dX8_rows_57 : decode cX8_rows 57 = .ok (.istore 5, 2) := by decide +kernel
theorem dX8_rows_59 : decode cX8_rows 59 = .ok (.iload 5, 2) := by decide +kernel
theorem dX8_rows_61 : decode cX8_rows 61 = .ok (.aload_n 0, 1) := by decide +kernel
theorem dX8_rows_62 : decode cX8_rows 62 = .ok (.getfield 65, 3) := by decide +kernel
theorem dX8_rows_65 : decode cX8_rows 65 = .ok (.iload_n 1, 1) := by decide +kernel
theorem dX8_rows_66 : decode cX8_rows 66 = .ok (.iaload, 1) := by decide +kernel
theorem dX8_rows_67 : decode cX8_rows 67 = .ok (.if_icmp .ge 30, 3) := by decide +kernel
theorem dX8_rows_70 : decode cX8_rows 70 = .ok (.aload_n 0, 1) := by decide +kernel
theorem dX8_rows_71 : decode cX8_rows 71 = .ok (.getfield 68, 3) := by decide +kernel
theorem dX8_rows_74 : decode cX8_rows 74 = .ok (.bipush 40, 2) := by decide +kernel
theorem dX8_rows_76 : decode cX8_rows 76 = .ok (.iload_n 1, 1) := by decide +kernel
theorem dX8_rows_77 : decode cX8_rows 77 = .ok (.imul, 1) := by decide +kernel
theorem dX8_rows_78 : decode cX8_rows 78 = .ok (.iload 5, 2) := by decide +kernel
theorem dX8_rows_80 : decode cX8_rows 80 = .ok (.iadd, 1) := by decide +kernel
theorem dX8_rows_81 : decode cX8_rows 81 = .ok (.iaload, 1) := by decide +kernel
theorem dX8_rows_82 : decode cX8_rows 82 = .ok (.invokestatic 233, 3) := by decide +kernel
theorem dX8_rows_85 : decode cX8_rows 85 = .ok (.ifCond .ne 6, 3) := by decide +kernel
theorem dX8_rows_88 : decode cX8_rows 88 = .ok (.bipush (-2), 2) := by decide +kernel
theorem dX8_rows_90 : decode cX8_rows 90 = .ok (.ireturn, 1) := by decide +kernel
theorem dX8_rows_91 : decode cX8_rows 91 = .ok (.iinc 5 2, 3) := by decide +kernel
theorem dX8_rows_94 : decode cX8_rows 94 = .ok (.goto (-35), 3) := by decide +kernel
theorem dX8_rows_97 : decode cX8_rows 97 = .ok (.iload 4, 2) := by decide +kernel
theorem dX8_rows_99 : decode cX8_rows 99 = .ok (.tableswitch 61 0 3 #[29, 37, 45, 53], 29) := by decide +kernel
theorem dX8_rows_128 : decode cX8_rows 128 = .ok (.aload_n 0, 1) := by decide +kernel
theorem dX8_rows_129 : decode cX8_rows 129 = .ok (.iload_n 1, 1) := by decide +kernel
theorem dX8_rows_130 : decode cX8_rows 130 = .ok (.iload_n 2, 1) := by decide +kernel
theorem dX8_rows_131 : decode cX8_rows 131 = .ok (.iload_n 3, 1) := by decide +kernel
theorem dX8_rows_132 : decode cX8_rows 132 = .ok (.invokevirtual 264, 3) := by decide +kernel
theorem dX8_rows_135 : decode cX8_rows 135 = .ok (.ireturn, 1) := by decide +kernel
theorem dX8_rows_136 : decode cX8_rows 136 = .ok (.aload_n 0, 1) := by decide +kernel
theorem dX8_rows_137 : decode cX8_rows 137 = .ok (.iload_n 1, 1) := by decide +kernel
theorem dX8_rows_138 : decode cX8_rows 138 = .ok (.iload_n 2, 1) := by decide +kernel
theorem dX8_rows_139 : decode cX8_rows 139 = .ok (.iload_n 3, 1) := by decide +kernel
theorem dX8_rows_140 : decode cX8_rows 140 = .ok (.invokevirtual 270, 3) := by decide +kernel
theorem dX8_rows_143 : decode cX8_rows 143 = .ok (.ireturn, 1) := by decide +kernel
theorem dX8_rows_144 : decode cX8_rows 144 = .ok (.aload_n 0, 1) := by decide +kernel
theorem dX8_rows_145 : decode cX8_rows 145 = .ok (.iload_n 1, 1) := by decide +kernel
theorem dX8_rows_146 : decode cX8_rows 146 = .ok (.iload_n 2, 1) := by decide +kernel
theorem dX8_rows_147 : decode cX8_rows 147 = .ok (.iload_n 3, 1) := by decide +kernel
theorem dX8_rows_148 : decode cX8_rows 148 = .ok (.invokevirtual 273, 3) := by decide +kernel
theorem dX8_rows_151 : decode cX8_rows 151 = .ok (.ireturn, 1) := by decide +kernel
theorem dX8_rows_152 : decode cX8_rows 152 = .ok (.aload_n 0, 1) := by decide +kernel
theorem dX8_rows_153 : decode cX8_rows 153 = .ok (.iload_n 1, 1) := by decide +kernel
theorem dX8_rows_154 : decode cX8_rows 154 = .ok (.iload_n 2, 1) := by decide +kernel
theorem dX8_rows_155 : decode cX8_rows 155 = .ok (.iload_n 3, 1) := by decide +kernel
theorem dX8_rows_156 : decode cX8_rows 156 = .ok (.invokevirtual 276, 3) := by decide +kernel
theorem dX8_rows_159 : decode cX8_rows 159 = .ok (.ireturn, 1) := by decide +kernel
theorem dX8_rows_160 : decode cX8_rows 160 = .ok (.aload_n 0, 1) := by decide +kernel
theorem dX8_rows_161 : decode cX8_rows 161 = .ok (.iload_n 1, 1) := by decide +kernel
theorem dX8_rows_162 : decode cX8_rows 162 = .ok (.iload_n 2, 1) := by decide +kernel
theorem dX8_rows_163 : decode cX8_rows 163 = .ok (.iload_n 3, 1) := by decide +kernel
theorem dX8_rows_164 : decode cX8_rows 164 = .ok (.iload 4, 2) := by decide +kernel
theorem dX8_rows_166 : decode cX8_rows 166 = .ok (.iconst 4, 1) := by decide +kernel
theorem dX8_rows_167 : decode cX8_rows 167 = .ok (.if_icmp .ne 7, 3) := by decide +kernel
theorem dX8_rows_170 : decode cX8_rows 170 = .ok (.iconst 1, 1) := by decide +kernel
theorem dX8_rows_171 : decode cX8_rows 171 = .ok (.goto 4, 3) := by decide +kernel
theorem dX8_rows_174 : decode cX8_rows 174 = .ok (.iconst 0, 1) := by decide +kernel
theorem dX8_rows_175 : decode cX8_rows 175 = .ok (.invokevirtual 279, 3) := by decide +kernel
theorem dX8_rows_178 : decode cX8_rows 178 = .ok (.ireturn, 1) := by decide +kernel
theorem dX8_kinds_0 : decode cX8_kinds 0 = .ok (.aload_n 0, 1) := by decide +kernel
theorem dX8_kinds_1 : decode cX8_kinds 1 = .ok (.getfield 7, 3) := by decide +kernel
theorem dX8_kinds_4 : decode cX8_kinds 4 = .ok (.iload_n 2, 1) := by decide +kernel
theorem dX8_kinds_5 : decode cX8_kinds 5 = .ok (.iaload, 1) := by decide +kernel
theorem dX8_kinds_6 : decode cX8_kinds 6 = .ok (.istore 4, 2) := by decide +kernel
theorem dX8_kinds_8 : decode cX8_kinds 8 = .ok (.iconst 0, 1) := by decide +kernel
theorem dX8_kinds_9 : decode cX8_kinds 9 = .ok (.istore 5, 2) := by decide +kernel
theorem dX8_kinds_11 : decode cX8_kinds 11 = .ok (.iconst 0, 1) := by decide +kernel
theorem dX8_kinds_12 : decode cX8_kinds 12 = .ok (.istore 6, 2) := by decide +kernel
theorem dX8_kinds_14 : decode cX8_kinds 14 = .ok (.iload 6, 2) := by decide +kernel
theorem dX8_kinds_16 : decode cX8_kinds 16 = .ok (.bipush 6, 2) := by decide +kernel
theorem dX8_kinds_18 : decode cX8_kinds 18 = .ok (.if_icmp .ge 36, 3) := by decide +kernel
theorem dX8_kinds_21 : decode cX8_kinds 21 = .ok (.aload_n 0, 1) := by decide +kernel
theorem dX8_kinds_22 : decode cX8_kinds 22 = .ok (.getfield 7, 3) := by decide +kernel
theorem dX8_kinds_25 : decode cX8_kinds 25 = .ok (.iload_n 2, 1) := by decide +kernel
theorem dX8_kinds_26 : decode cX8_kinds 26 = .ok (.iload 6, 2) := by decide +kernel
theorem dX8_kinds_28 : decode cX8_kinds 28 = .ok (.iastore, 1) := by decide +kernel
theorem dX8_kinds_29 : decode cX8_kinds 29 = .ok (.aload_n 0, 1) := by decide +kernel
theorem dX8_kinds_30 : decode cX8_kinds 30 = .ok (.iload_n 1, 1) := by decide +kernel
theorem dX8_kinds_31 : decode cX8_kinds 31 = .ok (.iload_n 2, 1) := by decide +kernel
theorem dX8_kinds_32 : decode cX8_kinds 32 = .ok (.iload_n 3, 1) := by decide +kernel
theorem dX8_kinds_33 : decode cX8_kinds 33 = .ok (.invokevirtual 283, 3) := by decide +kernel
theorem dX8_kinds_36 : decode cX8_kinds 36 = .ok (.ifCond .eq 12, 3) := by decide +kernel
theorem dX8_kinds_39 : decode cX8_kinds 39 = .ok (.iload 5, 2) := by decide +kernel
theorem dX8_kinds_41 : decode cX8_kinds 41 = .ok (.iconst 1, 1) := by decide +kernel
theorem dX8_kinds_42 : decode cX8_kinds 42 = .ok (.iload 6, 2) := by decide +kernel
theorem dX8_kinds_44 : decode cX8_kinds 44 = .ok (.ishl, 1) := by decide +kernel
theorem dX8_kinds_45 : decode cX8_kinds 45 = .ok (.ior, 1) := by decide +kernel
theorem dX8_kinds_46 : decode cX8_kinds 46 = .ok (.istore 5, 2) := by decide +kernel
theorem dX8_kinds_48 : decode cX8_kinds 48 = .ok (.iinc 6 1, 3) := by decide +kernel
theorem dX8_kinds_51 : decode cX8_kinds 51 = .ok (.goto (-37), 3) := by decide +kernel
theorem dX8_kinds_54 : decode cX8_kinds 54 = .ok (.aload_n 0, 1) := by decide +kernel
theorem dX8_kinds_55 : decode cX8_kinds 55 = .ok (.getfield 7, 3) := by decide +kernel
theorem dX8_kinds_58 : decode cX8_kinds 58 = .ok (.iload_n 2, 1) := by decide +kernel
theorem dX8_kinds_59 : decode cX8_kinds 59 = .ok (.iload 4, 2) := by decide +kernel
theorem dX8_kinds_61 : decode cX8_kinds 61 = .ok (.iastore, 1) := by decide +kernel
theorem dX8_kinds_62 : decode cX8_kinds 62 = .ok (.iload 5, 2) := by decide +kernel
theorem dX8_kinds_64 : decode cX8_kinds 64 = .ok (.ireturn, 1) := by decide +kernel
theorem dX8_mores_0 : decode cX8_mores 0 = .ok (.aload_n 0, 1) := by decide +kernel
theorem dX8_mores_1 : decode cX8_mores 1 = .ok (.getfield 13, 3) := by decide +kernel
theorem dX8_mores_4 : decode cX8_mores 4 = .ok (.iload_n 2, 1) := by decide +kernel
theorem dX8_mores_5 : decode cX8_mores 5 = .ok (.iaload, 1) := by decide +kernel
theorem dX8_mores_6 : decode cX8_mores 6 = .ok (.istore 4, 2) := by decide +kernel
theorem dX8_mores_8 : decode cX8_mores 8 = .ok (.iconst 0, 1) := by decide +kernel
theorem dX8_mores_9 : decode cX8_mores 9 = .ok (.istore 5, 2) := by decide +kernel
theorem dX8_mores_11 : decode cX8_mores 11 = .ok (.iconst 0, 1) := by decide +kernel
theorem dX8_mores_12 : decode cX8_mores 12 = .ok (.istore 6, 2) := by decide +kernel
theorem dX8_mores_14 : decode cX8_mores 14 = .ok (.iload 6, 2) := by decide +kernel
theorem dX8_mores_16 : decode cX8_mores 16 = .ok (.bipush 10, 2) := by decide +kernel
theorem dX8_mores_18 : decode cX8_mores 18 = .ok (.if_icmp .ge 36, 3) := by decide +kernel
theorem dX8_mores_21 : decode cX8_mores 21 = .ok (.aload_n 0, 1) := by decide +kernel
theorem dX8_mores_22 : decode cX8_mores 22 = .ok (.getfield 13, 3) := by decide +kernel
theorem dX8_mores_25 : decode cX8_mores 25 = .ok (.iload_n 2, 1) := by decide +kernel
theorem dX8_mores_26 : decode cX8_mores 26 = .ok (.iload 6, 2) := by decide +kernel
theorem dX8_mores_28 : decode cX8_mores 28 = .ok (.iastore, 1) := by decide +kernel
theorem dX8_mores_29 : decode cX8_mores 29 = .ok (.aload_n 0, 1) := by decide +kernel
theorem dX8_mores_30 : decode cX8_mores 30 = .ok (.iload_n 1, 1) := by decide +kernel
theorem dX8_mores_31 : decode cX8_mores 31 = .ok (.iload_n 2, 1) := by decide +kernel
theorem dX8_mores_32 : decode cX8_mores 32 = .ok (.iload_n 3, 1) := by decide +kernel
theorem dX8_mores_33 : decode cX8_mores 33 = .ok (.invokevirtual 283, 3) := by decide +kernel
theorem dX8_mores_36 : decode cX8_mores 36 = .ok (.ifCond .eq 12, 3) := by decide +kernel
theorem dX8_mores_39 : decode cX8_mores 39 = .ok (.iload 5, 2) := by decide +kernel
theorem dX8_mores_41 : decode cX8_mores 41 = .ok (.iconst 1, 1) := by decide +kernel
theorem dX8_mores_42 : decode cX8_mores 42 = .ok (.iload 6, 2) := by decide +kernel
theorem dX8_mores_44 : decode cX8_mores 44 = .ok (.ishl, 1) := by decide +kernel
theorem dX8_mores_45 : decode cX8_mores 45 = .ok (.ior, 1) := by decide +kernel
theorem dX8_mores_46 : decode cX8_mores 46 = .ok (.istore 5, 2) := by decide +kernel
theorem dX8_mores_48 : decode cX8_mores 48 = .ok (.iinc 6 1, 3) := by decide +kernel
theorem dX8_mores_51 : decode cX8_mores 51 = .ok (.goto (-37), 3) := by decide +kernel
theorem dX8_mores_54 : decode cX8_mores 54 = .ok (.aload_n 0, 1) := by decide +kernel
theorem dX8_mores_55 : decode cX8_mores 55 = .ok (.getfield 13, 3) := by decide +kernel
theorem dX8_mores_58 : decode cX8_mores 58 = .ok (.iload_n 2, 1) := by decide +kernel
theorem dX8_mores_59 : decode cX8_mores 59 = .ok (.iload 4, 2) := by decide +kernel
theorem dX8_mores_61 : decode cX8_mores 61 = .ok (.iastore, 1) := by decide +kernel
theorem dX8_mores_62 : decode cX8_mores 62 = .ok (.iload 5, 2) := by decide +kernel
theorem dX8_mores_64 : decode cX8_mores 64 = .ok (.ireturn, 1) := by decide +kernel
theorem dX8_rules_0 : decode cX8_rules 0 = .ok (.aload_n 0, 1) := by decide +kernel
theorem dX8_rules_1 : decode cX8_rules 1 = .ok (.getfield 209, 3) := by decide +kernel
theorem dX8_rules_4 : decode cX8_rules 4 = .ok (.istore 4, 2) := by decide +kernel
theorem dX8_rules_6 : decode cX8_rules 6 = .ok (.iconst 0, 1) := by decide +kernel
theorem dX8_rules_7 : decode cX8_rules 7 = .ok (.istore 5, 2) := by decide +kernel
theorem dX8_rules_9 : decode cX8_rules 9 = .ok (.iconst 0, 1) := by decide +kernel
theorem dX8_rules_10 : decode cX8_rules 10 = .ok (.istore 6, 2) := by decide +kernel
theorem dX8_rules_12 : decode cX8_rules 12 = .ok (.iload 6, 2) := by decide +kernel
theorem dX8_rules_14 : decode cX8_rules 14 = .ok (.aload_n 0, 1) := by decide +kernel
theorem dX8_rules_15 : decode cX8_rules 15 = .ok (.getfield 78, 3) := by decide +kernel
theorem dX8_rules_18 : decode cX8_rules 18 = .ok (.if_icmp .ge 34, 3) := by decide +kernel
theorem dX8_rules_21 : decode cX8_rules 21 = .ok (.aload_n 0, 1) := by decide +kernel
theorem dX8_rules_22 : decode cX8_rules 22 = .ok (.iload 6, 2) := by decide +kernel
theorem dX8_rules_24 : decode cX8_rules 24 = .ok (.putfield 209, 3) := by decide +kernel
theorem dX8_rules_27 : decode cX8_rules 27 = .ok (.aload_n 0, 1) := by decide +kernel
theorem dX8_rules_28 : decode cX8_rules 28 = .ok (.iload_n 1, 1) := by decide +kernel
theorem dX8_rules_29 : decode cX8_rules 29 = .ok (.iload_n 2, 1) := by decide +kernel
theorem dX8_rules_30 : decode cX8_rules 30 = .ok (.iload_n 3, 1) := by decide +kernel
theorem dX8_rules_31 : decode cX8_rules 31 = .ok (.invokevirtual 283, 3) := by decide +kernel
theorem dX8_rules_34 : decode cX8_rules 34 = .ok (.ifCond .eq 12, 3) := by decide +kernel
theorem dX8_rules_37 : decode cX8_rules 37 = .ok (.iload 5, 2) := by decide +kernel
theorem dX8_rules_39 : decode cX8_rules 39 = .ok (.iconst 1, 1) := by decide +kernel
theorem dX8_rules_40 : decode cX8_rules 40 = .ok (.iload 6, 2) := by decide +kernel
theorem dX8_rules_42 : decode cX8_rules 42 = .ok (.ishl, 1) := by decide +kernel
theorem dX8_rules_43 : decode cX8_rules 43 = .ok (.ior, 1) := by decide +kernel
theorem dX8_rules_44 : decode cX8_rules 44 = .ok (.istore 5, 2) := by decide +kernel
theorem dX8_rules_46 : decode cX8_rules 46 = .ok (.iinc 6 1, 3) := by decide +kernel
theorem dX8_rules_49 : decode cX8_rules 49 = .ok (.goto (-37), 3) := by decide +kernel
theorem dX8_rules_52 : decode cX8_rules 52 = .ok (.aload_n 0, 1) := by decide +kernel
theorem dX8_rules_53 : decode cX8_rules 53 = .ok (.iload 4, 2) := by decide +kernel
theorem dX8_rules_55 : decode cX8_rules 55 = .ok (.putfield 209, 3) := by decide +kernel
theorem dX8_rules_58 : decode cX8_rules 58 = .ok (.iload 5, 2) := by decide +kernel
theorem dX8_rules_60 : decode cX8_rules 60 = .ok (.ireturn, 1) := by decide +kernel
theorem dX8_owns_0 : decode cX8_owns 0 = .ok (.aload_n 0, 1) := by decide +kernel
theorem dX8_owns_1 : decode cX8_owns 1 = .ok (.getfield 16, 3) := by decide +kernel
theorem dX8_owns_4 : decode cX8_owns 4 = .ok (.iload_n 2, 1) := by decide +kernel
theorem dX8_owns_5 : decode cX8_owns 5 = .ok (.iaload, 1) := by decide +kernel
theorem dX8_owns_6 : decode cX8_owns 6 = .ok (.istore 5, 2) := by decide +kernel
theorem dX8_owns_8 : decode cX8_owns 8 = .ok (.iconst 0, 1) := by decide +kernel
theorem dX8_owns_9 : decode cX8_owns 9 = .ok (.istore 6, 2) := by decide +kernel
theorem dX8_owns_11 : decode cX8_owns 11 = .ok (.iconst 0, 1) := by decide +kernel
theorem dX8_owns_12 : decode cX8_owns 12 = .ok (.istore 7, 2) := by decide +kernel
theorem dX8_owns_14 : decode cX8_owns 14 = .ok (.iload 7, 2) := by decide +kernel
theorem dX8_owns_16 : decode cX8_owns 16 = .ok (.bipush 30, 2) := by decide +kernel
theorem dX8_owns_18 : decode cX8_owns 18 = .ok (.if_icmp .ge 58, 3) := by decide +kernel
theorem dX8_owns_21 : decode cX8_owns 21 = .ok (.iload 5, 2) := by decide +kernel
theorem dX8_owns_23 : decode cX8_owns 23 = .ok (.iload 7, 2) := by decide +kernel
theorem dX8_owns_25 : decode cX8_owns 25 = .ok (.invokestatic 118, 3) := by decide +kernel
theorem dX8_owns_28 : decode cX8_owns 28 = .ok (.iload 4, 2) := by decide +kernel
theorem dX8_owns_30 : decode cX8_owns 30 = .ok (.if_icmp .eq 6, 3) := by decide +kernel
theorem dX8_owns_33 : decode cX8_owns 33 = .ok (.goto 37, 3) := by decide +kernel
theorem dX8_owns_36 : decode cX8_owns 36 = .ok (.aload_n 0, 1) := by decide +kernel
theorem dX8_owns_37 : decode cX8_owns 37 = .ok (.getfield 16, 3) := by decide +kernel
theorem dX8_owns_40 : decode cX8_owns 40 = .ok (.iload_n 2, 1) := by decide +kernel
theorem dX8_owns_41 : decode cX8_owns 41 = .ok (.iload 5, 2) := by decide +kernel
theorem dX8_owns_43 : decode cX8_owns 43 = .ok (.iconst 1, 1) := by decide +kernel
theorem dX8_owns_44 : decode cX8_owns 44 = .ok (.iload 7, 2) := by decide +kernel
theorem dX8_owns_46 : decode cX8_owns 46 = .ok (.ishl, 1) := by decide +kernel
theorem dX8_owns_47 : decode cX8_owns 47 = .ok (.ixor, 1) := by decide +kernel
theorem dX8_owns_48 : decode cX8_owns 48 = .ok (.iastore, 1) := by decide +kernel
theorem dX8_owns_49 : decode cX8_owns 49 = .ok (.aload_n 0, 1) := by decide +kernel
theorem dX8_owns_50 : decode cX8_owns 50 = .ok (.iload_n 1, 1) := by decide +kernel
theorem dX8_owns_51 : decode cX8_owns 51 = .ok (.iload_n 2, 1) := by decide +kernel
theorem dX8_owns_52 : decode cX8_owns 52 = .ok (.iload_n 3, 1) := by decide +kernel
theorem dX8_owns_53 : decode cX8_owns 53 = .ok (.invokevirtual 283, 3) := by decide +kernel
theorem dX8_owns_56 : decode cX8_owns 56 = .ok (.iload 4, 2) := by decide +kernel
theorem dX8_owns_58 : decode cX8_owns 58 = .ok (.if_icmp .eq 12, 3) := by decide +kernel
theorem dX8_owns_61 : decode cX8_owns 61 = .ok (.iload 6, 2) := by decide +kernel
theorem dX8_owns_63 : decode cX8_owns 63 = .ok (.iconst 1, 1) := by decide +kernel
theorem dX8_owns_64 : decode cX8_owns 64 = .ok (.iload 7, 2) := by decide +kernel
theorem dX8_owns_66 : decode cX8_owns 66 = .ok (.ishl, 1) := by decide +kernel
theorem dX8_owns_67 : decode cX8_owns 67 = .ok (.ior, 1) := by decide +kernel
theorem dX8_owns_68 : decode cX8_owns 68 = .ok (.istore 6, 2) := by decide +kernel
theorem dX8_owns_70 : decode cX8_owns 70 = .ok (.iinc 7 1, 3) := by decide +kernel
theorem dX8_owns_73 : decode cX8_owns 73 = .ok (.goto (-59), 3) := by decide +kernel
theorem dX8_owns_76 : decode cX8_owns 76 = .ok (.aload_n 0, 1) := by decide +kernel
theorem dX8_owns_77 : decode cX8_owns 77 = .ok (.getfield 16, 3) := by decide +kernel
theorem dX8_owns_80 : decode cX8_owns 80 = .ok (.iload_n 2, 1) := by decide +kernel
theorem dX8_owns_81 : decode cX8_owns 81 = .ok (.iload 5, 2) := by decide +kernel
theorem dX8_owns_83 : decode cX8_owns 83 = .ok (.iastore, 1) := by decide +kernel
theorem dX8_owns_84 : decode cX8_owns 84 = .ok (.iload 6, 2) := by decide +kernel
theorem dX8_owns_86 : decode cX8_owns 86 = .ok (.ireturn, 1) := by decide +kernel
theorem dX8_film_0 : decode cX8_film 0 = .ok (.iload_n 1, 1) := by decide +kernel
theorem dX8_film_1 : decode cX8_film 1 = .ok (.invokestatic 267, 3) := by decide +kernel
theorem dX8_film_4 : decode cX8_film 4 = .ok (.ifCond .eq 40, 3) := by decide +kernel
theorem dX8_film_7 : decode cX8_film 7 = .ok (.iload_n 2, 1) := by decide +kernel
theorem dX8_film_8 : decode cX8_film 8 = .ok (.ifCond .lt 36, 3) := by decide +kernel
theorem dX8_film_11 : decode cX8_film 11 = .ok (.aload_n 0, 1) := by decide +kernel
theorem dX8_film_12 : decode cX8_film 12 = .ok (.iload_n 2, 1) := by decide +kernel
theorem dX8_film_13 : decode cX8_film 13 = .ok (.bipush 10, 2) := by decide +kernel
theorem dX8_film_15 : decode cX8_film 15 = .ok (.idiv, 1) := by decide +kernel
theorem dX8_film_16 : decode cX8_film 16 = .ok (.iload_n 2, 1) := by decide +kernel
theorem dX8_film_17 : decode cX8_film 17 = .ok (.bipush 10, 2) := by decide +kernel
theorem dX8_film_19 : decode cX8_film 19 = .ok (.irem, 1) := by decide +kernel
theorem dX8_film_20 : decode cX8_film 20 = .ok (.invokevirtual 112, 3) := by decide +kernel
theorem dX8_film_23 : decode cX8_film 23 = .ok (.ifCond .eq 21, 3) := by decide +kernel
theorem dX8_film_26 : decode cX8_film 26 = .ok (.iload_n 3, 1) := by decide +kernel
theorem dX8_film_27 : decode cX8_film 27 = .ok (.invokestatic 233, 3) := by decide +kernel
theorem dX8_film_30 : decode cX8_film 30 = .ok (.ifCond .eq 14, 3) := by decide +kernel
theorem dX8_film_33 : decode cX8_film 33 = .ok (.iload 4, 2) := by decide +kernel
theorem dX8_film_35 : decode cX8_film 35 = .ok (.iconst 0, 1) := by decide +kernel
theorem dX8_film_36 : decode cX8_film 36 = .ok (.bipush 20, 2) := by decide +kernel
theorem dX8_film_38 : decode cX8_film 38 = .ok (.invokestatic 85, 3) := by decide +kernel
theorem dX8_film_41 : decode cX8_film 41 = .ok (.ifCond .ne 6, 3) := by decide +kernel
theorem dX8_film_44 : decode cX8_film 44 = .ok (.bipush (-2), 2) := by decide +kernel
theorem dX8_film_46 : decode cX8_film 46 = .ok (.ireturn, 1) := by decide +kernel
theorem dX8_film_47 : decode cX8_film 47 = .ok (.iload 4, 2) := by decide +kernel
theorem dX8_film_49 : decode cX8_film 49 = .ok (.bipush 100, 2) := by decide +kernel
theorem dX8_film_51 : decode cX8_film 51 = .ok (.iload_n 3, 1) := by decide +kernel
theorem dX8_film_52 : decode cX8_film 52 = .ok (.isub, 1) := by decide +kernel
theorem dX8_film_53 : decode cX8_film 53 = .ok (.if_icmp .ge 8, 3) := by decide +kernel
theorem dX8_film_56 : decode cX8_film 56 = .ok (.iload 4, 2) := by decide +kernel
theorem dX8_film_58 : decode cX8_film 58 = .ok (.goto 7, 3) := by decide +kernel
theorem dX8_film_61 : decode cX8_film 61 = .ok (.bipush 100, 2) := by decide +kernel
theorem dX8_film_63 : decode cX8_film 63 = .ok (.iload_n 3, 1) := by decide +kernel
theorem dX8_film_64 : decode cX8_film 64 = .ok (.isub, 1) := by decide +kernel
theorem dX8_film_65 : decode cX8_film 65 = .ok (.istore 5, 2) := by decide +kernel
theorem dX8_film_67 : decode cX8_film 67 = .ok (.aload_n 0, 1) := by decide +kernel
theorem dX8_film_68 : decode cX8_film 68 = .ok (.iload_n 2, 1) := by decide +kernel
theorem dX8_film_69 : decode cX8_film 69 = .ok (.bipush 10, 2) := by decide +kernel
theorem dX8_film_71 : decode cX8_film 71 = .ok (.idiv, 1) := by decide +kernel
theorem dX8_film_72 : decode cX8_film 72 = .ok (.iload_n 2, 1) := by decide +kernel
theorem dX8_film_73 : decode cX8_film 73 = .ok (.bipush 10, 2) := by decide +kernel
theorem dX8_film_75 : decode cX8_film 75 = .ok (.irem, 1) := by decide +kernel
theorem dX8_film_76 : decode cX8_film 76 = .ok (.invokevirtual 245, 3) := by decide +kernel
theorem dX8_film_79 : decode cX8_film 79 = .ok (.aload_n 0, 1) := by decide +kernel
theorem dX8_film_80 : decode cX8_film 80 = .ok (.iload_n 1, 1) := by decide +kernel
theorem dX8_film_81 : decode cX8_film 81 = .ok (.iconst 1, 1) := by decide +kernel
theorem dX8_film_82 : decode cX8_film 82 = .ok (.iconst 2, 1) := by decide +kernel
theorem dX8_film_83 : decode cX8_film 83 = .ok (.iload 5, 2) := by decide +kernel
theorem dX8_film_85 : decode cX8_film 85 = .ok (.imul, 1) := by decide +kernel
theorem dX8_film_86 : decode cX8_film 86 = .ok (.invokevirtual 286, 3) := by decide +kernel
theorem dX8_film_89 : decode cX8_film 89 = .ok (.pop, 1) := by decide +kernel
theorem dX8_film_90 : decode cX8_film 90 = .ok (.iconst 0, 1) := by decide +kernel
theorem dX8_film_91 : decode cX8_film 91 = .ok (.istore 6, 2) := by decide +kernel
theorem dX8_film_93 : decode cX8_film 93 = .ok (.iload 6, 2) := by decide +kernel
theorem dX8_film_95 : decode cX8_film 95 = .ok (.iload 5, 2) := by decide +kernel
theorem dX8_film_97 : decode cX8_film 97 = .ok (.if_icmp .ge 53, 3) := by decide +kernel
theorem dX8_film_100 : decode cX8_film 100 = .ok (.aload_n 0, 1) := by decide +kernel
theorem dX8_film_101 : decode cX8_film 101 = .ok (.getfield 68, 3) := by decide +kernel
theorem dX8_film_104 : decode cX8_film 104 = .ok (.bipush 40, 2) := by decide +kernel
theorem dX8_film_106 : decode cX8_film 106 = .ok (.iload_n 1, 1) := by decide +kernel
theorem dX8_film_107 : decode cX8_film 107 = .ok (.imul, 1) := by decide +kernel
theorem dX8_film_108 : decode cX8_film 108 = .ok (.iconst 2, 1) := by decide +kernel
theorem dX8_film_109 : decode cX8_film 109 = .ok (.iload 6, 2) := by decide +kernel
theorem dX8_film_111 : decode cX8_film 111 = .ok (.imul, 1) := by decide +kernel
theorem dX8_film_112 : decode cX8_film 112 = .ok (.iadd, 1) := by decide +kernel
theorem dX8_film_113 : decode cX8_film 113 = .ok (.iload_n 3, 1) := by decide +kernel
theorem dX8_film_114 : decode cX8_film 114 = .ok (.iload 6, 2) := by decide +kernel
theorem dX8_film_116 : decode cX8_film 116 = .ok (.iadd, 1) := by decide +kernel
theorem dX8_film_117 : decode cX8_film 117 = .ok (.iastore, 1) := by decide +kernel
theorem dX8_film_118 : decode cX8_film 118 = .ok (.aload_n 0, 1) := by decide +kernel
theorem dX8_film_119 : decode cX8_film 119 = .ok (.getfield 68, 3) := by decide +kernel
theorem dX8_film_122 : decode cX8_film 122 = .ok (.bipush 40, 2) := by decide +kernel
theorem dX8_film_124 : decode cX8_film 124 = .ok (.iload_n 1, 1) := by decide +kernel
theorem dX8_film_125 : decode cX8_film 125 = .ok (.imul, 1) := by decide +kernel
theorem dX8_film_126 : decode cX8_film 126 = .ok (.iconst 2, 1) := by decide +kernel
theorem dX8_film_127 : decode cX8_film 127 = .ok (.iload 6, 2) := by decide +kernel
theorem dX8_film_129 : decode cX8_film 129 = .ok (.imul, 1) := by decide +kernel
theorem dX8_film_130 : decode cX8_film 130 = .ok (.iadd, 1) := by decide +kernel
theorem dX8_film_131 : decode cX8_film 131 = .ok (.iconst 1, 1) := by decide +kernel
theorem dX8_film_132 : decode cX8_film 132 = .ok (.iadd, 1) := by decide +kernel
theorem dX8_film_133 : decode cX8_film 133 = .ok (.aload_n 0, 1) := by decide +kernel
theorem dX8_film_134 : decode cX8_film 134 = .ok (.getfield 40, 3) := by decide +kernel
theorem dX8_film_137 : decode cX8_film 137 = .ok (.iload_n 3, 1) := by decide +kernel
theorem dX8_film_138 : decode cX8_film 138 = .ok (.iload 6, 2) := by decide +kernel
theorem dX8_film_140 : decode cX8_film 140 = .ok (.iadd, 1) := by decide +kernel
theorem dX8_film_141 : decode cX8_film 141 = .ok (.iaload, 1) := by decide +kernel
theorem dX8_film_142 : decode cX8_film 142 = .ok (.i2s, 1) := by decide +kernel
theorem dX8_film_143 : decode cX8_film 143 = .ok (.iastore, 1) := by decide +kernel
theorem dX8_film_144 : decode cX8_film 144 = .ok (.iinc 6 1, 3) := by decide +kernel
theorem dX8_film_147 : decode cX8_film 147 = .ok (.goto (-54), 3) := by decide +kernel
theorem dX8_film_150 : decode cX8_film 150 = .ok (.iload 5, 2) := by decide +kernel
theorem dX8_film_152 : decode cX8_film 152 = .ok (.ireturn, 1) := by decide +kernel
theorem dX8_draw_0 : decode cX8_draw 0 = .ok (.iload_n 1, 1) := by decide +kernel
theorem dX8_draw_1 : decode cX8_draw 1 = .ok (.istore_n 2, 1) := by decide +kernel
theorem dX8_draw_2 : decode cX8_draw 2 = .ok (.aload_n 0, 1) := by decide +kernel
theorem dX8_draw_3 : decode cX8_draw 3 = .ok (.invokevirtual 289, 3) := by decide +kernel
theorem dX8_draw_6 : decode cX8_draw 6 = .ok (.iconst 0, 1) := by decide +kernel
theorem dX8_draw_7 : decode cX8_draw 7 = .ok (.istore_n 3, 1) := by decide +kernel
theorem dX8_draw_8 : decode cX8_draw 8 = .ok (.iload_n 3, 1) := by decide +kernel
theorem dX8_draw_9 : decode cX8_draw 9 = .ok (.aload_n 0, 1) := by decide +kernel
theorem dX8_draw_10 : decode cX8_draw 10 = .ok (.getfield 82, 3) := by decide +kernel
theorem dX8_draw_13 : decode cX8_draw 13 = .ok (.if_icmp .ge 59, 3) := by decide +kernel
theorem dX8_draw_16 : decode cX8_draw 16 = .ok (.iload_n 2, 1) := by decide +kernel
theorem dX8_draw_17 : decode cX8_draw 17 = .ok (.ldc_w 292, 3) := by decide +kernel
theorem dX8_draw_20 : decode cX8_draw 20 = .ok (.imul, 1) := by decide +kernel
theorem dX8_draw_21 : decode cX8_draw 21 = .ok (.sipush 12345, 3) := by decide +kernel
theorem dX8_draw_24 : decode cX8_draw 24 = .ok (.iadd, 1) := by decide +kernel
theorem dX8_draw_25 : decode cX8_draw 25 = .ok (.istore 4, 2) := by decide +kernel
theorem dX8_draw_27 : decode cX8_draw 27 = .ok (.iload 4, 2) := by decide +kernel
theorem dX8_draw_29 : decode cX8_draw 29 = .ok (.ldc_w 292, 3) := by decide +kernel
theorem dX8_draw_32 : decode cX8_draw 32 = .ok (.imul, 1) := by decide +kernel
theorem dX8_draw_33 : decode cX8_draw 33 = .ok (.sipush 12345, 3) := by decide +kernel
theorem dX8_draw_36 : decode cX8_draw 36 = .ok (.iadd, 1) := by decide +kernel
theorem dX8_draw_37 : decode cX8_draw 37 = .ok (.istore_n 2, 1) := by decide +kernel
theorem dX8_draw_38 : decode cX8_draw 38 = .ok (.aload_n 0, 1) := by decide +kernel
theorem dX8_draw_39 : decode cX8_draw 39 = .ok (.getfield 16, 3) := by decide +kernel
theorem dX8_draw_42 : decode cX8_draw 42 = .ok (.iload_n 3, 1) := by decide +kernel
theorem dX8_draw_43 : decode cX8_draw 43 = .ok (.iload_n 2, 1) := by decide +kernel
theorem dX8_draw_44 : decode cX8_draw 44 = .ok (.bipush 9, 2) := by decide +kernel
theorem dX8_draw_46 : decode cX8_draw 46 = .ok (.iushr, 1) := by decide +kernel
theorem dX8_draw_47 : decode cX8_draw 47 = .ok (.sipush 1024, 3) := by decide +kernel
theorem dX8_draw_50 : decode cX8_draw 50 = .ok (.irem, 1) := by decide +kernel
theorem dX8_draw_51 : decode cX8_draw 51 = .ok (.sipush 1024, 3) := by decide +kernel
theorem dX8_draw_54 : decode cX8_draw 54 = .ok (.imul, 1) := by decide +kernel
theorem dX8_draw_55 : decode cX8_draw 55 = .ok (.iload 4, 2) := by decide +kernel
theorem dX8_draw_57 : decode cX8_draw 57 = .ok (.bipush 9, 2) := by decide +kernel
theorem dX8_draw_59 : decode cX8_draw 59 = .ok (.iushr, 1) := by decide +kernel
theorem dX8_draw_60 : decode cX8_draw 60 = .ok (.sipush 1024, 3) := by decide +kernel
theorem dX8_draw_63 : decode cX8_draw 63 = .ok (.irem, 1) := by decide +kernel
theorem dX8_draw_64 : decode cX8_draw 64 = .ok (.iadd, 1) := by decide +kernel
theorem dX8_draw_65 : decode cX8_draw 65 = .ok (.iastore, 1) := by decide +kernel
theorem dX8_draw_66 : decode cX8_draw 66 = .ok (.iinc 3 1, 3) := by decide +kernel
theorem dX8_draw_69 : decode cX8_draw 69 = .ok (.goto (-61), 3) := by decide +kernel
theorem dX8_draw_72 : decode cX8_draw 72 = .ok (.bipush 99, 2) := by decide +kernel
theorem dX8_draw_74 : decode cX8_draw 74 = .ok (.aload_n 0, 1) := by decide +kernel
theorem dX8_draw_75 : decode cX8_draw 75 = .ok (.iconst 0, 1) := by decide +kernel
theorem dX8_draw_76 : decode cX8_draw 76 = .ok (.iconst 1, 1) := by decide +kernel
theorem dX8_draw_77 : decode cX8_draw 77 = .ok (.invokevirtual 261, 3) := by decide +kernel
theorem dX8_draw_80 : decode cX8_draw 80 = .ok (.isub, 1) := by decide +kernel
theorem dX8_draw_81 : decode cX8_draw 81 = .ok (.istore_n 3, 1) := by decide +kernel
theorem dX8_draw_82 : decode cX8_draw 82 = .ok (.iconst 0, 1) := by decide +kernel
theorem dX8_draw_83 : decode cX8_draw 83 = .ok (.istore 4, 2) := by decide +kernel
theorem dX8_draw_85 : decode cX8_draw 85 = .ok (.iload 4, 2) := by decide +kernel
theorem dX8_draw_87 : decode cX8_draw 87 = .ok (.aload_n 0, 1) := by decide +kernel
theorem dX8_draw_88 : decode cX8_draw 88 = .ok (.getfield 82, 3) := by decide +kernel
theorem dX8_draw_91 : decode cX8_draw 91 = .ok (.if_icmp .ge 23, 3) := by decide +kernel
theorem dX8_draw_94 : decode cX8_draw 94 = .ok (.aload_n 0, 1) := by decide +kernel
theorem dX8_draw_95 : decode cX8_draw 95 = .ok (.getfield 16, 3) := by decide +kernel
theorem dX8_draw_98 : decode cX8_draw 98 = .ok (.iload 4, 2) := by decide +kernel
theorem dX8_draw_100 : decode cX8_draw 100 = .ok (.aload_n 0, 1) := by decide +kernel
theorem dX8_draw_101 : decode cX8_draw 101 = .ok (.getfield 71, 3) := by decide +kernel
theorem dX8_draw_104 : decode cX8_draw 104 = .ok (.iload 4, 2) := by decide +kernel
theorem dX8_draw_106 : decode cX8_draw 106 = .ok (.iaload, 1) := by decide +kernel
theorem dX8_draw_107 : decode cX8_draw 107 = .ok (.iastore, 1) := by decide +kernel
theorem dX8_draw_108 : decode cX8_draw 108 = .ok (.iinc 4 1, 3) := by decide +kernel
theorem dX8_draw_111 : decode cX8_draw 111 = .ok (.goto (-26), 3) := by decide +kernel
theorem dX8_draw_114 : decode cX8_draw 114 = .ok (.iload_n 3, 1) := by decide +kernel
theorem dX8_draw_115 : decode cX8_draw 115 = .ok (.ireturn, 1) := by decide +kernel
theorem dX8_keep_0 : decode cX8_keep 0 = .ok (.iconst 0, 1) := by decide +kernel
theorem dX8_keep_1 : decode cX8_keep 1 = .ok (.istore_n 1, 1) := by decide +kernel
theorem dX8_keep_2 : decode cX8_keep 2 = .ok (.iload_n 1, 1) := by decide +kernel
theorem dX8_keep_3 : decode cX8_keep 3 = .ok (.bipush 6, 2) := by decide +kernel
theorem dX8_keep_5 : decode cX8_keep 5 = .ok (.if_icmp .ge 21, 3) := by decide +kernel
theorem dX8_keep_8 : decode cX8_keep 8 = .ok (.aload_n 0, 1) := by decide +kernel
theorem dX8_keep_9 : decode cX8_keep 9 = .ok (.getfield 71, 3) := by decide +kernel
theorem dX8_keep_12 : decode cX8_keep 12 = .ok (.iload_n 1, 1) := by decide +kernel
theorem dX8_keep_13 : decode cX8_keep 13 = .ok (.aload_n 0, 1) := by decide +kernel
theorem dX8_keep_14 : decode cX8_keep 14 = .ok (.getfield 16, 3) := by decide +kernel
theorem dX8_keep_17 : decode cX8_keep 17 = .ok (.iload_n 1, 1) := by decide +kernel
theorem dX8_keep_18 : decode cX8_keep 18 = .ok (.iaload, 1) := by decide +kernel
theorem dX8_keep_19 : decode cX8_keep 19 = .ok (.iastore, 1) := by decide +kernel
theorem dX8_keep_20 : decode cX8_keep 20 = .ok (.iinc 1 1, 3) := by decide +kernel
theorem dX8_keep_23 : decode cX8_keep 23 = .ok (.goto (-21), 3) := by decide +kernel
theorem dX8_keep_26 : decode cX8_keep 26 = .ok (.return_, 1) := by decide +kernel
theorem dX8_drawn_0 : decode cX8_drawn 0 = .ok (.aload_n 0, 1) := by decide +kernel
theorem dX8_drawn_1 : decode cX8_drawn 1 = .ok (.getfield 82, 3) := by decide +kernel
theorem dX8_drawn_4 : decode cX8_drawn 4 = .ok (.iconst 2, 1) := by decide +kernel
theorem dX8_drawn_5 : decode cX8_drawn 5 = .ok (.if_icmp .ge 8, 3) := by decide +kernel
theorem dX8_drawn_8 : decode cX8_drawn 8 = .ok (.bipush (-3), 2) := by decide +kernel
theorem dX8_drawn_10 : decode cX8_drawn 10 = .ok (.goto 8, 3) := by decide +kernel
theorem dX8_drawn_13 : decode cX8_drawn 13 = .ok (.aload_n 0, 1) := by decide +kernel
theorem dX8_drawn_14 : decode cX8_drawn 14 = .ok (.iload_n 1, 1) := by decide +kernel
theorem dX8_drawn_15 : decode cX8_drawn 15 = .ok (.invokevirtual 293, 3) := by decide +kernel
theorem dX8_drawn_18 : decode cX8_drawn 18 = .ok (.ireturn, 1) := by decide +kernel
theorem dX8_chance_0 : decode cX8_chance 0 = .ok (.iload_n 2, 1) := by decide +kernel
theorem dX8_chance_1 : decode cX8_chance 1 = .ok (.iconst 1, 1) := by decide +kernel
theorem dX8_chance_2 : decode cX8_chance 2 = .ok (.bipush 20, 2) := by decide +kernel
theorem dX8_chance_4 : decode cX8_chance 4 = .ok (.invokestatic 85, 3) := by decide +kernel
theorem dX8_chance_7 : decode cX8_chance 7 = .ok (.ifCond .eq 20, 3) := by decide +kernel
theorem dX8_chance_10 : decode cX8_chance 10 = .ok (.iload_n 3, 1) := by decide +kernel
theorem dX8_chance_11 : decode cX8_chance 11 = .ok (.iconst 0, 1) := by decide +kernel
theorem dX8_chance_12 : decode cX8_chance 12 = .ok (.iconst 1, 1) := by decide +kernel
theorem dX8_chance_13 : decode cX8_chance 13 = .ok (.invokestatic 85, 3) := by decide +kernel
theorem dX8_chance_16 : decode cX8_chance 16 = .ok (.ifCond .eq 11, 3) := by decide +kernel
theorem dX8_chance_19 : decode cX8_chance 19 = .ok (.aload_n 0, 1) := by decide +kernel
theorem dX8_chance_20 : decode cX8_chance 20 = .ok (.getfield 82, 3) := by decide +kernel
theorem dX8_chance_23 : decode cX8_chance 23 = .ok (.iconst 2, 1) := by decide +kernel
theorem dX8_chance_24 : decode cX8_chance 24 = .ok (.if_icmp .ge 7, 3) := by decide +kernel
theorem dX8_chance_27 : decode cX8_chance 27 = .ok (.ldc2_w 296, 3) := by decide +kernel
theorem dX8_chance_30 : decode cX8_chance 30 = .ok (.lreturn, 1) := by decide +kernel
theorem dX8_chance_31 : decode cX8_chance 31 = .ok (.bipush 99, 2) := by decide +kernel
theorem dX8_chance_33 : decode cX8_chance 33 = .ok (.aload_n 0, 1) := by decide +kernel
theorem dX8_chance_34 : decode cX8_chance 34 = .ok (.iconst 0, 1) := by decide +kernel
theorem dX8_chance_35 : decode cX8_chance 35 = .ok (.iconst 1, 1) := by decide +kernel
theorem dX8_chance_36 : decode cX8_chance 36 = .ok (.invokevirtual 261, 3) := by decide +kernel
theorem dX8_chance_39 : decode cX8_chance 39 = .ok (.isub, 1) := by decide +kernel
theorem dX8_chance_40 : decode cX8_chance 40 = .ok (.istore 4, 2) := by decide +kernel
theorem dX8_chance_42 : decode cX8_chance 42 = .ok (.iconst 0, 1) := by decide +kernel
theorem dX8_chance_43 : decode cX8_chance 43 = .ok (.istore 5, 2) := by decide +kernel
theorem dX8_chance_45 : decode cX8_chance 45 = .ok (.iconst 0, 1) := by decide +kernel
theorem dX8_chance_46 : decode cX8_chance 46 = .ok (.istore 6, 2) := by decide +kernel
theorem dX8_chance_48 : decode cX8_chance 48 = .ok (.iload 6, 2) := by decide +kernel
theorem dX8_chance_50 : decode cX8_chance 50 = .ok (.iload_n 2, 1) := by decide +kernel
theorem dX8_chance_51 : decode cX8_chance 51 = .ok (.if_icmp .ge 25, 3) := by decide +kernel
theorem dX8_chance_54 : decode cX8_chance 54 = .ok (.aload_n 0, 1) := by decide +kernel
theorem dX8_chance_55 : decode cX8_chance 55 = .ok (.iload_n 1, 1) := by decide +kernel
theorem dX8_chance_56 : decode cX8_chance 56 = .ok (.iload 6, 2) := by decide +kernel
theorem dX8_chance_58 : decode cX8_chance 58 = .ok (.iadd, 1) := by decide +kernel
theorem dX8_chance_59 : decode cX8_chance 59 = .ok (.invokevirtual 293, 3) := by decide +kernel
theorem dX8_chance_62 : decode cX8_chance 62 = .ok (.iload 4, 2) := by decide +kernel
theorem dX8_chance_64 : decode cX8_chance 64 = .ok (.if_icmp .le 6, 3) := by decide +kernel
theorem dX8_chance_67 : decode cX8_chance 67 = .ok (.iinc 5 1, 3) := by decide +kernel
theorem dX8_chance_70 : decode cX8_chance 70 = .ok (.iinc 6 1, 3) := by decide +kernel
theorem dX8_chance_73 : decode cX8_chance 73 = .ok (.goto (-25), 3) := by decide +kernel
theorem dX8_chance_76 : decode cX8_chance 76 = .ok (.iload 5, 2) := by decide +kernel
theorem dX8_chance_78 : decode cX8_chance 78 = .ok (.istore 6, 2) := by decide +kernel
theorem dX8_chance_80 : decode cX8_chance 80 = .ok (.iload_n 2, 1) := by decide +kernel
theorem dX8_chance_81 : decode cX8_chance 81 = .ok (.istore 7, 2) := by decide +kernel
theorem dX8_chance_83 : decode cX8_chance 83 = .ok (.iload 7, 2) := by decide +kernel
theorem dX8_chance_85 : decode cX8_chance 85 = .ok (.ifCond .eq 21, 3) := by decide +kernel
theorem dX8_chance_88 : decode cX8_chance 88 = .ok (.iload 6, 2) := by decide +kernel
theorem dX8_chance_90 : decode cX8_chance 90 = .ok (.iload 7, 2) := by decide +kernel
theorem dX8_chance_92 : decode cX8_chance 92 = .ok (.irem, 1) := by decide +kernel
theorem dX8_chance_93 : decode cX8_chance 93 = .ok (.istore 8, 2) := by decide +kernel
theorem dX8_chance_95 : decode cX8_chance 95 = .ok (.iload 7, 2) := by decide +kernel
theorem dX8_chance_97 : decode cX8_chance 97 = .ok (.istore 6, 2) := by decide +kernel
theorem dX8_chance_99 : decode cX8_chance 99 = .ok (.iload 8, 2) := by decide +kernel
theorem dX8_chance_101 : decode cX8_chance 101 = .ok (.istore 7, 2) := by decide +kernel
theorem dX8_chance_103 : decode cX8_chance 103 = .ok (.goto (-20), 3) := by decide +kernel
theorem dX8_chance_106 : decode cX8_chance 106 = .ok (.iload_n 3, 1) := by decide +kernel
theorem dX8_chance_107 : decode cX8_chance 107 = .ok (.ifCond .ne 12, 3) := by decide +kernel
theorem dX8_chance_110 : decode cX8_chance 110 = .ok (.iload 5, 2) := by decide +kernel
theorem dX8_chance_112 : decode cX8_chance 112 = .ok (.iload 6, 2) := by decide +kernel
theorem dX8_chance_114 : decode cX8_chance 114 = .ok (.idiv, 1) := by decide +kernel
theorem dX8_chance_115 : decode cX8_chance 115 = .ok (.i2l, 1) := by decide +kernel
theorem dX8_chance_116 : decode cX8_chance 116 = .ok (.goto 8, 3) := by decide +kernel
theorem dX8_chance_119 : decode cX8_chance 119 = .ok (.iload_n 2, 1) := by decide +kernel
theorem dX8_chance_120 : decode cX8_chance 120 = .ok (.iload 6, 2) := by decide +kernel
theorem dX8_chance_122 : decode cX8_chance 122 = .ok (.idiv, 1) := by decide +kernel
theorem dX8_chance_123 : decode cX8_chance 123 = .ok (.i2l, 1) := by decide +kernel
theorem dX8_chance_124 : decode cX8_chance 124 = .ok (.lreturn, 1) := by decide +kernel
theorem dX8_image_0 : decode cX8_image 0 = .ok (.aload_n 0, 1) := by decide +kernel
theorem dX8_image_1 : decode cX8_image 1 = .ok (.iconst 1, 1) := by decide +kernel
theorem dX8_image_2 : decode cX8_image 2 = .ok (.putfield 298, 3) := by decide +kernel
theorem dX8_image_5 : decode cX8_image 5 = .ok (.aload_n 0, 1) := by decide +kernel
theorem dX8_image_6 : decode cX8_image 6 = .ok (.aload_n 0, 1) := by decide +kernel
theorem dX8_image_7 : decode cX8_image 7 = .ok (.getfield 82, 3) := by decide +kernel
theorem dX8_image_10 : decode cX8_image 10 = .ok (.putfield 301, 3) := by decide +kernel
theorem dX8_image_13 : decode cX8_image 13 = .ok (.iconst 0, 1) := by decide +kernel
theorem dX8_image_14 : decode cX8_image 14 = .ok (.istore_n 1, 1) := by decide +kernel
theorem dX8_image_15 : decode cX8_image 15 = .ok (.iload_n 1, 1) := by decide +kernel
theorem dX8_image_16 : decode cX8_image 16 = .ok (.bipush 6, 2) := by decide +kernel
theorem dX8_image_18 : decode cX8_image 18 = .ok (.if_icmp .ge 36, 3) := by decide +kernel
theorem dX8_image_21 : decode cX8_image 21 = .ok (.aload_n 0, 1) := by decide +kernel
theorem dX8_image_22 : decode cX8_image 22 = .ok (.getfield 59, 3) := by decide +kernel
theorem dX8_image_25 : decode cX8_image 25 = .ok (.iload_n 1, 1) := by decide +kernel
theorem dX8_image_26 : decode cX8_image 26 = .ok (.aload_n 0, 1) := by decide +kernel
theorem dX8_image_27 : decode cX8_image 27 = .ok (.getfield 13, 3) := by decide +kernel
theorem dX8_image_30 : decode cX8_image 30 = .ok (.iload_n 1, 1) := by decide +kernel
theorem dX8_image_31 : decode cX8_image 31 = .ok (.iaload, 1) := by decide +kernel
theorem dX8_image_32 : decode cX8_image 32 = .ok (.iastore, 1) := by decide +kernel
theorem dX8_image_33 : decode cX8_image 33 = .ok (.aload_n 0, 1) := by decide +kernel
theorem dX8_image_34 : decode cX8_image 34 = .ok (.getfield 59, 3) := by decide +kernel
theorem dX8_image_37 : decode cX8_image 37 = .ok (.bipush 6, 2) := by decide +kernel
theorem dX8_image_39 : decode cX8_image 39 = .ok (.iload_n 1, 1) := by decide +kernel
theorem dX8_image_40 : decode cX8_image 40 = .ok (.iadd, 1) := by decide +kernel
theorem dX8_image_41 : decode cX8_image 41 = .ok (.aload_n 0, 1) := by decide +kernel
theorem dX8_image_42 : decode cX8_image 42 = .ok (.getfield 16, 3) := by decide +kernel
theorem dX8_image_45 : decode cX8_image 45 = .ok (.iload_n 1, 1) := by decide +kernel
theorem dX8_image_46 : decode cX8_image 46 = .ok (.iaload, 1) := by decide +kernel
theorem dX8_image_47 : decode cX8_image 47 = .ok (.iastore, 1) := by decide +kernel
theorem dX8_image_48 : decode cX8_image 48 = .ok (.iinc 1 1, 3) := by decide +kernel
theorem dX8_image_51 : decode cX8_image 51 = .ok (.goto (-36), 3) := by decide +kernel
theorem dX8_image_54 : decode cX8_image 54 = .ok (.aload_n 0, 1) := by decide +kernel
theorem dX8_image_55 : decode cX8_image 55 = .ok (.getfield 59, 3) := by decide +kernel
theorem dX8_image_58 : decode cX8_image 58 = .ok (.bipush 12, 2) := by decide +kernel
theorem dX8_image_60 : decode cX8_image 60 = .ok (.aload_n 0, 1) := by decide +kernel
theorem dX8_image_61 : decode cX8_image 61 = .ok (.getfield 94, 3) := by decide +kernel
theorem dX8_image_64 : decode cX8_image 64 = .ok (.iastore, 1) := by decide +kernel
theorem dX8_image_65 : decode cX8_image 65 = .ok (.aload_n 0, 1) := by decide +kernel
theorem dX8_image_66 : decode cX8_image 66 = .ok (.getfield 59, 3) := by decide +kernel
theorem dX8_image_69 : decode cX8_image 69 = .ok (.bipush 13, 2) := by decide +kernel
theorem dX8_image_71 : decode cX8_image 71 = .ok (.aload_n 0, 1) := by decide +kernel
theorem dX8_image_72 : decode cX8_image 72 = .ok (.getfield 209, 3) := by decide +kernel
theorem dX8_image_75 : decode cX8_image 75 = .ok (.iastore, 1) := by decide +kernel
theorem dX8_image_76 : decode cX8_image 76 = .ok (.aload_n 0, 1) := by decide +kernel
theorem dX8_image_77 : decode cX8_image 77 = .ok (.getfield 82, 3) := by decide +kernel
theorem dX8_image_80 : decode cX8_image 80 = .ok (.ireturn, 1) := by decide +kernel
theorem dX8_back_0 : decode cX8_back 0 = .ok (.aload_n 0, 1) := by decide +kernel
theorem dX8_back_1 : decode cX8_back 1 = .ok (.getfield 298, 3) := by decide +kernel
theorem dX8_back_4 : decode cX8_back 4 = .ok (.ifCond .ne 6, 3) := by decide +kernel
theorem dX8_back_7 : decode cX8_back 7 = .ok (.bipush (-3), 2) := by decide +kernel
theorem dX8_back_9 : decode cX8_back 9 = .ok (.ireturn, 1) := by decide +kernel
theorem dX8_back_10 : decode cX8_back 10 = .ok (.aload_n 0, 1) := by decide +kernel
theorem dX8_back_11 : decode cX8_back 11 = .ok (.aload_n 0, 1) := by decide +kernel
theorem dX8_back_12 : decode cX8_back 12 = .ok (.getfield 301, 3) := by decide +kernel
theorem dX8_back_15 : decode cX8_back 15 = .ok (.putfield 82, 3) := by decide +kernel
theorem dX8_back_18 : decode cX8_back 18 = .ok (.iconst 0, 1) := by decide +kernel
theorem dX8_back_19 : decode cX8_back 19 = .ok (.istore_n 1, 1) := by decide +kernel
theorem dX8_back_20 : decode cX8_back 20 = .ok (.iload_n 1, 1) := by decide +kernel
theorem dX8_back_21 : decode cX8_back 21 = .ok (.bipush 6, 2) := by decide +kernel
theorem dX8_back_23 : decode cX8_back 23 = .ok (.if_icmp .ge 36, 3) := by decide +kernel
theorem dX8_back_26 : decode cX8_back 26 = .ok (.aload_n 0, 1) := by decide +kernel
theorem dX8_back_27 : decode cX8_back 27 = .ok (.getfield 13, 3) := by decide +kernel
theorem dX8_back_30 : decode cX8_back 30 = .ok (.iload_n 1, 1) := by decide +kernel
theorem dX8_back_31 : decode cX8_back 31 = .ok (.aload_n 0, 1) := by decide +kernel
theorem dX8_back_32 : decode cX8_back 32 = .ok (.getfield 59, 3) := by decide +kernel
theorem dX8_back_35 : decode cX8_back 35 = .ok (.iload_n 1, 1) := by decide +kernel
theorem dX8_back_36 : decode cX8_back 36 = .ok (.iaload, 1) := by decide +kernel
theorem dX8_back_37 : decode cX8_back 37 = .ok (.iastore, 1) := by decide +kernel
theorem dX8_back_38 : decode cX8_back 38 = .ok (.aload_n 0, 1) := by decide +kernel
theorem dX8_back_39 : decode cX8_back 39 = .ok (.getfield 16, 3) := by decide +kernel
theorem dX8_back_42 : decode cX8_back 42 = .ok (.iload_n 1, 1) := by decide +kernel
theorem dX8_back_43 : decode cX8_back 43 = .ok (.aload_n 0, 1) := by decide +kernel
theorem dX8_back_44 : decode cX8_back 44 = .ok (.getfield 59, 3) := by decide +kernel
theorem dX8_back_47 : decode cX8_back 47 = .ok (.bipush 6, 2) := by decide +kernel
theorem dX8_back_49 : decode cX8_back 49 = .ok (.iload_n 1, 1) := by decide +kernel
theorem dX8_back_50 : decode cX8_back 50 = .ok (.iadd, 1) := by decide +kernel
theorem dX8_back_51 : decode cX8_back 51 = .ok (.iaload, 1) := by decide +kernel
theorem dX8_back_52 : decode cX8_back 52 = .ok (.iastore, 1) := by decide +kernel
theorem dX8_back_53 : decode cX8_back 53 = .ok (.iinc 1 1, 3) := by decide +kernel
theorem dX8_back_56 : decode cX8_back 56 = .ok (.goto (-36), 3) := by decide +kernel
theorem dX8_back_59 : decode cX8_back 59 = .ok (.aload_n 0, 1) := by decide +kernel
theorem dX8_back_60 : decode cX8_back 60 = .ok (.aload_n 0, 1) := by decide +kernel
theorem dX8_back_61 : decode cX8_back 61 = .ok (.getfield 59, 3) := by decide +kernel
theorem dX8_back_64 : decode cX8_back 64 = .ok (.bipush 12, 2) := by decide +kernel
theorem dX8_back_66 : decode cX8_back 66 = .ok (.iaload, 1) := by decide +kernel
theorem dX8_back_67 : decode cX8_back 67 = .ok (.putfield 94, 3) := by decide +kernel
theorem dX8_back_70 : decode cX8_back 70 = .ok (.aload_n 0, 1) := by decide +kernel
theorem dX8_back_71 : decode cX8_back 71 = .ok (.aload_n 0, 1) := by decide +kernel
theorem dX8_back_72 : decode cX8_back 72 = .ok (.getfield 59, 3) := by decide +kernel
theorem dX8_back_75 : decode cX8_back 75 = .ok (.bipush 13, 2) := by decide +kernel
theorem dX8_back_77 : decode cX8_back 77 = .ok (.iaload, 1) := by decide +kernel
theorem dX8_back_78 : decode cX8_back 78 = .ok (.putfield 209, 3) := by decide +kernel
theorem dX8_back_81 : decode cX8_back 81 = .ok (.aload_n 0, 1) := by decide +kernel
theorem dX8_back_82 : decode cX8_back 82 = .ok (.getfield 82, 3) := by decide +kernel
theorem dX8_back_85 : decode cX8_back 85 = .ok (.ireturn, 1) := by decide +kernel
theorem dX8_count_0 : decode cX8_count 0 = .ok (.iconst 0, 1) := by decide +kernel
theorem dX8_count_1 : decode cX8_count 1 = .ok (.istore_n 2, 1) := by decide +kernel
theorem dX8_count_2 : decode cX8_count 2 = .ok (.iload_n 1, 1) := by decide +kernel
theorem dX8_count_3 : decode cX8_count 3 = .ok (.tableswitch 83 0 4 #[33, 38, 43, 48, 53], 33) := by decide +kernel
theorem dX8_count_36 : decode cX8_count 36 = .ok (.aload_n 0, 1) := by decide +kernel
theorem dX8_count_37 : decode cX8_count 37 = .ok (.getfield 82, 3) := by decide +kernel
theorem dX8_count_40 : decode cX8_count 40 = .ok (.ireturn, 1) := by decide +kernel
theorem dX8_count_41 : decode cX8_count 41 = .ok (.aload_n 0, 1) := by decide +kernel
theorem dX8_count_42 : decode cX8_count 42 = .ok (.getfield 78, 3) := by decide +kernel
theorem dX8_count_45 : decode cX8_count 45 = .ok (.ireturn, 1) := by decide +kernel
theorem dX8_count_46 : decode cX8_count 46 = .ok (.aload_n 0, 1) := by decide +kernel
theorem dX8_count_47 : decode cX8_count 47 = .ok (.getfield 121, 3) := by decide +kernel
theorem dX8_count_50 : decode cX8_count 50 = .ok (.ireturn, 1) := by decide +kernel
theorem dX8_count_51 : decode cX8_count 51 = .ok (.aload_n 0, 1) := by decide +kernel
theorem dX8_count_52 : decode cX8_count 52 = .ok (.getfield 209, 3) := by decide +kernel
theorem dX8_count_55 : decode cX8_count 55 = .ok (.ireturn, 1) := by decide +kernel
theorem dX8_count_56 : decode cX8_count 56 = .ok (.iconst 0, 1) := by decide +kernel
theorem dX8_count_57 : decode cX8_count 57 = .ok (.istore_n 3, 1) := by decide +kernel
theorem dX8_count_58 : decode cX8_count 58 = .ok (.iload_n 3, 1) := by decide +kernel
theorem dX8_count_59 : decode cX8_count 59 = .ok (.aload_n 0, 1) := by decide +kernel
theorem dX8_count_60 : decode cX8_count 60 = .ok (.getfield 82, 3) := by decide +kernel
theorem dX8_count_63 : decode cX8_count 63 = .ok (.if_icmp .ge 21, 3) := by decide +kernel
theorem dX8_count_66 : decode cX8_count 66 = .ok (.iload_n 2, 1) := by decide +kernel
theorem dX8_count_67 : decode cX8_count 67 = .ok (.aload_n 0, 1) := by decide +kernel
theorem dX8_count_68 : decode cX8_count 68 = .ok (.getfield 16, 3) := by decide +kernel
theorem dX8_count_71 : decode cX8_count 71 = .ok (.iload_n 3, 1) := by decide +kernel
theorem dX8_count_72 : decode cX8_count 72 = .ok (.iaload, 1) := by decide +kernel
theorem dX8_count_73 : decode cX8_count 73 = .ok (.invokestatic 97, 3) := by decide +kernel
theorem dX8_count_76 : decode cX8_count 76 = .ok (.iadd, 1) := by decide +kernel
theorem dX8_count_77 : decode cX8_count 77 = .ok (.istore_n 2, 1) := by decide +kernel
theorem dX8_count_78 : decode cX8_count 78 = .ok (.iinc 3 1, 3) := by decide +kernel
theorem dX8_count_81 : decode cX8_count 81 = .ok (.goto (-23), 3) := by decide +kernel
theorem dX8_count_84 : decode cX8_count 84 = .ok (.iload_n 2, 1) := by decide +kernel
theorem dX8_count_85 : decode cX8_count 85 = .ok (.ireturn, 1) := by decide +kernel
theorem dX8_count_86 : decode cX8_count 86 = .ok (.bipush (-2), 2) := by decide +kernel
theorem dX8_count_88 : decode cX8_count 88 = .ok (.ireturn, 1) := by decide +kernel
theorem dX8_sheet_0 : decode cX8_sheet 0 = .ok (.iload_n 1, 1) := by decide +kernel
theorem dX8_sheet_1 : decode cX8_sheet 1 = .ok (.invokestatic 267, 3) := by decide +kernel
theorem dX8_sheet_4 : decode cX8_sheet 4 = .ok (.ifCond .eq 12, 3) := by decide +kernel
theorem dX8_sheet_7 : decode cX8_sheet 7 = .ok (.iload_n 2, 1) := by decide +kernel
theorem dX8_sheet_8 : decode cX8_sheet 8 = .ok (.iconst (-1), 1) := by decide +kernel
theorem dX8_sheet_9 : decode cX8_sheet 9 = .ok (.iconst 2, 1) := by decide +kernel
theorem dX8_sheet_10 : decode cX8_sheet 10 = .ok (.invokestatic 85, 3) := by decide +kernel
theorem dX8_sheet_13 : decode cX8_sheet 13 = .ok (.ifCond .ne 6, 3) := by decide +kernel
theorem dX8_sheet_16 : decode cX8_sheet 16 = .ok (.bipush (-2), 2) := by decide +kernel
theorem dX8_sheet_18 : decode cX8_sheet 18 = .ok (.ireturn, 1) := by decide +kernel
theorem dX8_sheet_19 : decode cX8_sheet 19 = .ok (.iload_n 2, 1) := by decide +kernel
theorem dX8_sheet_20 : decode cX8_sheet 20 = .ok (.ifCond .lt 10, 3) := by decide +kernel
theorem dX8_sheet_23 : decode cX8_sheet 23 = .ok (.iload_n 3, 1) := by decide +kernel
theorem dX8_sheet_24 : decode cX8_sheet 24 = .ok (.ifCond .ge 6, 3) := by decide +kernel
theorem dX8_sheet_27 : decode cX8_sheet 27 = .ok (.bipush (-14), 2) := by decide +kernel
theorem dX8_sheet_29 : decode cX8_sheet 29 = .ok (.ireturn, 1) := by decide +kernel
theorem dX8_sheet_30 : decode cX8_sheet 30 = .ok (.iload_n 2, 1) := by decide +kernel
theorem dX8_sheet_31 : decode cX8_sheet 31 = .ok (.ifCond .lt 12, 3) := by decide +kernel
theorem dX8_sheet_34 : decode cX8_sheet 34 = .ok (.iload_n 3, 1) := by decide +kernel
theorem dX8_sheet_35 : decode cX8_sheet 35 = .ok (.bipush 40, 2) := by decide +kernel
theorem dX8_sheet_37 : decode cX8_sheet 37 = .ok (.if_icmp .le 6, 3) := by decide +kernel
theorem dX8_sheet_40 : decode cX8_sheet 40 = .ok (.bipush (-2), 2) := by decide +kernel
theorem dX8_sheet_42 : decode cX8_sheet 42 = .ok (.ireturn, 1) := by decide +kernel
theorem dX8_sheet_43 : decode cX8_sheet 43 = .ok (.aload_n 0, 1) := by decide +kernel
theorem dX8_sheet_44 : decode cX8_sheet 44 = .ok (.getfield 62, 3) := by decide +kernel
theorem dX8_sheet_47 : decode cX8_sheet 47 = .ok (.iload_n 1, 1) := by decide +kernel
theorem dX8_sheet_48 : decode cX8_sheet 48 = .ok (.iload_n 2, 1) := by decide +kernel
theorem dX8_sheet_49 : decode cX8_sheet 49 = .ok (.iastore, 1) := by decide +kernel
theorem dX8_sheet_50 : decode cX8_sheet 50 = .ok (.aload_n 0, 1) := by decide +kernel
theorem dX8_sheet_51 : decode cX8_sheet 51 = .ok (.getfield 65, 3) := by decide +kernel
theorem dX8_sheet_54 : decode cX8_sheet 54 = .ok (.iload_n 1, 1) := by decide +kernel
theorem dX8_sheet_55 : decode cX8_sheet 55 = .ok (.iload_n 2, 1) := by decide +kernel
theorem dX8_sheet_56 : decode cX8_sheet 56 = .ok (.ifCond .ge 7, 3) := by decide +kernel
theorem dX8_sheet_59 : decode cX8_sheet 59 = .ok (.iconst 0, 1) := by decide +kernel
theorem dX8_sheet_60 : decode cX8_sheet 60 = .ok (.goto 4, 3) := by decide +kernel
theorem dX8_sheet_63 : decode cX8_sheet 63 = .ok (.iload_n 3, 1) := by decide +kernel
theorem dX8_sheet_64 : decode cX8_sheet 64 = .ok (.iastore, 1) := by decide +kernel
theorem dX8_sheet_65 : decode cX8_sheet 65 = .ok (.iconst 0, 1) := by decide +kernel
theorem dX8_sheet_66 : decode cX8_sheet 66 = .ok (.istore 4, 2) := by decide +kernel
theorem dX8_sheet_68 : decode cX8_sheet 68 = .ok (.iload 4, 2) := by decide +kernel
theorem dX8_sheet_70 : decode cX8_sheet 70 = .ok (.bipush 40, 2) := by decide +kernel
theorem dX8_sheet_72 : decode cX8_sheet 72 = .ok (.if_icmp .ge 22, 3) := by decide +kernel
theorem dX8_sheet_75 : decode cX8_sheet 75 = .ok (.aload_n 0, 1) := by decide +kernel
theorem dX8_sheet_76 : decode cX8_sheet 76 = .ok (.getfield 68, 3) := by decide +kernel
theorem dX8_sheet_79 : decode cX8_sheet 79 = .ok (.bipush 40, 2) := by decide +kernel
theorem dX8_sheet_81 : decode cX8_sheet 81 = .ok (.iload_n 1, 1) := by decide +kernel
theorem dX8_sheet_82 : decode cX8_sheet 82 = .ok (.imul, 1) := by decide +kernel
theorem dX8_sheet_83 : decode cX8_sheet 83 = .ok (.iload 4, 2) := by decide +kernel
theorem dX8_sheet_85 : decode cX8_sheet 85 = .ok (.iadd, 1) := by decide +kernel
theorem dX8_sheet_86 : decode cX8_sheet 86 = .ok (.iconst 0, 1) := by decide +kernel
theorem dX8_sheet_87 : decode cX8_sheet 87 = .ok (.iastore, 1) := by decide +kernel
theorem dX8_sheet_88 : decode cX8_sheet 88 = .ok (.iinc 4 1, 3) := by decide +kernel
theorem dX8_sheet_91 : decode cX8_sheet 91 = .ok (.goto (-23), 3) := by decide +kernel
theorem dX8_sheet_94 : decode cX8_sheet 94 = .ok (.iconst 1, 1) := by decide +kernel
theorem dX8_sheet_95 : decode cX8_sheet 95 = .ok (.ireturn, 1) := by decide +kernel
theorem dX8_cell_0 : decode cX8_cell 0 = .ok (.iload_n 1, 1) := by decide +kernel
theorem dX8_cell_1 : decode cX8_cell 1 = .ok (.invokestatic 267, 3) := by decide +kernel
theorem dX8_cell_4 : decode cX8_cell 4 = .ok (.ifCond .ne 6, 3) := by decide +kernel
theorem dX8_cell_7 : decode cX8_cell 7 = .ok (.bipush (-2), 2) := by decide +kernel
theorem dX8_cell_9 : decode cX8_cell 9 = .ok (.ireturn, 1) := by decide +kernel
theorem dX8_cell_10 : decode cX8_cell 10 = .ok (.aload_n 0, 1) := by decide +kernel
theorem dX8_cell_11 : decode cX8_cell 11 = .ok (.getfield 62, 3) := by decide +kernel
theorem dX8_cell_14 : decode cX8_cell 14 = .ok (.iload_n 1, 1) := by decide +kernel
theorem dX8_cell_15 : decode cX8_cell 15 = .ok (.iaload, 1) := by decide +kernel
theorem dX8_cell_16 : decode cX8_cell 16 = .ok (.ifCond .ge 6, 3) := by decide +kernel
theorem dX8_cell_19 : decode cX8_cell 19 = .ok (.bipush (-11), 2) := by decide +kernel
theorem dX8_cell_21 : decode cX8_cell 21 = .ok (.ireturn, 1) := by decide +kernel
theorem dX8_cell_22 : decode cX8_cell 22 = .ok (.iload_n 2, 1) := by decide +kernel
theorem dX8_cell_23 : decode cX8_cell 23 = .ok (.iconst 0, 1) := by decide +kernel
theorem dX8_cell_24 : decode cX8_cell 24 = .ok (.aload_n 0, 1) := by decide +kernel
theorem dX8_cell_25 : decode cX8_cell 25 = .ok (.getfield 65, 3) := by decide +kernel
theorem dX8_cell_28 : decode cX8_cell 28 = .ok (.iload_n 1, 1) := by decide +kernel
theorem dX8_cell_29 : decode cX8_cell 29 = .ok (.iaload, 1) := by decide +kernel
theorem dX8_cell_30 : decode cX8_cell 30 = .ok (.iconst 1, 1) := by decide +kernel
theorem dX8_cell_31 : decode cX8_cell 31 = .ok (.isub, 1) := by decide +kernel
theorem dX8_cell_32 : decode cX8_cell 32 = .ok (.invokestatic 85, 3) := by decide +kernel
theorem dX8_cell_35 : decode cX8_cell 35 = .ok (.ifCond .ne 6, 3) := by decide +kernel
theorem dX8_cell_38 : decode cX8_cell 38 = .ok (.bipush (-12), 2) := by decide +kernel
theorem dX8_cell_40 : decode cX8_cell 40 = .ok (.ireturn, 1) := by decide +kernel
theorem dX8_cell_41 : decode cX8_cell 41 = .ok (.aload_n 0, 1) := by decide +kernel
theorem dX8_cell_42 : decode cX8_cell 42 = .ok (.getfield 68, 3) := by decide +kernel
theorem dX8_cell_45 : decode cX8_cell 45 = .ok (.bipush 40, 2) := by decide +kernel
theorem dX8_cell_47 : decode cX8_cell 47 = .ok (.iload_n 1, 1) := by decide +kernel
theorem dX8_cell_48 : decode cX8_cell 48 = .ok (.imul, 1) := by decide +kernel
theorem dX8_cell_49 : decode cX8_cell 49 = .ok (.iload_n 2, 1) := by decide +kernel
theorem dX8_cell_50 : decode cX8_cell 50 = .ok (.iadd, 1) := by decide +kernel
theorem dX8_cell_51 : decode cX8_cell 51 = .ok (.aload_n 0, 1) := by decide +kernel
theorem dX8_cell_52 : decode cX8_cell 52 = .ok (.getfield 62, 3) := by decide +kernel
theorem dX8_cell_55 : decode cX8_cell 55 = .ok (.iload_n 1, 1) := by decide +kernel
theorem dX8_cell_56 : decode cX8_cell 56 = .ok (.iaload, 1) := by decide +kernel
theorem dX8_cell_57 : decode cX8_cell 57 = .ok (.ifCond .ne 8, 3) := by decide +kernel
theorem dX8_cell_60 : decode cX8_cell 60 = .ok (.iload_n 3, 1) := by decide +kernel
theorem dX8_cell_61 : decode cX8_cell 61 = .ok (.i2b, 1) := by decide +kernel
theorem dX8_cell_62 : decode cX8_cell 62 = .ok (.goto 19, 3) := by decide +kernel
theorem dX8_cell_65 : decode cX8_cell 65 = .ok (.aload_n 0, 1) := by decide +kernel
theorem dX8_cell_66 : decode cX8_cell 66 = .ok (.getfield 62, 3) := by decide +kernel
theorem dX8_cell_69 : decode cX8_cell 69 = .ok (.iload_n 1, 1) := by decide +kernel
theorem dX8_cell_70 : decode cX8_cell 70 = .ok (.iaload, 1) := by decide +kernel
theorem dX8_cell_71 : decode cX8_cell 71 = .ok (.iconst 1, 1) := by decide +kernel
theorem dX8_cell_72 : decode cX8_cell 72 = .ok (.if_icmp .ne 8, 3) := by decide +kernel
theorem dX8_cell_75 : decode cX8_cell 75 = .ok (.iload_n 3, 1) := by decide +kernel
theorem dX8_cell_76 : decode cX8_cell 76 = .ok (.i2s, 1) := by decide +kernel
theorem dX8_cell_77 : decode cX8_cell 77 = .ok (.goto 4, 3) := by decide +kernel
theorem dX8_cell_80 : decode cX8_cell 80 = .ok (.iload_n 3, 1) := by decide +kernel
theorem dX8_cell_81 : decode cX8_cell 81 = .ok (.iastore, 1) := by decide +kernel
theorem dX8_cell_82 : decode cX8_cell 82 = .ok (.iconst 1, 1) := by decide +kernel
theorem dX8_cell_83 : decode cX8_cell 83 = .ok (.ireturn, 1) := by decide +kernel
theorem dX8_copy_0 : decode cX8_copy 0 = .ok (.iload_n 1, 1) := by decide +kernel
theorem dX8_copy_1 : decode cX8_copy 1 = .ok (.invokestatic 267, 3) := by decide +kernel
theorem dX8_copy_4 : decode cX8_copy 4 = .ok (.ifCond .eq 10, 3) := by decide +kernel
theorem dX8_copy_7 : decode cX8_copy 7 = .ok (.iload_n 3, 1) := by decide +kernel
theorem dX8_copy_8 : decode cX8_copy 8 = .ok (.invokestatic 267, 3) := by decide +kernel
theorem dX8_copy_11 : decode cX8_copy 11 = .ok (.ifCond .ne 6, 3) := by decide +kernel
theorem dX8_copy_14 : decode cX8_copy 14 = .ok (.bipush (-2), 2) := by decide +kernel
theorem dX8_copy_16 : decode cX8_copy 16 = .ok (.ireturn, 1) := by decide +kernel
theorem dX8_copy_17 : decode cX8_copy 17 = .ok (.aload_n 0, 1) := by decide +kernel
theorem dX8_copy_18 : decode cX8_copy 18 = .ok (.getfield 62, 3) := by decide +kernel
theorem dX8_copy_21 : decode cX8_copy 21 = .ok (.iload_n 1, 1) := by decide +kernel
theorem dX8_copy_22 : decode cX8_copy 22 = .ok (.iaload, 1) := by decide +kernel
theorem dX8_copy_23 : decode cX8_copy 23 = .ok (.ifCond .lt 12, 3) := by decide +kernel
theorem dX8_copy_26 : decode cX8_copy 26 = .ok (.aload_n 0, 1) := by decide +kernel
theorem dX8_copy_27 : decode cX8_copy 27 = .ok (.getfield 62, 3) := by decide +kernel
theorem dX8_copy_30 : decode cX8_copy 30 = .ok (.iload_n 3, 1) := by decide +kernel
theorem dX8_copy_31 : decode cX8_copy 31 = .ok (.iaload, 1) := by decide +kernel
theorem dX8_copy_32 : decode cX8_copy 32 = .ok (.ifCond .ge 6, 3) := by decide +kernel
theorem dX8_copy_35 : decode cX8_copy 35 = .ok (.bipush (-11), 2) := by decide +kernel
theorem dX8_copy_37 : decode cX8_copy 37 = .ok (.ireturn, 1) := by decide +kernel
theorem dX8_copy_38 : decode cX8_copy 38 = .ok (.aload_n 0, 1) := by decide +kernel
theorem dX8_copy_39 : decode cX8_copy 39 = .ok (.getfield 62, 3) := by decide +kernel
theorem dX8_copy_42 : decode cX8_copy 42 = .ok (.iload_n 1, 1) := by decide +kernel
theorem dX8_copy_43 : decode cX8_copy 43 = .ok (.iaload, 1) := by decide +kernel
theorem dX8_copy_44 : decode cX8_copy 44 = .ok (.aload_n 0, 1) := by decide +kernel
theorem dX8_copy_45 : decode cX8_copy 45 = .ok (.getfield 62, 3) := by decide +kernel
theorem dX8_copy_48 : decode cX8_copy 48 = .ok (.iload_n 3, 1) := by decide +kernel
theorem dX8_copy_49 : decode cX8_copy 49 = .ok (.iaload, 1) := by decide +kernel
theorem dX8_copy_50 : decode cX8_copy 50 = .ok (.if_icmp .eq 6, 3) := by decide +kernel
theorem dX8_copy_53 : decode cX8_copy 53 = .ok (.bipush (-13), 2) := by decide +kernel
theorem dX8_copy_55 : decode cX8_copy 55 = .ok (.ireturn, 1) := by decide +kernel
theorem dX8_copy_56 : decode cX8_copy 56 = .ok (.iload 5, 2) := by decide +kernel
theorem dX8_copy_58 : decode cX8_copy 58 = .ok (.ifCond .lt 47, 3) := by decide +kernel
theorem dX8_copy_61 : decode cX8_copy 61 = .ok (.iload_n 2, 1) := by decide +kernel
theorem dX8_copy_62 : decode cX8_copy 62 = .ok (.ifCond .lt 43, 3) := by decide +kernel
theorem dX8_copy_65 : decode cX8_copy 65 = .ok (.iload 4, 2) := by decide +kernel
theorem dX8_copy_67 : decode cX8_copy 67 = .ok (.ifCond .lt 38, 3) := by decide +kernel
theorem dX8_copy_70 : decode cX8_copy 70 = .ok (.iload_n 2, 1) := by decide +kernel
theorem dX8_copy_71 : decode cX8_copy 71 = .ok (.i2l, 1) := by decide +kernel
theorem dX8_copy_72 : decode cX8_copy 72 = .ok (.iload 5, 2) := by decide +kernel
theorem dX8_copy_74 : decode cX8_copy 74 = .ok (.i2l, 1) := by decide +kernel
theorem dX8_copy_75 : decode cX8_copy 75 = .ok (.ladd, 1) := by decide +kernel
theorem dX8_copy_76 : decode cX8_copy 76 = .ok (.aload_n 0, 1) := by decide +kernel
theorem dX8_copy_77 : decode cX8_copy 77 = .ok (.getfield 65, 3) := by decide +kernel
theorem dX8_copy_80 : decode cX8_copy 80 = .ok (.iload_n 1, 1) := by decide +kernel
theorem dX8_copy_81 : decode cX8_copy 81 = .ok (.iaload, 1) := by decide +kernel
theorem dX8_copy_82 : decode cX8_copy 82 = .ok (.i2l, 1) := by decide +kernel
theorem dX8_copy_83 : decode cX8_copy 83 = .ok (.lcmp, 1) := by decide +kernel
theorem dX8_copy_84 : decode cX8_copy 84 = .ok (.ifCond .gt 21, 3) := by decide +kernel
theorem dX8_copy_87 : decode cX8_copy 87 = .ok (.iload 4, 2) := by decide +kernel
theorem dX8_copy_89 : decode cX8_copy 89 = .ok (.i2l, 1) := by decide +kernel
theorem dX8_copy_90 : decode cX8_copy 90 = .ok (.iload 5, 2) := by decide +kernel
theorem dX8_copy_92 : decode cX8_copy 92 = .ok (.i2l, 1) := by decide +kernel
theorem dX8_copy_93 : decode cX8_copy 93 = .ok (.ladd, 1) := by decide +kernel
theorem dX8_copy_94 : decode cX8_copy 94 = .ok (.aload_n 0, 1) := by decide +kernel
theorem dX8_copy_95 : decode cX8_copy 95 = .ok (.getfield 65, 3) := by decide +kernel
theorem dX8_copy_98 : decode cX8_copy 98 = .ok (.iload_n 3, 1) := by decide +kernel
theorem dX8_copy_99 : decode cX8_copy 99 = .ok (.iaload, 1) := by decide +kernel
theorem dX8_copy_100 : decode cX8_copy 100 = .ok (.i2l, 1) := by decide +kernel
theorem dX8_copy_101 : decode cX8_copy 101 = .ok (.lcmp, 1) := by decide +kernel
theorem dX8_copy_102 : decode cX8_copy 102 = .ok (.ifCond .le 6, 3) := by decide +kernel
theorem dX8_copy_105 : decode cX8_copy 105 = .ok (.bipush (-12), 2) := by decide +kernel
theorem dX8_copy_107 : decode cX8_copy 107 = .ok (.ireturn, 1) := by decide +kernel
theorem dX8_copy_108 : decode cX8_copy 108 = .ok (.iload_n 1, 1) := by decide +kernel
theorem dX8_copy_109 : decode cX8_copy 109 = .ok (.iload_n 3, 1) := by decide +kernel
theorem dX8_copy_110 : decode cX8_copy 110 = .ok (.if_icmp .ne 58, 3) := by decide +kernel
theorem dX8_copy_113 : decode cX8_copy 113 = .ok (.iload_n 2, 1) := by decide +kernel
theorem dX8_copy_114 : decode cX8_copy 114 = .ok (.iload 4, 2) := by decide +kernel
theorem dX8_copy_116 : decode cX8_copy 116 = .ok (.if_icmp .ge 52, 3) := by decide +kernel
theorem dX8_copy_119 : decode cX8_copy 119 = .ok (.iload 5, 2) := by decide +kernel
theorem dX8_copy_121 : decode cX8_copy 121 = .ok (.iconst 1, 1) := by decide +kernel
theorem dX8_copy_122 : decode cX8_copy 122 = .ok (.isub, 1) := by decide +kernel
theorem dX8_copy_123 : decode cX8_copy 123 = .ok (.istore 6, 2) := by decide +kernel
theorem dX8_copy_125 : decode cX8_copy 125 = .ok (.iload 6, 2) := by decide +kernel
theorem dX8_copy_127 : decode cX8_copy 127 = .ok (.ifCond .lt 38, 3) := by decide +kernel
theorem dX8_copy_130 : decode cX8_copy 130 = .ok (.aload_n 0, 1) := by decide +kernel
theorem dX8_copy_131 : decode cX8_copy 131 = .ok (.getfield 68, 3) := by decide +kernel
theorem dX8_copy_134 : decode cX8_copy 134 = .ok (.bipush 40, 2) := by decide +kernel
theorem dX8_copy_136 : decode cX8_copy 136 = .ok (.iload_n 3, 1) := by decide +kernel
theorem dX8_copy_137 : decode cX8_copy 137 = .ok (.imul, 1) := by decide +kernel
theorem dX8_copy_138 : decode cX8_copy 138 = .ok (.iload 4, 2) := by decide +kernel
theorem dX8_copy_140 : decode cX8_copy 140 = .ok (.iadd, 1) := by decide +kernel
theorem dX8_copy_141 : decode cX8_copy 141 = .ok (.iload 6, 2) := by decide +kernel
theorem dX8_copy_143 : decode cX8_copy 143 = .ok (.iadd, 1) := by decide +kernel
theorem dX8_copy_144 : decode cX8_copy 144 = .ok (.aload_n 0, 1) := by decide +kernel
theorem dX8_copy_145 : decode cX8_copy 145 = .ok (.getfield 68, 3) := by decide +kernel
theorem dX8_copy_148 : decode cX8_copy 148 = .ok (.bipush 40, 2) := by decide +kernel
theorem dX8_copy_150 : decode cX8_copy 150 = .ok (.iload_n 1, 1) := by decide +kernel
theorem dX8_copy_151 : decode cX8_copy 151 = .ok (.imul, 1) := by decide +kernel
theorem dX8_copy_152 : decode cX8_copy 152 = .ok (.iload_n 2, 1) := by decide +kernel
theorem dX8_copy_153 : decode cX8_copy 153 = .ok (.iadd, 1) := by decide +kernel
theorem dX8_copy_154 : decode cX8_copy 154 = .ok (.iload 6, 2) := by decide +kernel
theorem dX8_copy_156 : decode cX8_copy 156 = .ok (.iadd, 1) := by decide +kernel
theorem dX8_copy_157 : decode cX8_copy 157 = .ok (.iaload, 1) := by decide +kernel
theorem dX8_copy_158 : decode cX8_copy 158 = .ok (.iastore, 1) := by decide +kernel
theorem dX8_copy_159 : decode cX8_copy 159 = .ok (.iinc 6 (-1), 3) := by decide +kernel
theorem dX8_copy_162 : decode cX8_copy 162 = .ok (.goto (-37), 3) := by decide +kernel
theorem dX8_copy_165 : decode cX8_copy 165 = .ok (.goto 48, 3) := by decide +kernel
theorem dX8_copy_168 : decode cX8_copy 168 = .ok (.iconst 0, 1) := by decide +kernel
theorem dX8_copy_169 : decode cX8_copy 169 = .ok (.istore 6, 2) := by decide +kernel
theorem dX8_copy_171 : decode cX8_copy 171 = .ok (.iload 6, 2) := by decide +kernel
theorem dX8_copy_173 : decode cX8_copy 173 = .ok (.iload 5, 2) := by decide +kernel
theorem dX8_copy_175 : decode cX8_copy 175 = .ok (.if_icmp .ge 38, 3) := by decide +kernel
theorem dX8_copy_178 : decode cX8_copy 178 = .ok (.aload_n 0, 1) := by decide +kernel
theorem dX8_copy_179 : decode cX8_copy 179 = .ok (.getfield 68, 3) := by decide +kernel
theorem dX8_copy_182 : decode cX8_copy 182 = .ok (.bipush 40, 2) := by decide +kernel
theorem dX8_copy_184 : decode cX8_copy 184 = .ok (.iload_n 3, 1) := by decide +kernel
theorem dX8_copy_185 : decode cX8_copy 185 = .ok (.imul, 1) := by decide +kernel
theorem dX8_copy_186 : decode cX8_copy 186 = .ok (.iload 4, 2) := by decide +kernel
theorem dX8_copy_188 : decode cX8_copy 188 = .ok (.iadd, 1) := by decide +kernel
theorem dX8_copy_189 : decode cX8_copy 189 = .ok (.iload 6, 2) := by decide +kernel
theorem dX8_copy_191 : decode cX8_copy 191 = .ok (.iadd, 1) := by decide +kernel
theorem dX8_copy_192 : decode cX8_copy 192 = .ok (.aload_n 0, 1) := by decide +kernel
theorem dX8_copy_193 : decode cX8_copy 193 = .ok (.getfield 68, 3) := by decide +kernel
theorem dX8_copy_196 : decode cX8_copy 196 = .ok (.bipush 40, 2) := by decide +kernel
theorem dX8_copy_198 : decode cX8_copy 198 = .ok (.iload_n 1, 1) := by decide +kernel
theorem dX8_copy_199 : decode cX8_copy 199 = .ok (.imul, 1) := by decide +kernel
theorem dX8_copy_200 : decode cX8_copy 200 = .ok (.iload_n 2, 1) := by decide +kernel
theorem dX8_copy_201 : decode cX8_copy 201 = .ok (.iadd, 1) := by decide +kernel
theorem dX8_copy_202 : decode cX8_copy 202 = .ok (.iload 6, 2) := by decide +kernel
theorem dX8_copy_204 : decode cX8_copy 204 = .ok (.iadd, 1) := by decide +kernel
theorem dX8_copy_205 : decode cX8_copy 205 = .ok (.iaload, 1) := by decide +kernel
theorem dX8_copy_206 : decode cX8_copy 206 = .ok (.iastore, 1) := by decide +kernel
theorem dX8_copy_207 : decode cX8_copy 207 = .ok (.iinc 6 1, 3) := by decide +kernel
theorem dX8_copy_210 : decode cX8_copy 210 = .ok (.goto (-39), 3) := by decide +kernel
theorem dX8_copy_213 : decode cX8_copy 213 = .ok (.iload 5, 2) := by decide +kernel
theorem dX8_copy_215 : decode cX8_copy 215 = .ok (.ireturn, 1) := by decide +kernel
theorem dX8_heirs_0 : decode cX8_heirs 0 = .ok (.iload_n 1, 1) := by decide +kernel
theorem dX8_heirs_1 : decode cX8_heirs 1 = .ok (.invokestatic 267, 3) := by decide +kernel
theorem dX8_heirs_4 : decode cX8_heirs 4 = .ok (.ifCond .eq 23, 3) := by decide +kernel
theorem dX8_heirs_7 : decode cX8_heirs 7 = .ok (.iload_n 2, 1) := by decide +kernel
theorem dX8_heirs_8 : decode cX8_heirs 8 = .ok (.iconst 0, 1) := by decide +kernel
theorem dX8_heirs_9 : decode cX8_heirs 9 = .ok (.iconst 2, 1) := by decide +kernel
theorem dX8_heirs_10 : decode cX8_heirs 10 = .ok (.invokestatic 85, 3) := by decide +kernel
theorem dX8_heirs_13 : decode cX8_heirs 13 = .ok (.ifCond .eq 14, 3) := by decide +kernel
theorem dX8_heirs_16 : decode cX8_heirs 16 = .ok (.iload 4, 2) := by decide +kernel
theorem dX8_heirs_18 : decode cX8_heirs 18 = .ok (.iconst 0, 1) := by decide +kernel
theorem dX8_heirs_19 : decode cX8_heirs 19 = .ok (.bipush 6, 2) := by decide +kernel
theorem dX8_heirs_21 : decode cX8_heirs 21 = .ok (.invokestatic 85, 3) := by decide +kernel
theorem dX8_heirs_24 : decode cX8_heirs 24 = .ok (.ifCond .ne 6, 3) := by decide +kernel
theorem dX8_heirs_27 : decode cX8_heirs 27 = .ok (.bipush (-2), 2) := by decide +kernel
theorem dX8_heirs_29 : decode cX8_heirs 29 = .ok (.ireturn, 1) := by decide +kernel
theorem dX8_heirs_30 : decode cX8_heirs 30 = .ok (.aload_n 0, 1) := by decide +kernel
theorem dX8_heirs_31 : decode cX8_heirs 31 = .ok (.getfield 62, 3) := by decide +kernel
theorem dX8_heirs_34 : decode cX8_heirs 34 = .ok (.iload_n 1, 1) := by decide +kernel
theorem dX8_heirs_35 : decode cX8_heirs 35 = .ok (.iaload, 1) := by decide +kernel
theorem dX8_heirs_36 : decode cX8_heirs 36 = .ok (.ifCond .ge 6, 3) := by decide +kernel
theorem dX8_heirs_39 : decode cX8_heirs 39 = .ok (.bipush (-11), 2) := by decide +kernel
theorem dX8_heirs_41 : decode cX8_heirs 41 = .ok (.ireturn, 1) := by decide +kernel
theorem dX8_heirs_42 : decode cX8_heirs 42 = .ok (.aload_n 0, 1) := by decide +kernel
theorem dX8_heirs_43 : decode cX8_heirs 43 = .ok (.getfield 62, 3) := by decide +kernel
theorem dX8_heirs_46 : decode cX8_heirs 46 = .ok (.iload_n 1, 1) := by decide +kernel
theorem dX8_heirs_47 : decode cX8_heirs 47 = .ok (.iaload, 1) := by decide +kernel
theorem dX8_heirs_48 : decode cX8_heirs 48 = .ok (.iload_n 2, 1) := by decide +kernel
theorem dX8_heirs_49 : decode cX8_heirs 49 = .ok (.if_icmp .eq 6, 3) := by decide +kernel
theorem dX8_heirs_52 : decode cX8_heirs 52 = .ok (.bipush (-13), 2) := by decide +kernel
theorem dX8_heirs_54 : decode cX8_heirs 54 = .ok (.ireturn, 1) := by decide +kernel
theorem dX8_heirs_55 : decode cX8_heirs 55 = .ok (.iconst 0, 1) := by decide +kernel
theorem dX8_heirs_56 : decode cX8_heirs 56 = .ok (.istore 5, 2) := by decide +kernel
theorem dX8_heirs_58 : decode cX8_heirs 58 = .ok (.iconst 0, 1) := by decide +kernel
theorem dX8_heirs_59 : decode cX8_heirs 59 = .ok (.istore 6, 2) := by decide +kernel
theorem dX8_heirs_61 : decode cX8_heirs 61 = .ok (.iload 6, 2) := by decide +kernel
theorem dX8_heirs_63 : decode cX8_heirs 63 = .ok (.iload 4, 2) := by decide +kernel
theorem dX8_heirs_65 : decode cX8_heirs 65 = .ok (.if_icmp .ge 84, 3) := by decide +kernel
theorem dX8_heirs_68 : decode cX8_heirs 68 = .ok (.iload_n 3, 1) := by decide +kernel
theorem dX8_heirs_69 : decode cX8_heirs 69 = .ok (.i2l, 1) := by decide +kernel
theorem dX8_heirs_70 : decode cX8_heirs 70 = .ok (.ldc2_w 304, 3) := by decide +kernel
theorem dX8_heirs_73 : decode cX8_heirs 73 = .ok (.iload 6, 2) := by decide +kernel
theorem dX8_heirs_75 : decode cX8_heirs 75 = .ok (.i2l, 1) := by decide +kernel
theorem dX8_heirs_76 : decode cX8_heirs 76 = .ok (.lmul, 1) := by decide +kernel
theorem dX8_heirs_77 : decode cX8_heirs 77 = .ok (.ladd, 1) := by decide +kernel
theorem dX8_heirs_78 : decode cX8_heirs 78 = .ok (.lstore 7, 2) := by decide +kernel
theorem dX8_heirs_80 : decode cX8_heirs 80 = .ok (.lload 7, 2) := by decide +kernel
theorem dX8_heirs_82 : decode cX8_heirs 82 = .ok (.lconst 0, 1) := by decide +kernel
theorem dX8_heirs_83 : decode cX8_heirs 83 = .ok (.lcmp, 1) := by decide +kernel
theorem dX8_heirs_84 : decode cX8_heirs 84 = .ok (.ifCond .lt 18, 3) := by decide +kernel
theorem dX8_heirs_87 : decode cX8_heirs 87 = .ok (.lload 7, 2) := by decide +kernel
theorem dX8_heirs_89 : decode cX8_heirs 89 = .ok (.lconst 1, 1) := by decide +kernel
theorem dX8_heirs_90 : decode cX8_heirs 90 = .ok (.ladd, 1) := by decide +kernel
theorem dX8_heirs_91 : decode cX8_heirs 91 = .ok (.aload_n 0, 1) := by decide +kernel
theorem dX8_heirs_92 : decode cX8_heirs 92 = .ok (.getfield 65, 3) := by decide +kernel
theorem dX8_heirs_95 : decode cX8_heirs 95 = .ok (.iload_n 1, 1) := by decide +kernel
theorem dX8_heirs_96 : decode cX8_heirs 96 = .ok (.iaload, 1) := by decide +kernel
theorem dX8_heirs_97 : decode cX8_heirs 97 = .ok (.i2l, 1) := by decide +kernel
theorem dX8_heirs_98 : decode cX8_heirs 98 = .ok (.lcmp, 1) := by decide +kernel
theorem dX8_heirs_99 : decode cX8_heirs 99 = .ok (.ifCond .lt 6, 3) := by decide +kernel
theorem dX8_heirs_102 : decode cX8_heirs 102 = .ok (.bipush (-12), 2) := by decide +kernel
theorem dX8_heirs_104 : decode cX8_heirs 104 = .ok (.ireturn, 1) := by decide +kernel
theorem dX8_heirs_105 : decode cX8_heirs 105 = .ok (.aload_n 0, 1) := by decide +kernel
theorem dX8_heirs_106 : decode cX8_heirs 106 = .ok (.aload_n 0, 1) := by decide +kernel
theorem dX8_heirs_107 : decode cX8_heirs 107 = .ok (.getfield 68, 3) := by decide +kernel
theorem dX8_heirs_110 : decode cX8_heirs 110 = .ok (.bipush 40, 2) := by decide +kernel
theorem dX8_heirs_112 : decode cX8_heirs 112 = .ok (.iload_n 1, 1) := by decide +kernel
theorem dX8_heirs_113 : decode cX8_heirs 113 = .ok (.imul, 1) := by decide +kernel
theorem dX8_heirs_114 : decode cX8_heirs 114 = .ok (.lload 7, 2) := by decide +kernel
theorem dX8_heirs_116 : decode cX8_heirs 116 = .ok (.l2i, 1) := by decide +kernel
theorem dX8_heirs_117 : decode cX8_heirs 117 = .ok (.iadd, 1) := by decide +kernel
theorem dX8_heirs_118 : decode cX8_heirs 118 = .ok (.iaload, 1) := by decide +kernel
theorem dX8_heirs_119 : decode cX8_heirs 119 = .ok (.aload_n 0, 1) := by decide +kernel
theorem dX8_heirs_120 : decode cX8_heirs 120 = .ok (.getfield 68, 3) := by decide +kernel
theorem dX8_heirs_123 : decode cX8_heirs 123 = .ok (.bipush 40, 2) := by decide +kernel
theorem dX8_heirs_125 : decode cX8_heirs 125 = .ok (.iload_n 1, 1) := by decide +kernel
theorem dX8_heirs_126 : decode cX8_heirs 126 = .ok (.imul, 1) := by decide +kernel
theorem dX8_heirs_127 : decode cX8_heirs 127 = .ok (.lload 7, 2) := by decide +kernel
theorem dX8_heirs_129 : decode cX8_heirs 129 = .ok (.l2i, 1) := by decide +kernel
theorem dX8_heirs_130 : decode cX8_heirs 130 = .ok (.iadd, 1) := by decide +kernel
theorem dX8_heirs_131 : decode cX8_heirs 131 = .ok (.iconst 1, 1) := by decide +kernel
theorem dX8_heirs_132 : decode cX8_heirs 132 = .ok (.iadd, 1) := by decide +kernel
theorem dX8_heirs_133 : decode cX8_heirs 133 = .ok (.iaload, 1) := by decide +kernel
theorem dX8_heirs_134 : decode cX8_heirs 134 = .ok (.invokevirtual 306, 3) := by decide +kernel
theorem dX8_heirs_137 : decode cX8_heirs 137 = .ok (.ifCond .lt 6, 3) := by decide +kernel
theorem dX8_heirs_140 : decode cX8_heirs 140 = .ok (.iinc 5 1, 3) := by decide +kernel
theorem dX8_heirs_143 : decode cX8_heirs 143 = .ok (.iinc 6 1, 3) := by decide +kernel
theorem dX8_heirs_146 : decode cX8_heirs 146 = .ok (.goto (-85), 3) := by decide +kernel
theorem dX8_heirs_149 : decode cX8_heirs 149 = .ok (.iload 5, 2) := by decide +kernel
theorem dX8_heirs_151 : decode cX8_heirs 151 = .ok (.ireturn, 1) := by decide +kernel
theorem dX8_taken_0 : decode cX8_taken 0 = .ok (.iload_n 2, 1) := by decide +kernel
theorem dX8_taken_1 : decode cX8_taken 1 = .ok (.iconst 0, 1) := by decide +kernel
theorem dX8_taken_2 : decode cX8_taken 2 = .ok (.iconst 5, 1) := by decide +kernel
theorem dX8_taken_3 : decode cX8_taken 3 = .ok (.invokestatic 85, 3) := by decide +kernel
theorem dX8_taken_6 : decode cX8_taken 6 = .ok (.ifCond .ne 6, 3) := by decide +kernel
theorem dX8_taken_9 : decode cX8_taken 9 = .ok (.bipush (-2), 2) := by decide +kernel
theorem dX8_taken_11 : decode cX8_taken 11 = .ok (.ireturn, 1) := by decide +kernel
theorem dX8_taken_12 : decode cX8_taken 12 = .ok (.aload_n 0, 1) := by decide +kernel
theorem dX8_taken_13 : decode cX8_taken 13 = .ok (.iload_n 1, 1) := by decide +kernel
theorem dX8_taken_14 : decode cX8_taken 14 = .ok (.invokevirtual 89, 3) := by decide +kernel
theorem dX8_taken_17 : decode cX8_taken 17 = .ok (.ifCond .ne 6, 3) := by decide +kernel
theorem dX8_taken_20 : decode cX8_taken 20 = .ok (.bipush (-11), 2) := by decide +kernel
theorem dX8_taken_22 : decode cX8_taken 22 = .ok (.ireturn, 1) := by decide +kernel
theorem dX8_taken_23 : decode cX8_taken 23 = .ok (.aload_n 0, 1) := by decide +kernel
theorem dX8_taken_24 : decode cX8_taken 24 = .ok (.getfield 7, 3) := by decide +kernel
theorem dX8_taken_27 : decode cX8_taken 27 = .ok (.iload_n 1, 1) := by decide +kernel
theorem dX8_taken_28 : decode cX8_taken 28 = .ok (.iaload, 1) := by decide +kernel
theorem dX8_taken_29 : decode cX8_taken 29 = .ok (.istore_n 3, 1) := by decide +kernel
theorem dX8_taken_30 : decode cX8_taken 30 = .ok (.iload_n 3, 1) := by decide +kernel
theorem dX8_taken_31 : decode cX8_taken 31 = .ok (.iload_n 2, 1) := by decide +kernel
theorem dX8_taken_32 : decode cX8_taken 32 = .ok (.if_icmp .eq 30, 3) := by decide +kernel
theorem dX8_taken_35 : decode cX8_taken 35 = .ok (.iload_n 3, 1) := by decide +kernel
theorem dX8_taken_36 : decode cX8_taken 36 = .ok (.ifCond .le 26, 3) := by decide +kernel
theorem dX8_taken_39 : decode cX8_taken 39 = .ok (.iload_n 3, 1) := by decide +kernel
theorem dX8_taken_40 : decode cX8_taken 40 = .ok (.iconst 3, 1) := by decide +kernel
theorem dX8_taken_41 : decode cX8_taken 41 = .ok (.if_icmp .ne 7, 3) := by decide +kernel
theorem dX8_taken_44 : decode cX8_taken 44 = .ok (.iconst 1, 1) := by decide +kernel
theorem dX8_taken_45 : decode cX8_taken 45 = .ok (.goto 13, 3) := by decide +kernel
theorem dX8_taken_48 : decode cX8_taken 48 = .ok (.iload_n 3, 1) := by decide +kernel
theorem dX8_taken_49 : decode cX8_taken 49 = .ok (.iconst 4, 1) := by decide +kernel
theorem dX8_taken_50 : decode cX8_taken 50 = .ok (.if_icmp .ne 7, 3) := by decide +kernel
theorem dX8_taken_53 : decode cX8_taken 53 = .ok (.iconst 2, 1) := by decide +kernel
theorem dX8_taken_54 : decode cX8_taken 54 = .ok (.goto 4, 3) := by decide +kernel
theorem dX8_taken_57 : decode cX8_taken 57 = .ok (.iconst 0, 1) := by decide +kernel
theorem dX8_taken_58 : decode cX8_taken 58 = .ok (.istore_n 3, 1) := by decide +kernel
theorem dX8_taken_59 : decode cX8_taken 59 = .ok (.goto (-29), 3) := by decide +kernel
theorem dX8_taken_62 : decode cX8_taken 62 = .ok (.iload_n 3, 1) := by decide +kernel
theorem dX8_taken_63 : decode cX8_taken 63 = .ok (.iload_n 2, 1) := by decide +kernel
theorem dX8_taken_64 : decode cX8_taken 64 = .ok (.if_icmp .ne 12, 3) := by decide +kernel
theorem dX8_taken_67 : decode cX8_taken 67 = .ok (.aload_n 0, 1) := by decide +kernel
theorem dX8_taken_68 : decode cX8_taken 68 = .ok (.getfield 13, 3) := by decide +kernel
theorem dX8_taken_71 : decode cX8_taken 71 = .ok (.iload_n 1, 1) := by decide +kernel
theorem dX8_taken_72 : decode cX8_taken 72 = .ok (.iaload, 1) := by decide +kernel
theorem dX8_taken_73 : decode cX8_taken 73 = .ok (.goto 5, 3) := by decide +kernel
theorem dX8_taken_76 : decode cX8_taken 76 = .ok (.bipush (-13), 2) := by decide +kernel
theorem dX8_taken_78 : decode cX8_taken 78 = .ok (.ireturn, 1) := by decide +kernel
theorem dJ6_bitCount_0f7a4_0 : decode cJ6_bitCount_0f7a4 0 = .ok (.iload_n 0, 1) := by decide +kernel
theorem dJ6_bitCount_0f7a4_1 : decode cJ6_bitCount_0f7a4 1 = .ok (.iload_n 0, 1) := by decide +kernel
theorem dJ6_bitCount_0f7a4_2 : decode cJ6_bitCount_0f7a4 2 = .ok (.iconst 1, 1) := by decide +kernel
theorem dJ6_bitCount_0f7a4_3 : decode cJ6_bitCount_0f7a4 3 = .ok (.iushr, 1) := by decide +kernel
theorem dJ6_bitCount_0f7a4_4 : decode cJ6_bitCount_0f7a4 4 = .ok (.ldc_w 265, 3) := by decide +kernel
theorem dJ6_bitCount_0f7a4_7 : decode cJ6_bitCount_0f7a4 7 = .ok (.iand, 1) := by decide +kernel
theorem dJ6_bitCount_0f7a4_8 : decode cJ6_bitCount_0f7a4 8 = .ok (.isub, 1) := by decide +kernel
theorem dJ6_bitCount_0f7a4_9 : decode cJ6_bitCount_0f7a4 9 = .ok (.istore_n 0, 1) := by decide +kernel
theorem dJ6_bitCount_0f7a4_10 : decode cJ6_bitCount_0f7a4 10 = .ok (.iload_n 0, 1) := by decide +kernel
theorem dJ6_bitCount_0f7a4_11 : decode cJ6_bitCount_0f7a4 11 = .ok (.ldc_w 266, 3) := by decide +kernel
theorem dJ6_bitCount_0f7a4_14 : decode cJ6_bitCount_0f7a4 14 = .ok (.iand, 1) := by decide +kernel
theorem dJ6_bitCount_0f7a4_15 : decode cJ6_bitCount_0f7a4 15 = .ok (.iload_n 0, 1) := by decide +kernel
theorem dJ6_bitCount_0f7a4_16 : decode cJ6_bitCount_0f7a4 16 = .ok (.iconst 2, 1) := by decide +kernel
theorem dJ6_bitCount_0f7a4_17 : decode cJ6_bitCount_0f7a4 17 = .ok (.iushr, 1) := by decide +kernel
theorem dJ6_bitCount_0f7a4_18 : decode cJ6_bitCount_0f7a4 18 = .ok (.ldc_w 266, 3) := by decide +kernel
theorem dJ6_bitCount_0f7a4_21 : decode cJ6_bitCount_0f7a4 21 = .ok (.iand, 1) := by decide +kernel
theorem dJ6_bitCount_0f7a4_22 : decode cJ6_bitCount_0f7a4 22 = .ok (.iadd, 1) := by decide +kernel
theorem dJ6_bitCount_0f7a4_23 : decode cJ6_bitCount_0f7a4 23 = .ok (.istore_n 0, 1) := by decide +kernel
theorem dJ6_bitCount_0f7a4_24 : decode cJ6_bitCount_0f7a4 24 = .ok (.iload_n 0, 1) := by decide +kernel
theorem dJ6_bitCount_0f7a4_25 : decode cJ6_bitCount_0f7a4 25 = .ok (.iload_n 0, 1) := by decide +kernel
theorem dJ6_bitCount_0f7a4_26 : decode cJ6_bitCount_0f7a4 26 = .ok (.iconst 4, 1) := by decide +kernel
theorem dJ6_bitCount_0f7a4_27 : decode cJ6_bitCount_0f7a4 27 = .ok (.iushr, 1) := by decide +kernel
theorem dJ6_bitCount_0f7a4_28 : decode cJ6_bitCount_0f7a4 28 = .ok (.iadd, 1) := by decide +kernel
theorem dJ6_bitCount_0f7a4_29 : decode cJ6_bitCount_0f7a4 29 = .ok (.ldc_w 267, 3) := by decide +kernel
theorem dJ6_bitCount_0f7a4_32 : decode cJ6_bitCount_0f7a4 32 = .ok (.iand, 1) := by decide +kernel
theorem dJ6_bitCount_0f7a4_33 : decode cJ6_bitCount_0f7a4 33 = .ok (.istore_n 0, 1) := by decide +kernel
theorem dJ6_bitCount_0f7a4_34 : decode cJ6_bitCount_0f7a4 34 = .ok (.iload_n 0, 1) := by decide +kernel
theorem dJ6_bitCount_0f7a4_35 : decode cJ6_bitCount_0f7a4 35 = .ok (.iload_n 0, 1) := by decide +kernel
theorem dJ6_bitCount_0f7a4_36 : decode cJ6_bitCount_0f7a4 36 = .ok (.bipush 8, 2) := by decide +kernel
theorem dJ6_bitCount_0f7a4_38 : decode cJ6_bitCount_0f7a4 38 = .ok (.iushr, 1) := by decide +kernel
theorem dJ6_bitCount_0f7a4_39 : decode cJ6_bitCount_0f7a4 39 = .ok (.iadd, 1) := by decide +kernel
theorem dJ6_bitCount_0f7a4_40 : decode cJ6_bitCount_0f7a4 40 = .ok (.istore_n 0, 1) := by decide +kernel
theorem dJ6_bitCount_0f7a4_41 : decode cJ6_bitCount_0f7a4 41 = .ok (.iload_n 0, 1) := by decide +kernel
theorem dJ6_bitCount_0f7a4_42 : decode cJ6_bitCount_0f7a4 42 = .ok (.iload_n 0, 1) := by decide +kernel
theorem dJ6_bitCount_0f7a4_43 : decode cJ6_bitCount_0f7a4 43 = .ok (.bipush 16, 2) := by decide +kernel
theorem dJ6_bitCount_0f7a4_45 : decode cJ6_bitCount_0f7a4 45 = .ok (.iushr, 1) := by decide +kernel
theorem dJ6_bitCount_0f7a4_46 : decode cJ6_bitCount_0f7a4 46 = .ok (.iadd, 1) := by decide +kernel
theorem dJ6_bitCount_0f7a4_47 : decode cJ6_bitCount_0f7a4 47 = .ok (.istore_n 0, 1) := by decide +kernel
theorem dJ6_bitCount_0f7a4_48 : decode cJ6_bitCount_0f7a4 48 = .ok (.iload_n 0, 1) := by decide +kernel
theorem dJ6_bitCount_0f7a4_49 : decode cJ6_bitCount_0f7a4 49 = .ok (.bipush 63, 2) := by decide +kernel
theorem dJ6_bitCount_0f7a4_51 : decode cJ6_bitCount_0f7a4 51 = .ok (.iand, 1) := by decide +kernel
theorem dJ6_bitCount_0f7a4_52 : decode cJ6_bitCount_0f7a4 52 = .ok (.ireturn, 1) := by decide +kernel
theorem dJ9_max_7cf53_0 : decode cJ9_max_7cf53 0 = .ok (.iload_n 0, 1) := by decide +kernel
theorem dJ9_max_7cf53_1 : decode cJ9_max_7cf53 1 = .ok (.iload_n 1, 1) := by decide +kernel
theorem dJ9_max_7cf53_2 : decode cJ9_max_7cf53 2 = .ok (.if_icmp .lt 7, 3) := by decide +kernel
theorem dJ9_max_7cf53_5 : decode cJ9_max_7cf53 5 = .ok (.iload_n 0, 1) := by decide +kernel
theorem dJ9_max_7cf53_6 : decode cJ9_max_7cf53 6 = .ok (.goto 4, 3) := by decide +kernel
theorem dJ9_max_7cf53_9 : decode cJ9_max_7cf53 9 = .ok (.iload_n 1, 1) := by decide +kernel
theorem dJ9_max_7cf53_10 : decode cJ9_max_7cf53 10 = .ok (.ireturn, 1) := by decide +kernel
theorem dJ9_min_7cf53_0 : decode cJ9_min_7cf53 0 = .ok (.iload_n 0, 1) := by decide +kernel
theorem dJ9_min_7cf53_1 : decode cJ9_min_7cf53 1 = .ok (.iload_n 1, 1) := by decide +kernel
theorem dJ9_min_7cf53_2 : decode cJ9_min_7cf53 2 = .ok (.if_icmp .gt 7, 3) := by decide +kernel
theorem dJ9_min_7cf53_5 : decode cJ9_min_7cf53 5 = .ok (.iload_n 0, 1) := by decide +kernel
theorem dJ9_min_7cf53_6 : decode cJ9_min_7cf53 6 = .ok (.goto 4, 3) := by decide +kernel
theorem dJ9_min_7cf53_9 : decode cJ9_min_7cf53 9 = .ok (.iload_n 1, 1) := by decide +kernel
theorem dJ9_min_7cf53_10 : decode cJ9_min_7cf53 10 = .ok (.ireturn, 1) := by decide +kernel
theorem dJ0_length_8abf5_0 : decode cJ0_length_8abf5 0 = .ok (.aload_n 0, 1) := by decide +kernel
theorem dJ0_length_8abf5_1 : decode cJ0_length_8abf5 1 = .ok (.getfield 9, 3) := by decide +kernel
theorem dJ0_length_8abf5_4 : decode cJ0_length_8abf5 4 = .ok (.arraylength, 1) := by decide +kernel
theorem dJ0_length_8abf5_5 : decode cJ0_length_8abf5 5 = .ok (.aload_n 0, 1) := by decide +kernel
theorem dJ0_length_8abf5_6 : decode cJ0_length_8abf5 6 = .ok (.invokevirtual 335, 3) := by decide +kernel
theorem dJ0_length_8abf5_9 : decode cJ0_length_8abf5 9 = .ok (.ishr, 1) := by decide +kernel
theorem dJ0_length_8abf5_10 : decode cJ0_length_8abf5 10 = .ok (.ireturn, 1) := by decide +kernel
theorem dJ0_charAt_5068e_0 : decode cJ0_charAt_5068e 0 = .ok (.aload_n 0, 1) := by decide +kernel
theorem dJ0_charAt_5068e_1 : decode cJ0_charAt_5068e 1 = .ok (.invokevirtual 492, 3) := by decide +kernel
theorem dJ0_charAt_5068e_4 : decode cJ0_charAt_5068e 4 = .ok (.ifCond .eq 12, 3) := by decide +kernel
theorem dJ0_charAt_5068e_7 : decode cJ0_charAt_5068e 7 = .ok (.aload_n 0, 1) := by decide +kernel
theorem dJ0_charAt_5068e_8 : decode cJ0_charAt_5068e 8 = .ok (.getfield 9, 3) := by decide +kernel
theorem dJ0_charAt_5068e_11 : decode cJ0_charAt_5068e 11 = .ok (.iload_n 1, 1) := by decide +kernel
theorem dJ0_charAt_5068e_12 : decode cJ0_charAt_5068e 12 = .ok (.invokestatic 495, 3) := by decide +kernel
theorem dJ0_charAt_5068e_15 : decode cJ0_charAt_5068e 15 = .ok (.ireturn, 1) := by decide +kernel
theorem dJ0_charAt_5068e_16 : decode cJ0_charAt_5068e 16 = .ok (.aload_n 0, 1) := by decide +kernel
theorem dJ0_charAt_5068e_17 : decode cJ0_charAt_5068e 17 = .ok (.getfield 9, 3) := by decide +kernel
theorem dJ0_charAt_5068e_20 : decode cJ0_charAt_5068e 20 = .ok (.iload_n 1, 1) := by decide +kernel
theorem dJ0_charAt_5068e_21 : decode cJ0_charAt_5068e 21 = .ok (.invokestatic 498, 3) := by decide +kernel
theorem dJ0_charAt_5068e_24 : decode cJ0_charAt_5068e 24 = .ok (.ireturn, 1) := by decide +kernel
theorem dJ0_indexOf_0f7a4_0 : decode cJ0_indexOf_0f7a4 0 = .ok (.aload_n 0, 1) := by decide +kernel
theorem dJ0_indexOf_0f7a4_1 : decode cJ0_indexOf_0f7a4 1 = .ok (.iload_n 1, 1) := by decide +kernel
theorem dJ0_indexOf_0f7a4_2 : decode cJ0_indexOf_0f7a4 2 = .ok (.iconst 0, 1) := by decide +kernel
theorem dJ0_indexOf_0f7a4_3 : decode cJ0_indexOf_0f7a4 3 = .ok (.invokevirtual 633, 3) := by decide +kernel
theorem dJ0_indexOf_0f7a4_6 : decode cJ0_indexOf_0f7a4 6 = .ok (.ireturn, 1) := by decide +kernel
theorem dJ0_indexOf_7cf53_0 : decode cJ0_indexOf_7cf53 0 = .ok (.aload_n 0, 1) := by decide +kernel
theorem dJ0_indexOf_7cf53_1 : decode cJ0_indexOf_7cf53 1 = .ok (.invokevirtual 492, 3) := by decide +kernel
theorem dJ0_indexOf_7cf53_4 : decode cJ0_indexOf_7cf53 4 = .ok (.ifCond .eq 19, 3) := by decide +kernel
theorem dJ0_indexOf_7cf53_7 : decode cJ0_indexOf_7cf53 7 = .ok (.aload_n 0, 1) := by decide +kernel
theorem dJ0_indexOf_7cf53_8 : decode cJ0_indexOf_7cf53 8 = .ok (.getfield 9, 3) := by decide +kernel
theorem dJ0_indexOf_7cf53_11 : decode cJ0_indexOf_7cf53 11 = .ok (.iload_n 1, 1) := by decide +kernel
theorem dJ0_indexOf_7cf53_12 : decode cJ0_indexOf_7cf53 12 = .ok (.iload_n 2, 1) := by decide +kernel
theorem dJ0_indexOf_7cf53_13 : decode cJ0_indexOf_7cf53 13 = .ok (.aload_n 0, 1) := by decide +kernel
theorem dJ0_indexOf_7cf53_14 : decode cJ0_indexOf_7cf53 14 = .ok (.invokevirtual 505, 3) := by decide +kernel
theorem dJ0_indexOf_7cf53_17 : decode cJ0_indexOf_7cf53 17 = .ok (.invokestatic 637, 3) := by decide +kernel
theorem dJ0_indexOf_7cf53_20 : decode cJ0_indexOf_7cf53 20 = .ok (.goto 16, 3) := by decide +kernel
theorem dJ0_indexOf_7cf53_23 : decode cJ0_indexOf_7cf53 23 = .ok (.aload_n 0, 1) := by decide +kernel
theorem dJ0_indexOf_7cf53_24 : decode cJ0_indexOf_7cf53 24 = .ok (.getfield 9, 3) := by decide +kernel
theorem dJ0_indexOf_7cf53_27 : decode cJ0_indexOf_7cf53 27 = .ok (.iload_n 1, 1) := by decide +kernel
theorem dJ0_indexOf_7cf53_28 : decode cJ0_indexOf_7cf53 28 = .ok (.iload_n 2, 1) := by decide +kernel
theorem dJ0_indexOf_7cf53_29 : decode cJ0_indexOf_7cf53 29 = .ok (.aload_n 0, 1) := by decide +kernel
theorem dJ0_indexOf_7cf53_30 : decode cJ0_indexOf_7cf53 30 = .ok (.invokevirtual 505, 3) := by decide +kernel
theorem dJ0_indexOf_7cf53_33 : decode cJ0_indexOf_7cf53 33 = .ok (.invokestatic 640, 3) := by decide +kernel
theorem dJ0_indexOf_7cf53_36 : decode cJ0_indexOf_7cf53 36 = .ok (.ireturn, 1) := by decide +kernel
theorem dJ0_coder_7d493_0 : decode cJ0_coder_7d493 0 = .ok (.getstatic 38, 3) := by decide +kernel
theorem dJ0_coder_7d493_3 : decode cJ0_coder_7d493 3 = .ok (.ifCond .eq 10, 3) := by decide +kernel
theorem dJ0_coder_7d493_6 : decode cJ0_coder_7d493 6 = .ok (.aload_n 0, 1) := by decide +kernel
theorem dJ0_coder_7d493_7 : decode cJ0_coder_7d493 7 = .ok (.getfield 15, 3) := by decide +kernel
theorem dJ0_coder_7d493_10 : decode cJ0_coder_7d493 10 = .ok (.goto 4, 3) := by decide +kernel
theorem dJ0_coder_7d493_13 : decode cJ0_coder_7d493 13 = .ok (.iconst 1, 1) := by decide +kernel
theorem dJ0_coder_7d493_14 : decode cJ0_coder_7d493 14 = .ok (.ireturn, 1) := by decide +kernel
theorem dJ0_isLatin1_aae02_0 : decode cJ0_isLatin1_aae02 0 = .ok (.getstatic 38, 3) := by decide +kernel
theorem dJ0_isLatin1_aae02_3 : decode cJ0_isLatin1_aae02 3 = .ok (.ifCond .eq 14, 3) := by decide +kernel
theorem dJ0_isLatin1_aae02_6 : decode cJ0_isLatin1_aae02 6 = .ok (.aload_n 0, 1) := by decide +kernel
theorem dJ0_isLatin1_aae02_7 : decode cJ0_isLatin1_aae02 7 = .ok (.getfield 15, 3) := by decide +kernel
theorem dJ0_isLatin1_aae02_10 : decode cJ0_isLatin1_aae02 10 = .ok (.ifCond .ne 7, 3) := by decide +kernel
theorem dJ0_isLatin1_aae02_13 : decode cJ0_isLatin1_aae02 13 = .ok (.iconst 1, 1) := by decide +kernel
theorem dJ0_isLatin1_aae02_14 : decode cJ0_isLatin1_aae02 14 = .ok (.goto 4, 3) := by decide +kernel
theorem dJ0_isLatin1_aae02_17 : decode cJ0_isLatin1_aae02 17 = .ok (.iconst 0, 1) := by decide +kernel
theorem dJ0_isLatin1_aae02_18 : decode cJ0_isLatin1_aae02 18 = .ok (.ireturn, 1) := by decide +kernel
theorem dJ0_checkIndex_df160_0 : decode cJ0_checkIndex_df160 0 = .ok (.iload_n 0, 1) := by decide +kernel
theorem dJ0_checkIndex_df160_1 : decode cJ0_checkIndex_df160 1 = .ok (.iload_n 1, 1) := by decide +kernel
theorem dJ0_checkIndex_df160_2 : decode cJ0_checkIndex_df160 2 = .ok (.getstatic 1053, 3) := by decide +kernel
theorem dJ0_checkIndex_df160_5 : decode cJ0_checkIndex_df160 5 = .ok (.invokestatic 1059, 3) := by decide +kernel
theorem dJ0_checkIndex_df160_8 : decode cJ0_checkIndex_df160 8 = .ok (.pop, 1) := by decide +kernel
theorem dJ0_checkIndex_df160_9 : decode cJ0_checkIndex_df160 9 = .ok (.return_, 1) := by decide +kernel
theorem dJ0_checkBoundsBeginEnd_23922_0 : decode cJ0_checkBoundsBeginEnd_23922 0 = .ok (.iload_n 0, 1) := by decide +kernel
theorem dJ0_checkBoundsBeginEnd_23922_1 : decode cJ0_checkBoundsBeginEnd_23922 1 = .ok (.iload_n 1, 1) := by decide +kernel
theorem dJ0_checkBoundsBeginEnd_23922_2 : decode cJ0_checkBoundsBeginEnd_23922 2 = .ok (.iload_n 2, 1) := by decide +kernel
theorem dJ0_checkBoundsBeginEnd_23922_3 : decode cJ0_checkBoundsBeginEnd_23922 3 = .ok (.getstatic 1053, 3) := by decide +kernel
theorem dJ0_checkBoundsBeginEnd_23922_6 : decode cJ0_checkBoundsBeginEnd_23922 6 = .ok (.invokestatic 1062, 3) := by decide +kernel
theorem dJ0_checkBoundsBeginEnd_23922_9 : decode cJ0_checkBoundsBeginEnd_23922 9 = .ok (.pop, 1) := by decide +kernel
theorem dJ0_checkBoundsBeginEnd_23922_10 : decode cJ0_checkBoundsBeginEnd_23922 10 = .ok (.return_, 1) := by decide +kernel
theorem dJ1_charAt_3b067_0 : decode cJ1_charAt_3b067 0 = .ok (.iload_n 1, 1) := by decide +kernel
theorem dJ1_charAt_3b067_1 : decode cJ1_charAt_3b067 1 = .ok (.aload_n 0, 1) := by decide +kernel
theorem dJ1_charAt_3b067_2 : decode cJ1_charAt_3b067 2 = .ok (.arraylength, 1) := by decide +kernel
theorem dJ1_charAt_3b067_3 : decode cJ1_charAt_3b067 3 = .ok (.invokestatic 9, 3) := by decide +kernel
theorem dJ1_charAt_3b067_6 : decode cJ1_charAt_3b067 6 = .ok (.aload_n 0, 1) := by decide +kernel
theorem dJ1_charAt_3b067_7 : decode cJ1_charAt_3b067 7 = .ok (.iload_n 1, 1) := by decide +kernel
theorem dJ1_charAt_3b067_8 : decode cJ1_charAt_3b067 8 = .ok (.baload, 1) := by decide +kernel
theorem dJ1_charAt_3b067_9 : decode cJ1_charAt_3b067 9 = .ok (.sipush 255, 3) := by decide +kernel
theorem dJ1_charAt_3b067_12 : decode cJ1_charAt_3b067 12 = .ok (.iand, 1) := by decide +kernel
theorem dJ1_charAt_3b067_13 : decode cJ1_charAt_3b067 13 = .ok (.i2c, 1) := by decide +kernel
theorem dJ1_charAt_3b067_14 : decode cJ1_charAt_3b067 14 = .ok (.ireturn, 1) := by decide +kernel
theorem dJ1_canEncode_9a6ad_0 : decode cJ1_canEncode_9a6ad 0 = .ok (.iload_n 0, 1) := by decide +kernel
theorem dJ1_canEncode_9a6ad_1 : decode cJ1_canEncode_9a6ad 1 = .ok (.ifCond .lt 14, 3) := by decide +kernel
theorem dJ1_canEncode_9a6ad_4 : decode cJ1_canEncode_9a6ad 4 = .ok (.iload_n 0, 1) := by decide +kernel
theorem dJ1_canEncode_9a6ad_5 : decode cJ1_canEncode_9a6ad 5 = .ok (.sipush 255, 3) := by decide +kernel
theorem dJ1_canEncode_9a6ad_8 : decode cJ1_canEncode_9a6ad 8 = .ok (.if_icmp .gt 7, 3) := by decide +kernel
theorem dJ1_canEncode_9a6ad_11 : decode cJ1_canEncode_9a6ad 11 = .ok (.iconst 1, 1) := by decide +kernel
theorem dJ1_canEncode_9a6ad_12 : decode cJ1_canEncode_9a6ad 12 = .ok (.goto 4, 3) := by decide +kernel
theorem dJ1_canEncode_9a6ad_15 : decode cJ1_canEncode_9a6ad 15 = .ok (.iconst 0, 1) := by decide +kernel
theorem dJ1_canEncode_9a6ad_16 : decode cJ1_canEncode_9a6ad 16 = .ok (.ireturn, 1) := by decide +kernel
theorem dJ1_indexOf_4cfef_0 : decode cJ1_indexOf_4cfef 0 = .ok (.iload_n 1, 1) := by decide +kernel
theorem dJ1_indexOf_4cfef_1 : decode cJ1_indexOf_4cfef 1 = .ok (.invokestatic 88, 3) := by decide +kernel
theorem dJ1_indexOf_4cfef_4 : decode cJ1_indexOf_4cfef 4 = .ok (.ifCond .ne 5, 3) := by decide +kernel
theorem dJ1_indexOf_4cfef_7 : decode cJ1_indexOf_4cfef 7 = .ok (.iconst (-1), 1) := by decide +kernel
theorem dJ1_indexOf_4cfef_8 : decode cJ1_indexOf_4cfef 8 = .ok (.ireturn, 1) := by decide +kernel
theorem dJ1_indexOf_4cfef_9 : decode cJ1_indexOf_4cfef 9 = .ok (.iload_n 2, 1) := by decide +kernel
theorem dJ1_indexOf_4cfef_10 : decode cJ1_indexOf_4cfef 10 = .ok (.iconst 0, 1) := by decide +kernel
theorem dJ1_indexOf_4cfef_11 : decode cJ1_indexOf_4cfef 11 = .ok (.invokestatic 92, 3) := by decide +kernel
theorem dJ1_indexOf_4cfef_14 : decode cJ1_indexOf_4cfef 14 = .ok (.istore_n 2, 1) := by decide +kernel
theorem dJ1_indexOf_4cfef_15 : decode cJ1_indexOf_4cfef 15 = .ok (.iload_n 3, 1) := by decide +kernel
theorem dJ1_indexOf_4cfef_16 : decode cJ1_indexOf_4cfef 16 = .ok (.aload_n 0, 1) := by decide +kernel
theorem dJ1_indexOf_4cfef_17 : decode cJ1_indexOf_4cfef 17 = .ok (.arraylength, 1) := by decide +kernel
theorem dJ1_indexOf_4cfef_18 : decode cJ1_indexOf_4cfef 18 = .ok (.invokestatic 38, 3) := by decide +kernel
theorem dJ1_indexOf_4cfef_21 : decode cJ1_indexOf_4cfef 21 = .ok (.istore_n 3, 1) := by decide +kernel
theorem dJ1_indexOf_4cfef_22 : decode cJ1_indexOf_4cfef 22 = .ok (.iload_n 2, 1) := by decide +kernel
theorem dJ1_indexOf_4cfef_23 : decode cJ1_indexOf_4cfef 23 = .ok (.iload_n 3, 1) := by decide +kernel
theorem dJ1_indexOf_4cfef_24 : decode cJ1_indexOf_4cfef 24 = .ok (.if_icmp .lt 5, 3) := by decide +kernel
theorem dJ1_indexOf_4cfef_27 : decode cJ1_indexOf_4cfef 27 = .ok (.iconst (-1), 1) := by decide +kernel
theorem dJ1_indexOf_4cfef_28 : decode cJ1_indexOf_4cfef 28 = .ok (.ireturn, 1) := by decide +kernel
theorem dJ1_indexOf_4cfef_29 : decode cJ1_indexOf_4cfef 29 = .ok (.aload_n 0, 1) := by decide +kernel
theorem dJ1_indexOf_4cfef_30 : decode cJ1_indexOf_4cfef 30 = .ok (.iload_n 1, 1) := by decide +kernel
theorem dJ1_indexOf_4cfef_31 : decode cJ1_indexOf_4cfef 31 = .ok (.iload_n 2, 1) := by decide +kernel
theorem dJ1_indexOf_4cfef_32 : decode cJ1_indexOf_4cfef 32 = .ok (.iload_n 3, 1) := by decide +kernel
theorem dJ1_indexOf_4cfef_33 : decode cJ1_indexOf_4cfef 33 = .ok (.invokestatic 95, 3) := by decide +kernel
theorem dJ1_indexOf_4cfef_36 : decode cJ1_indexOf_4cfef 36 = .ok (.ireturn, 1) := by decide +kernel
theorem dJ1_indexOfChar_4cfef_0 : decode cJ1_indexOfChar_4cfef 0 = .ok (.iload_n 1, 1) := by decide +kernel
theorem dJ1_indexOfChar_4cfef_1 : decode cJ1_indexOfChar_4cfef 1 = .ok (.i2b, 1) := by decide +kernel
theorem dJ1_indexOfChar_4cfef_2 : decode cJ1_indexOfChar_4cfef 2 = .ok (.istore 4, 2) := by decide +kernel
theorem dJ1_indexOfChar_4cfef_4 : decode cJ1_indexOfChar_4cfef 4 = .ok (.iload_n 2, 1) := by decide +kernel
theorem dJ1_indexOfChar_4cfef_5 : decode cJ1_indexOfChar_4cfef 5 = .ok (.istore 5, 2) := by decide +kernel
theorem dJ1_indexOfChar_4cfef_7 : decode cJ1_indexOfChar_4cfef 7 = .ok (.iload 5, 2) := by decide +kernel
theorem dJ1_indexOfChar_4cfef_9 : decode cJ1_indexOfChar_4cfef 9 = .ok (.iload_n 3, 1) := by decide +kernel
theorem dJ1_indexOfChar_4cfef_10 : decode cJ1_indexOfChar_4cfef 10 = .ok (.if_icmp .ge 21, 3) := by decide +kernel
theorem dJ1_indexOfChar_4cfef_13 : decode cJ1_indexOfChar_4cfef 13 = .ok (.aload_n 0, 1) := by decide +kernel
theorem dJ1_indexOfChar_4cfef_14 : decode cJ1_indexOfChar_4cfef 14 = .ok (.iload 5, 2) := by decide +kernel
theorem dJ1_indexOfChar_4cfef_16 : decode cJ1_indexOfChar_4cfef 16 = .ok (.baload, 1) := by decide +kernel
theorem dJ1_indexOfChar_4cfef_17 : decode cJ1_indexOfChar_4cfef 17 = .ok (.iload 4, 2) := by decide +kernel
theorem dJ1_indexOfChar_4cfef_19 : decode cJ1_indexOfChar_4cfef 19 = .ok (.if_icmp .ne 6, 3) := by decide +kernel
theorem dJ1_indexOfChar_4cfef_22 : decode cJ1_indexOfChar_4cfef 22 = .ok (.iload 5, 2) := by decide +kernel
theorem dJ1_indexOfChar_4cfef_24 : decode cJ1_indexOfChar_4cfef 24 = .ok (.ireturn, 1) := by decide +kernel
theorem dJ1_indexOfChar_4cfef_25 : decode cJ1_indexOfChar_4cfef 25 = .ok (.iinc 5 1, 3) := by decide +kernel
theorem dJ1_indexOfChar_4cfef_28 : decode cJ1_indexOfChar_4cfef 28 = .ok (.goto (-21), 3) := by decide +kernel
theorem dJ1_indexOfChar_4cfef_31 : decode cJ1_indexOfChar_4cfef 31 = .ok (.iconst (-1), 1) := by decide +kernel
theorem dJ1_indexOfChar_4cfef_32 : decode cJ1_indexOfChar_4cfef 32 = .ok (.ireturn, 1) := by decide +kernel
theorem dJ3_checkIndex_8e157_0 : decode cJ3_checkIndex_8e157 0 = .ok (.iload_n 0, 1) := by decide +kernel
theorem dJ3_checkIndex_8e157_1 : decode cJ3_checkIndex_8e157 1 = .ok (.ifCond .lt 8, 3) := by decide +kernel
theorem dJ3_checkIndex_8e157_4 : decode cJ3_checkIndex_8e157 4 = .ok (.iload_n 0, 1) := by decide +kernel
theorem dJ3_checkIndex_8e157_5 : decode cJ3_checkIndex_8e157 5 = .ok (.iload_n 1, 1) := by decide +kernel
theorem dJ3_checkIndex_8e157_6 : decode cJ3_checkIndex_8e157 6 = .ok (.if_icmp .lt 10, 3) := by decide +kernel
theorem dJ3_checkIndex_8e157_9 : decode cJ3_checkIndex_8e157 9 = .ok (.aload_n 2, 1) := by decide +kernel
theorem dJ3_checkIndex_8e157_10 : decode cJ3_checkIndex_8e157 10 = .ok (.iload_n 0, 1) := by decide +kernel
theorem dJ3_checkIndex_8e157_11 : decode cJ3_checkIndex_8e157 11 = .ok (.iload_n 1, 1) := by decide +kernel
theorem dJ3_checkIndex_8e157_12 : decode cJ3_checkIndex_8e157 12 = .ok (.invokestatic 95, 3) := by decide +kernel
theorem dJ3_checkIndex_8e157_15 : decode cJ3_checkIndex_8e157 15 = .ok (.athrow, 1) := by decide +kernel
theorem dJ3_checkIndex_8e157_16 : decode cJ3_checkIndex_8e157 16 = .ok (.iload_n 0, 1) := by decide +kernel
theorem dJ3_checkIndex_8e157_17 : decode cJ3_checkIndex_8e157 17 = .ok (.ireturn, 1) := by decide +kernel
theorem dJ3_checkFromToIndex_8c36e_0 : decode cJ3_checkFromToIndex_8c36e 0 = .ok (.iload_n 0, 1) := by decide +kernel
theorem dJ3_checkFromToIndex_8c36e_1 : decode cJ3_checkFromToIndex_8c36e 1 = .ok (.ifCond .lt 13, 3) := by decide +kernel
theorem dJ3_checkFromToIndex_8c36e_4 : decode cJ3_checkFromToIndex_8c36e 4 = .ok (.iload_n 0, 1) := by decide +kernel
theorem dJ3_checkFromToIndex_8c36e_5 : decode cJ3_checkFromToIndex_8c36e 5 = .ok (.iload_n 1, 1) := by decide +kernel
theorem dJ3_checkFromToIndex_8c36e_6 : decode cJ3_checkFromToIndex_8c36e 6 = .ok (.if_icmp .gt 8, 3) := by decide +kernel
theorem dJ3_checkFromToIndex_8c36e_9 : decode cJ3_checkFromToIndex_8c36e 9 = .ok (.iload_n 1, 1) := by decide +kernel
theorem dJ3_checkFromToIndex_8c36e_10 : decode cJ3_checkFromToIndex_8c36e 10 = .ok (.iload_n 2, 1) := by decide +kernel
theorem dJ3_checkFromToIndex_8c36e_11 : decode cJ3_checkFromToIndex_8c36e 11 = .ok (.if_icmp .le 11, 3) := by decide +kernel
theorem dJ3_checkFromToIndex_8c36e_14 : decode cJ3_checkFromToIndex_8c36e 14 = .ok (.aload_n 3, 1) := by decide +kernel
theorem dJ3_checkFromToIndex_8c36e_15 : decode cJ3_checkFromToIndex_8c36e 15 = .ok (.iload_n 0, 1) := by decide +kernel
theorem dJ3_checkFromToIndex_8c36e_16 : decode cJ3_checkFromToIndex_8c36e 16 = .ok (.iload_n 1, 1) := by decide +kernel
theorem dJ3_checkFromToIndex_8c36e_17 : decode cJ3_checkFromToIndex_8c36e 17 = .ok (.iload_n 2, 1) := by decide +kernel
theorem dJ3_checkFromToIndex_8c36e_18 : decode cJ3_checkFromToIndex_8c36e 18 = .ok (.invokestatic 99, 3) := by decide +kernel
theorem dJ3_checkFromToIndex_8c36e_21 : decode cJ3_checkFromToIndex_8c36e 21 = .ok (.athrow, 1) := by decide +kernel
theorem dJ3_checkFromToIndex_8c36e_22 : decode cJ3_checkFromToIndex_8c36e 22 = .ok (.iload_n 0, 1) := by decide +kernel
theorem dJ3_checkFromToIndex_8c36e_23 : decode cJ3_checkFromToIndex_8c36e 23 = .ok (.ireturn, 1) := by decide +kernel
theorem dL_law_0 : decode cL_law 0 = .ok (.new 7, 3) := by decide +kernel
theorem dL_law_3 : decode cL_law 3 = .ok (.dup, 1) := by decide +kernel
theorem dL_law_4 : decode cL_law 4 = .ok (.invokespecial 9, 3) := by decide +kernel
theorem dL_law_7 : decode cL_law 7 = .ok (.astore_n 1, 1) := by decide +kernel
theorem dL_law_8 : decode cL_law 8 = .ok (.new 10, 3) := by decide +kernel
theorem dL_law_11 : decode cL_law 11 = .ok (.dup, 1) := by decide +kernel
theorem dL_law_12 : decode cL_law 12 = .ok (.invokespecial 12, 3) := by decide +kernel
theorem dL_law_15 : decode cL_law 15 = .ok (.astore_n 2, 1) := by decide +kernel
theorem dL_law_16 : decode cL_law 16 = .ok (.iconst 0, 1) := by decide +kernel
theorem dL_law_17 : decode cL_law 17 = .ok (.istore_n 3, 1) := by decide +kernel
theorem dL_law_18 : decode cL_law 18 = .ok (.iload_n 3, 1) := by decide +kernel
theorem dL_law_19 : decode cL_law 19 = .ok (.aload_n 0, 1) := by decide +kernel
theorem dL_law_20 : decode cL_law 20 = .ok (.arraylength, 1) := by decide +kernel
theorem dL_law_21 : decode cL_law 21 = .ok (.bipush 6, 2) := by decide +kernel
theorem dL_law_23 : decode cL_law 23 = .ok (.isub, 1) := by decide +kernel
theorem dL_law_24 : decode cL_law 24 = .ok (.if_icmp .gt 1157, 3) := by decide +kernel
theorem dL_law_27 : decode cL_law 27 = .ok (.aload_n 0, 1) := by decide +kernel
theorem dL_law_28 : decode cL_law 28 = .ok (.iload_n 3, 1) := by decide +kernel
theorem dL_law_29 : decode cL_law 29 = .ok (.iaload, 1) := by decide +kernel
theorem dL_law_30 : decode cL_law 30 = .ok (.bipush 31, 2) := by decide +kernel
theorem dL_law_32 : decode cL_law 32 = .ok (.iand, 1) := by decide +kernel
theorem dL_law_33 : decode cL_law 33 = .ok (.tableswitch 1142 0 27 #[127, 170, 203, 246, 279, 302, 315, 338, 381, 414, 467, 510, 533, 566, 599, 642, 685, 738, 791, 814, 858, 871, 884, 907, 950, 993, 1056, 1109], 127) := by decide +kernel
theorem dL_law_160 : decode cL_law 160 = .ok (.aload_n 1, 1) := by decide +kernel
theorem dL_law_161 : decode cL_law 161 = .ok (.aload_n 0, 1) := by decide +kernel
theorem dL_law_162 : decode cL_law 162 = .ok (.iload_n 3, 1) := by decide +kernel
theorem dL_law_163 : decode cL_law 163 = .ok (.iconst 1, 1) := by decide +kernel
theorem dL_law_164 : decode cL_law 164 = .ok (.iadd, 1) := by decide +kernel
theorem dL_law_165 : decode cL_law 165 = .ok (.iaload, 1) := by decide +kernel
theorem dL_law_166 : decode cL_law 166 = .ok (.aload_n 0, 1) := by decide +kernel
theorem dL_law_167 : decode cL_law 167 = .ok (.iload_n 3, 1) := by decide +kernel
theorem dL_law_168 : decode cL_law 168 = .ok (.iconst 2, 1) := by decide +kernel
theorem dL_law_169 : decode cL_law 169 = .ok (.iadd, 1) := by decide +kernel
theorem dL_law_170 : decode cL_law 170 = .ok (.iaload, 1) := by decide +kernel
theorem dL_law_171 : decode cL_law 171 = .ok (.aload_n 0, 1) := by decide +kernel
theorem dL_law_172 : decode cL_law 172 = .ok (.iload_n 3, 1) := by decide +kernel
theorem dL_law_173 : decode cL_law 173 = .ok (.iconst 3, 1) := by decide +kernel
theorem dL_law_174 : decode cL_law 174 = .ok (.iadd, 1) := by decide +kernel
theorem dL_law_175 : decode cL_law 175 = .ok (.iaload, 1) := by decide +kernel
theorem dL_law_176 : decode cL_law 176 = .ok (.invokevirtual 13, 3) := by decide +kernel
theorem dL_law_179 : decode cL_law 179 = .ok (.aload_n 2, 1) := by decide +kernel
theorem dL_law_180 : decode cL_law 180 = .ok (.aload_n 0, 1) := by decide +kernel
theorem dL_law_181 : decode cL_law 181 = .ok (.iload_n 3, 1) := by decide +kernel
theorem dL_law_182 : decode cL_law 182 = .ok (.iconst 1, 1) := by decide +kernel
theorem dL_law_183 : decode cL_law 183 = .ok (.iadd, 1) := by decide +kernel
theorem dL_law_184 : decode cL_law 184 = .ok (.iaload, 1) := by decide +kernel
theorem dL_law_185 : decode cL_law 185 = .ok (.aload_n 0, 1) := by decide +kernel
theorem dL_law_186 : decode cL_law 186 = .ok (.iload_n 3, 1) := by decide +kernel
theorem dL_law_187 : decode cL_law 187 = .ok (.iconst 2, 1) := by decide +kernel
theorem dL_law_188 : decode cL_law 188 = .ok (.iadd, 1) := by decide +kernel
theorem dL_law_189 : decode cL_law 189 = .ok (.iaload, 1) := by decide +kernel
theorem dL_law_190 : decode cL_law 190 = .ok (.aload_n 0, 1) := by decide +kernel
theorem dL_law_191 : decode cL_law 191 = .ok (.iload_n 3, 1) := by decide +kernel
theorem dL_law_192 : decode cL_law 192 = .ok (.iconst 3, 1) := by decide +kernel
theorem dL_law_193 : decode cL_law 193 = .ok (.iadd, 1) := by decide +kernel
theorem dL_law_194 : decode cL_law 194 = .ok (.iaload, 1) := by decide +kernel
theorem dL_law_195 : decode cL_law 195 = .ok (.invokevirtual 17, 3) := by decide +kernel
theorem dL_law_198 : decode cL_law 198 = .ok (.if_icmp .eq 977, 3) := by decide +kernel
theorem dL_law_201 : decode cL_law 201 = .ok (.iconst 0, 1) := by decide +kernel
theorem dL_law_202 : decode cL_law 202 = .ok (.ireturn, 1) := by decide +kernel
theorem dL_law_203 : decode cL_law 203 = .ok (.aload_n 1, 1) := by decide +kernel
theorem dL_law_204 : decode cL_law 204 = .ok (.aload_n 0, 1) := by decide +kernel
theorem dL_law_205 : decode cL_law 205 = .ok (.iload_n 3, 1) := by decide +kernel
theorem dL_law_206 : decode cL_law 206 = .ok (.iconst 1, 1) := by decide +kernel
theorem dL_law_207 : decode cL_law 207 = .ok (.iadd, 1) := by decide +kernel
theorem dL_law_208 : decode cL_law 208 = .ok (.iaload, 1) := by decide +kernel
theorem dL_law_209 : decode cL_law 209 = .ok (.aload_n 0, 1) := by decide +kernel
theorem dL_law_210 : decode cL_law 210 = .ok (.iload_n 3, 1) := by decide +kernel
theorem dL_law_211 : decode cL_law 211 = .ok (.iconst 2, 1) := by decide +kernel
theorem dL_law_212 : decode cL_law 212 = .ok (.iadd, 1) := by decide +kernel
theorem dL_law_213 : decode cL_law 213 = .ok (.iaload, 1) := by decide +kernel
theorem dL_law_214 : decode cL_law 214 = .ok (.invokevirtual 18, 3) := by decide +kernel
theorem dL_law_217 : decode cL_law 217 = .ok (.aload_n 2, 1) := by decide +kernel
theorem dL_law_218 : decode cL_law 218 = .ok (.aload_n 0, 1) := by decide +kernel
theorem dL_law_219 : decode cL_law 219 = .ok (.iload_n 3, 1) := by decide +kernel
theorem dL_law_220 : decode cL_law 220 = .ok (.iconst 1, 1) := by decide +kernel
theorem dL_law_221 : decode cL_law 221 = .ok (.iadd, 1) := by decide +kernel
theorem dL_law_222 : decode cL_law 222 = .ok (.iaload, 1) := by decide +kernel
theorem dL_law_223 : decode cL_law 223 = .ok (.aload_n 0, 1) := by decide +kernel
theorem dL_law_224 : decode cL_law 224 = .ok (.iload_n 3, 1) := by decide +kernel
theorem dL_law_225 : decode cL_law 225 = .ok (.iconst 2, 1) := by decide +kernel
theorem dL_law_226 : decode cL_law 226 = .ok (.iadd, 1) := by decide +kernel
theorem dL_law_227 : decode cL_law 227 = .ok (.iaload, 1) := by decide +kernel
theorem dL_law_228 : decode cL_law 228 = .ok (.invokevirtual 22, 3) := by decide +kernel
theorem dL_law_231 : decode cL_law 231 = .ok (.if_icmp .eq 944, 3) := by decide +kernel
theorem dL_law_234 : decode cL_law 234 = .ok (.iconst 0, 1) := by decide +kernel
theorem dL_law_235 : decode cL_law 235 = .ok (.ireturn, 1) := by decide +kernel
theorem dL_law_236 : decode cL_law 236 = .ok (.aload_n 1, 1) := by decide +kernel
theorem dL_law_237 : decode cL_law 237 = .ok (.aload_n 0, 1) := by decide +kernel
theorem dL_law_238 : decode cL_law 238 = .ok (.iload_n 3, 1) := by decide +kernel
theorem dL_law_239 : decode cL_law 239 = .ok (.iconst 1, 1) := by decide +kernel
theorem dL_law_240 : decode cL_law 240 = .ok (.iadd, 1) := by decide +kernel
theorem dL_law_241 : decode cL_law 241 = .ok (.iaload, 1) := by decide +kernel
theorem dL_law_242 : decode cL_law 242 = .ok (.aload_n 0, 1) := by decide +kernel
theorem dL_law_243 : decode cL_law 243 = .ok (.iload_n 3, 1) := by decide +kernel
theorem dL_law_244 : decode cL_law 244 = .ok (.iconst 2, 1) := by decide +kernel
theorem dL_law_245 : decode cL_law 245 = .ok (.iadd, 1) := by decide +kernel
theorem dL_law_246 : decode cL_law 246 = .ok (.iaload, 1) := by decide +kernel
theorem dL_law_247 : decode cL_law 247 = .ok (.aload_n 0, 1) := by decide +kernel
theorem dL_law_248 : decode cL_law 248 = .ok (.iload_n 3, 1) := by decide +kernel
theorem dL_law_249 : decode cL_law 249 = .ok (.iconst 3, 1) := by decide +kernel
theorem dL_law_250 : decode cL_law 250 = .ok (.iadd, 1) := by decide +kernel
theorem dL_law_251 : decode cL_law 251 = .ok (.iaload, 1) := by decide +kernel
theorem dL_law_252 : decode cL_law 252 = .ok (.invokevirtual 23, 3) := by decide +kernel
theorem dL_law_255 : decode cL_law 255 = .ok (.aload_n 2, 1) := by decide +kernel
theorem dL_law_256 : decode cL_law 256 = .ok (.aload_n 0, 1) := by decide +kernel
theorem dL_law_257 : decode cL_law 257 = .ok (.iload_n 3, 1) := by decide +kernel
theorem dL_law_258 : decode cL_law 258 = .ok (.iconst 1, 1) := by decide +kernel
theorem dL_law_259 : decode cL_law 259 = .ok (.iadd, 1) := by decide +kernel
theorem dL_law_260 : decode cL_law 260 = .ok (.iaload, 1) := by decide +kernel
theorem dL_law_261 : decode cL_law 261 = .ok (.aload_n 0, 1) := by decide +kernel
theorem dL_law_262 : decode cL_law 262 = .ok (.iload_n 3, 1) := by decide +kernel
theorem dL_law_263 : decode cL_law 263 = .ok (.iconst 2, 1) := by decide +kernel
theorem dL_law_264 : decode cL_law 264 = .ok (.iadd, 1) := by decide +kernel
theorem dL_law_265 : decode cL_law 265 = .ok (.iaload, 1) := by decide +kernel
theorem dL_law_266 : decode cL_law 266 = .ok (.aload_n 0, 1) := by decide +kernel
theorem dL_law_267 : decode cL_law 267 = .ok (.iload_n 3, 1) := by decide +kernel
theorem dL_law_268 : decode cL_law 268 = .ok (.iconst 3, 1) := by decide +kernel
theorem dL_law_269 : decode cL_law 269 = .ok (.iadd, 1) := by decide +kernel
theorem dL_law_270 : decode cL_law 270 = .ok (.iaload, 1) := by decide +kernel
theorem dL_law_271 : decode cL_law 271 = .ok (.invokevirtual 26, 3) := by decide +kernel
theorem dL_law_274 : decode cL_law 274 = .ok (.if_icmp .eq 901, 3) := by decide +kernel
theorem dL_law_277 : decode cL_law 277 = .ok (.iconst 0, 1) := by decide +kernel
theorem dL_law_278 : decode cL_law 278 = .ok (.ireturn, 1) := by decide +kernel
theorem dL_law_279 : decode cL_law 279 = .ok (.aload_n 1, 1) := by decide +kernel
theorem dL_law_280 : decode cL_law 280 = .ok (.aload_n 0, 1) := by decide +kernel
theorem dL_law_281 : decode cL_law 281 = .ok (.iload_n 3, 1) := by decide +kernel
theorem dL_law_282 : decode cL_law 282 = .ok (.iconst 1, 1) := by decide +kernel
theorem dL_law_283 : decode cL_law 283 = .ok (.iadd, 1) := by decide +kernel
theorem dL_law_284 : decode cL_law 284 = .ok (.iaload, 1) := by decide +kernel
theorem dL_law_285 : decode cL_law 285 = .ok (.aload_n 0, 1) := by decide +kernel
theorem dL_law_286 : decode cL_law 286 = .ok (.iload_n 3, 1) := by decide +kernel
theorem dL_law_287 : decode cL_law 287 = .ok (.iconst 2, 1) := by decide +kernel
theorem dL_law_288 : decode cL_law 288 = .ok (.iadd, 1) := by decide +kernel
theorem dL_law_289 : decode cL_law 289 = .ok (.iaload, 1) := by decide +kernel
theorem dL_law_290 : decode cL_law 290 = .ok (.invokevirtual 27, 3) := by decide +kernel
theorem dL_law_293 : decode cL_law 293 = .ok (.aload_n 2, 1) := by decide +kernel
theorem dL_law_294 : decode cL_law 294 = .ok (.aload_n 0, 1) := by decide +kernel
theorem dL_law_295 : decode cL_law 295 = .ok (.iload_n 3, 1) := by decide +kernel
theorem dL_law_296 : decode cL_law 296 = .ok (.iconst 1, 1) := by decide +kernel
theorem dL_law_297 : decode cL_law 297 = .ok (.iadd, 1) := by decide +kernel
theorem dL_law_298 : decode cL_law 298 = .ok (.iaload, 1) := by decide +kernel
theorem dL_law_299 : decode cL_law 299 = .ok (.aload_n 0, 1) := by decide +kernel
theorem dL_law_300 : decode cL_law 300 = .ok (.iload_n 3, 1) := by decide +kernel
theorem dL_law_301 : decode cL_law 301 = .ok (.iconst 2, 1) := by decide +kernel
theorem dL_law_302 : decode cL_law 302 = .ok (.iadd, 1) := by decide +kernel
theorem dL_law_303 : decode cL_law 303 = .ok (.iaload, 1) := by decide +kernel
theorem dL_law_304 : decode cL_law 304 = .ok (.invokevirtual 30, 3) := by decide +kernel
theorem dL_law_307 : decode cL_law 307 = .ok (.if_icmp .eq 868, 3) := by decide +kernel
theorem dL_law_310 : decode cL_law 310 = .ok (.iconst 0, 1) := by decide +kernel
theorem dL_law_311 : decode cL_law 311 = .ok (.ireturn, 1) := by decide +kernel
theorem dL_law_312 : decode cL_law 312 = .ok (.aload_n 1, 1) := by decide +kernel
theorem dL_law_313 : decode cL_law 313 = .ok (.aload_n 0, 1) := by decide +kernel
theorem dL_law_314 : decode cL_law 314 = .ok (.iload_n 3, 1) := by decide +kernel
theorem dL_law_315 : decode cL_law 315 = .ok (.iconst 1, 1) := by decide +kernel
theorem dL_law_316 : decode cL_law 316 = .ok (.iadd, 1) := by decide +kernel
theorem dL_law_317 : decode cL_law 317 = .ok (.iaload, 1) := by decide +kernel
theorem dL_law_318 : decode cL_law 318 = .ok (.invokevirtual 31, 3) := by decide +kernel
theorem dL_law_321 : decode cL_law 321 = .ok (.aload_n 2, 1) := by decide +kernel
theorem dL_law_322 : decode cL_law 322 = .ok (.aload_n 0, 1) := by decide +kernel
theorem dL_law_323 : decode cL_law 323 = .ok (.iload_n 3, 1) := by decide +kernel
theorem dL_law_324 : decode cL_law 324 = .ok (.iconst 1, 1) := by decide +kernel
theorem dL_law_325 : decode cL_law 325 = .ok (.iadd, 1) := by decide +kernel
theorem dL_law_326 : decode cL_law 326 = .ok (.iaload, 1) := by decide +kernel
theorem dL_law_327 : decode cL_law 327 = .ok (.invokevirtual 35, 3) := by decide +kernel
theorem dL_law_330 : decode cL_law 330 = .ok (.if_icmp .eq 845, 3) := by decide +kernel
theorem dL_law_333 : decode cL_law 333 = .ok (.iconst 0, 1) := by decide +kernel
theorem dL_law_334 : decode cL_law 334 = .ok (.ireturn, 1) := by decide +kernel
theorem dL_law_335 : decode cL_law 335 = .ok (.aload_n 1, 1) := by decide +kernel
theorem dL_law_336 : decode cL_law 336 = .ok (.invokevirtual 36, 3) := by decide +kernel
theorem dL_law_339 : decode cL_law 339 = .ok (.aload_n 2, 1) := by decide +kernel
theorem dL_law_340 : decode cL_law 340 = .ok (.invokevirtual 40, 3) := by decide +kernel
theorem dL_law_343 : decode cL_law 343 = .ok (.if_icmp .eq 832, 3) := by decide +kernel
theorem dL_law_346 : decode cL_law 346 = .ok (.iconst 0, 1) := by decide +kernel
theorem dL_law_347 : decode cL_law 347 = .ok (.ireturn, 1) := by decide +kernel
theorem dL_law_348 : decode cL_law 348 = .ok (.aload_n 1, 1) := by decide +kernel
theorem dL_law_349 : decode cL_law 349 = .ok (.aload_n 0, 1) := by decide +kernel
theorem dL_law_350 : decode cL_law 350 = .ok (.iload_n 3, 1) := by decide +kernel
theorem dL_law_351 : decode cL_law 351 = .ok (.iconst 1, 1) := by decide +kernel
theorem dL_law_352 : decode cL_law 352 = .ok (.iadd, 1) := by decide +kernel
theorem dL_law_353 : decode cL_law 353 = .ok (.iaload, 1) := by decide +kernel
theorem dL_law_354 : decode cL_law 354 = .ok (.invokevirtual 41, 3) := by decide +kernel
theorem dL_law_357 : decode cL_law 357 = .ok (.aload_n 2, 1) := by decide +kernel
theorem dL_law_358 : decode cL_law 358 = .ok (.aload_n 0, 1) := by decide +kernel
theorem dL_law_359 : decode cL_law 359 = .ok (.iload_n 3, 1) := by decide +kernel
theorem dL_law_360 : decode cL_law 360 = .ok (.iconst 1, 1) := by decide +kernel
theorem dL_law_361 : decode cL_law 361 = .ok (.iadd, 1) := by decide +kernel
theorem dL_law_362 : decode cL_law 362 = .ok (.iaload, 1) := by decide +kernel
theorem dL_law_363 : decode cL_law 363 = .ok (.invokevirtual 44, 3) := by decide +kernel
theorem dL_law_366 : decode cL_law 366 = .ok (.if_icmp .eq 809, 3) := by decide +kernel
theorem dL_law_369 : decode cL_law 369 = .ok (.iconst 0, 1) := by decide +kernel
theorem dL_law_370 : decode cL_law 370 = .ok (.ireturn, 1) := by decide +kernel
theorem dL_law_371 : decode cL_law 371 = .ok (.aload_n 1, 1) := by decide +kernel
theorem dL_law_372 : decode cL_law 372 = .ok (.aload_n 0, 1) := by decide +kernel
theorem dL_law_373 : decode cL_law 373 = .ok (.iload_n 3, 1) := by decide +kernel
theorem dL_law_374 : decode cL_law 374 = .ok (.iconst 1, 1) := by decide +kernel
theorem dL_law_375 : decode cL_law 375 = .ok (.iadd, 1) := by decide +kernel
theorem dL_law_376 : decode cL_law 376 = .ok (.iaload, 1) := by decide +kernel
theorem dL_law_377 : decode cL_law 377 = .ok (.aload_n 0, 1) := by decide +kernel
theorem dL_law_378 : decode cL_law 378 = .ok (.iload_n 3, 1) := by decide +kernel
theorem dL_law_379 : decode cL_law 379 = .ok (.iconst 2, 1) := by decide +kernel
theorem dL_law_380 : decode cL_law 380 = .ok (.iadd, 1) := by decide +kernel
theorem dL_law_381 : decode cL_law 381 = .ok (.iaload, 1) := by decide +kernel
theorem dL_law_382 : decode cL_law 382 = .ok (.aload_n 0, 1) := by decide +kernel
theorem dL_law_383 : decode cL_law 383 = .ok (.iload_n 3, 1) := by decide +kernel
theorem dL_law_384 : decode cL_law 384 = .ok (.iconst 3, 1) := by decide +kernel
theorem dL_law_385 : decode cL_law 385 = .ok (.iadd, 1) := by decide +kernel
theorem dL_law_386 : decode cL_law 386 = .ok (.iaload, 1) := by decide +kernel
theorem dL_law_387 : decode cL_law 387 = .ok (.invokevirtual 45, 3) := by decide +kernel
theorem dL_law_390 : decode cL_law 390 = .ok (.aload_n 2, 1) := by decide +kernel
theorem dL_law_391 : decode cL_law 391 = .ok (.aload_n 0, 1) := by decide +kernel
theorem dL_law_392 : decode cL_law 392 = .ok (.iload_n 3, 1) := by decide +kernel
theorem dL_law_393 : decode cL_law 393 = .ok (.iconst 1, 1) := by decide +kernel
theorem dL_law_394 : decode cL_law 394 = .ok (.iadd, 1) := by decide +kernel
theorem dL_law_395 : decode cL_law 395 = .ok (.iaload, 1) := by decide +kernel
theorem dL_law_396 : decode cL_law 396 = .ok (.aload_n 0, 1) := by decide +kernel
theorem dL_law_397 : decode cL_law 397 = .ok (.iload_n 3, 1) := by decide +kernel
theorem dL_law_398 : decode cL_law 398 = .ok (.iconst 2, 1) := by decide +kernel
theorem dL_law_399 : decode cL_law 399 = .ok (.iadd, 1) := by decide +kernel
theorem dL_law_400 : decode cL_law 400 = .ok (.iaload, 1) := by decide +kernel
theorem dL_law_401 : decode cL_law 401 = .ok (.aload_n 0, 1) := by decide +kernel
theorem dL_law_402 : decode cL_law 402 = .ok (.iload_n 3, 1) := by decide +kernel
theorem dL_law_403 : decode cL_law 403 = .ok (.iconst 3, 1) := by decide +kernel
theorem dL_law_404 : decode cL_law 404 = .ok (.iadd, 1) := by decide +kernel
theorem dL_law_405 : decode cL_law 405 = .ok (.iaload, 1) := by decide +kernel
theorem dL_law_406 : decode cL_law 406 = .ok (.invokevirtual 48, 3) := by decide +kernel
theorem dL_law_409 : decode cL_law 409 = .ok (.if_icmp .eq 766, 3) := by decide +kernel
theorem dL_law_412 : decode cL_law 412 = .ok (.iconst 0, 1) := by decide +kernel
theorem dL_law_413 : decode cL_law 413 = .ok (.ireturn, 1) := by decide +kernel
theorem dL_law_414 : decode cL_law 414 = .ok (.aload_n 1, 1) := by decide +kernel
theorem dL_law_415 : decode cL_law 415 = .ok (.aload_n 0, 1) := by decide +kernel
theorem dL_law_416 : decode cL_law 416 = .ok (.iload_n 3, 1) := by decide +kernel
theorem dL_law_417 : decode cL_law 417 = .ok (.iconst 1, 1) := by decide +kernel
theorem dL_law_418 : decode cL_law 418 = .ok (.iadd, 1) := by decide +kernel
theorem dL_law_419 : decode cL_law 419 = .ok (.iaload, 1) := by decide +kernel
theorem dL_law_420 : decode cL_law 420 = .ok (.aload_n 0, 1) := by decide +kernel
theorem dL_law_421 : decode cL_law 421 = .ok (.iload_n 3, 1) := by decide +kernel
theorem dL_law_422 : decode cL_law 422 = .ok (.iconst 2, 1) := by decide +kernel
theorem dL_law_423 : decode cL_law 423 = .ok (.iadd, 1) := by decide +kernel
theorem dL_law_424 : decode cL_law 424 = .ok (.iaload, 1) := by decide +kernel
theorem dL_law_425 : decode cL_law 425 = .ok (.invokevirtual 49, 3) := by decide +kernel
theorem dL_law_428 : decode cL_law 428 = .ok (.aload_n 2, 1) := by decide +kernel
theorem dL_law_429 : decode cL_law 429 = .ok (.aload_n 0, 1) := by decide +kernel
theorem dL_law_430 : decode cL_law 430 = .ok (.iload_n 3, 1) := by decide +kernel
theorem dL_law_431 : decode cL_law 431 = .ok (.iconst 1, 1) := by decide +kernel
theorem dL_law_432 : decode cL_law 432 = .ok (.iadd, 1) := by decide +kernel
theorem dL_law_433 : decode cL_law 433 = .ok (.iaload, 1) := by decide +kernel
theorem dL_law_434 : decode cL_law 434 = .ok (.aload_n 0, 1) := by decide +kernel
theorem dL_law_435 : decode cL_law 435 = .ok (.iload_n 3, 1) := by decide +kernel
theorem dL_law_436 : decode cL_law 436 = .ok (.iconst 2, 1) := by decide +kernel
theorem dL_law_437 : decode cL_law 437 = .ok (.iadd, 1) := by decide +kernel
theorem dL_law_438 : decode cL_law 438 = .ok (.iaload, 1) := by decide +kernel
theorem dL_law_439 : decode cL_law 439 = .ok (.invokevirtual 52, 3) := by decide +kernel
theorem dL_law_442 : decode cL_law 442 = .ok (.if_icmp .eq 733, 3) := by decide +kernel
theorem dL_law_445 : decode cL_law 445 = .ok (.iconst 0, 1) := by decide +kernel
theorem dL_law_446 : decode cL_law 446 = .ok (.ireturn, 1) := by decide +kernel
theorem dL_law_447 : decode cL_law 447 = .ok (.aload_n 1, 1) := by decide +kernel
theorem dL_law_448 : decode cL_law 448 = .ok (.aload_n 0, 1) := by decide +kernel
theorem dL_law_449 : decode cL_law 449 = .ok (.iload_n 3, 1) := by decide +kernel
theorem dL_law_450 : decode cL_law 450 = .ok (.iconst 1, 1) := by decide +kernel
theorem dL_law_451 : decode cL_law 451 = .ok (.iadd, 1) := by decide +kernel
theorem dL_law_452 : decode cL_law 452 = .ok (.iaload, 1) := by decide +kernel
theorem dL_law_453 : decode cL_law 453 = .ok (.aload_n 0, 1) := by decide +kernel
theorem dL_law_454 : decode cL_law 454 = .ok (.iload_n 3, 1) := by decide +kernel
theorem dL_law_455 : decode cL_law 455 = .ok (.iconst 2, 1) := by decide +kernel
theorem dL_law_456 : decode cL_law 456 = .ok (.iadd, 1) := by decide +kernel
theorem dL_law_457 : decode cL_law 457 = .ok (.iaload, 1) := by decide +kernel
theorem dL_law_458 : decode cL_law 458 = .ok (.aload_n 0, 1) := by decide +kernel
theorem dL_law_459 : decode cL_law 459 = .ok (.iload_n 3, 1) := by decide +kernel
theorem dL_law_460 : decode cL_law 460 = .ok (.iconst 3, 1) := by decide +kernel
theorem dL_law_461 : decode cL_law 461 = .ok (.iadd, 1) := by decide +kernel
theorem dL_law_462 : decode cL_law 462 = .ok (.iaload, 1) := by decide +kernel
theorem dL_law_463 : decode cL_law 463 = .ok (.aload_n 0, 1) := by decide +kernel
theorem dL_law_464 : decode cL_law 464 = .ok (.iload_n 3, 1) := by decide +kernel
theorem dL_law_465 : decode cL_law 465 = .ok (.iconst 4, 1) := by decide +kernel
theorem dL_law_466 : decode cL_law 466 = .ok (.iadd, 1) := by decide +kernel
theorem dL_law_467 : decode cL_law 467 = .ok (.iaload, 1) := by decide +kernel
theorem dL_law_468 : decode cL_law 468 = .ok (.invokevirtual 53, 3) := by decide +kernel
theorem dL_law_471 : decode cL_law 471 = .ok (.aload_n 2, 1) := by decide +kernel
theorem dL_law_472 : decode cL_law 472 = .ok (.aload_n 0, 1) := by decide +kernel
theorem dL_law_473 : decode cL_law 473 = .ok (.iload_n 3, 1) := by decide +kernel
theorem dL_law_474 : decode cL_law 474 = .ok (.iconst 1, 1) := by decide +kernel
theorem dL_law_475 : decode cL_law 475 = .ok (.iadd, 1) := by decide +kernel
theorem dL_law_476 : decode cL_law 476 = .ok (.iaload, 1) := by decide +kernel
theorem dL_law_477 : decode cL_law 477 = .ok (.aload_n 0, 1) := by decide +kernel
theorem dL_law_478 : decode cL_law 478 = .ok (.iload_n 3, 1) := by decide +kernel
theorem dL_law_479 : decode cL_law 479 = .ok (.iconst 2, 1) := by decide +kernel
theorem dL_law_480 : decode cL_law 480 = .ok (.iadd, 1) := by decide +kernel
theorem dL_law_481 : decode cL_law 481 = .ok (.iaload, 1) := by decide +kernel
theorem dL_law_482 : decode cL_law 482 = .ok (.aload_n 0, 1) := by decide +kernel
theorem dL_law_483 : decode cL_law 483 = .ok (.iload_n 3, 1) := by decide +kernel
theorem dL_law_484 : decode cL_law 484 = .ok (.iconst 3, 1) := by decide +kernel
theorem dL_law_485 : decode cL_law 485 = .ok (.iadd, 1) := by decide +kernel
theorem dL_law_486 : decode cL_law 486 = .ok (.iaload, 1) := by decide +kernel
theorem dL_law_487 : decode cL_law 487 = .ok (.aload_n 0, 1) := by decide +kernel
theorem dL_law_488 : decode cL_law 488 = .ok (.iload_n 3, 1) := by decide +kernel
theorem dL_law_489 : decode cL_law 489 = .ok (.iconst 4, 1) := by decide +kernel
theorem dL_law_490 : decode cL_law 490 = .ok (.iadd, 1) := by decide +kernel
theorem dL_law_491 : decode cL_law 491 = .ok (.iaload, 1) := by decide +kernel
theorem dL_law_492 : decode cL_law 492 = .ok (.invokevirtual 57, 3) := by decide +kernel
theorem dL_law_495 : decode cL_law 495 = .ok (.if_icmp .eq 680, 3) := by decide +kernel
theorem dL_law_498 : decode cL_law 498 = .ok (.iconst 0, 1) := by decide +kernel
theorem dL_law_499 : decode cL_law 499 = .ok (.ireturn, 1) := by decide +kernel
theorem dL_law_500 : decode cL_law 500 = .ok (.aload_n 1, 1) := by decide +kernel
theorem dL_law_501 : decode cL_law 501 = .ok (.aload_n 0, 1) := by decide +kernel
theorem dL_law_502 : decode cL_law 502 = .ok (.iload_n 3, 1) := by decide +kernel
theorem dL_law_503 : decode cL_law 503 = .ok (.iconst 1, 1) := by decide +kernel
theorem dL_law_504 : decode cL_law 504 = .ok (.iadd, 1) := by decide +kernel
theorem dL_law_505 : decode cL_law 505 = .ok (.iaload, 1) := by decide +kernel
theorem dL_law_506 : decode cL_law 506 = .ok (.aload_n 0, 1) := by decide +kernel
theorem dL_law_507 : decode cL_law 507 = .ok (.iload_n 3, 1) := by decide +kernel
theorem dL_law_508 : decode cL_law 508 = .ok (.iconst 2, 1) := by decide +kernel
theorem dL_law_509 : decode cL_law 509 = .ok (.iadd, 1) := by decide +kernel
theorem dL_law_510 : decode cL_law 510 = .ok (.iaload, 1) := by decide +kernel
theorem dL_law_511 : decode cL_law 511 = .ok (.aload_n 0, 1) := by decide +kernel
theorem dL_law_512 : decode cL_law 512 = .ok (.iload_n 3, 1) := by decide +kernel
theorem dL_law_513 : decode cL_law 513 = .ok (.iconst 3, 1) := by decide +kernel
theorem dL_law_514 : decode cL_law 514 = .ok (.iadd, 1) := by decide +kernel
theorem dL_law_515 : decode cL_law 515 = .ok (.iaload, 1) := by decide +kernel
theorem dL_law_516 : decode cL_law 516 = .ok (.invokevirtual 58, 3) := by decide +kernel
theorem dL_law_519 : decode cL_law 519 = .ok (.aload_n 2, 1) := by decide +kernel
theorem dL_law_520 : decode cL_law 520 = .ok (.aload_n 0, 1) := by decide +kernel
theorem dL_law_521 : decode cL_law 521 = .ok (.iload_n 3, 1) := by decide +kernel
theorem dL_law_522 : decode cL_law 522 = .ok (.iconst 1, 1) := by decide +kernel
theorem dL_law_523 : decode cL_law 523 = .ok (.iadd, 1) := by decide +kernel
theorem dL_law_524 : decode cL_law 524 = .ok (.iaload, 1) := by decide +kernel
theorem dL_law_525 : decode cL_law 525 = .ok (.aload_n 0, 1) := by decide +kernel
theorem dL_law_526 : decode cL_law 526 = .ok (.iload_n 3, 1) := by decide +kernel
theorem dL_law_527 : decode cL_law 527 = .ok (.iconst 2, 1) := by decide +kernel
theorem dL_law_528 : decode cL_law 528 = .ok (.iadd, 1) := by decide +kernel
theorem dL_law_529 : decode cL_law 529 = .ok (.iaload, 1) := by decide +kernel
theorem dL_law_530 : decode cL_law 530 = .ok (.aload_n 0, 1) := by decide +kernel
theorem dL_law_531 : decode cL_law 531 = .ok (.iload_n 3, 1) := by decide +kernel
theorem dL_law_532 : decode cL_law 532 = .ok (.iconst 3, 1) := by decide +kernel
theorem dL_law_533 : decode cL_law 533 = .ok (.iadd, 1) := by decide +kernel
theorem dL_law_534 : decode cL_law 534 = .ok (.iaload, 1) := by decide +kernel
theorem dL_law_535 : decode cL_law 535 = .ok (.invokevirtual 61, 3) := by decide +kernel
theorem dL_law_538 : decode cL_law 538 = .ok (.if_icmp .eq 637, 3) := by decide +kernel
theorem dL_law_541 : decode cL_law 541 = .ok (.iconst 0, 1) := by decide +kernel
theorem dL_law_542 : decode cL_law 542 = .ok (.ireturn, 1) := by decide +kernel
theorem dL_law_543 : decode cL_law 543 = .ok (.aload_n 1, 1) := by decide +kernel
theorem dL_law_544 : decode cL_law 544 = .ok (.aload_n 0, 1) := by decide +kernel
theorem dL_law_545 : decode cL_law 545 = .ok (.iload_n 3, 1) := by decide +kernel
theorem dL_law_546 : decode cL_law 546 = .ok (.iconst 1, 1) := by decide +kernel
theorem dL_law_547 : decode cL_law 547 = .ok (.iadd, 1) := by decide +kernel
theorem dL_law_548 : decode cL_law 548 = .ok (.iaload, 1) := by decide +kernel
theorem dL_law_549 : decode cL_law 549 = .ok (.invokevirtual 62, 3) := by decide +kernel
theorem dL_law_552 : decode cL_law 552 = .ok (.aload_n 2, 1) := by decide +kernel
theorem dL_law_553 : decode cL_law 553 = .ok (.aload_n 0, 1) := by decide +kernel
theorem dL_law_554 : decode cL_law 554 = .ok (.iload_n 3, 1) := by decide +kernel
theorem dL_law_555 : decode cL_law 555 = .ok (.iconst 1, 1) := by decide +kernel
theorem dL_law_556 : decode cL_law 556 = .ok (.iadd, 1) := by decide +kernel
theorem dL_law_557 : decode cL_law 557 = .ok (.iaload, 1) := by decide +kernel
theorem dL_law_558 : decode cL_law 558 = .ok (.invokevirtual 65, 3) := by decide +kernel
theorem dL_law_561 : decode cL_law 561 = .ok (.if_icmp .eq 614, 3) := by decide +kernel
theorem dL_law_564 : decode cL_law 564 = .ok (.iconst 0, 1) := by decide +kernel
theorem dL_law_565 : decode cL_law 565 = .ok (.ireturn, 1) := by decide +kernel
theorem dL_law_566 : decode cL_law 566 = .ok (.aload_n 1, 1) := by decide +kernel
theorem dL_law_567 : decode cL_law 567 = .ok (.aload_n 0, 1) := by decide +kernel
theorem dL_law_568 : decode cL_law 568 = .ok (.iload_n 3, 1) := by decide +kernel
theorem dL_law_569 : decode cL_law 569 = .ok (.iconst 1, 1) := by decide +kernel
theorem dL_law_570 : decode cL_law 570 = .ok (.iadd, 1) := by decide +kernel
theorem dL_law_571 : decode cL_law 571 = .ok (.iaload, 1) := by decide +kernel
theorem dL_law_572 : decode cL_law 572 = .ok (.aload_n 0, 1) := by decide +kernel
theorem dL_law_573 : decode cL_law 573 = .ok (.iload_n 3, 1) := by decide +kernel
theorem dL_law_574 : decode cL_law 574 = .ok (.iconst 2, 1) := by decide +kernel
theorem dL_law_575 : decode cL_law 575 = .ok (.iadd, 1) := by decide +kernel
theorem dL_law_576 : decode cL_law 576 = .ok (.iaload, 1) := by decide +kernel
theorem dL_law_577 : decode cL_law 577 = .ok (.invokevirtual 66, 3) := by decide +kernel
theorem dL_law_580 : decode cL_law 580 = .ok (.aload_n 2, 1) := by decide +kernel
theorem dL_law_581 : decode cL_law 581 = .ok (.aload_n 0, 1) := by decide +kernel
theorem dL_law_582 : decode cL_law 582 = .ok (.iload_n 3, 1) := by decide +kernel
theorem dL_law_583 : decode cL_law 583 = .ok (.iconst 1, 1) := by decide +kernel
theorem dL_law_584 : decode cL_law 584 = .ok (.iadd, 1) := by decide +kernel
theorem dL_law_585 : decode cL_law 585 = .ok (.iaload, 1) := by decide +kernel
theorem dL_law_586 : decode cL_law 586 = .ok (.aload_n 0, 1) := by decide +kernel
theorem dL_law_587 : decode cL_law 587 = .ok (.iload_n 3, 1) := by decide +kernel
theorem dL_law_588 : decode cL_law 588 = .ok (.iconst 2, 1) := by decide +kernel
theorem dL_law_589 : decode cL_law 589 = .ok (.iadd, 1) := by decide +kernel
theorem dL_law_590 : decode cL_law 590 = .ok (.iaload, 1) := by decide +kernel
theorem dL_law_591 : decode cL_law 591 = .ok (.invokevirtual 69, 3) := by decide +kernel
theorem dL_law_594 : decode cL_law 594 = .ok (.if_icmp .eq 581, 3) := by decide +kernel
theorem dL_law_597 : decode cL_law 597 = .ok (.iconst 0, 1) := by decide +kernel
theorem dL_law_598 : decode cL_law 598 = .ok (.ireturn, 1) := by decide +kernel
theorem dL_law_599 : decode cL_law 599 = .ok (.aload_n 1, 1) := by decide +kernel
theorem dL_law_600 : decode cL_law 600 = .ok (.aload_n 0, 1) := by decide +kernel
theorem dL_law_601 : decode cL_law 601 = .ok (.iload_n 3, 1) := by decide +kernel
theorem dL_law_602 : decode cL_law 602 = .ok (.iconst 1, 1) := by decide +kernel
theorem dL_law_603 : decode cL_law 603 = .ok (.iadd, 1) := by decide +kernel
theorem dL_law_604 : decode cL_law 604 = .ok (.iaload, 1) := by decide +kernel
theorem dL_law_605 : decode cL_law 605 = .ok (.aload_n 0, 1) := by decide +kernel
theorem dL_law_606 : decode cL_law 606 = .ok (.iload_n 3, 1) := by decide +kernel
theorem dL_law_607 : decode cL_law 607 = .ok (.iconst 2, 1) := by decide +kernel
theorem dL_law_608 : decode cL_law 608 = .ok (.iadd, 1) := by decide +kernel
theorem dL_law_609 : decode cL_law 609 = .ok (.iaload, 1) := by decide +kernel
theorem dL_law_610 : decode cL_law 610 = .ok (.invokevirtual 70, 3) := by decide +kernel
theorem dL_law_613 : decode cL_law 613 = .ok (.aload_n 2, 1) := by decide +kernel
theorem dL_law_614 : decode cL_law 614 = .ok (.aload_n 0, 1) := by decide +kernel
theorem dL_law_615 : decode cL_law 615 = .ok (.iload_n 3, 1) := by decide +kernel
theorem dL_law_616 : decode cL_law 616 = .ok (.iconst 1, 1) := by decide +kernel
theorem dL_law_617 : decode cL_law 617 = .ok (.iadd, 1) := by decide +kernel
theorem dL_law_618 : decode cL_law 618 = .ok (.iaload, 1) := by decide +kernel
theorem dL_law_619 : decode cL_law 619 = .ok (.aload_n 0, 1) := by decide +kernel
theorem dL_law_620 : decode cL_law 620 = .ok (.iload_n 3, 1) := by decide +kernel
theorem dL_law_621 : decode cL_law 621 = .ok (.iconst 2, 1) := by decide +kernel
theorem dL_law_622 : decode cL_law 622 = .ok (.iadd, 1) := by decide +kernel
theorem dL_law_623 : decode cL_law 623 = .ok (.iaload, 1) := by decide +kernel
theorem dL_law_624 : decode cL_law 624 = .ok (.invokevirtual 73, 3) := by decide +kernel
theorem dL_law_627 : decode cL_law 627 = .ok (.if_icmp .eq 548, 3) := by decide +kernel
theorem dL_law_630 : decode cL_law 630 = .ok (.iconst 0, 1) := by decide +kernel
theorem dL_law_631 : decode cL_law 631 = .ok (.ireturn, 1) := by decide +kernel
theorem dL_law_632 : decode cL_law 632 = .ok (.aload_n 1, 1) := by decide +kernel
theorem dL_law_633 : decode cL_law 633 = .ok (.aload_n 0, 1) := by decide +kernel
theorem dL_law_634 : decode cL_law 634 = .ok (.iload_n 3, 1) := by decide +kernel
theorem dL_law_635 : decode cL_law 635 = .ok (.iconst 1, 1) := by decide +kernel
theorem dL_law_636 : decode cL_law 636 = .ok (.iadd, 1) := by decide +kernel
theorem dL_law_637 : decode cL_law 637 = .ok (.iaload, 1) := by decide +kernel
theorem dL_law_638 : decode cL_law 638 = .ok (.aload_n 0, 1) := by decide +kernel
theorem dL_law_639 : decode cL_law 639 = .ok (.iload_n 3, 1) := by decide +kernel
theorem dL_law_640 : decode cL_law 640 = .ok (.iconst 2, 1) := by decide +kernel
theorem dL_law_641 : decode cL_law 641 = .ok (.iadd, 1) := by decide +kernel
theorem dL_law_642 : decode cL_law 642 = .ok (.iaload, 1) := by decide +kernel
theorem dL_law_643 : decode cL_law 643 = .ok (.aload_n 0, 1) := by decide +kernel
theorem dL_law_644 : decode cL_law 644 = .ok (.iload_n 3, 1) := by decide +kernel
theorem dL_law_645 : decode cL_law 645 = .ok (.iconst 3, 1) := by decide +kernel
theorem dL_law_646 : decode cL_law 646 = .ok (.iadd, 1) := by decide +kernel
theorem dL_law_647 : decode cL_law 647 = .ok (.iaload, 1) := by decide +kernel
theorem dL_law_648 : decode cL_law 648 = .ok (.invokevirtual 74, 3) := by decide +kernel
theorem dL_law_651 : decode cL_law 651 = .ok (.aload_n 2, 1) := by decide +kernel
theorem dL_law_652 : decode cL_law 652 = .ok (.aload_n 0, 1) := by decide +kernel
theorem dL_law_653 : decode cL_law 653 = .ok (.iload_n 3, 1) := by decide +kernel
theorem dL_law_654 : decode cL_law 654 = .ok (.iconst 1, 1) := by decide +kernel
theorem dL_law_655 : decode cL_law 655 = .ok (.iadd, 1) := by decide +kernel
theorem dL_law_656 : decode cL_law 656 = .ok (.iaload, 1) := by decide +kernel
theorem dL_law_657 : decode cL_law 657 = .ok (.aload_n 0, 1) := by decide +kernel
theorem dL_law_658 : decode cL_law 658 = .ok (.iload_n 3, 1) := by decide +kernel
theorem dL_law_659 : decode cL_law 659 = .ok (.iconst 2, 1) := by decide +kernel
theorem dL_law_660 : decode cL_law 660 = .ok (.iadd, 1) := by decide +kernel
theorem dL_law_661 : decode cL_law 661 = .ok (.iaload, 1) := by decide +kernel
theorem dL_law_662 : decode cL_law 662 = .ok (.aload_n 0, 1) := by decide +kernel
theorem dL_law_663 : decode cL_law 663 = .ok (.iload_n 3, 1) := by decide +kernel
theorem dL_law_664 : decode cL_law 664 = .ok (.iconst 3, 1) := by decide +kernel
theorem dL_law_665 : decode cL_law 665 = .ok (.iadd, 1) := by decide +kernel
theorem dL_law_666 : decode cL_law 666 = .ok (.iaload, 1) := by decide +kernel
theorem dL_law_667 : decode cL_law 667 = .ok (.invokevirtual 77, 3) := by decide +kernel
theorem dL_law_670 : decode cL_law 670 = .ok (.if_icmp .eq 505, 3) := by decide +kernel
theorem dL_law_673 : decode cL_law 673 = .ok (.iconst 0, 1) := by decide +kernel
theorem dL_law_674 : decode cL_law 674 = .ok (.ireturn, 1) := by decide +kernel
theorem dL_law_675 : decode cL_law 675 = .ok (.aload_n 1, 1) := by decide +kernel
theorem dL_law_676 : decode cL_law 676 = .ok (.aload_n 0, 1) := by decide +kernel
theorem dL_law_677 : decode cL_law 677 = .ok (.iload_n 3, 1) := by decide +kernel
theorem dL_law_678 : decode cL_law 678 = .ok (.iconst 1, 1) := by decide +kernel
theorem dL_law_679 : decode cL_law 679 = .ok (.iadd, 1) := by decide +kernel
theorem dL_law_680 : decode cL_law 680 = .ok (.iaload, 1) := by decide +kernel
theorem dL_law_681 : decode cL_law 681 = .ok (.aload_n 0, 1) := by decide +kernel
theorem dL_law_682 : decode cL_law 682 = .ok (.iload_n 3, 1) := by decide +kernel
theorem dL_law_683 : decode cL_law 683 = .ok (.iconst 2, 1) := by decide +kernel
theorem dL_law_684 : decode cL_law 684 = .ok (.iadd, 1) := by decide +kernel
theorem dL_law_685 : decode cL_law 685 = .ok (.iaload, 1) := by decide +kernel
theorem dL_law_686 : decode cL_law 686 = .ok (.aload_n 0, 1) := by decide +kernel
theorem dL_law_687 : decode cL_law 687 = .ok (.iload_n 3, 1) := by decide +kernel
theorem dL_law_688 : decode cL_law 688 = .ok (.iconst 3, 1) := by decide +kernel
theorem dL_law_689 : decode cL_law 689 = .ok (.iadd, 1) := by decide +kernel
theorem dL_law_690 : decode cL_law 690 = .ok (.iaload, 1) := by decide +kernel
theorem dL_law_691 : decode cL_law 691 = .ok (.invokevirtual 78, 3) := by decide +kernel
theorem dL_law_694 : decode cL_law 694 = .ok (.aload_n 2, 1) := by decide +kernel
theorem dL_law_695 : decode cL_law 695 = .ok (.aload_n 0, 1) := by decide +kernel
theorem dL_law_696 : decode cL_law 696 = .ok (.iload_n 3, 1) := by decide +kernel
theorem dL_law_697 : decode cL_law 697 = .ok (.iconst 1, 1) := by decide +kernel
theorem dL_law_698 : decode cL_law 698 = .ok (.iadd, 1) := by decide +kernel
theorem dL_law_699 : decode cL_law 699 = .ok (.iaload, 1) := by decide +kernel
theorem dL_law_700 : decode cL_law 700 = .ok (.aload_n 0, 1) := by decide +kernel
theorem dL_law_701 : decode cL_law 701 = .ok (.iload_n 3, 1) := by decide +kernel
theorem dL_law_702 : decode cL_law 702 = .ok (.iconst 2, 1) := by decide +kernel
theorem dL_law_703 : decode cL_law 703 = .ok (.iadd, 1) := by decide +kernel
theorem dL_law_704 : decode cL_law 704 = .ok (.iaload, 1) := by decide +kernel
theorem dL_law_705 : decode cL_law 705 = .ok (.aload_n 0, 1) := by decide +kernel
theorem dL_law_706 : decode cL_law 706 = .ok (.iload_n 3, 1) := by decide +kernel
theorem dL_law_707 : decode cL_law 707 = .ok (.iconst 3, 1) := by decide +kernel
theorem dL_law_708 : decode cL_law 708 = .ok (.iadd, 1) := by decide +kernel
theorem dL_law_709 : decode cL_law 709 = .ok (.iaload, 1) := by decide +kernel
theorem dL_law_710 : decode cL_law 710 = .ok (.invokevirtual 81, 3) := by decide +kernel
theorem dL_law_713 : decode cL_law 713 = .ok (.if_icmp .eq 462, 3) := by decide +kernel
theorem dL_law_716 : decode cL_law 716 = .ok (.iconst 0, 1) := by decide +kernel
theorem dL_law_717 : decode cL_law 717 = .ok (.ireturn, 1) := by decide +kernel
theorem dL_law_718 : decode cL_law 718 = .ok (.aload_n 1, 1) := by decide +kernel
theorem dL_law_719 : decode cL_law 719 = .ok (.aload_n 0, 1) := by decide +kernel
theorem dL_law_720 : decode cL_law 720 = .ok (.iload_n 3, 1) := by decide +kernel
theorem dL_law_721 : decode cL_law 721 = .ok (.iconst 1, 1) := by decide +kernel
theorem dL_law_722 : decode cL_law 722 = .ok (.iadd, 1) := by decide +kernel
theorem dL_law_723 : decode cL_law 723 = .ok (.iaload, 1) := by decide +kernel
theorem dL_law_724 : decode cL_law 724 = .ok (.aload_n 0, 1) := by decide +kernel
theorem dL_law_725 : decode cL_law 725 = .ok (.iload_n 3, 1) := by decide +kernel
theorem dL_law_726 : decode cL_law 726 = .ok (.iconst 2, 1) := by decide +kernel
theorem dL_law_727 : decode cL_law 727 = .ok (.iadd, 1) := by decide +kernel
theorem dL_law_728 : decode cL_law 728 = .ok (.iaload, 1) := by decide +kernel
theorem dL_law_729 : decode cL_law 729 = .ok (.aload_n 0, 1) := by decide +kernel
theorem dL_law_730 : decode cL_law 730 = .ok (.iload_n 3, 1) := by decide +kernel
theorem dL_law_731 : decode cL_law 731 = .ok (.iconst 3, 1) := by decide +kernel
theorem dL_law_732 : decode cL_law 732 = .ok (.iadd, 1) := by decide +kernel
theorem dL_law_733 : decode cL_law 733 = .ok (.iaload, 1) := by decide +kernel
theorem dL_law_734 : decode cL_law 734 = .ok (.aload_n 0, 1) := by decide +kernel
theorem dL_law_735 : decode cL_law 735 = .ok (.iload_n 3, 1) := by decide +kernel
theorem dL_law_736 : decode cL_law 736 = .ok (.iconst 4, 1) := by decide +kernel
theorem dL_law_737 : decode cL_law 737 = .ok (.iadd, 1) := by decide +kernel
theorem dL_law_738 : decode cL_law 738 = .ok (.iaload, 1) := by decide +kernel
theorem dL_law_739 : decode cL_law 739 = .ok (.invokevirtual 82, 3) := by decide +kernel
theorem dL_law_742 : decode cL_law 742 = .ok (.aload_n 2, 1) := by decide +kernel
theorem dL_law_743 : decode cL_law 743 = .ok (.aload_n 0, 1) := by decide +kernel
theorem dL_law_744 : decode cL_law 744 = .ok (.iload_n 3, 1) := by decide +kernel
theorem dL_law_745 : decode cL_law 745 = .ok (.iconst 1, 1) := by decide +kernel
theorem dL_law_746 : decode cL_law 746 = .ok (.iadd, 1) := by decide +kernel
theorem dL_law_747 : decode cL_law 747 = .ok (.iaload, 1) := by decide +kernel
theorem dL_law_748 : decode cL_law 748 = .ok (.aload_n 0, 1) := by decide +kernel
theorem dL_law_749 : decode cL_law 749 = .ok (.iload_n 3, 1) := by decide +kernel
theorem dL_law_750 : decode cL_law 750 = .ok (.iconst 2, 1) := by decide +kernel
theorem dL_law_751 : decode cL_law 751 = .ok (.iadd, 1) := by decide +kernel
theorem dL_law_752 : decode cL_law 752 = .ok (.iaload, 1) := by decide +kernel
theorem dL_law_753 : decode cL_law 753 = .ok (.aload_n 0, 1) := by decide +kernel
theorem dL_law_754 : decode cL_law 754 = .ok (.iload_n 3, 1) := by decide +kernel
theorem dL_law_755 : decode cL_law 755 = .ok (.iconst 3, 1) := by decide +kernel
theorem dL_law_756 : decode cL_law 756 = .ok (.iadd, 1) := by decide +kernel
theorem dL_law_757 : decode cL_law 757 = .ok (.iaload, 1) := by decide +kernel
theorem dL_law_758 : decode cL_law 758 = .ok (.aload_n 0, 1) := by decide +kernel
theorem dL_law_759 : decode cL_law 759 = .ok (.iload_n 3, 1) := by decide +kernel
theorem dL_law_760 : decode cL_law 760 = .ok (.iconst 4, 1) := by decide +kernel
theorem dL_law_761 : decode cL_law 761 = .ok (.iadd, 1) := by decide +kernel
theorem dL_law_762 : decode cL_law 762 = .ok (.iaload, 1) := by decide +kernel
theorem dL_law_763 : decode cL_law 763 = .ok (.invokevirtual 85, 3) := by decide +kernel
theorem dL_law_766 : decode cL_law 766 = .ok (.if_icmp .eq 409, 3) := by decide +kernel
theorem dL_law_769 : decode cL_law 769 = .ok (.iconst 0, 1) := by decide +kernel
theorem dL_law_770 : decode cL_law 770 = .ok (.ireturn, 1) := by decide +kernel
theorem dL_law_771 : decode cL_law 771 = .ok (.aload_n 1, 1) := by decide +kernel
theorem dL_law_772 : decode cL_law 772 = .ok (.aload_n 0, 1) := by decide +kernel
theorem dL_law_773 : decode cL_law 773 = .ok (.iload_n 3, 1) := by decide +kernel
theorem dL_law_774 : decode cL_law 774 = .ok (.iconst 1, 1) := by decide +kernel
theorem dL_law_775 : decode cL_law 775 = .ok (.iadd, 1) := by decide +kernel
theorem dL_law_776 : decode cL_law 776 = .ok (.iaload, 1) := by decide +kernel
theorem dL_law_777 : decode cL_law 777 = .ok (.aload_n 0, 1) := by decide +kernel
theorem dL_law_778 : decode cL_law 778 = .ok (.iload_n 3, 1) := by decide +kernel
theorem dL_law_779 : decode cL_law 779 = .ok (.iconst 2, 1) := by decide +kernel
theorem dL_law_780 : decode cL_law 780 = .ok (.iadd, 1) := by decide +kernel
theorem dL_law_781 : decode cL_law 781 = .ok (.iaload, 1) := by decide +kernel
theorem dL_law_782 : decode cL_law 782 = .ok (.aload_n 0, 1) := by decide +kernel
theorem dL_law_783 : decode cL_law 783 = .ok (.iload_n 3, 1) := by decide +kernel
theorem dL_law_784 : decode cL_law 784 = .ok (.iconst 3, 1) := by decide +kernel
theorem dL_law_785 : decode cL_law 785 = .ok (.iadd, 1) := by decide +kernel
theorem dL_law_786 : decode cL_law 786 = .ok (.iaload, 1) := by decide +kernel
theorem dL_law_787 : decode cL_law 787 = .ok (.aload_n 0, 1) := by decide +kernel
theorem dL_law_788 : decode cL_law 788 = .ok (.iload_n 3, 1) := by decide +kernel
theorem dL_law_789 : decode cL_law 789 = .ok (.iconst 4, 1) := by decide +kernel
theorem dL_law_790 : decode cL_law 790 = .ok (.iadd, 1) := by decide +kernel
theorem dL_law_791 : decode cL_law 791 = .ok (.iaload, 1) := by decide +kernel
theorem dL_law_792 : decode cL_law 792 = .ok (.invokevirtual 86, 3) := by decide +kernel
theorem dL_law_795 : decode cL_law 795 = .ok (.aload_n 2, 1) := by decide +kernel
theorem dL_law_796 : decode cL_law 796 = .ok (.aload_n 0, 1) := by decide +kernel
theorem dL_law_797 : decode cL_law 797 = .ok (.iload_n 3, 1) := by decide +kernel
theorem dL_law_798 : decode cL_law 798 = .ok (.iconst 1, 1) := by decide +kernel
theorem dL_law_799 : decode cL_law 799 = .ok (.iadd, 1) := by decide +kernel
theorem dL_law_800 : decode cL_law 800 = .ok (.iaload, 1) := by decide +kernel
theorem dL_law_801 : decode cL_law 801 = .ok (.aload_n 0, 1) := by decide +kernel
theorem dL_law_802 : decode cL_law 802 = .ok (.iload_n 3, 1) := by decide +kernel
theorem dL_law_803 : decode cL_law 803 = .ok (.iconst 2, 1) := by decide +kernel
theorem dL_law_804 : decode cL_law 804 = .ok (.iadd, 1) := by decide +kernel
theorem dL_law_805 : decode cL_law 805 = .ok (.iaload, 1) := by decide +kernel
theorem dL_law_806 : decode cL_law 806 = .ok (.aload_n 0, 1) := by decide +kernel
theorem dL_law_807 : decode cL_law 807 = .ok (.iload_n 3, 1) := by decide +kernel
theorem dL_law_808 : decode cL_law 808 = .ok (.iconst 3, 1) := by decide +kernel
theorem dL_law_809 : decode cL_law 809 = .ok (.iadd, 1) := by decide +kernel
theorem dL_law_810 : decode cL_law 810 = .ok (.iaload, 1) := by decide +kernel
theorem dL_law_811 : decode cL_law 811 = .ok (.aload_n 0, 1) := by decide +kernel
theorem dL_law_812 : decode cL_law 812 = .ok (.iload_n 3, 1) := by decide +kernel
theorem dL_law_813 : decode cL_law 813 = .ok (.iconst 4, 1) := by decide +kernel
theorem dL_law_814 : decode cL_law 814 = .ok (.iadd, 1) := by decide +kernel
theorem dL_law_815 : decode cL_law 815 = .ok (.iaload, 1) := by decide +kernel
theorem dL_law_816 : decode cL_law 816 = .ok (.invokevirtual 89, 3) := by decide +kernel
theorem dL_law_819 : decode cL_law 819 = .ok (.if_icmp .eq 356, 3) := by decide +kernel
theorem dL_law_822 : decode cL_law 822 = .ok (.iconst 0, 1) := by decide +kernel
theorem dL_law_823 : decode cL_law 823 = .ok (.ireturn, 1) := by decide +kernel
theorem dL_law_824 : decode cL_law 824 = .ok (.aload_n 1, 1) := by decide +kernel
theorem dL_law_825 : decode cL_law 825 = .ok (.aload_n 0, 1) := by decide +kernel
theorem dL_law_826 : decode cL_law 826 = .ok (.iload_n 3, 1) := by decide +kernel
theorem dL_law_827 : decode cL_law 827 = .ok (.iconst 1, 1) := by decide +kernel
theorem dL_law_828 : decode cL_law 828 = .ok (.iadd, 1) := by decide +kernel
theorem dL_law_829 : decode cL_law 829 = .ok (.iaload, 1) := by decide +kernel
theorem dL_law_830 : decode cL_law 830 = .ok (.invokevirtual 90, 3) := by decide +kernel
theorem dL_law_833 : decode cL_law 833 = .ok (.aload_n 2, 1) := by decide +kernel
theorem dL_law_834 : decode cL_law 834 = .ok (.aload_n 0, 1) := by decide +kernel
theorem dL_law_835 : decode cL_law 835 = .ok (.iload_n 3, 1) := by decide +kernel
theorem dL_law_836 : decode cL_law 836 = .ok (.iconst 1, 1) := by decide +kernel
theorem dL_law_837 : decode cL_law 837 = .ok (.iadd, 1) := by decide +kernel
theorem dL_law_838 : decode cL_law 838 = .ok (.iaload, 1) := by decide +kernel
theorem dL_law_839 : decode cL_law 839 = .ok (.invokevirtual 93, 3) := by decide +kernel
theorem dL_law_842 : decode cL_law 842 = .ok (.if_icmp .eq 333, 3) := by decide +kernel
theorem dL_law_845 : decode cL_law 845 = .ok (.iconst 0, 1) := by decide +kernel
theorem dL_law_846 : decode cL_law 846 = .ok (.ireturn, 1) := by decide +kernel
theorem dL_law_847 : decode cL_law 847 = .ok (.aload_n 1, 1) := by decide +kernel
theorem dL_law_848 : decode cL_law 848 = .ok (.aload_n 0, 1) := by decide +kernel
theorem dL_law_849 : decode cL_law 849 = .ok (.iload_n 3, 1) := by decide +kernel
theorem dL_law_850 : decode cL_law 850 = .ok (.iconst 1, 1) := by decide +kernel
theorem dL_law_851 : decode cL_law 851 = .ok (.iadd, 1) := by decide +kernel
theorem dL_law_852 : decode cL_law 852 = .ok (.iaload, 1) := by decide +kernel
theorem dL_law_853 : decode cL_law 853 = .ok (.aload_n 0, 1) := by decide +kernel
theorem dL_law_854 : decode cL_law 854 = .ok (.iload_n 3, 1) := by decide +kernel
theorem dL_law_855 : decode cL_law 855 = .ok (.iconst 2, 1) := by decide +kernel
theorem dL_law_856 : decode cL_law 856 = .ok (.iadd, 1) := by decide +kernel
theorem dL_law_857 : decode cL_law 857 = .ok (.iaload, 1) := by decide +kernel
theorem dL_law_858 : decode cL_law 858 = .ok (.aload_n 0, 1) := by decide +kernel
theorem dL_law_859 : decode cL_law 859 = .ok (.iload_n 3, 1) := by decide +kernel
theorem dL_law_860 : decode cL_law 860 = .ok (.iconst 3, 1) := by decide +kernel
theorem dL_law_861 : decode cL_law 861 = .ok (.iadd, 1) := by decide +kernel
theorem dL_law_862 : decode cL_law 862 = .ok (.iaload, 1) := by decide +kernel
theorem dL_law_863 : decode cL_law 863 = .ok (.invokevirtual 94, 3) := by decide +kernel
theorem dL_law_866 : decode cL_law 866 = .ok (.aload_n 2, 1) := by decide +kernel
theorem dL_law_867 : decode cL_law 867 = .ok (.aload_n 0, 1) := by decide +kernel
theorem dL_law_868 : decode cL_law 868 = .ok (.iload_n 3, 1) := by decide +kernel
theorem dL_law_869 : decode cL_law 869 = .ok (.iconst 1, 1) := by decide +kernel
theorem dL_law_870 : decode cL_law 870 = .ok (.iadd, 1) := by decide +kernel
theorem dL_law_871 : decode cL_law 871 = .ok (.iaload, 1) := by decide +kernel
theorem dL_law_872 : decode cL_law 872 = .ok (.aload_n 0, 1) := by decide +kernel
theorem dL_law_873 : decode cL_law 873 = .ok (.iload_n 3, 1) := by decide +kernel
theorem dL_law_874 : decode cL_law 874 = .ok (.iconst 2, 1) := by decide +kernel
theorem dL_law_875 : decode cL_law 875 = .ok (.iadd, 1) := by decide +kernel
theorem dL_law_876 : decode cL_law 876 = .ok (.iaload, 1) := by decide +kernel
theorem dL_law_877 : decode cL_law 877 = .ok (.aload_n 0, 1) := by decide +kernel
theorem dL_law_878 : decode cL_law 878 = .ok (.iload_n 3, 1) := by decide +kernel
theorem dL_law_879 : decode cL_law 879 = .ok (.iconst 3, 1) := by decide +kernel
theorem dL_law_880 : decode cL_law 880 = .ok (.iadd, 1) := by decide +kernel
theorem dL_law_881 : decode cL_law 881 = .ok (.iaload, 1) := by decide +kernel
theorem dL_law_882 : decode cL_law 882 = .ok (.invokevirtual 98, 3) := by decide +kernel
theorem dL_law_885 : decode cL_law 885 = .ok (.lcmp, 1) := by decide +kernel
theorem dL_law_886 : decode cL_law 886 = .ok (.ifCond .eq 289, 3) := by decide +kernel
theorem dL_law_889 : decode cL_law 889 = .ok (.iconst 0, 1) := by decide +kernel
theorem dL_law_890 : decode cL_law 890 = .ok (.ireturn, 1) := by decide +kernel
theorem dL_law_891 : decode cL_law 891 = .ok (.aload_n 1, 1) := by decide +kernel
theorem dL_law_892 : decode cL_law 892 = .ok (.invokevirtual 99, 3) := by decide +kernel
theorem dL_law_895 : decode cL_law 895 = .ok (.aload_n 2, 1) := by decide +kernel
theorem dL_law_896 : decode cL_law 896 = .ok (.invokevirtual 102, 3) := by decide +kernel
theorem dL_law_899 : decode cL_law 899 = .ok (.if_icmp .eq 276, 3) := by decide +kernel
theorem dL_law_902 : decode cL_law 902 = .ok (.iconst 0, 1) := by decide +kernel
theorem dL_law_903 : decode cL_law 903 = .ok (.ireturn, 1) := by decide +kernel
theorem dL_law_904 : decode cL_law 904 = .ok (.aload_n 1, 1) := by decide +kernel
theorem dL_law_905 : decode cL_law 905 = .ok (.invokevirtual 103, 3) := by decide +kernel
theorem dL_law_908 : decode cL_law 908 = .ok (.aload_n 2, 1) := by decide +kernel
theorem dL_law_909 : decode cL_law 909 = .ok (.invokevirtual 106, 3) := by decide +kernel
theorem dL_law_912 : decode cL_law 912 = .ok (.if_icmp .eq 263, 3) := by decide +kernel
theorem dL_law_915 : decode cL_law 915 = .ok (.iconst 0, 1) := by decide +kernel
theorem dL_law_916 : decode cL_law 916 = .ok (.ireturn, 1) := by decide +kernel
theorem dL_law_917 : decode cL_law 917 = .ok (.aload_n 1, 1) := by decide +kernel
theorem dL_law_918 : decode cL_law 918 = .ok (.aload_n 0, 1) := by decide +kernel
theorem dL_law_919 : decode cL_law 919 = .ok (.iload_n 3, 1) := by decide +kernel
theorem dL_law_920 : decode cL_law 920 = .ok (.iconst 1, 1) := by decide +kernel
theorem dL_law_921 : decode cL_law 921 = .ok (.iadd, 1) := by decide +kernel
theorem dL_law_922 : decode cL_law 922 = .ok (.iaload, 1) := by decide +kernel
theorem dL_law_923 : decode cL_law 923 = .ok (.invokevirtual 107, 3) := by decide +kernel
theorem dL_law_926 : decode cL_law 926 = .ok (.aload_n 2, 1) := by decide +kernel
theorem dL_law_927 : decode cL_law 927 = .ok (.aload_n 0, 1) := by decide +kernel
theorem dL_law_928 : decode cL_law 928 = .ok (.iload_n 3, 1) := by decide +kernel
theorem dL_law_929 : decode cL_law 929 = .ok (.iconst 1, 1) := by decide +kernel
theorem dL_law_930 : decode cL_law 930 = .ok (.iadd, 1) := by decide +kernel
theorem dL_law_931 : decode cL_law 931 = .ok (.iaload, 1) := by decide +kernel
theorem dL_law_932 : decode cL_law 932 = .ok (.invokevirtual 110, 3) := by decide +kernel
theorem dL_law_935 : decode cL_law 935 = .ok (.if_icmp .eq 240, 3) := by decide +kernel
theorem dL_law_938 : decode cL_law 938 = .ok (.iconst 0, 1) := by decide +kernel
theorem dL_law_939 : decode cL_law 939 = .ok (.ireturn, 1) := by decide +kernel
theorem dL_law_940 : decode cL_law 940 = .ok (.aload_n 1, 1) := by decide +kernel
theorem dL_law_941 : decode cL_law 941 = .ok (.aload_n 0, 1) := by decide +kernel
theorem dL_law_942 : decode cL_law 942 = .ok (.iload_n 3, 1) := by decide +kernel
theorem dL_law_943 : decode cL_law 943 = .ok (.iconst 1, 1) := by decide +kernel
theorem dL_law_944 : decode cL_law 944 = .ok (.iadd, 1) := by decide +kernel
theorem dL_law_945 : decode cL_law 945 = .ok (.iaload, 1) := by decide +kernel
theorem dL_law_946 : decode cL_law 946 = .ok (.aload_n 0, 1) := by decide +kernel
theorem dL_law_947 : decode cL_law 947 = .ok (.iload_n 3, 1) := by decide +kernel
theorem dL_law_948 : decode cL_law 948 = .ok (.iconst 2, 1) := by decide +kernel
theorem dL_law_949 : decode cL_law 949 = .ok (.iadd, 1) := by decide +kernel
theorem dL_law_950 : decode cL_law 950 = .ok (.iaload, 1) := by decide +kernel
theorem dL_law_951 : decode cL_law 951 = .ok (.aload_n 0, 1) := by decide +kernel
theorem dL_law_952 : decode cL_law 952 = .ok (.iload_n 3, 1) := by decide +kernel
theorem dL_law_953 : decode cL_law 953 = .ok (.iconst 3, 1) := by decide +kernel
theorem dL_law_954 : decode cL_law 954 = .ok (.iadd, 1) := by decide +kernel
theorem dL_law_955 : decode cL_law 955 = .ok (.iaload, 1) := by decide +kernel
theorem dL_law_956 : decode cL_law 956 = .ok (.invokevirtual 111, 3) := by decide +kernel
theorem dL_law_959 : decode cL_law 959 = .ok (.aload_n 2, 1) := by decide +kernel
theorem dL_law_960 : decode cL_law 960 = .ok (.aload_n 0, 1) := by decide +kernel
theorem dL_law_961 : decode cL_law 961 = .ok (.iload_n 3, 1) := by decide +kernel
theorem dL_law_962 : decode cL_law 962 = .ok (.iconst 1, 1) := by decide +kernel
theorem dL_law_963 : decode cL_law 963 = .ok (.iadd, 1) := by decide +kernel
theorem dL_law_964 : decode cL_law 964 = .ok (.iaload, 1) := by decide +kernel
theorem dL_law_965 : decode cL_law 965 = .ok (.aload_n 0, 1) := by decide +kernel
theorem dL_law_966 : decode cL_law 966 = .ok (.iload_n 3, 1) := by decide +kernel
theorem dL_law_967 : decode cL_law 967 = .ok (.iconst 2, 1) := by decide +kernel
theorem dL_law_968 : decode cL_law 968 = .ok (.iadd, 1) := by decide +kernel
theorem dL_law_969 : decode cL_law 969 = .ok (.iaload, 1) := by decide +kernel
theorem dL_law_970 : decode cL_law 970 = .ok (.aload_n 0, 1) := by decide +kernel
theorem dL_law_971 : decode cL_law 971 = .ok (.iload_n 3, 1) := by decide +kernel
theorem dL_law_972 : decode cL_law 972 = .ok (.iconst 3, 1) := by decide +kernel
theorem dL_law_973 : decode cL_law 973 = .ok (.iadd, 1) := by decide +kernel
theorem dL_law_974 : decode cL_law 974 = .ok (.iaload, 1) := by decide +kernel
theorem dL_law_975 : decode cL_law 975 = .ok (.invokevirtual 114, 3) := by decide +kernel
theorem dL_law_978 : decode cL_law 978 = .ok (.if_icmp .eq 197, 3) := by decide +kernel
theorem dL_law_981 : decode cL_law 981 = .ok (.iconst 0, 1) := by decide +kernel
theorem dL_law_982 : decode cL_law 982 = .ok (.ireturn, 1) := by decide +kernel
theorem dL_law_983 : decode cL_law 983 = .ok (.aload_n 1, 1) := by decide +kernel
theorem dL_law_984 : decode cL_law 984 = .ok (.aload_n 0, 1) := by decide +kernel
theorem dL_law_985 : decode cL_law 985 = .ok (.iload_n 3, 1) := by decide +kernel
theorem dL_law_986 : decode cL_law 986 = .ok (.iconst 1, 1) := by decide +kernel
theorem dL_law_987 : decode cL_law 987 = .ok (.iadd, 1) := by decide +kernel
theorem dL_law_988 : decode cL_law 988 = .ok (.iaload, 1) := by decide +kernel
theorem dL_law_989 : decode cL_law 989 = .ok (.aload_n 0, 1) := by decide +kernel
theorem dL_law_990 : decode cL_law 990 = .ok (.iload_n 3, 1) := by decide +kernel
theorem dL_law_991 : decode cL_law 991 = .ok (.iconst 2, 1) := by decide +kernel
theorem dL_law_992 : decode cL_law 992 = .ok (.iadd, 1) := by decide +kernel
theorem dL_law_993 : decode cL_law 993 = .ok (.iaload, 1) := by decide +kernel
theorem dL_law_994 : decode cL_law 994 = .ok (.aload_n 0, 1) := by decide +kernel
theorem dL_law_995 : decode cL_law 995 = .ok (.iload_n 3, 1) := by decide +kernel
theorem dL_law_996 : decode cL_law 996 = .ok (.iconst 3, 1) := by decide +kernel
theorem dL_law_997 : decode cL_law 997 = .ok (.iadd, 1) := by decide +kernel
theorem dL_law_998 : decode cL_law 998 = .ok (.iaload, 1) := by decide +kernel
theorem dL_law_999 : decode cL_law 999 = .ok (.invokevirtual 115, 3) := by decide +kernel
theorem dL_law_1002 : decode cL_law 1002 = .ok (.aload_n 2, 1) := by decide +kernel
theorem dL_law_1003 : decode cL_law 1003 = .ok (.aload_n 0, 1) := by decide +kernel
theorem dL_law_1004 : decode cL_law 1004 = .ok (.iload_n 3, 1) := by decide +kernel
theorem dL_law_1005 : decode cL_law 1005 = .ok (.iconst 1, 1) := by decide +kernel
theorem dL_law_1006 : decode cL_law 1006 = .ok (.iadd, 1) := by decide +kernel
theorem dL_law_1007 : decode cL_law 1007 = .ok (.iaload, 1) := by decide +kernel
theorem dL_law_1008 : decode cL_law 1008 = .ok (.aload_n 0, 1) := by decide +kernel
theorem dL_law_1009 : decode cL_law 1009 = .ok (.iload_n 3, 1) := by decide +kernel
theorem dL_law_1010 : decode cL_law 1010 = .ok (.iconst 2, 1) := by decide +kernel
theorem dL_law_1011 : decode cL_law 1011 = .ok (.iadd, 1) := by decide +kernel
theorem dL_law_1012 : decode cL_law 1012 = .ok (.iaload, 1) := by decide +kernel
theorem dL_law_1013 : decode cL_law 1013 = .ok (.aload_n 0, 1) := by decide +kernel
theorem dL_law_1014 : decode cL_law 1014 = .ok (.iload_n 3, 1) := by decide +kernel
theorem dL_law_1015 : decode cL_law 1015 = .ok (.iconst 3, 1) := by decide +kernel
theorem dL_law_1016 : decode cL_law 1016 = .ok (.iadd, 1) := by decide +kernel
theorem dL_law_1017 : decode cL_law 1017 = .ok (.iaload, 1) := by decide +kernel
theorem dL_law_1018 : decode cL_law 1018 = .ok (.invokevirtual 118, 3) := by decide +kernel
theorem dL_law_1021 : decode cL_law 1021 = .ok (.if_icmp .eq 154, 3) := by decide +kernel
theorem dL_law_1024 : decode cL_law 1024 = .ok (.iconst 0, 1) := by decide +kernel
theorem dL_law_1025 : decode cL_law 1025 = .ok (.ireturn, 1) := by decide +kernel
theorem dL_law_1026 : decode cL_law 1026 = .ok (.aload_n 1, 1) := by decide +kernel
theorem dL_law_1027 : decode cL_law 1027 = .ok (.aload_n 0, 1) := by decide +kernel
theorem dL_law_1028 : decode cL_law 1028 = .ok (.iload_n 3, 1) := by decide +kernel
theorem dL_law_1029 : decode cL_law 1029 = .ok (.iconst 1, 1) := by decide +kernel
theorem dL_law_1030 : decode cL_law 1030 = .ok (.iadd, 1) := by decide +kernel
theorem dL_law_1031 : decode cL_law 1031 = .ok (.iaload, 1) := by decide +kernel
theorem dL_law_1032 : decode cL_law 1032 = .ok (.aload_n 0, 1) := by decide +kernel
theorem dL_law_1033 : decode cL_law 1033 = .ok (.iload_n 3, 1) := by decide +kernel
theorem dL_law_1034 : decode cL_law 1034 = .ok (.iconst 2, 1) := by decide +kernel
theorem dL_law_1035 : decode cL_law 1035 = .ok (.iadd, 1) := by decide +kernel
theorem dL_law_1036 : decode cL_law 1036 = .ok (.iaload, 1) := by decide +kernel
theorem dL_law_1037 : decode cL_law 1037 = .ok (.aload_n 0, 1) := by decide +kernel
theorem dL_law_1038 : decode cL_law 1038 = .ok (.iload_n 3, 1) := by decide +kernel
theorem dL_law_1039 : decode cL_law 1039 = .ok (.iconst 3, 1) := by decide +kernel
theorem dL_law_1040 : decode cL_law 1040 = .ok (.iadd, 1) := by decide +kernel
theorem dL_law_1041 : decode cL_law 1041 = .ok (.iaload, 1) := by decide +kernel
theorem dL_law_1042 : decode cL_law 1042 = .ok (.aload_n 0, 1) := by decide +kernel
theorem dL_law_1043 : decode cL_law 1043 = .ok (.iload_n 3, 1) := by decide +kernel
theorem dL_law_1044 : decode cL_law 1044 = .ok (.iconst 4, 1) := by decide +kernel
theorem dL_law_1045 : decode cL_law 1045 = .ok (.iadd, 1) := by decide +kernel
theorem dL_law_1046 : decode cL_law 1046 = .ok (.iaload, 1) := by decide +kernel
theorem dL_law_1047 : decode cL_law 1047 = .ok (.aload_n 0, 1) := by decide +kernel
theorem dL_law_1048 : decode cL_law 1048 = .ok (.iload_n 3, 1) := by decide +kernel
theorem dL_law_1049 : decode cL_law 1049 = .ok (.iconst 5, 1) := by decide +kernel
theorem dL_law_1050 : decode cL_law 1050 = .ok (.iadd, 1) := by decide +kernel
theorem dL_law_1051 : decode cL_law 1051 = .ok (.iaload, 1) := by decide +kernel
theorem dL_law_1052 : decode cL_law 1052 = .ok (.invokevirtual 119, 3) := by decide +kernel
theorem dL_law_1055 : decode cL_law 1055 = .ok (.aload_n 2, 1) := by decide +kernel
theorem dL_law_1056 : decode cL_law 1056 = .ok (.aload_n 0, 1) := by decide +kernel
theorem dL_law_1057 : decode cL_law 1057 = .ok (.iload_n 3, 1) := by decide +kernel
theorem dL_law_1058 : decode cL_law 1058 = .ok (.iconst 1, 1) := by decide +kernel
theorem dL_law_1059 : decode cL_law 1059 = .ok (.iadd, 1) := by decide +kernel
theorem dL_law_1060 : decode cL_law 1060 = .ok (.iaload, 1) := by decide +kernel
theorem dL_law_1061 : decode cL_law 1061 = .ok (.aload_n 0, 1) := by decide +kernel
theorem dL_law_1062 : decode cL_law 1062 = .ok (.iload_n 3, 1) := by decide +kernel
theorem dL_law_1063 : decode cL_law 1063 = .ok (.iconst 2, 1) := by decide +kernel
theorem dL_law_1064 : decode cL_law 1064 = .ok (.iadd, 1) := by decide +kernel
theorem dL_law_1065 : decode cL_law 1065 = .ok (.iaload, 1) := by decide +kernel
theorem dL_law_1066 : decode cL_law 1066 = .ok (.aload_n 0, 1) := by decide +kernel
theorem dL_law_1067 : decode cL_law 1067 = .ok (.iload_n 3, 1) := by decide +kernel
theorem dL_law_1068 : decode cL_law 1068 = .ok (.iconst 3, 1) := by decide +kernel
theorem dL_law_1069 : decode cL_law 1069 = .ok (.iadd, 1) := by decide +kernel
theorem dL_law_1070 : decode cL_law 1070 = .ok (.iaload, 1) := by decide +kernel
theorem dL_law_1071 : decode cL_law 1071 = .ok (.aload_n 0, 1) := by decide +kernel
theorem dL_law_1072 : decode cL_law 1072 = .ok (.iload_n 3, 1) := by decide +kernel
theorem dL_law_1073 : decode cL_law 1073 = .ok (.iconst 4, 1) := by decide +kernel
theorem dL_law_1074 : decode cL_law 1074 = .ok (.iadd, 1) := by decide +kernel
theorem dL_law_1075 : decode cL_law 1075 = .ok (.iaload, 1) := by decide +kernel
theorem dL_law_1076 : decode cL_law 1076 = .ok (.aload_n 0, 1) := by decide +kernel
theorem dL_law_1077 : decode cL_law 1077 = .ok (.iload_n 3, 1) := by decide +kernel
theorem dL_law_1078 : decode cL_law 1078 = .ok (.iconst 5, 1) := by decide +kernel
theorem dL_law_1079 : decode cL_law 1079 = .ok (.iadd, 1) := by decide +kernel
theorem dL_law_1080 : decode cL_law 1080 = .ok (.iaload, 1) := by decide +kernel
theorem dL_law_1081 : decode cL_law 1081 = .ok (.invokevirtual 123, 3) := by decide +kernel
theorem dL_law_1084 : decode cL_law 1084 = .ok (.if_icmp .eq 91, 3) := by decide +kernel
theorem dL_law_1087 : decode cL_law 1087 = .ok (.iconst 0, 1) := by decide +kernel
theorem dL_law_1088 : decode cL_law 1088 = .ok (.ireturn, 1) := by decide +kernel
theorem dL_law_1089 : decode cL_law 1089 = .ok (.aload_n 1, 1) := by decide +kernel
theorem dL_law_1090 : decode cL_law 1090 = .ok (.aload_n 0, 1) := by decide +kernel
theorem dL_law_1091 : decode cL_law 1091 = .ok (.iload_n 3, 1) := by decide +kernel
theorem dL_law_1092 : decode cL_law 1092 = .ok (.iconst 1, 1) := by decide +kernel
theorem dL_law_1093 : decode cL_law 1093 = .ok (.iadd, 1) := by decide +kernel
theorem dL_law_1094 : decode cL_law 1094 = .ok (.iaload, 1) := by decide +kernel
theorem dL_law_1095 : decode cL_law 1095 = .ok (.aload_n 0, 1) := by decide +kernel
theorem dL_law_1096 : decode cL_law 1096 = .ok (.iload_n 3, 1) := by decide +kernel
theorem dL_law_1097 : decode cL_law 1097 = .ok (.iconst 2, 1) := by decide +kernel
theorem dL_law_1098 : decode cL_law 1098 = .ok (.iadd, 1) := by decide +kernel
theorem dL_law_1099 : decode cL_law 1099 = .ok (.iaload, 1) := by decide +kernel
theorem dL_law_1100 : decode cL_law 1100 = .ok (.aload_n 0, 1) := by decide +kernel
theorem dL_law_1101 : decode cL_law 1101 = .ok (.iload_n 3, 1) := by decide +kernel
theorem dL_law_1102 : decode cL_law 1102 = .ok (.iconst 3, 1) := by decide +kernel
theorem dL_law_1103 : decode cL_law 1103 = .ok (.iadd, 1) := by decide +kernel
theorem dL_law_1104 : decode cL_law 1104 = .ok (.iaload, 1) := by decide +kernel
theorem dL_law_1105 : decode cL_law 1105 = .ok (.aload_n 0, 1) := by decide +kernel
theorem dL_law_1106 : decode cL_law 1106 = .ok (.iload_n 3, 1) := by decide +kernel
theorem dL_law_1107 : decode cL_law 1107 = .ok (.iconst 4, 1) := by decide +kernel
theorem dL_law_1108 : decode cL_law 1108 = .ok (.iadd, 1) := by decide +kernel
theorem dL_law_1109 : decode cL_law 1109 = .ok (.iaload, 1) := by decide +kernel
theorem dL_law_1110 : decode cL_law 1110 = .ok (.invokevirtual 124, 3) := by decide +kernel
theorem dL_law_1113 : decode cL_law 1113 = .ok (.aload_n 2, 1) := by decide +kernel
theorem dL_law_1114 : decode cL_law 1114 = .ok (.aload_n 0, 1) := by decide +kernel
theorem dL_law_1115 : decode cL_law 1115 = .ok (.iload_n 3, 1) := by decide +kernel
theorem dL_law_1116 : decode cL_law 1116 = .ok (.iconst 1, 1) := by decide +kernel
theorem dL_law_1117 : decode cL_law 1117 = .ok (.iadd, 1) := by decide +kernel
theorem dL_law_1118 : decode cL_law 1118 = .ok (.iaload, 1) := by decide +kernel
theorem dL_law_1119 : decode cL_law 1119 = .ok (.aload_n 0, 1) := by decide +kernel
theorem dL_law_1120 : decode cL_law 1120 = .ok (.iload_n 3, 1) := by decide +kernel
theorem dL_law_1121 : decode cL_law 1121 = .ok (.iconst 2, 1) := by decide +kernel
theorem dL_law_1122 : decode cL_law 1122 = .ok (.iadd, 1) := by decide +kernel
theorem dL_law_1123 : decode cL_law 1123 = .ok (.iaload, 1) := by decide +kernel
theorem dL_law_1124 : decode cL_law 1124 = .ok (.aload_n 0, 1) := by decide +kernel
theorem dL_law_1125 : decode cL_law 1125 = .ok (.iload_n 3, 1) := by decide +kernel
theorem dL_law_1126 : decode cL_law 1126 = .ok (.iconst 3, 1) := by decide +kernel
theorem dL_law_1127 : decode cL_law 1127 = .ok (.iadd, 1) := by decide +kernel
theorem dL_law_1128 : decode cL_law 1128 = .ok (.iaload, 1) := by decide +kernel
theorem dL_law_1129 : decode cL_law 1129 = .ok (.aload_n 0, 1) := by decide +kernel
theorem dL_law_1130 : decode cL_law 1130 = .ok (.iload_n 3, 1) := by decide +kernel
theorem dL_law_1131 : decode cL_law 1131 = .ok (.iconst 4, 1) := by decide +kernel
theorem dL_law_1132 : decode cL_law 1132 = .ok (.iadd, 1) := by decide +kernel
theorem dL_law_1133 : decode cL_law 1133 = .ok (.iaload, 1) := by decide +kernel
theorem dL_law_1134 : decode cL_law 1134 = .ok (.invokevirtual 127, 3) := by decide +kernel
theorem dL_law_1137 : decode cL_law 1137 = .ok (.if_icmp .eq 38, 3) := by decide +kernel
theorem dL_law_1140 : decode cL_law 1140 = .ok (.iconst 0, 1) := by decide +kernel
theorem dL_law_1141 : decode cL_law 1141 = .ok (.ireturn, 1) := by decide +kernel
theorem dL_law_1142 : decode cL_law 1142 = .ok (.aload_n 1, 1) := by decide +kernel
theorem dL_law_1143 : decode cL_law 1143 = .ok (.aload_n 0, 1) := by decide +kernel
theorem dL_law_1144 : decode cL_law 1144 = .ok (.iload_n 3, 1) := by decide +kernel
theorem dL_law_1145 : decode cL_law 1145 = .ok (.iconst 1, 1) := by decide +kernel
theorem dL_law_1146 : decode cL_law 1146 = .ok (.iadd, 1) := by decide +kernel
theorem dL_law_1147 : decode cL_law 1147 = .ok (.iaload, 1) := by decide +kernel
theorem dL_law_1148 : decode cL_law 1148 = .ok (.aload_n 0, 1) := by decide +kernel
theorem dL_law_1149 : decode cL_law 1149 = .ok (.iload_n 3, 1) := by decide +kernel
theorem dL_law_1150 : decode cL_law 1150 = .ok (.iconst 2, 1) := by decide +kernel
theorem dL_law_1151 : decode cL_law 1151 = .ok (.iadd, 1) := by decide +kernel
theorem dL_law_1152 : decode cL_law 1152 = .ok (.iaload, 1) := by decide +kernel
theorem dL_law_1153 : decode cL_law 1153 = .ok (.invokevirtual 128, 3) := by decide +kernel
theorem dL_law_1156 : decode cL_law 1156 = .ok (.aload_n 2, 1) := by decide +kernel
theorem dL_law_1157 : decode cL_law 1157 = .ok (.aload_n 0, 1) := by decide +kernel
theorem dL_law_1158 : decode cL_law 1158 = .ok (.iload_n 3, 1) := by decide +kernel
theorem dL_law_1159 : decode cL_law 1159 = .ok (.iconst 1, 1) := by decide +kernel
theorem dL_law_1160 : decode cL_law 1160 = .ok (.iadd, 1) := by decide +kernel
theorem dL_law_1161 : decode cL_law 1161 = .ok (.iaload, 1) := by decide +kernel
theorem dL_law_1162 : decode cL_law 1162 = .ok (.aload_n 0, 1) := by decide +kernel
theorem dL_law_1163 : decode cL_law 1163 = .ok (.iload_n 3, 1) := by decide +kernel
theorem dL_law_1164 : decode cL_law 1164 = .ok (.iconst 2, 1) := by decide +kernel
theorem dL_law_1165 : decode cL_law 1165 = .ok (.iadd, 1) := by decide +kernel
theorem dL_law_1166 : decode cL_law 1166 = .ok (.iaload, 1) := by decide +kernel
theorem dL_law_1167 : decode cL_law 1167 = .ok (.invokevirtual 131, 3) := by decide +kernel
theorem dL_law_1170 : decode cL_law 1170 = .ok (.if_icmp .eq 5, 3) := by decide +kernel
theorem dL_law_1173 : decode cL_law 1173 = .ok (.iconst 0, 1) := by decide +kernel
theorem dL_law_1174 : decode cL_law 1174 = .ok (.ireturn, 1) := by decide +kernel
theorem dL_law_1175 : decode cL_law 1175 = .ok (.iinc 3 6, 3) := by decide +kernel
theorem dL_law_1178 : decode cL_law 1178 = .ok (.goto (-1160), 3) := by decide +kernel
theorem dL_law_1181 : decode cL_law 1181 = .ok (.iconst 1, 1) := by decide +kernel
theorem dL_law_1182 : decode cL_law 1182 = .ok (.ireturn, 1) := by decide +kernel
end
section

abbrev zM : Type := MethodName × ByteArray × Nat × Option FieldType × Nat × Nat
abbrev zG : Type := Nat × (Nat → Nat × Nat × Nat) × (Nat → Nat → Option Nat)
abbrev zI : Type := Nat → Nat → Int32
def zT : List Cond := lw_tbl.filter goodWord
def zws (Y : zM) : List Cond := Cond.code Y.1 Y.2.1 Y.2.2.1 Y.2.2.2.1 :: zT
def zroom (d : Nat) (Y : zM) : Room := { frames := d, cells := Y.2.2.2.2.1, slots := Y.2.2.2.2.2, locals := 40 * d }
def zv (ρ : Nat → Nat) : Value → Value
  | .ref a => .ref (ρ a)
  | v => v
def zdr (x : Int32) : Option Nat := if x = 0 then none else some (x.toNatClampNeg - 1)
def zfkL : List (List Nat) := [[0, 0, 0, 0], [0, 0, 0, 1, 1], [1, 1, 1, 1, 1, 0, 0, 0], [1, 1, 1, 1, 1, 1], [1, 0, 0, 0, 0, 0, 2, 0], [0, 0, 1], [1, 1, 1, 1, 0], [1, 1, 1, 1, 1, 1, 1, 1, 0], [0, 0, 1, 1, 1, 0, 0, 1, 0, 1, 1, 1, 0, 0, 0, 0, 0, 0, 1, 0, 0, 0, 0, 0, 1, 1, 1, 1, 1, 1, 1, 1, 0, 0, 1, 1, 1, 1, 1]]
def zftL : List (List FieldType) := [[.int, .int, .int, .int], [.int, .int, .int, .array .int, .array .int], [.object "NumbersInherited$Reader", .array (.array .int), .array (.array .int), .array .int, .array .int, .int, .int, .int], [.object "NumbersInherited$Law", .array .int, .array .int, .array .int, .array .boolean, .array .boolean], [.array .int, .int, .int, .int, .int, .int, .array .int, .int], [.int, .int, .array .int], [.object "NumbersInherited$Paying", .array (.array .int), .array .int, .array .int, .int], [.array (.object "NumbersInherited$Heir"), .array (.object "NumbersInherited$Sheet"), .object "NumbersInherited$Law", .object "NumbersInherited$Paying", .object "NumbersInherited$Ways", .object "NumbersInherited$Image", .object "NumbersInherited$Heir", .object "NumbersInherited$Heir", .int], [.int, .int, .array .int, .array .int, .array .int, .int, .int, .array .int, .int, .array .int, .array .int, .array .int, .int, .int, .int, .int, .int, .int, .array .int, .int, .int, .boolean, .boolean, .boolean, .array .int, .array .int, .array .int, .array .int, .array .boolean, .array .int, .array .int, .array .int, .boolean, .int, .array .int, .array .int, .array .int, .array .int, .array .int]]
def zNFL : List Nat := [4, 5, 8, 6, 8, 3, 5, 9, 39]
def zfk (c k : Nat) : Nat := (zfkL.getD c []).getD k 0
def zft (c k : Nat) : FieldType := (zftL.getD c []).getD k .int
def zNF (c : Nat) : Nat := zNFL.getD c 0
def zfv (ρ : Nat → Nat) (kind : Nat) (r : Option Nat) (x : Int32) : Value := match kind with
  | 0 => .int x
  | 1 => va_rf (r.map ρ)
  | _ => va_rf ((zdr x).map ρ)
def zF (ρ : Nat → Nat) (c : Nat) (r : Nat → Option Nat) (s : Nat → Int32) : List Value := (List.range (zNF c)).map (fun k => zfv ρ (zfk c k) (r k) (s k))
def zC (ρ : Nat → Nat) (cy : Nat → ClassId) (sh : Nat × Nat × Nat) (r : Nat → Option Nat) (s : Nat → Int32) : va_E := match sh.1 with
  | 0 => .inr (sh.2.1, zF ρ sh.2.1 r s)
  | 1 => .inl (cy 0, (sh.2.2, .inl s))
  | 2 => .inl (cy 1, (sh.2.2, .inl s))
  | k + 3 => .inl (cy (k + 2), (sh.2.2, .inr (.inr (.inr (.inr (fun j => (r j).map ρ))))))
def zW (ρ : Nat → Nat) (cy : Nat → ClassId) (g : zG) (σ : zI) : va_W := (List.range g.1).map (fun i => (ρ i, zC ρ cy (g.2.1 i) (g.2.2 i) (σ i)))
def zTy (cy : Nat → ClassId) : List (ClassId × FieldType) := [(cy 0, .int), (cy 1, .boolean), (cy 2, .object RX0), (cy 3, .object RX5), (cy 4, .array .int)]
def zWf (g : zG) (σ : zI) : Prop := (∀ i k x, i < g.1 → g.2.2 i k = some x → x < g.1) ∧ (∀ i k x, i < g.1 → (g.2.1 i).1 = 0 → zfk (g.2.1 i).2.1 k = 2 → zdr (σ i k) = some x → x < g.1) ∧ g.1 ≤ 1000
def zExt (kc : Nat) (g : zG) (σ : zI) (g' : zG) (σ' : zI) (ρ ρ' : Nat → Nat) : Prop := (kc = 0 → ρ' = ρ) ∧ g.1 ≤ g'.1 ∧ (∀ i, (i < g.1 ∨ 1000 ≤ i) → ρ' i = ρ i) ∧ g'.2.1 3000 = g.2.1 3000 ∧ σ' 3000 = σ 3000
theorem zExt_rf (kc : Nat) (g : zG) (σ : zI) (ρ : Nat → Nat) : zExt kc g σ g σ ρ ρ := ⟨fun _ => rfl, Nat.le_refl _, fun _ _ => rfl, rfl, rfl⟩
theorem zExt_tr {kc k1 : Nat} {g g1 g2 : zG} {σ σ1 σ2 : zI} {ρ ρ1 ρ2 : Nat → Nat} (h : zExt kc g σ g1 σ1 ρ ρ1) (h1 : zExt k1 g1 σ1 g2 σ2 ρ1 ρ2) (hk : kc = 0 → k1 = 0) : zExt kc g σ g2 σ2 ρ ρ2 :=
  ⟨fun q => (h1.1 (hk q)).trans (h.1 q), Nat.le_trans h.2.1 h1.2.1, fun i hi => (h1.2.2.1 i (by rcases hi with q | q; exact Or.inl (Nat.lt_of_lt_of_le q h.2.1); exact Or.inr q)).trans (h.2.2.1 i hi), h1.2.2.2.1.trans h.2.2.2.1, h1.2.2.2.2.trans h.2.2.2.2⟩
def zNM : List (String × Nat × MethodName × String) := [("NumbersInherited$Law", 11, ⟨"NumbersInherited$Reader", "<init>", "()V"⟩, "NumbersInherited"), ("NumbersInherited", 48, ⟨"NumbersInherited$Image", "<init>", "()V"⟩, "NumbersInherited"), ("NumbersInherited", 53, ⟨"NumbersInherited$Heir", "<init>", "()V"⟩, "NumbersInherited"), ("NumbersInherited", 61, ⟨"NumbersInherited$Sheet", "<init>", "()V"⟩, "NumbersInherited"), ("NumbersInherited$Heir", 45, ⟨"NumbersInherited", "has", "(II)Z"⟩, "NumbersInherited"), ("NumbersInherited$Heir", 38, ⟨"NumbersInherited", "bit", "(I)I"⟩, "NumbersInherited"), ("NumbersInherited$Heir", 34, ⟨"NumbersInherited", "isNumber", "(I)Z"⟩, "NumbersInherited"), ("NumbersInherited$Law", 65, ⟨"NumbersInherited", "has", "(II)Z"⟩, "NumbersInherited"), ("NumbersInherited$Law", 69, ⟨"NumbersInherited", "truth", "(Z)I"⟩, "NumbersInherited"), ("NumbersInherited$Paying", 56, ⟨"NumbersInherited", "has", "(II)Z"⟩, "NumbersInherited"), ("NumbersInherited$Paying", 52, ⟨"NumbersInherited", "isSum", "(I)Z"⟩, "NumbersInherited"), ("NumbersInherited$Paying", 64, ⟨"NumbersInherited", "truth", "(Z)I"⟩, "NumbersInherited"), ("NumbersInherited$Sheet", 30, ⟨"NumbersInherited", "isSum", "(I)Z"⟩, "NumbersInherited")]
def zNF2 : List (String × Nat × String × String × String × String) := [("NumbersInherited", 126, "NumbersInherited$Reader", "size", "I", "NumbersInherited"), ("NumbersInherited", 117, "NumbersInherited$Law", "reader", "LNumbersInherited$Reader;", "NumbersInherited"), ("NumbersInherited", 127, "NumbersInherited$Law", "texts", "I", "NumbersInherited"), ("NumbersInherited", 133, "NumbersInherited$Law", "rule", "I", "NumbersInherited"), ("NumbersInherited", 109, "NumbersInherited$Law", "day", "I", "NumbersInherited"), ("NumbersInherited", 257, "NumbersInherited$Image", "size", "I", "NumbersInherited"), ("NumbersInherited", 255, "NumbersInherited$Image", "day", "I", "NumbersInherited"), ("NumbersInherited", 256, "NumbersInherited$Image", "rule", "I", "NumbersInherited"), ("NumbersInherited", 258, "NumbersInherited$Image", "mores", "[I", "NumbersInherited"), ("NumbersInherited", 262, "NumbersInherited$Image", "owns", "[I", "NumbersInherited"), ("NumbersInherited", 81, "NumbersInherited$Heir", "number", "I", "NumbersInherited"), ("NumbersInherited$Law", 101, "NumbersInherited$Heir", "number", "I", "NumbersInherited"), ("NumbersInherited", 84, "NumbersInherited$Heir", "kind", "I", "NumbersInherited"), ("NumbersInherited", 87, "NumbersInherited$Heir", "more", "I", "NumbersInherited"), ("NumbersInherited$Law", 93, "NumbersInherited$Heir", "more", "I", "NumbersInherited"), ("NumbersInherited$Law", 60, "NumbersInherited$Heir", "own", "I", "NumbersInherited"), ("NumbersInherited", 90, "NumbersInherited$Heir", "own", "I", "NumbersInherited"), ("NumbersInherited", 209, "NumbersInherited$Sheet", "sort", "I", "NumbersInherited"), ("NumbersInherited$Paying", 79, "NumbersInherited$Sheet", "size", "I", "NumbersInherited"), ("NumbersInherited", 277, "NumbersInherited$Sheet", "items", "[I", "NumbersInherited")]
def zN : List Cond := zNM.map (fun q => Cond.methodLinkNest q.1 q.2.1 q.2.2.1 q.2.2.2) ++ zNF2.map (fun q => Cond.fieldLinkNest q.1 q.2.1 q.2.2.1 q.2.2.2.1 q.2.2.2.2.1 q.2.2.2.2.2)
def zSR : List (String × Nat × String × Nat) := [("NumbersInherited$Law", 33, "says 1 ; meant 1 ; worth n ;", 0), ("NumbersInherited$Reader", 108, "n", 1), ("NumbersInherited$Reader", 110, "own", 2), ("NumbersInherited$Reader", 112, "more", 3), ("NumbersInherited$Reader", 114, "many", 4), ("NumbersInherited$Reader", 116, "heir", 5), ("NumbersInherited$Reader", 118, "day", 6), ("NumbersInherited$Reader", 120, "says", 7), ("NumbersInherited$Reader", 122, "meant", 8), ("NumbersInherited$Reader", 124, "worth", 9), ("NumbersInherited$Reader", 126, "or", 10), ("NumbersInherited$Reader", 128, "and", 11), ("NumbersInherited$Reader", 130, "not", 12), ("NumbersInherited$Reader", 131, "();+-*<=", 13)]
def zlen : List Nat := [28, 1, 3, 4, 4, 4, 3, 4, 5, 5, 2, 3, 3, 8]
def zbyt : List (List Int32) := [[115, 97, 121, 115, 32, 49, 32, 59, 32, 109, 101, 97, 110, 116, 32, 49, 32, 59, 32, 119, 111, 114, 116, 104, 32, 110, 32, 59], [110], [111, 119, 110], [109, 111, 114, 101], [109, 97, 110, 121], [104, 101, 105, 114], [100, 97, 121], [115, 97, 121, 115], [109, 101, 97, 110, 116], [119, 111, 114, 116, 104], [111, 114], [97, 110, 100], [110, 111, 116], [40, 41, 59, 43, 45, 42, 60, 61]]
def zNS : Nat := 14
def zSIO : String := "jdk/internal/util/Preconditions"
def zRO (ρ : Nat → Nat) (g : zG) (σ : zI) (A : Nat → Prop) (U : State) (H : Heap) : Prop :=
  (∀ w ∈ zN, va_Nw w U) ∧ vk_S zNS zlen zbyt (fun k => ρ (1000 + k)) (fun k => ρ (2000 + k)) A U H ∧ (∀ x ∈ zSR, vk_R x.1 x.2.1 x.2.2.1 (ρ (1000 + x.2.2.2)) U) ∧
  va_Z "java/lang/String" "COMPACT_STRINGS" "Z" (.int 1) A U H ∧ (va_Z zSIO "SIOOBE_FORMATTER" "Ljava/util/function/BiFunction;" .null A U H ∨ va_Z zSIO "SIOOBE_FORMATTER" "Ljava/util/function/BiFunction;" (.ref (ρ 4000)) A U H) ∧
  va_AO RX0 U ∧ va_AO RX5 U ∧ va_AOA .int U ∧ ∀ n : Nat, g.2.1 3000 = (9, 0, n) → va_X (ρ 3000) n (σ 3000) U H ∧ ρ 3000 < H.size ∧ ¬ A (ρ 3000)
theorem zRO_same {ρ : Nat → Nat} {g : zG} {σ : zI} {A : Nat → Prop} {u U : State} {H : Heap} (hv : U.vm = u.vm) (h : zRO ρ g σ A u H) : zRO ρ g σ A U H := by
  obtain ⟨h1, h2, h3, h4, h5, h6, h7, h8, h9⟩ := h
  have hal : u.vm.Alike U.vm := by rw [hv]; exact Vm.Alike.refl _
  refine ⟨fun w hw => ?_, h2.moved hal, fun x hx => vk_R.same hv (h3 x hx), h4.moved hal, ?_, h6.moved hal, h7.moved hal, h8.moved hal, fun n hn => ⟨(h9 n hn).1.moved hal, (h9 n hn).2⟩⟩
  · have h0 := h1 w hw
    rcases List.mem_append.mp hw with hw | hw
    · obtain ⟨q, -, rfl⟩ := List.mem_map.mp hw
      exact va_Nw.same rfl hv.symm h0
    · obtain ⟨q, -, rfl⟩ := List.mem_map.mp hw
      exact va_Nw.same rfl hv.symm h0
  · rcases h5 with h5 | h5
    · exact Or.inl (h5.moved hal)
    · exact Or.inr (h5.moved hal)
theorem zRO_call {ρ : Nat → Nat} {g : zG} {σ : zI} {A A1 : Nat → Prop} {s U : State} {locs : List Loc} (hW : s.WarmedH U.vm) (hS : va_S A s.heap U.heap locs) (hab : ∀ q, A1 q → A q) (h : zRO ρ g σ A s s.heap) : zRO ρ g σ A1 U U.heap := by
  obtain ⟨h1, h2, h3, h4, h5, h6, h7, h8, h9⟩ := h
  have hal : s.vm.Alike U.vm := hW.alike
  refine ⟨fun w hw => ?_, ((h2.moved hal).kept hS.2.1).narrow hab, fun x hx => vk_R.warm hW (h3 x hx), ((h4.moved hal).kept hS.2.1).narrow hab, ?_, h6.moved hal, h7.moved hal, h8.moved hal, fun n hn => ?_⟩
  · have h0 := h1 w hw
    rcases List.mem_append.mp hw with hw | hw
    · obtain ⟨q, -, rfl⟩ := List.mem_map.mp hw
      exact va_Nw.warmM hW h0
    · obtain ⟨q, -, rfl⟩ := List.mem_map.mp hw
      exact va_Nw.warmF hW h0
  · rcases h5 with h5 | h5
    · exact Or.inl (((h5.moved hal).kept hS.2.1).narrow hab)
    · exact Or.inr (((h5.moved hal).kept hS.2.1).narrow hab)
  · obtain ⟨q1, q2, q3⟩ := h9 n hn
    exact ⟨(q1.moved hal).kept (hS.2.1 _ q2 q3), Nat.lt_of_lt_of_le q2 hS.1, fun z => q3 (hab _ z)⟩
theorem zRO_set {ρ ρ' : Nat → Nat} {g g' : zG} {σ σ' : zI} {A : Nat → Prop} {U : State} {H : Heap} (h : zRO ρ g σ A U H) (hr : ∀ i, 1000 ≤ i → ρ' i = ρ i) (hg : g'.2.1 3000 = g.2.1 3000) (hs : σ' 3000 = σ 3000) : zRO ρ' g' σ' A U H := by
  obtain ⟨h1, h2, h3, h4, h5, h6, h7, h8, h9⟩ := h
  have e1 : (fun k : Nat => ρ' (1000 + k)) = fun k => ρ (1000 + k) := funext fun k => hr _ (by omega)
  have e2 : (fun k : Nat => ρ' (2000 + k)) = fun k => ρ (2000 + k) := funext fun k => hr _ (by omega)
  refine ⟨h1, by rw [e1, e2]; exact h2, fun x hx => by rw [hr _ (by omega)]; exact h3 x hx, h4, by rw [hr 4000 (by omega)]; exact h5, h6, h7, h8, fun n hn => ?_⟩
  rw [hs, hr 3000 (by omega)]
  exact h9 n (hg.symm.trans hn)
def zL (ls : Array Slot) (nL : Nat) (L : List Value) : Prop := ls.size = nL ∧ lv_wf ls ∧ ∀ (i : Nat) (v : Value), L[i]? = some v → v ≠ .retAddr 0 → ls[i]? = some (.val v)
def zCtx (Y : zM) (d : Nat) (p : Program) (R : Room) (s : State) (m : MethodId) (args : Array Value) (meth : Method) (c : Code) : Prop :=
  p.tables.exec = Jvm.exec ∧ c.code = Y.2.1 ∧ c.maxLocals = Y.2.2.1 ∧ meth.sig.returnType = Y.2.2.2.1 ∧ meth.locks = false ∧ (∀ w ∈ zT, w.before args s = true) ∧ s.vm.findClass Y.1.cls = some m.cls ∧ meth.name = Y.1.name ∧ d ≤ R.frames ∧ 40 * d ≤ R.locals
/-- what stands at the return: its instruction, and that the answer fits -/
def zRI (Y : zM) (pc : Nat) (r : Option Value) : Prop :=
  (r = none ∧ Y.2.2.2.1 = none ∧ decode Y.2.1 pc = .ok (.return_, 1)) ∨ (∃ (v : Int32) (ty : FieldType), r = some (.int v) ∧ Y.2.2.2.1 = some ty ∧ narrow ty (.int v) = .int v ∧ decode Y.2.1 pc = .ok (.ireturn, 1)) ∨
  (∃ v : Int64, r = some (.long v) ∧ Y.2.2.2.1 = some .long ∧ decode Y.2.1 pc = .ok (.lreturn, 1)) ∨ (∃ (v : Value) (rt : FieldType), r = some v ∧ (v = .null ∨ ∃ a, v = .ref a) ∧ Y.2.2.2.1 = some rt ∧ ((∃ n, rt = .object n) ∨ ∃ t, rt = .array t) ∧ decode Y.2.1 pc = .ok (.areturn, 1))
def zRT (Y : zM) (p : Program) (l : Launch) (e : Env) (R : Room) (s : State) (m : MethodId) (args : Array Value) (below : List Frame) (meth : Method) (c : Code) (Q2 : State → Prop) (dC : Nat → ClassId) (dI : Nat → Nat → Nat) (cy : Nat → ClassId) (A : Nat → Prop) (kc : Nat) (g : zG) (σ : zI) (ρ : Nat → Nat) (Q : Option Value → zG → zI → Prop) : Prop :=
  ∀ (r : Option Value) (g' : zG) (σ' : zI) (ρ' : Nat → Nat) (H' : Heap) (locs' : List Loc) (cells' slots' pc' : Nat) (ls' : Array Slot), Q r g' σ' → cells' ≤ R.cells → slots' ≤ R.slots → zWf g' σ' → zExt kc g σ g' σ' ρ ρ' →
    va_P (dC, dI) vwCl (zW ρ' cy g' σ') H' → va_D A (zW ρ' cy g' σ') → va_S A s.heap H' locs' → zRI Y pc' r → W p l e R s m args below meth c H' locs' cells' slots' Q2 (F0 m pc' ls' (r.toList.map (zv ρ')))
theorem zRT_st {Y : zM} {p : Program} {l : Launch} {e : Env} {R : Room} {s : State} {m : MethodId} {args : Array Value} {below : List Frame} {meth : Method} {c : Code} {Q2 : State → Prop} {dC : Nat → ClassId} {dI : Nat → Nat → Nat} {cy : Nat → ClassId} {A : Nat → Prop} {kc k1 : Nat} {g g1 : zG} {σ σ1 : zI} {ρ ρ1 : Nat → Nat} {Q : Option Value → zG → zI → Prop}
    (h : zRT Y p l e R s m args below meth c Q2 dC dI cy A kc g σ ρ Q) (he : zExt kc g σ g1 σ1 ρ ρ1) (hk : kc = 0 → k1 = 0) : zRT Y p l e R s m args below meth c Q2 dC dI cy A k1 g1 σ1 ρ1 Q :=
  fun r g' σ' ρ' H' locs' cells' slots' pc' ls' hq h1 h2 h3 h4 h5 h6 h7 h8 => h r g' σ' ρ' H' locs' cells' slots' pc' ls' hq h1 h2 h3 (zExt_tr he h4 hk) h5 h6 h7 h8
/-- THE JUDGEMENT: method Y at pc, with locals L, operands S, in a world of geometry g and ints σ, with room for d frames, kc cells, ks slots more, comes to a return with Q -/
def zX (Y : zM) (d kc ks pc : Nat) (L S : List Value) (g : zG) (σ : zI) (Q : Option Value → zG → zI → Prop) : Prop :=
  ∀ (p : Program) (l : Launch) (e : Env) (R : Room) (s : State) (m : MethodId) (args : Array Value) (below : List Frame) (meth : Method) (c : Code) (H : Heap) (locs : List Loc) (cells slots : Nat) (Q2 : State → Prop) (dC : Nat → ClassId) (dI : Nat → Nat → Nat) (cy : Nat → ClassId) (ρ : Nat → Nat) (A : Nat → Prop) (ls : Array Slot),
    zCtx Y d p R s m args meth c → zRO ρ g σ A s s.heap → va_K (dC, dI) vwCl (zTy cy) s → (∀ q, s.heap.size ≤ q → A q) → cells + kc ≤ R.cells → slots + ks ≤ R.slots → zWf g σ → zL ls Y.2.2.1 (L.map (zv ρ)) →
    va_P (dC, dI) vwCl (zW ρ cy g σ) H → va_D A (zW ρ cy g σ) → va_S A s.heap H locs → zRT Y p l e R s m args below meth c Q2 dC dI cy A kc g σ ρ Q →
    W p l e R s m args below meth c H locs cells slots Q2 (F0 m pc ls (S.map (zv ρ)))
/-- a call: at most d frames deep, method Y with these arguments in this world returns with Q -/
def zQc (dC : Nat → ClassId) (dI : Nat → Nat → Nat) (cy : Nat → ClassId) (ρ : Nat → Nat) (kc : Nat) (g : zG) (σ : zI) (A1 : Nat → Prop) (Q : Option Value → zG → zI → Prop) : Array Value → State → Outcome → State → Prop := fun _ st oc t =>
  (∃ (r : Option Value) (g' : zG) (σ' : zI) (ρ' : Nat → Nat), oc = .returned (r.map (zv ρ')) ∧ Q r g' σ' ∧ zWf g' σ' ∧ zExt kc g σ g' σ' ρ ρ' ∧ va_P (dC, dI) vwCl (zW ρ' cy g' σ') t.heap ∧ va_D A1 (zW ρ' cy g' σ')) ∧ va_F A1 st t
def zPr (dC : Nat → ClassId) (dI : Nat → Nat → Nat) (cy : Nat → ClassId) (ρ : Nat → Nat) (g : zG) (σ : zI) (sz : Nat) : State → Prop := fun U =>
  U.heap.size = sz ∧ zWf g σ ∧ va_P (dC, dI) vwCl (zW ρ cy g σ) U.heap ∧ va_K (dC, dI) vwCl (zTy cy) U ∧ va_D (fun _ => True) (zW ρ cy g σ) ∧ zRO ρ g σ (va_A (zW ρ cy g σ) sz) U U.heap
def zCx (Y : zM) (d : Nat) (as : List Value) (g : zG) (σ : zI) (Q : Option Value → zG → zI → Prop) : Prop := ∃ d', d' ≤ d ∧ ∀ (l : Launch) (dC : Nat → ClassId) (dI : Nat → Nat → Nat) (cy : Nat → ClassId) (ρ : Nat → Nat) (sz : Nat),
  Met l Y.1 (zws Y) (zroom d' Y) (va_Pc (as.map (zv ρ)) (zPr dC dI cy ρ g σ sz)) (zQc dC dI cy ρ Y.2.2.2.2.1 g σ (va_A (zW ρ cy g σ) sz) Q) Y.2.2.2.2.1 Y.2.2.2.2.2 (va_A (zW ρ cy g σ) sz)
theorem Met_post {l : Launch} {y : MethodName} {ws : List Cond} {rm : Room} {Pc : Array Value → State → Prop} {Qc Qd : Array Value → State → Outcome → State → Prop} {mc ms : Nat} {free : Addr → Prop} (hM : Met l y ws rm Pc Qc mc ms free) (h : ∀ a st o t, Qc a st o t → Qd a st o t) : Met l y ws rm Pc Qd mc ms free := by
  intro p e h1 h2 h3 s m args below h4 h5 h6 h7
  obtain ⟨n, o, a1, a2, a3, a4, a5⟩ := hM p e h1 h2 h3 s m args below h4 h5 h6 h7
  exact ⟨n, o, a1, a2, a3, h _ _ _ _ a4, a5⟩
theorem zCx_mono {Y : zM} {d d2 : Nat} {as : List Value} {g : zG} {σ : zI} {Q Q' : Option Value → zG → zI → Prop} (h : zCx Y d as g σ Q) (hd : d ≤ d2) (hq : ∀ r g' σ', Q r g' σ' → Q' r g' σ') : zCx Y d2 as g σ Q' := by
  obtain ⟨d', h1, h2⟩ := h
  refine ⟨d', Nat.le_trans h1 hd, fun l dC dI cy ρ sz => ?_⟩
  have hM := h2 l dC dI cy ρ sz
  refine Met_post hM ?_
  rintro a st o t ⟨⟨r, g', σ', ρ', z1, z2, z3⟩, z4⟩
  exact ⟨⟨r, g', σ', ρ', z1, hq _ _ _ z2, z3⟩, z4⟩

theorem x_iadd {Y : zM} {d kc ks pc : Nat} {L S : List Value} {g : zG} {σ : zI} {Q : Option Value → zG → zI → Prop} {a b : Int32} (hd : decode Y.2.1 pc = .ok (.iadd, 1)) (k : zX Y d kc ks (pc + 1) L (.int (a + b) :: S) g σ Q) : zX Y d kc ks (pc) L (.int b :: .int a :: S) g σ Q := by
  intro p l e R s m args below meth c H locs cells slots Q2 dC dI cy ρ A ls hC hRO hK hA hc hs hw hl hP hD hS ret
  exact lv_iadd hC.1 hC.2.1 hd (k p l e R s m args below meth c H locs cells slots Q2 dC dI cy ρ A ls hC hRO hK hA hc hs hw hl hP hD hS ret)
theorem x_isub {Y : zM} {d kc ks pc : Nat} {L S : List Value} {g : zG} {σ : zI} {Q : Option Value → zG → zI → Prop} {a b : Int32} (hd : decode Y.2.1 pc = .ok (.isub, 1)) (k : zX Y d kc ks (pc + 1) L (.int (a - b) :: S) g σ Q) : zX Y d kc ks (pc) L (.int b :: .int a :: S) g σ Q := by
  intro p l e R s m args below meth c H locs cells slots Q2 dC dI cy ρ A ls hC hRO hK hA hc hs hw hl hP hD hS ret
  exact lv_isub hC.1 hC.2.1 hd (k p l e R s m args below meth c H locs cells slots Q2 dC dI cy ρ A ls hC hRO hK hA hc hs hw hl hP hD hS ret)
theorem x_imul {Y : zM} {d kc ks pc : Nat} {L S : List Value} {g : zG} {σ : zI} {Q : Option Value → zG → zI → Prop} {a b : Int32} (hd : decode Y.2.1 pc = .ok (.imul, 1)) (k : zX Y d kc ks (pc + 1) L (.int (a * b) :: S) g σ Q) : zX Y d kc ks (pc) L (.int b :: .int a :: S) g σ Q := by
  intro p l e R s m args below meth c H locs cells slots Q2 dC dI cy ρ A ls hC hRO hK hA hc hs hw hl hP hD hS ret
  exact lv_imul hC.1 hC.2.1 hd (k p l e R s m args below meth c H locs cells slots Q2 dC dI cy ρ A ls hC hRO hK hA hc hs hw hl hP hD hS ret)
theorem x_iand {Y : zM} {d kc ks pc : Nat} {L S : List Value} {g : zG} {σ : zI} {Q : Option Value → zG → zI → Prop} {a b : Int32} (hd : decode Y.2.1 pc = .ok (.iand, 1)) (k : zX Y d kc ks (pc + 1) L (.int (a &&& b) :: S) g σ Q) : zX Y d kc ks (pc) L (.int b :: .int a :: S) g σ Q := by
  intro p l e R s m args below meth c H locs cells slots Q2 dC dI cy ρ A ls hC hRO hK hA hc hs hw hl hP hD hS ret
  exact lv_iand hC.1 hC.2.1 hd (k p l e R s m args below meth c H locs cells slots Q2 dC dI cy ρ A ls hC hRO hK hA hc hs hw hl hP hD hS ret)
theorem x_ior {Y : zM} {d kc ks pc : Nat} {L S : List Value} {g : zG} {σ : zI} {Q : Option Value → zG → zI → Prop} {a b : Int32} (hd : decode Y.2.1 pc = .ok (.ior, 1)) (k : zX Y d kc ks (pc + 1) L (.int (a ||| b) :: S) g σ Q) : zX Y d kc ks (pc) L (.int b :: .int a :: S) g σ Q := by
  intro p l e R s m args below meth c H locs cells slots Q2 dC dI cy ρ A ls hC hRO hK hA hc hs hw hl hP hD hS ret
  exact lv_ior hC.1 hC.2.1 hd (k p l e R s m args below meth c H locs cells slots Q2 dC dI cy ρ A ls hC hRO hK hA hc hs hw hl hP hD hS ret)
theorem x_ixor {Y : zM} {d kc ks pc : Nat} {L S : List Value} {g : zG} {σ : zI} {Q : Option Value → zG → zI → Prop} {a b : Int32} (hd : decode Y.2.1 pc = .ok (.ixor, 1)) (k : zX Y d kc ks (pc + 1) L (.int (a ^^^ b) :: S) g σ Q) : zX Y d kc ks (pc) L (.int b :: .int a :: S) g σ Q := by
  intro p l e R s m args below meth c H locs cells slots Q2 dC dI cy ρ A ls hC hRO hK hA hc hs hw hl hP hD hS ret
  exact lv_ixor hC.1 hC.2.1 hd (k p l e R s m args below meth c H locs cells slots Q2 dC dI cy ρ A ls hC hRO hK hA hc hs hw hl hP hD hS ret)
theorem x_ishl {Y : zM} {d kc ks pc : Nat} {L S : List Value} {g : zG} {σ : zI} {Q : Option Value → zG → zI → Prop} {a b : Int32} (hd : decode Y.2.1 pc = .ok (.ishl, 1)) (k : zX Y d kc ks (pc + 1) L (.int (a <<< (b &&& 31)) :: S) g σ Q) : zX Y d kc ks (pc) L (.int b :: .int a :: S) g σ Q := by
  intro p l e R s m args below meth c H locs cells slots Q2 dC dI cy ρ A ls hC hRO hK hA hc hs hw hl hP hD hS ret
  exact lv_ishl hC.1 hC.2.1 hd (k p l e R s m args below meth c H locs cells slots Q2 dC dI cy ρ A ls hC hRO hK hA hc hs hw hl hP hD hS ret)
theorem x_ishr {Y : zM} {d kc ks pc : Nat} {L S : List Value} {g : zG} {σ : zI} {Q : Option Value → zG → zI → Prop} {a b : Int32} (hd : decode Y.2.1 pc = .ok (.ishr, 1)) (k : zX Y d kc ks (pc + 1) L (.int (a >>> (b &&& 31)) :: S) g σ Q) : zX Y d kc ks (pc) L (.int b :: .int a :: S) g σ Q := by
  intro p l e R s m args below meth c H locs cells slots Q2 dC dI cy ρ A ls hC hRO hK hA hc hs hw hl hP hD hS ret
  exact lv_ishr hC.1 hC.2.1 hd (k p l e R s m args below meth c H locs cells slots Q2 dC dI cy ρ A ls hC hRO hK hA hc hs hw hl hP hD hS ret)
theorem x_iushr {Y : zM} {d kc ks pc : Nat} {L S : List Value} {g : zG} {σ : zI} {Q : Option Value → zG → zI → Prop} {a b : Int32} (hd : decode Y.2.1 pc = .ok (.iushr, 1)) (k : zX Y d kc ks (pc + 1) L (.int ((a.toUInt32 >>> (b.toUInt32 &&& Int32.toUInt32 31)).toInt32) :: S) g σ Q) : zX Y d kc ks (pc) L (.int b :: .int a :: S) g σ Q := by
  intro p l e R s m args below meth c H locs cells slots Q2 dC dI cy ρ A ls hC hRO hK hA hc hs hw hl hP hD hS ret
  exact lv_iushr hC.1 hC.2.1 hd rfl (k p l e R s m args below meth c H locs cells slots Q2 dC dI cy ρ A ls hC hRO hK hA hc hs hw hl hP hD hS ret)
theorem x_idiv {Y : zM} {d kc ks pc : Nat} {L S : List Value} {g : zG} {σ : zI} {Q : Option Value → zG → zI → Prop} {a b : Int32} (hd : decode Y.2.1 pc = .ok (.idiv, 1)) (hb0 : ¬ b = 0) (k : zX Y d kc ks (pc + 1) L (.int (a / b) :: S) g σ Q) : zX Y d kc ks (pc) L (.int b :: .int a :: S) g σ Q := by
  intro p l e R s m args below meth c H locs cells slots Q2 dC dI cy ρ A ls hC hRO hK hA hc hs hw hl hP hD hS ret
  exact lv_idiv hC.1 hC.2.1 hd hb0 (k p l e R s m args below meth c H locs cells slots Q2 dC dI cy ρ A ls hC hRO hK hA hc hs hw hl hP hD hS ret)
theorem x_irem {Y : zM} {d kc ks pc : Nat} {L S : List Value} {g : zG} {σ : zI} {Q : Option Value → zG → zI → Prop} {a b : Int32} (hd : decode Y.2.1 pc = .ok (.irem, 1)) (hb0 : ¬ b = 0) (k : zX Y d kc ks (pc + 1) L (.int (a - a / b * b) :: S) g σ Q) : zX Y d kc ks (pc) L (.int b :: .int a :: S) g σ Q := by
  intro p l e R s m args below meth c H locs cells slots Q2 dC dI cy ρ A ls hC hRO hK hA hc hs hw hl hP hD hS ret
  exact lv_irem hC.1 hC.2.1 hd hb0 (k p l e R s m args below meth c H locs cells slots Q2 dC dI cy ρ A ls hC hRO hK hA hc hs hw hl hP hD hS ret)
theorem x_ineg {Y : zM} {d kc ks pc : Nat} {L S : List Value} {g : zG} {σ : zI} {Q : Option Value → zG → zI → Prop} {a : Int32} (hd : decode Y.2.1 pc = .ok (.ineg, 1)) (k : zX Y d kc ks (pc + 1) L (.int (-a) :: S) g σ Q) : zX Y d kc ks (pc) L (.int a :: S) g σ Q := by
  intro p l e R s m args below meth c H locs cells slots Q2 dC dI cy ρ A ls hC hRO hK hA hc hs hw hl hP hD hS ret
  exact lv_ineg hC.1 hC.2.1 hd (k p l e R s m args below meth c H locs cells slots Q2 dC dI cy ρ A ls hC hRO hK hA hc hs hw hl hP hD hS ret)
theorem x_i2b {Y : zM} {d kc ks pc : Nat} {L S : List Value} {g : zG} {σ : zI} {Q : Option Value → zG → zI → Prop} {a : Int32} (hd : decode Y.2.1 pc = .ok (.i2b, 1)) (k : zX Y d kc ks (pc + 1) L (.int (a.toInt8.toInt32) :: S) g σ Q) : zX Y d kc ks (pc) L (.int a :: S) g σ Q := by
  intro p l e R s m args below meth c H locs cells slots Q2 dC dI cy ρ A ls hC hRO hK hA hc hs hw hl hP hD hS ret
  exact lv_i2b hC.1 hC.2.1 hd rfl (k p l e R s m args below meth c H locs cells slots Q2 dC dI cy ρ A ls hC hRO hK hA hc hs hw hl hP hD hS ret)
theorem x_i2s {Y : zM} {d kc ks pc : Nat} {L S : List Value} {g : zG} {σ : zI} {Q : Option Value → zG → zI → Prop} {a : Int32} (hd : decode Y.2.1 pc = .ok (.i2s, 1)) (k : zX Y d kc ks (pc + 1) L (.int (a.toInt16.toInt32) :: S) g σ Q) : zX Y d kc ks (pc) L (.int a :: S) g σ Q := by
  intro p l e R s m args below meth c H locs cells slots Q2 dC dI cy ρ A ls hC hRO hK hA hc hs hw hl hP hD hS ret
  exact lv_i2s hC.1 hC.2.1 hd rfl (k p l e R s m args below meth c H locs cells slots Q2 dC dI cy ρ A ls hC hRO hK hA hc hs hw hl hP hD hS ret)
theorem x_i2c {Y : zM} {d kc ks pc : Nat} {L S : List Value} {g : zG} {σ : zI} {Q : Option Value → zG → zI → Prop} {a : Int32} (hd : decode Y.2.1 pc = .ok (.i2c, 1)) (k : zX Y d kc ks (pc + 1) L (.int ((a.toUInt32 % 65536).toInt32) :: S) g σ Q) : zX Y d kc ks (pc) L (.int a :: S) g σ Q := by
  intro p l e R s m args below meth c H locs cells slots Q2 dC dI cy ρ A ls hC hRO hK hA hc hs hw hl hP hD hS ret
  exact lv_i2c hC.1 hC.2.1 hd rfl (k p l e R s m args below meth c H locs cells slots Q2 dC dI cy ρ A ls hC hRO hK hA hc hs hw hl hP hD hS ret)
theorem x_i2l {Y : zM} {d kc ks pc : Nat} {L S : List Value} {g : zG} {σ : zI} {Q : Option Value → zG → zI → Prop} {a : Int32} (hd : decode Y.2.1 pc = .ok (.i2l, 1)) (k : zX Y d kc ks (pc + 1) L (.long a.toInt64 :: S) g σ Q) : zX Y d kc ks (pc) L (.int a :: S) g σ Q := by
  intro p l e R s m args below meth c H locs cells slots Q2 dC dI cy ρ A ls hC hRO hK hA hc hs hw hl hP hD hS ret
  exact lv_i2l hC.1 hC.2.1 hd rfl (k p l e R s m args below meth c H locs cells slots Q2 dC dI cy ρ A ls hC hRO hK hA hc hs hw hl hP hD hS ret)
theorem x_l2i {Y : zM} {d kc ks pc : Nat} {L S : List Value} {g : zG} {σ : zI} {Q : Option Value → zG → zI → Prop} {a : Int64} (hd : decode Y.2.1 pc = .ok (.l2i, 1)) (k : zX Y d kc ks (pc + 1) L (.int a.toInt32 :: S) g σ Q) : zX Y d kc ks (pc) L (.long a :: S) g σ Q := by
  intro p l e R s m args below meth c H locs cells slots Q2 dC dI cy ρ A ls hC hRO hK hA hc hs hw hl hP hD hS ret
  exact lv_l2i hC.1 hC.2.1 hd rfl (k p l e R s m args below meth c H locs cells slots Q2 dC dI cy ρ A ls hC hRO hK hA hc hs hw hl hP hD hS ret)
theorem x_ladd {Y : zM} {d kc ks pc : Nat} {L S : List Value} {g : zG} {σ : zI} {Q : Option Value → zG → zI → Prop} {a b : Int64} (hd : decode Y.2.1 pc = .ok (.ladd, 1)) (k : zX Y d kc ks (pc + 1) L (.long (a + b) :: S) g σ Q) : zX Y d kc ks (pc) L (.long b :: .long a :: S) g σ Q := by
  intro p l e R s m args below meth c H locs cells slots Q2 dC dI cy ρ A ls hC hRO hK hA hc hs hw hl hP hD hS ret
  exact lv_ladd hC.1 hC.2.1 hd (k p l e R s m args below meth c H locs cells slots Q2 dC dI cy ρ A ls hC hRO hK hA hc hs hw hl hP hD hS ret)
theorem x_lmul {Y : zM} {d kc ks pc : Nat} {L S : List Value} {g : zG} {σ : zI} {Q : Option Value → zG → zI → Prop} {a b : Int64} (hd : decode Y.2.1 pc = .ok (.lmul, 1)) (k : zX Y d kc ks (pc + 1) L (.long (a * b) :: S) g σ Q) : zX Y d kc ks (pc) L (.long b :: .long a :: S) g σ Q := by
  intro p l e R s m args below meth c H locs cells slots Q2 dC dI cy ρ A ls hC hRO hK hA hc hs hw hl hP hD hS ret
  exact lv_lmul hC.1 hC.2.1 hd (k p l e R s m args below meth c H locs cells slots Q2 dC dI cy ρ A ls hC hRO hK hA hc hs hw hl hP hD hS ret)
theorem x_lcmp {Y : zM} {d kc ks pc : Nat} {L S : List Value} {g : zG} {σ : zI} {Q : Option Value → zG → zI → Prop} {a b : Int64} (hd : decode Y.2.1 pc = .ok (.lcmp, 1)) (k : zX Y d kc ks (pc + 1) L (.int (lg_cmp a b) :: S) g σ Q) : zX Y d kc ks (pc) L (.long b :: .long a :: S) g σ Q := by
  intro p l e R s m args below meth c H locs cells slots Q2 dC dI cy ρ A ls hC hRO hK hA hc hs hw hl hP hD hS ret
  exact W.lcmp hC.1 hC.2.1 hd (k p l e R s m args below meth c H locs cells slots Q2 dC dI cy ρ A ls hC hRO hK hA hc hs hw hl hP hD hS ret)
theorem x_iconst {Y : zM} {d kc ks pc : Nat} {L S : List Value} {g : zG} {σ : zI} {Q : Option Value → zG → zI → Prop} {n : Int} {v : Int32} (hd : decode Y.2.1 pc = .ok (.iconst n, 1)) (hv : Int32.ofInt n = v) (k : zX Y d kc ks (pc + 1) L (.int v :: S) g σ Q) : zX Y d kc ks (pc) L (S) g σ Q := by
  intro p l e R s m args below meth c H locs cells slots Q2 dC dI cy ρ A ls hC hRO hK hA hc hs hw hl hP hD hS ret
  exact lv_iconst hC.1 hC.2.1 hd hv (k p l e R s m args below meth c H locs cells slots Q2 dC dI cy ρ A ls hC hRO hK hA hc hs hw hl hP hD hS ret)
theorem x_bipush {Y : zM} {d kc ks pc : Nat} {L S : List Value} {g : zG} {σ : zI} {Q : Option Value → zG → zI → Prop} {n : Int} {v : Int32} (hd : decode Y.2.1 pc = .ok (.bipush n, 2)) (hv : (Int8.ofInt n).toInt32 = v) (k : zX Y d kc ks (pc + 2) L (.int v :: S) g σ Q) : zX Y d kc ks (pc) L (S) g σ Q := by
  intro p l e R s m args below meth c H locs cells slots Q2 dC dI cy ρ A ls hC hRO hK hA hc hs hw hl hP hD hS ret
  exact lv_bipush hC.1 hC.2.1 hd hv (k p l e R s m args below meth c H locs cells slots Q2 dC dI cy ρ A ls hC hRO hK hA hc hs hw hl hP hD hS ret)
theorem x_sipush {Y : zM} {d kc ks pc : Nat} {L S : List Value} {g : zG} {σ : zI} {Q : Option Value → zG → zI → Prop} {n : Int} {v : Int32} (hd : decode Y.2.1 pc = .ok (.sipush n, 3)) (hv : (Int16.ofInt n).toInt32 = v) (k : zX Y d kc ks (pc + 3) L (.int v :: S) g σ Q) : zX Y d kc ks (pc) L (S) g σ Q := by
  intro p l e R s m args below meth c H locs cells slots Q2 dC dI cy ρ A ls hC hRO hK hA hc hs hw hl hP hD hS ret
  exact lv_sipush hC.1 hC.2.1 hd hv (k p l e R s m args below meth c H locs cells slots Q2 dC dI cy ρ A ls hC hRO hK hA hc hs hw hl hP hD hS ret)
theorem x_lconst {Y : zM} {d kc ks pc : Nat} {L S : List Value} {g : zG} {σ : zI} {Q : Option Value → zG → zI → Prop} {n : Fin 2} {v : Int64} (hd : decode Y.2.1 pc = .ok (.lconst n, 1)) (hv : Int64.ofNat (n : Nat) = v) (k : zX Y d kc ks (pc + 1) L (.long v :: S) g σ Q) : zX Y d kc ks (pc) L (S) g σ Q := by
  intro p l e R s m args below meth c H locs cells slots Q2 dC dI cy ρ A ls hC hRO hK hA hc hs hw hl hP hD hS ret
  exact lv_lconst hC.1 hC.2.1 hd hv (k p l e R s m args below meth c H locs cells slots Q2 dC dI cy ρ A ls hC hRO hK hA hc hs hw hl hP hD hS ret)
theorem x_null {Y : zM} {d kc ks pc : Nat} {L S : List Value} {g : zG} {σ : zI} {Q : Option Value → zG → zI → Prop}  (hd : decode Y.2.1 pc = .ok (.aconst_null, 1)) (k : zX Y d kc ks (pc + 1) L (.null :: S) g σ Q) : zX Y d kc ks (pc) L (S) g σ Q := by
  intro p l e R s m args below meth c H locs cells slots Q2 dC dI cy ρ A ls hC hRO hK hA hc hs hw hl hP hD hS ret
  exact lv_null hC.1 hC.2.1 hd (k p l e R s m args below meth c H locs cells slots Q2 dC dI cy ρ A ls hC hRO hK hA hc hs hw hl hP hD hS ret)
theorem x_ldc {Y : zM} {d kc ks pc : Nat} {L S : List Value} {g : zG} {σ : zI} {Q : Option Value → zG → zI → Prop} {i : Nat} {v : Int32} (hd : decode Y.2.1 pc = .ok (.ldc i, 2)) (hv : Cond.constant Y.1.cls i v ∈ zT) (k : zX Y d kc ks (pc + 2) L (.int v :: S) g σ Q) : zX Y d kc ks (pc) L (S) g σ Q := by
  intro p l e R s m args below meth c H locs cells slots Q2 dC dI cy ρ A ls hC hRO hK hA hc hs hw hl hP hD hS ret
  exact lv_ldc hC.1 hC.2.1 hC.2.2.2.2.2.2.1 (hC.2.2.2.2.2.1 _ hv) hd (k p l e R s m args below meth c H locs cells slots Q2 dC dI cy ρ A ls hC hRO hK hA hc hs hw hl hP hD hS ret)
theorem x_ldcw {Y : zM} {d kc ks pc : Nat} {L S : List Value} {g : zG} {σ : zI} {Q : Option Value → zG → zI → Prop} {i : Nat} {v : Int32} (hd : decode Y.2.1 pc = .ok (.ldc_w i, 3)) (hv : Cond.constant Y.1.cls i v ∈ zT) (k : zX Y d kc ks (pc + 3) L (.int v :: S) g σ Q) : zX Y d kc ks (pc) L (S) g σ Q := by
  intro p l e R s m args below meth c H locs cells slots Q2 dC dI cy ρ A ls hC hRO hK hA hc hs hw hl hP hD hS ret
  exact lv_ldcw hC.1 hC.2.1 hC.2.2.2.2.2.2.1 (hC.2.2.2.2.2.1 _ hv) hd (k p l e R s m args below meth c H locs cells slots Q2 dC dI cy ρ A ls hC hRO hK hA hc hs hw hl hP hD hS ret)
theorem x_ldc2 {Y : zM} {d kc ks pc : Nat} {L S : List Value} {g : zG} {σ : zI} {Q : Option Value → zG → zI → Prop} {i : Nat} {v : Int64} (hd : decode Y.2.1 pc = .ok (.ldc2_w i, 3)) (hv : Cond.constantLong Y.1.cls i v ∈ zT) (k : zX Y d kc ks (pc + 3) L (.long v :: S) g σ Q) : zX Y d kc ks (pc) L (S) g σ Q := by
  intro p l e R s m args below meth c H locs cells slots Q2 dC dI cy ρ A ls hC hRO hK hA hc hs hw hl hP hD hS ret
  exact lv_ldc2 hC.1 hC.2.1 hC.2.2.2.2.2.2.1 (hC.2.2.2.2.2.1 _ hv) hd (k p l e R s m args below meth c H locs cells slots Q2 dC dI cy ρ A ls hC hRO hK hA hc hs hw hl hP hD hS ret)
theorem x_ldcs {Y : zM} {d kc ks pc : Nat} {L S : List Value} {g : zG} {σ : zI} {Q : Option Value → zG → zI → Prop} {i j : Nat} {t : String} (hd : decode Y.2.1 pc = .ok (.ldc i, 2)) (hv : (Y.1.cls, i, t, j) ∈ zSR) (k : zX Y d kc ks (pc + 2) L (.ref (1000 + j) :: S) g σ Q) : zX Y d kc ks (pc) L (S) g σ Q := by
  intro p l e R s m args below meth c H locs cells slots Q2 dC dI cy ρ A ls hC hRO hK hA hc hs hw hl hP hD hS ret
  exact va_ldcS hC.1 hC.2.1 hC.2.2.2.2.2.2.1 (hRO.2.2.1 _ hv) hd (k p l e R s m args below meth c H locs cells slots Q2 dC dI cy ρ A ls hC hRO hK hA hc hs hw hl hP hD hS ret)
theorem zv_cat (ρ : Nat → Nat) (v : Value) : (zv ρ v).category = v.category := by cases v <;> rfl
theorem zL_at {ρ : Nat → Nat} {ls : Array Slot} {nL : Nat} {L : List Value} {i : Nat} {v : Value} (h : zL ls nL (L.map (zv ρ))) (hv : L[i]? = some v) (hj : zv ρ v ≠ .retAddr 0) : ls[i]? = some (.val (zv ρ v)) := h.2.2 i _ (by rw [List.getElem?_map, hv]; rfl) hj
def zst : Nat → List Value → Value → List Value
  | 0, [], v => [v]
  | 0, _ :: r, v => v :: r
  | i + 1, [], v => .retAddr 0 :: zst i [] v
  | i + 1, a :: r, v => a :: zst i r v
def zlk : Nat → List Value → Bool
  | 0, _ => true
  | 1, a :: _ => a.category == 1
  | i + 2, _ :: r => zlk (i + 1) r
  | _ + 1, [] => true
theorem zst_map (ρ : Nat → Nat) (v : Value) : ∀ (i : Nat) (L : List Value), (zst i L v).map (zv ρ) = zst i (L.map (zv ρ)) (zv ρ v)
  | 0, [] => rfl
  | 0, _ :: _ => rfl
  | i + 1, [] => by show .retAddr 0 :: (zst i [] v).map (zv ρ) = .retAddr 0 :: zst i [] (zv ρ v); rw [zst_map ρ v i []]; rfl
  | i + 1, a :: r => by show zv ρ a :: (zst i r v).map (zv ρ) = zv ρ a :: zst i (r.map (zv ρ)) (zv ρ v); rw [zst_map ρ v i r]
theorem zlk_map (ρ : Nat → Nat) : ∀ (i : Nat) (L : List Value), zlk i (L.map (zv ρ)) = zlk i L
  | 0, [] => rfl
  | 0, _ :: _ => rfl
  | 1, [] => rfl
  | 1, a :: _ => by show ((zv ρ a).category == 1) = (a.category == 1); rw [zv_cat]
  | i + 2, [] => rfl
  | i + 2, _ :: r => zlk_map ρ (i + 1) r
theorem zst_get {v : Value} : ∀ (i : Nat) (L : List Value), zlk i L = true → ∀ (j : Nat) (w : Value), (zst i L v)[j]? = some w → w = .retAddr 0 ∨ (j = i ∧ w = v) ∨ (j ≠ i ∧ L[j]? = some w ∧ (j + 1 = i → w.category = 1))
  | 0, [], _, 0, w, h => by cases h; exact Or.inr (Or.inl ⟨rfl, rfl⟩)
  | 0, [], _, j + 1, w, h => by simp [zst] at h
  | 0, a :: r, _, 0, w, h => by cases h; exact Or.inr (Or.inl ⟨rfl, rfl⟩)
  | 0, a :: r, _, j + 1, w, h => Or.inr (Or.inr ⟨by omega, h, by omega⟩)
  | i + 1, [], _, 0, w, h => by cases h; exact Or.inl rfl
  | i + 1, [], hk, j + 1, w, h => by
    have hk' : zlk i [] = true := by cases i with
      | zero => rfl
      | succ i => cases i <;> rfl
    rcases zst_get i [] hk' j w h with q | ⟨q1, q2⟩ | ⟨q1, q2, q3⟩
    · exact Or.inl q
    · exact Or.inr (Or.inl ⟨by omega, q2⟩)
    · simp at q2
  | i + 1, a :: r, hk, 0, w, h => by
    cases h
    refine Or.inr (Or.inr ⟨by omega, rfl, fun e => ?_⟩)
    cases i with
    | zero => exact eq_of_beq hk
    | succ i => omega
  | i + 1, a :: r, hk, j + 1, w, h => by
    have hk' : zlk i r = true := by cases i with
      | zero => cases r <;> rfl
      | succ i => exact hk
    rcases zst_get i r hk' j w h with q | ⟨q1, q2⟩ | ⟨q1, q2, q3⟩
    · exact Or.inl q
    · exact Or.inr (Or.inl ⟨by omega, q2⟩)
    · exact Or.inr (Or.inr ⟨by omega, q2, fun e => q3 (by omega)⟩)
/-- the listed locals, by place -/
def zA (L : List Value) : List (Nat × Value) := (List.range L.length).filterMap (fun i => match L[i]? with | some v => if v = .retAddr 0 then none else some (i, v) | none => none)
theorem zA_in {L : List Value} {i : Nat} {v : Value} (h : L[i]? = some v) (hj : v ≠ .retAddr 0) : (i, v) ∈ zA L := by
  refine List.mem_filterMap.mpr ⟨i, List.mem_range.mpr (List.getElem?_eq_some_iff.mp h).1, ?_⟩
  rw [h]
  exact if_neg hj
theorem zA_has {ls : Array Slot} {nL : Nat} {L : List Value} (h : zL ls nL L) : lv_has ls nL (zA L) := by
  refine ⟨h.1, h.2.1, fun q hq => ?_⟩
  obtain ⟨i, -, hi⟩ := List.mem_filterMap.mp hq
  cases hL : L[i]? with
  | none => rw [hL] at hi; cases hi
  | some v =>
    rw [hL] at hi
    by_cases hv : v = .retAddr 0
    · simp [hv] at hi
    · simp [hv] at hi
      rw [← hi]
      exact h.2.2 i v hL hv
theorem zA_st1 {ls : Array Slot} {nL i : Nat} {L : List Value} {v : Value} (hlk : zlk i L = true) (h : lv_has ls nL ((i, v) :: (zA L).filter (fun q => !(q.1 == i) && !(q.1 + 1 == i && q.2.category == 2)))) : zL ls nL (zst i L v) := by
  refine ⟨h.1, h.2.1, fun j w hw hj => ?_⟩
  rcases zst_get i L hlk j w hw with q | ⟨q1, q2⟩ | ⟨q1, q2, q3⟩
  · exact absurd q hj
  · subst q1; subst q2
    exact h.2.2 (j, w) List.mem_cons_self
  · refine h.2.2 (j, w) (List.mem_cons_of_mem _ (List.mem_filter.mpr ⟨zA_in q2 hj, ?_⟩))
    by_cases e : j + 1 = i
    · simp [q1, q3 e]
    · simp [q1, e]
theorem zA_st2 {ls : Array Slot} {nL i : Nat} {L : List Value} {v : Value} (hlk : zlk i L = true) (h : lv_has ls nL ((i, v) :: (zA L).filter (fun q => !(q.1 == i) && (!(q.1 == i + 1) && !(q.1 + 1 == i && q.2.category == 2))))) : zL ls nL (zst (i + 1) (zst i L v) (.retAddr 0)) := by
  refine ⟨h.1, h.2.1, fun j w hw hj => ?_⟩
  have key : j ≠ i + 1 ∧ (zst i L v)[j]? = some w := by
    clear h hlk
    have aux : ∀ (i : Nat) (M : List Value) (j : Nat), (zst i M (.retAddr 0))[j]? = some w → j ≠ i ∧ M[j]? = some w := by
      intro i
      induction i with
      | zero =>
        intro M j hM
        cases M with
        | nil => cases j with
          | zero => cases hM; exact absurd rfl hj
          | succ j => simp [zst] at hM
        | cons a r => cases j with
          | zero => cases hM; exact absurd rfl hj
          | succ j => exact ⟨by omega, hM⟩
      | succ i ih =>
        intro M j hM
        cases M with
        | nil => cases j with
          | zero => cases hM; exact absurd rfl hj
          | succ j =>
            obtain ⟨a1, a2⟩ := ih [] j hM
            simp at a2
        | cons a r => cases j with
          | zero => cases hM; exact ⟨by omega, rfl⟩
          | succ j =>
            obtain ⟨a1, a2⟩ := ih r j hM
            exact ⟨by omega, a2⟩
    exact aux (i + 1) _ j hw
  rcases zst_get i L hlk j w key.2 with q | ⟨q1, q2⟩ | ⟨q1, q2, q3⟩
  · exact absurd q hj
  · subst q1; subst q2
    exact h.2.2 (j, w) List.mem_cons_self
  · refine h.2.2 (j, w) (List.mem_cons_of_mem _ (List.mem_filter.mpr ⟨zA_in q2 hj, ?_⟩))
    by_cases e : j + 1 = i
    · simp [q1, key.1, q3 e]
    · simp [q1, key.1, e]
theorem x_iload {Y : zM} {d kc ks pc : Nat} {L S : List Value} {g : zG} {σ : zI} {Q : Option Value → zG → zI → Prop} {i : Nat} {x : Int32} (hd : decode Y.2.1 pc = .ok (.iload i, 2)) (hv : L[i]? = some (.int x)) (k : zX Y d kc ks (pc + 2) L (.int x :: S) g σ Q) : zX Y d kc ks (pc) L (S) g σ Q := by
  intro p l e R s m args below meth c H locs cells slots Q2 dC dI cy ρ A ls hC hRO hK hA hc hs hw hl hP hD hS ret
  exact lv_iload hC.1 hC.2.1 hd (zL_at hl hv (by simp [zv])) (k p l e R s m args below meth c H locs cells slots Q2 dC dI cy ρ A ls hC hRO hK hA hc hs hw hl hP hD hS ret)
theorem x_lload {Y : zM} {d kc ks pc : Nat} {L S : List Value} {g : zG} {σ : zI} {Q : Option Value → zG → zI → Prop} {i : Nat} {x : Int64} (hd : decode Y.2.1 pc = .ok (.lload i, 2)) (hv : L[i]? = some (.long x)) (k : zX Y d kc ks (pc + 2) L (.long x :: S) g σ Q) : zX Y d kc ks (pc) L (S) g σ Q := by
  intro p l e R s m args below meth c H locs cells slots Q2 dC dI cy ρ A ls hC hRO hK hA hc hs hw hl hP hD hS ret
  exact lv_lload hC.1 hC.2.1 hd (zL_at hl hv (by simp [zv])) (k p l e R s m args below meth c H locs cells slots Q2 dC dI cy ρ A ls hC hRO hK hA hc hs hw hl hP hD hS ret)
theorem x_iload_n {Y : zM} {d kc ks pc : Nat} {L S : List Value} {g : zG} {σ : zI} {Q : Option Value → zG → zI → Prop} {i : Fin 4} {x : Int32} (hd : decode Y.2.1 pc = .ok (.iload_n i, 1)) (hv : L[(i : Nat)]? = some (.int x)) (k : zX Y d kc ks (pc + 1) L (.int x :: S) g σ Q) : zX Y d kc ks (pc) L (S) g σ Q := by
  intro p l e R s m args below meth c H locs cells slots Q2 dC dI cy ρ A ls hC hRO hK hA hc hs hw hl hP hD hS ret
  exact lv_iload_n hC.1 hC.2.1 hd rfl (zL_at hl hv (by simp [zv])) (k p l e R s m args below meth c H locs cells slots Q2 dC dI cy ρ A ls hC hRO hK hA hc hs hw hl hP hD hS ret)
theorem x_aload {Y : zM} {d kc ks pc : Nat} {L S : List Value} {g : zG} {σ : zI} {Q : Option Value → zG → zI → Prop} {i : Nat} {x : Nat} (hd : decode Y.2.1 pc = .ok (.aload i, 2)) (hv : L[i]? = some (.ref x)) (k : zX Y d kc ks (pc + 2) L (.ref x :: S) g σ Q) : zX Y d kc ks (pc) L (S) g σ Q := by
  intro p l e R s m args below meth c H locs cells slots Q2 dC dI cy ρ A ls hC hRO hK hA hc hs hw hl hP hD hS ret
  exact lv_aload hC.1 hC.2.1 hd (zL_at hl hv (by simp [zv])) (k p l e R s m args below meth c H locs cells slots Q2 dC dI cy ρ A ls hC hRO hK hA hc hs hw hl hP hD hS ret)
theorem x_aload_n {Y : zM} {d kc ks pc : Nat} {L S : List Value} {g : zG} {σ : zI} {Q : Option Value → zG → zI → Prop} {i : Fin 4} {x : Nat} (hd : decode Y.2.1 pc = .ok (.aload_n i, 1)) (hv : L[(i : Nat)]? = some (.ref x)) (k : zX Y d kc ks (pc + 1) L (.ref x :: S) g σ Q) : zX Y d kc ks (pc) L (S) g σ Q := by
  intro p l e R s m args below meth c H locs cells slots Q2 dC dI cy ρ A ls hC hRO hK hA hc hs hw hl hP hD hS ret
  exact lv_aload_n hC.1 hC.2.1 hd rfl (zL_at hl hv (by simp [zv])) (k p l e R s m args below meth c H locs cells slots Q2 dC dI cy ρ A ls hC hRO hK hA hc hs hw hl hP hD hS ret)
theorem x_aloadN {Y : zM} {d kc ks pc : Nat} {L S : List Value} {g : zG} {σ : zI} {Q : Option Value → zG → zI → Prop} {i : Nat} (hd : decode Y.2.1 pc = .ok (.aload i, 2)) (hv : L[i]? = some .null) (k : zX Y d kc ks (pc + 2) L (.null :: S) g σ Q) : zX Y d kc ks (pc) L (S) g σ Q := by
  intro p l e R s m args below meth c H locs cells slots Q2 dC dI cy ρ A ls hC hRO hK hA hc hs hw hl hP hD hS ret
  exact lv_aloadN hC.1 hC.2.1 hd (zL_at hl hv (by simp [zv])) (k p l e R s m args below meth c H locs cells slots Q2 dC dI cy ρ A ls hC hRO hK hA hc hs hw hl hP hD hS ret)
theorem x_aload_nN {Y : zM} {d kc ks pc : Nat} {L S : List Value} {g : zG} {σ : zI} {Q : Option Value → zG → zI → Prop} {i : Fin 4} (hd : decode Y.2.1 pc = .ok (.aload_n i, 1)) (hv : L[(i : Nat)]? = some .null) (k : zX Y d kc ks (pc + 1) L (.null :: S) g σ Q) : zX Y d kc ks (pc) L (S) g σ Q := by
  intro p l e R s m args below meth c H locs cells slots Q2 dC dI cy ρ A ls hC hRO hK hA hc hs hw hl hP hD hS ret
  exact lv_aload_nN hC.1 hC.2.1 hd rfl (zL_at hl hv (by simp [zv])) (k p l e R s m args below meth c H locs cells slots Q2 dC dI cy ρ A ls hC hRO hK hA hc hs hw hl hP hD hS ret)
theorem x_istore {Y : zM} {d kc ks pc : Nat} {L S : List Value} {g : zG} {σ : zI} {Q : Option Value → zG → zI → Prop} {i : Nat} {x : Int32} (hd : decode Y.2.1 pc = .ok (.istore i, 2)) (hlk : zlk i L = true) (hn : i < Y.2.2.1) {L2 : List Value} (hL2 : zst i L (.int x) = L2) (k : zX Y d kc ks (pc + 2) L2 (S) g σ Q) : zX Y d kc ks (pc) L (.int x :: S) g σ Q := by
  intro p l e R s m args below meth c H locs cells slots Q2 dC dI cy ρ A ls hC hRO hK hA hc hs hw hl hP hD hS ret
  subst hL2
  exact lv_istore hC.1 hC.2.1 hd (zA_has hl) hn rfl (fun ls1 hl1 => (k p l e R s m args below meth c H locs cells slots Q2 dC dI cy ρ A ls1 hC hRO hK hA hc hs hw (by rw [zst_map]; exact zA_st1 (by rw [zlk_map]; exact hlk) hl1) hP hD hS ret))
theorem x_istore_n {Y : zM} {d kc ks pc : Nat} {L S : List Value} {g : zG} {σ : zI} {Q : Option Value → zG → zI → Prop} {i : Fin 4} {x : Int32} (hd : decode Y.2.1 pc = .ok (.istore_n i, 1)) (hlk : zlk (i : Nat) L = true) (hn : (i : Nat) < Y.2.2.1) {L2 : List Value} (hL2 : zst (i : Nat) L (.int x) = L2) (k : zX Y d kc ks (pc + 1) L2 (S) g σ Q) : zX Y d kc ks (pc) L (.int x :: S) g σ Q := by
  intro p l e R s m args below meth c H locs cells slots Q2 dC dI cy ρ A ls hC hRO hK hA hc hs hw hl hP hD hS ret
  subst hL2
  exact lv_istore_n hC.1 hC.2.1 hd rfl (zA_has hl) hn rfl (fun ls1 hl1 => (k p l e R s m args below meth c H locs cells slots Q2 dC dI cy ρ A ls1 hC hRO hK hA hc hs hw (by rw [zst_map]; exact zA_st1 (by rw [zlk_map]; exact hlk) hl1) hP hD hS ret))
theorem x_astore {Y : zM} {d kc ks pc : Nat} {L S : List Value} {g : zG} {σ : zI} {Q : Option Value → zG → zI → Prop} {i : Nat} {x : Nat} (hd : decode Y.2.1 pc = .ok (.astore i, 2)) (hlk : zlk i L = true) (hn : i < Y.2.2.1) {L2 : List Value} (hL2 : zst i L (.ref x) = L2) (k : zX Y d kc ks (pc + 2) L2 (S) g σ Q) : zX Y d kc ks (pc) L (.ref x :: S) g σ Q := by
  intro p l e R s m args below meth c H locs cells slots Q2 dC dI cy ρ A ls hC hRO hK hA hc hs hw hl hP hD hS ret
  subst hL2
  exact lv_astore hC.1 hC.2.1 hd (zA_has hl) hn rfl (fun ls1 hl1 => (k p l e R s m args below meth c H locs cells slots Q2 dC dI cy ρ A ls1 hC hRO hK hA hc hs hw (by rw [zst_map]; exact zA_st1 (by rw [zlk_map]; exact hlk) hl1) hP hD hS ret))
theorem x_astore_n {Y : zM} {d kc ks pc : Nat} {L S : List Value} {g : zG} {σ : zI} {Q : Option Value → zG → zI → Prop} {i : Fin 4} {x : Nat} (hd : decode Y.2.1 pc = .ok (.astore_n i, 1)) (hlk : zlk (i : Nat) L = true) (hn : (i : Nat) < Y.2.2.1) {L2 : List Value} (hL2 : zst (i : Nat) L (.ref x) = L2) (k : zX Y d kc ks (pc + 1) L2 (S) g σ Q) : zX Y d kc ks (pc) L (.ref x :: S) g σ Q := by
  intro p l e R s m args below meth c H locs cells slots Q2 dC dI cy ρ A ls hC hRO hK hA hc hs hw hl hP hD hS ret
  subst hL2
  exact lv_astore_n hC.1 hC.2.1 hd rfl (zA_has hl) hn rfl (fun ls1 hl1 => (k p l e R s m args below meth c H locs cells slots Q2 dC dI cy ρ A ls1 hC hRO hK hA hc hs hw (by rw [zst_map]; exact zA_st1 (by rw [zlk_map]; exact hlk) hl1) hP hD hS ret))
theorem x_astoreN {Y : zM} {d kc ks pc : Nat} {L S : List Value} {g : zG} {σ : zI} {Q : Option Value → zG → zI → Prop} {i : Nat} (hd : decode Y.2.1 pc = .ok (.astore i, 2)) (hlk : zlk i L = true) (hn : i < Y.2.2.1) {L2 : List Value} (hL2 : zst i L (.null) = L2) (k : zX Y d kc ks (pc + 2) L2 (S) g σ Q) : zX Y d kc ks (pc) L (.null :: S) g σ Q := by
  intro p l e R s m args below meth c H locs cells slots Q2 dC dI cy ρ A ls hC hRO hK hA hc hs hw hl hP hD hS ret
  subst hL2
  exact lv_astoreN hC.1 hC.2.1 hd (zA_has hl) hn rfl (fun ls1 hl1 => (k p l e R s m args below meth c H locs cells slots Q2 dC dI cy ρ A ls1 hC hRO hK hA hc hs hw (by rw [zst_map]; exact zA_st1 (by rw [zlk_map]; exact hlk) hl1) hP hD hS ret))
theorem x_astore_nN {Y : zM} {d kc ks pc : Nat} {L S : List Value} {g : zG} {σ : zI} {Q : Option Value → zG → zI → Prop} {i : Fin 4} (hd : decode Y.2.1 pc = .ok (.astore_n i, 1)) (hlk : zlk (i : Nat) L = true) (hn : (i : Nat) < Y.2.2.1) {L2 : List Value} (hL2 : zst (i : Nat) L (.null) = L2) (k : zX Y d kc ks (pc + 1) L2 (S) g σ Q) : zX Y d kc ks (pc) L (.null :: S) g σ Q := by
  intro p l e R s m args below meth c H locs cells slots Q2 dC dI cy ρ A ls hC hRO hK hA hc hs hw hl hP hD hS ret
  subst hL2
  exact lv_astore_nN hC.1 hC.2.1 hd rfl (zA_has hl) hn rfl (fun ls1 hl1 => (k p l e R s m args below meth c H locs cells slots Q2 dC dI cy ρ A ls1 hC hRO hK hA hc hs hw (by rw [zst_map]; exact zA_st1 (by rw [zlk_map]; exact hlk) hl1) hP hD hS ret))
theorem x_lstore {Y : zM} {d kc ks pc : Nat} {L S : List Value} {g : zG} {σ : zI} {Q : Option Value → zG → zI → Prop} {i : Nat} {x : Int64} (hd : decode Y.2.1 pc = .ok (.lstore i, 2)) (hlk : zlk i L = true) (hn : i + 1 < Y.2.2.1) {L2 : List Value} (hL2 : zst (i + 1) (zst i L (.long x)) (.retAddr 0) = L2) (k : zX Y d kc ks (pc + 2) L2 (S) g σ Q) : zX Y d kc ks (pc) L (.long x :: S) g σ Q := by
  intro p l e R s m args below meth c H locs cells slots Q2 dC dI cy ρ A ls hC hRO hK hA hc hs hw hl hP hD hS ret
  subst hL2
  exact lv_lstore hC.1 hC.2.1 hd (zA_has hl) hn rfl (fun ls1 hl1 => (k p l e R s m args below meth c H locs cells slots Q2 dC dI cy ρ A ls1 hC hRO hK hA hc hs hw (by rw [zst_map, zst_map]; exact zA_st2 (by rw [zlk_map]; exact hlk) hl1) hP hD hS ret))
theorem x_iinc {Y : zM} {d kc ks pc : Nat} {L S : List Value} {g : zG} {σ : zI} {Q : Option Value → zG → zI → Prop} {i : Nat} {n : Int} {x v : Int32} (hd : decode Y.2.1 pc = .ok (.iinc i n, 3)) (hx : L[i]? = some (.int x)) (hv : x + Int32.ofInt n = v) (hlk : zlk i L = true) (hn : i < Y.2.2.1) {L2 : List Value} (hL2 : zst i L (.int v) = L2) (k : zX Y d kc ks (pc + 3) L2 (S) g σ Q) : zX Y d kc ks (pc) L (S) g σ Q := by
  intro p l e R s m args below meth c H locs cells slots Q2 dC dI cy ρ A ls hC hRO hK hA hc hs hw hl hP hD hS ret
  subst hL2
  have hm : (i, Value.int x) ∈ zA (L.map (zv ρ)) := zA_in (by rw [List.getElem?_map, hx]; rfl) (by simp [zv])
  obtain ⟨j, hj⟩ := List.getElem?_of_mem hm
  exact lv_iinc hC.1 hC.2.1 hd (zA_has hl) hj hv hn rfl (fun ls1 hl1 => (k p l e R s m args below meth c H locs cells slots Q2 dC dI cy ρ A ls1 hC hRO hK hA hc hs hw (by rw [zst_map]; exact zA_st1 (by rw [zlk_map]; exact hlk) hl1) hP hD hS ret))
theorem x_dup {Y : zM} {d kc ks pc : Nat} {L S : List Value} {g : zG} {σ : zI} {Q : Option Value → zG → zI → Prop} {v : Value} (hd : decode Y.2.1 pc = .ok (.dup, 1)) (hv : v.category = 1) (k : zX Y d kc ks (pc + 1) L (v :: v :: S) g σ Q) : zX Y d kc ks (pc) L (v :: S) g σ Q := by
  intro p l e R s m args below meth c H locs cells slots Q2 dC dI cy ρ A ls hC hRO hK hA hc hs hw hl hP hD hS ret
  exact lv_dup hC.1 hC.2.1 hd ((zv_cat ρ v).trans hv) (k p l e R s m args below meth c H locs cells slots Q2 dC dI cy ρ A ls hC hRO hK hA hc hs hw hl hP hD hS ret)
theorem x_pop {Y : zM} {d kc ks pc : Nat} {L S : List Value} {g : zG} {σ : zI} {Q : Option Value → zG → zI → Prop} {v : Value} (hd : decode Y.2.1 pc = .ok (.pop, 1)) (hv : v.category = 1) (k : zX Y d kc ks (pc + 1) L (S) g σ Q) : zX Y d kc ks (pc) L (v :: S) g σ Q := by
  intro p l e R s m args below meth c H locs cells slots Q2 dC dI cy ρ A ls hC hRO hK hA hc hs hw hl hP hD hS ret
  exact lv_pop hC.1 hC.2.1 hd ((zv_cat ρ v).trans hv) (k p l e R s m args below meth c H locs cells slots Q2 dC dI cy ρ A ls hC hRO hK hA hc hs hw hl hP hD hS ret)
theorem x_dup_x1 {Y : zM} {d kc ks pc : Nat} {L S : List Value} {g : zG} {σ : zI} {Q : Option Value → zG → zI → Prop} {v w : Value} (hd : decode Y.2.1 pc = .ok (.dup_x1, 1)) (hv : v.category = 1) (hw1 : w.category = 1) (k : zX Y d kc ks (pc + 1) L (v :: w :: v :: S) g σ Q) : zX Y d kc ks (pc) L (v :: w :: S) g σ Q := by
  intro p l e R s m args below meth c H locs cells slots Q2 dC dI cy ρ A ls hC hRO hK hA hc hs hw hl hP hD hS ret
  exact lv_dup_x1 hC.1 hC.2.1 hd ((zv_cat ρ v).trans hv) ((zv_cat ρ w).trans hw1) (k p l e R s m args below meth c H locs cells slots Q2 dC dI cy ρ A ls hC hRO hK hA hc hs hw hl hP hD hS ret)
theorem x_dup2 {Y : zM} {d kc ks pc : Nat} {L S : List Value} {g : zG} {σ : zI} {Q : Option Value → zG → zI → Prop} {v w : Value} (hd : decode Y.2.1 pc = .ok (.dup2, 1)) (hv : v.category = 1) (hw1 : w.category = 1) (k : zX Y d kc ks (pc + 1) L (v :: w :: v :: w :: S) g σ Q) : zX Y d kc ks (pc) L (v :: w :: S) g σ Q := by
  intro p l e R s m args below meth c H locs cells slots Q2 dC dI cy ρ A ls hC hRO hK hA hc hs hw hl hP hD hS ret
  exact lv_dup2_11 hC.1 hC.2.1 hd ((zv_cat ρ v).trans hv) ((zv_cat ρ w).trans hw1) (k p l e R s m args below meth c H locs cells slots Q2 dC dI cy ρ A ls hC hRO hK hA hc hs hw hl hP hD hS ret)
theorem x_if_eq {Y : zM} {d kc ks pc : Nat} {L S : List Value} {g : zG} {σ : zI} {Q : Option Value → zG → zI → Prop} {a : Int32} {off : Int} {tgt : Nat} (hd : decode Y.2.1 pc = .ok (.ifCond .eq off, 3)) (ht : (pc : Int) + off = (tgt : Int)) (k1 : a = 0 → zX Y d kc ks (tgt) L (S) g σ Q) (k2 : ¬ a = 0 → zX Y d kc ks (pc + 3) L (S) g σ Q) : zX Y d kc ks (pc) L (.int a :: S) g σ Q := by
  intro p l e R s m args below meth c H locs cells slots Q2 dC dI cy ρ A ls hC hRO hK hA hc hs hw hl hP hD hS ret
  exact lv_if_eq hC.1 hC.2.1 hd ht (fun q => (k1 q p l e R s m args below meth c H locs cells slots Q2 dC dI cy ρ A ls hC hRO hK hA hc hs hw hl hP hD hS ret)) (fun q => (k2 q p l e R s m args below meth c H locs cells slots Q2 dC dI cy ρ A ls hC hRO hK hA hc hs hw hl hP hD hS ret))
theorem x_if_ne {Y : zM} {d kc ks pc : Nat} {L S : List Value} {g : zG} {σ : zI} {Q : Option Value → zG → zI → Prop} {a : Int32} {off : Int} {tgt : Nat} (hd : decode Y.2.1 pc = .ok (.ifCond .ne off, 3)) (ht : (pc : Int) + off = (tgt : Int)) (k1 : ¬ a = 0 → zX Y d kc ks (tgt) L (S) g σ Q) (k2 : a = 0 → zX Y d kc ks (pc + 3) L (S) g σ Q) : zX Y d kc ks (pc) L (.int a :: S) g σ Q := by
  intro p l e R s m args below meth c H locs cells slots Q2 dC dI cy ρ A ls hC hRO hK hA hc hs hw hl hP hD hS ret
  exact lv_if_ne hC.1 hC.2.1 hd ht (fun q => (k1 q p l e R s m args below meth c H locs cells slots Q2 dC dI cy ρ A ls hC hRO hK hA hc hs hw hl hP hD hS ret)) (fun q => (k2 q p l e R s m args below meth c H locs cells slots Q2 dC dI cy ρ A ls hC hRO hK hA hc hs hw hl hP hD hS ret))
theorem x_if_lt {Y : zM} {d kc ks pc : Nat} {L S : List Value} {g : zG} {σ : zI} {Q : Option Value → zG → zI → Prop} {a : Int32} {off : Int} {tgt : Nat} (hd : decode Y.2.1 pc = .ok (.ifCond .lt off, 3)) (ht : (pc : Int) + off = (tgt : Int)) (k1 : a < 0 → zX Y d kc ks (tgt) L (S) g σ Q) (k2 : ¬ a < 0 → zX Y d kc ks (pc + 3) L (S) g σ Q) : zX Y d kc ks (pc) L (.int a :: S) g σ Q := by
  intro p l e R s m args below meth c H locs cells slots Q2 dC dI cy ρ A ls hC hRO hK hA hc hs hw hl hP hD hS ret
  exact lv_if_lt hC.1 hC.2.1 hd ht (fun q => (k1 q p l e R s m args below meth c H locs cells slots Q2 dC dI cy ρ A ls hC hRO hK hA hc hs hw hl hP hD hS ret)) (fun q => (k2 q p l e R s m args below meth c H locs cells slots Q2 dC dI cy ρ A ls hC hRO hK hA hc hs hw hl hP hD hS ret))
theorem x_if_ge {Y : zM} {d kc ks pc : Nat} {L S : List Value} {g : zG} {σ : zI} {Q : Option Value → zG → zI → Prop} {a : Int32} {off : Int} {tgt : Nat} (hd : decode Y.2.1 pc = .ok (.ifCond .ge off, 3)) (ht : (pc : Int) + off = (tgt : Int)) (k1 : 0 ≤ a → zX Y d kc ks (tgt) L (S) g σ Q) (k2 : ¬ 0 ≤ a → zX Y d kc ks (pc + 3) L (S) g σ Q) : zX Y d kc ks (pc) L (.int a :: S) g σ Q := by
  intro p l e R s m args below meth c H locs cells slots Q2 dC dI cy ρ A ls hC hRO hK hA hc hs hw hl hP hD hS ret
  exact lv_if_ge hC.1 hC.2.1 hd ht (fun q => (k1 q p l e R s m args below meth c H locs cells slots Q2 dC dI cy ρ A ls hC hRO hK hA hc hs hw hl hP hD hS ret)) (fun q => (k2 q p l e R s m args below meth c H locs cells slots Q2 dC dI cy ρ A ls hC hRO hK hA hc hs hw hl hP hD hS ret))
theorem x_if_gt {Y : zM} {d kc ks pc : Nat} {L S : List Value} {g : zG} {σ : zI} {Q : Option Value → zG → zI → Prop} {a : Int32} {off : Int} {tgt : Nat} (hd : decode Y.2.1 pc = .ok (.ifCond .gt off, 3)) (ht : (pc : Int) + off = (tgt : Int)) (k1 : 0 < a → zX Y d kc ks (tgt) L (S) g σ Q) (k2 : ¬ 0 < a → zX Y d kc ks (pc + 3) L (S) g σ Q) : zX Y d kc ks (pc) L (.int a :: S) g σ Q := by
  intro p l e R s m args below meth c H locs cells slots Q2 dC dI cy ρ A ls hC hRO hK hA hc hs hw hl hP hD hS ret
  exact lv_if_gt hC.1 hC.2.1 hd ht (fun q => (k1 q p l e R s m args below meth c H locs cells slots Q2 dC dI cy ρ A ls hC hRO hK hA hc hs hw hl hP hD hS ret)) (fun q => (k2 q p l e R s m args below meth c H locs cells slots Q2 dC dI cy ρ A ls hC hRO hK hA hc hs hw hl hP hD hS ret))
theorem x_if_le {Y : zM} {d kc ks pc : Nat} {L S : List Value} {g : zG} {σ : zI} {Q : Option Value → zG → zI → Prop} {a : Int32} {off : Int} {tgt : Nat} (hd : decode Y.2.1 pc = .ok (.ifCond .le off, 3)) (ht : (pc : Int) + off = (tgt : Int)) (k1 : a ≤ 0 → zX Y d kc ks (tgt) L (S) g σ Q) (k2 : ¬ a ≤ 0 → zX Y d kc ks (pc + 3) L (S) g σ Q) : zX Y d kc ks (pc) L (.int a :: S) g σ Q := by
  intro p l e R s m args below meth c H locs cells slots Q2 dC dI cy ρ A ls hC hRO hK hA hc hs hw hl hP hD hS ret
  exact lv_if_le hC.1 hC.2.1 hd ht (fun q => (k1 q p l e R s m args below meth c H locs cells slots Q2 dC dI cy ρ A ls hC hRO hK hA hc hs hw hl hP hD hS ret)) (fun q => (k2 q p l e R s m args below meth c H locs cells slots Q2 dC dI cy ρ A ls hC hRO hK hA hc hs hw hl hP hD hS ret))
theorem x_icmp_eq {Y : zM} {d kc ks pc : Nat} {L S : List Value} {g : zG} {σ : zI} {Q : Option Value → zG → zI → Prop} {a b : Int32} {off : Int} {tgt : Nat} (hd : decode Y.2.1 pc = .ok (.if_icmp .eq off, 3)) (ht : (pc : Int) + off = (tgt : Int)) (k1 : a = b → zX Y d kc ks (tgt) L (S) g σ Q) (k2 : ¬ a = b → zX Y d kc ks (pc + 3) L (S) g σ Q) : zX Y d kc ks (pc) L (.int b :: .int a :: S) g σ Q := by
  intro p l e R s m args below meth c H locs cells slots Q2 dC dI cy ρ A ls hC hRO hK hA hc hs hw hl hP hD hS ret
  exact lv_icmp_eq hC.1 hC.2.1 hd ht (fun q => (k1 q p l e R s m args below meth c H locs cells slots Q2 dC dI cy ρ A ls hC hRO hK hA hc hs hw hl hP hD hS ret)) (fun q => (k2 q p l e R s m args below meth c H locs cells slots Q2 dC dI cy ρ A ls hC hRO hK hA hc hs hw hl hP hD hS ret))
theorem x_icmp_ne {Y : zM} {d kc ks pc : Nat} {L S : List Value} {g : zG} {σ : zI} {Q : Option Value → zG → zI → Prop} {a b : Int32} {off : Int} {tgt : Nat} (hd : decode Y.2.1 pc = .ok (.if_icmp .ne off, 3)) (ht : (pc : Int) + off = (tgt : Int)) (k1 : ¬ a = b → zX Y d kc ks (tgt) L (S) g σ Q) (k2 : a = b → zX Y d kc ks (pc + 3) L (S) g σ Q) : zX Y d kc ks (pc) L (.int b :: .int a :: S) g σ Q := by
  intro p l e R s m args below meth c H locs cells slots Q2 dC dI cy ρ A ls hC hRO hK hA hc hs hw hl hP hD hS ret
  exact lv_icmp_ne hC.1 hC.2.1 hd ht (fun q => (k1 q p l e R s m args below meth c H locs cells slots Q2 dC dI cy ρ A ls hC hRO hK hA hc hs hw hl hP hD hS ret)) (fun q => (k2 q p l e R s m args below meth c H locs cells slots Q2 dC dI cy ρ A ls hC hRO hK hA hc hs hw hl hP hD hS ret))
theorem x_icmp_lt {Y : zM} {d kc ks pc : Nat} {L S : List Value} {g : zG} {σ : zI} {Q : Option Value → zG → zI → Prop} {a b : Int32} {off : Int} {tgt : Nat} (hd : decode Y.2.1 pc = .ok (.if_icmp .lt off, 3)) (ht : (pc : Int) + off = (tgt : Int)) (k1 : a < b → zX Y d kc ks (tgt) L (S) g σ Q) (k2 : ¬ a < b → zX Y d kc ks (pc + 3) L (S) g σ Q) : zX Y d kc ks (pc) L (.int b :: .int a :: S) g σ Q := by
  intro p l e R s m args below meth c H locs cells slots Q2 dC dI cy ρ A ls hC hRO hK hA hc hs hw hl hP hD hS ret
  exact lv_icmp_lt hC.1 hC.2.1 hd ht (fun q => (k1 q p l e R s m args below meth c H locs cells slots Q2 dC dI cy ρ A ls hC hRO hK hA hc hs hw hl hP hD hS ret)) (fun q => (k2 q p l e R s m args below meth c H locs cells slots Q2 dC dI cy ρ A ls hC hRO hK hA hc hs hw hl hP hD hS ret))
theorem x_icmp_ge {Y : zM} {d kc ks pc : Nat} {L S : List Value} {g : zG} {σ : zI} {Q : Option Value → zG → zI → Prop} {a b : Int32} {off : Int} {tgt : Nat} (hd : decode Y.2.1 pc = .ok (.if_icmp .ge off, 3)) (ht : (pc : Int) + off = (tgt : Int)) (k1 : b ≤ a → zX Y d kc ks (tgt) L (S) g σ Q) (k2 : ¬ b ≤ a → zX Y d kc ks (pc + 3) L (S) g σ Q) : zX Y d kc ks (pc) L (.int b :: .int a :: S) g σ Q := by
  intro p l e R s m args below meth c H locs cells slots Q2 dC dI cy ρ A ls hC hRO hK hA hc hs hw hl hP hD hS ret
  exact lv_icmp_ge hC.1 hC.2.1 hd ht (fun q => (k1 q p l e R s m args below meth c H locs cells slots Q2 dC dI cy ρ A ls hC hRO hK hA hc hs hw hl hP hD hS ret)) (fun q => (k2 q p l e R s m args below meth c H locs cells slots Q2 dC dI cy ρ A ls hC hRO hK hA hc hs hw hl hP hD hS ret))
theorem x_icmp_gt {Y : zM} {d kc ks pc : Nat} {L S : List Value} {g : zG} {σ : zI} {Q : Option Value → zG → zI → Prop} {a b : Int32} {off : Int} {tgt : Nat} (hd : decode Y.2.1 pc = .ok (.if_icmp .gt off, 3)) (ht : (pc : Int) + off = (tgt : Int)) (k1 : b < a → zX Y d kc ks (tgt) L (S) g σ Q) (k2 : ¬ b < a → zX Y d kc ks (pc + 3) L (S) g σ Q) : zX Y d kc ks (pc) L (.int b :: .int a :: S) g σ Q := by
  intro p l e R s m args below meth c H locs cells slots Q2 dC dI cy ρ A ls hC hRO hK hA hc hs hw hl hP hD hS ret
  exact lv_icmp_gt hC.1 hC.2.1 hd ht (fun q => (k1 q p l e R s m args below meth c H locs cells slots Q2 dC dI cy ρ A ls hC hRO hK hA hc hs hw hl hP hD hS ret)) (fun q => (k2 q p l e R s m args below meth c H locs cells slots Q2 dC dI cy ρ A ls hC hRO hK hA hc hs hw hl hP hD hS ret))
theorem x_icmp_le {Y : zM} {d kc ks pc : Nat} {L S : List Value} {g : zG} {σ : zI} {Q : Option Value → zG → zI → Prop} {a b : Int32} {off : Int} {tgt : Nat} (hd : decode Y.2.1 pc = .ok (.if_icmp .le off, 3)) (ht : (pc : Int) + off = (tgt : Int)) (k1 : a ≤ b → zX Y d kc ks (tgt) L (S) g σ Q) (k2 : ¬ a ≤ b → zX Y d kc ks (pc + 3) L (S) g σ Q) : zX Y d kc ks (pc) L (.int b :: .int a :: S) g σ Q := by
  intro p l e R s m args below meth c H locs cells slots Q2 dC dI cy ρ A ls hC hRO hK hA hc hs hw hl hP hD hS ret
  exact lv_icmp_le hC.1 hC.2.1 hd ht (fun q => (k1 q p l e R s m args below meth c H locs cells slots Q2 dC dI cy ρ A ls hC hRO hK hA hc hs hw hl hP hD hS ret)) (fun q => (k2 q p l e R s m args below meth c H locs cells slots Q2 dC dI cy ρ A ls hC hRO hK hA hc hs hw hl hP hD hS ret))
theorem x_goto {Y : zM} {d kc ks pc : Nat} {L S : List Value} {g : zG} {σ : zI} {Q : Option Value → zG → zI → Prop} {off : Int} {tgt : Nat} (hd : decode Y.2.1 pc = .ok (.goto off, 3)) (ht : (pc : Int) + off = (tgt : Int)) (k : zX Y d kc ks (tgt) L (S) g σ Q) : zX Y d kc ks (pc) L (S) g σ Q := by
  intro p l e R s m args below meth c H locs cells slots Q2 dC dI cy ρ A ls hC hRO hK hA hc hs hw hl hP hD hS ret
  exact lv_goto hC.1 hC.2.1 hd ht (k p l e R s m args below meth c H locs cells slots Q2 dC dI cy ρ A ls hC hRO hK hA hc hs hw hl hP hD hS ret)
theorem x_ifnull {Y : zM} {d kc ks pc : Nat} {L S : List Value} {g : zG} {σ : zI} {Q : Option Value → zG → zI → Prop} {x : Nat} {off : Int} (hd : decode Y.2.1 pc = .ok (.ifnull off, 3)) (k : zX Y d kc ks (pc + 3) L (S) g σ Q) : zX Y d kc ks (pc) L (.ref x :: S) g σ Q := by
  intro p l e R s m args below meth c H locs cells slots Q2 dC dI cy ρ A ls hC hRO hK hA hc hs hw hl hP hD hS ret
  exact lv_ifnull hC.1 hC.2.1 hd (k p l e R s m args below meth c H locs cells slots Q2 dC dI cy ρ A ls hC hRO hK hA hc hs hw hl hP hD hS ret)
theorem x_ifnullN {Y : zM} {d kc ks pc : Nat} {L S : List Value} {g : zG} {σ : zI} {Q : Option Value → zG → zI → Prop} {off : Int} {tgt : Nat} (hd : decode Y.2.1 pc = .ok (.ifnull off, 3)) (ht : (pc : Int) + off = (tgt : Int)) (k : zX Y d kc ks (tgt) L (S) g σ Q) : zX Y d kc ks (pc) L (.null :: S) g σ Q := by
  intro p l e R s m args below meth c H locs cells slots Q2 dC dI cy ρ A ls hC hRO hK hA hc hs hw hl hP hD hS ret
  exact lv_ifnullN hC.1 hC.2.1 hd ht (k p l e R s m args below meth c H locs cells slots Q2 dC dI cy ρ A ls hC hRO hK hA hc hs hw hl hP hD hS ret)
theorem x_ifnonnull {Y : zM} {d kc ks pc : Nat} {L S : List Value} {g : zG} {σ : zI} {Q : Option Value → zG → zI → Prop} {x : Nat} {off : Int} {tgt : Nat} (hd : decode Y.2.1 pc = .ok (.ifnonnull off, 3)) (ht : (pc : Int) + off = (tgt : Int)) (k : zX Y d kc ks (tgt) L (S) g σ Q) : zX Y d kc ks (pc) L (.ref x :: S) g σ Q := by
  intro p l e R s m args below meth c H locs cells slots Q2 dC dI cy ρ A ls hC hRO hK hA hc hs hw hl hP hD hS ret
  exact lv_ifnonnull hC.1 hC.2.1 hd ht (k p l e R s m args below meth c H locs cells slots Q2 dC dI cy ρ A ls hC hRO hK hA hc hs hw hl hP hD hS ret)
theorem x_ifnonnullN {Y : zM} {d kc ks pc : Nat} {L S : List Value} {g : zG} {σ : zI} {Q : Option Value → zG → zI → Prop} {off : Int} (hd : decode Y.2.1 pc = .ok (.ifnonnull off, 3)) (k : zX Y d kc ks (pc + 3) L (S) g σ Q) : zX Y d kc ks (pc) L (.null :: S) g σ Q := by
  intro p l e R s m args below meth c H locs cells slots Q2 dC dI cy ρ A ls hC hRO hK hA hc hs hw hl hP hD hS ret
  exact lv_ifnonnullN hC.1 hC.2.1 hd (k p l e R s m args below meth c H locs cells slots Q2 dC dI cy ρ A ls hC hRO hK hA hc hs hw hl hP hD hS ret)
theorem x_tsw {Y : zM} {d kc ks pc : Nat} {L S : List Value} {g : zG} {σ : zI} {Q : Option Value → zG → zI → Prop} {a : Int32} {dflt lo hi off : Int} {offs : Array Int} {len tgt : Nat} (hd : decode Y.2.1 pc = .ok (.tableswitch dflt lo hi offs, len)) (h1 : ¬ a.toInt < lo) (h2 : ¬ hi < a.toInt) (ho : offs[(a.toInt - lo).toNat]? = some off) (ht : (pc : Int) + off = (tgt : Int)) (k : zX Y d kc ks (tgt) L (S) g σ Q) : zX Y d kc ks (pc) L (.int a :: S) g σ Q := by
  intro p l e R s m args below meth c H locs cells slots Q2 dC dI cy ρ A ls hC hRO hK hA hc hs hw hl hP hD hS ret
  exact lv_tableIn hC.1 hC.2.1 hd h1 h2 ho ht (k p l e R s m args below meth c H locs cells slots Q2 dC dI cy ρ A ls hC hRO hK hA hc hs hw hl hP hD hS ret)
theorem x_tswd {Y : zM} {d kc ks pc : Nat} {L S : List Value} {g : zG} {σ : zI} {Q : Option Value → zG → zI → Prop} {a : Int32} {dflt lo hi : Int} {offs : Array Int} {len tgt : Nat} (hd : decode Y.2.1 pc = .ok (.tableswitch dflt lo hi offs, len)) (h : a.toInt < lo ∨ hi < a.toInt) (ht : (pc : Int) + dflt = (tgt : Int)) (k : zX Y d kc ks (tgt) L (S) g σ Q) : zX Y d kc ks (pc) L (.int a :: S) g σ Q := by
  intro p l e R s m args below meth c H locs cells slots Q2 dC dI cy ρ A ls hC hRO hK hA hc hs hw hl hP hD hS ret
  exact lv_tableOut hC.1 hC.2.1 hd h ht (k p l e R s m args below meth c H locs cells slots Q2 dC dI cy ρ A ls hC hRO hK hA hc hs hw hl hP hD hS ret)
theorem x_lsw {Y : zM} {d kc ks pc : Nat} {L S : List Value} {g : zG} {σ : zI} {Q : Option Value → zG → zI → Prop} {a : Int32} {dflt off : Int} {ps : Array (Int × Int)} {len tgt : Nat} (hd : decode Y.2.1 pc = .ok (.lookupswitch dflt ps, len)) (hp : (ps.toList.zip (ps.toList.drop 1)).all (fun (a, next) => a.1 < next.1) = true) (ho : Op.lookupswitch.offset ps.toList dflt a.toInt = off) (ht : (pc : Int) + off = (tgt : Int)) (k : zX Y d kc ks (tgt) L (S) g σ Q) : zX Y d kc ks (pc) L (.int a :: S) g σ Q := by
  intro p l e R s m args below meth c H locs cells slots Q2 dC dI cy ρ A ls hC hRO hK hA hc hs hw hl hP hD hS ret
  exact lv_lookup hC.1 hC.2.1 hd hp ho ht (k p l e R s m args below meth c H locs cells slots Q2 dC dI cy ρ A ls hC hRO hK hA hc hs hw hl hP hD hS ret)
end
section

def zOb (g : zG) (i c : Nat) : Prop := i < g.1 ∧ g.2.1 i = (0, c, 0)
def zAr (g : zG) (i t n : Nat) : Prop := i < g.1 ∧ g.2.1 i = (t, 0, n)
def zsI (σ : zI) (i k : Nat) (x : Int32) : zI := fun a j => if a = i then (if j = k then x else σ a j) else σ a j
def zsR (g : zG) (i k : Nat) (x : Option Nat) : zG := (g.1, g.2.1, fun a j => if a = i then (if j = k then x else g.2.2 a j) else g.2.2 a j)
def zsN (g : zG) (sh : Nat × Nat × Nat) (r : Nat → Option Nat) : zG := (g.1 + 1, (fun a => if a = g.1 then sh else g.2.1 a), fun a => if a = g.1 then r else g.2.2 a)
def zs0 (σ : zI) (i : Nat) : zI := fun a => if a = i then (fun _ => 0) else σ a
theorem zsI_row (σ : zI) (i k : Nat) (x : Int32) : zsI σ i k x i = upd (σ i) k x := by funext j; simp [zsI, upd]
theorem zsI_ne {σ : zI} {i k : Nat} {x : Int32} {a : Nat} (h : a ≠ i) : zsI σ i k x a = σ a := by funext j; simp [zsI, h]
theorem zsI_same (σ : zI) (i k : Nat) (x : Int32) : zsI σ i k x i k = x := by simp [zsI]
theorem zsI_nk {σ : zI} {i k : Nat} {x : Int32} {a j : Nat} (h : a ≠ i ∨ j ≠ k) : zsI σ i k x a j = σ a j := by
  rcases h with h | h
  · rw [zsI_ne h]
  · by_cases e : a = i <;> simp [zsI, e, h]
theorem zW_len (ρ : Nat → Nat) (cy : Nat → ClassId) (g : zG) (σ : zI) : (zW ρ cy g σ).length = g.1 := by simp [zW]
theorem zW_get {ρ : Nat → Nat} {cy : Nat → ClassId} {g : zG} {σ : zI} {i : Nat} (h : i < g.1) : (zW ρ cy g σ)[i]? = some (ρ i, zC ρ cy (g.2.1 i) (g.2.2 i) (σ i)) := by
  unfold zW
  rw [List.getElem?_map, List.getElem?_range h]
  rfl
theorem zW_non {ρ : Nat → Nat} {cy : Nat → ClassId} {g : zG} {σ : zI} {i : Nat} (h : ¬ i < g.1) : (zW ρ cy g σ)[i]? = none := List.getElem?_eq_none (by rw [zW_len]; omega)
theorem zW_set {ρ : Nat → Nat} {cy : Nat → ClassId} {g g' : zG} {σ σ' : zI} {i : Nat} {e : va_E} (h : i < g.1) (hn : g'.1 = g.1) (he : e = zC ρ cy (g'.2.1 i) (g'.2.2 i) (σ' i))
    (ho : ∀ j, j ≠ i → zC ρ cy (g'.2.1 j) (g'.2.2 j) (σ' j) = zC ρ cy (g.2.1 j) (g.2.2 j) (σ j)) : (zW ρ cy g σ).set i (ρ i, e) = zW ρ cy g' σ' := by
  apply List.ext_getElem?
  intro j
  by_cases hj : i = j
  · subst hj
    rw [List.getElem?_set_self (by rw [zW_len]; exact h), zW_get (by omega), he]
  · rw [List.getElem?_set_ne hj]
    by_cases hjn : j < g.1
    · rw [zW_get hjn, zW_get (by omega), ho j (fun q => hj q.symm)]
    · rw [zW_non hjn, zW_non (by omega)]
theorem zW_push {ρ ρ' : Nat → Nat} {cy : Nat → ClassId} {g g' : zG} {σ σ' : zI} {q : Nat} {e : va_E} (hn : g'.1 = g.1 + 1) (hq : ρ' g.1 = q) (he : e = zC ρ' cy (g'.2.1 g.1) (g'.2.2 g.1) (σ' g.1))
    (ho : ∀ j, j < g.1 → ρ' j = ρ j ∧ zC ρ' cy (g'.2.1 j) (g'.2.2 j) (σ' j) = zC ρ cy (g.2.1 j) (g.2.2 j) (σ j)) : zW ρ cy g σ ++ [(q, e)] = zW ρ' cy g' σ' := by
  apply List.ext_getElem?
  intro j
  by_cases hj : j < g.1
  · rw [List.getElem?_append_left (by rw [zW_len]; exact hj), zW_get hj, zW_get (by omega), (ho j hj).1, (ho j hj).2]
  · rw [List.getElem?_append_right (by rw [zW_len]; omega), zW_len]
    by_cases hj1 : j = g.1
    · subst hj1
      rw [Nat.sub_self, zW_get (by omega), hq, he]
      rfl
    · rw [zW_non (by omega), List.getElem?_eq_none (by simp; omega)]
theorem zF_get {ρ : Nat → Nat} {c k : Nat} {r : Nat → Option Nat} {s : Nat → Int32} (h : k < zNF c) : (zF ρ c r s)[k]? = some (zfv ρ (zfk c k) (r k) (s k)) := by
  unfold zF
  rw [List.getElem?_map, List.getElem?_range h]
  rfl
theorem zF_len (ρ : Nat → Nat) (c : Nat) (r : Nat → Option Nat) (s : Nat → Int32) : (zF ρ c r s).length = zNF c := by simp [zF]
theorem zF_set {ρ : Nat → Nat} {c k : Nat} {r r' : Nat → Option Nat} {s s' : Nat → Int32} {v : Value} (h : k < zNF c) (hv : v = zfv ρ (zfk c k) (r' k) (s' k)) (ho : ∀ j, j ≠ k → r' j = r j ∧ s' j = s j) : (zF ρ c r s).set k v = zF ρ c r' s' := by
  apply List.ext_getElem?
  intro j
  by_cases hj : k = j
  · subst hj
    rw [List.getElem?_set_self (by rw [zF_len]; exact h), zF_get h, hv]
  · rw [List.getElem?_set_ne hj]
    by_cases hjn : j < zNF c
    · rw [zF_get hjn, zF_get hjn, (ho j (fun q => hj q.symm)).1, (ho j (fun q => hj q.symm)).2]
    · rw [List.getElem?_eq_none (by rw [zF_len]; omega), List.getElem?_eq_none (by rw [zF_len]; omega)]
theorem zfk_le_all : ∀ c, c < 9 → ∀ k, k < 64 → zfk c k ≤ 2 := by decide +kernel
theorem zfk_le (c k : Nat) : zfk c k ≤ 2 := by
  by_cases hc : c < 9
  · by_cases hk : k < 64
    · exact zfk_le_all c hc k hk
    · unfold zfk
      have h1 : ∀ c, c < 9 → (zfkL.getD c []).length ≤ 64 := by decide +kernel
      have h2 := h1 c hc
      rw [List.getD_eq_getElem?_getD, List.getElem?_eq_none (by omega)]
      exact Nat.zero_le _
  · unfold zfk
    have h1 : zfkL.length = 9 := by decide +kernel
    rw [List.getD_eq_getElem?_getD (l := zfkL), List.getElem?_eq_none (l := zfkL) (by omega)]
    exact Nat.zero_le _
/-- cells are the same where the addresses of what they hold are -/
theorem zC_ρ {ρ ρ' : Nat → Nat} {cy : Nat → ClassId} {g : zG} {σ : zI} (hw : zWf g σ) (hr : ∀ i, i < g.1 → ρ' i = ρ i) {j : Nat} (hj : j < g.1) : zC ρ' cy (g.2.1 j) (g.2.2 j) (σ j) = zC ρ cy (g.2.1 j) (g.2.2 j) (σ j) := by
  have hm : ∀ k, (g.2.2 j k).map ρ' = (g.2.2 j k).map ρ := fun k => by
    cases hx : g.2.2 j k with
    | none => rfl
    | some x => exact congrArg some (hr x (hw.1 j k x hj hx))
  unfold zC
  split
  · next h0 =>
    refine congrArg (fun l => Sum.inr (_, l)) ?_
    unfold zF
    refine List.map_congr_left fun k _ => ?_
    unfold zfv
    split
    · rfl
    · rw [hm k]
    · next z1 z2 =>
      by_cases h2 : zfk (g.2.1 j).2.1 k = 2
      · cases hx : zdr (σ j k) with
        | none => rfl
        | some x => exact congrArg (fun r => va_rf (some r)) (hr x (hw.2.1 j k x hj h0 h2 hx))
      · exact absurd (zfk_le (g.2.1 j).2.1 k) (by
          intro hle
          generalize zfk (g.2.1 j).2.1 k = z at *
          rcases z with _ | _ | _ | z
          · exact z1 rfl
          · exact z2 rfl
          · exact h2 rfl
          · omega)
  · rfl
  · rfl
  · have e : (fun k => (g.2.2 j k).map ρ') = fun k => (g.2.2 j k).map ρ := funext hm
    rw [e]
end
section

def zFld (own : String) (idx ci k : Nat) (fin : Bool) : Prop := ∃ (C : String) (T : u_T) (N : Nat), vwCl[ci]? = some (C, T, N) ∧ k < N ∧ (T k).2.2.2 = fin ∧ (fin = true → (T k).1 = own) ∧ (Cond.fieldLink own idx (T k).1 (T k).2.1 (T k).2.2.1 ∈ zT ∨ ∃ host, Cond.fieldLinkNest own idx (T k).1 (T k).2.1 (T k).2.2.1 host ∈ zN)
def zCls (ci : Nat) (C : String) (T : u_T) (N : Nat) : Prop := (∀ w ∈ u_ws C T N, w ∈ zT) ∧ (∀ k, k < N → parseFieldDescriptor (T k).2.2.1 = some (zft ci k)) ∧ (∀ a, a < N → ∀ b, b < N → a ≠ b → (T a).2.1 ≠ (T b).2.1) ∧ zNF ci = N ∧ (Cond.instantiable C N ∈ zT) ∧ (Cond.initialized C ∈ zT) ∧ ∀ k, k < N → zfk ci k = 0 ∨ (zft ci k).isReference = true

theorem zcls0 : zCls 0 RX0 TX0 4 := ⟨by decide +kernel, by decide +kernel, nmX0, rfl, by decide +kernel, by decide +kernel, by decide +kernel⟩
theorem zcls1 : zCls 1 RX1 TX1 5 := ⟨by decide +kernel, by decide +kernel, nmX1, rfl, by decide +kernel, by decide +kernel, by decide +kernel⟩
theorem zcls2 : zCls 2 RX2 TX2 8 := ⟨by decide +kernel, by decide +kernel, nmX2, rfl, by decide +kernel, by decide +kernel, by decide +kernel⟩
theorem zcls3 : zCls 3 RX3 TX3 6 := ⟨by decide +kernel, by decide +kernel, nmX3, rfl, by decide +kernel, by decide +kernel, by decide +kernel⟩
theorem zcls4 : zCls 4 RX4 TX4 8 := ⟨by decide +kernel, by decide +kernel, nmX4, rfl, by decide +kernel, by decide +kernel, by decide +kernel⟩
theorem zcls5 : zCls 5 RX5 TX5 3 := ⟨by decide +kernel, by decide +kernel, nmX5, rfl, by decide +kernel, by decide +kernel, by decide +kernel⟩
theorem zcls6 : zCls 6 RX6 TX6 5 := ⟨by decide +kernel, by decide +kernel, nmX6, rfl, by decide +kernel, by decide +kernel, by decide +kernel⟩
theorem zcls7 : zCls 7 RX7 TX7 9 := ⟨by decide +kernel, by decide +kernel, nmX7, rfl, by decide +kernel, by decide +kernel, by decide +kernel⟩
theorem zcls8 : zCls 8 RX8 TX8 39 := ⟨by decide +kernel, by decide +kernel, nmX8, rfl, by decide +kernel, by decide +kernel, by decide +kernel⟩
theorem zcls : ∀ (ci : Nat) (C : String) (T : u_T) (N : Nat), vwCl[ci]? = some (C, T, N) → zCls ci C T N
  | 0, _, _, _, h => by cases h; exact zcls0
  | 1, _, _, _, h => by cases h; exact zcls1
  | 2, _, _, _, h => by cases h; exact zcls2
  | 3, _, _, _, h => by cases h; exact zcls3
  | 4, _, _, _, h => by cases h; exact zcls4
  | 5, _, _, _, h => by cases h; exact zcls5
  | 6, _, _, _, h => by cases h; exact zcls6
  | 7, _, _, _, h => by cases h; exact zcls7
  | 8, _, _, _, h => by cases h; exact zcls8
  | _ + 9, _, _, _, h => by simp at h

theorem zW_ob {ρ : Nat → Nat} {cy : Nat → ClassId} {g : zG} {σ : zI} {i c : Nat} (h : zOb g i c) : (zW ρ cy g σ)[i]? = some (ρ i, .inr (c, zF ρ c (g.2.2 i) (σ i))) := by
  rw [zW_get h.1, h.2]
  rfl
theorem zW_ar1 {ρ : Nat → Nat} {cy : Nat → ClassId} {g : zG} {σ : zI} {i n : Nat} (h : zAr g i 1 n) : (zW ρ cy g σ)[i]? = some (ρ i, .inl (cy 0, n, .inl (σ i))) := by
  rw [zW_get h.1, h.2]
  rfl
theorem zW_ar2 {ρ : Nat → Nat} {cy : Nat → ClassId} {g : zG} {σ : zI} {i n : Nat} (h : zAr g i 2 n) : (zW ρ cy g σ)[i]? = some (ρ i, .inl (cy 1, n, .inl (σ i))) := by
  rw [zW_get h.1, h.2]
  rfl
theorem zW_arq {ρ : Nat → Nat} {cy : Nat → ClassId} {g : zG} {σ : zI} {i t n : Nat} (h : zAr g i (t + 3) n) : (zW ρ cy g σ)[i]? = some (ρ i, .inl (cy (t + 2), n, .inr (.inr (.inr (.inr (fun j => (g.2.2 i j).map ρ)))))) := by
  rw [zW_get h.1, h.2]
  rfl
theorem zWf_I {g : zG} {σ : zI} {i k : Nat} {x : Int32} (h : zWf g σ) (h0 : (g.2.1 i).1 = 0 → ¬ zfk (g.2.1 i).2.1 k = 2) : zWf g (zsI σ i k x) := by
  refine ⟨h.1, fun a j y ha h1 h2 h3 => ?_, h.2.2⟩
  by_cases e : a = i ∧ j = k
  · obtain ⟨e1, e2⟩ := e
    subst e1; subst e2
    exact absurd h2 (h0 h1)
  · rw [zsI_nk (by by_cases q : a = i; exact Or.inr (fun z => e ⟨q, z⟩); exact Or.inl q)] at h3
    exact h.2.1 a j y ha h1 h2 h3
theorem zExt_I {kc : Nat} {g : zG} {σ : zI} {ρ : Nat → Nat} {i k : Nat} {x : Int32} (hi : i < g.1) (hw : zWf g σ) : zExt kc g σ g (zsI σ i k x) ρ ρ :=
  ⟨fun _ => rfl, Nat.le_refl _, fun _ _ => rfl, rfl, zsI_ne (by have := hw.2.2; omega)⟩
theorem zRO_I {ρ : Nat → Nat} {g : zG} {σ : zI} {A : Nat → Prop} {U : State} {H : Heap} {i k : Nat} {x : Int32} (hi : i < g.1) (hw : zWf g σ) (h : zRO ρ g σ A U H) : zRO ρ g (zsI σ i k x) A U H :=
  zRO_set h (fun _ _ => rfl) rfl (zsI_ne (by have := hw.2.2; omega))
theorem zW_putI {ρ : Nat → Nat} {cy : Nat → ClassId} {g : zG} {σ : zI} {i c k : Nat} {x : Int32} {v : Value} (ho : zOb g i c) (hk : k < zNF c) (hv : v = zfv ρ (zfk c k) (g.2.2 i k) x) : (zW ρ cy g σ).set i (ρ i, .inr (c, (zF ρ c (g.2.2 i) (σ i)).set k v)) = zW ρ cy g (zsI σ i k x) := by
  refine zW_set ho.1 rfl ?_ (fun j hj => by rw [zsI_ne hj])
  rw [ho.2]
  show Sum.inr (c, _) = Sum.inr (c, _)
  rw [zF_set (r' := g.2.2 i) (s' := zsI σ i k x i) hk (by rw [zsI_same]; exact hv) (fun j hj => ⟨rfl, zsI_nk (Or.inr hj)⟩)]
theorem zW_putR {ρ : Nat → Nat} {cy : Nat → ClassId} {g : zG} {σ : zI} {i c k : Nat} {x : Option Nat} (ho : zOb g i c) (hk : k < zNF c) (h1 : zfk c k = 1) : (zW ρ cy g σ).set i (ρ i, .inr (c, (zF ρ c (g.2.2 i) (σ i)).set k (va_rf (x.map ρ)))) = zW ρ cy (zsR g i k x) σ := by
  refine zW_set ho.1 rfl ?_ (fun j hj => ?_)
  · show _ = zC ρ cy (g.2.1 i) ((zsR g i k x).2.2 i) (σ i)
    rw [ho.2]
    show Sum.inr (c, _) = Sum.inr (c, _)
    rw [zF_set (r' := (zsR g i k x).2.2 i) (s' := σ i) hk (by rw [h1]; simp [zsR, zfv]) (fun j hj => ⟨by simp [zsR, hj], rfl⟩)]
  · show zC ρ cy (g.2.1 j) ((zsR g i k x).2.2 j) (σ j) = _
    have e : (zsR g i k x).2.2 j = g.2.2 j := by funext a; simp [zsR, hj]
    rw [e]
theorem zWf_R {g : zG} {σ : zI} {i k : Nat} {x : Option Nat} (h : zWf g σ) (hx : ∀ y, x = some y → y < g.1) : zWf (zsR g i k x) σ := by
  refine ⟨fun a j y ha hy => ?_, h.2.1, h.2.2⟩
  have hy : (if a = i then (if j = k then x else g.2.2 a j) else g.2.2 a j) = some y := hy
  split at hy
  · split at hy
    · exact hx y hy
    · exact h.1 a j y ha hy
  · exact h.1 a j y ha hy
theorem zExt_R {kc : Nat} {g : zG} {σ : zI} {ρ : Nat → Nat} {i k : Nat} {x : Option Nat} : zExt kc g σ (zsR g i k x) σ ρ ρ := ⟨fun _ => rfl, Nat.le_refl _, fun _ _ => rfl, rfl, rfl⟩
theorem zRO_R {ρ : Nat → Nat} {g : zG} {σ : zI} {A : Nat → Prop} {U : State} {H : Heap} {i k : Nat} {x : Option Nat} (h : zRO ρ g σ A U H) : zRO ρ (zsR g i k x) σ A U H := zRO_set h (fun _ _ => rfl) rfl rfl
theorem zdr_1 {r : Nat} (h : r < 1000) : zdr (nI (r + 1)) = some r := by
  have h0 : ¬ nI (r + 1) = 0 := nI_ne0 (by omega) (by omega)
  unfold zdr
  rw [if_neg h0, nI_clamp (by omega)]
  rfl
theorem zdr_0 : zdr 0 = none := rfl
theorem zft_ref {ty : FieldType} (h : ty.isReference = true) {v : Value} (hv : v = .null ∨ ∃ a, v = .ref a) : narrow ty v = v ∧ fits ty v = true := by
  rcases hv with rfl | ⟨a, rfl⟩ <;> cases ty <;> simp_all [narrow, fits, FieldType.isReference]

theorem x_getI {Y : zM} {d kc ks pc : Nat} {L S : List Value} {g : zG} {σ : zI} {Q : Option Value → zG → zI → Prop} {idx ci k id : Nat} {fin : Bool} (hd : decode Y.2.1 pc = .ok (.getfield idx, 3)) (hf : zFld Y.1.cls idx ci k fin) (ho : zOb g id ci) (hk : zfk ci k = 0) (kk : zX Y d kc ks (pc + 3) L (.int (σ id k) :: S) g σ Q) : zX Y d kc ks (pc) L (.ref id :: S) g σ Q := by
  intro p l e R s m args below meth c H locs cells slots Q2 dC dI cy ρ A ls hC hRO hK hA hc hs hw hl hP hD hS ret
  obtain ⟨C, T, N, hq, hkn, hfi, hfd, hlk⟩ := hf
  have hcl := zcls ci C T N hq
  have he := zW_ob (ρ := ρ) (cy := cy) (σ := σ) ho
  have hv : (zF ρ ci (g.2.2 id) (σ id))[k]? = some (.int (σ id k)) := by
    rw [zF_get (by rw [hcl.2.2.2.1]; exact hkn), hk]
    rfl
  rcases hlk with hlk | ⟨host, hlk⟩
  · exact va_get hC.1 hC.2.1 hC.2.2.2.2.2.1 hcl.1 hC.2.2.2.2.2.2.1 hK hP id he hq k hkn (hC.2.2.2.2.2.1 _ hlk) (fun _ h => h) hv hd (kk p l e R s m args below meth c H locs cells slots Q2 dC dI cy ρ A ls hC hRO hK hA hc hs hw hl hP hD hS ret)
  · exact va_getN hC.1 hC.2.1 hC.2.2.2.2.2.1 hcl.1 hC.2.2.2.2.2.2.1 hK hP id he hq k hkn (va_Nw.use rfl (hRO.1 _ hlk)) (fun _ h => h) hv hd (kk p l e R s m args below meth c H locs cells slots Q2 dC dI cy ρ A ls hC hRO hK hA hc hs hw hl hP hD hS ret)
theorem x_getR {Y : zM} {d kc ks pc : Nat} {L S : List Value} {g : zG} {σ : zI} {Q : Option Value → zG → zI → Prop} {idx ci k id : Nat} {fin : Bool} (hd : decode Y.2.1 pc = .ok (.getfield idx, 3)) (hf : zFld Y.1.cls idx ci k fin) (ho : zOb g id ci) (hk : zfk ci k = 1) {x : Nat} (hx : g.2.2 id k = some x) (kk : zX Y d kc ks (pc + 3) L (.ref x :: S) g σ Q) : zX Y d kc ks (pc) L (.ref id :: S) g σ Q := by
  intro p l e R s m args below meth c H locs cells slots Q2 dC dI cy ρ A ls hC hRO hK hA hc hs hw hl hP hD hS ret
  obtain ⟨C, T, N, hq, hkn, hfi, hfd, hlk⟩ := hf
  have hcl := zcls ci C T N hq
  have he := zW_ob (ρ := ρ) (cy := cy) (σ := σ) ho
  have hv : (zF ρ ci (g.2.2 id) (σ id))[k]? = some (.ref (ρ x)) := by
    rw [zF_get (by rw [hcl.2.2.2.1]; exact hkn), hk, hx]
    rfl
  rcases hlk with hlk | ⟨host, hlk⟩
  · exact va_get hC.1 hC.2.1 hC.2.2.2.2.2.1 hcl.1 hC.2.2.2.2.2.2.1 hK hP id he hq k hkn (hC.2.2.2.2.2.1 _ hlk) (fun _ h => h) hv hd (kk p l e R s m args below meth c H locs cells slots Q2 dC dI cy ρ A ls hC hRO hK hA hc hs hw hl hP hD hS ret)
  · exact va_getN hC.1 hC.2.1 hC.2.2.2.2.2.1 hcl.1 hC.2.2.2.2.2.2.1 hK hP id he hq k hkn (va_Nw.use rfl (hRO.1 _ hlk)) (fun _ h => h) hv hd (kk p l e R s m args below meth c H locs cells slots Q2 dC dI cy ρ A ls hC hRO hK hA hc hs hw hl hP hD hS ret)
theorem x_getRN {Y : zM} {d kc ks pc : Nat} {L S : List Value} {g : zG} {σ : zI} {Q : Option Value → zG → zI → Prop} {idx ci k id : Nat} {fin : Bool} (hd : decode Y.2.1 pc = .ok (.getfield idx, 3)) (hf : zFld Y.1.cls idx ci k fin) (ho : zOb g id ci) (hk : zfk ci k = 1) (hx : g.2.2 id k = none) (kk : zX Y d kc ks (pc + 3) L (.null :: S) g σ Q) : zX Y d kc ks (pc) L (.ref id :: S) g σ Q := by
  intro p l e R s m args below meth c H locs cells slots Q2 dC dI cy ρ A ls hC hRO hK hA hc hs hw hl hP hD hS ret
  obtain ⟨C, T, N, hq, hkn, hfi, hfd, hlk⟩ := hf
  have hcl := zcls ci C T N hq
  have he := zW_ob (ρ := ρ) (cy := cy) (σ := σ) ho
  have hv : (zF ρ ci (g.2.2 id) (σ id))[k]? = some (.null) := by
    rw [zF_get (by rw [hcl.2.2.2.1]; exact hkn), hk, hx]
    rfl
  rcases hlk with hlk | ⟨host, hlk⟩
  · exact va_get hC.1 hC.2.1 hC.2.2.2.2.2.1 hcl.1 hC.2.2.2.2.2.2.1 hK hP id he hq k hkn (hC.2.2.2.2.2.1 _ hlk) (fun _ h => h) hv hd (kk p l e R s m args below meth c H locs cells slots Q2 dC dI cy ρ A ls hC hRO hK hA hc hs hw hl hP hD hS ret)
  · exact va_getN hC.1 hC.2.1 hC.2.2.2.2.2.1 hcl.1 hC.2.2.2.2.2.2.1 hK hP id he hq k hkn (va_Nw.use rfl (hRO.1 _ hlk)) (fun _ h => h) hv hd (kk p l e R s m args below meth c H locs cells slots Q2 dC dI cy ρ A ls hC hRO hK hA hc hs hw hl hP hD hS ret)
theorem x_getD {Y : zM} {d kc ks pc : Nat} {L S : List Value} {g : zG} {σ : zI} {Q : Option Value → zG → zI → Prop} {idx ci k id : Nat} {fin : Bool} (hd : decode Y.2.1 pc = .ok (.getfield idx, 3)) (hf : zFld Y.1.cls idx ci k fin) (ho : zOb g id ci) (hk : zfk ci k = 2) {x : Nat} (hx : zdr (σ id k) = some x) (kk : zX Y d kc ks (pc + 3) L (.ref x :: S) g σ Q) : zX Y d kc ks (pc) L (.ref id :: S) g σ Q := by
  intro p l e R s m args below meth c H locs cells slots Q2 dC dI cy ρ A ls hC hRO hK hA hc hs hw hl hP hD hS ret
  obtain ⟨C, T, N, hq, hkn, hfi, hfd, hlk⟩ := hf
  have hcl := zcls ci C T N hq
  have he := zW_ob (ρ := ρ) (cy := cy) (σ := σ) ho
  have hv : (zF ρ ci (g.2.2 id) (σ id))[k]? = some (.ref (ρ x)) := by
    rw [zF_get (by rw [hcl.2.2.2.1]; exact hkn), hk]
    show some (va_rf ((zdr (σ id k)).map ρ)) = _
    rw [hx]
    rfl
  rcases hlk with hlk | ⟨host, hlk⟩
  · exact va_get hC.1 hC.2.1 hC.2.2.2.2.2.1 hcl.1 hC.2.2.2.2.2.2.1 hK hP id he hq k hkn (hC.2.2.2.2.2.1 _ hlk) (fun _ h => h) hv hd (kk p l e R s m args below meth c H locs cells slots Q2 dC dI cy ρ A ls hC hRO hK hA hc hs hw hl hP hD hS ret)
  · exact va_getN hC.1 hC.2.1 hC.2.2.2.2.2.1 hcl.1 hC.2.2.2.2.2.2.1 hK hP id he hq k hkn (va_Nw.use rfl (hRO.1 _ hlk)) (fun _ h => h) hv hd (kk p l e R s m args below meth c H locs cells slots Q2 dC dI cy ρ A ls hC hRO hK hA hc hs hw hl hP hD hS ret)
theorem x_getDN {Y : zM} {d kc ks pc : Nat} {L S : List Value} {g : zG} {σ : zI} {Q : Option Value → zG → zI → Prop} {idx ci k id : Nat} {fin : Bool} (hd : decode Y.2.1 pc = .ok (.getfield idx, 3)) (hf : zFld Y.1.cls idx ci k fin) (ho : zOb g id ci) (hk : zfk ci k = 2) (hx : zdr (σ id k) = none) (kk : zX Y d kc ks (pc + 3) L (.null :: S) g σ Q) : zX Y d kc ks (pc) L (.ref id :: S) g σ Q := by
  intro p l e R s m args below meth c H locs cells slots Q2 dC dI cy ρ A ls hC hRO hK hA hc hs hw hl hP hD hS ret
  obtain ⟨C, T, N, hq, hkn, hfi, hfd, hlk⟩ := hf
  have hcl := zcls ci C T N hq
  have he := zW_ob (ρ := ρ) (cy := cy) (σ := σ) ho
  have hv : (zF ρ ci (g.2.2 id) (σ id))[k]? = some (.null) := by
    rw [zF_get (by rw [hcl.2.2.2.1]; exact hkn), hk]
    show some (va_rf ((zdr (σ id k)).map ρ)) = _
    rw [hx]
    rfl
  rcases hlk with hlk | ⟨host, hlk⟩
  · exact va_get hC.1 hC.2.1 hC.2.2.2.2.2.1 hcl.1 hC.2.2.2.2.2.2.1 hK hP id he hq k hkn (hC.2.2.2.2.2.1 _ hlk) (fun _ h => h) hv hd (kk p l e R s m args below meth c H locs cells slots Q2 dC dI cy ρ A ls hC hRO hK hA hc hs hw hl hP hD hS ret)
  · exact va_getN hC.1 hC.2.1 hC.2.2.2.2.2.1 hcl.1 hC.2.2.2.2.2.2.1 hK hP id he hq k hkn (va_Nw.use rfl (hRO.1 _ hlk)) (fun _ h => h) hv hd (kk p l e R s m args below meth c H locs cells slots Q2 dC dI cy ρ A ls hC hRO hK hA hc hs hw hl hP hD hS ret)
theorem x_putI {Y : zM} {d kc ks pc : Nat} {L S : List Value} {g : zG} {σ : zI} {Q : Option Value → zG → zI → Prop} {idx ci k id : Nat} (hd : decode Y.2.1 pc = .ok (.putfield idx, 3)) (hf : zFld Y.1.cls idx ci k false) (ho : zOb g id ci) (hk : zfk ci k = 0) (hty : zft ci k = .int) {x : Int32} (kk : zX Y d kc ks (pc + 3) L (S) g (zsI σ id k x) Q) : zX Y d kc ks (pc) L (.int x :: .ref id :: S) g σ Q := by
  intro p l e R s m args below meth c H locs cells slots Q2 dC dI cy ρ A ls hC hRO hK hA hc hs hw hl hP hD hS ret
  obtain ⟨C, T, N, hq, hkn, hfi, hfd, hlk⟩ := hf
  have hcl := zcls ci C T N hq
  have he := zW_ob (ρ := ρ) (cy := cy) (σ := σ) ho
  have hkF : k < zNF ci := by rw [hcl.2.2.2.1]; exact hkn
  have hw1 : zWf g (zsI σ id k x) := zWf_I hw (fun _ => by rw [ho.2]; show ¬ zfk ci k = 2; rw [hk]; decide)
  have hnf : narrow (zft ci k) (.int x) = .int x ∧ fits (zft ci k) (.int x) = true := by rw [hty]; exact ⟨rfl, rfl⟩
  rcases hlk with hlk | ⟨host, hlk⟩
  · refine va_put hC.1 hC.2.1 hC.2.2.2.2.2.1 hcl.1 (zft ci) hcl.2.1 hcl.2.2.1 hC.2.2.2.2.2.2.1 hK hP hD hS id he hq k hkn (hC.2.2.2.2.2.1 _ hlk) (fun _ h => h) hfi (hcl.2.1 k hkn) hnf.1 hnf.2 (by rw [zF_len]; exact hkF) hd (fun H1 locs1 hP1 hD1 hS1 => ?_)
    have hEQ : List.set (zW ρ cy g σ) id (ρ id, .inr (ci, (zF ρ ci (g.2.2 id) (σ id)).set k (.int x))) = zW ρ cy g (zsI σ id k x) := zW_putI (x := x) ho hkF (by rw [hk]; rfl)
    have hP1 : va_P (dC, dI) vwCl (zW ρ cy g (zsI σ id k x)) H1 := by rw [← hEQ]; exact hP1
    have hD1 : va_D A (zW ρ cy g (zsI σ id k x)) := by rw [← hEQ]; exact hD1
    exact (kk p l e R s m args below meth c H1 locs1 cells slots Q2 dC dI cy ρ A ls hC (zRO_I ho.1 hw hRO) hK hA hc hs hw1 hl hP1 hD1 hS1 (zRT_st ret (zExt_I ho.1 hw) (fun q => q)))
  · refine va_putN hC.1 hC.2.1 hC.2.2.2.2.2.1 hcl.1 (zft ci) hcl.2.1 hcl.2.2.1 hC.2.2.2.2.2.2.1 hK hP hD hS id he hq k hkn (va_Nw.use rfl (hRO.1 _ hlk)) (fun _ h => h) hfi (hcl.2.1 k hkn) hnf.1 hnf.2 (by rw [zF_len]; exact hkF) hd (fun H1 locs1 hP1 hD1 hS1 => ?_)
    have hEQ : List.set (zW ρ cy g σ) id (ρ id, .inr (ci, (zF ρ ci (g.2.2 id) (σ id)).set k (.int x))) = zW ρ cy g (zsI σ id k x) := zW_putI (x := x) ho hkF (by rw [hk]; rfl)
    have hP1 : va_P (dC, dI) vwCl (zW ρ cy g (zsI σ id k x)) H1 := by rw [← hEQ]; exact hP1
    have hD1 : va_D A (zW ρ cy g (zsI σ id k x)) := by rw [← hEQ]; exact hD1
    exact (kk p l e R s m args below meth c H1 locs1 cells slots Q2 dC dI cy ρ A ls hC (zRO_I ho.1 hw hRO) hK hA hc hs hw1 hl hP1 hD1 hS1 (zRT_st ret (zExt_I ho.1 hw) (fun q => q)))
theorem x_putZ {Y : zM} {d kc ks pc : Nat} {L S : List Value} {g : zG} {σ : zI} {Q : Option Value → zG → zI → Prop} {idx ci k id : Nat} (hd : decode Y.2.1 pc = .ok (.putfield idx, 3)) (hf : zFld Y.1.cls idx ci k false) (ho : zOb g id ci) (hk : zfk ci k = 0) (hty : zft ci k = .boolean) {x : Int32} (hz : x = 0 ∨ x = 1) (kk : zX Y d kc ks (pc + 3) L (S) g (zsI σ id k x) Q) : zX Y d kc ks (pc) L (.int x :: .ref id :: S) g σ Q := by
  intro p l e R s m args below meth c H locs cells slots Q2 dC dI cy ρ A ls hC hRO hK hA hc hs hw hl hP hD hS ret
  obtain ⟨C, T, N, hq, hkn, hfi, hfd, hlk⟩ := hf
  have hcl := zcls ci C T N hq
  have he := zW_ob (ρ := ρ) (cy := cy) (σ := σ) ho
  have hkF : k < zNF ci := by rw [hcl.2.2.2.1]; exact hkn
  have hw1 : zWf g (zsI σ id k x) := zWf_I hw (fun _ => by rw [ho.2]; show ¬ zfk ci k = 2; rw [hk]; decide)
  have hnf : narrow (zft ci k) (.int x) = .int x ∧ fits (zft ci k) (.int x) = true := by rw [hty]; rcases hz with rfl | rfl <;> exact ⟨rfl, rfl⟩
  rcases hlk with hlk | ⟨host, hlk⟩
  · refine va_put hC.1 hC.2.1 hC.2.2.2.2.2.1 hcl.1 (zft ci) hcl.2.1 hcl.2.2.1 hC.2.2.2.2.2.2.1 hK hP hD hS id he hq k hkn (hC.2.2.2.2.2.1 _ hlk) (fun _ h => h) hfi (hcl.2.1 k hkn) hnf.1 hnf.2 (by rw [zF_len]; exact hkF) hd (fun H1 locs1 hP1 hD1 hS1 => ?_)
    have hEQ : List.set (zW ρ cy g σ) id (ρ id, .inr (ci, (zF ρ ci (g.2.2 id) (σ id)).set k (.int x))) = zW ρ cy g (zsI σ id k x) := zW_putI (x := x) ho hkF (by rw [hk]; rfl)
    have hP1 : va_P (dC, dI) vwCl (zW ρ cy g (zsI σ id k x)) H1 := by rw [← hEQ]; exact hP1
    have hD1 : va_D A (zW ρ cy g (zsI σ id k x)) := by rw [← hEQ]; exact hD1
    exact (kk p l e R s m args below meth c H1 locs1 cells slots Q2 dC dI cy ρ A ls hC (zRO_I ho.1 hw hRO) hK hA hc hs hw1 hl hP1 hD1 hS1 (zRT_st ret (zExt_I ho.1 hw) (fun q => q)))
  · refine va_putN hC.1 hC.2.1 hC.2.2.2.2.2.1 hcl.1 (zft ci) hcl.2.1 hcl.2.2.1 hC.2.2.2.2.2.2.1 hK hP hD hS id he hq k hkn (va_Nw.use rfl (hRO.1 _ hlk)) (fun _ h => h) hfi (hcl.2.1 k hkn) hnf.1 hnf.2 (by rw [zF_len]; exact hkF) hd (fun H1 locs1 hP1 hD1 hS1 => ?_)
    have hEQ : List.set (zW ρ cy g σ) id (ρ id, .inr (ci, (zF ρ ci (g.2.2 id) (σ id)).set k (.int x))) = zW ρ cy g (zsI σ id k x) := zW_putI (x := x) ho hkF (by rw [hk]; rfl)
    have hP1 : va_P (dC, dI) vwCl (zW ρ cy g (zsI σ id k x)) H1 := by rw [← hEQ]; exact hP1
    have hD1 : va_D A (zW ρ cy g (zsI σ id k x)) := by rw [← hEQ]; exact hD1
    exact (kk p l e R s m args below meth c H1 locs1 cells slots Q2 dC dI cy ρ A ls hC (zRO_I ho.1 hw hRO) hK hA hc hs hw1 hl hP1 hD1 hS1 (zRT_st ret (zExt_I ho.1 hw) (fun q => q)))
theorem x_putD {Y : zM} {d kc ks pc : Nat} {L S : List Value} {g : zG} {σ : zI} {Q : Option Value → zG → zI → Prop} {idx ci k id : Nat} (hd : decode Y.2.1 pc = .ok (.putfield idx, 3)) (hf : zFld Y.1.cls idx ci k false) (ho : zOb g id ci) (hk : zfk ci k = 2) {r : Nat} (hr : r < g.1) (kk : zX Y d kc ks (pc + 3) L (S) g (zsI σ id k (nI (r + 1))) Q) : zX Y d kc ks (pc) L (.ref r :: .ref id :: S) g σ Q := by
  intro p l e R s m args below meth c H locs cells slots Q2 dC dI cy ρ A ls hC hRO hK hA hc hs hw hl hP hD hS ret
  obtain ⟨C, T, N, hq, hkn, hfi, hfd, hlk⟩ := hf
  have hcl := zcls ci C T N hq
  have he := zW_ob (ρ := ρ) (cy := cy) (σ := σ) ho
  have hkF : k < zNF ci := by rw [hcl.2.2.2.1]; exact hkn
  have hr0 : r < 1000 := Nat.lt_of_lt_of_le hr hw.2.2
  have hw1 : zWf g (zsI σ id k (nI (r + 1))) := by
    refine ⟨hw.1, fun a j y ha h1 h2 h3 => ?_, hw.2.2⟩
    by_cases e : a = id ∧ j = k
    · obtain ⟨e1, e2⟩ := e
      subst e1; subst e2
      rw [zsI_same, zdr_1 hr0] at h3
      cases h3
      exact hr
    · rw [zsI_nk (by by_cases q : a = id; exact Or.inr (fun z => e ⟨q, z⟩); exact Or.inl q)] at h3
      exact hw.2.1 a j y ha h1 h2 h3
  have hnf : narrow (zft ci k) (.ref (ρ r)) = .ref (ρ r) ∧ fits (zft ci k) (.ref (ρ r)) = true := zft_ref (by rcases hcl.2.2.2.2.2.2 k hkn with h | h; rw [hk] at h; cases h; exact h) (Or.inr ⟨_, rfl⟩)
  rcases hlk with hlk | ⟨host, hlk⟩
  · refine va_put hC.1 hC.2.1 hC.2.2.2.2.2.1 hcl.1 (zft ci) hcl.2.1 hcl.2.2.1 hC.2.2.2.2.2.2.1 hK hP hD hS id he hq k hkn (hC.2.2.2.2.2.1 _ hlk) (fun _ h => h) hfi (hcl.2.1 k hkn) hnf.1 hnf.2 (by rw [zF_len]; exact hkF) hd (fun H1 locs1 hP1 hD1 hS1 => ?_)
    have hEQ : List.set (zW ρ cy g σ) id (ρ id, .inr (ci, (zF ρ ci (g.2.2 id) (σ id)).set k (.ref (ρ r)))) = zW ρ cy g (zsI σ id k (nI (r + 1))) := zW_putI (x := nI (r + 1)) (v := .ref (ρ r)) ho hkF (by rw [hk]; show _ = va_rf ((zdr (nI (r + 1))).map ρ); rw [zdr_1 hr0]; rfl)
    have hP1 : va_P (dC, dI) vwCl (zW ρ cy g (zsI σ id k (nI (r + 1)))) H1 := by rw [← hEQ]; exact hP1
    have hD1 : va_D A (zW ρ cy g (zsI σ id k (nI (r + 1)))) := by rw [← hEQ]; exact hD1
    exact (kk p l e R s m args below meth c H1 locs1 cells slots Q2 dC dI cy ρ A ls hC (zRO_I ho.1 hw hRO) hK hA hc hs hw1 hl hP1 hD1 hS1 (zRT_st ret (zExt_I ho.1 hw) (fun q => q)))
  · refine va_putN hC.1 hC.2.1 hC.2.2.2.2.2.1 hcl.1 (zft ci) hcl.2.1 hcl.2.2.1 hC.2.2.2.2.2.2.1 hK hP hD hS id he hq k hkn (va_Nw.use rfl (hRO.1 _ hlk)) (fun _ h => h) hfi (hcl.2.1 k hkn) hnf.1 hnf.2 (by rw [zF_len]; exact hkF) hd (fun H1 locs1 hP1 hD1 hS1 => ?_)
    have hEQ : List.set (zW ρ cy g σ) id (ρ id, .inr (ci, (zF ρ ci (g.2.2 id) (σ id)).set k (.ref (ρ r)))) = zW ρ cy g (zsI σ id k (nI (r + 1))) := zW_putI (x := nI (r + 1)) (v := .ref (ρ r)) ho hkF (by rw [hk]; show _ = va_rf ((zdr (nI (r + 1))).map ρ); rw [zdr_1 hr0]; rfl)
    have hP1 : va_P (dC, dI) vwCl (zW ρ cy g (zsI σ id k (nI (r + 1)))) H1 := by rw [← hEQ]; exact hP1
    have hD1 : va_D A (zW ρ cy g (zsI σ id k (nI (r + 1)))) := by rw [← hEQ]; exact hD1
    exact (kk p l e R s m args below meth c H1 locs1 cells slots Q2 dC dI cy ρ A ls hC (zRO_I ho.1 hw hRO) hK hA hc hs hw1 hl hP1 hD1 hS1 (zRT_st ret (zExt_I ho.1 hw) (fun q => q)))
theorem x_putR {Y : zM} {d kc ks pc : Nat} {L S : List Value} {g : zG} {σ : zI} {Q : Option Value → zG → zI → Prop} {idx ci k id : Nat} (hd : decode Y.2.1 pc = .ok (.putfield idx, 3)) (hf : zFld Y.1.cls idx ci k false) (ho : zOb g id ci) (hk : zfk ci k = 1) {r : Nat} (hr : r < g.1) (kk : zX Y d kc ks (pc + 3) L (S) (zsR g id k (some r)) σ Q) : zX Y d kc ks (pc) L (.ref r :: .ref id :: S) g σ Q := by
  intro p l e R s m args below meth c H locs cells slots Q2 dC dI cy ρ A ls hC hRO hK hA hc hs hw hl hP hD hS ret
  obtain ⟨C, T, N, hq, hkn, hfi, hfd, hlk⟩ := hf
  have hcl := zcls ci C T N hq
  have he := zW_ob (ρ := ρ) (cy := cy) (σ := σ) ho
  have hkF : k < zNF ci := by rw [hcl.2.2.2.1]; exact hkn
  have hw1 : zWf (zsR g id k (some r)) σ := zWf_R hw (fun y hy => by cases hy; exact hr)
  have hnf : narrow (zft ci k) (.ref (ρ r)) = .ref (ρ r) ∧ fits (zft ci k) (.ref (ρ r)) = true := zft_ref (by rcases hcl.2.2.2.2.2.2 k hkn with h | h; rw [hk] at h; cases h; exact h) (Or.inr ⟨_, rfl⟩)
  rcases hlk with hlk | ⟨host, hlk⟩
  · refine va_put hC.1 hC.2.1 hC.2.2.2.2.2.1 hcl.1 (zft ci) hcl.2.1 hcl.2.2.1 hC.2.2.2.2.2.2.1 hK hP hD hS id he hq k hkn (hC.2.2.2.2.2.1 _ hlk) (fun _ h => h) hfi (hcl.2.1 k hkn) hnf.1 hnf.2 (by rw [zF_len]; exact hkF) hd (fun H1 locs1 hP1 hD1 hS1 => ?_)
    have hEQ : List.set (zW ρ cy g σ) id (ρ id, .inr (ci, (zF ρ ci (g.2.2 id) (σ id)).set k (.ref (ρ r)))) = zW ρ cy (zsR g id k (some r)) σ := zW_putR (x := some r) ho hkF hk
    have hP1 : va_P (dC, dI) vwCl (zW ρ cy (zsR g id k (some r)) σ) H1 := by rw [← hEQ]; exact hP1
    have hD1 : va_D A (zW ρ cy (zsR g id k (some r)) σ) := by rw [← hEQ]; exact hD1
    exact (kk p l e R s m args below meth c H1 locs1 cells slots Q2 dC dI cy ρ A ls hC (zRO_R hRO) hK hA hc hs hw1 hl hP1 hD1 hS1 (zRT_st ret zExt_R (fun q => q)))
  · refine va_putN hC.1 hC.2.1 hC.2.2.2.2.2.1 hcl.1 (zft ci) hcl.2.1 hcl.2.2.1 hC.2.2.2.2.2.2.1 hK hP hD hS id he hq k hkn (va_Nw.use rfl (hRO.1 _ hlk)) (fun _ h => h) hfi (hcl.2.1 k hkn) hnf.1 hnf.2 (by rw [zF_len]; exact hkF) hd (fun H1 locs1 hP1 hD1 hS1 => ?_)
    have hEQ : List.set (zW ρ cy g σ) id (ρ id, .inr (ci, (zF ρ ci (g.2.2 id) (σ id)).set k (.ref (ρ r)))) = zW ρ cy (zsR g id k (some r)) σ := zW_putR (x := some r) ho hkF hk
    have hP1 : va_P (dC, dI) vwCl (zW ρ cy (zsR g id k (some r)) σ) H1 := by rw [← hEQ]; exact hP1
    have hD1 : va_D A (zW ρ cy (zsR g id k (some r)) σ) := by rw [← hEQ]; exact hD1
    exact (kk p l e R s m args below meth c H1 locs1 cells slots Q2 dC dI cy ρ A ls hC (zRO_R hRO) hK hA hc hs hw1 hl hP1 hD1 hS1 (zRT_st ret zExt_R (fun q => q)))
theorem x_putF {Y : zM} {d kc ks pc : Nat} {L S : List Value} {g : zG} {σ : zI} {Q : Option Value → zG → zI → Prop} {idx ci k id : Nat} (hd : decode Y.2.1 pc = .ok (.putfield idx, 3)) (hf : zFld Y.1.cls idx ci k true) (hini : Y.1.name = "<init>") (hnn : ∀ (host : String) (a b c : String), ¬ Cond.fieldLinkNest Y.1.cls idx a b c host ∈ zN) (ho : zOb g id ci) (hk : zfk ci k = 1) {r : Nat} (hr : r < g.1) (kk : zX Y d kc ks (pc + 3) L (S) (zsR g id k (some r)) σ Q) : zX Y d kc ks (pc) L (.ref r :: .ref id :: S) g σ Q := by
  intro p l e R s m args below meth c H locs cells slots Q2 dC dI cy ρ A ls hC hRO hK hA hc hs hw hl hP hD hS ret
  obtain ⟨C, T, N, hq, hkn, hfi, hfd, hlk⟩ := hf
  have hcl := zcls ci C T N hq
  have he := zW_ob (ρ := ρ) (cy := cy) (σ := σ) ho
  have hkF : k < zNF ci := by rw [hcl.2.2.2.1]; exact hkn
  have hw1 : zWf (zsR g id k (some r)) σ := zWf_R hw (fun y hy => by cases hy; exact hr)
  have hnf : narrow (zft ci k) (.ref (ρ r)) = .ref (ρ r) ∧ fits (zft ci k) (.ref (ρ r)) = true := zft_ref (by rcases hcl.2.2.2.2.2.2 k hkn with h | h; rw [hk] at h; cases h; exact h) (Or.inr ⟨_, rfl⟩)
  rcases hlk with hlk | ⟨host, hlk⟩
  · refine va_putF hC.1 hC.2.1 hC.2.2.2.2.2.1 hcl.1 (zft ci) hcl.2.1 hcl.2.2.1 hC.2.2.2.2.2.2.1 hK hP hD hS id he hq k hkn (hC.2.2.2.2.2.1 _ hlk) (fun _ h => h) hfi (hC.2.2.2.2.2.2.2.1.trans hini) (hfd rfl) (hcl.2.1 k hkn) hnf.1 hnf.2 (by rw [zF_len]; exact hkF) hd (fun H1 locs1 hP1 hD1 hS1 => ?_)
    have hEQ : List.set (zW ρ cy g σ) id (ρ id, .inr (ci, (zF ρ ci (g.2.2 id) (σ id)).set k (.ref (ρ r)))) = zW ρ cy (zsR g id k (some r)) σ := zW_putR (x := some r) ho hkF hk
    have hP1 : va_P (dC, dI) vwCl (zW ρ cy (zsR g id k (some r)) σ) H1 := by rw [← hEQ]; exact hP1
    have hD1 : va_D A (zW ρ cy (zsR g id k (some r)) σ) := by rw [← hEQ]; exact hD1
    exact (kk p l e R s m args below meth c H1 locs1 cells slots Q2 dC dI cy ρ A ls hC (zRO_R hRO) hK hA hc hs hw1 hl hP1 hD1 hS1 (zRT_st ret zExt_R (fun q => q)))
  · exact absurd hlk (hnn host _ _ _)
theorem x_iald {Y : zM} {d kc ks pc : Nat} {L S : List Value} {g : zG} {σ : zI} {Q : Option Value → zG → zI → Prop} {id n : Nat} {i : Int32} (hd : decode Y.2.1 pc = .ok (.iaload, 1)) (ha : zAr g id 1 n) (hi : vp_in i n) (kk : zX Y d kc ks (pc + 1) L (.int (σ id i.toNatClampNeg) :: S) g σ Q) : zX Y d kc ks (pc) L (.int i :: .ref id :: S) g σ Q := by
  intro p l e R s m args below meth c H locs cells slots Q2 dC dI cy ρ A ls hC hRO hK hA hc hs hw hl hP hD hS ret
  exact va_iald hC.1 hC.2.1 hK hP id 0 (zW_ar1 ha) rfl hi hd (kk p l e R s m args below meth c H locs cells slots Q2 dC dI cy ρ A ls hC hRO hK hA hc hs hw hl hP hD hS ret)
theorem x_zald {Y : zM} {d kc ks pc : Nat} {L S : List Value} {g : zG} {σ : zI} {Q : Option Value → zG → zI → Prop} {id n : Nat} {i : Int32} (hd : decode Y.2.1 pc = .ok (.baload, 1)) (ha : zAr g id 2 n) (hi : vp_in i n) (kk : zX Y d kc ks (pc + 1) L (.int (σ id i.toNatClampNeg) :: S) g σ Q) : zX Y d kc ks (pc) L (.int i :: .ref id :: S) g σ Q := by
  intro p l e R s m args below meth c H locs cells slots Q2 dC dI cy ρ A ls hC hRO hK hA hc hs hw hl hP hD hS ret
  exact va_zald hC.1 hC.2.1 hK hP id 1 (zW_ar2 ha) rfl hi hd (kk p l e R s m args below meth c H locs cells slots Q2 dC dI cy ρ A ls hC hRO hK hA hc hs hw hl hP hD hS ret)
theorem zTy_q {cy : Nat → ClassId} : ∀ t, t < 3 → ∃ ty : FieldType, (zTy cy)[t + 2]? = some (cy (t + 2), ty) ∧ ty.isReference = true
  | 0, _ => ⟨_, rfl, rfl⟩
  | 1, _ => ⟨_, rfl, rfl⟩
  | 2, _ => ⟨_, rfl, rfl⟩
  | t + 3, h => by omega
theorem x_aald {Y : zM} {d kc ks pc : Nat} {L S : List Value} {g : zG} {σ : zI} {Q : Option Value → zG → zI → Prop} {id t n : Nat} {i : Int32} (hd : decode Y.2.1 pc = .ok (.aaload, 1)) (ha : zAr g id (t + 3) n) (htt : t < 3) (hi : vp_in i n) {x : Nat} (hx : g.2.2 id i.toNatClampNeg = some x) (kk : zX Y d kc ks (pc + 1) L (.ref x :: S) g σ Q) : zX Y d kc ks (pc) L (.int i :: .ref id :: S) g σ Q := by
  intro p l e R s m args below meth c H locs cells slots Q2 dC dI cy ρ A ls hC hRO hK hA hc hs hw hl hP hD hS ret
  obtain ⟨ty, ht, hty⟩ := zTy_q (cy := cy) t htt
  have hlt : i.toNatClampNeg < n := Nat.not_le.mp fun q => hi (Or.inr q)
  exact W.aald (v := .ref (ρ x)) (ty := ty) hC.1 hC.2.1 (hP id _ (zW_arq ha)) ((hK.2 (t + 2) _ ht).1 n (fun j => va_rf ((g.2.2 id j).map ρ))) hty (fun q => by cases q) (by show ¬ (i < 0 ∨ (arrV _ _ _).slots.size ≤ _); rw [arrV_size]; exact hi) (by show (arrV _ _ _).slots[_]? = _; rw [arrV_read _ _ hlt]; show some (va_rf ((g.2.2 id i.toNatClampNeg).map ρ)) = _; rw [hx]; rfl) rfl rfl hd (kk p l e R s m args below meth c H locs cells slots Q2 dC dI cy ρ A ls hC hRO hK hA hc hs hw hl hP hD hS ret)
theorem x_aaldN {Y : zM} {d kc ks pc : Nat} {L S : List Value} {g : zG} {σ : zI} {Q : Option Value → zG → zI → Prop} {id t n : Nat} {i : Int32} (hd : decode Y.2.1 pc = .ok (.aaload, 1)) (ha : zAr g id (t + 3) n) (htt : t < 3) (hi : vp_in i n) (hx : g.2.2 id i.toNatClampNeg = none) (kk : zX Y d kc ks (pc + 1) L (.null :: S) g σ Q) : zX Y d kc ks (pc) L (.int i :: .ref id :: S) g σ Q := by
  intro p l e R s m args below meth c H locs cells slots Q2 dC dI cy ρ A ls hC hRO hK hA hc hs hw hl hP hD hS ret
  obtain ⟨ty, ht, hty⟩ := zTy_q (cy := cy) t htt
  have hlt : i.toNatClampNeg < n := Nat.not_le.mp fun q => hi (Or.inr q)
  exact W.aald (v := .null) (ty := ty) hC.1 hC.2.1 (hP id _ (zW_arq ha)) ((hK.2 (t + 2) _ ht).1 n (fun j => va_rf ((g.2.2 id j).map ρ))) hty (fun q => by cases q) (by show ¬ (i < 0 ∨ (arrV _ _ _).slots.size ≤ _); rw [arrV_size]; exact hi) (by show (arrV _ _ _).slots[_]? = _; rw [arrV_read _ _ hlt]; show some (va_rf ((g.2.2 id i.toNatClampNeg).map ρ)) = _; rw [hx]; rfl) rfl rfl hd (kk p l e R s m args below meth c H locs cells slots Q2 dC dI cy ρ A ls hC hRO hK hA hc hs hw hl hP hD hS ret)
theorem x_iast {Y : zM} {d kc ks pc : Nat} {L S : List Value} {g : zG} {σ : zI} {Q : Option Value → zG → zI → Prop} {id n : Nat} {i x : Int32} (hd : decode Y.2.1 pc = .ok (.iastore, 1)) (ha : zAr g id 1 n) (hi : vp_in i n) (kk : zX Y d kc ks (pc + 1) L (S) g (zsI σ id i.toNatClampNeg x) Q) : zX Y d kc ks (pc) L (.int x :: .int i :: .ref id :: S) g σ Q := by
  intro p l e R s m args below meth c H locs cells slots Q2 dC dI cy ρ A ls hC hRO hK hA hc hs hw hl hP hD hS ret
  have hw1 : zWf g (zsI σ id i.toNatClampNeg x) := zWf_I hw (fun h0 => by rw [ha.2] at h0; cases h0)
  refine va_iast hC.1 hC.2.1 hK hP hD hS id 0 (zW_ar1 ha) rfl hi hd (fun H1 locs1 hP1 hD1 hS1 => ?_)
  rw [zW_set (g' := g) (σ' := zsI σ id i.toNatClampNeg x) ha.1 rfl (by rw [ha.2, zsI_row]; rfl) (fun j hj => by rw [zsI_ne hj])] at hP1 hD1
  exact (kk p l e R s m args below meth c H1 locs1 cells slots Q2 dC dI cy ρ A ls hC (zRO_I ha.1 hw hRO) hK hA hc hs hw1 hl hP1 hD1 hS1 (zRT_st ret (zExt_I ha.1 hw) (fun q => q)))
theorem x_zast {Y : zM} {d kc ks pc : Nat} {L S : List Value} {g : zG} {σ : zI} {Q : Option Value → zG → zI → Prop} {id n : Nat} {i x : Int32} (hd : decode Y.2.1 pc = .ok (.bastore, 1)) (ha : zAr g id 2 n) (hi : vp_in i n) (hz : x = 0 ∨ x = 1) (kk : zX Y d kc ks (pc + 1) L (S) g (zsI σ id i.toNatClampNeg x) Q) : zX Y d kc ks (pc) L (.int x :: .int i :: .ref id :: S) g σ Q := by
  intro p l e R s m args below meth c H locs cells slots Q2 dC dI cy ρ A ls hC hRO hK hA hc hs hw hl hP hD hS ret
  have hw1 : zWf g (zsI σ id i.toNatClampNeg x) := zWf_I hw (fun h0 => by rw [ha.2] at h0; cases h0)
  have hnz : vp_nar .boolean x = x := by rcases hz with rfl | rfl <;> rfl
  refine va_zast hC.1 hC.2.1 hK hP hD hS id 1 (zW_ar2 ha) rfl hi hd (fun H1 locs1 hP1 hD1 hS1 => ?_)
  rw [hnz, zW_set (g' := g) (σ' := zsI σ id i.toNatClampNeg x) ha.1 rfl (by rw [ha.2, zsI_row]; rfl) (fun j hj => by rw [zsI_ne hj])] at hP1 hD1
  exact (kk p l e R s m args below meth c H1 locs1 cells slots Q2 dC dI cy ρ A ls hC (zRO_I ha.1 hw hRO) hK hA hc hs hw1 hl hP1 hD1 hS1 (zRT_st ret (zExt_I ha.1 hw) (fun q => q)))
theorem x_alen1 {Y : zM} {d kc ks pc : Nat} {L S : List Value} {g : zG} {σ : zI} {Q : Option Value → zG → zI → Prop} {id n : Nat} (hd : decode Y.2.1 pc = .ok (.arraylength, 1)) (ha : zAr g id 1 n) (kk : zX Y d kc ks (pc + 1) L (.int (nI n) :: S) g σ Q) : zX Y d kc ks (pc) L (.ref id :: S) g σ Q := by
  intro p l e R s m args below meth c H locs cells slots Q2 dC dI cy ρ A ls hC hRO hK hA hc hs hw hl hP hD hS ret
  exact va_alen hC.1 hC.2.1 hK hP id 0 (zW_ar1 ha) rfl rfl hd (kk p l e R s m args below meth c H locs cells slots Q2 dC dI cy ρ A ls hC hRO hK hA hc hs hw hl hP hD hS ret)
theorem x_alen2 {Y : zM} {d kc ks pc : Nat} {L S : List Value} {g : zG} {σ : zI} {Q : Option Value → zG → zI → Prop} {id n : Nat} (hd : decode Y.2.1 pc = .ok (.arraylength, 1)) (ha : zAr g id 2 n) (kk : zX Y d kc ks (pc + 1) L (.int (nI n) :: S) g σ Q) : zX Y d kc ks (pc) L (.ref id :: S) g σ Q := by
  intro p l e R s m args below meth c H locs cells slots Q2 dC dI cy ρ A ls hC hRO hK hA hc hs hw hl hP hD hS ret
  exact va_alen hC.1 hC.2.1 hK hP id 1 (zW_ar2 ha) rfl rfl hd (kk p l e R s m args below meth c H locs cells slots Q2 dC dI cy ρ A ls hC hRO hK hA hc hs hw hl hP hD hS ret)
theorem x_alenq {Y : zM} {d kc ks pc : Nat} {L S : List Value} {g : zG} {σ : zI} {Q : Option Value → zG → zI → Prop} {id t n : Nat} (hd : decode Y.2.1 pc = .ok (.arraylength, 1)) (ha : zAr g id (t + 3) n) (htt : t < 3) (kk : zX Y d kc ks (pc + 1) L (.int (nI n) :: S) g σ Q) : zX Y d kc ks (pc) L (.ref id :: S) g σ Q := by
  intro p l e R s m args below meth c H locs cells slots Q2 dC dI cy ρ A ls hC hRO hK hA hc hs hw hl hP hD hS ret
  obtain ⟨ty, ht, hty⟩ := zTy_q (cy := cy) t htt
  exact va_alen hC.1 hC.2.1 hK hP id (t + 2) (zW_arq ha) ht rfl hd (kk p l e R s m args below meth c H locs cells slots Q2 dC dI cy ρ A ls hC hRO hK hA hc hs hw hl hP hD hS ret)
theorem x_ret {Y : zM} {d kc ks pc : Nat} {L S : List Value} {g : zG} {σ : zI} {Q : Option Value → zG → zI → Prop} {r : Option Value} (hr : zRI Y pc r) (hq : Q r g σ) : zX Y d kc ks (pc) L (r.toList) g σ Q := by
  intro p l e R s m args below meth c H locs cells slots Q2 dC dI cy ρ A ls hC hRO hK hA hc hs hw hl hP hD hS ret
  exact ret r g σ ρ H locs cells slots pc ls hq (by omega) (by omega) hw (zExt_rf kc g σ ρ) hP hD hS hr
theorem x_iret {Y : zM} {d kc ks pc : Nat} {L S : List Value} {g : zG} {σ : zI} {Q : Option Value → zG → zI → Prop} {v : Int32} {ty : FieldType} (hd : decode Y.2.1 pc = .ok (.ireturn, 1)) (ht : Y.2.2.2.1 = some ty) (hn : narrow ty (.int v) = .int v) (hq : Q (some (.int v)) g σ) : zX Y d kc ks (pc) L ([.int v]) g σ Q := by
  intro p l e R s m args below meth c H locs cells slots Q2 dC dI cy ρ A ls hC hRO hK hA hc hs hw hl hP hD hS ret
  exact ret (some (.int v)) g σ ρ H locs cells slots pc ls hq (by omega) (by omega) hw (zExt_rf kc g σ ρ) hP hD hS (Or.inr (Or.inl ⟨v, ty, rfl, ht, hn, hd⟩))
theorem x_lret {Y : zM} {d kc ks pc : Nat} {L S : List Value} {g : zG} {σ : zI} {Q : Option Value → zG → zI → Prop} {v : Int64} (hd : decode Y.2.1 pc = .ok (.lreturn, 1)) (ht : Y.2.2.2.1 = some .long) (hq : Q (some (.long v)) g σ) : zX Y d kc ks (pc) L ([.long v]) g σ Q := by
  intro p l e R s m args below meth c H locs cells slots Q2 dC dI cy ρ A ls hC hRO hK hA hc hs hw hl hP hD hS ret
  exact ret (some (.long v)) g σ ρ H locs cells slots pc ls hq (by omega) (by omega) hw (zExt_rf kc g σ ρ) hP hD hS (Or.inr (Or.inr (Or.inl ⟨v, rfl, ht, hd⟩)))
theorem x_vret {Y : zM} {d kc ks pc : Nat} {L S : List Value} {g : zG} {σ : zI} {Q : Option Value → zG → zI → Prop} (hd : decode Y.2.1 pc = .ok (.return_, 1)) (ht : Y.2.2.2.1 = none) (hq : Q none g σ) : zX Y d kc ks (pc) L ([]) g σ Q := by
  intro p l e R s m args below meth c H locs cells slots Q2 dC dI cy ρ A ls hC hRO hK hA hc hs hw hl hP hD hS ret
  exact ret none g σ ρ H locs cells slots pc ls hq (by omega) (by omega) hw (zExt_rf kc g σ ρ) hP hD hS (Or.inl ⟨rfl, ht, hd⟩)
theorem x_aret {Y : zM} {d kc ks pc : Nat} {L S : List Value} {g : zG} {σ : zI} {Q : Option Value → zG → zI → Prop} {x : Nat} {rt : FieldType} (hd : decode Y.2.1 pc = .ok (.areturn, 1)) (ht : Y.2.2.2.1 = some rt) (hrt : (∃ n, rt = .object n) ∨ ∃ t, rt = .array t) (hq : Q (some (.ref x)) g σ) : zX Y d kc ks (pc) L ([.ref x]) g σ Q := by
  intro p l e R s m args below meth c H locs cells slots Q2 dC dI cy ρ A ls hC hRO hK hA hc hs hw hl hP hD hS ret
  exact ret (some (.ref x)) g σ ρ H locs cells slots pc ls hq (by omega) (by omega) hw (zExt_rf kc g σ ρ) hP hD hS (Or.inr (Or.inr (Or.inr ⟨.ref x, rt, rfl, Or.inr ⟨x, rfl⟩, ht, hrt, hd⟩)))
theorem x_aretN {Y : zM} {d kc ks pc : Nat} {L S : List Value} {g : zG} {σ : zI} {Q : Option Value → zG → zI → Prop} {rt : FieldType} (hd : decode Y.2.1 pc = .ok (.areturn, 1)) (ht : Y.2.2.2.1 = some rt) (hrt : (∃ n, rt = .object n) ∨ ∃ t, rt = .array t) (hq : Q (some .null) g σ) : zX Y d kc ks (pc) L ([.null]) g σ Q := by
  intro p l e R s m args below meth c H locs cells slots Q2 dC dI cy ρ A ls hC hRO hK hA hc hs hw hl hP hD hS ret
  exact ret (some .null) g σ ρ H locs cells slots pc ls hq (by omega) (by omega) hw (zExt_rf kc g σ ρ) hP hD hS (Or.inr (Or.inr (Or.inr ⟨.null, rt, rfl, Or.inl rfl, ht, hrt, hd⟩)))
end
section

/-- behind a call, whatever its end says -/
theorem z_call {p : Program} {l : Launch} {e : Env} {R : Room} {s : State} {m : MethodId} {args : Array Value} {below : List Frame} {meth : Method} {c : Code} {H : Heap} {locs : List Loc} {cells slots : Nat} {Q : State → Prop} {pc : Nat} {ls : Array Slot} {rest st0 : List Value} {A0 A1 : Nat → Prop} {H0 : Heap} {mc ms : Nat} {free : Addr → Prop} {Qa : State → Outcome → State → Prop} {B : Option Value → State → Prop}
    (hr : va_Run p l e R s m args below meth c H locs cells slots mc ms (F0 m pc ls st0) rest Qa free) (hQ : ∀ st v t, Qa st (.returned v) t → B v t ∧ va_F A1 st t) (hS : va_S A0 H0 H locs) (hA : ∀ q, q < H.size → A1 q → A0 q) (hf : ∀ q, free q → A0 q)
    (kk : ∀ (v : Option Value) (t : State) (H1 : Heap) (locs1 : List Loc), t.heap = H1 → s.vm.Alike t.vm → B v t → va_S A0 H0 H1 locs1 → W p l e R s m args below meth c H1 locs1 (cells + mc) (slots + ms) Q (F0 m (pc + 3) ls (v.toList ++ rest))) : W p l e R s m args below meth c H locs cells slots Q (F0 m pc ls st0) := by
  intro T hT X
  obtain ⟨v, st₀, t, T', L, h0, X', hL, e1, e2, hqa, st⟩ := hr T hT X
  obtain ⟨hb, hz, hk⟩ := hQ _ _ _ hqa
  rw [h0] at hz hk
  obtain ⟨t2, a1, b1⟩ := kk v t T'.heap (locs ++ L) e1.symm (by rw [← e2]; exact X'.warmed.alike) hb
    ⟨Nat.le_trans hS.1 (by rw [e1]; exact hz), fun q h1 h2 => by rw [e1, hk q (Nat.lt_of_lt_of_le h1 hS.1) (fun z => h2 (hA q (Nat.lt_of_lt_of_le h1 hS.1) z))]; exact hS.2.1 q h1 h2, fun q hq => by
      rcases List.mem_append.mp hq with h | h
      · exact hS.2.2 q h
      · exact hf _ (hL q h)⟩ T' rfl X'
  exact ⟨t2, st t2 a1, b1⟩
theorem zT_good {w : Cond} (h : w ∈ zT) : (w.onTables && w.keeps) = true ∨ ∃ ty, w = .arrayClass ty := good_of_word (List.mem_filter.mp h).2
theorem zT_in (i : Nat) {w : Cond} (h : lw_tbl[i]? = some w) (g : goodWord w = true) : w ∈ zT := List.mem_filter.mpr ⟨List.mem_of_getElem? h, g⟩
def zCode (Y : zM) : Cond := .code Y.1 Y.2.1 Y.2.2.1 Y.2.2.2.1
theorem zws_good {Y : zM} (h : zCode Y ∈ zT) : GoodIn zT (zws Y) := fun w hw => by
  rcases List.mem_cons.mp hw with rfl | hw
  · exact ⟨h, zT_good h⟩
  · exact ⟨hw, zT_good hw⟩
/-- what the tables say of a method: its code, its class, how many parameters -/
def zMo (Y : zM) (n : Nat) : Prop := zCode Y ∈ zT ∧ Cond.initialized Y.1.cls ∈ zT ∧ (Y.1.cls ≠ "java/lang/invoke/MethodHandle" ∧ Y.1.cls ≠ "java/lang/invoke/VarHandle" ∧ (parseMethodDescriptor Y.1.desc).map (fun d => d.parameters.length) = some n) ∧ Y.2.2.1 ≤ 21
def zLk (own : String) (idx : Nat) (y : MethodName) : Prop := Cond.methodLink own idx y ∈ zT ∨ ∃ host, Cond.methodLinkNest own idx y host ∈ zN
def zMv (Y : zM) : Prop := Cond.instanceMethod Y.1 ∈ zT ∧ Cond.selects Y.1.cls Y.1 Y.1 ∈ zT
def zRc (g : zG) (id : Nat) (C : String) : Prop := (∃ (ci : Nat) (q : vw_C), vwCl[ci]? = some q ∧ q.1 = C ∧ zOb g id ci) ∨ (C = "java/lang/String" ∧ ∃ i, i < zNS ∧ id = 1000 + i)
def zokv (n : Nat) : Value → Bool
  | .ref a => decide (a < n ∨ 1000 ≤ a)
  | _ => true
theorem zv_ext {ρ ρ' : Nat → Nat} {n : Nat} (hr : ∀ i, (i < n ∨ 1000 ≤ i) → ρ' i = ρ i) {l : List Value} (h : l.all (zokv n) = true) : l.map (zv ρ') = l.map (zv ρ) := by
  refine List.map_congr_left fun v hv => ?_
  have h1 := List.all_eq_true.mp h v hv
  cases v with
  | ref a => exact congrArg Value.ref (hr a (by simpa [zokv] using h1))
  | _ => rfl
theorem zCx_pre {dC : Nat → ClassId} {dI : Nat → Nat → Nat} {cy : Nat → ClassId} {ρ : Nat → Nat} {g : zG} {σ : zI} {A : Nat → Prop} {H : Heap} {s : State} {locs : List Loc} (hRO : zRO ρ g σ A s s.heap) (hK : va_K (dC, dI) vwCl (zTy cy) s) (hA : ∀ q, s.heap.size ≤ q → A q) (hw : zWf g σ)
    (hP : va_P (dC, dI) vwCl (zW ρ cy g σ) H) (hD : va_D A (zW ρ cy g σ)) (hS : va_S A s.heap H locs) (as : List Value) : FrameBlind (va_Pc as (zPr dC dI cy ρ g σ H.size)) ∧ ∀ U : State, U.heap = H → s.WarmedH U.vm → va_Pc as (zPr dC dI cy ρ g σ H.size) as.toArray U := by
  refine ⟨fun a U g1 mk q => ?_, fun U hU hW => ?_⟩
  · obtain ⟨q0, q1, q2, q3, q4, q5, q6⟩ := q
    exact ⟨q0, q1, q2, q3, va_K.moved (u := U) (U := U.calling g1 mk a) (Vm.Alike.refl U.vm) q4, q5, zRO_same (u := U) (U := U.calling g1 mk a) rfl q6⟩
  · subst hU
    exact ⟨rfl, rfl, hw, hP, va_K.moved hW.alike hK, hD.weaken (fun _ _ _ _ => trivial), zRO_call hW hS (fun q h => by
      rcases h with ⟨k, e, h⟩ | h
      · exact hD.2 k _ h
      · exact hA q (Nat.le_trans hS.1 h)) hRO⟩
theorem zQc_end {dC : Nat → ClassId} {dI : Nat → Nat → Nat} {cy : Nat → ClassId} {ρ : Nat → Nat} {kc : Nat} {g : zG} {σ : zI} {A1 : Nat → Prop} {Q : Option Value → zG → zI → Prop} {a : Array Value} (st : State) (v : Option Value) (t : State) (h : zQc dC dI cy ρ kc g σ A1 Q a st (.returned v) t) :
    (∃ (r : Option Value) (g' : zG) (σ' : zI) (ρ' : Nat → Nat), v = r.map (zv ρ') ∧ Q r g' σ' ∧ zWf g' σ' ∧ zExt kc g σ g' σ' ρ ρ' ∧ va_P (dC, dI) vwCl (zW ρ' cy g' σ') t.heap ∧ va_D A1 (zW ρ' cy g' σ')) ∧ va_F A1 st t := by
  obtain ⟨⟨r, g', σ', ρ', h1, h2⟩, h3⟩ := h
  cases h1
  exact ⟨⟨r, g', σ', ρ', rfl, h2⟩, h3⟩

theorem x_callV {Y : zM} {d kc ks pc : Nat} {L S : List Value} {g : zG} {σ : zI} {Q : Option Value → zG → zI → Prop} {Y2 : zM} {idx n kc2 ks2 : Nat} {as S0 : List Value} {Q1 : Option Value → zG → zI → Prop} {id : Nat} (hmv : zMv Y2) (hrc : zRc g id Y2.1.cls) (hd : decode Y.2.1 pc = .ok (.invokevirtual idx, 3)) (hlk2 : zLk Y.1.cls idx Y2.1) (hmo : zMo Y2 n) (hS0 : S0 = as.reverse ++ .ref id :: S) (hn : as.length = n) (hcat : (S.map fun v => v.category).sum ≤ 8) (hok : Y2.2.2.2.2.1 = 0 ∨ (L ++ S).all (zokv g.1) = true) (hkc : Y2.2.2.2.2.1 + kc2 = kc) (hks : Y2.2.2.2.2.2 + ks2 = ks) (hcx : zCx Y2 d (.ref id :: as) g σ Q1) (kk : ∀ (r : Option Value) (g1 : zG) (σ1 : zI), Q1 r g1 σ1 → zX Y (d + 1) kc2 ks2 (pc + 3) L (r.toList ++ S) g1 σ1 Q) : zX Y (d + 1) kc ks (pc) L (S0) g σ Q := by
  intro p l e R s m args below meth c H locs cells slots Q2 dC dI cy ρ A ls hC hRO hK hA hc hs hw hl hP hD hS ret
  obtain ⟨d', hd', hMM⟩ := hcx
  have hM := hMM l dC dI cy ρ H.size
  obtain ⟨mo1, mo2, mo3, mo4⟩ := hmo
  obtain ⟨hx, hb, hml, hrt, hlk, hts, hown, hmn, hdR, hlR⟩ := hC
  have hdR2 : d + 1 ≤ R.frames := hdR
  have hlR2 : 40 * (d + 1) ≤ R.locals := hlR
  have hpre := zCx_pre hRO hK hA hw hP hD hS ((.ref id :: as).map (zv ρ))
  have hfree : ∀ q, va_A (zW ρ cy g σ) H.size q → A q := fun q h => by
    rcases h with ⟨k, e, h⟩ | h
    · exact hD.2 k _ h
    · exact hA q (Nat.le_trans hS.1 h)
  have hroom : (zroom d' Y2).frames + 1 ≤ R.frames ∧ 8 + (Y2.2.2.1 + 11) + (zroom d' Y2).locals ≤ R.locals := by
    refine ⟨?_, ?_⟩
    · show d' + 1 ≤ _
      omega
    · show 8 + (Y2.2.2.1 + 11) + 40 * d' ≤ _
      omega
  have hcat2 : (((S.map (zv ρ)).map fun v => v.category)).sum ≤ 8 := by
    rw [List.map_map, show ((fun v : Value => v.category) ∘ zv ρ) = fun v => v.category from funext fun v => zv_cat ρ v]
    exact hcat
  have hstk : S0.map (zv ρ) = (as.map (zv ρ)).reverse ++ .ref (ρ id) :: S.map (zv ρ) := by
    subst hS0
    simp [zv]
  have hrun : va_Run p l e R s m args below meth c H locs cells slots Y2.2.2.2.2.1 Y2.2.2.2.2.2 (F0 m pc ls (S0.map (zv ρ))) (S.map (zv ρ)) (zQc dC dI cy ρ Y2.2.2.2.2.1 g σ (va_A (zW ρ cy g σ) H.size) Q1 (((.ref id :: as).map (zv ρ)).toArray)) (va_A (zW ρ cy g σ) H.size) := (by
      rcases hlk2 with hlk2 | ⟨host, hlk2⟩
      · exact va_runV (g := F0 m pc ls (S0.map (zv ρ))) (rest := S.map (zv ρ)) (As := as.map (zv ρ)) ⟨hx, hb, hml, hown, hts⟩ hM (cwV n hts (fun w h => by rcases List.mem_append.mp h with h | h; (simp only [List.mem_cons, List.not_mem_nil, or_false] at h; rcases h with rfl | rfl | rfl | rfl <;> refine ⟨?_, zT_good ?_⟩ <;> first | exact hlk2 | exact hmv.1 | exact hmv.2 | exact mo2); exact zws_good mo1 w h) rfl rfl rfl ⟨rfl, mo3⟩ hroom) ⟨hpre.1, (by
        rcases hrc with ⟨ci, q, hq1, hq2, ho⟩ | ⟨hC2, i, hi, rfl⟩
        · obtain ⟨cell, z1, z2, z3⟩ := va_recv hK hP hq1 (zW_ob ho)
          exact ⟨cell, z1, z2, by rw [← hq2]; exact z3⟩
        · rw [hC2]
          exact vk_recv (adK := fun k => ρ (1000 + k)) (i := i) hRO.2.1 hi hS), hpre.2⟩ rfl (by rw [List.length_map]; exact hn) hl.1 hstk (lv_room hcat2) hd ⟨by omega, by omega⟩
      · exact va_runVN (g := F0 m pc ls (S0.map (zv ρ))) (rest := S.map (zv ρ)) (As := as.map (zv ρ)) ⟨hx, hb, hml, hown, hts⟩ hM ⟨va_cnB n hts (zws_good mo1) rfl rfl rfl (hRO.1 _ hlk2) (hts _ mo2) mo3 hroom, hts _ hmv.1, hts _ hmv.2⟩ ⟨hpre.1, (by
        rcases hrc with ⟨ci, q, hq1, hq2, ho⟩ | ⟨hC2, i, hi, rfl⟩
        · obtain ⟨cell, z1, z2, z3⟩ := va_recv hK hP hq1 (zW_ob ho)
          exact ⟨cell, z1, z2, by rw [← hq2]; exact z3⟩
        · rw [hC2]
          exact vk_recv (adK := fun k => ρ (1000 + k)) (i := i) hRO.2.1 hi hS), hpre.2⟩ rfl (by rw [List.length_map]; exact hn) hl.1 hstk (lv_room hcat2) hd ⟨by omega, by omega⟩)
  refine z_call (A1 := va_A (zW ρ cy g σ) H.size) (H0 := s.heap) (A0 := A) hrun (fun st v t h => zQc_end st v t h) hS (fun q _ h => hfree q h) hfree (fun v t H1 locs1 ht hal hB hS1 => ?_)
  obtain ⟨r, g1, σ1, ρ1, rfl, hq, hw1, hext, hP1, hD1⟩ := hB
  rw [ht] at hP1
  have hst : (r.map (zv ρ1)).toList ++ S.map (zv ρ) = (r.toList ++ S).map (zv ρ1) ∧ L.map (zv ρ) = L.map (zv ρ1) := by
    rcases hok with h0 | h0
    · have e := hext.1 h0
      subst e
      exact ⟨by cases r <;> simp, rfl⟩
    · have h2 := List.all_append.symm.trans h0
      rw [List.all_append, Bool.and_eq_true] at h0
      exact ⟨by rw [List.map_append, zv_ext hext.2.2.1 h0.2]; cases r <;> simp, (zv_ext hext.2.2.1 h0.1).symm⟩
  rw [hst.1]
  have hro1 : zRO ρ1 g1 σ1 A s s.heap := zRO_set hRO (fun i hi => hext.2.2.1 i (Or.inr hi)) hext.2.2.2.1 hext.2.2.2.2
  exact kk r g1 σ1 hq p l e R s m args below meth c H1 locs1 (cells + Y2.2.2.2.2.1) (slots + Y2.2.2.2.2.2) Q2 dC dI cy ρ1 A ls ⟨hx, hb, hml, hrt, hlk, hts, hown, hmn, hdR, hlR⟩ hro1 hK hA (by omega) (by omega) hw1 (by rw [← hst.2]; exact hl) hP1 (hD1.weaken (fun _ _ _ h => hfree _ h)) hS1 (zRT_st ret ⟨fun q => hext.1 (by omega), hext.2⟩ (by omega))
theorem x_callS {Y : zM} {d kc ks pc : Nat} {L S : List Value} {g : zG} {σ : zI} {Q : Option Value → zG → zI → Prop} {Y2 : zM} {idx n kc2 ks2 : Nat} {as S0 : List Value} {Q1 : Option Value → zG → zI → Prop} (hst2 : Cond.static Y2.1 ∈ zT) (hd : decode Y.2.1 pc = .ok (.invokestatic idx, 3)) (hlk2 : zLk Y.1.cls idx Y2.1) (hmo : zMo Y2 n) (hS0 : S0 = as.reverse ++ S) (hn : as.length = n) (hcat : (S.map fun v => v.category).sum ≤ 8) (hok : Y2.2.2.2.2.1 = 0 ∨ (L ++ S).all (zokv g.1) = true) (hkc : Y2.2.2.2.2.1 + kc2 = kc) (hks : Y2.2.2.2.2.2 + ks2 = ks) (hcx : zCx Y2 d (as) g σ Q1) (kk : ∀ (r : Option Value) (g1 : zG) (σ1 : zI), Q1 r g1 σ1 → zX Y (d + 1) kc2 ks2 (pc + 3) L (r.toList ++ S) g1 σ1 Q) : zX Y (d + 1) kc ks (pc) L (S0) g σ Q := by
  intro p l e R s m args below meth c H locs cells slots Q2 dC dI cy ρ A ls hC hRO hK hA hc hs hw hl hP hD hS ret
  obtain ⟨d', hd', hMM⟩ := hcx
  have hM := hMM l dC dI cy ρ H.size
  obtain ⟨mo1, mo2, mo3, mo4⟩ := hmo
  obtain ⟨hx, hb, hml, hrt, hlk, hts, hown, hmn, hdR, hlR⟩ := hC
  have hdR2 : d + 1 ≤ R.frames := hdR
  have hlR2 : 40 * (d + 1) ≤ R.locals := hlR
  have hpre := zCx_pre hRO hK hA hw hP hD hS ((as).map (zv ρ))
  have hfree : ∀ q, va_A (zW ρ cy g σ) H.size q → A q := fun q h => by
    rcases h with ⟨k, e, h⟩ | h
    · exact hD.2 k _ h
    · exact hA q (Nat.le_trans hS.1 h)
  have hroom : (zroom d' Y2).frames + 1 ≤ R.frames ∧ 8 + (Y2.2.2.1 + 11) + (zroom d' Y2).locals ≤ R.locals := by
    refine ⟨?_, ?_⟩
    · show d' + 1 ≤ _
      omega
    · show 8 + (Y2.2.2.1 + 11) + 40 * d' ≤ _
      omega
  have hcat2 : (((S.map (zv ρ)).map fun v => v.category)).sum ≤ 8 := by
    rw [List.map_map, show ((fun v : Value => v.category) ∘ zv ρ) = fun v => v.category from funext fun v => zv_cat ρ v]
    exact hcat
  have hstk : S0.map (zv ρ) = (as.map (zv ρ)).reverse ++ S.map (zv ρ) := by
    subst hS0
    simp [zv]
  have hrun : va_Run p l e R s m args below meth c H locs cells slots Y2.2.2.2.2.1 Y2.2.2.2.2.2 (F0 m pc ls (S0.map (zv ρ))) (S.map (zv ρ)) (zQc dC dI cy ρ Y2.2.2.2.2.1 g σ (va_A (zW ρ cy g σ) H.size) Q1 (((as).map (zv ρ)).toArray)) (va_A (zW ρ cy g σ) H.size) := (by
      rcases hlk2 with hlk2 | ⟨host, hlk2⟩
      · exact va_runS (g := F0 m pc ls (S0.map (zv ρ))) (rest := S.map (zv ρ)) (As := as.map (zv ρ)) ⟨hx, hb, hml, hown, hts⟩ hM (va_cwS n hts (fun w h => by rcases List.mem_append.mp h with h | h; (simp only [List.mem_cons, List.not_mem_nil, or_false] at h; rcases h with rfl | rfl | rfl <;> refine ⟨?_, zT_good ?_⟩ <;> first | exact hlk2 | exact hst2 | exact mo2); exact zws_good mo1 w h) rfl rfl rfl mo3 hroom) ⟨hpre.1, hpre.2⟩ rfl (by rw [List.length_map]; exact hn) hl.1 hstk (lv_room hcat2) hd ⟨by omega, by omega⟩
      · exact va_runSN (g := F0 m pc ls (S0.map (zv ρ))) (rest := S.map (zv ρ)) (As := as.map (zv ρ)) ⟨hx, hb, hml, hown, hts⟩ hM ⟨va_cnB n hts (zws_good mo1) rfl rfl rfl (hRO.1 _ hlk2) (hts _ mo2) mo3 hroom, hts _ hst2, trivial⟩ ⟨hpre.1, hpre.2⟩ rfl (by rw [List.length_map]; exact hn) hl.1 hstk (lv_room hcat2) hd ⟨by omega, by omega⟩)
  refine z_call (A1 := va_A (zW ρ cy g σ) H.size) (H0 := s.heap) (A0 := A) hrun (fun st v t h => zQc_end st v t h) hS (fun q _ h => hfree q h) hfree (fun v t H1 locs1 ht hal hB hS1 => ?_)
  obtain ⟨r, g1, σ1, ρ1, rfl, hq, hw1, hext, hP1, hD1⟩ := hB
  rw [ht] at hP1
  have hst : (r.map (zv ρ1)).toList ++ S.map (zv ρ) = (r.toList ++ S).map (zv ρ1) ∧ L.map (zv ρ) = L.map (zv ρ1) := by
    rcases hok with h0 | h0
    · have e := hext.1 h0
      subst e
      exact ⟨by cases r <;> simp, rfl⟩
    · have h2 := List.all_append.symm.trans h0
      rw [List.all_append, Bool.and_eq_true] at h0
      exact ⟨by rw [List.map_append, zv_ext hext.2.2.1 h0.2]; cases r <;> simp, (zv_ext hext.2.2.1 h0.1).symm⟩
  rw [hst.1]
  have hro1 : zRO ρ1 g1 σ1 A s s.heap := zRO_set hRO (fun i hi => hext.2.2.1 i (Or.inr hi)) hext.2.2.2.1 hext.2.2.2.2
  exact kk r g1 σ1 hq p l e R s m args below meth c H1 locs1 (cells + Y2.2.2.2.2.1) (slots + Y2.2.2.2.2.2) Q2 dC dI cy ρ1 A ls ⟨hx, hb, hml, hrt, hlk, hts, hown, hmn, hdR, hlR⟩ hro1 hK hA (by omega) (by omega) hw1 (by rw [← hst.2]; exact hl) hP1 (hD1.weaken (fun _ _ _ h => hfree _ h)) hS1 (zRT_st ret ⟨fun q => hext.1 (by omega), hext.2⟩ (by omega))
theorem x_callI {Y : zM} {d kc ks pc : Nat} {L S : List Value} {g : zG} {σ : zI} {Q : Option Value → zG → zI → Prop} {Y2 : zM} {idx n kc2 ks2 : Nat} {as S0 : List Value} {Q1 : Option Value → zG → zI → Prop} {id : Nat} (hin2 : Cond.instanceMethod Y2.1 ∈ zT ∧ Y2.1.name = "<init>" ∧ Y2.2.2.2.1 = none) (hd : decode Y.2.1 pc = .ok (.invokespecial idx, 3)) (hlk2 : zLk Y.1.cls idx Y2.1) (hmo : zMo Y2 n) (hS0 : S0 = as.reverse ++ .ref id :: S) (hn : as.length = n) (hcat : (S.map fun v => v.category).sum ≤ 8) (hok : Y2.2.2.2.2.1 = 0 ∨ (L ++ S).all (zokv g.1) = true) (hkc : Y2.2.2.2.2.1 + kc2 = kc) (hks : Y2.2.2.2.2.2 + ks2 = ks) (hcx : zCx Y2 d (.ref id :: as) g σ Q1) (kk : ∀ (r : Option Value) (g1 : zG) (σ1 : zI), Q1 r g1 σ1 → zX Y (d + 1) kc2 ks2 (pc + 3) L (r.toList ++ S) g1 σ1 Q) : zX Y (d + 1) kc ks (pc) L (S0) g σ Q := by
  intro p l e R s m args below meth c H locs cells slots Q2 dC dI cy ρ A ls hC hRO hK hA hc hs hw hl hP hD hS ret
  obtain ⟨d', hd', hMM⟩ := hcx
  have hM := hMM l dC dI cy ρ H.size
  obtain ⟨mo1, mo2, mo3, mo4⟩ := hmo
  obtain ⟨hx, hb, hml, hrt, hlk, hts, hown, hmn, hdR, hlR⟩ := hC
  have hdR2 : d + 1 ≤ R.frames := hdR
  have hlR2 : 40 * (d + 1) ≤ R.locals := hlR
  have hpre := zCx_pre hRO hK hA hw hP hD hS ((.ref id :: as).map (zv ρ))
  have hfree : ∀ q, va_A (zW ρ cy g σ) H.size q → A q := fun q h => by
    rcases h with ⟨k, e, h⟩ | h
    · exact hD.2 k _ h
    · exact hA q (Nat.le_trans hS.1 h)
  have hroom : (zroom d' Y2).frames + 1 ≤ R.frames ∧ 8 + (Y2.2.2.1 + 11) + (zroom d' Y2).locals ≤ R.locals := by
    refine ⟨?_, ?_⟩
    · show d' + 1 ≤ _
      omega
    · show 8 + (Y2.2.2.1 + 11) + 40 * d' ≤ _
      omega
  have hcat2 : (((S.map (zv ρ)).map fun v => v.category)).sum ≤ 8 := by
    rw [List.map_map, show ((fun v : Value => v.category) ∘ zv ρ) = fun v => v.category from funext fun v => zv_cat ρ v]
    exact hcat
  have hstk : S0.map (zv ρ) = (as.map (zv ρ)).reverse ++ .ref (ρ id) :: S.map (zv ρ) := by
    subst hS0
    simp [zv]
  have hrun : va_Run p l e R s m args below meth c H locs cells slots Y2.2.2.2.2.1 Y2.2.2.2.2.2 (F0 m pc ls (S0.map (zv ρ))) (S.map (zv ρ)) (zQc dC dI cy ρ Y2.2.2.2.2.1 g σ (va_A (zW ρ cy g σ) H.size) Q1 (((.ref id :: as).map (zv ρ)).toArray)) (va_A (zW ρ cy g σ) H.size) := (by
      rcases hlk2 with hlk2 | ⟨host, hlk2⟩
      · exact va_runI (g := F0 m pc ls (S0.map (zv ρ))) (rest := S.map (zv ρ)) (As := as.map (zv ρ)) ⟨hx, hb, hml, hown, hts⟩ hM (cwI n hts (zws_good mo1) (by show zCode Y2 :: zT = _; unfold zCode; rw [hin2.2.2]) rfl rfl (hts _ mo2) (hts _ hlk2) (hts _ hin2.1) hin2.2.1 mo3 hroom) ⟨hpre.1, hpre.2⟩ rfl (by rw [List.length_map]; exact hn) hl.1 hstk (lv_room hcat2) hd ⟨by omega, by omega⟩
      · exact va_runIN (g := F0 m pc ls (S0.map (zv ρ))) (rest := S.map (zv ρ)) (As := as.map (zv ρ)) ⟨hx, hb, hml, hown, hts⟩ hM ⟨va_cnB n hts (zws_good mo1) (by show zCode Y2 :: zT = _; unfold zCode; rw [hin2.2.2]) rfl rfl (hRO.1 _ hlk2) (hts _ mo2) mo3 hroom, hin2.2.1, hts _ hin2.1⟩ ⟨hpre.1, hpre.2⟩ rfl (by rw [List.length_map]; exact hn) hl.1 hstk (lv_room hcat2) hd ⟨by omega, by omega⟩)
  refine z_call (A1 := va_A (zW ρ cy g σ) H.size) (H0 := s.heap) (A0 := A) hrun (fun st v t h => zQc_end st v t h) hS (fun q _ h => hfree q h) hfree (fun v t H1 locs1 ht hal hB hS1 => ?_)
  obtain ⟨r, g1, σ1, ρ1, rfl, hq, hw1, hext, hP1, hD1⟩ := hB
  rw [ht] at hP1
  have hst : (r.map (zv ρ1)).toList ++ S.map (zv ρ) = (r.toList ++ S).map (zv ρ1) ∧ L.map (zv ρ) = L.map (zv ρ1) := by
    rcases hok with h0 | h0
    · have e := hext.1 h0
      subst e
      exact ⟨by cases r <;> simp, rfl⟩
    · have h2 := List.all_append.symm.trans h0
      rw [List.all_append, Bool.and_eq_true] at h0
      exact ⟨by rw [List.map_append, zv_ext hext.2.2.1 h0.2]; cases r <;> simp, (zv_ext hext.2.2.1 h0.1).symm⟩
  rw [hst.1]
  have hro1 : zRO ρ1 g1 σ1 A s s.heap := zRO_set hRO (fun i hi => hext.2.2.1 i (Or.inr hi)) hext.2.2.2.1 hext.2.2.2.2
  exact kk r g1 σ1 hq p l e R s m args below meth c H1 locs1 (cells + Y2.2.2.2.2.1) (slots + Y2.2.2.2.2.2) Q2 dC dI cy ρ1 A ls ⟨hx, hb, hml, hrt, hlk, hts, hown, hmn, hdR, hlR⟩ hro1 hK hA (by omega) (by omega) hw1 (by rw [← hst.2]; exact hl) hP1 (hD1.weaken (fun _ _ _ h => hfree _ h)) hS1 (zRT_st ret ⟨fun q => hext.1 (by omega), hext.2⟩ (by omega))
theorem x_obj {Y : zM} {d kc ks pc : Nat} {L S : List Value} {g : zG} {σ : zI} {Q : Option Value → zG → zI → Prop} {idx id : Nat} (hd : decode Y.2.1 pc = .ok (.invokespecial idx, 3)) (h1 : Cond.methodLink Y.1.cls idx Lib.objectInit ∈ zT) (h2 : Cond.instanceMethod Lib.objectInit ∈ zT) (h3 : Cond.code Lib.objectInit ⟨#[0xb1]⟩ 1 none ∈ zT) (hcat : (S.map fun v => v.category).sum ≤ 8) (k : zX Y (d + 1) kc ks (pc + 3) L (S) g σ Q) : zX Y (d + 1) kc ks (pc) L (.ref id :: S) g σ Q := by
  intro p l e R s m args below meth c H locs cells slots Q2 dC dI cy ρ A ls hC hRO hK hA hc hs hw hl hP hD hS ret
  have hC9 := hC
  obtain ⟨hx, hb, hml, hrt, hlk, hts, hown, hmn, hdR, hlR⟩ := hC9
  have hdR2 : d + 1 ≤ R.frames := hdR
  have hlR2 : 40 * (d + 1) ≤ R.locals := hlR
  have hcat2 : (((S.map (zv ρ)).map fun v => v.category)).sum ≤ 8 := by
    rw [List.map_map, show ((fun v : Value => v.category) ∘ zv ρ) = fun v => v.category from funext fun v => zv_cat ρ v]
    exact hcat
  exact W.objInit hx hb hown (hts _ h1) (hts _ h2) (hts _ h3) (g := F0 m pc ls ((.ref id :: S).map (zv ρ))) rfl (hl.1.trans hml.symm) rfl hd (by omega) (by show 2 * 0 + _ + 12 ≤ _; omega) (k p l e R s m args below meth c H locs cells slots Q2 dC dI cy ρ A ls hC hRO hK hA hc hs hw hl hP hD hS ret)
theorem x_mmax {Y : zM} {d kc ks pc : Nat} {L S : List Value} {g : zG} {σ : zI} {Q : Option Value → zG → zI → Prop} {idx : Nat} {a b : Int32} (hd : decode Y.2.1 pc = .ok (.invokestatic idx, 3)) (h1 : Cond.methodLink Y.1.cls idx Lib.Math.max.name ∈ zT) (h2 : Cond.static Lib.Math.max.name ∈ zT) (h3 : Cond.initialized "java/lang/Math" ∈ zT) (h4 : Cond.code Lib.Math.max.name Lib.Math.max.code 2 (some .int) ∈ zT) (hcat : (S.map fun v => v.category).sum ≤ 8) (k : zX Y (d + 1) kc ks (pc + 3) L (.int (if a < b then b else a) :: S) g σ Q) : zX Y (d + 1) kc ks (pc) L (.int b :: .int a :: S) g σ Q := by
  intro p l e R s m args below meth c H locs cells slots Q2 dC dI cy ρ A ls hC hRO hK hA hc hs hw hl hP hD hS ret
  have hC9 := hC
  obtain ⟨hx, hb, hml, hrt, hlk, hts, hown, hmn, hdR, hlR⟩ := hC9
  have hdR2 : d + 1 ≤ R.frames := hdR
  have hlR2 : 40 * (d + 1) ≤ R.locals := hlR
  have hcat2 : (((S.map (zv ρ)).map fun v => v.category)).sum ≤ 8 := by
    rw [List.map_map, show ((fun v : Value => v.category) ∘ zv ρ) = fun v => v.category from funext fun v => zv_cat ρ v]
    exact hcat
  exact va_mmax hx hb (hml.trans hl.1.symm) hown (hts _ h1) (hts _ h2) (hts _ h3) (hts _ h4) (by omega) (by omega) (by omega) (by omega) hd (k p l e R s m args below meth c H locs cells slots Q2 dC dI cy ρ A ls hC hRO hK hA hc hs hw hl hP hD hS ret)
theorem x_mmin {Y : zM} {d kc ks pc : Nat} {L S : List Value} {g : zG} {σ : zI} {Q : Option Value → zG → zI → Prop} {idx : Nat} {a b : Int32} (hd : decode Y.2.1 pc = .ok (.invokestatic idx, 3)) (h1 : Cond.methodLink Y.1.cls idx Lib.Math.min.name ∈ zT) (h2 : Cond.static Lib.Math.min.name ∈ zT) (h3 : Cond.initialized "java/lang/Math" ∈ zT) (h4 : Cond.code Lib.Math.min.name Lib.Math.min.code 2 (some .int) ∈ zT) (hcat : (S.map fun v => v.category).sum ≤ 8) (k : zX Y (d + 1) kc ks (pc + 3) L (.int (if b < a then b else a) :: S) g σ Q) : zX Y (d + 1) kc ks (pc) L (.int b :: .int a :: S) g σ Q := by
  intro p l e R s m args below meth c H locs cells slots Q2 dC dI cy ρ A ls hC hRO hK hA hc hs hw hl hP hD hS ret
  have hC9 := hC
  obtain ⟨hx, hb, hml, hrt, hlk, hts, hown, hmn, hdR, hlR⟩ := hC9
  have hdR2 : d + 1 ≤ R.frames := hdR
  have hlR2 : 40 * (d + 1) ≤ R.locals := hlR
  have hcat2 : (((S.map (zv ρ)).map fun v => v.category)).sum ≤ 8 := by
    rw [List.map_map, show ((fun v : Value => v.category) ∘ zv ρ) = fun v => v.category from funext fun v => zv_cat ρ v]
    exact hcat
  exact va_mmin hx hb (hml.trans hl.1.symm) hown (hts _ h1) (hts _ h2) (hts _ h3) (hts _ h4) (by omega) (by omega) (by omega) (by omega) hd (k p l e R s m args below meth c H locs cells slots Q2 dC dI cy ρ A ls hC hRO hK hA hc hs hw hl hP hD hS ret)
end
section
theorem zz_last : True := trivial
end
