-- ===== PART A: goes FIRST, ahead of the names: the tables' words, and 'selects' of the private methods out of them =====
/-- a private method of a class that the tables say can be made, by its rows of tables_1 -/
def lw_okq (q : MethodName × Nat) : Prop := (q.1.cls ≠ "java/lang/invoke/MethodHandle" ∧ q.1.cls ≠ "java/lang/invoke/VarHandle") ∧ Cond.instantiable q.1.cls q.2 ∈ tables_1 ∧ Cond.privateMethod q.1 ∈ tables_1 ∧ Cond.instanceMethod q.1 ∈ tables_1
theorem lw_p0 : lw_okq (⟨"NumbersInherited$Reader", "next", "()V"⟩, 8) := ⟨⟨by decide +kernel, by decide +kernel⟩, List.mem_of_getElem? (i := 37) (by decide +kernel), List.mem_of_getElem? (i := 133) (by decide +kernel), List.mem_of_getElem? (i := 134) (by decide +kernel)⟩
theorem lw_p1 : lw_okq (⟨"NumbersInherited$Reader", "nextWord", "()V"⟩, 8) := ⟨⟨by decide +kernel, by decide +kernel⟩, List.mem_of_getElem? (i := 37) (by decide +kernel), List.mem_of_getElem? (i := 140) (by decide +kernel), List.mem_of_getElem? (i := 141) (by decide +kernel)⟩
theorem lw_p2 : lw_okq (⟨"NumbersInherited$Reader", "stands", "(Ljava/lang/String;)Z"⟩, 8) := ⟨⟨by decide +kernel, by decide +kernel⟩, List.mem_of_getElem? (i := 37) (by decide +kernel), List.mem_of_getElem? (i := 159) (by decide +kernel), List.mem_of_getElem? (i := 160) (by decide +kernel)⟩
theorem lw_p3 : lw_okq (⟨"NumbersInherited$Reader", "nextNumber", "()V"⟩, 8) := ⟨⟨by decide +kernel, by decide +kernel⟩, List.mem_of_getElem? (i := 37) (by decide +kernel), List.mem_of_getElem? (i := 168) (by decide +kernel), List.mem_of_getElem? (i := 169) (by decide +kernel)⟩
theorem lw_p4 : lw_okq (⟨"NumbersInherited$Reader", "either", "(I)Z"⟩, 8) := ⟨⟨by decide +kernel, by decide +kernel⟩, List.mem_of_getElem? (i := 37) (by decide +kernel), List.mem_of_getElem? (i := 235) (by decide +kernel), List.mem_of_getElem? (i := 236) (by decide +kernel)⟩
theorem lw_p5 : lw_okq (⟨"NumbersInherited$Reader", "both", "(I)Z"⟩, 8) := ⟨⟨by decide +kernel, by decide +kernel⟩, List.mem_of_getElem? (i := 37) (by decide +kernel), List.mem_of_getElem? (i := 239) (by decide +kernel), List.mem_of_getElem? (i := 240) (by decide +kernel)⟩
theorem lw_p6 : lw_okq (⟨"NumbersInherited$Reader", "not", "(I)Z"⟩, 8) := ⟨⟨by decide +kernel, by decide +kernel⟩, List.mem_of_getElem? (i := 37) (by decide +kernel), List.mem_of_getElem? (i := 243) (by decide +kernel), List.mem_of_getElem? (i := 244) (by decide +kernel)⟩
theorem lw_p7 : lw_okq (⟨"NumbersInherited$Reader", "compared", "(I)Z"⟩, 8) := ⟨⟨by decide +kernel, by decide +kernel⟩, List.mem_of_getElem? (i := 37) (by decide +kernel), List.mem_of_getElem? (i := 247) (by decide +kernel), List.mem_of_getElem? (i := 248) (by decide +kernel)⟩
theorem lw_p8 : lw_okq (⟨"NumbersInherited$Reader", "sum", "(I)Z"⟩, 8) := ⟨⟨by decide +kernel, by decide +kernel⟩, List.mem_of_getElem? (i := 37) (by decide +kernel), List.mem_of_getElem? (i := 251) (by decide +kernel), List.mem_of_getElem? (i := 252) (by decide +kernel)⟩
theorem lw_p9 : lw_okq (⟨"NumbersInherited$Reader", "term", "(I)Z"⟩, 8) := ⟨⟨by decide +kernel, by decide +kernel⟩, List.mem_of_getElem? (i := 37) (by decide +kernel), List.mem_of_getElem? (i := 255) (by decide +kernel), List.mem_of_getElem? (i := 256) (by decide +kernel)⟩
theorem lw_p10 : lw_okq (⟨"NumbersInherited$Reader", "single", "(I)Z"⟩, 8) := ⟨⟨by decide +kernel, by decide +kernel⟩, List.mem_of_getElem? (i := 37) (by decide +kernel), List.mem_of_getElem? (i := 259) (by decide +kernel), List.mem_of_getElem? (i := 260) (by decide +kernel)⟩
theorem lw_p11 : lw_okq (⟨"NumbersInherited$Reader", "write", "(I)V"⟩, 8) := ⟨⟨by decide +kernel, by decide +kernel⟩, List.mem_of_getElem? (i := 37) (by decide +kernel), List.mem_of_getElem? (i := 263) (by decide +kernel), List.mem_of_getElem? (i := 264) (by decide +kernel)⟩
theorem lw_p12 : lw_okq (⟨"NumbersInherited$Reader", "bracket", "(I)Z"⟩, 8) := ⟨⟨by decide +kernel, by decide +kernel⟩, List.mem_of_getElem? (i := 37) (by decide +kernel), List.mem_of_getElem? (i := 267) (by decide +kernel), List.mem_of_getElem? (i := 268) (by decide +kernel)⟩
theorem lw_p13 : lw_okq (⟨"NumbersInherited$Reader", "negated", "(I)Z"⟩, 8) := ⟨⟨by decide +kernel, by decide +kernel⟩, List.mem_of_getElem? (i := 37) (by decide +kernel), List.mem_of_getElem? (i := 271) (by decide +kernel), List.mem_of_getElem? (i := 272) (by decide +kernel)⟩
theorem lw_p14 : lw_okq (⟨"NumbersInherited", "setDay", "(I)I"⟩, 9) := ⟨⟨by decide +kernel, by decide +kernel⟩, List.mem_of_getElem? (i := 19) (by decide +kernel), List.mem_of_getElem? (i := 454) (by decide +kernel), List.mem_of_getElem? (i := 455) (by decide +kernel)⟩
theorem lw_p15 : lw_okq (⟨"NumbersInherited", "heirAt", "(I)LNumbersInherited$Heir;"⟩, 9) := ⟨⟨by decide +kernel, by decide +kernel⟩, List.mem_of_getElem? (i := 19) (by decide +kernel), List.mem_of_getElem? (i := 458) (by decide +kernel), List.mem_of_getElem? (i := 459) (by decide +kernel)⟩
def lw_privs_1 : List (MethodName × Nat) := [(⟨"NumbersInherited$Reader", "next", "()V"⟩, 8), (⟨"NumbersInherited$Reader", "nextWord", "()V"⟩, 8), (⟨"NumbersInherited$Reader", "stands", "(Ljava/lang/String;)Z"⟩, 8), (⟨"NumbersInherited$Reader", "nextNumber", "()V"⟩, 8), (⟨"NumbersInherited$Reader", "either", "(I)Z"⟩, 8), (⟨"NumbersInherited$Reader", "both", "(I)Z"⟩, 8), (⟨"NumbersInherited$Reader", "not", "(I)Z"⟩, 8), (⟨"NumbersInherited$Reader", "compared", "(I)Z"⟩, 8), (⟨"NumbersInherited$Reader", "sum", "(I)Z"⟩, 8), (⟨"NumbersInherited$Reader", "term", "(I)Z"⟩, 8), (⟨"NumbersInherited$Reader", "single", "(I)Z"⟩, 8), (⟨"NumbersInherited$Reader", "write", "(I)V"⟩, 8), (⟨"NumbersInherited$Reader", "bracket", "(I)Z"⟩, 8), (⟨"NumbersInherited$Reader", "negated", "(I)Z"⟩, 8), (⟨"NumbersInherited", "setDay", "(I)I"⟩, 9), (⟨"NumbersInherited", "heirAt", "(I)LNumbersInherited$Heir;"⟩, 9)]
theorem lw_r1 : ∀ q ∈ lw_privs_1, lw_okq q := List.forall_mem_cons.mpr ⟨lw_p0, List.forall_mem_cons.mpr ⟨lw_p1, List.forall_mem_cons.mpr ⟨lw_p2, List.forall_mem_cons.mpr ⟨lw_p3, List.forall_mem_cons.mpr ⟨lw_p4, List.forall_mem_cons.mpr ⟨lw_p5, List.forall_mem_cons.mpr ⟨lw_p6, List.forall_mem_cons.mpr ⟨lw_p7, List.forall_mem_cons.mpr ⟨lw_p8, List.forall_mem_cons.mpr ⟨lw_p9, List.forall_mem_cons.mpr ⟨lw_p10, List.forall_mem_cons.mpr ⟨lw_p11, List.forall_mem_cons.mpr ⟨lw_p12, List.forall_mem_cons.mpr ⟨lw_p13, List.forall_mem_cons.mpr ⟨lw_p14, List.forall_mem_cons.mpr ⟨lw_p15, fun _ h => absurd h List.not_mem_nil⟩⟩⟩⟩⟩⟩⟩⟩⟩⟩⟩⟩⟩⟩⟩⟩
theorem lw_p16 : lw_okq (⟨"NumbersInherited$Heir", "sums", "()I"⟩, 4) := ⟨⟨by decide +kernel, by decide +kernel⟩, List.mem_of_getElem? (i := 378) (by decide +kernel), List.mem_of_getElem? (i := 500) (by decide +kernel), List.mem_of_getElem? (i := 501) (by decide +kernel)⟩
theorem lw_p17 : lw_okq (⟨"NumbersInherited$Heir", "halves", "()I"⟩, 4) := ⟨⟨by decide +kernel, by decide +kernel⟩, List.mem_of_getElem? (i := 378) (by decide +kernel), List.mem_of_getElem? (i := 506) (by decide +kernel), List.mem_of_getElem? (i := 507) (by decide +kernel)⟩
theorem lw_p18 : lw_okq (⟨"NumbersInherited$Heir", "rests", "()I"⟩, 4) := ⟨⟨by decide +kernel, by decide +kernel⟩, List.mem_of_getElem? (i := 378) (by decide +kernel), List.mem_of_getElem? (i := 511) (by decide +kernel), List.mem_of_getElem? (i := 512) (by decide +kernel)⟩
theorem lw_p19 : lw_okq (⟨"NumbersInherited$Law", "name", "(LNumbersInherited$Heir;II)V"⟩, 8) := ⟨⟨by decide +kernel, by decide +kernel⟩, List.mem_of_getElem? (i := 31) (by decide +kernel), List.mem_of_getElem? (i := 549) (by decide +kernel), List.mem_of_getElem? (i := 550) (by decide +kernel)⟩
theorem lw_p20 : lw_okq (⟨"NumbersInherited$Law", "value", "(I)I"⟩, 8) := ⟨⟨by decide +kernel, by decide +kernel⟩, List.mem_of_getElem? (i := 31) (by decide +kernel), List.mem_of_getElem? (i := 554) (by decide +kernel), List.mem_of_getElem? (i := 555) (by decide +kernel)⟩
theorem lw_p21 : lw_okq (⟨"NumbersInherited$Law", "operand", "(I)I"⟩, 8) := ⟨⟨by decide +kernel, by decide +kernel⟩, List.mem_of_getElem? (i := 31) (by decide +kernel), List.mem_of_getElem? (i := 558) (by decide +kernel), List.mem_of_getElem? (i := 559) (by decide +kernel)⟩
theorem lw_p22 : lw_okq (⟨"NumbersInherited$Paying", "fillParts", "(I)I"⟩, 6) := ⟨⟨by decide +kernel, by decide +kernel⟩, List.mem_of_getElem? (i := 305) (by decide +kernel), List.mem_of_getElem? (i := 595) (by decide +kernel), List.mem_of_getElem? (i := 596) (by decide +kernel)⟩
theorem lw_p23 : lw_okq (⟨"NumbersInherited$Paying", "leastAt", "(II)I"⟩, 6) := ⟨⟨by decide +kernel, by decide +kernel⟩, List.mem_of_getElem? (i := 305) (by decide +kernel), List.mem_of_getElem? (i := 601) (by decide +kernel), List.mem_of_getElem? (i := 602) (by decide +kernel)⟩
theorem lw_p24 : lw_okq (⟨"NumbersInherited$Ways", "walkOn", "(I)V"⟩, 5) := ⟨⟨by decide +kernel, by decide +kernel⟩, List.mem_of_getElem? (i := 331) (by decide +kernel), List.mem_of_getElem? (i := 622) (by decide +kernel), List.mem_of_getElem? (i := 623) (by decide +kernel)⟩
theorem lw_p25 : lw_okq (⟨"NumbersInherited$Ways", "isBetter", "(III)Z"⟩, 5) := ⟨⟨by decide +kernel, by decide +kernel⟩, List.mem_of_getElem? (i := 331) (by decide +kernel), List.mem_of_getElem? (i := 626) (by decide +kernel), List.mem_of_getElem? (i := 627) (by decide +kernel)⟩
theorem lw_p26 : lw_okq (⟨"NumbersInherited$Paying", "fillCan", "(LNumbersInherited$Heir;LNumbersInherited$Heir;)V"⟩, 6) := ⟨⟨by decide +kernel, by decide +kernel⟩, List.mem_of_getElem? (i := 305) (by decide +kernel), List.mem_of_getElem? (i := 646) (by decide +kernel), List.mem_of_getElem? (i := 647) (by decide +kernel)⟩
theorem lw_p27 : lw_okq (⟨"NumbersInherited$Ways", "reached", "(II)I"⟩, 5) := ⟨⟨by decide +kernel, by decide +kernel⟩, List.mem_of_getElem? (i := 331) (by decide +kernel), List.mem_of_getElem? (i := 681) (by decide +kernel), List.mem_of_getElem? (i := 682) (by decide +kernel)⟩
theorem lw_p28 : lw_okq (⟨"NumbersInherited", "worthOfLeaving", "(LNumbersInherited$Heir;LNumbersInherited$Heir;)I"⟩, 9) := ⟨⟨by decide +kernel, by decide +kernel⟩, List.mem_of_getElem? (i := 19) (by decide +kernel), List.mem_of_getElem? (i := 689) (by decide +kernel), List.mem_of_getElem? (i := 690) (by decide +kernel)⟩
theorem lw_p29 : lw_okq (⟨"NumbersInherited", "sheetAt", "(I)LNumbersInherited$Sheet;"⟩, 9) := ⟨⟨by decide +kernel, by decide +kernel⟩, List.mem_of_getElem? (i := 19) (by decide +kernel), List.mem_of_getElem? (i := 713) (by decide +kernel), List.mem_of_getElem? (i := 714) (by decide +kernel)⟩
theorem lw_p30 : lw_okq (⟨"NumbersInherited", "kindsAsTold", "(LNumbersInherited$Sheet;LNumbersInherited$Heir;LNumbersInherited$Heir;)I"⟩, 9) := ⟨⟨by decide +kernel, by decide +kernel⟩, List.mem_of_getElem? (i := 19) (by decide +kernel), List.mem_of_getElem? (i := 737) (by decide +kernel), List.mem_of_getElem? (i := 738) (by decide +kernel)⟩
theorem lw_p31 : lw_okq (⟨"NumbersInherited", "moresAsTold", "(LNumbersInherited$Sheet;LNumbersInherited$Heir;LNumbersInherited$Heir;)I"⟩, 9) := ⟨⟨by decide +kernel, by decide +kernel⟩, List.mem_of_getElem? (i := 19) (by decide +kernel), List.mem_of_getElem? (i := 741) (by decide +kernel), List.mem_of_getElem? (i := 742) (by decide +kernel)⟩
def lw_privs_2 : List (MethodName × Nat) := [(⟨"NumbersInherited$Heir", "sums", "()I"⟩, 4), (⟨"NumbersInherited$Heir", "halves", "()I"⟩, 4), (⟨"NumbersInherited$Heir", "rests", "()I"⟩, 4), (⟨"NumbersInherited$Law", "name", "(LNumbersInherited$Heir;II)V"⟩, 8), (⟨"NumbersInherited$Law", "value", "(I)I"⟩, 8), (⟨"NumbersInherited$Law", "operand", "(I)I"⟩, 8), (⟨"NumbersInherited$Paying", "fillParts", "(I)I"⟩, 6), (⟨"NumbersInherited$Paying", "leastAt", "(II)I"⟩, 6), (⟨"NumbersInherited$Ways", "walkOn", "(I)V"⟩, 5), (⟨"NumbersInherited$Ways", "isBetter", "(III)Z"⟩, 5), (⟨"NumbersInherited$Paying", "fillCan", "(LNumbersInherited$Heir;LNumbersInherited$Heir;)V"⟩, 6), (⟨"NumbersInherited$Ways", "reached", "(II)I"⟩, 5), (⟨"NumbersInherited", "worthOfLeaving", "(LNumbersInherited$Heir;LNumbersInherited$Heir;)I"⟩, 9), (⟨"NumbersInherited", "sheetAt", "(I)LNumbersInherited$Sheet;"⟩, 9), (⟨"NumbersInherited", "kindsAsTold", "(LNumbersInherited$Sheet;LNumbersInherited$Heir;LNumbersInherited$Heir;)I"⟩, 9), (⟨"NumbersInherited", "moresAsTold", "(LNumbersInherited$Sheet;LNumbersInherited$Heir;LNumbersInherited$Heir;)I"⟩, 9)]
theorem lw_r2 : ∀ q ∈ lw_privs_2, lw_okq q := List.forall_mem_cons.mpr ⟨lw_p16, List.forall_mem_cons.mpr ⟨lw_p17, List.forall_mem_cons.mpr ⟨lw_p18, List.forall_mem_cons.mpr ⟨lw_p19, List.forall_mem_cons.mpr ⟨lw_p20, List.forall_mem_cons.mpr ⟨lw_p21, List.forall_mem_cons.mpr ⟨lw_p22, List.forall_mem_cons.mpr ⟨lw_p23, List.forall_mem_cons.mpr ⟨lw_p24, List.forall_mem_cons.mpr ⟨lw_p25, List.forall_mem_cons.mpr ⟨lw_p26, List.forall_mem_cons.mpr ⟨lw_p27, List.forall_mem_cons.mpr ⟨lw_p28, List.forall_mem_cons.mpr ⟨lw_p29, List.forall_mem_cons.mpr ⟨lw_p30, List.forall_mem_cons.mpr ⟨lw_p31, fun _ h => absurd h List.not_mem_nil⟩⟩⟩⟩⟩⟩⟩⟩⟩⟩⟩⟩⟩⟩⟩⟩
theorem lw_p32 : lw_okq (⟨"NumbersInherited", "textsAsTold", "(LNumbersInherited$Sheet;LNumbersInherited$Heir;LNumbersInherited$Heir;)I"⟩, 9) := ⟨⟨by decide +kernel, by decide +kernel⟩, List.mem_of_getElem? (i := 19) (by decide +kernel), List.mem_of_getElem? (i := 745) (by decide +kernel), List.mem_of_getElem? (i := 746) (by decide +kernel)⟩
theorem lw_p33 : lw_okq (⟨"NumbersInherited", "numbersThatMust", "(LNumbersInherited$Sheet;LNumbersInherited$Heir;LNumbersInherited$Heir;)I"⟩, 9) := ⟨⟨by decide +kernel, by decide +kernel⟩, List.mem_of_getElem? (i := 19) (by decide +kernel), List.mem_of_getElem? (i := 749) (by decide +kernel), List.mem_of_getElem? (i := 750) (by decide +kernel)⟩
theorem lw_p34 : lw_okq (⟨"NumbersInherited", "numbersThatMay", "(LNumbersInherited$Sheet;LNumbersInherited$Heir;LNumbersInherited$Heir;)I"⟩, 9) := ⟨⟨by decide +kernel, by decide +kernel⟩, List.mem_of_getElem? (i := 19) (by decide +kernel), List.mem_of_getElem? (i := 753) (by decide +kernel), List.mem_of_getElem? (i := 754) (by decide +kernel)⟩
theorem lw_p35 : lw_okq (⟨"NumbersInherited", "payableIfDrawn", "(ILNumbersInherited$Heir;LNumbersInherited$Heir;)I"⟩, 9) := ⟨⟨by decide +kernel, by decide +kernel⟩, List.mem_of_getElem? (i := 19) (by decide +kernel), List.mem_of_getElem? (i := 774) (by decide +kernel), List.mem_of_getElem? (i := 775) (by decide +kernel)⟩
theorem lw_p36 : lw_okq (⟨"NumbersInherited", "allOwn", "()I"⟩, 9) := ⟨⟨by decide +kernel, by decide +kernel⟩, List.mem_of_getElem? (i := 19) (by decide +kernel), List.mem_of_getElem? (i := 803) (by decide +kernel), List.mem_of_getElem? (i := 804) (by decide +kernel)⟩
theorem lw_p37 : lw_okq (⟨"NumbersInheritedModel", "codes", "(I)V"⟩, 39) := ⟨⟨by decide +kernel, by decide +kernel⟩, List.mem_of_getElem? (i := 843) (by decide +kernel), List.mem_of_getElem? (i := 849) (by decide +kernel), List.mem_of_getElem? (i := 850) (by decide +kernel)⟩
theorem lw_p38 : lw_okq (⟨"NumbersInheritedModel", "isHeir", "(I)Z"⟩, 39) := ⟨⟨by decide +kernel, by decide +kernel⟩, List.mem_of_getElem? (i := 843) (by decide +kernel), List.mem_of_getElem? (i := 978) (by decide +kernel), List.mem_of_getElem? (i := 979) (by decide +kernel)⟩
theorem lw_p39 : lw_okq (⟨"NumbersInheritedModel", "may", "(II)Z"⟩, 39) := ⟨⟨by decide +kernel, by decide +kernel⟩, List.mem_of_getElem? (i := 843) (by decide +kernel), List.mem_of_getElem? (i := 982) (by decide +kernel), List.mem_of_getElem? (i := 983) (by decide +kernel)⟩
theorem lw_p40 : lw_okq (⟨"NumbersInheritedModel", "get", "(II)I"⟩, 39) := ⟨⟨by decide +kernel, by decide +kernel⟩, List.mem_of_getElem? (i := 843) (by decide +kernel), List.mem_of_getElem? (i := 987) (by decide +kernel), List.mem_of_getElem? (i := 988) (by decide +kernel)⟩
theorem lw_p41 : lw_okq (⟨"NumbersInheritedModel", "sayable", "(I)I"⟩, 39) := ⟨⟨by decide +kernel, by decide +kernel⟩, List.mem_of_getElem? (i := 843) (by decide +kernel), List.mem_of_getElem? (i := 994) (by decide +kernel), List.mem_of_getElem? (i := 995) (by decide +kernel)⟩
theorem lw_p42 : lw_okq (⟨"NumbersInheritedModel", "isSaid", "(II)Z"⟩, 39) := ⟨⟨by decide +kernel, by decide +kernel⟩, List.mem_of_getElem? (i := 843) (by decide +kernel), List.mem_of_getElem? (i := 998) (by decide +kernel), List.mem_of_getElem? (i := 999) (by decide +kernel)⟩
theorem lw_p43 : lw_okq (⟨"NumbersInheritedModel", "isOwn", "(II)Z"⟩, 39) := ⟨⟨by decide +kernel, by decide +kernel⟩, List.mem_of_getElem? (i := 843) (by decide +kernel), List.mem_of_getElem? (i := 1002) (by decide +kernel), List.mem_of_getElem? (i := 1003) (by decide +kernel)⟩
theorem lw_p44 : lw_okq (⟨"NumbersInheritedModel", "isMade", "(II)Z"⟩, 39) := ⟨⟨by decide +kernel, by decide +kernel⟩, List.mem_of_getElem? (i := 843) (by decide +kernel), List.mem_of_getElem? (i := 1012) (by decide +kernel), List.mem_of_getElem? (i := 1013) (by decide +kernel)⟩
theorem lw_p45 : lw_okq (⟨"NumbersInheritedModel", "areTwo", "(II)Z"⟩, 39) := ⟨⟨by decide +kernel, by decide +kernel⟩, List.mem_of_getElem? (i := 843) (by decide +kernel), List.mem_of_getElem? (i := 1024) (by decide +kernel), List.mem_of_getElem? (i := 1025) (by decide +kernel)⟩
theorem lw_p46 : lw_okq (⟨"NumbersInheritedModel", "next", "()V"⟩, 39) := ⟨⟨by decide +kernel, by decide +kernel⟩, List.mem_of_getElem? (i := 843) (by decide +kernel), List.mem_of_getElem? (i := 1040) (by decide +kernel), List.mem_of_getElem? (i := 1041) (by decide +kernel)⟩
theorem lw_p47 : lw_okq (⟨"NumbersInheritedModel", "named", "()I"⟩, 39) := ⟨⟨by decide +kernel, by decide +kernel⟩, List.mem_of_getElem? (i := 843) (by decide +kernel), List.mem_of_getElem? (i := 1047) (by decide +kernel), List.mem_of_getElem? (i := 1048) (by decide +kernel)⟩
def lw_privs_3 : List (MethodName × Nat) := [(⟨"NumbersInherited", "textsAsTold", "(LNumbersInherited$Sheet;LNumbersInherited$Heir;LNumbersInherited$Heir;)I"⟩, 9), (⟨"NumbersInherited", "numbersThatMust", "(LNumbersInherited$Sheet;LNumbersInherited$Heir;LNumbersInherited$Heir;)I"⟩, 9), (⟨"NumbersInherited", "numbersThatMay", "(LNumbersInherited$Sheet;LNumbersInherited$Heir;LNumbersInherited$Heir;)I"⟩, 9), (⟨"NumbersInherited", "payableIfDrawn", "(ILNumbersInherited$Heir;LNumbersInherited$Heir;)I"⟩, 9), (⟨"NumbersInherited", "allOwn", "()I"⟩, 9), (⟨"NumbersInheritedModel", "codes", "(I)V"⟩, 39), (⟨"NumbersInheritedModel", "isHeir", "(I)Z"⟩, 39), (⟨"NumbersInheritedModel", "may", "(II)Z"⟩, 39), (⟨"NumbersInheritedModel", "get", "(II)I"⟩, 39), (⟨"NumbersInheritedModel", "sayable", "(I)I"⟩, 39), (⟨"NumbersInheritedModel", "isSaid", "(II)Z"⟩, 39), (⟨"NumbersInheritedModel", "isOwn", "(II)Z"⟩, 39), (⟨"NumbersInheritedModel", "isMade", "(II)Z"⟩, 39), (⟨"NumbersInheritedModel", "areTwo", "(II)Z"⟩, 39), (⟨"NumbersInheritedModel", "next", "()V"⟩, 39), (⟨"NumbersInheritedModel", "named", "()I"⟩, 39)]
theorem lw_r3 : ∀ q ∈ lw_privs_3, lw_okq q := List.forall_mem_cons.mpr ⟨lw_p32, List.forall_mem_cons.mpr ⟨lw_p33, List.forall_mem_cons.mpr ⟨lw_p34, List.forall_mem_cons.mpr ⟨lw_p35, List.forall_mem_cons.mpr ⟨lw_p36, List.forall_mem_cons.mpr ⟨lw_p37, List.forall_mem_cons.mpr ⟨lw_p38, List.forall_mem_cons.mpr ⟨lw_p39, List.forall_mem_cons.mpr ⟨lw_p40, List.forall_mem_cons.mpr ⟨lw_p41, List.forall_mem_cons.mpr ⟨lw_p42, List.forall_mem_cons.mpr ⟨lw_p43, List.forall_mem_cons.mpr ⟨lw_p44, List.forall_mem_cons.mpr ⟨lw_p45, List.forall_mem_cons.mpr ⟨lw_p46, List.forall_mem_cons.mpr ⟨lw_p47, fun _ h => absurd h List.not_mem_nil⟩⟩⟩⟩⟩⟩⟩⟩⟩⟩⟩⟩⟩⟩⟩⟩
theorem lw_p48 : lw_okq (⟨"NumbersInheritedModel", "isKey", "()Z"⟩, 39) := ⟨⟨by decide +kernel, by decide +kernel⟩, List.mem_of_getElem? (i := 843) (by decide +kernel), List.mem_of_getElem? (i := 1051) (by decide +kernel), List.mem_of_getElem? (i := 1052) (by decide +kernel)⟩
theorem lw_p49 : lw_okq (⟨"NumbersInheritedModel", "part", "(II)Z"⟩, 39) := ⟨⟨by decide +kernel, by decide +kernel⟩, List.mem_of_getElem? (i := 843) (by decide +kernel), List.mem_of_getElem? (i := 1062) (by decide +kernel), List.mem_of_getElem? (i := 1063) (by decide +kernel)⟩
theorem lw_p50 : lw_okq (⟨"NumbersInheritedModel", "takes", "(I)Z"⟩, 39) := ⟨⟨by decide +kernel, by decide +kernel⟩, List.mem_of_getElem? (i := 843) (by decide +kernel), List.mem_of_getElem? (i := 1066) (by decide +kernel), List.mem_of_getElem? (i := 1067) (by decide +kernel)⟩
theorem lw_p51 : lw_okq (⟨"NumbersInheritedModel", "goesOn", "()Z"⟩, 39) := ⟨⟨by decide +kernel, by decide +kernel⟩, List.mem_of_getElem? (i := 843) (by decide +kernel), List.mem_of_getElem? (i := 1070) (by decide +kernel), List.mem_of_getElem? (i := 1071) (by decide +kernel)⟩
theorem lw_p52 : lw_okq (⟨"NumbersInheritedModel", "one", "(Z)Z"⟩, 39) := ⟨⟨by decide +kernel, by decide +kernel⟩, List.mem_of_getElem? (i := 843) (by decide +kernel), List.mem_of_getElem? (i := 1074) (by decide +kernel), List.mem_of_getElem? (i := 1075) (by decide +kernel)⟩
theorem lw_p53 : lw_okq (⟨"NumbersInheritedModel", "lays", "(I)V"⟩, 39) := ⟨⟨by decide +kernel, by decide +kernel⟩, List.mem_of_getElem? (i := 843) (by decide +kernel), List.mem_of_getElem? (i := 1078) (by decide +kernel), List.mem_of_getElem? (i := 1079) (by decide +kernel)⟩
theorem lw_p54 : lw_okq (⟨"NumbersInheritedModel", "push", "(I)V"⟩, 39) := ⟨⟨by decide +kernel, by decide +kernel⟩, List.mem_of_getElem? (i := 843) (by decide +kernel), List.mem_of_getElem? (i := 1085) (by decide +kernel), List.mem_of_getElem? (i := 1086) (by decide +kernel)⟩
theorem lw_p55 : lw_okq (⟨"NumbersInheritedModel", "closes", "()Z"⟩, 39) := ⟨⟨by decide +kernel, by decide +kernel⟩, List.mem_of_getElem? (i := 843) (by decide +kernel), List.mem_of_getElem? (i := 1089) (by decide +kernel), List.mem_of_getElem? (i := 1090) (by decide +kernel)⟩
theorem lw_p56 : lw_okq (⟨"NumbersInheritedModel", "signed", "()I"⟩, 39) := ⟨⟨by decide +kernel, by decide +kernel⟩, List.mem_of_getElem? (i := 843) (by decide +kernel), List.mem_of_getElem? (i := 1093) (by decide +kernel), List.mem_of_getElem? (i := 1094) (by decide +kernel)⟩
theorem lw_p57 : lw_okq (⟨"NumbersInheritedModel", "costs", "(II)I"⟩, 39) := ⟨⟨by decide +kernel, by decide +kernel⟩, List.mem_of_getElem? (i := 843) (by decide +kernel), List.mem_of_getElem? (i := 1110) (by decide +kernel), List.mem_of_getElem? (i := 1111) (by decide +kernel)⟩
theorem lw_p58 : lw_okq (⟨"NumbersInheritedModel", "tells", "(III)I"⟩, 39) := ⟨⟨by decide +kernel, by decide +kernel⟩, List.mem_of_getElem? (i := 843) (by decide +kernel), List.mem_of_getElem? (i := 1114) (by decide +kernel), List.mem_of_getElem? (i := 1115) (by decide +kernel)⟩
theorem lw_p59 : lw_okq (⟨"NumbersInheritedModel", "isMeant", "(II)Z"⟩, 39) := ⟨⟨by decide +kernel, by decide +kernel⟩, List.mem_of_getElem? (i := 843) (by decide +kernel), List.mem_of_getElem? (i := 1127) (by decide +kernel), List.mem_of_getElem? (i := 1128) (by decide +kernel)⟩
theorem lw_p60 : lw_okq (⟨"NumbersInheritedModel", "worthOf", "(II)I"⟩, 39) := ⟨⟨by decide +kernel, by decide +kernel⟩, List.mem_of_getElem? (i := 843) (by decide +kernel), List.mem_of_getElem? (i := 1131) (by decide +kernel), List.mem_of_getElem? (i := 1132) (by decide +kernel)⟩
theorem lw_p61 : lw_okq (⟨"NumbersInheritedModel", "sums", "(II)V"⟩, 39) := ⟨⟨by decide +kernel, by decide +kernel⟩, List.mem_of_getElem? (i := 843) (by decide +kernel), List.mem_of_getElem? (i := 1143) (by decide +kernel), List.mem_of_getElem? (i := 1144) (by decide +kernel)⟩
theorem lw_p62 : lw_okq (⟨"NumbersInheritedModel", "legs", "(I)V"⟩, 39) := ⟨⟨by decide +kernel, by decide +kernel⟩, List.mem_of_getElem? (i := 843) (by decide +kernel), List.mem_of_getElem? (i := 1147) (by decide +kernel), List.mem_of_getElem? (i := 1148) (by decide +kernel)⟩
theorem lw_p63 : lw_okq (⟨"NumbersInheritedModel", "ways", "(I)V"⟩, 39) := ⟨⟨by decide +kernel, by decide +kernel⟩, List.mem_of_getElem? (i := 843) (by decide +kernel), List.mem_of_getElem? (i := 1151) (by decide +kernel), List.mem_of_getElem? (i := 1152) (by decide +kernel)⟩
def lw_privs_4 : List (MethodName × Nat) := [(⟨"NumbersInheritedModel", "isKey", "()Z"⟩, 39), (⟨"NumbersInheritedModel", "part", "(II)Z"⟩, 39), (⟨"NumbersInheritedModel", "takes", "(I)Z"⟩, 39), (⟨"NumbersInheritedModel", "goesOn", "()Z"⟩, 39), (⟨"NumbersInheritedModel", "one", "(Z)Z"⟩, 39), (⟨"NumbersInheritedModel", "lays", "(I)V"⟩, 39), (⟨"NumbersInheritedModel", "push", "(I)V"⟩, 39), (⟨"NumbersInheritedModel", "closes", "()Z"⟩, 39), (⟨"NumbersInheritedModel", "signed", "()I"⟩, 39), (⟨"NumbersInheritedModel", "costs", "(II)I"⟩, 39), (⟨"NumbersInheritedModel", "tells", "(III)I"⟩, 39), (⟨"NumbersInheritedModel", "isMeant", "(II)Z"⟩, 39), (⟨"NumbersInheritedModel", "worthOf", "(II)I"⟩, 39), (⟨"NumbersInheritedModel", "sums", "(II)V"⟩, 39), (⟨"NumbersInheritedModel", "legs", "(I)V"⟩, 39), (⟨"NumbersInheritedModel", "ways", "(I)V"⟩, 39)]
theorem lw_r4 : ∀ q ∈ lw_privs_4, lw_okq q := List.forall_mem_cons.mpr ⟨lw_p48, List.forall_mem_cons.mpr ⟨lw_p49, List.forall_mem_cons.mpr ⟨lw_p50, List.forall_mem_cons.mpr ⟨lw_p51, List.forall_mem_cons.mpr ⟨lw_p52, List.forall_mem_cons.mpr ⟨lw_p53, List.forall_mem_cons.mpr ⟨lw_p54, List.forall_mem_cons.mpr ⟨lw_p55, List.forall_mem_cons.mpr ⟨lw_p56, List.forall_mem_cons.mpr ⟨lw_p57, List.forall_mem_cons.mpr ⟨lw_p58, List.forall_mem_cons.mpr ⟨lw_p59, List.forall_mem_cons.mpr ⟨lw_p60, List.forall_mem_cons.mpr ⟨lw_p61, List.forall_mem_cons.mpr ⟨lw_p62, List.forall_mem_cons.mpr ⟨lw_p63, fun _ h => absurd h List.not_mem_nil⟩⟩⟩⟩⟩⟩⟩⟩⟩⟩⟩⟩⟩⟩⟩⟩
theorem lw_p64 : lw_okq (⟨"NumbersInheritedModel", "barredOf", "(III)I"⟩, 39) := ⟨⟨by decide +kernel, by decide +kernel⟩, List.mem_of_getElem? (i := 843) (by decide +kernel), List.mem_of_getElem? (i := 1159) (by decide +kernel), List.mem_of_getElem? (i := 1160) (by decide +kernel)⟩
theorem lw_p65 : lw_okq (⟨"NumbersInheritedModel", "reached", "(II)I"⟩, 39) := ⟨⟨by decide +kernel, by decide +kernel⟩, List.mem_of_getElem? (i := 843) (by decide +kernel), List.mem_of_getElem? (i := 1171) (by decide +kernel), List.mem_of_getElem? (i := 1172) (by decide +kernel)⟩
theorem lw_p66 : lw_okq (⟨"NumbersInheritedModel", "unpaid", "(II)I"⟩, 39) := ⟨⟨by decide +kernel, by decide +kernel⟩, List.mem_of_getElem? (i := 843) (by decide +kernel), List.mem_of_getElem? (i := 1187) (by decide +kernel), List.mem_of_getElem? (i := 1188) (by decide +kernel)⟩
theorem lw_p67 : lw_okq (⟨"NumbersInheritedModel", "otherwise", "(III)I"⟩, 39) := ⟨⟨by decide +kernel, by decide +kernel⟩, List.mem_of_getElem? (i := 843) (by decide +kernel), List.mem_of_getElem? (i := 1198) (by decide +kernel), List.mem_of_getElem? (i := 1199) (by decide +kernel)⟩
theorem lw_p68 : lw_okq (⟨"NumbersInheritedModel", "kinds", "(III)I"⟩, 39) := ⟨⟨by decide +kernel, by decide +kernel⟩, List.mem_of_getElem? (i := 843) (by decide +kernel), List.mem_of_getElem? (i := 1202) (by decide +kernel), List.mem_of_getElem? (i := 1203) (by decide +kernel)⟩
theorem lw_p69 : lw_okq (⟨"NumbersInheritedModel", "isSo", "(III)Z"⟩, 39) := ⟨⟨by decide +kernel, by decide +kernel⟩, List.mem_of_getElem? (i := 843) (by decide +kernel), List.mem_of_getElem? (i := 1206) (by decide +kernel), List.mem_of_getElem? (i := 1207) (by decide +kernel)⟩
theorem lw_p70 : lw_okq (⟨"NumbersInheritedModel", "mores", "(III)I"⟩, 39) := ⟨⟨by decide +kernel, by decide +kernel⟩, List.mem_of_getElem? (i := 843) (by decide +kernel), List.mem_of_getElem? (i := 1210) (by decide +kernel), List.mem_of_getElem? (i := 1211) (by decide +kernel)⟩
theorem lw_p71 : lw_okq (⟨"NumbersInheritedModel", "rules", "(III)I"⟩, 39) := ⟨⟨by decide +kernel, by decide +kernel⟩, List.mem_of_getElem? (i := 843) (by decide +kernel), List.mem_of_getElem? (i := 1214) (by decide +kernel), List.mem_of_getElem? (i := 1215) (by decide +kernel)⟩
theorem lw_p72 : lw_okq (⟨"NumbersInheritedModel", "owns", "(IIIZ)I"⟩, 39) := ⟨⟨by decide +kernel, by decide +kernel⟩, List.mem_of_getElem? (i := 843) (by decide +kernel), List.mem_of_getElem? (i := 1218) (by decide +kernel), List.mem_of_getElem? (i := 1219) (by decide +kernel)⟩
theorem lw_p73 : lw_okq (⟨"NumbersInheritedModel", "draw", "(I)I"⟩, 39) := ⟨⟨by decide +kernel, by decide +kernel⟩, List.mem_of_getElem? (i := 843) (by decide +kernel), List.mem_of_getElem? (i := 1234) (by decide +kernel), List.mem_of_getElem? (i := 1235) (by decide +kernel)⟩
theorem lw_p74 : lw_okq (⟨"NumbersInheritedModel", "keep", "()V"⟩, 39) := ⟨⟨by decide +kernel, by decide +kernel⟩, List.mem_of_getElem? (i := 843) (by decide +kernel), List.mem_of_getElem? (i := 1238) (by decide +kernel), List.mem_of_getElem? (i := 1239) (by decide +kernel)⟩
def lw_privs_5 : List (MethodName × Nat) := [(⟨"NumbersInheritedModel", "barredOf", "(III)I"⟩, 39), (⟨"NumbersInheritedModel", "reached", "(II)I"⟩, 39), (⟨"NumbersInheritedModel", "unpaid", "(II)I"⟩, 39), (⟨"NumbersInheritedModel", "otherwise", "(III)I"⟩, 39), (⟨"NumbersInheritedModel", "kinds", "(III)I"⟩, 39), (⟨"NumbersInheritedModel", "isSo", "(III)Z"⟩, 39), (⟨"NumbersInheritedModel", "mores", "(III)I"⟩, 39), (⟨"NumbersInheritedModel", "rules", "(III)I"⟩, 39), (⟨"NumbersInheritedModel", "owns", "(IIIZ)I"⟩, 39), (⟨"NumbersInheritedModel", "draw", "(I)I"⟩, 39), (⟨"NumbersInheritedModel", "keep", "()V"⟩, 39)]
theorem lw_r5 : ∀ q ∈ lw_privs_5, lw_okq q := List.forall_mem_cons.mpr ⟨lw_p64, List.forall_mem_cons.mpr ⟨lw_p65, List.forall_mem_cons.mpr ⟨lw_p66, List.forall_mem_cons.mpr ⟨lw_p67, List.forall_mem_cons.mpr ⟨lw_p68, List.forall_mem_cons.mpr ⟨lw_p69, List.forall_mem_cons.mpr ⟨lw_p70, List.forall_mem_cons.mpr ⟨lw_p71, List.forall_mem_cons.mpr ⟨lw_p72, List.forall_mem_cons.mpr ⟨lw_p73, List.forall_mem_cons.mpr ⟨lw_p74, fun _ h => absurd h List.not_mem_nil⟩⟩⟩⟩⟩⟩⟩⟩⟩⟩⟩
def lw_privs : List (MethodName × Nat) := lw_privs_1 ++ (lw_privs_2 ++ (lw_privs_3 ++ (lw_privs_4 ++ (lw_privs_5))))
def lw_tbl : List Cond := k2_sels lw_privs ++ tables_1
theorem lw_privs_ok : ∀ q ∈ lw_privs, lw_okq q := by
  show ∀ q ∈ lw_privs_1 ++ (lw_privs_2 ++ (lw_privs_3 ++ (lw_privs_4 ++ (lw_privs_5)))), lw_okq q
  exact List.forall_mem_append.mpr ⟨lw_r1, List.forall_mem_append.mpr ⟨lw_r2, List.forall_mem_append.mpr ⟨lw_r3, List.forall_mem_append.mpr ⟨lw_r4, lw_r5⟩⟩⟩⟩
def va_AOA (ty : FieldType) (U : State) : Prop := (Cond.arrayOver (.array ty)).before #[] U = true
theorem va_AOA.use {ty : FieldType} {A : Array Value} {U : State} (h : va_AOA ty U) : (Cond.arrayOver (.array ty)).before A U = true := h
theorem va_AOA.of {ty : FieldType} {A : Array Value} {U : State} (h : (Cond.arrayOver (.array ty)).before A U = true) : va_AOA ty U := h
theorem va_AOA.moved {ty : FieldType} {u U : State} (hvm : u.vm.Alike U.vm) (h : va_AOA ty u) : va_AOA ty U := by
  have h1 : (Cond.arrayOver (.array ty)).before #[] (u.setVm U.vm) = true := by rw [Cond.arrayOver_setVmC hvm]; exact h
  first | exact h1 | (unfold va_AOA Cond.before Cond.holds; unfold Cond.before Cond.holds at h1; simp only [Cond.value] at h1 ⊢; exact h1)
/-! ===== BEGIN words of one list among another's, by their places ===== -/
theorem goodIn_r {big : List Cond} (ws : List Cond) (ps : List Nat) (hp : ws = ps.filterMap (fun i => big[i]?)) (h : ws.all goodWord = true) : GoodIn big ws := by
  intro w hw
  have h1 := List.all_eq_true.mp h w hw
  rw [hp] at hw
  obtain ⟨i, -, hi⟩ := List.mem_filterMap.mp hw
  have hm : w ∈ big := by first | exact List.mem_of_getElem? hi | exact List.getElem?_mem hi
  exact ⟨hm, good_of_word h1⟩
theorem goodIn_app {big a b : List Cond} (ha : GoodIn big a) (hb : GoodIn big b) : GoodIn big (a ++ b) := fun w h => (List.mem_append.mp h).elim (ha w) (hb w)
theorem goodIn_ca {big a b : List Cond} {c : Cond} (ha : GoodIn big (c :: a)) (hb : GoodIn big b) : GoodIn big (c :: (a ++ b)) := fun w h => (List.mem_cons.mp h).elim (fun e => ha w (List.mem_cons.mpr (Or.inl e))) (fun h => (List.mem_append.mp h).elim (fun h => ha w (List.mem_cons.mpr (Or.inr h))) (hb w))
theorem goodIn_sub {big ws : List Cond} (hm : ∀ w ∈ ws, w ∈ big) (h : ws.all goodWord = true) : GoodIn big ws := fun w hw => ⟨hm w hw, good_of_word (List.all_eq_true.mp h w hw)⟩
/-! ===== END ===== -/

/-! ===== BEGIN new T[n][m]: the outer array a place, the inner ones among the pooled ===== -/
/-- f, but v at every address of l -/
def vr_up {α : Type} (f : Nat → α) (l : List Nat) (v : α) : Nat → α := fun a => if a ∈ l then v else f a
theorem vr_up_in {α : Type} {f : Nat → α} {l : List Nat} {v : α} {a : Nat} (h : a ∈ l) : vr_up f l v a = v := if_pos h
theorem vr_up_ne {α : Type} {f : Nat → α} {l : List Nat} {v : α} {a : Nat} (h : a ∉ l) : vr_up f l v a = f a := if_neg h
theorem vr_rows {L l : List Nat} {f : Nat → va_E} {e : va_E} (h : ∀ a, a ∈ l → a ∉ L) : va_pl L f ++ l.map (fun a => (a, e)) = va_pl (L ++ l) (vr_up f l e) := by
  unfold va_pl
  rw [List.map_append]
  congr 1
  · apply List.map_congr_left
    intro a ha
    rw [vr_up_ne (fun q => h a q ha)]
  · apply List.map_congr_left
    intro a ha
    rw [vr_up_in ha]
theorem vr_lay {X rows : va_W} {x : Nat × va_E} {pl : va_W} {D : va_G} {cl : List vw_C} {H : Heap} (hP : va_P D cl (((X ++ pl) ++ [x]) ++ rows) H) : va_P D cl ((X ++ [x]) ++ (pl ++ rows)) H := by
  rw [List.append_assoc (X ++ pl)] at hP
  have h := va_P.swap hP
  rw [← List.append_assoc X] at h
  have h2 := va_P.swap h
  rw [List.append_assoc (X ++ [x])] at h2
  exact h2
theorem vr_layD {X rows : va_W} {x : Nat × va_E} {pl : va_W} {A : Nat → Prop} (hD : va_D A (((X ++ pl) ++ [x]) ++ rows)) : va_D A ((X ++ [x]) ++ (pl ++ rows)) := by
  rw [List.append_assoc (X ++ pl)] at hD
  have h := va_D.swap hD
  rw [← List.append_assoc X] at h
  have h2 := va_D.swap h
  rw [List.append_assoc (X ++ [x])] at h2
  exact h2
theorem vr_outer (c : ClassId) (N h0 : Nat) : ∀ i : Nat, Jvm.Free.Multi.outerC c N h0 i = arrV c N (fun j => va_rf (if j < i then some (h0 + 1 + j) else none))
  | 0 => by
    show ({ cls := c, slots := Array.replicate N .null, vm := .none } : Cell) = _
    rw [arrV_new]
    refine congrArg (arrV c N) (funext fun j => ?_)
    simp [va_rf]
  | i + 1 => by
    show (Jvm.Free.Multi.outerC c N h0 i).setSlot i (.ref (h0 + 1 + i)) = _
    rw [vr_outer c N h0 i, arrV_store]
    refine congrArg (arrV c N) (funext fun j => ?_)
    by_cases e : j = i
    · subst e
      simp [updV, va_rf]
    · by_cases h : j < i
      · simp [updV, e, h, Nat.lt_succ_of_lt h]
      · simp [updV, e, h, show ¬ j < i + 1 by omega]
section VGM
variable {p : Program} {l : Launch} {e : Env} {R : Room} {s : State} {m : MethodId} {args : Array Value} {below : List Frame} {meth : Method} {c : Code} {H : Heap} {locs : List Loc} {cells slots : Nat} {Q : State → Prop}
variable {cc : ByteArray} {pc : Nat} {ls : Array Slot} {rest : List Value} {D : va_G} {cl : List vw_C} {A : Nat → Prop} {a : Nat} {tys : List (ClassId × FieldType)} {ws : va_W} {H0 : Heap}
theorem va_mna {X : va_W} {L : List Nat} {f : Nat → va_E} {cc : ByteArray} (hexec : p.tables.exec = Jvm.exec) (hb : c.code = cc) {own : String} {index : Nat} {ty : FieldType} {cy : ClassId} (hown : s.vm.findClass own = some m.cls) (hclink : (Cond.classLink own index ("[" ++ (FieldType.array ty).toString)).before args s = true) (hover : va_AOA ty s) (harr : (Cond.arrayClass ty).before args s = true) (hcy : s.vm.findClass (FieldType.array ty).toString = some cy)
    (hK : va_K D cl tys s) (hP : va_P D cl (X ++ va_pl L f) H) (hD : va_D A (X ++ va_pl L f)) (hS : va_S A H0 H locs) (hA : ∀ q, H0.size ≤ q → A q) {n k : Int32} {N' K' : Nat} {z : vp_A} (hn : ¬ n < 0) (hk : ¬ k < 0) (hN : n.toNatClampNeg = N') (hM : k.toNatClampNeg = K')
    (hb1 : N' * 4 ≤ 536870912) (hb2 : K' * componentBytes ty ≤ 536870912) (hb3 : K' ≤ 536870912) (hdf : fits ty (defaultValue ty) = true) (hdd : (defaultValue ty).isDefault = true) (hcells : cells + (1 + N') ≤ R.cells) (hslots : slots + (N' + N' * K') ≤ R.slots) (hz : ∀ c : ClassId, Jvm.Free.Multi.innerC c K' (defaultValue ty) = vp_cell c z) (hdg : decode cc pc = .ok (.multianewarray index 2, 4))
    (kk : ∀ (q : Nat) (r : Nat → Nat) (cA : ClassId) (H1 : Heap), (∀ i j : Nat, i < N' → j < N' → r i = r j → i = j) → (∀ i : Nat, i < N' → r i ∉ L) → va_K D cl (tys ++ [(cA, .array ty)]) s →
      va_P D cl ((X ++ [(q, .inl (cA, N', .inr (.inr (.inr (.inr (fun i => if i < N' then some (r i) else none))))))]) ++ va_pl (L ++ (List.range N').map r) (vr_up f ((List.range N').map r) (.inl (cy, z)))) H1 → va_D A ((X ++ [(q, .inl (cA, N', .inr (.inr (.inr (.inr (fun i => if i < N' then some (r i) else none))))))]) ++ va_pl (L ++ (List.range N').map r) (vr_up f ((List.range N').map r) (.inl (cy, z)))) → va_S A H0 H1 locs →
      W p l e R s m args below meth c H1 locs (cells + 1 + N') (slots + N' + N' * K') Q (F0 m (pc + 4) ls (.ref q :: rest))) : W p l e R s m args below meth c H locs cells slots Q (F0 m pc ls (.int k :: .int n :: rest)) := by
  subst hN
  subst hM
  intro T hT Xs
  obtain ⟨vm₁, cA, comp, -, fA, fC, hO, -, X', step⟩ := Xs.multianewarray2F hexec hown hclink (va_AOA.use hover) harr (g := F0 m pc ls (.int k :: .int n :: rest)) rfl (by rw [hb]; exact hdg) rfl hn hk hb1 hb2 hb3 hdf hdd hcells hslots
  have ec : some cy = some comp := hcy.symm.trans fC
  cases ec
  generalize hF : Jvm.Free.Multi.fill (T.setVm vm₁) cA cy n.toNatClampNeg k.toNatClampNeg (defaultValue ty) n.toNatClampNeg = F at X' step
  have hTh : (T.setVm vm₁).heap = H := hT
  obtain ⟨f1, f2, -, -⟩ := Jvm.Free.Multi.fill_facts (T.setVm vm₁) cA cy n.toNatClampNeg k.toNatClampNeg (defaultValue ty) n.toNatClampNeg
  rw [hF, hTh] at f1 f2
  have hold : ∀ x : Nat, x < H.size → F.heap[x]? = H[x]? := fun x hx => by
    have := Jvm.Free.Multi.fill_old (T.setVm vm₁) cA cy n.toNatClampNeg k.toNatClampNeg (defaultValue ty) (a := x) (by rw [hTh]; exact hx) n.toNatClampNeg
    rw [hF, hTh] at this
    exact this
  have hrow : ∀ j : Nat, j < n.toNatClampNeg → F.heap[H.size + 1 + j]? = some (vp_cell cy z) := fun j hj => by
    have := Jvm.Free.Multi.fill_inner (T.setVm vm₁) cA cy n.toNatClampNeg k.toNatClampNeg (defaultValue ty) n.toNatClampNeg j hj
    rw [hF, hTh, hz] at this
    exact this
  have hout : Jvm.Free.Multi.outerC cA n.toNatClampNeg H.size n.toNatClampNeg = vp_cell cA (n.toNatClampNeg, .inr (.inr (.inr (.inr (fun i => if i < n.toNatClampNeg then some (H.size + 1 + i) else none))))) := by
    rw [vp_cell_q]
    exact vr_outer cA n.toNatClampNeg H.size n.toNatClampNeg
  rw [hout] at f2
  have hlt : ∀ a, a ∈ L → a < H.size := fun a ha => by
    obtain ⟨k9, hk9⟩ := va_pl_get (X := X) (f := f) ha
    exact (hP k9 _ hk9).lt
  have hnl : ∀ i : Nat, i < n.toNatClampNeg → H.size + 1 + i ∉ L := fun i _ h => by
    have := hlt _ h
    omega
  have hnm : ∀ a, a ∈ (List.range n.toNatClampNeg).map (fun i => H.size + 1 + i) → a ∉ L := fun a ha h => by
    obtain ⟨i, -, rfl⟩ := List.mem_map.mp ha
    have := hlt _ h
    omega
  have hP0 : va_P D cl (X ++ va_pl L f) F.heap := hP.kept (fun k9 x hx => hold x.1 ((hP k9 x hx).lt))
  have hP1 : va_P D cl ((X ++ va_pl L f) ++ [(H.size, .inl (cA, n.toNatClampNeg, .inr (.inr (.inr (.inr (fun i => if i < n.toNatClampNeg then some (H.size + 1 + i) else none))))))]) F.heap := hP0.app (fun k9 x hx => by
    have h0 : k9 < 1 := (List.getElem?_eq_some_iff.mp hx).1
    rw [show k9 = 0 by omega] at hx
    cases hx
    exact f2)
  have hP2 : va_P D cl (((X ++ va_pl L f) ++ [(H.size, .inl (cA, n.toNatClampNeg, .inr (.inr (.inr (.inr (fun i => if i < n.toNatClampNeg then some (H.size + 1 + i) else none))))))]) ++ ((List.range n.toNatClampNeg).map (fun i => H.size + 1 + i)).map (fun a => (a, .inl (cy, z)))) F.heap := hP1.app (fun k9 x hx => by
    obtain ⟨a, ha, rfl⟩ := List.mem_map.mp (List.mem_of_getElem? hx)
    obtain ⟨i, hi, rfl⟩ := List.mem_map.mp ha
    exact hrow i (List.mem_range.mp hi))
  have hD2 : va_D A (((X ++ va_pl L f) ++ [(H.size, .inl (cA, n.toNatClampNeg, .inr (.inr (.inr (.inr (fun i => if i < n.toNatClampNeg then some (H.size + 1 + i) else none))))))]) ++ ((List.range n.toNatClampNeg).map (fun i => H.size + 1 + i)).map (fun a => (a, .inl (cy, z)))) := by
    have hD1 := hD.push (e := .inl (cA, n.toNatClampNeg, .inr (.inr (.inr (.inr (fun i => if i < n.toNatClampNeg then some (H.size + 1 + i) else none)))))) hP rfl (hA _ hS.1)
    generalize hW1 : (X ++ va_pl L f) ++ [(H.size, .inl (cA, n.toNatClampNeg, .inr (.inr (.inr (.inr (fun i => if i < n.toNatClampNeg then some (H.size + 1 + i) else none))))))] = W1 at hD1 hP1 ⊢
    have hle : ∀ (k9 : Nat) (x : Nat × va_E), W1[k9]? = some x → x.1 ≤ H.size := fun k9 x hx => by
      rw [← hW1] at hx
      by_cases hl : k9 < (X ++ va_pl L f).length
      · rw [List.getElem?_append_left hl] at hx
        exact Nat.le_of_lt ((hP k9 x hx).lt)
      · rw [List.getElem?_append_right (by omega)] at hx
        have h0 : k9 - (X ++ va_pl L f).length < 1 := (List.getElem?_eq_some_iff.mp hx).1
        rw [show k9 - (X ++ va_pl L f).length = 0 by omega] at hx
        cases hx
        exact Nat.le_refl _
    have hr : ∀ (k9 : Nat) (x : Nat × va_E), (((List.range n.toNatClampNeg).map (fun i => H.size + 1 + i)).map (fun a => ((a, .inl (cy, z)) : Nat × va_E)))[k9]? = some x → x.1 = H.size + 1 + k9 := fun k9 x hx => by
      rw [List.getElem?_map, List.getElem?_map] at hx
      by_cases h9 : k9 < n.toNatClampNeg
      · rw [List.getElem?_range h9] at hx
        cases hx
        rfl
      · have hn0 : (List.range n.toNatClampNeg)[k9]? = none := List.getElem?_eq_none (by rw [List.length_range]; omega)
        rw [hn0] at hx
        cases hx
    refine ⟨fun i j x y hi hj hxy => ?_, fun k9 x hx => ?_⟩
    · by_cases h1 : i < W1.length <;> by_cases h2 : j < W1.length
      · rw [List.getElem?_append_left h1] at hi
        rw [List.getElem?_append_left h2] at hj
        exact hD1.1 i j x y hi hj hxy
      · rw [List.getElem?_append_left h1] at hi
        rw [List.getElem?_append_right (by omega)] at hj
        have := hle _ _ hi
        have := hr _ _ hj
        omega
      · rw [List.getElem?_append_right (by omega)] at hi
        rw [List.getElem?_append_left h2] at hj
        have := hle _ _ hj
        have := hr _ _ hi
        omega
      · rw [List.getElem?_append_right (by omega)] at hi hj
        have := hr _ _ hi
        have := hr _ _ hj
        omega
    · by_cases h1 : k9 < W1.length
      · rw [List.getElem?_append_left h1] at hx
        exact hD1.2 k9 x hx
      · rw [List.getElem?_append_right (by omega)] at hx
        have := hr _ _ hx
        exact hA _ (by have := hS.1; omega)
  have hAr : ArrOfT s cA (.array ty) := fun N9 z9 => by
    obtain ⟨-, k9, hk9, cm9, hkk9⟩ := (hO 0 0 0).1
    exact ⟨(fun q hq => by cases hq), k9, hk9, cm9, hkk9⟩
  have hK2 : va_K D cl (tys ++ [(cA, .array ty)]) s := ⟨hK.1, fun k9 x hx => by
    by_cases hl : k9 < tys.length
    · rw [List.getElem?_append_left hl] at hx
      exact hK.2 k9 x hx
    · rw [List.getElem?_append_right (by omega)] at hx
      have h0 : k9 - tys.length < 1 := (List.getElem?_eq_some_iff.mp hx).1
      rw [show k9 - tys.length = 0 by omega] at hx
      cases hx
      exact ⟨hAr, fA⟩⟩
  obtain ⟨t, a1, b1⟩ := kk H.size (fun i => H.size + 1 + i) cA F.heap (fun i j _ _ h => by have h9 : H.size + 1 + i = H.size + 1 + j := h; omega) hnl hK2 (by rw [← vr_rows hnm]; exact vr_lay hP2) (by rw [← vr_rows hnm]; exact vr_layD hD2) ⟨by rw [f1]; have := hS.1; omega, fun x h1 h2 => (hold x (Nat.lt_of_lt_of_le h1 hS.1)).trans (hS.2.1 x h1 h2), hS.2.2⟩ F rfl X'
  refine ⟨t, step t ?_, b1⟩
  have e : T.heap.size = H.size := by rw [hT]
  rw [e]
  exact a1
end VGM
/-! ===== END ===== -/
def RX0 : String := "NumbersInherited$Heir"
def TX0 : u_T := fun k => match k with
  | 0 => ("NumbersInherited$Heir", "number", "I", false)
  | 1 => ("NumbersInherited$Heir", "kind", "I", false)
  | 2 => ("NumbersInherited$Heir", "more", "I", false)
  | _ => ("NumbersInherited$Heir", "own", "I", false)
def tyX0 : Nat → FieldType := fun k => match k with
  | 0 => .int
  | 1 => .int
  | 2 => .int
  | _ => .int
abbrev wsX00 : List Cond := u_ws RX0 TX0 4
theorem nmX0 : ∀ a, a < 4 → ∀ b, b < 4 → a ≠ b → (TX0 a).2.1 ≠ (TX0 b).2.1 := by decide +kernel
theorem tyX0_ok : ∀ k, k < 4 → parseFieldDescriptor (TX0 k).2.2.1 = some (tyX0 k) := by decide +kernel
abbrev cX0_init : ByteArray := prog_2_method_1_code
def yX0_init : MethodName := ⟨RX0, "<init>", "()V"⟩
abbrev cX0_become : ByteArray := prog_2_method_2_code
def yX0_become : MethodName := ⟨RX0, "become", "(LNumbersInherited$Heir;)V"⟩
abbrev cX0_sayable : ByteArray := prog_2_method_3_code
def yX0_sayable : MethodName := ⟨RX0, "sayable", "()I"⟩
abbrev cX0_costsFor : ByteArray := prog_2_method_4_code
def yX0_costsFor : MethodName := ⟨RX0, "costsFor", "(I)I"⟩
abbrev cX0_sums : ByteArray := prog_2_method_5_code
def yX0_sums : MethodName := ⟨RX0, "sums", "()I"⟩
abbrev cX0_rests : ByteArray := prog_2_method_6_code
def yX0_rests : MethodName := ⟨RX0, "rests", "()I"⟩
abbrev cX0_halves : ByteArray := prog_2_method_7_code
def yX0_halves : MethodName := ⟨RX0, "halves", "()I"⟩
abbrev cX0_above : ByteArray := prog_2_method_8_code
def yX0_above : MethodName := ⟨RX0, "above", "(I)I"⟩
abbrev cX0_drawOwn : ByteArray := prog_2_method_9_code
def yX0_drawOwn : MethodName := ⟨RX0, "drawOwn", "(I)I"⟩
def RX1 : String := "NumbersInherited$Image"
def TX1 : u_T := fun k => match k with
  | 0 => ("NumbersInherited$Image", "size", "I", false)
  | 1 => ("NumbersInherited$Image", "day", "I", false)
  | 2 => ("NumbersInherited$Image", "rule", "I", false)
  | 3 => ("NumbersInherited$Image", "mores", "[I", true)
  | _ => ("NumbersInherited$Image", "owns", "[I", true)
def tyX1 : Nat → FieldType := fun k => match k with
  | 0 => .int
  | 1 => .int
  | 2 => .int
  | 3 => .array .int
  | _ => .array .int
abbrev wsX10 : List Cond := u_ws RX1 TX1 5
theorem nmX1 : ∀ a, a < 5 → ∀ b, b < 5 → a ≠ b → (TX1 a).2.1 ≠ (TX1 b).2.1 := by decide +kernel
theorem tyX1_ok : ∀ k, k < 5 → parseFieldDescriptor (TX1 k).2.2.1 = some (tyX1 k) := by decide +kernel
abbrev cX1_init : ByteArray := prog_3_method_1_code
def yX1_init : MethodName := ⟨RX1, "<init>", "()V"⟩
def RX2 : String := "NumbersInherited$Law"
def TX2 : u_T := fun k => match k with
  | 0 => ("NumbersInherited$Law", "reader", "LNumbersInherited$Reader;", true)
  | 1 => ("NumbersInherited$Law", "codes", "[[I", true)
  | 2 => ("NumbersInherited$Law", "starts", "[[I", true)
  | 3 => ("NumbersInherited$Law", "names", "[I", true)
  | 4 => ("NumbersInherited$Law", "stack", "[I", true)
  | 5 => ("NumbersInherited$Law", "texts", "I", false)
  | 6 => ("NumbersInherited$Law", "rule", "I", false)
  | _ => ("NumbersInherited$Law", "day", "I", false)
def tyX2 : Nat → FieldType := fun k => match k with
  | 0 => .object "NumbersInherited$Reader"
  | 1 => .array (.array .int)
  | 2 => .array (.array .int)
  | 3 => .array .int
  | 4 => .array .int
  | 5 => .int
  | 6 => .int
  | _ => .int
abbrev wsX20 : List Cond := u_ws RX2 TX2 8
theorem nmX2 : ∀ a, a < 8 → ∀ b, b < 8 → a ≠ b → (TX2 a).2.1 ≠ (TX2 b).2.1 := by decide +kernel
theorem tyX2_ok : ∀ k, k < 8 → parseFieldDescriptor (TX2 k).2.2.1 = some (tyX2 k) := by decide +kernel
abbrev cX2_init : ByteArray := prog_4_method_1_code
def yX2_init : MethodName := ⟨RX2, "<init>", "()V"⟩
abbrev cX2_readText : ByteArray := prog_4_method_2_code
def yX2_readText : MethodName := ⟨RX2, "readText", "()I"⟩
abbrev cX2_costs : ByteArray := prog_4_method_3_code
def yX2_costs : MethodName := ⟨RX2, "costs", "(LNumbersInherited$Heir;I)I"⟩
abbrev cX2_isMeant : ByteArray := prog_4_method_4_code
def yX2_isMeant : MethodName := ⟨RX2, "isMeant", "(LNumbersInherited$Heir;I)Z"⟩
abbrev cX2_worthOf : ByteArray := prog_4_method_5_code
def yX2_worthOf : MethodName := ⟨RX2, "worthOf", "(LNumbersInherited$Heir;I)I"⟩
abbrev cX2_name : ByteArray := prog_4_method_6_code
def yX2_name : MethodName := ⟨RX2, "name", "(LNumbersInherited$Heir;II)V"⟩
abbrev cX2_bounded : ByteArray := prog_4_method_7_code
def yX2_bounded : MethodName := ⟨RX2, "bounded", "(I)I"⟩
abbrev cX2_value : ByteArray := prog_4_method_8_code
def yX2_value : MethodName := ⟨RX2, "value", "(I)I"⟩
abbrev cX2_operand : ByteArray := prog_4_method_9_code
def yX2_operand : MethodName := ⟨RX2, "operand", "(I)I"⟩
abbrev cX2_joined : ByteArray := prog_4_method_10_code
def yX2_joined : MethodName := ⟨RX2, "joined", "(III)I"⟩
def RX3 : String := "NumbersInherited$Paying"
def TX3 : u_T := fun k => match k with
  | 0 => ("NumbersInherited$Paying", "law", "LNumbersInherited$Law;", true)
  | 1 => ("NumbersInherited$Paying", "parts", "[I", true)
  | 2 => ("NumbersInherited$Paying", "weights", "[I", true)
  | 3 => ("NumbersInherited$Paying", "least", "[I", true)
  | 4 => ("NumbersInherited$Paying", "can", "[Z", true)
  | _ => ("NumbersInherited$Paying", "heard", "[Z", true)
def tyX3 : Nat → FieldType := fun k => match k with
  | 0 => .object "NumbersInherited$Law"
  | 1 => .array .int
  | 2 => .array .int
  | 3 => .array .int
  | 4 => .array .boolean
  | _ => .array .boolean
abbrev wsX30 : List Cond := u_ws RX3 TX3 6
theorem nmX3 : ∀ a, a < 6 → ∀ b, b < 6 → a ≠ b → (TX3 a).2.1 ≠ (TX3 b).2.1 := by decide +kernel
theorem tyX3_ok : ∀ k, k < 6 → parseFieldDescriptor (TX3 k).2.2.1 = some (tyX3 k) := by decide +kernel
abbrev cX3_init : ByteArray := prog_5_method_1_code
def yX3_init : MethodName := ⟨RX3, "<init>", "(LNumbersInherited$Law;)V"⟩
abbrev cX3_fillLeast : ByteArray := prog_5_method_2_code
def yX3_fillLeast : MethodName := ⟨RX3, "fillLeast", "(LNumbersInherited$Heir;LNumbersInherited$Heir;IZ)V"⟩
abbrev cX3_leastOf : ByteArray := prog_5_method_3_code
def yX3_leastOf : MethodName := ⟨RX3, "leastOf", "(I)I"⟩
abbrev cX3_fillParts : ByteArray := prog_5_method_4_code
def yX3_fillParts : MethodName := ⟨RX3, "fillParts", "(I)I"⟩
abbrev cX3_leastAt : ByteArray := prog_5_method_5_code
def yX3_leastAt : MethodName := ⟨RX3, "leastAt", "(II)I"⟩
abbrev cX3_fillCan : ByteArray := prog_5_method_6_code
def yX3_fillCan : MethodName := ⟨RX3, "fillCan", "(LNumbersInherited$Heir;LNumbersInherited$Heir;)V"⟩
abbrev cX3_payable : ByteArray := prog_5_method_7_code
def yX3_payable : MethodName := ⟨RX3, "payable", "(LNumbersInherited$Heir;LNumbersInherited$Heir;)I"⟩
abbrev cX3_hindered : ByteArray := prog_5_method_8_code
def yX3_hindered : MethodName := ⟨RX3, "hindered", "(LNumbersInherited$Heir;LNumbersInherited$Heir;I)I"⟩
abbrev cX3_hearNone : ByteArray := prog_5_method_9_code
def yX3_hearNone : MethodName := ⟨RX3, "hearNone", "()V"⟩
abbrev cX3_hear : ByteArray := prog_5_method_10_code
def yX3_hear : MethodName := ⟨RX3, "hear", "(LNumbersInherited$Heir;LNumbersInherited$Heir;)V"⟩
abbrev cX3_unheard : ByteArray := prog_5_method_11_code
def yX3_unheard : MethodName := ⟨RX3, "unheard", "()I"⟩
abbrev cX3_firstUnheard : ByteArray := prog_5_method_12_code
def yX3_firstUnheard : MethodName := ⟨RX3, "firstUnheard", "()I"⟩
abbrev cX3_firstOtherwise : ByteArray := prog_5_method_13_code
def yX3_firstOtherwise : MethodName := ⟨RX3, "firstOtherwise", "(LNumbersInherited$Sheet;LNumbersInherited$Heir;LNumbersInherited$Heir;)I"⟩
def RX4 : String := "NumbersInherited$Reader"
def TX4 : u_T := fun k => match k with
  | 0 => ("NumbersInherited$Reader", "bytes", "[I", true)
  | 1 => ("NumbersInherited$Reader", "size", "I", false)
  | 2 => ("NumbersInherited$Reader", "place", "I", false)
  | 3 => ("NumbersInherited$Reader", "token", "I", false)
  | 4 => ("NumbersInherited$Reader", "begin", "I", false)
  | 5 => ("NumbersInherited$Reader", "amount", "I", false)
  | 6 => ("NumbersInherited$Reader", "code", "[I", false)
  | _ => ("NumbersInherited$Reader", "written", "I", false)
def tyX4 : Nat → FieldType := fun k => match k with
  | 0 => .array .int
  | 1 => .int
  | 2 => .int
  | 3 => .int
  | 4 => .int
  | 5 => .int
  | 6 => .array .int
  | _ => .int
abbrev wsX40 : List Cond := u_ws RX4 TX4 8
theorem nmX4 : ∀ a, a < 8 → ∀ b, b < 8 → a ≠ b → (TX4 a).2.1 ≠ (TX4 b).2.1 := by decide +kernel
theorem tyX4_ok : ∀ k, k < 8 → parseFieldDescriptor (TX4 k).2.2.1 = some (tyX4 k) := by decide +kernel
abbrev cX4_init : ByteArray := prog_6_method_1_code
def yX4_init : MethodName := ⟨RX4, "<init>", "()V"⟩
abbrev cX4_put : ByteArray := prog_6_method_2_code
def yX4_put : MethodName := ⟨RX4, "put", "(I)Z"⟩
abbrev cX4_read : ByteArray := prog_6_method_3_code
def yX4_read : MethodName := ⟨RX4, "read", "([I[I)I"⟩
abbrev cX4_either : ByteArray := prog_6_method_4_code
def yX4_either : MethodName := ⟨RX4, "either", "(I)Z"⟩
abbrev cX4_both : ByteArray := prog_6_method_5_code
def yX4_both : MethodName := ⟨RX4, "both", "(I)Z"⟩
abbrev cX4_not : ByteArray := prog_6_method_6_code
def yX4_not : MethodName := ⟨RX4, "not", "(I)Z"⟩
abbrev cX4_compared : ByteArray := prog_6_method_7_code
def yX4_compared : MethodName := ⟨RX4, "compared", "(I)Z"⟩
abbrev cX4_sum : ByteArray := prog_6_method_8_code
def yX4_sum : MethodName := ⟨RX4, "sum", "(I)Z"⟩
abbrev cX4_term : ByteArray := prog_6_method_9_code
def yX4_term : MethodName := ⟨RX4, "term", "(I)Z"⟩
abbrev cX4_single : ByteArray := prog_6_method_10_code
def yX4_single : MethodName := ⟨RX4, "single", "(I)Z"⟩
abbrev cX4_bracket : ByteArray := prog_6_method_11_code
def yX4_bracket : MethodName := ⟨RX4, "bracket", "(I)Z"⟩
abbrev cX4_negated : ByteArray := prog_6_method_12_code
def yX4_negated : MethodName := ⟨RX4, "negated", "(I)Z"⟩
abbrev cX4_write : ByteArray := prog_6_method_13_code
def yX4_write : MethodName := ⟨RX4, "write", "(I)V"⟩
abbrev cX4_next : ByteArray := prog_6_method_14_code
def yX4_next : MethodName := ⟨RX4, "next", "()V"⟩
abbrev cX4_nextWord : ByteArray := prog_6_method_15_code
def yX4_nextWord : MethodName := ⟨RX4, "nextWord", "()V"⟩
abbrev cX4_nextNumber : ByteArray := prog_6_method_16_code
def yX4_nextNumber : MethodName := ⟨RX4, "nextNumber", "()V"⟩
abbrev cX4_stands : ByteArray := prog_6_method_17_code
def yX4_stands : MethodName := ⟨RX4, "stands", "(Ljava/lang/String;)Z"⟩
abbrev cX4_word : ByteArray := prog_6_method_18_code
def yX4_word : MethodName := ⟨RX4, "word", "(I)Ljava/lang/String;"⟩
abbrev cX4_isLetter : ByteArray := prog_6_method_19_code
def yX4_isLetter : MethodName := ⟨RX4, "isLetter", "(I)Z"⟩
abbrev cX4_isDigit : ByteArray := prog_6_method_20_code
def yX4_isDigit : MethodName := ⟨RX4, "isDigit", "(I)Z"⟩
abbrev cX4_isSign : ByteArray := prog_6_method_21_code
def yX4_isSign : MethodName := ⟨RX4, "isSign", "(I)Z"⟩
def RX5 : String := "NumbersInherited$Sheet"
def TX5 : u_T := fun k => match k with
  | 0 => ("NumbersInherited$Sheet", "sort", "I", false)
  | 1 => ("NumbersInherited$Sheet", "size", "I", false)
  | _ => ("NumbersInherited$Sheet", "items", "[I", true)
def tyX5 : Nat → FieldType := fun k => match k with
  | 0 => .int
  | 1 => .int
  | _ => .array .int
abbrev wsX50 : List Cond := u_ws RX5 TX5 3
theorem nmX5 : ∀ a, a < 3 → ∀ b, b < 3 → a ≠ b → (TX5 a).2.1 ≠ (TX5 b).2.1 := by decide +kernel
theorem tyX5_ok : ∀ k, k < 3 → parseFieldDescriptor (TX5 k).2.2.1 = some (tyX5 k) := by decide +kernel
abbrev cX5_init : ByteArray := prog_7_method_1_code
def yX5_init : MethodName := ⟨RX5, "<init>", "()V"⟩
abbrev cX5_lay : ByteArray := prog_7_method_2_code
def yX5_lay : MethodName := ⟨RX5, "lay", "(II)V"⟩
abbrev cX5_holds : ByteArray := prog_7_method_3_code
def yX5_holds : MethodName := ⟨RX5, "holds", "(I)Z"⟩
abbrev cX5_holdsRun : ByteArray := prog_7_method_4_code
def yX5_holdsRun : MethodName := ⟨RX5, "holdsRun", "(II)Z"⟩
abbrev cX5_at : ByteArray := prog_7_method_5_code
def yX5_at : MethodName := ⟨RX5, "at", "(I)I"⟩
abbrev cX5_put : ByteArray := prog_7_method_6_code
def yX5_put : MethodName := ⟨RX5, "put", "(II)V"⟩
abbrev cX5_tellsSums : ByteArray := prog_7_method_7_code
def yX5_tellsSums : MethodName := ⟨RX5, "tellsSums", "()Z"⟩
def RX6 : String := "NumbersInherited$Ways"
def TX6 : u_T := fun k => match k with
  | 0 => ("NumbersInherited$Ways", "paying", "LNumbersInherited$Paying;", true)
  | 1 => ("NumbersInherited$Ways", "toll", "[[I", true)
  | 2 => ("NumbersInherited$Ways", "cost", "[I", true)
  | 3 => ("NumbersInherited$Ways", "steps", "[I", true)
  | _ => ("NumbersInherited$Ways", "size", "I", false)
def tyX6 : Nat → FieldType := fun k => match k with
  | 0 => .object "NumbersInherited$Paying"
  | 1 => .array (.array .int)
  | 2 => .array .int
  | 3 => .array .int
  | _ => .int
abbrev wsX60 : List Cond := u_ws RX6 TX6 5
theorem nmX6 : ∀ a, a < 5 → ∀ b, b < 5 → a ≠ b → (TX6 a).2.1 ≠ (TX6 b).2.1 := by decide +kernel
theorem tyX6_ok : ∀ k, k < 5 → parseFieldDescriptor (TX6 k).2.2.1 = some (tyX6 k) := by decide +kernel
abbrev cX6_init : ByteArray := prog_8_method_1_code
def yX6_init : MethodName := ⟨RX6, "<init>", "(LNumbersInherited$Paying;)V"⟩
abbrev cX6_lay : ByteArray := prog_8_method_2_code
def yX6_lay : MethodName := ⟨RX6, "lay", "([LNumbersInherited$Heir;II)V"⟩
abbrev cX6_walk : ByteArray := prog_8_method_3_code
def yX6_walk : MethodName := ⟨RX6, "walk", "(I)V"⟩
abbrev cX6_walkOn : ByteArray := prog_8_method_4_code
def yX6_walkOn : MethodName := ⟨RX6, "walkOn", "(I)V"⟩
abbrev cX6_isBetter : ByteArray := prog_8_method_5_code
def yX6_isBetter : MethodName := ⟨RX6, "isBetter", "(III)Z"⟩
abbrev cX6_costTo : ByteArray := prog_8_method_6_code
def yX6_costTo : MethodName := ⟨RX6, "costTo", "(I)I"⟩
abbrev cX6_stepsTo : ByteArray := prog_8_method_7_code
def yX6_stepsTo : MethodName := ⟨RX6, "stepsTo", "(I)I"⟩
abbrev cX6_partedWithout : ByteArray := prog_8_method_8_code
def yX6_partedWithout : MethodName := ⟨RX6, "partedWithout", "(I)I"⟩
abbrev cX6_reached : ByteArray := prog_8_method_9_code
def yX6_reached : MethodName := ⟨RX6, "reached", "(II)I"⟩
def RX7 : String := "NumbersInherited"
def TX7 : u_T := fun k => match k with
  | 0 => ("NumbersInherited", "family", "[LNumbersInherited$Heir;", true)
  | 1 => ("NumbersInherited", "sheets", "[LNumbersInherited$Sheet;", true)
  | 2 => ("NumbersInherited", "law", "LNumbersInherited$Law;", true)
  | 3 => ("NumbersInherited", "paying", "LNumbersInherited$Paying;", true)
  | 4 => ("NumbersInherited", "ways", "LNumbersInherited$Ways;", true)
  | 5 => ("NumbersInherited", "kept", "LNumbersInherited$Image;", true)
  | 6 => ("NumbersInherited", "asIf", "LNumbersInherited$Heir;", true)
  | 7 => ("NumbersInherited", "asIfToo", "LNumbersInherited$Heir;", true)
  | _ => ("NumbersInherited", "size", "I", false)
def tyX7 : Nat → FieldType := fun k => match k with
  | 0 => .array (.object "NumbersInherited$Heir")
  | 1 => .array (.object "NumbersInherited$Sheet")
  | 2 => .object "NumbersInherited$Law"
  | 3 => .object "NumbersInherited$Paying"
  | 4 => .object "NumbersInherited$Ways"
  | 5 => .object "NumbersInherited$Image"
  | 6 => .object "NumbersInherited$Heir"
  | 7 => .object "NumbersInherited$Heir"
  | _ => .int
abbrev wsX70 : List Cond := u_ws RX7 TX7 9
theorem nmX7 : ∀ a, a < 9 → ∀ b, b < 9 → a ≠ b → (TX7 a).2.1 ≠ (TX7 b).2.1 := by decide +kernel
theorem tyX7_ok : ∀ k, k < 9 → parseFieldDescriptor (TX7 k).2.2.1 = some (tyX7 k) := by decide +kernel
abbrev cX7_init : ByteArray := prog_1_method_1_code
def yX7_init : MethodName := ⟨RX7, "<init>", "()V"⟩
abbrev cX7_set : ByteArray := prog_1_method_2_code
def yX7_set : MethodName := ⟨RX7, "set", "(III)I"⟩
abbrev cX7_heir : ByteArray := prog_1_method_3_code
def yX7_heir : MethodName := ⟨RX7, "heir", "(II)I"⟩
abbrev cX7_give : ByteArray := prog_1_method_4_code
def yX7_give : MethodName := ⟨RX7, "give", "(III)I"⟩
abbrev cX7_told : ByteArray := prog_1_method_5_code
def yX7_told : MethodName := ⟨RX7, "told", "(II)I"⟩
abbrev cX7_heirAt : ByteArray := prog_1_method_6_code
def yX7_heirAt : MethodName := ⟨RX7, "heirAt", "(I)LNumbersInherited$Heir;"⟩
abbrev cX7_setDay : ByteArray := prog_1_method_7_code
def yX7_setDay : MethodName := ⟨RX7, "setDay", "(I)I"⟩
abbrev cX7_setMore : ByteArray := prog_1_method_8_code
def yX7_setMore : MethodName := ⟨RX7, "setMore", "(LNumbersInherited$Heir;I)I"⟩
abbrev cX7_setOwn : ByteArray := prog_1_method_9_code
def yX7_setOwn : MethodName := ⟨RX7, "setOwn", "(LNumbersInherited$Heir;I)I"⟩
abbrev cX7_feed : ByteArray := prog_1_method_10_code
def yX7_feed : MethodName := ⟨RX7, "feed", "(I)I"⟩
abbrev cX7_text : ByteArray := prog_1_method_11_code
def yX7_text : MethodName := ⟨RX7, "text", "()I"⟩
abbrev cX7_force : ByteArray := prog_1_method_12_code
def yX7_force : MethodName := ⟨RX7, "force", "(I)I"⟩
abbrev cX7_says : ByteArray := prog_1_method_13_code
def yX7_says : MethodName := ⟨RX7, "says", "(III)I"⟩
abbrev cX7_common : ByteArray := prog_1_method_14_code
def yX7_common : MethodName := ⟨RX7, "common", "(II)I"⟩
abbrev cX7_pays : ByteArray := prog_1_method_15_code
def yX7_pays : MethodName := ⟨RX7, "pays", "(IIII)I"⟩
abbrev cX7_barred : ByteArray := prog_1_method_16_code
def yX7_barred : MethodName := ⟨RX7, "barred", "(III)I"⟩
abbrev cX7_silent : ByteArray := prog_1_method_17_code
def yX7_silent : MethodName := ⟨RX7, "silent", "(I)I"⟩
abbrev cX7_middle : ByteArray := prog_1_method_18_code
def yX7_middle : MethodName := ⟨RX7, "middle", "(II)I"⟩
abbrev cX7_leave : ByteArray := prog_1_method_19_code
def yX7_leave : MethodName := ⟨RX7, "leave", "(II)I"⟩
abbrev cX7_buy : ByteArray := prog_1_method_20_code
def yX7_buy : MethodName := ⟨RX7, "buy", "(III)I"⟩
abbrev cX7_pawn : ByteArray := prog_1_method_21_code
def yX7_pawn : MethodName := ⟨RX7, "pawn", "(III)I"⟩
abbrev cX7_worthOfLeaving : ByteArray := prog_1_method_22_code
def yX7_worthOfLeaving : MethodName := ⟨RX7, "worthOfLeaving", "(LNumbersInherited$Heir;LNumbersInherited$Heir;)I"⟩
abbrev cX7_rows : ByteArray := prog_1_method_23_code
def yX7_rows : MethodName := ⟨RX7, "rows", "(IIII)I"⟩
abbrev cX7_film : ByteArray := prog_1_method_24_code
def yX7_film : MethodName := ⟨RX7, "film", "(IIII)I"⟩
abbrev cX7_drawn : ByteArray := prog_1_method_25_code
def yX7_drawn : MethodName := ⟨RX7, "drawn", "(I)I"⟩
abbrev cX7_chance : ByteArray := prog_1_method_26_code
def yX7_chance : MethodName := ⟨RX7, "chance", "(III)J"⟩
abbrev cX7_image : ByteArray := prog_1_method_27_code
def yX7_image : MethodName := ⟨RX7, "image", "()I"⟩
abbrev cX7_back : ByteArray := prog_1_method_28_code
def yX7_back : MethodName := ⟨RX7, "back", "()I"⟩
abbrev cX7_count : ByteArray := prog_1_method_29_code
def yX7_count : MethodName := ⟨RX7, "count", "(I)I"⟩
abbrev cX7_kindsAsTold : ByteArray := prog_1_method_30_code
def yX7_kindsAsTold : MethodName := ⟨RX7, "kindsAsTold", "(LNumbersInherited$Sheet;LNumbersInherited$Heir;LNumbersInherited$Heir;)I"⟩
abbrev cX7_moresAsTold : ByteArray := prog_1_method_31_code
def yX7_moresAsTold : MethodName := ⟨RX7, "moresAsTold", "(LNumbersInherited$Sheet;LNumbersInherited$Heir;LNumbersInherited$Heir;)I"⟩
abbrev cX7_textsAsTold : ByteArray := prog_1_method_32_code
def yX7_textsAsTold : MethodName := ⟨RX7, "textsAsTold", "(LNumbersInherited$Sheet;LNumbersInherited$Heir;LNumbersInherited$Heir;)I"⟩
abbrev cX7_numbersThatMust : ByteArray := prog_1_method_33_code
def yX7_numbersThatMust : MethodName := ⟨RX7, "numbersThatMust", "(LNumbersInherited$Sheet;LNumbersInherited$Heir;LNumbersInherited$Heir;)I"⟩
abbrev cX7_numbersThatMay : ByteArray := prog_1_method_34_code
def yX7_numbersThatMay : MethodName := ⟨RX7, "numbersThatMay", "(LNumbersInherited$Sheet;LNumbersInherited$Heir;LNumbersInherited$Heir;)I"⟩
abbrev cX7_payableIfDrawn : ByteArray := prog_1_method_35_code
def yX7_payableIfDrawn : MethodName := ⟨RX7, "payableIfDrawn", "(ILNumbersInherited$Heir;LNumbersInherited$Heir;)I"⟩
abbrev cX7_commonMeasure : ByteArray := prog_1_method_36_code
def yX7_commonMeasure : MethodName := ⟨RX7, "commonMeasure", "(II)I"⟩
abbrev cX7_allOwn : ByteArray := prog_1_method_37_code
def yX7_allOwn : MethodName := ⟨RX7, "allOwn", "()I"⟩
abbrev cX7_sheet : ByteArray := prog_1_method_38_code
def yX7_sheet : MethodName := ⟨RX7, "sheet", "(III)I"⟩
abbrev cX7_cell : ByteArray := prog_1_method_39_code
def yX7_cell : MethodName := ⟨RX7, "cell", "(III)I"⟩
abbrev cX7_copy : ByteArray := prog_1_method_40_code
def yX7_copy : MethodName := ⟨RX7, "copy", "(IIIII)I"⟩
abbrev cX7_heirs : ByteArray := prog_1_method_41_code
def yX7_heirs : MethodName := ⟨RX7, "heirs", "(IIII)I"⟩
abbrev cX7_taken : ByteArray := prog_1_method_42_code
def yX7_taken : MethodName := ⟨RX7, "taken", "(II)I"⟩
abbrev cX7_sheetAt : ByteArray := prog_1_method_43_code
def yX7_sheetAt : MethodName := ⟨RX7, "sheetAt", "(I)LNumbersInherited$Sheet;"⟩
abbrev cX7_isUnder : ByteArray := prog_1_method_44_code
def yX7_isUnder : MethodName := ⟨RX7, "isUnder", "(II)Z"⟩
abbrev cX7_kindAbove : ByteArray := prog_1_method_45_code
def yX7_kindAbove : MethodName := ⟨RX7, "kindAbove", "(I)I"⟩
abbrev cX7_isNumber : ByteArray := prog_1_method_46_code
def yX7_isNumber : MethodName := ⟨RX7, "isNumber", "(I)Z"⟩
abbrev cX7_isSum : ByteArray := prog_1_method_47_code
def yX7_isSum : MethodName := ⟨RX7, "isSum", "(I)Z"⟩
abbrev cX7_bit : ByteArray := prog_1_method_48_code
def yX7_bit : MethodName := ⟨RX7, "bit", "(I)I"⟩
abbrev cX7_has : ByteArray := prog_1_method_49_code
def yX7_has : MethodName := ⟨RX7, "has", "(II)Z"⟩
abbrev cX7_truth : ByteArray := prog_1_method_50_code
def yX7_truth : MethodName := ⟨RX7, "truth", "(Z)I"⟩
def RX8 : String := "NumbersInheritedModel"
def TX8 : u_T := fun k => match k with
  | 0 => ("NumbersInheritedModel", "day", "I", false)
  | 1 => ("NumbersInheritedModel", "heirs", "I", false)
  | 2 => ("NumbersInheritedModel", "kind", "[I", true)
  | 3 => ("NumbersInheritedModel", "more", "[I", true)
  | 4 => ("NumbersInheritedModel", "own", "[I", true)
  | 5 => ("NumbersInheritedModel", "rule", "I", false)
  | 6 => ("NumbersInheritedModel", "taped", "I", false)
  | 7 => ("NumbersInheritedModel", "tape", "[I", true)
  | 8 => ("NumbersInheritedModel", "texts", "I", false)
  | 9 => ("NumbersInheritedModel", "begins", "[I", true)
  | 10 => ("NumbersInheritedModel", "length", "[I", true)
  | 11 => ("NumbersInheritedModel", "code", "[I", true)
  | 12 => ("NumbersInheritedModel", "coded", "I", false)
  | 13 => ("NumbersInheritedModel", "from", "I", false)
  | 14 => ("NumbersInheritedModel", "to", "I", false)
  | 15 => ("NumbersInheritedModel", "token", "I", false)
  | 16 => ("NumbersInheritedModel", "value", "I", false)
  | 17 => ("NumbersInheritedModel", "word", "I", false)
  | 18 => ("NumbersInheritedModel", "waits", "[I", true)
  | 19 => ("NumbersInheritedModel", "top", "I", false)
  | 20 => ("NumbersInheritedModel", "open", "I", false)
  | 21 => ("NumbersInheritedModel", "compared", "Z", false)
  | 22 => ("NumbersInheritedModel", "behind", "Z", false)
  | 23 => ("NumbersInheritedModel", "starts", "Z", false)
  | 24 => ("NumbersInheritedModel", "stack", "[I", true)
  | 25 => ("NumbersInheritedModel", "price", "[I", true)
  | 26 => ("NumbersInheritedModel", "least", "[I", true)
  | 27 => ("NumbersInheritedModel", "parts", "[I", true)
  | 28 => ("NumbersInheritedModel", "spoken", "[Z", true)
  | 29 => ("NumbersInheritedModel", "leg", "[I", true)
  | 30 => ("NumbersInheritedModel", "way", "[I", true)
  | 31 => ("NumbersInheritedModel", "steps", "[I", true)
  | 32 => ("NumbersInheritedModel", "imaged", "Z", false)
  | 33 => ("NumbersInheritedModel", "oldHeirs", "I", false)
  | 34 => ("NumbersInheritedModel", "old", "[I", true)
  | 35 => ("NumbersInheritedModel", "sheetSort", "[I", true)
  | 36 => ("NumbersInheritedModel", "sheetSize", "[I", true)
  | 37 => ("NumbersInheritedModel", "cells", "[I", true)
  | _ => ("NumbersInheritedModel", "kept", "[I", true)
def tyX8 : Nat → FieldType := fun k => match k with
  | 0 => .int
  | 1 => .int
  | 2 => .array .int
  | 3 => .array .int
  | 4 => .array .int
  | 5 => .int
  | 6 => .int
  | 7 => .array .int
  | 8 => .int
  | 9 => .array .int
  | 10 => .array .int
  | 11 => .array .int
  | 12 => .int
  | 13 => .int
  | 14 => .int
  | 15 => .int
  | 16 => .int
  | 17 => .int
  | 18 => .array .int
  | 19 => .int
  | 20 => .int
  | 21 => .boolean
  | 22 => .boolean
  | 23 => .boolean
  | 24 => .array .int
  | 25 => .array .int
  | 26 => .array .int
  | 27 => .array .int
  | 28 => .array .boolean
  | 29 => .array .int
  | 30 => .array .int
  | 31 => .array .int
  | 32 => .boolean
  | 33 => .int
  | 34 => .array .int
  | 35 => .array .int
  | 36 => .array .int
  | 37 => .array .int
  | _ => .array .int
abbrev wsX80 : List Cond := u_ws RX8 TX8 39
theorem nmX8 : ∀ a, a < 39 → ∀ b, b < 39 → a ≠ b → (TX8 a).2.1 ≠ (TX8 b).2.1 := by decide +kernel
theorem tyX8_ok : ∀ k, k < 39 → parseFieldDescriptor (TX8 k).2.2.1 = some (tyX8 k) := by decide +kernel
abbrev cX8_init : ByteArray := prog_10_method_1_code
def yX8_init : MethodName := ⟨RX8, "<init>", "()V"⟩
abbrev cX8_within : ByteArray := prog_10_method_2_code
def yX8_within : MethodName := ⟨RX8, "within", "(III)Z"⟩
abbrev cX8_bitsOf : ByteArray := prog_10_method_3_code
def yX8_bitsOf : MethodName := ⟨RX8, "bitsOf", "(I)I"⟩
abbrev cX8_has : ByteArray := prog_10_method_4_code
def yX8_has : MethodName := ⟨RX8, "has", "(II)Z"⟩
abbrev cX8_isHeir : ByteArray := prog_10_method_5_code
def yX8_isHeir : MethodName := ⟨RX8, "isHeir", "(I)Z"⟩
abbrev cX8_areTwo : ByteArray := prog_10_method_6_code
def yX8_areTwo : MethodName := ⟨RX8, "areTwo", "(II)Z"⟩
abbrev cX8_isNumber : ByteArray := prog_10_method_7_code
def yX8_isNumber : MethodName := ⟨RX8, "isNumber", "(I)Z"⟩
abbrev cX8_isSum : ByteArray := prog_10_method_8_code
def yX8_isSum : MethodName := ⟨RX8, "isSum", "(I)Z"⟩
abbrev cX8_isSheet : ByteArray := prog_10_method_9_code
def yX8_isSheet : MethodName := ⟨RX8, "isSheet", "(I)Z"⟩
abbrev cX8_may : ByteArray := prog_10_method_10_code
def yX8_may : MethodName := ⟨RX8, "may", "(II)Z"⟩
abbrev cX8_get : ByteArray := prog_10_method_11_code
def yX8_get : MethodName := ⟨RX8, "get", "(II)I"⟩
abbrev cX8_set : ByteArray := prog_10_method_12_code
def yX8_set : MethodName := ⟨RX8, "set", "(III)I"⟩
abbrev cX8_heir : ByteArray := prog_10_method_13_code
def yX8_heir : MethodName := ⟨RX8, "heir", "(II)I"⟩
abbrev cX8_give : ByteArray := prog_10_method_14_code
def yX8_give : MethodName := ⟨RX8, "give", "(III)I"⟩
abbrev cX8_told : ByteArray := prog_10_method_15_code
def yX8_told : MethodName := ⟨RX8, "told", "(II)I"⟩
abbrev cX8_feed : ByteArray := prog_10_method_16_code
def yX8_feed : MethodName := ⟨RX8, "feed", "(I)I"⟩
abbrev cX8_isLetter : ByteArray := prog_10_method_17_code
def yX8_isLetter : MethodName := ⟨RX8, "isLetter", "(I)Z"⟩
abbrev cX8_isDigit : ByteArray := prog_10_method_18_code
def yX8_isDigit : MethodName := ⟨RX8, "isDigit", "(I)Z"⟩
abbrev cX8_isSign : ByteArray := prog_10_method_19_code
def yX8_isSign : MethodName := ⟨RX8, "isSign", "(I)Z"⟩
abbrev cX8_named : ByteArray := prog_10_method_20_code
def yX8_named : MethodName := ⟨RX8, "named", "()I"⟩
abbrev cX8_isKey : ByteArray := prog_10_method_21_code
def yX8_isKey : MethodName := ⟨RX8, "isKey", "()Z"⟩
abbrev cX8_next : ByteArray := prog_10_method_22_code
def yX8_next : MethodName := ⟨RX8, "next", "()V"⟩
abbrev cX8_takes : ByteArray := prog_10_method_23_code
def yX8_takes : MethodName := ⟨RX8, "takes", "(I)Z"⟩
abbrev cX8_codes : ByteArray := prog_10_method_24_code
def yX8_codes : MethodName := ⟨RX8, "codes", "(I)V"⟩
abbrev cX8_rank : ByteArray := prog_10_method_25_code
def yX8_rank : MethodName := ⟨RX8, "rank", "(I)I"⟩
abbrev cX8_lays : ByteArray := prog_10_method_26_code
def yX8_lays : MethodName := ⟨RX8, "lays", "(I)V"⟩
abbrev cX8_push : ByteArray := prog_10_method_27_code
def yX8_push : MethodName := ⟨RX8, "push", "(I)V"⟩
abbrev cX8_one : ByteArray := prog_10_method_28_code
def yX8_one : MethodName := ⟨RX8, "one", "(Z)Z"⟩
abbrev cX8_signed : ByteArray := prog_10_method_29_code
def yX8_signed : MethodName := ⟨RX8, "signed", "()I"⟩
abbrev cX8_closes : ByteArray := prog_10_method_30_code
def yX8_closes : MethodName := ⟨RX8, "closes", "()Z"⟩
abbrev cX8_goesOn : ByteArray := prog_10_method_31_code
def yX8_goesOn : MethodName := ⟨RX8, "goesOn", "()Z"⟩
abbrev cX8_part : ByteArray := prog_10_method_32_code
def yX8_part : MethodName := ⟨RX8, "part", "(II)Z"⟩
abbrev cX8_text : ByteArray := prog_10_method_33_code
def yX8_text : MethodName := ⟨RX8, "text", "()I"⟩
abbrev cX8_force : ByteArray := prog_10_method_34_code
def yX8_force : MethodName := ⟨RX8, "force", "(I)I"⟩
abbrev cX8_tells : ByteArray := prog_10_method_35_code
def yX8_tells : MethodName := ⟨RX8, "tells", "(III)I"⟩
abbrev cX8_bound : ByteArray := prog_10_method_36_code
def yX8_bound : MethodName := ⟨RX8, "bound", "(I)I"⟩
abbrev cX8_both : ByteArray := prog_10_method_37_code
def yX8_both : MethodName := ⟨RX8, "both", "(III)I"⟩
abbrev cX8_isOwn : ByteArray := prog_10_method_38_code
def yX8_isOwn : MethodName := ⟨RX8, "isOwn", "(II)Z"⟩
abbrev cX8_isSaid : ByteArray := prog_10_method_39_code
def yX8_isSaid : MethodName := ⟨RX8, "isSaid", "(II)Z"⟩
abbrev cX8_isMade : ByteArray := prog_10_method_40_code
def yX8_isMade : MethodName := ⟨RX8, "isMade", "(II)Z"⟩
abbrev cX8_sayable : ByteArray := prog_10_method_41_code
def yX8_sayable : MethodName := ⟨RX8, "sayable", "(I)I"⟩
abbrev cX8_one_ : ByteArray := prog_10_method_42_code
def yX8_one_ : MethodName := ⟨RX8, "one", "(I)I"⟩
abbrev cX8_costs : ByteArray := prog_10_method_43_code
def yX8_costs : MethodName := ⟨RX8, "costs", "(II)I"⟩
abbrev cX8_isMeant : ByteArray := prog_10_method_44_code
def yX8_isMeant : MethodName := ⟨RX8, "isMeant", "(II)Z"⟩
abbrev cX8_worthOf : ByteArray := prog_10_method_45_code
def yX8_worthOf : MethodName := ⟨RX8, "worthOf", "(II)I"⟩
abbrev cX8_says : ByteArray := prog_10_method_46_code
def yX8_says : MethodName := ⟨RX8, "says", "(III)I"⟩
abbrev cX8_common : ByteArray := prog_10_method_47_code
def yX8_common : MethodName := ⟨RX8, "common", "(II)I"⟩
abbrev cX8_sums : ByteArray := prog_10_method_48_code
def yX8_sums : MethodName := ⟨RX8, "sums", "(II)V"⟩
abbrev cX8_legs : ByteArray := prog_10_method_49_code
def yX8_legs : MethodName := ⟨RX8, "legs", "(I)V"⟩
abbrev cX8_ways : ByteArray := prog_10_method_50_code
def yX8_ways : MethodName := ⟨RX8, "ways", "(I)V"⟩
abbrev cX8_pays : ByteArray := prog_10_method_51_code
def yX8_pays : MethodName := ⟨RX8, "pays", "(IIII)I"⟩
abbrev cX8_barredOf : ByteArray := prog_10_method_52_code
def yX8_barredOf : MethodName := ⟨RX8, "barredOf", "(III)I"⟩
abbrev cX8_barred : ByteArray := prog_10_method_53_code
def yX8_barred : MethodName := ⟨RX8, "barred", "(III)I"⟩
abbrev cX8_silent : ByteArray := prog_10_method_54_code
def yX8_silent : MethodName := ⟨RX8, "silent", "(I)I"⟩
abbrev cX8_reached : ByteArray := prog_10_method_55_code
def yX8_reached : MethodName := ⟨RX8, "reached", "(II)I"⟩
abbrev cX8_middle : ByteArray := prog_10_method_56_code
def yX8_middle : MethodName := ⟨RX8, "middle", "(II)I"⟩
abbrev cX8_leave : ByteArray := prog_10_method_57_code
def yX8_leave : MethodName := ⟨RX8, "leave", "(II)I"⟩
abbrev cX8_buy : ByteArray := prog_10_method_58_code
def yX8_buy : MethodName := ⟨RX8, "buy", "(III)I"⟩
abbrev cX8_unpaid : ByteArray := prog_10_method_59_code
def yX8_unpaid : MethodName := ⟨RX8, "unpaid", "(II)I"⟩
abbrev cX8_pawn : ByteArray := prog_10_method_60_code
def yX8_pawn : MethodName := ⟨RX8, "pawn", "(III)I"⟩
abbrev cX8_otherwise : ByteArray := prog_10_method_61_code
def yX8_otherwise : MethodName := ⟨RX8, "otherwise", "(III)I"⟩
abbrev cX8_isSo : ByteArray := prog_10_method_62_code
def yX8_isSo : MethodName := ⟨RX8, "isSo", "(III)Z"⟩
abbrev cX8_rows : ByteArray := prog_10_method_63_code
def yX8_rows : MethodName := ⟨RX8, "rows", "(IIII)I"⟩
abbrev cX8_kinds : ByteArray := prog_10_method_64_code
def yX8_kinds : MethodName := ⟨RX8, "kinds", "(III)I"⟩
abbrev cX8_mores : ByteArray := prog_10_method_65_code
def yX8_mores : MethodName := ⟨RX8, "mores", "(III)I"⟩
abbrev cX8_rules : ByteArray := prog_10_method_66_code
def yX8_rules : MethodName := ⟨RX8, "rules", "(III)I"⟩
abbrev cX8_owns : ByteArray := prog_10_method_67_code
def yX8_owns : MethodName := ⟨RX8, "owns", "(IIIZ)I"⟩
abbrev cX8_film : ByteArray := prog_10_method_68_code
def yX8_film : MethodName := ⟨RX8, "film", "(IIII)I"⟩
abbrev cX8_draw : ByteArray := prog_10_method_69_code
def yX8_draw : MethodName := ⟨RX8, "draw", "(I)I"⟩
abbrev cX8_keep : ByteArray := prog_10_method_70_code
def yX8_keep : MethodName := ⟨RX8, "keep", "()V"⟩
abbrev cX8_drawn : ByteArray := prog_10_method_71_code
def yX8_drawn : MethodName := ⟨RX8, "drawn", "(I)I"⟩
abbrev cX8_chance : ByteArray := prog_10_method_72_code
def yX8_chance : MethodName := ⟨RX8, "chance", "(III)J"⟩
abbrev cX8_image : ByteArray := prog_10_method_73_code
def yX8_image : MethodName := ⟨RX8, "image", "()I"⟩
abbrev cX8_back : ByteArray := prog_10_method_74_code
def yX8_back : MethodName := ⟨RX8, "back", "()I"⟩
abbrev cX8_count : ByteArray := prog_10_method_75_code
def yX8_count : MethodName := ⟨RX8, "count", "(I)I"⟩
abbrev cX8_sheet : ByteArray := prog_10_method_76_code
def yX8_sheet : MethodName := ⟨RX8, "sheet", "(III)I"⟩
abbrev cX8_cell : ByteArray := prog_10_method_77_code
def yX8_cell : MethodName := ⟨RX8, "cell", "(III)I"⟩
abbrev cX8_copy : ByteArray := prog_10_method_78_code
def yX8_copy : MethodName := ⟨RX8, "copy", "(IIIII)I"⟩
abbrev cX8_heirs : ByteArray := prog_10_method_79_code
def yX8_heirs : MethodName := ⟨RX8, "heirs", "(IIII)I"⟩
abbrev cX8_taken : ByteArray := prog_10_method_80_code
def yX8_taken : MethodName := ⟨RX8, "taken", "(II)I"⟩
def RJ11 : String := "java/lang/Character"
def TJ11 : u_T := fun k => match k with
  | _ => ("", "", "", false)
def tyJ11 : Nat → FieldType := fun k => match k with
  | _ => .int
theorem tyJ11_ok : ∀ k, k < 0 → parseFieldDescriptor (TJ11 k).2.2.1 = some (tyJ11 k) := by decide +kernel
abbrev cJ11_isValidCodePoint_9a6ad : ByteArray := prog_11_method_11_code
def yJ11_isValidCodePoint_9a6ad : MethodName := ⟨RJ11, "isValidCodePoint", "(I)Z"⟩
abbrev cJ11_highSurrogate_5068e : ByteArray := prog_11_method_28_code
def yJ11_highSurrogate_5068e : MethodName := ⟨RJ11, "highSurrogate", "(I)C"⟩
abbrev cJ11_lowSurrogate_5068e : ByteArray := prog_11_method_29_code
def yJ11_lowSurrogate_5068e : MethodName := ⟨RJ11, "lowSurrogate", "(I)C"⟩
def RJ6 : String := "java/lang/Integer"
def TJ6 : u_T := fun k => match k with
  | _ => ("", "", "", false)
def tyJ6 : Nat → FieldType := fun k => match k with
  | _ => .int
theorem tyJ6_ok : ∀ k, k < 0 → parseFieldDescriptor (TJ6 k).2.2.1 = some (tyJ6 k) := by decide +kernel
abbrev cJ6_bitCount_0f7a4 : ByteArray := prog_12_method_49_code
def yJ6_bitCount_0f7a4 : MethodName := ⟨RJ6, "bitCount", "(I)I"⟩
def RJ9 : String := "java/lang/Math"
def TJ9 : u_T := fun k => match k with
  | _ => ("", "", "", false)
def tyJ9 : Nat → FieldType := fun k => match k with
  | _ => .int
theorem tyJ9_ok : ∀ k, k < 0 → parseFieldDescriptor (TJ9 k).2.2.1 = some (tyJ9 k) := by decide +kernel
abbrev cJ9_max_7cf53 : ByteArray := prog_13_method_65_code
def yJ9_max_7cf53 : MethodName := ⟨RJ9, "max", "(II)I"⟩
abbrev cJ9_min_7cf53 : ByteArray := prog_13_method_69_code
def yJ9_min_7cf53 : MethodName := ⟨RJ9, "min", "(II)I"⟩
def RJ0 : String := "java/lang/String"
def TJ0 : u_T := fun k => match k with
  | _ => ("", "", "", false)
def tyJ0 : Nat → FieldType := fun k => match k with
  | _ => .int
theorem tyJ0_ok : ∀ k, k < 0 → parseFieldDescriptor (TJ0 k).2.2.1 = some (tyJ0 k) := by decide +kernel
abbrev cJ0_length_8abf5 : ByteArray := prog_14_method_54_code
def yJ0_length_8abf5 : MethodName := ⟨RJ0, "length", "()I"⟩
abbrev cJ0_charAt_5068e : ByteArray := prog_14_method_56_code
def yJ0_charAt_5068e : MethodName := ⟨RJ0, "charAt", "(I)C"⟩
abbrev cJ0_indexOf_0f7a4 : ByteArray := prog_14_method_79_code
def yJ0_indexOf_0f7a4 : MethodName := ⟨RJ0, "indexOf", "(I)I"⟩
abbrev cJ0_indexOf_7cf53 : ByteArray := prog_14_method_80_code
def yJ0_indexOf_7cf53 : MethodName := ⟨RJ0, "indexOf", "(II)I"⟩
abbrev cJ0_coder_7d493 : ByteArray := prog_14_method_152_code
def yJ0_coder_7d493 : MethodName := ⟨RJ0, "coder", "()B"⟩
abbrev cJ0_isLatin1_aae02 : ByteArray := prog_14_method_154_code
def yJ0_isLatin1_aae02 : MethodName := ⟨RJ0, "isLatin1", "()Z"⟩
abbrev cJ0_checkIndex_df160 : ByteArray := prog_14_method_155_code
def yJ0_checkIndex_df160 : MethodName := ⟨RJ0, "checkIndex", "(II)V"⟩
abbrev cJ0_checkBoundsBeginEnd_23922 : ByteArray := prog_14_method_158_code
def yJ0_checkBoundsBeginEnd_23922 : MethodName := ⟨RJ0, "checkBoundsBeginEnd", "(III)V"⟩
def RJ1 : String := "java/lang/StringLatin1"
def TJ1 : u_T := fun k => match k with
  | _ => ("", "", "", false)
def tyJ1 : Nat → FieldType := fun k => match k with
  | _ => .int
theorem tyJ1_ok : ∀ k, k < 0 → parseFieldDescriptor (TJ1 k).2.2.1 = some (tyJ1 k) := by decide +kernel
abbrev cJ1_charAt_3b067 : ByteArray := prog_15_method_2_code
def yJ1_charAt_3b067 : MethodName := ⟨RJ1, "charAt", "([BI)C"⟩
abbrev cJ1_canEncode_9a6ad : ByteArray := prog_15_method_4_code
def yJ1_canEncode_9a6ad : MethodName := ⟨RJ1, "canEncode", "(I)Z"⟩
abbrev cJ1_indexOf_4cfef : ByteArray := prog_15_method_22_code
def yJ1_indexOf_4cfef : MethodName := ⟨RJ1, "indexOf", "([BIII)I"⟩
abbrev cJ1_indexOfChar_4cfef : ByteArray := prog_15_method_23_code
def yJ1_indexOfChar_4cfef : MethodName := ⟨RJ1, "indexOfChar", "([BIII)I"⟩
def RJ2 : String := "java/lang/StringUTF16"
def TJ2 : u_T := fun k => match k with
  | _ => ("", "", "", false)
def tyJ2 : Nat → FieldType := fun k => match k with
  | _ => .int
theorem tyJ2_ok : ∀ k, k < 0 → parseFieldDescriptor (TJ2 k).2.2.1 = some (tyJ2 k) := by decide +kernel
abbrev cJ2_getChar_3b067 : ByteArray := prog_16_method_5_code
def yJ2_getChar_3b067 : MethodName := ⟨RJ2, "getChar", "([BI)C"⟩
abbrev cJ2_length_9d52b : ByteArray := prog_16_method_6_code
def yJ2_length_9d52b : MethodName := ⟨RJ2, "length", "([B)I"⟩
abbrev cJ2_indexOf_4cfef : ByteArray := prog_16_method_40_code
def yJ2_indexOf_4cfef : MethodName := ⟨RJ2, "indexOf", "([BIII)I"⟩
abbrev cJ2_indexOfChar_4cfef : ByteArray := prog_16_method_47_code
def yJ2_indexOfChar_4cfef : MethodName := ⟨RJ2, "indexOfChar", "([BIII)I"⟩
abbrev cJ2_indexOfCharUnsafe_4cfef : ByteArray := prog_16_method_48_code
def yJ2_indexOfCharUnsafe_4cfef : MethodName := ⟨RJ2, "indexOfCharUnsafe", "([BIII)I"⟩
abbrev cJ2_indexOfSupplementary_4cfef : ByteArray := prog_16_method_49_code
def yJ2_indexOfSupplementary_4cfef : MethodName := ⟨RJ2, "indexOfSupplementary", "([BIII)I"⟩
abbrev cJ2_charAt_3b067 : ByteArray := prog_16_method_83_code
def yJ2_charAt_3b067 : MethodName := ⟨RJ2, "charAt", "([BI)C"⟩
abbrev cJ2_checkIndex_2214a : ByteArray := prog_16_method_91_code
def yJ2_checkIndex_2214a : MethodName := ⟨RJ2, "checkIndex", "(I[B)V"⟩
abbrev cJ2_checkBoundsBeginEnd_d044e : ByteArray := prog_16_method_93_code
def yJ2_checkBoundsBeginEnd_d044e : MethodName := ⟨RJ2, "checkBoundsBeginEnd", "(II[B)V"⟩
def RJ10 : String := "java/lang/System"
def TJ10 : u_T := fun k => match k with
  | _ => ("", "", "", false)
def tyJ10 : Nat → FieldType := fun k => match k with
  | _ => .int
theorem tyJ10_ok : ∀ k, k < 0 → parseFieldDescriptor (TJ10 k).2.2.1 = some (tyJ10 k) := by decide +kernel
def RJ3 : String := "jdk/internal/util/Preconditions"
def TJ3 : u_T := fun k => match k with
  | _ => ("", "", "", false)
def tyJ3 : Nat → FieldType := fun k => match k with
  | _ => .int
theorem tyJ3_ok : ∀ k, k < 0 → parseFieldDescriptor (TJ3 k).2.2.1 = some (tyJ3 k) := by decide +kernel
abbrev cJ3_checkIndex_8e157 : ByteArray := prog_18_method_11_code
def yJ3_checkIndex_8e157 : MethodName := ⟨RJ3, "checkIndex", "(IILjava/util/function/BiFunction;)I"⟩
abbrev cJ3_checkFromToIndex_8c36e : ByteArray := prog_18_method_12_code
def yJ3_checkFromToIndex_8c36e : MethodName := ⟨RJ3, "checkFromToIndex", "(IIILjava/util/function/BiFunction;)I"⟩
def RL : String := "NumbersInheritedLaw"
abbrev cL_law : ByteArray := code
def yL_law : MethodName := ⟨RL, "law", "([I)Z"⟩
abbrev vwCl : List vw_C := [(RX0, TX0, 4), (RX1, TX1, 5), (RX2, TX2, 8), (RX3, TX3, 6), (RX4, TX4, 8), (RX5, TX5, 3), (RX6, TX6, 5), (RX7, TX7, 9), (RX8, TX8, 39)]
