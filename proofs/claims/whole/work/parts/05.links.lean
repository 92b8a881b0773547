theorem zT_p (i : Nat) {w : Cond} (h : (k2_sels lw_privs)[i]? = some w) (g : goodWord w = true) : w ∈ zT := List.mem_filter.mpr ⟨List.mem_append_left _ (List.mem_of_getElem? h), g⟩
theorem zT_1 (i : Nat) {w : Cond} (h : tables_1_1[i]? = some w) (g : goodWord w = true) : w ∈ zT := List.mem_filter.mpr ⟨List.mem_append_right _ (List.mem_append_left _ (List.mem_of_getElem? h)), g⟩
theorem zT_2 (i : Nat) {w : Cond} (h : tables_1_2[i]? = some w) (g : goodWord w = true) : w ∈ zT := List.mem_filter.mpr ⟨List.mem_append_right _ (List.mem_append_right _ (List.mem_append_left _ (List.mem_of_getElem? h))), g⟩
theorem zT_3 (i : Nat) {w : Cond} (h : tables_1_3[i]? = some w) (g : goodWord w = true) : w ∈ zT := List.mem_filter.mpr ⟨List.mem_append_right _ (List.mem_append_right _ (List.mem_append_right _ (List.mem_append_left _ (List.mem_of_getElem? h)))), g⟩
theorem zT_4 (i : Nat) {w : Cond} (h : tables_1_4[i]? = some w) (g : goodWord w = true) : w ∈ zT := List.mem_filter.mpr ⟨List.mem_append_right _ (List.mem_append_right _ (List.mem_append_right _ (List.mem_append_right _ (List.mem_append_left _ (List.mem_of_getElem? h))))), g⟩
theorem zT_5 (i : Nat) {w : Cond} (h : tables_1_5[i]? = some w) (g : goodWord w = true) : w ∈ zT := List.mem_filter.mpr ⟨List.mem_append_right _ (List.mem_append_right _ (List.mem_append_right _ (List.mem_append_right _ (List.mem_append_right _ (List.mem_append_left _ (List.mem_of_getElem? h)))))), g⟩
theorem zT_6 (i : Nat) {w : Cond} (h : tables_1_6[i]? = some w) (g : goodWord w = true) : w ∈ zT := List.mem_filter.mpr ⟨List.mem_append_right _ (List.mem_append_right _ (List.mem_append_right _ (List.mem_append_right _ (List.mem_append_right _ (List.mem_append_right _ (List.mem_of_getElem? h)))))), g⟩
theorem zT_nm {a b c : String} (h : (a != "java/lang/invoke/MethodHandle" && a != "java/lang/invoke/VarHandle") = true) : a ≠ "java/lang/invoke/MethodHandle" ∧ a ≠ "java/lang/invoke/VarHandle" := by simpa using h
def mX7_init : zM := (yX7_init, cX7_init, 2, none, 56, 1892)
theorem mo_mX7_init : zMo mX7_init 0 := ⟨zT_1 22 (by decide +kernel) (by decide +kernel), zT_1 1 (by decide +kernel) (by decide +kernel), ⟨by decide +kernel, by decide +kernel, by decide +kernel⟩, by decide⟩
theorem pn_mX7_init : plainName mX7_init.1.cls = true := by decide +kernel
theorem in_mX7_init : Cond.instanceMethod mX7_init.1 ∈ zT ∧ mX7_init.1.name = "<init>" ∧ mX7_init.2.2.2.1 = none := ⟨zT_1 21 (by decide +kernel) (by decide +kernel), rfl, rfl⟩
def mX2_init : zM := (yX2_init, cX2_init, 2, none, 18, 1228)
theorem mo_mX2_init : zMo mX2_init 0 := ⟨zT_1 34 (by decide +kernel) (by decide +kernel), zT_1 2 (by decide +kernel) (by decide +kernel), ⟨by decide +kernel, by decide +kernel, by decide +kernel⟩, by decide⟩
theorem pn_mX2_init : plainName mX2_init.1.cls = true := by decide +kernel
theorem in_mX2_init : Cond.instanceMethod mX2_init.1 ∈ zT ∧ mX2_init.1.name = "<init>" ∧ mX2_init.2.2.2.1 = none := ⟨zT_1 33 (by decide +kernel) (by decide +kernel), rfl, rfl⟩
def mX4_init : zM := (yX4_init, cX4_init, 1, none, 1, 160)
theorem mo_mX4_init : zMo mX4_init 0 := ⟨zT_1 40 (by decide +kernel) (by decide +kernel), zT_1 3 (by decide +kernel) (by decide +kernel), ⟨by decide +kernel, by decide +kernel, by decide +kernel⟩, by decide⟩
theorem pn_mX4_init : plainName mX4_init.1.cls = true := by decide +kernel
theorem in_mX4_init : Cond.instanceMethod mX4_init.1 ∈ zT ∧ mX4_init.1.name = "<init>" ∧ mX4_init.2.2.2.1 = none := ⟨zT_1 39 (by decide +kernel) (by decide +kernel), rfl, rfl⟩
def mJ0_length_8abf5 : zM := (yJ0_length_8abf5, cJ0_length_8abf5, 1, some .int, 0, 0)
theorem mo_mJ0_length_8abf5 : zMo mJ0_length_8abf5 0 := ⟨zT_1 75 (by decide +kernel) (by decide +kernel), zT_1 4 (by decide +kernel) (by decide +kernel), ⟨by decide +kernel, by decide +kernel, by decide +kernel⟩, by decide⟩
theorem pn_mJ0_length_8abf5 : plainName mJ0_length_8abf5.1.cls = true := by decide +kernel
theorem mv_mJ0_length_8abf5 : zMv mJ0_length_8abf5 := ⟨zT_1 73 (by decide +kernel) (by decide +kernel), zT_1 74 (by decide +kernel) (by decide +kernel)⟩
def mJ0_coder_7d493 : zM := (yJ0_coder_7d493, cJ0_coder_7d493, 1, some .byte, 0, 0)
theorem mo_mJ0_coder_7d493 : zMo mJ0_coder_7d493 0 := ⟨zT_1 79 (by decide +kernel) (by decide +kernel), zT_1 4 (by decide +kernel) (by decide +kernel), ⟨by decide +kernel, by decide +kernel, by decide +kernel⟩, by decide⟩
theorem pn_mJ0_coder_7d493 : plainName mJ0_coder_7d493.1.cls = true := by decide +kernel
theorem mv_mJ0_coder_7d493 : zMv mJ0_coder_7d493 := ⟨zT_1 77 (by decide +kernel) (by decide +kernel), zT_1 78 (by decide +kernel) (by decide +kernel)⟩
def mJ0_charAt_5068e : zM := (yJ0_charAt_5068e, cJ0_charAt_5068e, 2, some .char, 0, 0)
theorem mo_mJ0_charAt_5068e : zMo mJ0_charAt_5068e 1 := ⟨zT_1 85 (by decide +kernel) (by decide +kernel), zT_1 4 (by decide +kernel) (by decide +kernel), ⟨by decide +kernel, by decide +kernel, by decide +kernel⟩, by decide⟩
theorem pn_mJ0_charAt_5068e : plainName mJ0_charAt_5068e.1.cls = true := by decide +kernel
theorem mv_mJ0_charAt_5068e : zMv mJ0_charAt_5068e := ⟨zT_1 83 (by decide +kernel) (by decide +kernel), zT_1 84 (by decide +kernel) (by decide +kernel)⟩
def mJ0_isLatin1_aae02 : zM := (yJ0_isLatin1_aae02, cJ0_isLatin1_aae02, 1, some .boolean, 0, 0)
theorem mo_mJ0_isLatin1_aae02 : zMo mJ0_isLatin1_aae02 0 := ⟨zT_1 89 (by decide +kernel) (by decide +kernel), zT_1 4 (by decide +kernel) (by decide +kernel), ⟨by decide +kernel, by decide +kernel, by decide +kernel⟩, by decide⟩
theorem pn_mJ0_isLatin1_aae02 : plainName mJ0_isLatin1_aae02.1.cls = true := by decide +kernel
theorem mv_mJ0_isLatin1_aae02 : zMv mJ0_isLatin1_aae02 := ⟨zT_1 87 (by decide +kernel) (by decide +kernel), zT_1 88 (by decide +kernel) (by decide +kernel)⟩
def mJ1_charAt_3b067 : zM := (yJ1_charAt_3b067, cJ1_charAt_3b067, 2, some .char, 0, 0)
theorem mo_mJ1_charAt_3b067 : zMo mJ1_charAt_3b067 2 := ⟨zT_1 92 (by decide +kernel) (by decide +kernel), zT_1 5 (by decide +kernel) (by decide +kernel), ⟨by decide +kernel, by decide +kernel, by decide +kernel⟩, by decide⟩
theorem pn_mJ1_charAt_3b067 : plainName mJ1_charAt_3b067.1.cls = true := by decide +kernel
theorem st_mJ1_charAt_3b067 : Cond.static mJ1_charAt_3b067.1 ∈ zT := zT_1 91 (by decide +kernel) (by decide +kernel)
def mJ0_checkIndex_df160 : zM := (yJ0_checkIndex_df160, cJ0_checkIndex_df160, 2, none, 0, 0)
theorem mo_mJ0_checkIndex_df160 : zMo mJ0_checkIndex_df160 2 := ⟨zT_1 95 (by decide +kernel) (by decide +kernel), zT_1 4 (by decide +kernel) (by decide +kernel), ⟨by decide +kernel, by decide +kernel, by decide +kernel⟩, by decide⟩
theorem pn_mJ0_checkIndex_df160 : plainName mJ0_checkIndex_df160.1.cls = true := by decide +kernel
theorem st_mJ0_checkIndex_df160 : Cond.static mJ0_checkIndex_df160.1 ∈ zT := zT_1 94 (by decide +kernel) (by decide +kernel)
def mJ3_checkIndex_8e157 : zM := (yJ3_checkIndex_8e157, cJ3_checkIndex_8e157, 3, some .int, 0, 0)
theorem mo_mJ3_checkIndex_8e157 : zMo mJ3_checkIndex_8e157 3 := ⟨zT_1 100 (by decide +kernel) (by decide +kernel), zT_1 6 (by decide +kernel) (by decide +kernel), ⟨by decide +kernel, by decide +kernel, by decide +kernel⟩, by decide⟩
theorem pn_mJ3_checkIndex_8e157 : plainName mJ3_checkIndex_8e157.1.cls = true := by decide +kernel
theorem st_mJ3_checkIndex_8e157 : Cond.static mJ3_checkIndex_8e157.1 ∈ zT := zT_1 99 (by decide +kernel) (by decide +kernel)
def mX4_put : zM := (yX4_put, cX4_put, 2, some .boolean, 0, 0)
theorem mo_mX4_put : zMo mX4_put 1 := ⟨zT_1 123 (by decide +kernel) (by decide +kernel), zT_1 3 (by decide +kernel) (by decide +kernel), ⟨by decide +kernel, by decide +kernel, by decide +kernel⟩, by decide⟩
theorem pn_mX4_put : plainName mX4_put.1.cls = true := by decide +kernel
theorem mv_mX4_put : zMv mX4_put := ⟨zT_1 121 (by decide +kernel) (by decide +kernel), zT_1 122 (by decide +kernel) (by decide +kernel)⟩
def mX2_readText : zM := (yX2_readText, cX2_readText, 2, some .int, 0, 0)
theorem mo_mX2_readText : zMo mX2_readText 0 := ⟨zT_1 127 (by decide +kernel) (by decide +kernel), zT_1 2 (by decide +kernel) (by decide +kernel), ⟨by decide +kernel, by decide +kernel, by decide +kernel⟩, by decide⟩
theorem pn_mX2_readText : plainName mX2_readText.1.cls = true := by decide +kernel
theorem mv_mX2_readText : zMv mX2_readText := ⟨zT_1 125 (by decide +kernel) (by decide +kernel), zT_1 126 (by decide +kernel) (by decide +kernel)⟩
def mX4_read : zM := (yX4_read, cX4_read, 4, some .int, 0, 0)
theorem mo_mX4_read : zMo mX4_read 2 := ⟨zT_1 131 (by decide +kernel) (by decide +kernel), zT_1 3 (by decide +kernel) (by decide +kernel), ⟨by decide +kernel, by decide +kernel, by decide +kernel⟩, by decide⟩
theorem pn_mX4_read : plainName mX4_read.1.cls = true := by decide +kernel
theorem mv_mX4_read : zMv mX4_read := ⟨zT_1 129 (by decide +kernel) (by decide +kernel), zT_1 130 (by decide +kernel) (by decide +kernel)⟩
def mX4_next : zM := (yX4_next, cX4_next, 2, none, 0, 0)
theorem mo_mX4_next : zMo mX4_next 0 := ⟨zT_1 135 (by decide +kernel) (by decide +kernel), zT_1 3 (by decide +kernel) (by decide +kernel), ⟨by decide +kernel, by decide +kernel, by decide +kernel⟩, by decide⟩
theorem pn_mX4_next : plainName mX4_next.1.cls = true := by decide +kernel
theorem mv_mX4_next : zMv mX4_next := ⟨zT_1 134 (by decide +kernel) (by decide +kernel), zT_p 0 (by decide +kernel) (by decide +kernel)⟩
def mX4_isLetter : zM := (yX4_isLetter, cX4_isLetter, 1, some .boolean, 0, 0)
theorem mo_mX4_isLetter : zMo mX4_isLetter 1 := ⟨zT_1 138 (by decide +kernel) (by decide +kernel), zT_1 3 (by decide +kernel) (by decide +kernel), ⟨by decide +kernel, by decide +kernel, by decide +kernel⟩, by decide⟩
theorem pn_mX4_isLetter : plainName mX4_isLetter.1.cls = true := by decide +kernel
theorem st_mX4_isLetter : Cond.static mX4_isLetter.1 ∈ zT := zT_1 137 (by decide +kernel) (by decide +kernel)
def mX4_nextWord : zM := (yX4_nextWord, cX4_nextWord, 2, none, 0, 0)
theorem mo_mX4_nextWord : zMo mX4_nextWord 0 := ⟨zT_1 142 (by decide +kernel) (by decide +kernel), zT_1 3 (by decide +kernel) (by decide +kernel), ⟨by decide +kernel, by decide +kernel, by decide +kernel⟩, by decide⟩
theorem pn_mX4_nextWord : plainName mX4_nextWord.1.cls = true := by decide +kernel
theorem mv_mX4_nextWord : zMv mX4_nextWord := ⟨zT_1 141 (by decide +kernel) (by decide +kernel), zT_p 1 (by decide +kernel) (by decide +kernel)⟩
def mX4_word : zM := (yX4_word, cX4_word, 1, some (.object "java/lang/String"), 0, 0)
theorem mo_mX4_word : zMo mX4_word 1 := ⟨zT_1 145 (by decide +kernel) (by decide +kernel), zT_1 3 (by decide +kernel) (by decide +kernel), ⟨by decide +kernel, by decide +kernel, by decide +kernel⟩, by decide⟩
theorem pn_mX4_word : plainName mX4_word.1.cls = true := by decide +kernel
theorem st_mX4_word : Cond.static mX4_word.1 ∈ zT := zT_1 144 (by decide +kernel) (by decide +kernel)
def mX4_stands : zM := (yX4_stands, cX4_stands, 3, some .boolean, 0, 0)
theorem mo_mX4_stands : zMo mX4_stands 1 := ⟨zT_1 161 (by decide +kernel) (by decide +kernel), zT_1 3 (by decide +kernel) (by decide +kernel), ⟨by decide +kernel, by decide +kernel, by decide +kernel⟩, by decide⟩
theorem pn_mX4_stands : plainName mX4_stands.1.cls = true := by decide +kernel
theorem mv_mX4_stands : zMv mX4_stands := ⟨zT_1 160 (by decide +kernel) (by decide +kernel), zT_p 2 (by decide +kernel) (by decide +kernel)⟩
def mX4_isDigit : zM := (yX4_isDigit, cX4_isDigit, 1, some .boolean, 0, 0)
theorem mo_mX4_isDigit : zMo mX4_isDigit 1 := ⟨zT_1 166 (by decide +kernel) (by decide +kernel), zT_1 3 (by decide +kernel) (by decide +kernel), ⟨by decide +kernel, by decide +kernel, by decide +kernel⟩, by decide⟩
theorem pn_mX4_isDigit : plainName mX4_isDigit.1.cls = true := by decide +kernel
theorem st_mX4_isDigit : Cond.static mX4_isDigit.1 ∈ zT := zT_1 165 (by decide +kernel) (by decide +kernel)
def mX4_nextNumber : zM := (yX4_nextNumber, cX4_nextNumber, 2, none, 0, 0)
theorem mo_mX4_nextNumber : zMo mX4_nextNumber 0 := ⟨zT_1 170 (by decide +kernel) (by decide +kernel), zT_1 3 (by decide +kernel) (by decide +kernel), ⟨by decide +kernel, by decide +kernel, by decide +kernel⟩, by decide⟩
theorem pn_mX4_nextNumber : plainName mX4_nextNumber.1.cls = true := by decide +kernel
theorem mv_mX4_nextNumber : zMv mX4_nextNumber := ⟨zT_1 169 (by decide +kernel) (by decide +kernel), zT_p 3 (by decide +kernel) (by decide +kernel)⟩
def mX4_isSign : zM := (yX4_isSign, cX4_isSign, 1, some .boolean, 0, 0)
theorem mo_mX4_isSign : zMo mX4_isSign 1 := ⟨zT_1 173 (by decide +kernel) (by decide +kernel), zT_1 3 (by decide +kernel) (by decide +kernel), ⟨by decide +kernel, by decide +kernel, by decide +kernel⟩, by decide⟩
theorem pn_mX4_isSign : plainName mX4_isSign.1.cls = true := by decide +kernel
theorem st_mX4_isSign : Cond.static mX4_isSign.1 ∈ zT := zT_1 172 (by decide +kernel) (by decide +kernel)
def mJ0_indexOf_0f7a4 : zM := (yJ0_indexOf_0f7a4, cJ0_indexOf_0f7a4, 2, some .int, 0, 0)
theorem mo_mJ0_indexOf_0f7a4 : zMo mJ0_indexOf_0f7a4 1 := ⟨zT_1 178 (by decide +kernel) (by decide +kernel), zT_1 4 (by decide +kernel) (by decide +kernel), ⟨by decide +kernel, by decide +kernel, by decide +kernel⟩, by decide⟩
theorem pn_mJ0_indexOf_0f7a4 : plainName mJ0_indexOf_0f7a4.1.cls = true := by decide +kernel
theorem mv_mJ0_indexOf_0f7a4 : zMv mJ0_indexOf_0f7a4 := ⟨zT_1 176 (by decide +kernel) (by decide +kernel), zT_1 177 (by decide +kernel) (by decide +kernel)⟩
def mJ0_indexOf_7cf53 : zM := (yJ0_indexOf_7cf53, cJ0_indexOf_7cf53, 3, some .int, 0, 0)
theorem mo_mJ0_indexOf_7cf53 : zMo mJ0_indexOf_7cf53 2 := ⟨zT_1 182 (by decide +kernel) (by decide +kernel), zT_1 4 (by decide +kernel) (by decide +kernel), ⟨by decide +kernel, by decide +kernel, by decide +kernel⟩, by decide⟩
theorem pn_mJ0_indexOf_7cf53 : plainName mJ0_indexOf_7cf53.1.cls = true := by decide +kernel
theorem mv_mJ0_indexOf_7cf53 : zMv mJ0_indexOf_7cf53 := ⟨zT_1 180 (by decide +kernel) (by decide +kernel), zT_1 181 (by decide +kernel) (by decide +kernel)⟩
def mJ1_indexOf_4cfef : zM := (yJ1_indexOf_4cfef, cJ1_indexOf_4cfef, 4, some .int, 0, 0)
theorem mo_mJ1_indexOf_4cfef : zMo mJ1_indexOf_4cfef 4 := ⟨zT_1 186 (by decide +kernel) (by decide +kernel), zT_1 5 (by decide +kernel) (by decide +kernel), ⟨by decide +kernel, by decide +kernel, by decide +kernel⟩, by decide⟩
theorem pn_mJ1_indexOf_4cfef : plainName mJ1_indexOf_4cfef.1.cls = true := by decide +kernel
theorem st_mJ1_indexOf_4cfef : Cond.static mJ1_indexOf_4cfef.1 ∈ zT := zT_1 185 (by decide +kernel) (by decide +kernel)
def mJ1_canEncode_9a6ad : zM := (yJ1_canEncode_9a6ad, cJ1_canEncode_9a6ad, 1, some .boolean, 0, 0)
theorem mo_mJ1_canEncode_9a6ad : zMo mJ1_canEncode_9a6ad 1 := ⟨zT_1 189 (by decide +kernel) (by decide +kernel), zT_1 5 (by decide +kernel) (by decide +kernel), ⟨by decide +kernel, by decide +kernel, by decide +kernel⟩, by decide⟩
theorem pn_mJ1_canEncode_9a6ad : plainName mJ1_canEncode_9a6ad.1.cls = true := by decide +kernel
theorem st_mJ1_canEncode_9a6ad : Cond.static mJ1_canEncode_9a6ad.1 ∈ zT := zT_1 188 (by decide +kernel) (by decide +kernel)
def mJ1_indexOfChar_4cfef : zM := (yJ1_indexOfChar_4cfef, cJ1_indexOfChar_4cfef, 6, some .int, 0, 0)
theorem mo_mJ1_indexOfChar_4cfef : zMo mJ1_indexOfChar_4cfef 4 := ⟨zT_1 198 (by decide +kernel) (by decide +kernel), zT_1 5 (by decide +kernel) (by decide +kernel), ⟨by decide +kernel, by decide +kernel, by decide +kernel⟩, by decide⟩
theorem pn_mJ1_indexOfChar_4cfef : plainName mJ1_indexOfChar_4cfef.1.cls = true := by decide +kernel
theorem st_mJ1_indexOfChar_4cfef : Cond.static mJ1_indexOfChar_4cfef.1 ∈ zT := zT_1 197 (by decide +kernel) (by decide +kernel)
def mJ0_checkBoundsBeginEnd_23922 : zM := (yJ0_checkBoundsBeginEnd_23922, cJ0_checkBoundsBeginEnd_23922, 3, none, 0, 0)
theorem mo_mJ0_checkBoundsBeginEnd_23922 : zMo mJ0_checkBoundsBeginEnd_23922 3 := ⟨zT_1 213 (by decide +kernel) (by decide +kernel), zT_1 4 (by decide +kernel) (by decide +kernel), ⟨by decide +kernel, by decide +kernel, by decide +kernel⟩, by decide⟩
theorem pn_mJ0_checkBoundsBeginEnd_23922 : plainName mJ0_checkBoundsBeginEnd_23922.1.cls = true := by decide +kernel
theorem st_mJ0_checkBoundsBeginEnd_23922 : Cond.static mJ0_checkBoundsBeginEnd_23922.1 ∈ zT := zT_1 212 (by decide +kernel) (by decide +kernel)
def mJ3_checkFromToIndex_8c36e : zM := (yJ3_checkFromToIndex_8c36e, cJ3_checkFromToIndex_8c36e, 4, some .int, 0, 0)
theorem mo_mJ3_checkFromToIndex_8c36e : zMo mJ3_checkFromToIndex_8c36e 4 := ⟨zT_1 216 (by decide +kernel) (by decide +kernel), zT_1 6 (by decide +kernel) (by decide +kernel), ⟨by decide +kernel, by decide +kernel, by decide +kernel⟩, by decide⟩
theorem pn_mJ3_checkFromToIndex_8c36e : plainName mJ3_checkFromToIndex_8c36e.1.cls = true := by decide +kernel
theorem st_mJ3_checkFromToIndex_8c36e : Cond.static mJ3_checkFromToIndex_8c36e.1 ∈ zT := zT_1 215 (by decide +kernel) (by decide +kernel)
def mX4_either : zM := (yX4_either, cX4_either, 3, some .boolean, 0, 0)
theorem mo_mX4_either : zMo mX4_either 1 := ⟨zT_1 237 (by decide +kernel) (by decide +kernel), zT_1 3 (by decide +kernel) (by decide +kernel), ⟨by decide +kernel, by decide +kernel, by decide +kernel⟩, by decide⟩
theorem pn_mX4_either : plainName mX4_either.1.cls = true := by decide +kernel
theorem mv_mX4_either : zMv mX4_either := ⟨zT_1 236 (by decide +kernel) (by decide +kernel), zT_p 4 (by decide +kernel) (by decide +kernel)⟩
def mX4_both : zM := (yX4_both, cX4_both, 3, some .boolean, 0, 0)
theorem mo_mX4_both : zMo mX4_both 1 := ⟨zT_2 1 (by decide +kernel) (by decide +kernel), zT_1 3 (by decide +kernel) (by decide +kernel), ⟨by decide +kernel, by decide +kernel, by decide +kernel⟩, by decide⟩
theorem pn_mX4_both : plainName mX4_both.1.cls = true := by decide +kernel
theorem mv_mX4_both : zMv mX4_both := ⟨zT_2 0 (by decide +kernel) (by decide +kernel), zT_p 5 (by decide +kernel) (by decide +kernel)⟩
def mX4_not : zM := (yX4_not, cX4_not, 2, some .boolean, 0, 0)
theorem mo_mX4_not : zMo mX4_not 1 := ⟨zT_2 5 (by decide +kernel) (by decide +kernel), zT_1 3 (by decide +kernel) (by decide +kernel), ⟨by decide +kernel, by decide +kernel, by decide +kernel⟩, by decide⟩
theorem pn_mX4_not : plainName mX4_not.1.cls = true := by decide +kernel
theorem mv_mX4_not : zMv mX4_not := ⟨zT_2 4 (by decide +kernel) (by decide +kernel), zT_p 6 (by decide +kernel) (by decide +kernel)⟩
def mX4_compared : zM := (yX4_compared, cX4_compared, 3, some .boolean, 0, 0)
theorem mo_mX4_compared : zMo mX4_compared 1 := ⟨zT_2 9 (by decide +kernel) (by decide +kernel), zT_1 3 (by decide +kernel) (by decide +kernel), ⟨by decide +kernel, by decide +kernel, by decide +kernel⟩, by decide⟩
theorem pn_mX4_compared : plainName mX4_compared.1.cls = true := by decide +kernel
theorem mv_mX4_compared : zMv mX4_compared := ⟨zT_2 8 (by decide +kernel) (by decide +kernel), zT_p 7 (by decide +kernel) (by decide +kernel)⟩
def mX4_sum : zM := (yX4_sum, cX4_sum, 4, some .boolean, 0, 0)
theorem mo_mX4_sum : zMo mX4_sum 1 := ⟨zT_2 13 (by decide +kernel) (by decide +kernel), zT_1 3 (by decide +kernel) (by decide +kernel), ⟨by decide +kernel, by decide +kernel, by decide +kernel⟩, by decide⟩
theorem pn_mX4_sum : plainName mX4_sum.1.cls = true := by decide +kernel
theorem mv_mX4_sum : zMv mX4_sum := ⟨zT_2 12 (by decide +kernel) (by decide +kernel), zT_p 8 (by decide +kernel) (by decide +kernel)⟩
def mX4_term : zM := (yX4_term, cX4_term, 3, some .boolean, 0, 0)
theorem mo_mX4_term : zMo mX4_term 1 := ⟨zT_2 17 (by decide +kernel) (by decide +kernel), zT_1 3 (by decide +kernel) (by decide +kernel), ⟨by decide +kernel, by decide +kernel, by decide +kernel⟩, by decide⟩
theorem pn_mX4_term : plainName mX4_term.1.cls = true := by decide +kernel
theorem mv_mX4_term : zMv mX4_term := ⟨zT_2 16 (by decide +kernel) (by decide +kernel), zT_p 9 (by decide +kernel) (by decide +kernel)⟩
def mX4_single : zM := (yX4_single, cX4_single, 2, some .boolean, 0, 0)
theorem mo_mX4_single : zMo mX4_single 1 := ⟨zT_2 21 (by decide +kernel) (by decide +kernel), zT_1 3 (by decide +kernel) (by decide +kernel), ⟨by decide +kernel, by decide +kernel, by decide +kernel⟩, by decide⟩
theorem pn_mX4_single : plainName mX4_single.1.cls = true := by decide +kernel
theorem mv_mX4_single : zMv mX4_single := ⟨zT_2 20 (by decide +kernel) (by decide +kernel), zT_p 10 (by decide +kernel) (by decide +kernel)⟩
def mX4_write : zM := (yX4_write, cX4_write, 2, none, 0, 0)
theorem mo_mX4_write : zMo mX4_write 1 := ⟨zT_2 25 (by decide +kernel) (by decide +kernel), zT_1 3 (by decide +kernel) (by decide +kernel), ⟨by decide +kernel, by decide +kernel, by decide +kernel⟩, by decide⟩
theorem pn_mX4_write : plainName mX4_write.1.cls = true := by decide +kernel
theorem mv_mX4_write : zMv mX4_write := ⟨zT_2 24 (by decide +kernel) (by decide +kernel), zT_p 11 (by decide +kernel) (by decide +kernel)⟩
def mX4_bracket : zM := (yX4_bracket, cX4_bracket, 2, some .boolean, 0, 0)
theorem mo_mX4_bracket : zMo mX4_bracket 1 := ⟨zT_2 29 (by decide +kernel) (by decide +kernel), zT_1 3 (by decide +kernel) (by decide +kernel), ⟨by decide +kernel, by decide +kernel, by decide +kernel⟩, by decide⟩
theorem pn_mX4_bracket : plainName mX4_bracket.1.cls = true := by decide +kernel
theorem mv_mX4_bracket : zMv mX4_bracket := ⟨zT_2 28 (by decide +kernel) (by decide +kernel), zT_p 12 (by decide +kernel) (by decide +kernel)⟩
def mX4_negated : zM := (yX4_negated, cX4_negated, 2, some .boolean, 0, 0)
theorem mo_mX4_negated : zMo mX4_negated 1 := ⟨zT_2 33 (by decide +kernel) (by decide +kernel), zT_1 3 (by decide +kernel) (by decide +kernel), ⟨by decide +kernel, by decide +kernel, by decide +kernel⟩, by decide⟩
theorem pn_mX4_negated : plainName mX4_negated.1.cls = true := by decide +kernel
theorem mv_mX4_negated : zMv mX4_negated := ⟨zT_2 32 (by decide +kernel) (by decide +kernel), zT_p 13 (by decide +kernel) (by decide +kernel)⟩
def mX3_init : zM := (yX3_init, cX3_init, 2, none, 5, 360)
theorem mo_mX3_init : zMo mX3_init 1 := ⟨zT_2 68 (by decide +kernel) (by decide +kernel), zT_1 10 (by decide +kernel) (by decide +kernel), ⟨by decide +kernel, by decide +kernel, by decide +kernel⟩, by decide⟩
theorem pn_mX3_init : plainName mX3_init.1.cls = true := by decide +kernel
theorem in_mX3_init : Cond.instanceMethod mX3_init.1 ∈ zT ∧ mX3_init.1.name = "<init>" ∧ mX3_init.2.2.2.1 = none := ⟨zT_2 67 (by decide +kernel) (by decide +kernel), rfl, rfl⟩
def mX6_init : zM := (yX6_init, cX6_init, 2, none, 9, 54)
theorem mo_mX6_init : zMo mX6_init 1 := ⟨zT_2 94 (by decide +kernel) (by decide +kernel), zT_1 11 (by decide +kernel) (by decide +kernel), ⟨by decide +kernel, by decide +kernel, by decide +kernel⟩, by decide⟩
theorem pn_mX6_init : plainName mX6_init.1.cls = true := by decide +kernel
theorem in_mX6_init : Cond.instanceMethod mX6_init.1 ∈ zT ∧ mX6_init.1.name = "<init>" ∧ mX6_init.2.2.2.1 = none := ⟨zT_2 93 (by decide +kernel) (by decide +kernel), rfl, rfl⟩
def mX1_init : zM := (yX1_init, cX1_init, 1, none, 2, 12)
theorem mo_mX1_init : zMo mX1_init 0 := ⟨zT_2 117 (by decide +kernel) (by decide +kernel), zT_1 12 (by decide +kernel) (by decide +kernel), ⟨by decide +kernel, by decide +kernel, by decide +kernel⟩, by decide⟩
theorem pn_mX1_init : plainName mX1_init.1.cls = true := by decide +kernel
theorem in_mX1_init : Cond.instanceMethod mX1_init.1 ∈ zT ∧ mX1_init.1.name = "<init>" ∧ mX1_init.2.2.2.1 = none := ⟨zT_2 116 (by decide +kernel) (by decide +kernel), rfl, rfl⟩
def mX0_init : zM := (yX0_init, cX0_init, 1, none, 0, 0)
theorem mo_mX0_init : zMo mX0_init 0 := ⟨zT_2 141 (by decide +kernel) (by decide +kernel), zT_1 13 (by decide +kernel) (by decide +kernel), ⟨by decide +kernel, by decide +kernel, by decide +kernel⟩, by decide⟩
theorem pn_mX0_init : plainName mX0_init.1.cls = true := by decide +kernel
theorem in_mX0_init : Cond.instanceMethod mX0_init.1 ∈ zT ∧ mX0_init.1.name = "<init>" ∧ mX0_init.2.2.2.1 = none := ⟨zT_2 140 (by decide +kernel) (by decide +kernel), rfl, rfl⟩
def mX5_init : zM := (yX5_init, cX5_init, 1, none, 1, 40)
theorem mo_mX5_init : zMo mX5_init 0 := ⟨zT_2 166 (by decide +kernel) (by decide +kernel), zT_1 14 (by decide +kernel) (by decide +kernel), ⟨by decide +kernel, by decide +kernel, by decide +kernel⟩, by decide⟩
theorem pn_mX5_init : plainName mX5_init.1.cls = true := by decide +kernel
theorem in_mX5_init : Cond.instanceMethod mX5_init.1 ∈ zT ∧ mX5_init.1.name = "<init>" ∧ mX5_init.2.2.2.1 = none := ⟨zT_2 165 (by decide +kernel) (by decide +kernel), rfl, rfl⟩
def mX7_set : zM := (yX7_set, cX7_set, 5, some .int, 0, 0)
theorem mo_mX7_set : zMo mX7_set 3 := ⟨zT_2 212 (by decide +kernel) (by decide +kernel), zT_1 1 (by decide +kernel) (by decide +kernel), ⟨by decide +kernel, by decide +kernel, by decide +kernel⟩, by decide⟩
theorem pn_mX7_set : plainName mX7_set.1.cls = true := by decide +kernel
theorem mv_mX7_set : zMv mX7_set := ⟨zT_2 210 (by decide +kernel) (by decide +kernel), zT_2 211 (by decide +kernel) (by decide +kernel)⟩
def mX7_setDay : zM := (yX7_setDay, cX7_setDay, 3, some .int, 0, 0)
theorem mo_mX7_setDay : zMo mX7_setDay 1 := ⟨zT_2 216 (by decide +kernel) (by decide +kernel), zT_1 1 (by decide +kernel) (by decide +kernel), ⟨by decide +kernel, by decide +kernel, by decide +kernel⟩, by decide⟩
theorem pn_mX7_setDay : plainName mX7_setDay.1.cls = true := by decide +kernel
theorem mv_mX7_setDay : zMv mX7_setDay := ⟨zT_2 215 (by decide +kernel) (by decide +kernel), zT_p 14 (by decide +kernel) (by decide +kernel)⟩
def mX7_heirAt : zM := (yX7_heirAt, cX7_heirAt, 2, some (.object "NumbersInherited$Heir"), 0, 0)
theorem mo_mX7_heirAt : zMo mX7_heirAt 1 := ⟨zT_2 220 (by decide +kernel) (by decide +kernel), zT_1 1 (by decide +kernel) (by decide +kernel), ⟨by decide +kernel, by decide +kernel, by decide +kernel⟩, by decide⟩
theorem pn_mX7_heirAt : plainName mX7_heirAt.1.cls = true := by decide +kernel
theorem mv_mX7_heirAt : zMv mX7_heirAt := ⟨zT_2 219 (by decide +kernel) (by decide +kernel), zT_p 15 (by decide +kernel) (by decide +kernel)⟩
def mX7_setMore : zM := (yX7_setMore, cX7_setMore, 3, some .int, 0, 0)
theorem mo_mX7_setMore : zMo mX7_setMore 2 := ⟨zT_2 223 (by decide +kernel) (by decide +kernel), zT_1 1 (by decide +kernel) (by decide +kernel), ⟨by decide +kernel, by decide +kernel, by decide +kernel⟩, by decide⟩
theorem pn_mX7_setMore : plainName mX7_setMore.1.cls = true := by decide +kernel
theorem st_mX7_setMore : Cond.static mX7_setMore.1 ∈ zT := zT_2 222 (by decide +kernel) (by decide +kernel)
def mX7_setOwn : zM := (yX7_setOwn, cX7_setOwn, 3, some .int, 0, 0)
theorem mo_mX7_setOwn : zMo mX7_setOwn 2 := ⟨zT_2 226 (by decide +kernel) (by decide +kernel), zT_1 1 (by decide +kernel) (by decide +kernel), ⟨by decide +kernel, by decide +kernel, by decide +kernel⟩, by decide⟩
theorem pn_mX7_setOwn : plainName mX7_setOwn.1.cls = true := by decide +kernel
theorem st_mX7_setOwn : Cond.static mX7_setOwn.1 ∈ zT := zT_2 225 (by decide +kernel) (by decide +kernel)
def mX7_heir : zM := (yX7_heir, cX7_heir, 4, some .int, 0, 0)
theorem mo_mX7_heir : zMo mX7_heir 2 := ⟨zT_2 231 (by decide +kernel) (by decide +kernel), zT_1 1 (by decide +kernel) (by decide +kernel), ⟨by decide +kernel, by decide +kernel, by decide +kernel⟩, by decide⟩
theorem pn_mX7_heir : plainName mX7_heir.1.cls = true := by decide +kernel
theorem mv_mX7_heir : zMv mX7_heir := ⟨zT_2 229 (by decide +kernel) (by decide +kernel), zT_2 230 (by decide +kernel) (by decide +kernel)⟩
def mX7_give : zM := (yX7_give, cX7_give, 6, some .int, 0, 0)
theorem mo_mX7_give : zMo mX7_give 3 := ⟨zT_2 235 (by decide +kernel) (by decide +kernel), zT_1 1 (by decide +kernel) (by decide +kernel), ⟨by decide +kernel, by decide +kernel, by decide +kernel⟩, by decide⟩
theorem pn_mX7_give : plainName mX7_give.1.cls = true := by decide +kernel
theorem mv_mX7_give : zMv mX7_give := ⟨zT_2 233 (by decide +kernel) (by decide +kernel), zT_2 234 (by decide +kernel) (by decide +kernel)⟩
def mX7_isNumber : zM := (yX7_isNumber, cX7_isNumber, 1, some .boolean, 0, 0)
theorem mo_mX7_isNumber : zMo mX7_isNumber 1 := ⟨zT_2 238 (by decide +kernel) (by decide +kernel), zT_1 1 (by decide +kernel) (by decide +kernel), ⟨by decide +kernel, by decide +kernel, by decide +kernel⟩, by decide⟩
theorem pn_mX7_isNumber : plainName mX7_isNumber.1.cls = true := by decide +kernel
theorem st_mX7_isNumber : Cond.static mX7_isNumber.1 ∈ zT := zT_2 237 (by decide +kernel) (by decide +kernel)
def mX7_has : zM := (yX7_has, cX7_has, 2, some .boolean, 0, 0)
theorem mo_mX7_has : zMo mX7_has 2 := ⟨zT_3 1 (by decide +kernel) (by decide +kernel), zT_1 1 (by decide +kernel) (by decide +kernel), ⟨by decide +kernel, by decide +kernel, by decide +kernel⟩, by decide⟩
theorem pn_mX7_has : plainName mX7_has.1.cls = true := by decide +kernel
theorem st_mX7_has : Cond.static mX7_has.1 ∈ zT := zT_3 0 (by decide +kernel) (by decide +kernel)
def mX7_bit : zM := (yX7_bit, cX7_bit, 1, some .int, 0, 0)
theorem mo_mX7_bit : zMo mX7_bit 1 := ⟨zT_3 4 (by decide +kernel) (by decide +kernel), zT_1 1 (by decide +kernel) (by decide +kernel), ⟨by decide +kernel, by decide +kernel, by decide +kernel⟩, by decide⟩
theorem pn_mX7_bit : plainName mX7_bit.1.cls = true := by decide +kernel
theorem st_mX7_bit : Cond.static mX7_bit.1 ∈ zT := zT_3 3 (by decide +kernel) (by decide +kernel)
def mJ6_bitCount_0f7a4 : zM := (yJ6_bitCount_0f7a4, cJ6_bitCount_0f7a4, 1, some .int, 0, 0)
theorem mo_mJ6_bitCount_0f7a4 : zMo mJ6_bitCount_0f7a4 1 := ⟨zT_3 7 (by decide +kernel) (by decide +kernel), zT_1 16 (by decide +kernel) (by decide +kernel), ⟨by decide +kernel, by decide +kernel, by decide +kernel⟩, by decide⟩
theorem pn_mJ6_bitCount_0f7a4 : plainName mJ6_bitCount_0f7a4.1.cls = true := by decide +kernel
theorem st_mJ6_bitCount_0f7a4 : Cond.static mJ6_bitCount_0f7a4.1 ∈ zT := zT_3 6 (by decide +kernel) (by decide +kernel)
def mX7_told : zM := (yX7_told, cX7_told, 4, some .int, 0, 0)
theorem mo_mX7_told : zMo mX7_told 2 := ⟨zT_3 14 (by decide +kernel) (by decide +kernel), zT_1 1 (by decide +kernel) (by decide +kernel), ⟨by decide +kernel, by decide +kernel, by decide +kernel⟩, by decide⟩
theorem pn_mX7_told : plainName mX7_told.1.cls = true := by decide +kernel
theorem mv_mX7_told : zMv mX7_told := ⟨zT_3 12 (by decide +kernel) (by decide +kernel), zT_3 13 (by decide +kernel) (by decide +kernel)⟩
def mX0_sayable : zM := (yX0_sayable, cX0_sayable, 1, some .int, 0, 0)
theorem mo_mX0_sayable : zMo mX0_sayable 0 := ⟨zT_3 18 (by decide +kernel) (by decide +kernel), zT_1 13 (by decide +kernel) (by decide +kernel), ⟨by decide +kernel, by decide +kernel, by decide +kernel⟩, by decide⟩
theorem pn_mX0_sayable : plainName mX0_sayable.1.cls = true := by decide +kernel
theorem mv_mX0_sayable : zMv mX0_sayable := ⟨zT_3 16 (by decide +kernel) (by decide +kernel), zT_3 17 (by decide +kernel) (by decide +kernel)⟩
def mX0_sums : zM := (yX0_sums, cX0_sums, 3, some .int, 0, 0)
theorem mo_mX0_sums : zMo mX0_sums 0 := ⟨zT_3 22 (by decide +kernel) (by decide +kernel), zT_1 13 (by decide +kernel) (by decide +kernel), ⟨by decide +kernel, by decide +kernel, by decide +kernel⟩, by decide⟩
theorem pn_mX0_sums : plainName mX0_sums.1.cls = true := by decide +kernel
theorem mv_mX0_sums : zMv mX0_sums := ⟨zT_3 21 (by decide +kernel) (by decide +kernel), zT_p 16 (by decide +kernel) (by decide +kernel)⟩
def mX0_halves : zM := (yX0_halves, cX0_halves, 3, some .int, 0, 0)
theorem mo_mX0_halves : zMo mX0_halves 0 := ⟨zT_3 28 (by decide +kernel) (by decide +kernel), zT_1 13 (by decide +kernel) (by decide +kernel), ⟨by decide +kernel, by decide +kernel, by decide +kernel⟩, by decide⟩
theorem pn_mX0_halves : plainName mX0_halves.1.cls = true := by decide +kernel
theorem mv_mX0_halves : zMv mX0_halves := ⟨zT_3 27 (by decide +kernel) (by decide +kernel), zT_p 17 (by decide +kernel) (by decide +kernel)⟩
def mX0_rests : zM := (yX0_rests, cX0_rests, 3, some .int, 0, 0)
theorem mo_mX0_rests : zMo mX0_rests 0 := ⟨zT_3 33 (by decide +kernel) (by decide +kernel), zT_1 13 (by decide +kernel) (by decide +kernel), ⟨by decide +kernel, by decide +kernel, by decide +kernel⟩, by decide⟩
theorem pn_mX0_rests : plainName mX0_rests.1.cls = true := by decide +kernel
theorem mv_mX0_rests : zMv mX0_rests := ⟨zT_3 32 (by decide +kernel) (by decide +kernel), zT_p 18 (by decide +kernel) (by decide +kernel)⟩
def mX0_above : zM := (yX0_above, cX0_above, 3, some .int, 0, 0)
theorem mo_mX0_above : zMo mX0_above 1 := ⟨zT_3 37 (by decide +kernel) (by decide +kernel), zT_1 13 (by decide +kernel) (by decide +kernel), ⟨by decide +kernel, by decide +kernel, by decide +kernel⟩, by decide⟩
theorem pn_mX0_above : plainName mX0_above.1.cls = true := by decide +kernel
theorem st_mX0_above : Cond.static mX0_above.1 ∈ zT := zT_3 36 (by decide +kernel) (by decide +kernel)
def mX7_feed : zM := (yX7_feed, cX7_feed, 2, some .int, 0, 0)
theorem mo_mX7_feed : zMo mX7_feed 1 := ⟨zT_3 41 (by decide +kernel) (by decide +kernel), zT_1 1 (by decide +kernel) (by decide +kernel), ⟨by decide +kernel, by decide +kernel, by decide +kernel⟩, by decide⟩
theorem pn_mX7_feed : plainName mX7_feed.1.cls = true := by decide +kernel
theorem mv_mX7_feed : zMv mX7_feed := ⟨zT_3 39 (by decide +kernel) (by decide +kernel), zT_3 40 (by decide +kernel) (by decide +kernel)⟩
def mX7_text : zM := (yX7_text, cX7_text, 2, some .int, 0, 0)
theorem mo_mX7_text : zMo mX7_text 0 := ⟨zT_3 46 (by decide +kernel) (by decide +kernel), zT_1 1 (by decide +kernel) (by decide +kernel), ⟨by decide +kernel, by decide +kernel, by decide +kernel⟩, by decide⟩
theorem pn_mX7_text : plainName mX7_text.1.cls = true := by decide +kernel
theorem mv_mX7_text : zMv mX7_text := ⟨zT_3 44 (by decide +kernel) (by decide +kernel), zT_3 45 (by decide +kernel) (by decide +kernel)⟩
def mX7_force : zM := (yX7_force, cX7_force, 3, some .int, 0, 0)
theorem mo_mX7_force : zMo mX7_force 1 := ⟨zT_3 51 (by decide +kernel) (by decide +kernel), zT_1 1 (by decide +kernel) (by decide +kernel), ⟨by decide +kernel, by decide +kernel, by decide +kernel⟩, by decide⟩
theorem pn_mX7_force : plainName mX7_force.1.cls = true := by decide +kernel
theorem mv_mX7_force : zMv mX7_force := ⟨zT_3 49 (by decide +kernel) (by decide +kernel), zT_3 50 (by decide +kernel) (by decide +kernel)⟩
def mX7_says : zM := (yX7_says, cX7_says, 5, some .int, 0, 0)
theorem mo_mX7_says : zMo mX7_says 3 := ⟨zT_3 55 (by decide +kernel) (by decide +kernel), zT_1 1 (by decide +kernel) (by decide +kernel), ⟨by decide +kernel, by decide +kernel, by decide +kernel⟩, by decide⟩
theorem pn_mX7_says : plainName mX7_says.1.cls = true := by decide +kernel
theorem mv_mX7_says : zMv mX7_says := ⟨zT_3 53 (by decide +kernel) (by decide +kernel), zT_3 54 (by decide +kernel) (by decide +kernel)⟩
def mX7_isSum : zM := (yX7_isSum, cX7_isSum, 1, some .boolean, 0, 0)
theorem mo_mX7_isSum : zMo mX7_isSum 1 := ⟨zT_3 58 (by decide +kernel) (by decide +kernel), zT_1 1 (by decide +kernel) (by decide +kernel), ⟨by decide +kernel, by decide +kernel, by decide +kernel⟩, by decide⟩
theorem pn_mX7_isSum : plainName mX7_isSum.1.cls = true := by decide +kernel
theorem st_mX7_isSum : Cond.static mX7_isSum.1 ∈ zT := zT_3 57 (by decide +kernel) (by decide +kernel)
def mX7_truth : zM := (yX7_truth, cX7_truth, 1, some .int, 0, 0)
theorem mo_mX7_truth : zMo mX7_truth 1 := ⟨zT_3 61 (by decide +kernel) (by decide +kernel), zT_1 1 (by decide +kernel) (by decide +kernel), ⟨by decide +kernel, by decide +kernel, by decide +kernel⟩, by decide⟩
theorem pn_mX7_truth : plainName mX7_truth.1.cls = true := by decide +kernel
theorem st_mX7_truth : Cond.static mX7_truth.1 ∈ zT := zT_3 60 (by decide +kernel) (by decide +kernel)
def mX2_costs : zM := (yX2_costs, cX2_costs, 3, some .int, 0, 0)
theorem mo_mX2_costs : zMo mX2_costs 2 := ⟨zT_3 65 (by decide +kernel) (by decide +kernel), zT_1 2 (by decide +kernel) (by decide +kernel), ⟨by decide +kernel, by decide +kernel, by decide +kernel⟩, by decide⟩
theorem pn_mX2_costs : plainName mX2_costs.1.cls = true := by decide +kernel
theorem mv_mX2_costs : zMv mX2_costs := ⟨zT_3 63 (by decide +kernel) (by decide +kernel), zT_3 64 (by decide +kernel) (by decide +kernel)⟩
def mX2_name : zM := (yX2_name, cX2_name, 4, none, 0, 0)
theorem mo_mX2_name : zMo mX2_name 3 := ⟨zT_3 71 (by decide +kernel) (by decide +kernel), zT_1 2 (by decide +kernel) (by decide +kernel), ⟨by decide +kernel, by decide +kernel, by decide +kernel⟩, by decide⟩
theorem pn_mX2_name : plainName mX2_name.1.cls = true := by decide +kernel
theorem mv_mX2_name : zMv mX2_name := ⟨zT_3 70 (by decide +kernel) (by decide +kernel), zT_p 19 (by decide +kernel) (by decide +kernel)⟩
def mX2_value : zM := (yX2_value, cX2_value, 7, some .int, 0, 0)
theorem mo_mX2_value : zMo mX2_value 1 := ⟨zT_3 76 (by decide +kernel) (by decide +kernel), zT_1 2 (by decide +kernel) (by decide +kernel), ⟨by decide +kernel, by decide +kernel, by decide +kernel⟩, by decide⟩
theorem pn_mX2_value : plainName mX2_value.1.cls = true := by decide +kernel
theorem mv_mX2_value : zMv mX2_value := ⟨zT_3 75 (by decide +kernel) (by decide +kernel), zT_p 20 (by decide +kernel) (by decide +kernel)⟩
def mX2_operand : zM := (yX2_operand, cX2_operand, 3, some .int, 0, 0)
theorem mo_mX2_operand : zMo mX2_operand 1 := ⟨zT_3 80 (by decide +kernel) (by decide +kernel), zT_1 2 (by decide +kernel) (by decide +kernel), ⟨by decide +kernel, by decide +kernel, by decide +kernel⟩, by decide⟩
theorem pn_mX2_operand : plainName mX2_operand.1.cls = true := by decide +kernel
theorem mv_mX2_operand : zMv mX2_operand := ⟨zT_3 79 (by decide +kernel) (by decide +kernel), zT_p 21 (by decide +kernel) (by decide +kernel)⟩
def mX2_joined : zM := (yX2_joined, cX2_joined, 3, some .int, 0, 0)
theorem mo_mX2_joined : zMo mX2_joined 3 := ⟨zT_3 83 (by decide +kernel) (by decide +kernel), zT_1 2 (by decide +kernel) (by decide +kernel), ⟨by decide +kernel, by decide +kernel, by decide +kernel⟩, by decide⟩
theorem pn_mX2_joined : plainName mX2_joined.1.cls = true := by decide +kernel
theorem st_mX2_joined : Cond.static mX2_joined.1 ∈ zT := zT_3 82 (by decide +kernel) (by decide +kernel)
def mX2_bounded : zM := (yX2_bounded, cX2_bounded, 1, some .int, 0, 0)
theorem mo_mX2_bounded : zMo mX2_bounded 1 := ⟨zT_3 86 (by decide +kernel) (by decide +kernel), zT_1 2 (by decide +kernel) (by decide +kernel), ⟨by decide +kernel, by decide +kernel, by decide +kernel⟩, by decide⟩
theorem pn_mX2_bounded : plainName mX2_bounded.1.cls = true := by decide +kernel
theorem st_mX2_bounded : Cond.static mX2_bounded.1 ∈ zT := zT_3 85 (by decide +kernel) (by decide +kernel)
def mX0_costsFor : zM := (yX0_costsFor, cX0_costsFor, 2, some .int, 0, 0)
theorem mo_mX0_costsFor : zMo mX0_costsFor 1 := ⟨zT_3 92 (by decide +kernel) (by decide +kernel), zT_1 13 (by decide +kernel) (by decide +kernel), ⟨by decide +kernel, by decide +kernel, by decide +kernel⟩, by decide⟩
theorem pn_mX0_costsFor : plainName mX0_costsFor.1.cls = true := by decide +kernel
theorem mv_mX0_costsFor : zMv mX0_costsFor := ⟨zT_3 90 (by decide +kernel) (by decide +kernel), zT_3 91 (by decide +kernel) (by decide +kernel)⟩
def mX2_isMeant : zM := (yX2_isMeant, cX2_isMeant, 3, some .boolean, 0, 0)
theorem mo_mX2_isMeant : zMo mX2_isMeant 2 := ⟨zT_3 96 (by decide +kernel) (by decide +kernel), zT_1 2 (by decide +kernel) (by decide +kernel), ⟨by decide +kernel, by decide +kernel, by decide +kernel⟩, by decide⟩
theorem pn_mX2_isMeant : plainName mX2_isMeant.1.cls = true := by decide +kernel
theorem mv_mX2_isMeant : zMv mX2_isMeant := ⟨zT_3 94 (by decide +kernel) (by decide +kernel), zT_3 95 (by decide +kernel) (by decide +kernel)⟩
def mX2_worthOf : zM := (yX2_worthOf, cX2_worthOf, 3, some .int, 0, 0)
theorem mo_mX2_worthOf : zMo mX2_worthOf 2 := ⟨zT_3 100 (by decide +kernel) (by decide +kernel), zT_1 2 (by decide +kernel) (by decide +kernel), ⟨by decide +kernel, by decide +kernel, by decide +kernel⟩, by decide⟩
theorem pn_mX2_worthOf : plainName mX2_worthOf.1.cls = true := by decide +kernel
theorem mv_mX2_worthOf : zMv mX2_worthOf := ⟨zT_3 98 (by decide +kernel) (by decide +kernel), zT_3 99 (by decide +kernel) (by decide +kernel)⟩
def mX7_common : zM := (yX7_common, cX7_common, 5, some .int, 0, 0)
theorem mo_mX7_common : zMo mX7_common 2 := ⟨zT_3 104 (by decide +kernel) (by decide +kernel), zT_1 1 (by decide +kernel) (by decide +kernel), ⟨by decide +kernel, by decide +kernel, by decide +kernel⟩, by decide⟩
theorem pn_mX7_common : plainName mX7_common.1.cls = true := by decide +kernel
theorem mv_mX7_common : zMv mX7_common := ⟨zT_3 102 (by decide +kernel) (by decide +kernel), zT_3 103 (by decide +kernel) (by decide +kernel)⟩
def mX7_pays : zM := (yX7_pays, cX7_pays, 7, some .int, 0, 0)
theorem mo_mX7_pays : zMo mX7_pays 4 := ⟨zT_3 108 (by decide +kernel) (by decide +kernel), zT_1 1 (by decide +kernel) (by decide +kernel), ⟨by decide +kernel, by decide +kernel, by decide +kernel⟩, by decide⟩
theorem pn_mX7_pays : plainName mX7_pays.1.cls = true := by decide +kernel
theorem mv_mX7_pays : zMv mX7_pays := ⟨zT_3 106 (by decide +kernel) (by decide +kernel), zT_3 107 (by decide +kernel) (by decide +kernel)⟩
def mX3_fillLeast : zM := (yX3_fillLeast, cX3_fillLeast, 7, none, 0, 0)
theorem mo_mX3_fillLeast : zMo mX3_fillLeast 4 := ⟨zT_3 112 (by decide +kernel) (by decide +kernel), zT_1 10 (by decide +kernel) (by decide +kernel), ⟨by decide +kernel, by decide +kernel, by decide +kernel⟩, by decide⟩
theorem pn_mX3_fillLeast : plainName mX3_fillLeast.1.cls = true := by decide +kernel
theorem mv_mX3_fillLeast : zMv mX3_fillLeast := ⟨zT_3 110 (by decide +kernel) (by decide +kernel), zT_3 111 (by decide +kernel) (by decide +kernel)⟩
def mX3_fillParts : zM := (yX3_fillParts, cX3_fillParts, 4, some .int, 0, 0)
theorem mo_mX3_fillParts : zMo mX3_fillParts 1 := ⟨zT_3 117 (by decide +kernel) (by decide +kernel), zT_1 10 (by decide +kernel) (by decide +kernel), ⟨by decide +kernel, by decide +kernel, by decide +kernel⟩, by decide⟩
theorem pn_mX3_fillParts : plainName mX3_fillParts.1.cls = true := by decide +kernel
theorem mv_mX3_fillParts : zMv mX3_fillParts := ⟨zT_3 116 (by decide +kernel) (by decide +kernel), zT_p 22 (by decide +kernel) (by decide +kernel)⟩
def mX3_leastAt : zM := (yX3_leastAt, cX3_leastAt, 6, some .int, 0, 0)
theorem mo_mX3_leastAt : zMo mX3_leastAt 2 := ⟨zT_3 123 (by decide +kernel) (by decide +kernel), zT_1 10 (by decide +kernel) (by decide +kernel), ⟨by decide +kernel, by decide +kernel, by decide +kernel⟩, by decide⟩
theorem pn_mX3_leastAt : plainName mX3_leastAt.1.cls = true := by decide +kernel
theorem mv_mX3_leastAt : zMv mX3_leastAt := ⟨zT_3 122 (by decide +kernel) (by decide +kernel), zT_p 23 (by decide +kernel) (by decide +kernel)⟩
def mX3_leastOf : zM := (yX3_leastOf, cX3_leastOf, 2, some .int, 0, 0)
theorem mo_mX3_leastOf : zMo mX3_leastOf 1 := ⟨zT_3 127 (by decide +kernel) (by decide +kernel), zT_1 10 (by decide +kernel) (by decide +kernel), ⟨by decide +kernel, by decide +kernel, by decide +kernel⟩, by decide⟩
theorem pn_mX3_leastOf : plainName mX3_leastOf.1.cls = true := by decide +kernel
theorem mv_mX3_leastOf : zMv mX3_leastOf := ⟨zT_3 125 (by decide +kernel) (by decide +kernel), zT_3 126 (by decide +kernel) (by decide +kernel)⟩
def mX6_lay : zM := (yX6_lay, cX6_lay, 6, none, 0, 0)
theorem mo_mX6_lay : zMo mX6_lay 3 := ⟨zT_3 132 (by decide +kernel) (by decide +kernel), zT_1 11 (by decide +kernel) (by decide +kernel), ⟨by decide +kernel, by decide +kernel, by decide +kernel⟩, by decide⟩
theorem pn_mX6_lay : plainName mX6_lay.1.cls = true := by decide +kernel
theorem mv_mX6_lay : zMv mX6_lay := ⟨zT_3 130 (by decide +kernel) (by decide +kernel), zT_3 131 (by decide +kernel) (by decide +kernel)⟩
def mX6_walk : zM := (yX6_walk, cX6_walk, 4, none, 0, 0)
theorem mo_mX6_walk : zMo mX6_walk 1 := ⟨zT_3 140 (by decide +kernel) (by decide +kernel), zT_1 11 (by decide +kernel) (by decide +kernel), ⟨by decide +kernel, by decide +kernel, by decide +kernel⟩, by decide⟩
theorem pn_mX6_walk : plainName mX6_walk.1.cls = true := by decide +kernel
theorem mv_mX6_walk : zMv mX6_walk := ⟨zT_3 138 (by decide +kernel) (by decide +kernel), zT_3 139 (by decide +kernel) (by decide +kernel)⟩
def mX6_walkOn : zM := (yX6_walkOn, cX6_walkOn, 4, none, 0, 0)
theorem mo_mX6_walkOn : zMo mX6_walkOn 1 := ⟨zT_3 144 (by decide +kernel) (by decide +kernel), zT_1 11 (by decide +kernel) (by decide +kernel), ⟨by decide +kernel, by decide +kernel, by decide +kernel⟩, by decide⟩
theorem pn_mX6_walkOn : plainName mX6_walkOn.1.cls = true := by decide +kernel
theorem mv_mX6_walkOn : zMv mX6_walkOn := ⟨zT_3 143 (by decide +kernel) (by decide +kernel), zT_p 24 (by decide +kernel) (by decide +kernel)⟩
def mX6_isBetter : zM := (yX6_isBetter, cX6_isBetter, 4, some .boolean, 0, 0)
theorem mo_mX6_isBetter : zMo mX6_isBetter 3 := ⟨zT_3 148 (by decide +kernel) (by decide +kernel), zT_1 11 (by decide +kernel) (by decide +kernel), ⟨by decide +kernel, by decide +kernel, by decide +kernel⟩, by decide⟩
theorem pn_mX6_isBetter : plainName mX6_isBetter.1.cls = true := by decide +kernel
theorem mv_mX6_isBetter : zMv mX6_isBetter := ⟨zT_3 147 (by decide +kernel) (by decide +kernel), zT_p 25 (by decide +kernel) (by decide +kernel)⟩
def mX6_costTo : zM := (yX6_costTo, cX6_costTo, 2, some .int, 0, 0)
theorem mo_mX6_costTo : zMo mX6_costTo 1 := ⟨zT_3 152 (by decide +kernel) (by decide +kernel), zT_1 11 (by decide +kernel) (by decide +kernel), ⟨by decide +kernel, by decide +kernel, by decide +kernel⟩, by decide⟩
theorem pn_mX6_costTo : plainName mX6_costTo.1.cls = true := by decide +kernel
theorem mv_mX6_costTo : zMv mX6_costTo := ⟨zT_3 150 (by decide +kernel) (by decide +kernel), zT_3 151 (by decide +kernel) (by decide +kernel)⟩
def mX6_stepsTo : zM := (yX6_stepsTo, cX6_stepsTo, 2, some .int, 0, 0)
theorem mo_mX6_stepsTo : zMo mX6_stepsTo 1 := ⟨zT_3 156 (by decide +kernel) (by decide +kernel), zT_1 11 (by decide +kernel) (by decide +kernel), ⟨by decide +kernel, by decide +kernel, by decide +kernel⟩, by decide⟩
theorem pn_mX6_stepsTo : plainName mX6_stepsTo.1.cls = true := by decide +kernel
theorem mv_mX6_stepsTo : zMv mX6_stepsTo := ⟨zT_3 154 (by decide +kernel) (by decide +kernel), zT_3 155 (by decide +kernel) (by decide +kernel)⟩
def mX7_barred : zM := (yX7_barred, cX7_barred, 6, some .int, 0, 0)
theorem mo_mX7_barred : zMo mX7_barred 3 := ⟨zT_3 160 (by decide +kernel) (by decide +kernel), zT_1 1 (by decide +kernel) (by decide +kernel), ⟨by decide +kernel, by decide +kernel, by decide +kernel⟩, by decide⟩
theorem pn_mX7_barred : plainName mX7_barred.1.cls = true := by decide +kernel
theorem mv_mX7_barred : zMv mX7_barred := ⟨zT_3 158 (by decide +kernel) (by decide +kernel), zT_3 159 (by decide +kernel) (by decide +kernel)⟩
def mX3_hindered : zM := (yX3_hindered, cX3_hindered, 8, some .int, 0, 0)
theorem mo_mX3_hindered : zMo mX3_hindered 3 := ⟨zT_3 164 (by decide +kernel) (by decide +kernel), zT_1 10 (by decide +kernel) (by decide +kernel), ⟨by decide +kernel, by decide +kernel, by decide +kernel⟩, by decide⟩
theorem pn_mX3_hindered : plainName mX3_hindered.1.cls = true := by decide +kernel
theorem mv_mX3_hindered : zMv mX3_hindered := ⟨zT_3 162 (by decide +kernel) (by decide +kernel), zT_3 163 (by decide +kernel) (by decide +kernel)⟩
def mX3_fillCan : zM := (yX3_fillCan, cX3_fillCan, 6, none, 0, 0)
theorem mo_mX3_fillCan : zMo mX3_fillCan 2 := ⟨zT_3 168 (by decide +kernel) (by decide +kernel), zT_1 10 (by decide +kernel) (by decide +kernel), ⟨by decide +kernel, by decide +kernel, by decide +kernel⟩, by decide⟩
theorem pn_mX3_fillCan : plainName mX3_fillCan.1.cls = true := by decide +kernel
theorem mv_mX3_fillCan : zMv mX3_fillCan := ⟨zT_3 167 (by decide +kernel) (by decide +kernel), zT_p 26 (by decide +kernel) (by decide +kernel)⟩
def mX7_silent : zM := (yX7_silent, cX7_silent, 4, some .int, 0, 0)
theorem mo_mX7_silent : zMo mX7_silent 1 := ⟨zT_3 174 (by decide +kernel) (by decide +kernel), zT_1 1 (by decide +kernel) (by decide +kernel), ⟨by decide +kernel, by decide +kernel, by decide +kernel⟩, by decide⟩
theorem pn_mX7_silent : plainName mX7_silent.1.cls = true := by decide +kernel
theorem mv_mX7_silent : zMv mX7_silent := ⟨zT_3 172 (by decide +kernel) (by decide +kernel), zT_3 173 (by decide +kernel) (by decide +kernel)⟩
def mX3_hearNone : zM := (yX3_hearNone, cX3_hearNone, 2, none, 0, 0)
theorem mo_mX3_hearNone : zMo mX3_hearNone 0 := ⟨zT_3 178 (by decide +kernel) (by decide +kernel), zT_1 10 (by decide +kernel) (by decide +kernel), ⟨by decide +kernel, by decide +kernel, by decide +kernel⟩, by decide⟩
theorem pn_mX3_hearNone : plainName mX3_hearNone.1.cls = true := by decide +kernel
theorem mv_mX3_hearNone : zMv mX3_hearNone := ⟨zT_3 176 (by decide +kernel) (by decide +kernel), zT_3 177 (by decide +kernel) (by decide +kernel)⟩
def mX3_hear : zM := (yX3_hear, cX3_hear, 4, none, 0, 0)
theorem mo_mX3_hear : zMo mX3_hear 2 := ⟨zT_3 182 (by decide +kernel) (by decide +kernel), zT_1 10 (by decide +kernel) (by decide +kernel), ⟨by decide +kernel, by decide +kernel, by decide +kernel⟩, by decide⟩
theorem pn_mX3_hear : plainName mX3_hear.1.cls = true := by decide +kernel
theorem mv_mX3_hear : zMv mX3_hear := ⟨zT_3 180 (by decide +kernel) (by decide +kernel), zT_3 181 (by decide +kernel) (by decide +kernel)⟩
def mX3_unheard : zM := (yX3_unheard, cX3_unheard, 3, some .int, 0, 0)
theorem mo_mX3_unheard : zMo mX3_unheard 0 := ⟨zT_3 186 (by decide +kernel) (by decide +kernel), zT_1 10 (by decide +kernel) (by decide +kernel), ⟨by decide +kernel, by decide +kernel, by decide +kernel⟩, by decide⟩
theorem pn_mX3_unheard : plainName mX3_unheard.1.cls = true := by decide +kernel
theorem mv_mX3_unheard : zMv mX3_unheard := ⟨zT_3 184 (by decide +kernel) (by decide +kernel), zT_3 185 (by decide +kernel) (by decide +kernel)⟩
def mX3_firstUnheard : zM := (yX3_firstUnheard, cX3_firstUnheard, 2, some .int, 0, 0)
theorem mo_mX3_firstUnheard : zMo mX3_firstUnheard 0 := ⟨zT_3 191 (by decide +kernel) (by decide +kernel), zT_1 10 (by decide +kernel) (by decide +kernel), ⟨by decide +kernel, by decide +kernel, by decide +kernel⟩, by decide⟩
theorem pn_mX3_firstUnheard : plainName mX3_firstUnheard.1.cls = true := by decide +kernel
theorem mv_mX3_firstUnheard : zMv mX3_firstUnheard := ⟨zT_3 189 (by decide +kernel) (by decide +kernel), zT_3 190 (by decide +kernel) (by decide +kernel)⟩
def mX7_middle : zM := (yX7_middle, cX7_middle, 7, some .int, 0, 0)
theorem mo_mX7_middle : zMo mX7_middle 2 := ⟨zT_3 195 (by decide +kernel) (by decide +kernel), zT_1 1 (by decide +kernel) (by decide +kernel), ⟨by decide +kernel, by decide +kernel, by decide +kernel⟩, by decide⟩
theorem pn_mX7_middle : plainName mX7_middle.1.cls = true := by decide +kernel
theorem mv_mX7_middle : zMv mX7_middle := ⟨zT_3 193 (by decide +kernel) (by decide +kernel), zT_3 194 (by decide +kernel) (by decide +kernel)⟩
def mX6_partedWithout : zM := (yX6_partedWithout, cX6_partedWithout, 6, some .int, 0, 0)
theorem mo_mX6_partedWithout : zMo mX6_partedWithout 1 := ⟨zT_3 199 (by decide +kernel) (by decide +kernel), zT_1 11 (by decide +kernel) (by decide +kernel), ⟨by decide +kernel, by decide +kernel, by decide +kernel⟩, by decide⟩
theorem pn_mX6_partedWithout : plainName mX6_partedWithout.1.cls = true := by decide +kernel
theorem mv_mX6_partedWithout : zMv mX6_partedWithout := ⟨zT_3 197 (by decide +kernel) (by decide +kernel), zT_3 198 (by decide +kernel) (by decide +kernel)⟩
def mX6_reached : zM := (yX6_reached, cX6_reached, 7, some .int, 0, 0)
theorem mo_mX6_reached : zMo mX6_reached 2 := ⟨zT_3 203 (by decide +kernel) (by decide +kernel), zT_1 11 (by decide +kernel) (by decide +kernel), ⟨by decide +kernel, by decide +kernel, by decide +kernel⟩, by decide⟩
theorem pn_mX6_reached : plainName mX6_reached.1.cls = true := by decide +kernel
theorem mv_mX6_reached : zMv mX6_reached := ⟨zT_3 202 (by decide +kernel) (by decide +kernel), zT_p 27 (by decide +kernel) (by decide +kernel)⟩
def mX7_leave : zM := (yX7_leave, cX7_leave, 8, some .int, 0, 0)
theorem mo_mX7_leave : zMo mX7_leave 2 := ⟨zT_3 207 (by decide +kernel) (by decide +kernel), zT_1 1 (by decide +kernel) (by decide +kernel), ⟨by decide +kernel, by decide +kernel, by decide +kernel⟩, by decide⟩
theorem pn_mX7_leave : plainName mX7_leave.1.cls = true := by decide +kernel
theorem mv_mX7_leave : zMv mX7_leave := ⟨zT_3 205 (by decide +kernel) (by decide +kernel), zT_3 206 (by decide +kernel) (by decide +kernel)⟩
def mX7_worthOfLeaving : zM := (yX7_worthOfLeaving, cX7_worthOfLeaving, 6, some .int, 0, 0)
theorem mo_mX7_worthOfLeaving : zMo mX7_worthOfLeaving 2 := ⟨zT_3 211 (by decide +kernel) (by decide +kernel), zT_1 1 (by decide +kernel) (by decide +kernel), ⟨by decide +kernel, by decide +kernel, by decide +kernel⟩, by decide⟩
theorem pn_mX7_worthOfLeaving : plainName mX7_worthOfLeaving.1.cls = true := by decide +kernel
theorem mv_mX7_worthOfLeaving : zMv mX7_worthOfLeaving := ⟨zT_3 210 (by decide +kernel) (by decide +kernel), zT_p 28 (by decide +kernel) (by decide +kernel)⟩
def mX0_become : zM := (yX0_become, cX0_become, 2, none, 0, 0)
theorem mo_mX0_become : zMo mX0_become 1 := ⟨zT_3 215 (by decide +kernel) (by decide +kernel), zT_1 13 (by decide +kernel) (by decide +kernel), ⟨by decide +kernel, by decide +kernel, by decide +kernel⟩, by decide⟩
theorem pn_mX0_become : plainName mX0_become.1.cls = true := by decide +kernel
theorem mv_mX0_become : zMv mX0_become := ⟨zT_3 213 (by decide +kernel) (by decide +kernel), zT_3 214 (by decide +kernel) (by decide +kernel)⟩
def mX7_buy : zM := (yX7_buy, cX7_buy, 10, some .int, 0, 0)
theorem mo_mX7_buy : zMo mX7_buy 3 := ⟨zT_3 219 (by decide +kernel) (by decide +kernel), zT_1 1 (by decide +kernel) (by decide +kernel), ⟨by decide +kernel, by decide +kernel, by decide +kernel⟩, by decide⟩
theorem pn_mX7_buy : plainName mX7_buy.1.cls = true := by decide +kernel
theorem mv_mX7_buy : zMv mX7_buy := ⟨zT_3 217 (by decide +kernel) (by decide +kernel), zT_3 218 (by decide +kernel) (by decide +kernel)⟩
def mX7_pawn : zM := (yX7_pawn, cX7_pawn, 10, some .int, 0, 0)
theorem mo_mX7_pawn : zMo mX7_pawn 3 := ⟨zT_3 223 (by decide +kernel) (by decide +kernel), zT_1 1 (by decide +kernel) (by decide +kernel), ⟨by decide +kernel, by decide +kernel, by decide +kernel⟩, by decide⟩
theorem pn_mX7_pawn : plainName mX7_pawn.1.cls = true := by decide +kernel
theorem mv_mX7_pawn : zMv mX7_pawn := ⟨zT_3 221 (by decide +kernel) (by decide +kernel), zT_3 222 (by decide +kernel) (by decide +kernel)⟩
def mX3_payable : zM := (yX3_payable, cX3_payable, 5, some .int, 0, 0)
theorem mo_mX3_payable : zMo mX3_payable 2 := ⟨zT_3 227 (by decide +kernel) (by decide +kernel), zT_1 10 (by decide +kernel) (by decide +kernel), ⟨by decide +kernel, by decide +kernel, by decide +kernel⟩, by decide⟩
theorem pn_mX3_payable : plainName mX3_payable.1.cls = true := by decide +kernel
theorem mv_mX3_payable : zMv mX3_payable := ⟨zT_3 225 (by decide +kernel) (by decide +kernel), zT_3 226 (by decide +kernel) (by decide +kernel)⟩
def mX7_rows : zM := (yX7_rows, cX7_rows, 8, some .int, 0, 0)
theorem mo_mX7_rows : zMo mX7_rows 4 := ⟨zT_3 231 (by decide +kernel) (by decide +kernel), zT_1 1 (by decide +kernel) (by decide +kernel), ⟨by decide +kernel, by decide +kernel, by decide +kernel⟩, by decide⟩
theorem pn_mX7_rows : plainName mX7_rows.1.cls = true := by decide +kernel
theorem mv_mX7_rows : zMv mX7_rows := ⟨zT_3 229 (by decide +kernel) (by decide +kernel), zT_3 230 (by decide +kernel) (by decide +kernel)⟩
def mX7_sheetAt : zM := (yX7_sheetAt, cX7_sheetAt, 2, some (.object "NumbersInherited$Sheet"), 0, 0)
theorem mo_mX7_sheetAt : zMo mX7_sheetAt 1 := ⟨zT_3 235 (by decide +kernel) (by decide +kernel), zT_1 1 (by decide +kernel) (by decide +kernel), ⟨by decide +kernel, by decide +kernel, by decide +kernel⟩, by decide⟩
theorem pn_mX7_sheetAt : plainName mX7_sheetAt.1.cls = true := by decide +kernel
theorem mv_mX7_sheetAt : zMv mX7_sheetAt := ⟨zT_3 234 (by decide +kernel) (by decide +kernel), zT_p 29 (by decide +kernel) (by decide +kernel)⟩
def mX5_tellsSums : zM := (yX5_tellsSums, cX5_tellsSums, 2, some .boolean, 0, 0)
theorem mo_mX5_tellsSums : zMo mX5_tellsSums 0 := ⟨zT_3 239 (by decide +kernel) (by decide +kernel), zT_1 14 (by decide +kernel) (by decide +kernel), ⟨by decide +kernel, by decide +kernel, by decide +kernel⟩, by decide⟩
theorem pn_mX5_tellsSums : plainName mX5_tellsSums.1.cls = true := by decide +kernel
theorem mv_mX5_tellsSums : zMv mX5_tellsSums := ⟨zT_3 237 (by decide +kernel) (by decide +kernel), zT_3 238 (by decide +kernel) (by decide +kernel)⟩
def mX5_at : zM := (yX5_at, cX5_at, 2, some .int, 0, 0)
theorem mo_mX5_at : zMo mX5_at 1 := ⟨zT_4 3 (by decide +kernel) (by decide +kernel), zT_1 14 (by decide +kernel) (by decide +kernel), ⟨by decide +kernel, by decide +kernel, by decide +kernel⟩, by decide⟩
theorem pn_mX5_at : plainName mX5_at.1.cls = true := by decide +kernel
theorem mv_mX5_at : zMv mX5_at := ⟨zT_4 1 (by decide +kernel) (by decide +kernel), zT_4 2 (by decide +kernel) (by decide +kernel)⟩
def mX5_holds : zM := (yX5_holds, cX5_holds, 2, some .boolean, 0, 0)
theorem mo_mX5_holds : zMo mX5_holds 1 := ⟨zT_4 7 (by decide +kernel) (by decide +kernel), zT_1 14 (by decide +kernel) (by decide +kernel), ⟨by decide +kernel, by decide +kernel, by decide +kernel⟩, by decide⟩
theorem pn_mX5_holds : plainName mX5_holds.1.cls = true := by decide +kernel
theorem mv_mX5_holds : zMv mX5_holds := ⟨zT_4 5 (by decide +kernel) (by decide +kernel), zT_4 6 (by decide +kernel) (by decide +kernel)⟩
def mX3_firstOtherwise : zM := (yX3_firstOtherwise, cX3_firstOtherwise, 5, some .int, 0, 0)
theorem mo_mX3_firstOtherwise : zMo mX3_firstOtherwise 3 := ⟨zT_4 12 (by decide +kernel) (by decide +kernel), zT_1 10 (by decide +kernel) (by decide +kernel), ⟨by decide +kernel, by decide +kernel, by decide +kernel⟩, by decide⟩
theorem pn_mX3_firstOtherwise : plainName mX3_firstOtherwise.1.cls = true := by decide +kernel
theorem mv_mX3_firstOtherwise : zMv mX3_firstOtherwise := ⟨zT_4 10 (by decide +kernel) (by decide +kernel), zT_4 11 (by decide +kernel) (by decide +kernel)⟩
def mX7_kindsAsTold : zM := (yX7_kindsAsTold, cX7_kindsAsTold, 6, some .int, 0, 0)
theorem mo_mX7_kindsAsTold : zMo mX7_kindsAsTold 3 := ⟨zT_4 19 (by decide +kernel) (by decide +kernel), zT_1 1 (by decide +kernel) (by decide +kernel), ⟨by decide +kernel, by decide +kernel, by decide +kernel⟩, by decide⟩
theorem pn_mX7_kindsAsTold : plainName mX7_kindsAsTold.1.cls = true := by decide +kernel
theorem mv_mX7_kindsAsTold : zMv mX7_kindsAsTold := ⟨zT_4 18 (by decide +kernel) (by decide +kernel), zT_p 30 (by decide +kernel) (by decide +kernel)⟩
def mX7_moresAsTold : zM := (yX7_moresAsTold, cX7_moresAsTold, 6, some .int, 0, 0)
theorem mo_mX7_moresAsTold : zMo mX7_moresAsTold 3 := ⟨zT_4 23 (by decide +kernel) (by decide +kernel), zT_1 1 (by decide +kernel) (by decide +kernel), ⟨by decide +kernel, by decide +kernel, by decide +kernel⟩, by decide⟩
theorem pn_mX7_moresAsTold : plainName mX7_moresAsTold.1.cls = true := by decide +kernel
theorem mv_mX7_moresAsTold : zMv mX7_moresAsTold := ⟨zT_4 22 (by decide +kernel) (by decide +kernel), zT_p 31 (by decide +kernel) (by decide +kernel)⟩
def mX7_textsAsTold : zM := (yX7_textsAsTold, cX7_textsAsTold, 7, some .int, 0, 0)
theorem mo_mX7_textsAsTold : zMo mX7_textsAsTold 3 := ⟨zT_4 27 (by decide +kernel) (by decide +kernel), zT_1 1 (by decide +kernel) (by decide +kernel), ⟨by decide +kernel, by decide +kernel, by decide +kernel⟩, by decide⟩
theorem pn_mX7_textsAsTold : plainName mX7_textsAsTold.1.cls = true := by decide +kernel
theorem mv_mX7_textsAsTold : zMv mX7_textsAsTold := ⟨zT_4 26 (by decide +kernel) (by decide +kernel), zT_p 32 (by decide +kernel) (by decide +kernel)⟩
def mX7_numbersThatMust : zM := (yX7_numbersThatMust, cX7_numbersThatMust, 6, some .int, 0, 0)
theorem mo_mX7_numbersThatMust : zMo mX7_numbersThatMust 3 := ⟨zT_4 31 (by decide +kernel) (by decide +kernel), zT_1 1 (by decide +kernel) (by decide +kernel), ⟨by decide +kernel, by decide +kernel, by decide +kernel⟩, by decide⟩
theorem pn_mX7_numbersThatMust : plainName mX7_numbersThatMust.1.cls = true := by decide +kernel
theorem mv_mX7_numbersThatMust : zMv mX7_numbersThatMust := ⟨zT_4 30 (by decide +kernel) (by decide +kernel), zT_p 33 (by decide +kernel) (by decide +kernel)⟩
def mX7_numbersThatMay : zM := (yX7_numbersThatMay, cX7_numbersThatMay, 6, some .int, 0, 0)
theorem mo_mX7_numbersThatMay : zMo mX7_numbersThatMay 3 := ⟨zT_4 35 (by decide +kernel) (by decide +kernel), zT_1 1 (by decide +kernel) (by decide +kernel), ⟨by decide +kernel, by decide +kernel, by decide +kernel⟩, by decide⟩
theorem pn_mX7_numbersThatMay : plainName mX7_numbersThatMay.1.cls = true := by decide +kernel
theorem mv_mX7_numbersThatMay : zMv mX7_numbersThatMay := ⟨zT_4 34 (by decide +kernel) (by decide +kernel), zT_p 34 (by decide +kernel) (by decide +kernel)⟩
def mX7_film : zM := (yX7_film, cX7_film, 10, some .int, 0, 0)
theorem mo_mX7_film : zMo mX7_film 4 := ⟨zT_4 39 (by decide +kernel) (by decide +kernel), zT_1 1 (by decide +kernel) (by decide +kernel), ⟨by decide +kernel, by decide +kernel, by decide +kernel⟩, by decide⟩
theorem pn_mX7_film : plainName mX7_film.1.cls = true := by decide +kernel
theorem mv_mX7_film : zMv mX7_film := ⟨zT_4 37 (by decide +kernel) (by decide +kernel), zT_4 38 (by decide +kernel) (by decide +kernel)⟩
def mX5_lay : zM := (yX5_lay, cX5_lay, 4, none, 0, 0)
theorem mo_mX5_lay : zMo mX5_lay 2 := ⟨zT_4 44 (by decide +kernel) (by decide +kernel), zT_1 14 (by decide +kernel) (by decide +kernel), ⟨by decide +kernel, by decide +kernel, by decide +kernel⟩, by decide⟩
theorem pn_mX5_lay : plainName mX5_lay.1.cls = true := by decide +kernel
theorem mv_mX5_lay : zMv mX5_lay := ⟨zT_4 42 (by decide +kernel) (by decide +kernel), zT_4 43 (by decide +kernel) (by decide +kernel)⟩
def mX5_put : zM := (yX5_put, cX5_put, 3, none, 0, 0)
theorem mo_mX5_put : zMo mX5_put 2 := ⟨zT_4 48 (by decide +kernel) (by decide +kernel), zT_1 14 (by decide +kernel) (by decide +kernel), ⟨by decide +kernel, by decide +kernel, by decide +kernel⟩, by decide⟩
theorem pn_mX5_put : plainName mX5_put.1.cls = true := by decide +kernel
theorem mv_mX5_put : zMv mX5_put := ⟨zT_4 46 (by decide +kernel) (by decide +kernel), zT_4 47 (by decide +kernel) (by decide +kernel)⟩
def mX7_drawn : zM := (yX7_drawn, cX7_drawn, 4, some .int, 0, 0)
theorem mo_mX7_drawn : zMo mX7_drawn 1 := ⟨zT_4 52 (by decide +kernel) (by decide +kernel), zT_1 1 (by decide +kernel) (by decide +kernel), ⟨by decide +kernel, by decide +kernel, by decide +kernel⟩, by decide⟩
theorem pn_mX7_drawn : plainName mX7_drawn.1.cls = true := by decide +kernel
theorem mv_mX7_drawn : zMv mX7_drawn := ⟨zT_4 50 (by decide +kernel) (by decide +kernel), zT_4 51 (by decide +kernel) (by decide +kernel)⟩
def mX7_payableIfDrawn : zM := (yX7_payableIfDrawn, cX7_payableIfDrawn, 5, some .int, 0, 0)
theorem mo_mX7_payableIfDrawn : zMo mX7_payableIfDrawn 3 := ⟨zT_4 56 (by decide +kernel) (by decide +kernel), zT_1 1 (by decide +kernel) (by decide +kernel), ⟨by decide +kernel, by decide +kernel, by decide +kernel⟩, by decide⟩
theorem pn_mX7_payableIfDrawn : plainName mX7_payableIfDrawn.1.cls = true := by decide +kernel
theorem mv_mX7_payableIfDrawn : zMv mX7_payableIfDrawn := ⟨zT_4 55 (by decide +kernel) (by decide +kernel), zT_p 35 (by decide +kernel) (by decide +kernel)⟩
def mX0_drawOwn : zM := (yX0_drawOwn, cX0_drawOwn, 4, some .int, 0, 0)
theorem mo_mX0_drawOwn : zMo mX0_drawOwn 1 := ⟨zT_4 60 (by decide +kernel) (by decide +kernel), zT_1 13 (by decide +kernel) (by decide +kernel), ⟨by decide +kernel, by decide +kernel, by decide +kernel⟩, by decide⟩
theorem pn_mX0_drawOwn : plainName mX0_drawOwn.1.cls = true := by decide +kernel
theorem mv_mX0_drawOwn : zMv mX0_drawOwn := ⟨zT_4 58 (by decide +kernel) (by decide +kernel), zT_4 59 (by decide +kernel) (by decide +kernel)⟩
def mX7_chance : zM := (yX7_chance, cX7_chance, 9, some .long, 0, 0)
theorem mo_mX7_chance : zMo mX7_chance 3 := ⟨zT_4 65 (by decide +kernel) (by decide +kernel), zT_1 1 (by decide +kernel) (by decide +kernel), ⟨by decide +kernel, by decide +kernel, by decide +kernel⟩, by decide⟩
theorem pn_mX7_chance : plainName mX7_chance.1.cls = true := by decide +kernel
theorem mv_mX7_chance : zMv mX7_chance := ⟨zT_4 63 (by decide +kernel) (by decide +kernel), zT_4 64 (by decide +kernel) (by decide +kernel)⟩
def mX7_commonMeasure : zM := (yX7_commonMeasure, cX7_commonMeasure, 6, some .int, 0, 0)
theorem mo_mX7_commonMeasure : zMo mX7_commonMeasure 2 := ⟨zT_4 69 (by decide +kernel) (by decide +kernel), zT_1 1 (by decide +kernel) (by decide +kernel), ⟨by decide +kernel, by decide +kernel, by decide +kernel⟩, by decide⟩
theorem pn_mX7_commonMeasure : plainName mX7_commonMeasure.1.cls = true := by decide +kernel
theorem st_mX7_commonMeasure : Cond.static mX7_commonMeasure.1 ∈ zT := zT_4 68 (by decide +kernel) (by decide +kernel)
def mX7_image : zM := (yX7_image, cX7_image, 2, some .int, 0, 0)
theorem mo_mX7_image : zMo mX7_image 0 := ⟨zT_4 73 (by decide +kernel) (by decide +kernel), zT_1 1 (by decide +kernel) (by decide +kernel), ⟨by decide +kernel, by decide +kernel, by decide +kernel⟩, by decide⟩
theorem pn_mX7_image : plainName mX7_image.1.cls = true := by decide +kernel
theorem mv_mX7_image : zMv mX7_image := ⟨zT_4 71 (by decide +kernel) (by decide +kernel), zT_4 72 (by decide +kernel) (by decide +kernel)⟩
def mX7_back : zM := (yX7_back, cX7_back, 2, some .int, 0, 0)
theorem mo_mX7_back : zMo mX7_back 0 := ⟨zT_4 77 (by decide +kernel) (by decide +kernel), zT_1 1 (by decide +kernel) (by decide +kernel), ⟨by decide +kernel, by decide +kernel, by decide +kernel⟩, by decide⟩
theorem pn_mX7_back : plainName mX7_back.1.cls = true := by decide +kernel
theorem mv_mX7_back : zMv mX7_back := ⟨zT_4 75 (by decide +kernel) (by decide +kernel), zT_4 76 (by decide +kernel) (by decide +kernel)⟩
def mX7_count : zM := (yX7_count, cX7_count, 2, some .int, 0, 0)
theorem mo_mX7_count : zMo mX7_count 1 := ⟨zT_4 81 (by decide +kernel) (by decide +kernel), zT_1 1 (by decide +kernel) (by decide +kernel), ⟨by decide +kernel, by decide +kernel, by decide +kernel⟩, by decide⟩
theorem pn_mX7_count : plainName mX7_count.1.cls = true := by decide +kernel
theorem mv_mX7_count : zMv mX7_count := ⟨zT_4 79 (by decide +kernel) (by decide +kernel), zT_4 80 (by decide +kernel) (by decide +kernel)⟩
def mX7_allOwn : zM := (yX7_allOwn, cX7_allOwn, 3, some .int, 0, 0)
theorem mo_mX7_allOwn : zMo mX7_allOwn 0 := ⟨zT_4 85 (by decide +kernel) (by decide +kernel), zT_1 1 (by decide +kernel) (by decide +kernel), ⟨by decide +kernel, by decide +kernel, by decide +kernel⟩, by decide⟩
theorem pn_mX7_allOwn : plainName mX7_allOwn.1.cls = true := by decide +kernel
theorem mv_mX7_allOwn : zMv mX7_allOwn := ⟨zT_4 84 (by decide +kernel) (by decide +kernel), zT_p 36 (by decide +kernel) (by decide +kernel)⟩
def mX7_sheet : zM := (yX7_sheet, cX7_sheet, 5, some .int, 0, 0)
theorem mo_mX7_sheet : zMo mX7_sheet 3 := ⟨zT_4 89 (by decide +kernel) (by decide +kernel), zT_1 1 (by decide +kernel) (by decide +kernel), ⟨by decide +kernel, by decide +kernel, by decide +kernel⟩, by decide⟩
theorem pn_mX7_sheet : plainName mX7_sheet.1.cls = true := by decide +kernel
theorem mv_mX7_sheet : zMv mX7_sheet := ⟨zT_4 87 (by decide +kernel) (by decide +kernel), zT_4 88 (by decide +kernel) (by decide +kernel)⟩
def mX7_cell : zM := (yX7_cell, cX7_cell, 5, some .int, 0, 0)
theorem mo_mX7_cell : zMo mX7_cell 3 := ⟨zT_4 93 (by decide +kernel) (by decide +kernel), zT_1 1 (by decide +kernel) (by decide +kernel), ⟨by decide +kernel, by decide +kernel, by decide +kernel⟩, by decide⟩
theorem pn_mX7_cell : plainName mX7_cell.1.cls = true := by decide +kernel
theorem mv_mX7_cell : zMv mX7_cell := ⟨zT_4 91 (by decide +kernel) (by decide +kernel), zT_4 92 (by decide +kernel) (by decide +kernel)⟩
def mX7_copy : zM := (yX7_copy, cX7_copy, 8, some .int, 0, 0)
theorem mo_mX7_copy : zMo mX7_copy 5 := ⟨zT_4 98 (by decide +kernel) (by decide +kernel), zT_1 1 (by decide +kernel) (by decide +kernel), ⟨by decide +kernel, by decide +kernel, by decide +kernel⟩, by decide⟩
theorem pn_mX7_copy : plainName mX7_copy.1.cls = true := by decide +kernel
theorem mv_mX7_copy : zMv mX7_copy := ⟨zT_4 96 (by decide +kernel) (by decide +kernel), zT_4 97 (by decide +kernel) (by decide +kernel)⟩
def mX5_holdsRun : zM := (yX5_holdsRun, cX5_holdsRun, 3, some .boolean, 0, 0)
theorem mo_mX5_holdsRun : zMo mX5_holdsRun 2 := ⟨zT_4 102 (by decide +kernel) (by decide +kernel), zT_1 14 (by decide +kernel) (by decide +kernel), ⟨by decide +kernel, by decide +kernel, by decide +kernel⟩, by decide⟩
theorem pn_mX5_holdsRun : plainName mX5_holdsRun.1.cls = true := by decide +kernel
theorem mv_mX5_holdsRun : zMv mX5_holdsRun := ⟨zT_4 100 (by decide +kernel) (by decide +kernel), zT_4 101 (by decide +kernel) (by decide +kernel)⟩
def mX7_heirs : zM := (yX7_heirs, cX7_heirs, 9, some .int, 0, 0)
theorem mo_mX7_heirs : zMo mX7_heirs 4 := ⟨zT_4 109 (by decide +kernel) (by decide +kernel), zT_1 1 (by decide +kernel) (by decide +kernel), ⟨by decide +kernel, by decide +kernel, by decide +kernel⟩, by decide⟩
theorem pn_mX7_heirs : plainName mX7_heirs.1.cls = true := by decide +kernel
theorem mv_mX7_heirs : zMv mX7_heirs := ⟨zT_4 107 (by decide +kernel) (by decide +kernel), zT_4 108 (by decide +kernel) (by decide +kernel)⟩
def mX7_taken : zM := (yX7_taken, cX7_taken, 4, some .int, 0, 0)
theorem mo_mX7_taken : zMo mX7_taken 2 := ⟨zT_4 115 (by decide +kernel) (by decide +kernel), zT_1 1 (by decide +kernel) (by decide +kernel), ⟨by decide +kernel, by decide +kernel, by decide +kernel⟩, by decide⟩
theorem pn_mX7_taken : plainName mX7_taken.1.cls = true := by decide +kernel
theorem mv_mX7_taken : zMv mX7_taken := ⟨zT_4 113 (by decide +kernel) (by decide +kernel), zT_4 114 (by decide +kernel) (by decide +kernel)⟩
def mX7_isUnder : zM := (yX7_isUnder, cX7_isUnder, 4, some .boolean, 0, 0)
theorem mo_mX7_isUnder : zMo mX7_isUnder 2 := ⟨zT_4 118 (by decide +kernel) (by decide +kernel), zT_1 1 (by decide +kernel) (by decide +kernel), ⟨by decide +kernel, by decide +kernel, by decide +kernel⟩, by decide⟩
theorem pn_mX7_isUnder : plainName mX7_isUnder.1.cls = true := by decide +kernel
theorem st_mX7_isUnder : Cond.static mX7_isUnder.1 ∈ zT := zT_4 117 (by decide +kernel) (by decide +kernel)
def mX7_kindAbove : zM := (yX7_kindAbove, cX7_kindAbove, 1, some .int, 0, 0)
theorem mo_mX7_kindAbove : zMo mX7_kindAbove 1 := ⟨zT_4 121 (by decide +kernel) (by decide +kernel), zT_1 1 (by decide +kernel) (by decide +kernel), ⟨by decide +kernel, by decide +kernel, by decide +kernel⟩, by decide⟩
theorem pn_mX7_kindAbove : plainName mX7_kindAbove.1.cls = true := by decide +kernel
theorem st_mX7_kindAbove : Cond.static mX7_kindAbove.1 ∈ zT := zT_4 120 (by decide +kernel) (by decide +kernel)
def mX8_init : zM := (yX8_init, cX8_init, 2, none, 21, 4181)
theorem mo_mX8_init : zMo mX8_init 0 := ⟨zT_4 126 (by decide +kernel) (by decide +kernel), zT_1 15 (by decide +kernel) (by decide +kernel), ⟨by decide +kernel, by decide +kernel, by decide +kernel⟩, by decide⟩
theorem pn_mX8_init : plainName mX8_init.1.cls = true := by decide +kernel
theorem in_mX8_init : Cond.instanceMethod mX8_init.1 ∈ zT ∧ mX8_init.1.name = "<init>" ∧ mX8_init.2.2.2.1 = none := ⟨zT_4 125 (by decide +kernel) (by decide +kernel), rfl, rfl⟩
def mX8_codes : zM := (yX8_codes, cX8_codes, 2, none, 0, 0)
theorem mo_mX8_codes : zMo mX8_codes 1 := ⟨zT_4 131 (by decide +kernel) (by decide +kernel), zT_1 15 (by decide +kernel) (by decide +kernel), ⟨by decide +kernel, by decide +kernel, by decide +kernel⟩, by decide⟩
theorem pn_mX8_codes : plainName mX8_codes.1.cls = true := by decide +kernel
theorem mv_mX8_codes : zMv mX8_codes := ⟨zT_4 130 (by decide +kernel) (by decide +kernel), zT_p 37 (by decide +kernel) (by decide +kernel)⟩
def mX8_set : zM := (yX8_set, cX8_set, 5, some .int, 0, 0)
theorem mo_mX8_set : zMo mX8_set 3 := ⟨zT_5 13 (by decide +kernel) (by decide +kernel), zT_1 15 (by decide +kernel) (by decide +kernel), ⟨by decide +kernel, by decide +kernel, by decide +kernel⟩, by decide⟩
theorem pn_mX8_set : plainName mX8_set.1.cls = true := by decide +kernel
theorem mv_mX8_set : zMv mX8_set := ⟨zT_5 11 (by decide +kernel) (by decide +kernel), zT_5 12 (by decide +kernel) (by decide +kernel)⟩
def mX8_within : zM := (yX8_within, cX8_within, 3, some .boolean, 0, 0)
theorem mo_mX8_within : zMo mX8_within 3 := ⟨zT_5 16 (by decide +kernel) (by decide +kernel), zT_1 15 (by decide +kernel) (by decide +kernel), ⟨by decide +kernel, by decide +kernel, by decide +kernel⟩, by decide⟩
theorem pn_mX8_within : plainName mX8_within.1.cls = true := by decide +kernel
theorem st_mX8_within : Cond.static mX8_within.1 ∈ zT := zT_5 15 (by decide +kernel) (by decide +kernel)
def mX8_isHeir : zM := (yX8_isHeir, cX8_isHeir, 2, some .boolean, 0, 0)
theorem mo_mX8_isHeir : zMo mX8_isHeir 1 := ⟨zT_5 20 (by decide +kernel) (by decide +kernel), zT_1 15 (by decide +kernel) (by decide +kernel), ⟨by decide +kernel, by decide +kernel, by decide +kernel⟩, by decide⟩
theorem pn_mX8_isHeir : plainName mX8_isHeir.1.cls = true := by decide +kernel
theorem mv_mX8_isHeir : zMv mX8_isHeir := ⟨zT_5 19 (by decide +kernel) (by decide +kernel), zT_p 38 (by decide +kernel) (by decide +kernel)⟩
def mX8_may : zM := (yX8_may, cX8_may, 3, some .boolean, 0, 0)
theorem mo_mX8_may : zMo mX8_may 2 := ⟨zT_5 24 (by decide +kernel) (by decide +kernel), zT_1 15 (by decide +kernel) (by decide +kernel), ⟨by decide +kernel, by decide +kernel, by decide +kernel⟩, by decide⟩
theorem pn_mX8_may : plainName mX8_may.1.cls = true := by decide +kernel
theorem mv_mX8_may : zMv mX8_may := ⟨zT_5 23 (by decide +kernel) (by decide +kernel), zT_p 39 (by decide +kernel) (by decide +kernel)⟩
def mX8_get : zM := (yX8_get, cX8_get, 3, some .int, 0, 0)
theorem mo_mX8_get : zMo mX8_get 2 := ⟨zT_5 29 (by decide +kernel) (by decide +kernel), zT_1 15 (by decide +kernel) (by decide +kernel), ⟨by decide +kernel, by decide +kernel, by decide +kernel⟩, by decide⟩
theorem pn_mX8_get : plainName mX8_get.1.cls = true := by decide +kernel
theorem mv_mX8_get : zMv mX8_get := ⟨zT_5 28 (by decide +kernel) (by decide +kernel), zT_p 40 (by decide +kernel) (by decide +kernel)⟩
def mX8_bitsOf : zM := (yX8_bitsOf, cX8_bitsOf, 3, some .int, 0, 0)
theorem mo_mX8_bitsOf : zMo mX8_bitsOf 1 := ⟨zT_5 32 (by decide +kernel) (by decide +kernel), zT_1 15 (by decide +kernel) (by decide +kernel), ⟨by decide +kernel, by decide +kernel, by decide +kernel⟩, by decide⟩
theorem pn_mX8_bitsOf : plainName mX8_bitsOf.1.cls = true := by decide +kernel
theorem st_mX8_bitsOf : Cond.static mX8_bitsOf.1 ∈ zT := zT_5 31 (by decide +kernel) (by decide +kernel)
def mX8_sayable : zM := (yX8_sayable, cX8_sayable, 4, some .int, 0, 0)
theorem mo_mX8_sayable : zMo mX8_sayable 1 := ⟨zT_5 36 (by decide +kernel) (by decide +kernel), zT_1 15 (by decide +kernel) (by decide +kernel), ⟨by decide +kernel, by decide +kernel, by decide +kernel⟩, by decide⟩
theorem pn_mX8_sayable : plainName mX8_sayable.1.cls = true := by decide +kernel
theorem mv_mX8_sayable : zMv mX8_sayable := ⟨zT_5 35 (by decide +kernel) (by decide +kernel), zT_p 41 (by decide +kernel) (by decide +kernel)⟩
def mX8_isSaid : zM := (yX8_isSaid, cX8_isSaid, 5, some .boolean, 0, 0)
theorem mo_mX8_isSaid : zMo mX8_isSaid 2 := ⟨zT_5 40 (by decide +kernel) (by decide +kernel), zT_1 15 (by decide +kernel) (by decide +kernel), ⟨by decide +kernel, by decide +kernel, by decide +kernel⟩, by decide⟩
theorem pn_mX8_isSaid : plainName mX8_isSaid.1.cls = true := by decide +kernel
theorem mv_mX8_isSaid : zMv mX8_isSaid := ⟨zT_5 39 (by decide +kernel) (by decide +kernel), zT_p 42 (by decide +kernel) (by decide +kernel)⟩
def mX8_isOwn : zM := (yX8_isOwn, cX8_isOwn, 3, some .boolean, 0, 0)
theorem mo_mX8_isOwn : zMo mX8_isOwn 2 := ⟨zT_5 44 (by decide +kernel) (by decide +kernel), zT_1 15 (by decide +kernel) (by decide +kernel), ⟨by decide +kernel, by decide +kernel, by decide +kernel⟩, by decide⟩
theorem pn_mX8_isOwn : plainName mX8_isOwn.1.cls = true := by decide +kernel
theorem mv_mX8_isOwn : zMv mX8_isOwn := ⟨zT_5 43 (by decide +kernel) (by decide +kernel), zT_p 43 (by decide +kernel) (by decide +kernel)⟩
def mX8_isNumber : zM := (yX8_isNumber, cX8_isNumber, 1, some .boolean, 0, 0)
theorem mo_mX8_isNumber : zMo mX8_isNumber 1 := ⟨zT_5 47 (by decide +kernel) (by decide +kernel), zT_1 15 (by decide +kernel) (by decide +kernel), ⟨by decide +kernel, by decide +kernel, by decide +kernel⟩, by decide⟩
theorem pn_mX8_isNumber : plainName mX8_isNumber.1.cls = true := by decide +kernel
theorem st_mX8_isNumber : Cond.static mX8_isNumber.1 ∈ zT := zT_5 46 (by decide +kernel) (by decide +kernel)
def mX8_has : zM := (yX8_has, cX8_has, 2, some .boolean, 0, 0)
theorem mo_mX8_has : zMo mX8_has 2 := ⟨zT_5 50 (by decide +kernel) (by decide +kernel), zT_1 15 (by decide +kernel) (by decide +kernel), ⟨by decide +kernel, by decide +kernel, by decide +kernel⟩, by decide⟩
theorem pn_mX8_has : plainName mX8_has.1.cls = true := by decide +kernel
theorem st_mX8_has : Cond.static mX8_has.1 ∈ zT := zT_5 49 (by decide +kernel) (by decide +kernel)
def mX8_isMade : zM := (yX8_isMade, cX8_isMade, 4, some .boolean, 0, 0)
theorem mo_mX8_isMade : zMo mX8_isMade 2 := ⟨zT_5 54 (by decide +kernel) (by decide +kernel), zT_1 15 (by decide +kernel) (by decide +kernel), ⟨by decide +kernel, by decide +kernel, by decide +kernel⟩, by decide⟩
theorem pn_mX8_isMade : plainName mX8_isMade.1.cls = true := by decide +kernel
theorem mv_mX8_isMade : zMv mX8_isMade := ⟨zT_5 53 (by decide +kernel) (by decide +kernel), zT_p 44 (by decide +kernel) (by decide +kernel)⟩
def mX8_heir : zM := (yX8_heir, cX8_heir, 3, some .int, 0, 0)
theorem mo_mX8_heir : zMo mX8_heir 2 := ⟨zT_5 58 (by decide +kernel) (by decide +kernel), zT_1 15 (by decide +kernel) (by decide +kernel), ⟨by decide +kernel, by decide +kernel, by decide +kernel⟩, by decide⟩
theorem pn_mX8_heir : plainName mX8_heir.1.cls = true := by decide +kernel
theorem mv_mX8_heir : zMv mX8_heir := ⟨zT_5 56 (by decide +kernel) (by decide +kernel), zT_5 57 (by decide +kernel) (by decide +kernel)⟩
def mX8_give : zM := (yX8_give, cX8_give, 4, some .int, 0, 0)
theorem mo_mX8_give : zMo mX8_give 3 := ⟨zT_5 62 (by decide +kernel) (by decide +kernel), zT_1 15 (by decide +kernel) (by decide +kernel), ⟨by decide +kernel, by decide +kernel, by decide +kernel⟩, by decide⟩
theorem pn_mX8_give : plainName mX8_give.1.cls = true := by decide +kernel
theorem mv_mX8_give : zMv mX8_give := ⟨zT_5 60 (by decide +kernel) (by decide +kernel), zT_5 61 (by decide +kernel) (by decide +kernel)⟩
def mX8_areTwo : zM := (yX8_areTwo, cX8_areTwo, 3, some .boolean, 0, 0)
theorem mo_mX8_areTwo : zMo mX8_areTwo 2 := ⟨zT_5 66 (by decide +kernel) (by decide +kernel), zT_1 15 (by decide +kernel) (by decide +kernel), ⟨by decide +kernel, by decide +kernel, by decide +kernel⟩, by decide⟩
theorem pn_mX8_areTwo : plainName mX8_areTwo.1.cls = true := by decide +kernel
theorem mv_mX8_areTwo : zMv mX8_areTwo := ⟨zT_5 65 (by decide +kernel) (by decide +kernel), zT_p 45 (by decide +kernel) (by decide +kernel)⟩
def mX8_told : zM := (yX8_told, cX8_told, 3, some .int, 0, 0)
theorem mo_mX8_told : zMo mX8_told 2 := ⟨zT_5 70 (by decide +kernel) (by decide +kernel), zT_1 15 (by decide +kernel) (by decide +kernel), ⟨by decide +kernel, by decide +kernel, by decide +kernel⟩, by decide⟩
theorem pn_mX8_told : plainName mX8_told.1.cls = true := by decide +kernel
theorem mv_mX8_told : zMv mX8_told := ⟨zT_5 68 (by decide +kernel) (by decide +kernel), zT_5 69 (by decide +kernel) (by decide +kernel)⟩
def mX8_feed : zM := (yX8_feed, cX8_feed, 2, some .int, 0, 0)
theorem mo_mX8_feed : zMo mX8_feed 1 := ⟨zT_5 74 (by decide +kernel) (by decide +kernel), zT_1 15 (by decide +kernel) (by decide +kernel), ⟨by decide +kernel, by decide +kernel, by decide +kernel⟩, by decide⟩
theorem pn_mX8_feed : plainName mX8_feed.1.cls = true := by decide +kernel
theorem mv_mX8_feed : zMv mX8_feed := ⟨zT_5 72 (by decide +kernel) (by decide +kernel), zT_5 73 (by decide +kernel) (by decide +kernel)⟩
def mX8_text : zM := (yX8_text, cX8_text, 3, some .int, 0, 0)
theorem mo_mX8_text : zMo mX8_text 0 := ⟨zT_5 78 (by decide +kernel) (by decide +kernel), zT_1 15 (by decide +kernel) (by decide +kernel), ⟨by decide +kernel, by decide +kernel, by decide +kernel⟩, by decide⟩
theorem pn_mX8_text : plainName mX8_text.1.cls = true := by decide +kernel
theorem mv_mX8_text : zMv mX8_text := ⟨zT_5 76 (by decide +kernel) (by decide +kernel), zT_5 77 (by decide +kernel) (by decide +kernel)⟩
def mX8_next : zM := (yX8_next, cX8_next, 2, none, 0, 0)
theorem mo_mX8_next : zMo mX8_next 0 := ⟨zT_5 82 (by decide +kernel) (by decide +kernel), zT_1 15 (by decide +kernel) (by decide +kernel), ⟨by decide +kernel, by decide +kernel, by decide +kernel⟩, by decide⟩
theorem pn_mX8_next : plainName mX8_next.1.cls = true := by decide +kernel
theorem mv_mX8_next : zMv mX8_next := ⟨zT_5 81 (by decide +kernel) (by decide +kernel), zT_p 46 (by decide +kernel) (by decide +kernel)⟩
def mX8_isLetter : zM := (yX8_isLetter, cX8_isLetter, 1, some .boolean, 0, 0)
theorem mo_mX8_isLetter : zMo mX8_isLetter 1 := ⟨zT_5 85 (by decide +kernel) (by decide +kernel), zT_1 15 (by decide +kernel) (by decide +kernel), ⟨by decide +kernel, by decide +kernel, by decide +kernel⟩, by decide⟩
theorem pn_mX8_isLetter : plainName mX8_isLetter.1.cls = true := by decide +kernel
theorem st_mX8_isLetter : Cond.static mX8_isLetter.1 ∈ zT := zT_5 84 (by decide +kernel) (by decide +kernel)
def mX8_named : zM := (yX8_named, cX8_named, 1, some .int, 0, 0)
theorem mo_mX8_named : zMo mX8_named 0 := ⟨zT_5 89 (by decide +kernel) (by decide +kernel), zT_1 15 (by decide +kernel) (by decide +kernel), ⟨by decide +kernel, by decide +kernel, by decide +kernel⟩, by decide⟩
theorem pn_mX8_named : plainName mX8_named.1.cls = true := by decide +kernel
theorem mv_mX8_named : zMv mX8_named := ⟨zT_5 88 (by decide +kernel) (by decide +kernel), zT_p 47 (by decide +kernel) (by decide +kernel)⟩
def mX8_isKey : zM := (yX8_isKey, cX8_isKey, 1, some .boolean, 0, 0)
theorem mo_mX8_isKey : zMo mX8_isKey 0 := ⟨zT_5 93 (by decide +kernel) (by decide +kernel), zT_1 15 (by decide +kernel) (by decide +kernel), ⟨by decide +kernel, by decide +kernel, by decide +kernel⟩, by decide⟩
theorem pn_mX8_isKey : plainName mX8_isKey.1.cls = true := by decide +kernel
theorem mv_mX8_isKey : zMv mX8_isKey := ⟨zT_5 92 (by decide +kernel) (by decide +kernel), zT_p 48 (by decide +kernel) (by decide +kernel)⟩
def mX8_isDigit : zM := (yX8_isDigit, cX8_isDigit, 1, some .boolean, 0, 0)
theorem mo_mX8_isDigit : zMo mX8_isDigit 1 := ⟨zT_5 96 (by decide +kernel) (by decide +kernel), zT_1 15 (by decide +kernel) (by decide +kernel), ⟨by decide +kernel, by decide +kernel, by decide +kernel⟩, by decide⟩
theorem pn_mX8_isDigit : plainName mX8_isDigit.1.cls = true := by decide +kernel
theorem st_mX8_isDigit : Cond.static mX8_isDigit.1 ∈ zT := zT_5 95 (by decide +kernel) (by decide +kernel)
def mX8_isSign : zM := (yX8_isSign, cX8_isSign, 1, some .boolean, 0, 0)
theorem mo_mX8_isSign : zMo mX8_isSign 1 := ⟨zT_5 99 (by decide +kernel) (by decide +kernel), zT_1 15 (by decide +kernel) (by decide +kernel), ⟨by decide +kernel, by decide +kernel, by decide +kernel⟩, by decide⟩
theorem pn_mX8_isSign : plainName mX8_isSign.1.cls = true := by decide +kernel
theorem st_mX8_isSign : Cond.static mX8_isSign.1 ∈ zT := zT_5 98 (by decide +kernel) (by decide +kernel)
def mX8_part : zM := (yX8_part, cX8_part, 3, some .boolean, 0, 0)
theorem mo_mX8_part : zMo mX8_part 2 := ⟨zT_5 104 (by decide +kernel) (by decide +kernel), zT_1 15 (by decide +kernel) (by decide +kernel), ⟨by decide +kernel, by decide +kernel, by decide +kernel⟩, by decide⟩
theorem pn_mX8_part : plainName mX8_part.1.cls = true := by decide +kernel
theorem mv_mX8_part : zMv mX8_part := ⟨zT_5 103 (by decide +kernel) (by decide +kernel), zT_p 49 (by decide +kernel) (by decide +kernel)⟩
def mX8_takes : zM := (yX8_takes, cX8_takes, 2, some .boolean, 0, 0)
theorem mo_mX8_takes : zMo mX8_takes 1 := ⟨zT_5 108 (by decide +kernel) (by decide +kernel), zT_1 15 (by decide +kernel) (by decide +kernel), ⟨by decide +kernel, by decide +kernel, by decide +kernel⟩, by decide⟩
theorem pn_mX8_takes : plainName mX8_takes.1.cls = true := by decide +kernel
theorem mv_mX8_takes : zMv mX8_takes := ⟨zT_5 107 (by decide +kernel) (by decide +kernel), zT_p 50 (by decide +kernel) (by decide +kernel)⟩
def mX8_goesOn : zM := (yX8_goesOn, cX8_goesOn, 2, some .boolean, 0, 0)
theorem mo_mX8_goesOn : zMo mX8_goesOn 0 := ⟨zT_5 112 (by decide +kernel) (by decide +kernel), zT_1 15 (by decide +kernel) (by decide +kernel), ⟨by decide +kernel, by decide +kernel, by decide +kernel⟩, by decide⟩
theorem pn_mX8_goesOn : plainName mX8_goesOn.1.cls = true := by decide +kernel
theorem mv_mX8_goesOn : zMv mX8_goesOn := ⟨zT_5 111 (by decide +kernel) (by decide +kernel), zT_p 51 (by decide +kernel) (by decide +kernel)⟩
def mX8_one : zM := (yX8_one, cX8_one, 4, some .boolean, 0, 0)
theorem mo_mX8_one : zMo mX8_one 1 := ⟨zT_5 116 (by decide +kernel) (by decide +kernel), zT_1 15 (by decide +kernel) (by decide +kernel), ⟨by decide +kernel, by decide +kernel, by decide +kernel⟩, by decide⟩
theorem pn_mX8_one : plainName mX8_one.1.cls = true := by decide +kernel
theorem mv_mX8_one : zMv mX8_one := ⟨zT_5 115 (by decide +kernel) (by decide +kernel), zT_p 52 (by decide +kernel) (by decide +kernel)⟩
def mX8_lays : zM := (yX8_lays, cX8_lays, 2, none, 0, 0)
theorem mo_mX8_lays : zMo mX8_lays 1 := ⟨zT_5 120 (by decide +kernel) (by decide +kernel), zT_1 15 (by decide +kernel) (by decide +kernel), ⟨by decide +kernel, by decide +kernel, by decide +kernel⟩, by decide⟩
theorem pn_mX8_lays : plainName mX8_lays.1.cls = true := by decide +kernel
theorem mv_mX8_lays : zMv mX8_lays := ⟨zT_5 119 (by decide +kernel) (by decide +kernel), zT_p 53 (by decide +kernel) (by decide +kernel)⟩
def mX8_rank : zM := (yX8_rank, cX8_rank, 1, some .int, 0, 0)
theorem mo_mX8_rank : zMo mX8_rank 1 := ⟨zT_5 123 (by decide +kernel) (by decide +kernel), zT_1 15 (by decide +kernel) (by decide +kernel), ⟨by decide +kernel, by decide +kernel, by decide +kernel⟩, by decide⟩
theorem pn_mX8_rank : plainName mX8_rank.1.cls = true := by decide +kernel
theorem st_mX8_rank : Cond.static mX8_rank.1 ∈ zT := zT_5 122 (by decide +kernel) (by decide +kernel)
def mX8_push : zM := (yX8_push, cX8_push, 2, none, 0, 0)
theorem mo_mX8_push : zMo mX8_push 1 := ⟨zT_5 127 (by decide +kernel) (by decide +kernel), zT_1 15 (by decide +kernel) (by decide +kernel), ⟨by decide +kernel, by decide +kernel, by decide +kernel⟩, by decide⟩
theorem pn_mX8_push : plainName mX8_push.1.cls = true := by decide +kernel
theorem mv_mX8_push : zMv mX8_push := ⟨zT_5 126 (by decide +kernel) (by decide +kernel), zT_p 54 (by decide +kernel) (by decide +kernel)⟩
def mX8_closes : zM := (yX8_closes, cX8_closes, 1, some .boolean, 0, 0)
theorem mo_mX8_closes : zMo mX8_closes 0 := ⟨zT_5 131 (by decide +kernel) (by decide +kernel), zT_1 15 (by decide +kernel) (by decide +kernel), ⟨by decide +kernel, by decide +kernel, by decide +kernel⟩, by decide⟩
theorem pn_mX8_closes : plainName mX8_closes.1.cls = true := by decide +kernel
theorem mv_mX8_closes : zMv mX8_closes := ⟨zT_5 130 (by decide +kernel) (by decide +kernel), zT_p 55 (by decide +kernel) (by decide +kernel)⟩
def mX8_signed : zM := (yX8_signed, cX8_signed, 1, some .int, 0, 0)
theorem mo_mX8_signed : zMo mX8_signed 0 := ⟨zT_5 135 (by decide +kernel) (by decide +kernel), zT_1 15 (by decide +kernel) (by decide +kernel), ⟨by decide +kernel, by decide +kernel, by decide +kernel⟩, by decide⟩
theorem pn_mX8_signed : plainName mX8_signed.1.cls = true := by decide +kernel
theorem mv_mX8_signed : zMv mX8_signed := ⟨zT_5 134 (by decide +kernel) (by decide +kernel), zT_p 56 (by decide +kernel) (by decide +kernel)⟩
def mX8_force : zM := (yX8_force, cX8_force, 3, some .int, 0, 0)
theorem mo_mX8_force : zMo mX8_force 1 := ⟨zT_5 141 (by decide +kernel) (by decide +kernel), zT_1 15 (by decide +kernel) (by decide +kernel), ⟨by decide +kernel, by decide +kernel, by decide +kernel⟩, by decide⟩
theorem pn_mX8_force : plainName mX8_force.1.cls = true := by decide +kernel
theorem mv_mX8_force : zMv mX8_force := ⟨zT_5 139 (by decide +kernel) (by decide +kernel), zT_5 140 (by decide +kernel) (by decide +kernel)⟩
def mX8_says : zM := (yX8_says, cX8_says, 4, some .int, 0, 0)
theorem mo_mX8_says : zMo mX8_says 3 := ⟨zT_5 145 (by decide +kernel) (by decide +kernel), zT_1 15 (by decide +kernel) (by decide +kernel), ⟨by decide +kernel, by decide +kernel, by decide +kernel⟩, by decide⟩
theorem pn_mX8_says : plainName mX8_says.1.cls = true := by decide +kernel
theorem mv_mX8_says : zMv mX8_says := ⟨zT_5 143 (by decide +kernel) (by decide +kernel), zT_5 144 (by decide +kernel) (by decide +kernel)⟩
def mX8_isSum : zM := (yX8_isSum, cX8_isSum, 1, some .boolean, 0, 0)
theorem mo_mX8_isSum : zMo mX8_isSum 1 := ⟨zT_5 148 (by decide +kernel) (by decide +kernel), zT_1 15 (by decide +kernel) (by decide +kernel), ⟨by decide +kernel, by decide +kernel, by decide +kernel⟩, by decide⟩
theorem pn_mX8_isSum : plainName mX8_isSum.1.cls = true := by decide +kernel
theorem st_mX8_isSum : Cond.static mX8_isSum.1 ∈ zT := zT_5 147 (by decide +kernel) (by decide +kernel)
def mX8_costs : zM := (yX8_costs, cX8_costs, 4, some .int, 0, 0)
theorem mo_mX8_costs : zMo mX8_costs 2 := ⟨zT_5 152 (by decide +kernel) (by decide +kernel), zT_1 15 (by decide +kernel) (by decide +kernel), ⟨by decide +kernel, by decide +kernel, by decide +kernel⟩, by decide⟩
theorem pn_mX8_costs : plainName mX8_costs.1.cls = true := by decide +kernel
theorem mv_mX8_costs : zMv mX8_costs := ⟨zT_5 151 (by decide +kernel) (by decide +kernel), zT_p 57 (by decide +kernel) (by decide +kernel)⟩
def mX8_tells : zM := (yX8_tells, cX8_tells, 9, some .int, 0, 0)
theorem mo_mX8_tells : zMo mX8_tells 3 := ⟨zT_5 156 (by decide +kernel) (by decide +kernel), zT_1 15 (by decide +kernel) (by decide +kernel), ⟨by decide +kernel, by decide +kernel, by decide +kernel⟩, by decide⟩
theorem pn_mX8_tells : plainName mX8_tells.1.cls = true := by decide +kernel
theorem mv_mX8_tells : zMv mX8_tells := ⟨zT_5 155 (by decide +kernel) (by decide +kernel), zT_p 58 (by decide +kernel) (by decide +kernel)⟩
def mX8_both : zM := (yX8_both, cX8_both, 3, some .int, 0, 0)
theorem mo_mX8_both : zMo mX8_both 3 := ⟨zT_5 159 (by decide +kernel) (by decide +kernel), zT_1 15 (by decide +kernel) (by decide +kernel), ⟨by decide +kernel, by decide +kernel, by decide +kernel⟩, by decide⟩
theorem pn_mX8_both : plainName mX8_both.1.cls = true := by decide +kernel
theorem st_mX8_both : Cond.static mX8_both.1 ∈ zT := zT_5 158 (by decide +kernel) (by decide +kernel)
def mX8_bound : zM := (yX8_bound, cX8_bound, 1, some .int, 0, 0)
theorem mo_mX8_bound : zMo mX8_bound 1 := ⟨zT_5 162 (by decide +kernel) (by decide +kernel), zT_1 15 (by decide +kernel) (by decide +kernel), ⟨by decide +kernel, by decide +kernel, by decide +kernel⟩, by decide⟩
theorem pn_mX8_bound : plainName mX8_bound.1.cls = true := by decide +kernel
theorem st_mX8_bound : Cond.static mX8_bound.1 ∈ zT := zT_5 161 (by decide +kernel) (by decide +kernel)
def mX8_one_ : zM := (yX8_one_, cX8_one_, 1, some .int, 0, 0)
theorem mo_mX8_one_ : zMo mX8_one_ 1 := ⟨zT_5 165 (by decide +kernel) (by decide +kernel), zT_1 15 (by decide +kernel) (by decide +kernel), ⟨by decide +kernel, by decide +kernel, by decide +kernel⟩, by decide⟩
theorem pn_mX8_one_ : plainName mX8_one_.1.cls = true := by decide +kernel
theorem st_mX8_one_ : Cond.static mX8_one_.1 ∈ zT := zT_5 164 (by decide +kernel) (by decide +kernel)
def mX8_isMeant : zM := (yX8_isMeant, cX8_isMeant, 3, some .boolean, 0, 0)
theorem mo_mX8_isMeant : zMo mX8_isMeant 2 := ⟨zT_5 169 (by decide +kernel) (by decide +kernel), zT_1 15 (by decide +kernel) (by decide +kernel), ⟨by decide +kernel, by decide +kernel, by decide +kernel⟩, by decide⟩
theorem pn_mX8_isMeant : plainName mX8_isMeant.1.cls = true := by decide +kernel
theorem mv_mX8_isMeant : zMv mX8_isMeant := ⟨zT_5 168 (by decide +kernel) (by decide +kernel), zT_p 59 (by decide +kernel) (by decide +kernel)⟩
def mX8_worthOf : zM := (yX8_worthOf, cX8_worthOf, 3, some .int, 0, 0)
theorem mo_mX8_worthOf : zMo mX8_worthOf 2 := ⟨zT_5 173 (by decide +kernel) (by decide +kernel), zT_1 15 (by decide +kernel) (by decide +kernel), ⟨by decide +kernel, by decide +kernel, by decide +kernel⟩, by decide⟩
theorem pn_mX8_worthOf : plainName mX8_worthOf.1.cls = true := by decide +kernel
theorem mv_mX8_worthOf : zMv mX8_worthOf := ⟨zT_5 172 (by decide +kernel) (by decide +kernel), zT_p 60 (by decide +kernel) (by decide +kernel)⟩
def mX8_common : zM := (yX8_common, cX8_common, 3, some .int, 0, 0)
theorem mo_mX8_common : zMo mX8_common 2 := ⟨zT_5 177 (by decide +kernel) (by decide +kernel), zT_1 15 (by decide +kernel) (by decide +kernel), ⟨by decide +kernel, by decide +kernel, by decide +kernel⟩, by decide⟩
theorem pn_mX8_common : plainName mX8_common.1.cls = true := by decide +kernel
theorem mv_mX8_common : zMv mX8_common := ⟨zT_5 175 (by decide +kernel) (by decide +kernel), zT_5 176 (by decide +kernel) (by decide +kernel)⟩
def mX8_pays : zM := (yX8_pays, cX8_pays, 5, some .int, 0, 0)
theorem mo_mX8_pays : zMo mX8_pays 4 := ⟨zT_5 181 (by decide +kernel) (by decide +kernel), zT_1 15 (by decide +kernel) (by decide +kernel), ⟨by decide +kernel, by decide +kernel, by decide +kernel⟩, by decide⟩
theorem pn_mX8_pays : plainName mX8_pays.1.cls = true := by decide +kernel
theorem mv_mX8_pays : zMv mX8_pays := ⟨zT_5 179 (by decide +kernel) (by decide +kernel), zT_5 180 (by decide +kernel) (by decide +kernel)⟩
def mX8_sums : zM := (yX8_sums, cX8_sums, 6, none, 0, 0)
theorem mo_mX8_sums : zMo mX8_sums 2 := ⟨zT_5 185 (by decide +kernel) (by decide +kernel), zT_1 15 (by decide +kernel) (by decide +kernel), ⟨by decide +kernel, by decide +kernel, by decide +kernel⟩, by decide⟩
theorem pn_mX8_sums : plainName mX8_sums.1.cls = true := by decide +kernel
theorem mv_mX8_sums : zMv mX8_sums := ⟨zT_5 184 (by decide +kernel) (by decide +kernel), zT_p 61 (by decide +kernel) (by decide +kernel)⟩
def mX8_legs : zM := (yX8_legs, cX8_legs, 4, none, 0, 0)
theorem mo_mX8_legs : zMo mX8_legs 1 := ⟨zT_5 189 (by decide +kernel) (by decide +kernel), zT_1 15 (by decide +kernel) (by decide +kernel), ⟨by decide +kernel, by decide +kernel, by decide +kernel⟩, by decide⟩
theorem pn_mX8_legs : plainName mX8_legs.1.cls = true := by decide +kernel
theorem mv_mX8_legs : zMv mX8_legs := ⟨zT_5 188 (by decide +kernel) (by decide +kernel), zT_p 62 (by decide +kernel) (by decide +kernel)⟩
def mX8_ways : zM := (yX8_ways, cX8_ways, 6, none, 0, 0)
theorem mo_mX8_ways : zMo mX8_ways 1 := ⟨zT_5 193 (by decide +kernel) (by decide +kernel), zT_1 15 (by decide +kernel) (by decide +kernel), ⟨by decide +kernel, by decide +kernel, by decide +kernel⟩, by decide⟩
theorem pn_mX8_ways : plainName mX8_ways.1.cls = true := by decide +kernel
theorem mv_mX8_ways : zMv mX8_ways := ⟨zT_5 192 (by decide +kernel) (by decide +kernel), zT_p 63 (by decide +kernel) (by decide +kernel)⟩
def mX8_barred : zM := (yX8_barred, cX8_barred, 4, some .int, 0, 0)
theorem mo_mX8_barred : zMo mX8_barred 3 := ⟨zT_5 197 (by decide +kernel) (by decide +kernel), zT_1 15 (by decide +kernel) (by decide +kernel), ⟨by decide +kernel, by decide +kernel, by decide +kernel⟩, by decide⟩
theorem pn_mX8_barred : plainName mX8_barred.1.cls = true := by decide +kernel
theorem mv_mX8_barred : zMv mX8_barred := ⟨zT_5 195 (by decide +kernel) (by decide +kernel), zT_5 196 (by decide +kernel) (by decide +kernel)⟩
def mX8_barredOf : zM := (yX8_barredOf, cX8_barredOf, 8, some .int, 0, 0)
theorem mo_mX8_barredOf : zMo mX8_barredOf 3 := ⟨zT_5 201 (by decide +kernel) (by decide +kernel), zT_1 15 (by decide +kernel) (by decide +kernel), ⟨by decide +kernel, by decide +kernel, by decide +kernel⟩, by decide⟩
theorem pn_mX8_barredOf : plainName mX8_barredOf.1.cls = true := by decide +kernel
theorem mv_mX8_barredOf : zMv mX8_barredOf := ⟨zT_5 200 (by decide +kernel) (by decide +kernel), zT_p 64 (by decide +kernel) (by decide +kernel)⟩
def mX8_silent : zM := (yX8_silent, cX8_silent, 5, some .int, 0, 0)
theorem mo_mX8_silent : zMo mX8_silent 1 := ⟨zT_5 205 (by decide +kernel) (by decide +kernel), zT_1 15 (by decide +kernel) (by decide +kernel), ⟨by decide +kernel, by decide +kernel, by decide +kernel⟩, by decide⟩
theorem pn_mX8_silent : plainName mX8_silent.1.cls = true := by decide +kernel
theorem mv_mX8_silent : zMv mX8_silent := ⟨zT_5 203 (by decide +kernel) (by decide +kernel), zT_5 204 (by decide +kernel) (by decide +kernel)⟩
def mX8_middle : zM := (yX8_middle, cX8_middle, 9, some .int, 0, 0)
theorem mo_mX8_middle : zMo mX8_middle 2 := ⟨zT_5 209 (by decide +kernel) (by decide +kernel), zT_1 15 (by decide +kernel) (by decide +kernel), ⟨by decide +kernel, by decide +kernel, by decide +kernel⟩, by decide⟩
theorem pn_mX8_middle : plainName mX8_middle.1.cls = true := by decide +kernel
theorem mv_mX8_middle : zMv mX8_middle := ⟨zT_5 207 (by decide +kernel) (by decide +kernel), zT_5 208 (by decide +kernel) (by decide +kernel)⟩
def mX8_reached : zM := (yX8_reached, cX8_reached, 7, some .int, 0, 0)
theorem mo_mX8_reached : zMo mX8_reached 2 := ⟨zT_5 213 (by decide +kernel) (by decide +kernel), zT_1 15 (by decide +kernel) (by decide +kernel), ⟨by decide +kernel, by decide +kernel, by decide +kernel⟩, by decide⟩
theorem pn_mX8_reached : plainName mX8_reached.1.cls = true := by decide +kernel
theorem mv_mX8_reached : zMv mX8_reached := ⟨zT_5 212 (by decide +kernel) (by decide +kernel), zT_p 65 (by decide +kernel) (by decide +kernel)⟩
def mX8_leave : zM := (yX8_leave, cX8_leave, 10, some .int, 0, 0)
theorem mo_mX8_leave : zMo mX8_leave 2 := ⟨zT_5 217 (by decide +kernel) (by decide +kernel), zT_1 15 (by decide +kernel) (by decide +kernel), ⟨by decide +kernel, by decide +kernel, by decide +kernel⟩, by decide⟩
theorem pn_mX8_leave : plainName mX8_leave.1.cls = true := by decide +kernel
theorem mv_mX8_leave : zMv mX8_leave := ⟨zT_5 215 (by decide +kernel) (by decide +kernel), zT_5 216 (by decide +kernel) (by decide +kernel)⟩
def mX8_buy : zM := (yX8_buy, cX8_buy, 9, some .int, 0, 0)
theorem mo_mX8_buy : zMo mX8_buy 3 := ⟨zT_5 221 (by decide +kernel) (by decide +kernel), zT_1 15 (by decide +kernel) (by decide +kernel), ⟨by decide +kernel, by decide +kernel, by decide +kernel⟩, by decide⟩
theorem pn_mX8_buy : plainName mX8_buy.1.cls = true := by decide +kernel
theorem mv_mX8_buy : zMv mX8_buy := ⟨zT_5 219 (by decide +kernel) (by decide +kernel), zT_5 220 (by decide +kernel) (by decide +kernel)⟩
def mX8_pawn : zM := (yX8_pawn, cX8_pawn, 9, some .int, 0, 0)
theorem mo_mX8_pawn : zMo mX8_pawn 3 := ⟨zT_5 225 (by decide +kernel) (by decide +kernel), zT_1 15 (by decide +kernel) (by decide +kernel), ⟨by decide +kernel, by decide +kernel, by decide +kernel⟩, by decide⟩
theorem pn_mX8_pawn : plainName mX8_pawn.1.cls = true := by decide +kernel
theorem mv_mX8_pawn : zMv mX8_pawn := ⟨zT_5 223 (by decide +kernel) (by decide +kernel), zT_5 224 (by decide +kernel) (by decide +kernel)⟩
def mX8_unpaid : zM := (yX8_unpaid, cX8_unpaid, 5, some .int, 0, 0)
theorem mo_mX8_unpaid : zMo mX8_unpaid 2 := ⟨zT_5 229 (by decide +kernel) (by decide +kernel), zT_1 15 (by decide +kernel) (by decide +kernel), ⟨by decide +kernel, by decide +kernel, by decide +kernel⟩, by decide⟩
theorem pn_mX8_unpaid : plainName mX8_unpaid.1.cls = true := by decide +kernel
theorem mv_mX8_unpaid : zMv mX8_unpaid := ⟨zT_5 228 (by decide +kernel) (by decide +kernel), zT_p 66 (by decide +kernel) (by decide +kernel)⟩
def mX8_rows : zM := (yX8_rows, cX8_rows, 6, some .int, 0, 0)
theorem mo_mX8_rows : zMo mX8_rows 4 := ⟨zT_5 233 (by decide +kernel) (by decide +kernel), zT_1 15 (by decide +kernel) (by decide +kernel), ⟨by decide +kernel, by decide +kernel, by decide +kernel⟩, by decide⟩
theorem pn_mX8_rows : plainName mX8_rows.1.cls = true := by decide +kernel
theorem mv_mX8_rows : zMv mX8_rows := ⟨zT_5 231 (by decide +kernel) (by decide +kernel), zT_5 232 (by decide +kernel) (by decide +kernel)⟩
def mX8_isSheet : zM := (yX8_isSheet, cX8_isSheet, 1, some .boolean, 0, 0)
theorem mo_mX8_isSheet : zMo mX8_isSheet 1 := ⟨zT_5 236 (by decide +kernel) (by decide +kernel), zT_1 15 (by decide +kernel) (by decide +kernel), ⟨by decide +kernel, by decide +kernel, by decide +kernel⟩, by decide⟩
theorem pn_mX8_isSheet : plainName mX8_isSheet.1.cls = true := by decide +kernel
theorem st_mX8_isSheet : Cond.static mX8_isSheet.1 ∈ zT := zT_5 235 (by decide +kernel) (by decide +kernel)
def mX8_otherwise : zM := (yX8_otherwise, cX8_otherwise, 5, some .int, 0, 0)
theorem mo_mX8_otherwise : zMo mX8_otherwise 3 := ⟨zT_6 0 (by decide +kernel) (by decide +kernel), zT_1 15 (by decide +kernel) (by decide +kernel), ⟨by decide +kernel, by decide +kernel, by decide +kernel⟩, by decide⟩
theorem pn_mX8_otherwise : plainName mX8_otherwise.1.cls = true := by decide +kernel
theorem mv_mX8_otherwise : zMv mX8_otherwise := ⟨zT_5 239 (by decide +kernel) (by decide +kernel), zT_p 67 (by decide +kernel) (by decide +kernel)⟩
def mX8_kinds : zM := (yX8_kinds, cX8_kinds, 7, some .int, 0, 0)
theorem mo_mX8_kinds : zMo mX8_kinds 3 := ⟨zT_6 4 (by decide +kernel) (by decide +kernel), zT_1 15 (by decide +kernel) (by decide +kernel), ⟨by decide +kernel, by decide +kernel, by decide +kernel⟩, by decide⟩
theorem pn_mX8_kinds : plainName mX8_kinds.1.cls = true := by decide +kernel
theorem mv_mX8_kinds : zMv mX8_kinds := ⟨zT_6 3 (by decide +kernel) (by decide +kernel), zT_p 68 (by decide +kernel) (by decide +kernel)⟩
def mX8_isSo : zM := (yX8_isSo, cX8_isSo, 4, some .boolean, 0, 0)
theorem mo_mX8_isSo : zMo mX8_isSo 3 := ⟨zT_6 8 (by decide +kernel) (by decide +kernel), zT_1 15 (by decide +kernel) (by decide +kernel), ⟨by decide +kernel, by decide +kernel, by decide +kernel⟩, by decide⟩
theorem pn_mX8_isSo : plainName mX8_isSo.1.cls = true := by decide +kernel
theorem mv_mX8_isSo : zMv mX8_isSo := ⟨zT_6 7 (by decide +kernel) (by decide +kernel), zT_p 69 (by decide +kernel) (by decide +kernel)⟩
def mX8_mores : zM := (yX8_mores, cX8_mores, 7, some .int, 0, 0)
theorem mo_mX8_mores : zMo mX8_mores 3 := ⟨zT_6 12 (by decide +kernel) (by decide +kernel), zT_1 15 (by decide +kernel) (by decide +kernel), ⟨by decide +kernel, by decide +kernel, by decide +kernel⟩, by decide⟩
theorem pn_mX8_mores : plainName mX8_mores.1.cls = true := by decide +kernel
theorem mv_mX8_mores : zMv mX8_mores := ⟨zT_6 11 (by decide +kernel) (by decide +kernel), zT_p 70 (by decide +kernel) (by decide +kernel)⟩
def mX8_rules : zM := (yX8_rules, cX8_rules, 7, some .int, 0, 0)
theorem mo_mX8_rules : zMo mX8_rules 3 := ⟨zT_6 16 (by decide +kernel) (by decide +kernel), zT_1 15 (by decide +kernel) (by decide +kernel), ⟨by decide +kernel, by decide +kernel, by decide +kernel⟩, by decide⟩
theorem pn_mX8_rules : plainName mX8_rules.1.cls = true := by decide +kernel
theorem mv_mX8_rules : zMv mX8_rules := ⟨zT_6 15 (by decide +kernel) (by decide +kernel), zT_p 71 (by decide +kernel) (by decide +kernel)⟩
def mX8_owns : zM := (yX8_owns, cX8_owns, 8, some .int, 0, 0)
theorem mo_mX8_owns : zMo mX8_owns 4 := ⟨zT_6 20 (by decide +kernel) (by decide +kernel), zT_1 15 (by decide +kernel) (by decide +kernel), ⟨by decide +kernel, by decide +kernel, by decide +kernel⟩, by decide⟩
theorem pn_mX8_owns : plainName mX8_owns.1.cls = true := by decide +kernel
theorem mv_mX8_owns : zMv mX8_owns := ⟨zT_6 19 (by decide +kernel) (by decide +kernel), zT_p 72 (by decide +kernel) (by decide +kernel)⟩
def mX8_film : zM := (yX8_film, cX8_film, 7, some .int, 0, 0)
theorem mo_mX8_film : zMo mX8_film 4 := ⟨zT_6 24 (by decide +kernel) (by decide +kernel), zT_1 15 (by decide +kernel) (by decide +kernel), ⟨by decide +kernel, by decide +kernel, by decide +kernel⟩, by decide⟩
theorem pn_mX8_film : plainName mX8_film.1.cls = true := by decide +kernel
theorem mv_mX8_film : zMv mX8_film := ⟨zT_6 22 (by decide +kernel) (by decide +kernel), zT_6 23 (by decide +kernel) (by decide +kernel)⟩
def mX8_sheet : zM := (yX8_sheet, cX8_sheet, 5, some .int, 0, 0)
theorem mo_mX8_sheet : zMo mX8_sheet 3 := ⟨zT_6 28 (by decide +kernel) (by decide +kernel), zT_1 15 (by decide +kernel) (by decide +kernel), ⟨by decide +kernel, by decide +kernel, by decide +kernel⟩, by decide⟩
theorem pn_mX8_sheet : plainName mX8_sheet.1.cls = true := by decide +kernel
theorem mv_mX8_sheet : zMv mX8_sheet := ⟨zT_6 26 (by decide +kernel) (by decide +kernel), zT_6 27 (by decide +kernel) (by decide +kernel)⟩
def mX8_drawn : zM := (yX8_drawn, cX8_drawn, 2, some .int, 0, 0)
theorem mo_mX8_drawn : zMo mX8_drawn 1 := ⟨zT_6 32 (by decide +kernel) (by decide +kernel), zT_1 15 (by decide +kernel) (by decide +kernel), ⟨by decide +kernel, by decide +kernel, by decide +kernel⟩, by decide⟩
theorem pn_mX8_drawn : plainName mX8_drawn.1.cls = true := by decide +kernel
theorem mv_mX8_drawn : zMv mX8_drawn := ⟨zT_6 30 (by decide +kernel) (by decide +kernel), zT_6 31 (by decide +kernel) (by decide +kernel)⟩
def mX8_draw : zM := (yX8_draw, cX8_draw, 5, some .int, 0, 0)
theorem mo_mX8_draw : zMo mX8_draw 1 := ⟨zT_6 36 (by decide +kernel) (by decide +kernel), zT_1 15 (by decide +kernel) (by decide +kernel), ⟨by decide +kernel, by decide +kernel, by decide +kernel⟩, by decide⟩
theorem pn_mX8_draw : plainName mX8_draw.1.cls = true := by decide +kernel
theorem mv_mX8_draw : zMv mX8_draw := ⟨zT_6 35 (by decide +kernel) (by decide +kernel), zT_p 73 (by decide +kernel) (by decide +kernel)⟩
def mX8_keep : zM := (yX8_keep, cX8_keep, 2, none, 0, 0)
theorem mo_mX8_keep : zMo mX8_keep 0 := ⟨zT_6 40 (by decide +kernel) (by decide +kernel), zT_1 15 (by decide +kernel) (by decide +kernel), ⟨by decide +kernel, by decide +kernel, by decide +kernel⟩, by decide⟩
theorem pn_mX8_keep : plainName mX8_keep.1.cls = true := by decide +kernel
theorem mv_mX8_keep : zMv mX8_keep := ⟨zT_6 39 (by decide +kernel) (by decide +kernel), zT_p 74 (by decide +kernel) (by decide +kernel)⟩
def mX8_chance : zM := (yX8_chance, cX8_chance, 9, some .long, 0, 0)
theorem mo_mX8_chance : zMo mX8_chance 3 := ⟨zT_6 45 (by decide +kernel) (by decide +kernel), zT_1 15 (by decide +kernel) (by decide +kernel), ⟨by decide +kernel, by decide +kernel, by decide +kernel⟩, by decide⟩
theorem pn_mX8_chance : plainName mX8_chance.1.cls = true := by decide +kernel
theorem mv_mX8_chance : zMv mX8_chance := ⟨zT_6 43 (by decide +kernel) (by decide +kernel), zT_6 44 (by decide +kernel) (by decide +kernel)⟩
def mX8_image : zM := (yX8_image, cX8_image, 2, some .int, 0, 0)
theorem mo_mX8_image : zMo mX8_image 0 := ⟨zT_6 50 (by decide +kernel) (by decide +kernel), zT_1 15 (by decide +kernel) (by decide +kernel), ⟨by decide +kernel, by decide +kernel, by decide +kernel⟩, by decide⟩
theorem pn_mX8_image : plainName mX8_image.1.cls = true := by decide +kernel
theorem mv_mX8_image : zMv mX8_image := ⟨zT_6 48 (by decide +kernel) (by decide +kernel), zT_6 49 (by decide +kernel) (by decide +kernel)⟩
def mX8_back : zM := (yX8_back, cX8_back, 2, some .int, 0, 0)
theorem mo_mX8_back : zMo mX8_back 0 := ⟨zT_6 54 (by decide +kernel) (by decide +kernel), zT_1 15 (by decide +kernel) (by decide +kernel), ⟨by decide +kernel, by decide +kernel, by decide +kernel⟩, by decide⟩
theorem pn_mX8_back : plainName mX8_back.1.cls = true := by decide +kernel
theorem mv_mX8_back : zMv mX8_back := ⟨zT_6 52 (by decide +kernel) (by decide +kernel), zT_6 53 (by decide +kernel) (by decide +kernel)⟩
def mX8_count : zM := (yX8_count, cX8_count, 4, some .int, 0, 0)
theorem mo_mX8_count : zMo mX8_count 1 := ⟨zT_6 58 (by decide +kernel) (by decide +kernel), zT_1 15 (by decide +kernel) (by decide +kernel), ⟨by decide +kernel, by decide +kernel, by decide +kernel⟩, by decide⟩
theorem pn_mX8_count : plainName mX8_count.1.cls = true := by decide +kernel
theorem mv_mX8_count : zMv mX8_count := ⟨zT_6 56 (by decide +kernel) (by decide +kernel), zT_6 57 (by decide +kernel) (by decide +kernel)⟩
def mX8_cell : zM := (yX8_cell, cX8_cell, 4, some .int, 0, 0)
theorem mo_mX8_cell : zMo mX8_cell 3 := ⟨zT_6 63 (by decide +kernel) (by decide +kernel), zT_1 15 (by decide +kernel) (by decide +kernel), ⟨by decide +kernel, by decide +kernel, by decide +kernel⟩, by decide⟩
theorem pn_mX8_cell : plainName mX8_cell.1.cls = true := by decide +kernel
theorem mv_mX8_cell : zMv mX8_cell := ⟨zT_6 61 (by decide +kernel) (by decide +kernel), zT_6 62 (by decide +kernel) (by decide +kernel)⟩
def mX8_copy : zM := (yX8_copy, cX8_copy, 7, some .int, 0, 0)
theorem mo_mX8_copy : zMo mX8_copy 5 := ⟨zT_6 67 (by decide +kernel) (by decide +kernel), zT_1 15 (by decide +kernel) (by decide +kernel), ⟨by decide +kernel, by decide +kernel, by decide +kernel⟩, by decide⟩
theorem pn_mX8_copy : plainName mX8_copy.1.cls = true := by decide +kernel
theorem mv_mX8_copy : zMv mX8_copy := ⟨zT_6 65 (by decide +kernel) (by decide +kernel), zT_6 66 (by decide +kernel) (by decide +kernel)⟩
def mX8_heirs : zM := (yX8_heirs, cX8_heirs, 9, some .int, 0, 0)
theorem mo_mX8_heirs : zMo mX8_heirs 4 := ⟨zT_6 71 (by decide +kernel) (by decide +kernel), zT_1 15 (by decide +kernel) (by decide +kernel), ⟨by decide +kernel, by decide +kernel, by decide +kernel⟩, by decide⟩
theorem pn_mX8_heirs : plainName mX8_heirs.1.cls = true := by decide +kernel
theorem mv_mX8_heirs : zMv mX8_heirs := ⟨zT_6 69 (by decide +kernel) (by decide +kernel), zT_6 70 (by decide +kernel) (by decide +kernel)⟩
def mX8_taken : zM := (yX8_taken, cX8_taken, 4, some .int, 0, 0)
theorem mo_mX8_taken : zMo mX8_taken 2 := ⟨zT_6 77 (by decide +kernel) (by decide +kernel), zT_1 15 (by decide +kernel) (by decide +kernel), ⟨by decide +kernel, by decide +kernel, by decide +kernel⟩, by decide⟩
theorem pn_mX8_taken : plainName mX8_taken.1.cls = true := by decide +kernel
theorem mv_mX8_taken : zMv mX8_taken := ⟨zT_6 75 (by decide +kernel) (by decide +kernel), zT_6 76 (by decide +kernel) (by decide +kernel)⟩
def mL_law : zM := (yL_law, cL_law, 4, some .boolean, 79, 6121)
theorem cl_L_7 : Cond.classLink RL 7 "NumbersInherited" ∈ zT := zT_1 18 (by decide +kernel) (by decide +kernel)
theorem lk_L_9 : zLk RL 9 yX7_init := Or.inl (zT_1 20 (by decide +kernel) (by decide +kernel))
theorem lw_X7_3 : Cond.methodLink RX7 3 Lib.objectInit ∈ zT := zT_1 23 (by decide +kernel) (by decide +kernel)
theorem cl_X7_9 : Cond.classLink RX7 9 "NumbersInherited$Heir" ∈ zT := zT_1 26 (by decide +kernel) (by decide +kernel)
theorem cl_X7_15 : Cond.classLink RX7 15 "NumbersInherited$Sheet" ∈ zT := zT_1 28 (by decide +kernel) (by decide +kernel)
theorem cl_X7_21 : Cond.classLink RX7 21 "NumbersInherited$Law" ∈ zT := zT_1 30 (by decide +kernel) (by decide +kernel)
theorem lk_X7_23 : zLk RX7 23 yX2_init := Or.inl (zT_1 32 (by decide +kernel) (by decide +kernel))
theorem lw_X2_3 : Cond.methodLink RX2 3 Lib.objectInit ∈ zT := zT_1 35 (by decide +kernel) (by decide +kernel)
theorem cl_X2_9 : Cond.classLink RX2 9 "NumbersInherited$Reader" ∈ zT := zT_1 36 (by decide +kernel) (by decide +kernel)
theorem lw_X4_5 : Cond.methodLink RX4 5 Lib.objectInit ∈ zT := zT_1 41 (by decide +kernel) (by decide +kernel)
theorem cl_X2_18 : Cond.classLink RX2 18 "[[I" ∈ zT := zT_1 69 (by decide +kernel) (by decide +kernel)
theorem lk_X2_35 : zLk RX2 35 yJ0_length_8abf5 := Or.inl (zT_1 72 (by decide +kernel) (by decide +kernel))
theorem lk_J0_335 : zLk RJ0 335 yJ0_coder_7d493 := Or.inl (zT_1 76 (by decide +kernel) (by decide +kernel))
theorem lk_X2_41 : zLk RX2 41 yJ0_charAt_5068e := Or.inl (zT_1 82 (by decide +kernel) (by decide +kernel))
theorem lk_J0_492 : zLk RJ0 492 yJ0_isLatin1_aae02 := Or.inl (zT_1 86 (by decide +kernel) (by decide +kernel))
theorem lk_J0_495 : zLk RJ0 495 yJ1_charAt_3b067 := Or.inl (zT_1 90 (by decide +kernel) (by decide +kernel))
theorem lk_J1_9 : zLk RJ1 9 yJ0_checkIndex_df160 := Or.inl (zT_1 93 (by decide +kernel) (by decide +kernel))
theorem lk_J0_1059 : zLk RJ0 1059 yJ3_checkIndex_8e157 := Or.inl (zT_1 98 (by decide +kernel) (by decide +kernel))
theorem lk_X2_45 : zLk RX2 45 yX4_put := Or.inl (zT_1 120 (by decide +kernel) (by decide +kernel))
theorem lk_X2_49 : zLk RX2 49 yX2_readText := Or.inl (zT_1 124 (by decide +kernel) (by decide +kernel))
theorem lk_X2_56 : zLk RX2 56 yX4_read := Or.inl (zT_1 128 (by decide +kernel) (by decide +kernel))
theorem lk_X4_28 : zLk RX4 28 yX4_next := Or.inl (zT_1 132 (by decide +kernel) (by decide +kernel))
theorem lk_X4_72 : zLk RX4 72 yX4_isLetter := Or.inl (zT_1 136 (by decide +kernel) (by decide +kernel))
theorem lk_X4_75 : zLk RX4 75 yX4_nextWord := Or.inl (zT_1 139 (by decide +kernel) (by decide +kernel))
theorem lk_X4_87 : zLk RX4 87 yX4_word := Or.inl (zT_1 143 (by decide +kernel) (by decide +kernel))
theorem lk_X4_91 : zLk RX4 91 yX4_stands := Or.inl (zT_1 158 (by decide +kernel) (by decide +kernel))
theorem lk_X4_95 : zLk RX4 95 yJ0_length_8abf5 := Or.inl (zT_1 162 (by decide +kernel) (by decide +kernel))
theorem lk_X4_101 : zLk RX4 101 yJ0_charAt_5068e := Or.inl (zT_1 163 (by decide +kernel) (by decide +kernel))
theorem lk_X4_78 : zLk RX4 78 yX4_isDigit := Or.inl (zT_1 164 (by decide +kernel) (by decide +kernel))
theorem lk_X4_81 : zLk RX4 81 yX4_nextNumber := Or.inl (zT_1 167 (by decide +kernel) (by decide +kernel))
theorem lk_X4_84 : zLk RX4 84 yX4_isSign := Or.inl (zT_1 171 (by decide +kernel) (by decide +kernel))
theorem lk_X4_130 : zLk RX4 130 yJ0_indexOf_0f7a4 := Or.inl (zT_1 175 (by decide +kernel) (by decide +kernel))
theorem lk_J0_633 : zLk RJ0 633 yJ0_indexOf_7cf53 := Or.inl (zT_1 179 (by decide +kernel) (by decide +kernel))
theorem lk_J0_505 : zLk RJ0 505 yJ0_length_8abf5 := Or.inl (zT_1 183 (by decide +kernel) (by decide +kernel))
theorem lk_J0_637 : zLk RJ0 637 yJ1_indexOf_4cfef := Or.inl (zT_1 184 (by decide +kernel) (by decide +kernel))
theorem lk_J1_88 : zLk RJ1 88 yJ1_canEncode_9a6ad := Or.inl (zT_1 187 (by decide +kernel) (by decide +kernel))
theorem lw_J1_92 : Cond.methodLink RJ1 92 Lib.Math.max.name ∈ zT := zT_1 190 (by decide +kernel) (by decide +kernel)
theorem lw_J1_38 : Cond.methodLink RJ1 38 Lib.Math.min.name ∈ zT := zT_1 193 (by decide +kernel) (by decide +kernel)
theorem lk_J1_95 : zLk RJ1 95 yJ1_indexOfChar_4cfef := Or.inl (zT_1 196 (by decide +kernel) (by decide +kernel))
theorem lk_J0_1062 : zLk RJ0 1062 yJ3_checkFromToIndex_8c36e := Or.inl (zT_1 214 (by decide +kernel) (by decide +kernel))
theorem lk_X4_34 : zLk RX4 34 yX4_either := Or.inl (zT_1 234 (by decide +kernel) (by decide +kernel))
theorem lk_X4_45 : zLk RX4 45 yX4_both := Or.inl (zT_1 238 (by decide +kernel) (by decide +kernel))
theorem lk_X4_48 : zLk RX4 48 yX4_not := Or.inl (zT_2 2 (by decide +kernel) (by decide +kernel))
theorem lk_X4_51 : zLk RX4 51 yX4_compared := Or.inl (zT_2 6 (by decide +kernel) (by decide +kernel))
theorem lk_X4_54 : zLk RX4 54 yX4_sum := Or.inl (zT_2 10 (by decide +kernel) (by decide +kernel))
theorem lk_X4_57 : zLk RX4 57 yX4_term := Or.inl (zT_2 14 (by decide +kernel) (by decide +kernel))
theorem lk_X4_60 : zLk RX4 60 yX4_single := Or.inl (zT_2 18 (by decide +kernel) (by decide +kernel))
theorem lk_X4_38 : zLk RX4 38 yX4_write := Or.inl (zT_2 22 (by decide +kernel) (by decide +kernel))
theorem lk_X4_66 : zLk RX4 66 yX4_bracket := Or.inl (zT_2 26 (by decide +kernel) (by decide +kernel))
theorem lk_X4_69 : zLk RX4 69 yX4_negated := Or.inl (zT_2 30 (by decide +kernel) (by decide +kernel))
theorem cl_X7_28 : Cond.classLink RX7 28 "NumbersInherited$Paying" ∈ zT := zT_2 64 (by decide +kernel) (by decide +kernel)
theorem lk_X7_30 : zLk RX7 30 yX3_init := Or.inl (zT_2 66 (by decide +kernel) (by decide +kernel))
theorem lw_X3_3 : Cond.methodLink RX3 3 Lib.objectInit ∈ zT := zT_2 69 (by decide +kernel) (by decide +kernel)
theorem cl_X7_37 : Cond.classLink RX7 37 "NumbersInherited$Ways" ∈ zT := zT_2 90 (by decide +kernel) (by decide +kernel)
theorem lk_X7_39 : zLk RX7 39 yX6_init := Or.inl (zT_2 92 (by decide +kernel) (by decide +kernel))
theorem lw_X6_3 : Cond.methodLink RX6 3 Lib.objectInit ∈ zT := zT_2 95 (by decide +kernel) (by decide +kernel)
theorem cl_X6_9 : Cond.classLink RX6 9 "[[I" ∈ zT := zT_2 96 (by decide +kernel) (by decide +kernel)
theorem cl_X7_46 : Cond.classLink RX7 46 "NumbersInherited$Image" ∈ zT := zT_2 113 (by decide +kernel) (by decide +kernel)
theorem lw_X1_3 : Cond.methodLink RX1 3 Lib.objectInit ∈ zT := zT_2 118 (by decide +kernel) (by decide +kernel)
theorem lw_X0_3 : Cond.methodLink RX0 3 Lib.objectInit ∈ zT := zT_2 142 (by decide +kernel) (by decide +kernel)
theorem lw_X5_3 : Cond.methodLink RX5 3 Lib.objectInit ∈ zT := zT_2 167 (by decide +kernel) (by decide +kernel)
theorem lk_L_13 : zLk RL 13 yX7_set := Or.inl (zT_2 209 (by decide +kernel) (by decide +kernel))
theorem lk_X7_62 : zLk RX7 62 yX7_setDay := Or.inl (zT_2 213 (by decide +kernel) (by decide +kernel))
theorem lk_X7_66 : zLk RX7 66 yX7_heirAt := Or.inl (zT_2 217 (by decide +kernel) (by decide +kernel))
theorem lk_X7_70 : zLk RX7 70 yX7_setMore := Or.inl (zT_2 221 (by decide +kernel) (by decide +kernel))
theorem lk_X7_74 : zLk RX7 74 yX7_setOwn := Or.inl (zT_2 224 (by decide +kernel) (by decide +kernel))
theorem kc_X7_116 : Cond.constant RX7 116 (1073741823) ∈ zT := zT_2 227 (by decide +kernel) (by decide +kernel)
theorem lk_L_18 : zLk RL 18 yX7_heir := Or.inl (zT_2 228 (by decide +kernel) (by decide +kernel))
theorem lk_L_23 : zLk RL 23 yX7_give := Or.inl (zT_2 232 (by decide +kernel) (by decide +kernel))
theorem lk_X7_93 : zLk RX7 93 yX7_isNumber := Or.inl (zT_2 236 (by decide +kernel) (by decide +kernel))
theorem lk_X7_97 : zLk RX7 97 yX7_has := Or.inl (zT_2 239 (by decide +kernel) (by decide +kernel))
theorem lk_X7_101 : zLk RX7 101 yX7_bit := Or.inl (zT_3 2 (by decide +kernel) (by decide +kernel))
theorem lk_X7_104 : zLk RX7 104 yJ6_bitCount_0f7a4 := Or.inl (zT_3 5 (by decide +kernel) (by decide +kernel))
theorem kc_J6_265 : Cond.constant RJ6 265 (1431655765) ∈ zT := zT_3 8 (by decide +kernel) (by decide +kernel)
theorem kc_J6_266 : Cond.constant RJ6 266 (858993459) ∈ zT := zT_3 9 (by decide +kernel) (by decide +kernel)
theorem kc_J6_267 : Cond.constant RJ6 267 (252645135) ∈ zT := zT_3 10 (by decide +kernel) (by decide +kernel)
theorem lk_L_27 : zLk RL 27 yX7_told := Or.inl (zT_3 11 (by decide +kernel) (by decide +kernel))
theorem lk_X7_112 : zLk RX7 112 yX0_sayable := Or.inl (zT_3 15 (by decide +kernel) (by decide +kernel))
theorem lk_X0_24 : zLk RX0 24 yX0_sums := Or.inl (zT_3 19 (by decide +kernel) (by decide +kernel))
theorem kc_X0_49 : Cond.constant RX0 49 (1073741823) ∈ zT := zT_3 24 (by decide +kernel) (by decide +kernel)
theorem lk_X0_28 : zLk RX0 28 yX0_halves := Or.inl (zT_3 25 (by decide +kernel) (by decide +kernel))
theorem lk_X0_31 : zLk RX0 31 yX0_rests := Or.inl (zT_3 30 (by decide +kernel) (by decide +kernel))
theorem lk_X0_42 : zLk RX0 42 yX0_above := Or.inl (zT_3 35 (by decide +kernel) (by decide +kernel))
theorem lk_L_31 : zLk RL 31 yX7_feed := Or.inl (zT_3 38 (by decide +kernel) (by decide +kernel))
theorem lk_X7_121 : zLk RX7 121 yX4_put := Or.inl (zT_3 42 (by decide +kernel) (by decide +kernel))
theorem lk_L_36 : zLk RL 36 yX7_text := Or.inl (zT_3 43 (by decide +kernel) (by decide +kernel))
theorem lk_X7_130 : zLk RX7 130 yX2_readText := Or.inl (zT_3 47 (by decide +kernel) (by decide +kernel))
theorem lk_L_41 : zLk RL 41 yX7_force := Or.inl (zT_3 48 (by decide +kernel) (by decide +kernel))
theorem lk_L_45 : zLk RL 45 yX7_says := Or.inl (zT_3 52 (by decide +kernel) (by decide +kernel))
theorem lk_X7_136 : zLk RX7 136 yX7_isSum := Or.inl (zT_3 56 (by decide +kernel) (by decide +kernel))
theorem lk_X7_139 : zLk RX7 139 yX7_truth := Or.inl (zT_3 59 (by decide +kernel) (by decide +kernel))
theorem lk_X7_143 : zLk RX7 143 yX2_costs := Or.inl (zT_3 62 (by decide +kernel) (by decide +kernel))
theorem lk_X2_73 : zLk RX2 73 yX2_name := Or.inl (zT_3 68 (by decide +kernel) (by decide +kernel))
theorem lk_X2_96 : zLk RX2 96 yJ6_bitCount_0f7a4 := Or.inl (zT_3 72 (by decide +kernel) (by decide +kernel))
theorem lk_X2_77 : zLk RX2 77 yX2_value := Or.inl (zT_3 73 (by decide +kernel) (by decide +kernel))
theorem lk_X2_113 : zLk RX2 113 yX2_operand := Or.inl (zT_3 77 (by decide +kernel) (by decide +kernel))
theorem lk_X2_116 : zLk RX2 116 yX2_joined := Or.inl (zT_3 81 (by decide +kernel) (by decide +kernel))
theorem lk_X2_81 : zLk RX2 81 yX2_bounded := Or.inl (zT_3 84 (by decide +kernel) (by decide +kernel))
theorem lw_X2_107 : Cond.methodLink RX2 107 Lib.Math.min.name ∈ zT := zT_3 87 (by decide +kernel) (by decide +kernel)
theorem lw_X2_87 : Cond.methodLink RX2 87 Lib.Math.max.name ∈ zT := zT_3 88 (by decide +kernel) (by decide +kernel)
theorem lk_X2_84 : zLk RX2 84 yX0_costsFor := Or.inl (zT_3 89 (by decide +kernel) (by decide +kernel))
theorem lk_X7_146 : zLk RX7 146 yX2_isMeant := Or.inl (zT_3 93 (by decide +kernel) (by decide +kernel))
theorem lk_X7_150 : zLk RX7 150 yX2_worthOf := Or.inl (zT_3 97 (by decide +kernel) (by decide +kernel))
theorem lk_L_49 : zLk RL 49 yX7_common := Or.inl (zT_3 101 (by decide +kernel) (by decide +kernel))
theorem lk_L_53 : zLk RL 53 yX7_pays := Or.inl (zT_3 105 (by decide +kernel) (by decide +kernel))
theorem lk_X7_153 : zLk RX7 153 yX3_fillLeast := Or.inl (zT_3 109 (by decide +kernel) (by decide +kernel))
theorem lk_X3_32 : zLk RX3 32 yX0_sayable := Or.inl (zT_3 113 (by decide +kernel) (by decide +kernel))
theorem lk_X3_38 : zLk RX3 38 yX3_fillParts := Or.inl (zT_3 114 (by decide +kernel) (by decide +kernel))
theorem lk_X3_42 : zLk RX3 42 yX2_costs := Or.inl (zT_3 119 (by decide +kernel) (by decide +kernel))
theorem lk_X3_48 : zLk RX3 48 yX3_leastAt := Or.inl (zT_3 120 (by decide +kernel) (by decide +kernel))
theorem lk_X7_157 : zLk RX7 157 yX3_leastOf := Or.inl (zT_3 124 (by decide +kernel) (by decide +kernel))
theorem lk_X7_160 : zLk RX7 160 yX6_lay := Or.inl (zT_3 129 (by decide +kernel) (by decide +kernel))
theorem lw_X6_27 : Cond.methodLink RX6 27 Lib.Math.min.name ∈ zT := zT_3 133 (by decide +kernel) (by decide +kernel)
theorem lw_X6_33 : Cond.methodLink RX6 33 Lib.Math.max.name ∈ zT := zT_3 134 (by decide +kernel) (by decide +kernel)
theorem lk_X6_40 : zLk RX6 40 yX3_fillLeast := Or.inl (zT_3 135 (by decide +kernel) (by decide +kernel))
theorem lk_X6_46 : zLk RX6 46 yX3_leastOf := Or.inl (zT_3 136 (by decide +kernel) (by decide +kernel))
theorem lk_X7_164 : zLk RX7 164 yX6_walk := Or.inl (zT_3 137 (by decide +kernel) (by decide +kernel))
theorem lk_X6_50 : zLk RX6 50 yX6_walkOn := Or.inl (zT_3 141 (by decide +kernel) (by decide +kernel))
theorem lk_X6_54 : zLk RX6 54 yX6_isBetter := Or.inl (zT_3 145 (by decide +kernel) (by decide +kernel))
theorem lk_X7_168 : zLk RX7 168 yX6_costTo := Or.inl (zT_3 149 (by decide +kernel) (by decide +kernel))
theorem lk_X7_171 : zLk RX7 171 yX6_stepsTo := Or.inl (zT_3 153 (by decide +kernel) (by decide +kernel))
theorem lk_L_58 : zLk RL 58 yX7_barred := Or.inl (zT_3 157 (by decide +kernel) (by decide +kernel))
theorem lk_X7_174 : zLk RX7 174 yX3_hindered := Or.inl (zT_3 161 (by decide +kernel) (by decide +kernel))
theorem lk_X3_60 : zLk RX3 60 yX3_fillCan := Or.inl (zT_3 165 (by decide +kernel) (by decide +kernel))
theorem lk_X3_68 : zLk RX3 68 yX2_isMeant := Or.inl (zT_3 169 (by decide +kernel) (by decide +kernel))
theorem lk_X3_72 : zLk RX3 72 yX2_worthOf := Or.inl (zT_3 170 (by decide +kernel) (by decide +kernel))
theorem lk_L_62 : zLk RL 62 yX7_silent := Or.inl (zT_3 171 (by decide +kernel) (by decide +kernel))
theorem lk_X7_178 : zLk RX7 178 yX3_hearNone := Or.inl (zT_3 175 (by decide +kernel) (by decide +kernel))
theorem lk_X7_181 : zLk RX7 181 yX3_hear := Or.inl (zT_3 179 (by decide +kernel) (by decide +kernel))
theorem lk_X7_185 : zLk RX7 185 yX3_unheard := Or.inl (zT_3 183 (by decide +kernel) (by decide +kernel))
theorem lk_X7_188 : zLk RX7 188 yX3_firstUnheard := Or.inl (zT_3 188 (by decide +kernel) (by decide +kernel))
theorem lk_L_66 : zLk RL 66 yX7_middle := Or.inl (zT_3 192 (by decide +kernel) (by decide +kernel))
theorem lk_X7_191 : zLk RX7 191 yX6_partedWithout := Or.inl (zT_3 196 (by decide +kernel) (by decide +kernel))
theorem lk_X6_58 : zLk RX6 58 yX6_reached := Or.inl (zT_3 200 (by decide +kernel) (by decide +kernel))
theorem lk_L_70 : zLk RL 70 yX7_leave := Or.inl (zT_3 204 (by decide +kernel) (by decide +kernel))
theorem lk_X7_194 : zLk RX7 194 yX7_worthOfLeaving := Or.inl (zT_3 208 (by decide +kernel) (by decide +kernel))
theorem lk_X7_198 : zLk RX7 198 yX0_become := Or.inl (zT_3 212 (by decide +kernel) (by decide +kernel))
theorem lk_L_74 : zLk RL 74 yX7_buy := Or.inl (zT_3 216 (by decide +kernel) (by decide +kernel))
theorem lk_L_78 : zLk RL 78 yX7_pawn := Or.inl (zT_3 220 (by decide +kernel) (by decide +kernel))
theorem lk_X7_202 : zLk RX7 202 yX3_payable := Or.inl (zT_3 224 (by decide +kernel) (by decide +kernel))
theorem lk_L_82 : zLk RL 82 yX7_rows := Or.inl (zT_3 228 (by decide +kernel) (by decide +kernel))
theorem lk_X7_205 : zLk RX7 205 yX7_sheetAt := Or.inl (zT_3 232 (by decide +kernel) (by decide +kernel))
theorem lk_X7_212 : zLk RX7 212 yX5_tellsSums := Or.inl (zT_3 236 (by decide +kernel) (by decide +kernel))
theorem lk_X5_26 : zLk RX5 26 yX5_at := Or.inl (zT_4 0 (by decide +kernel) (by decide +kernel))
theorem lk_X5_22 : zLk RX5 22 yX5_holds := Or.inl (zT_4 4 (by decide +kernel) (by decide +kernel))
theorem lk_X7_216 : zLk RX7 216 yX3_firstOtherwise := Or.inl (zT_4 9 (by decide +kernel) (by decide +kernel))
theorem lk_X3_75 : zLk RX3 75 yX3_fillLeast := Or.inl (zT_4 13 (by decide +kernel) (by decide +kernel))
theorem lk_X3_85 : zLk RX3 85 yX5_at := Or.inl (zT_4 14 (by decide +kernel) (by decide +kernel))
theorem lk_X3_88 : zLk RX3 88 yX3_leastOf := Or.inl (zT_4 15 (by decide +kernel) (by decide +kernel))
theorem lk_X7_220 : zLk RX7 220 yX7_kindsAsTold := Or.inl (zT_4 16 (by decide +kernel) (by decide +kernel))
theorem lk_X7_223 : zLk RX7 223 yX7_moresAsTold := Or.inl (zT_4 20 (by decide +kernel) (by decide +kernel))
theorem lk_X7_226 : zLk RX7 226 yX7_textsAsTold := Or.inl (zT_4 24 (by decide +kernel) (by decide +kernel))
theorem lk_X7_229 : zLk RX7 229 yX7_numbersThatMust := Or.inl (zT_4 28 (by decide +kernel) (by decide +kernel))
theorem lk_X7_232 : zLk RX7 232 yX7_numbersThatMay := Or.inl (zT_4 32 (by decide +kernel) (by decide +kernel))
theorem lk_L_86 : zLk RL 86 yX7_film := Or.inl (zT_4 36 (by decide +kernel) (by decide +kernel))
theorem lw_X7_235 : Cond.methodLink RX7 235 Lib.Math.min.name ∈ zT := zT_4 40 (by decide +kernel) (by decide +kernel)
theorem lk_X7_241 : zLk RX7 241 yX5_lay := Or.inl (zT_4 41 (by decide +kernel) (by decide +kernel))
theorem lk_X7_244 : zLk RX7 244 yX5_put := Or.inl (zT_4 45 (by decide +kernel) (by decide +kernel))
theorem lk_L_90 : zLk RL 90 yX7_drawn := Or.inl (zT_4 49 (by decide +kernel) (by decide +kernel))
theorem lk_X7_246 : zLk RX7 246 yX7_payableIfDrawn := Or.inl (zT_4 53 (by decide +kernel) (by decide +kernel))
theorem lk_X7_268 : zLk RX7 268 yX0_drawOwn := Or.inl (zT_4 57 (by decide +kernel) (by decide +kernel))
theorem kc_X0_50 : Cond.constant RX0 50 (1103515245) ∈ zT := zT_4 61 (by decide +kernel) (by decide +kernel)
theorem lk_L_94 : zLk RL 94 yX7_chance := Or.inl (zT_4 62 (by decide +kernel) (by decide +kernel))
theorem kc_X7_250 : Cond.constantLong RX7 250 (-4611686018427387904) ∈ zT := zT_4 66 (by decide +kernel) (by decide +kernel)
theorem lk_X7_252 : zLk RX7 252 yX7_commonMeasure := Or.inl (zT_4 67 (by decide +kernel) (by decide +kernel))
theorem lk_L_99 : zLk RL 99 yX7_image := Or.inl (zT_4 70 (by decide +kernel) (by decide +kernel))
theorem lk_L_103 : zLk RL 103 yX7_back := Or.inl (zT_4 74 (by decide +kernel) (by decide +kernel))
theorem lk_L_107 : zLk RL 107 yX7_count := Or.inl (zT_4 78 (by decide +kernel) (by decide +kernel))
theorem lk_X7_265 : zLk RX7 265 yX7_allOwn := Or.inl (zT_4 82 (by decide +kernel) (by decide +kernel))
theorem lk_L_111 : zLk RL 111 yX7_sheet := Or.inl (zT_4 86 (by decide +kernel) (by decide +kernel))
theorem lk_L_115 : zLk RL 115 yX7_cell := Or.inl (zT_4 90 (by decide +kernel) (by decide +kernel))
theorem lk_X7_271 : zLk RX7 271 yX5_holds := Or.inl (zT_4 94 (by decide +kernel) (by decide +kernel))
theorem lk_L_119 : zLk RL 119 yX7_copy := Or.inl (zT_4 95 (by decide +kernel) (by decide +kernel))
theorem lk_X7_274 : zLk RX7 274 yX5_holdsRun := Or.inl (zT_4 99 (by decide +kernel) (by decide +kernel))
theorem lw_X7_280 : Cond.methodLink RX7 280 arraycopyName ∈ zT := zT_4 103 (by decide +kernel) (by decide +kernel)
theorem lk_L_124 : zLk RL 124 yX7_heirs := Or.inl (zT_4 106 (by decide +kernel) (by decide +kernel))
theorem lk_X7_286 : zLk RX7 286 yX5_at := Or.inl (zT_4 110 (by decide +kernel) (by decide +kernel))
theorem lk_X7_289 : zLk RX7 289 yX7_heir := Or.inl (zT_4 111 (by decide +kernel) (by decide +kernel))
theorem lk_L_128 : zLk RL 128 yX7_taken := Or.inl (zT_4 112 (by decide +kernel) (by decide +kernel))
theorem lk_X7_292 : zLk RX7 292 yX7_isUnder := Or.inl (zT_4 116 (by decide +kernel) (by decide +kernel))
theorem lk_X7_295 : zLk RX7 295 yX7_kindAbove := Or.inl (zT_4 119 (by decide +kernel) (by decide +kernel))
theorem cl_L_10 : Cond.classLink RL 10 "NumbersInheritedModel" ∈ zT := zT_4 122 (by decide +kernel) (by decide +kernel)
theorem lk_L_12 : zLk RL 12 yX8_init := Or.inl (zT_4 124 (by decide +kernel) (by decide +kernel))
theorem lw_X8_1 : Cond.methodLink RX8 1 Lib.objectInit ∈ zT := zT_4 127 (by decide +kernel) (by decide +kernel)
theorem lk_X8_74 : zLk RX8 74 yX8_codes := Or.inl (zT_4 128 (by decide +kernel) (by decide +kernel))
theorem lk_L_17 : zLk RL 17 yX8_set := Or.inl (zT_5 10 (by decide +kernel) (by decide +kernel))
theorem lk_X8_85 : zLk RX8 85 yX8_within := Or.inl (zT_5 14 (by decide +kernel) (by decide +kernel))
theorem lk_X8_89 : zLk RX8 89 yX8_isHeir := Or.inl (zT_5 17 (by decide +kernel) (by decide +kernel))
theorem lk_X8_104 : zLk RX8 104 yX8_may := Or.inl (zT_5 21 (by decide +kernel) (by decide +kernel))
theorem kc_X8_93 : Cond.constant RX8 93 (1073741823) ∈ zT := zT_5 25 (by decide +kernel) (by decide +kernel)
theorem lk_X8_108 : zLk RX8 108 yX8_get := Or.inl (zT_5 26 (by decide +kernel) (by decide +kernel))
theorem lk_X8_97 : zLk RX8 97 yX8_bitsOf := Or.inl (zT_5 30 (by decide +kernel) (by decide +kernel))
theorem lk_X8_101 : zLk RX8 101 yX8_sayable := Or.inl (zT_5 33 (by decide +kernel) (by decide +kernel))
theorem lk_X8_222 : zLk RX8 222 yX8_isSaid := Or.inl (zT_5 37 (by decide +kernel) (by decide +kernel))
theorem lk_X8_216 : zLk RX8 216 yX8_isOwn := Or.inl (zT_5 41 (by decide +kernel) (by decide +kernel))
theorem lk_X8_115 : zLk RX8 115 yX8_isNumber := Or.inl (zT_5 45 (by decide +kernel) (by decide +kernel))
theorem lk_X8_118 : zLk RX8 118 yX8_has := Or.inl (zT_5 48 (by decide +kernel) (by decide +kernel))
theorem lk_X8_219 : zLk RX8 219 yX8_isMade := Or.inl (zT_5 51 (by decide +kernel) (by decide +kernel))
theorem lk_L_22 : zLk RL 22 yX8_heir := Or.inl (zT_5 55 (by decide +kernel) (by decide +kernel))
theorem lk_L_26 : zLk RL 26 yX8_give := Or.inl (zT_5 59 (by decide +kernel) (by decide +kernel))
theorem lk_X8_112 : zLk RX8 112 yX8_areTwo := Or.inl (zT_5 63 (by decide +kernel) (by decide +kernel))
theorem lk_L_30 : zLk RL 30 yX8_told := Or.inl (zT_5 67 (by decide +kernel) (by decide +kernel))
theorem lk_L_35 : zLk RL 35 yX8_feed := Or.inl (zT_5 71 (by decide +kernel) (by decide +kernel))
theorem lk_L_40 : zLk RL 40 yX8_text := Or.inl (zT_5 75 (by decide +kernel) (by decide +kernel))
theorem lk_X8_156 : zLk RX8 156 yX8_next := Or.inl (zT_5 79 (by decide +kernel) (by decide +kernel))
theorem lk_X8_136 : zLk RX8 136 yX8_isLetter := Or.inl (zT_5 83 (by decide +kernel) (by decide +kernel))
theorem lk_X8_139 : zLk RX8 139 yX8_named := Or.inl (zT_5 86 (by decide +kernel) (by decide +kernel))
theorem lk_X8_143 : zLk RX8 143 yX8_isKey := Or.inl (zT_5 90 (by decide +kernel) (by decide +kernel))
theorem lk_X8_147 : zLk RX8 147 yX8_isDigit := Or.inl (zT_5 94 (by decide +kernel) (by decide +kernel))
theorem lk_X8_153 : zLk RX8 153 yX8_isSign := Or.inl (zT_5 97 (by decide +kernel) (by decide +kernel))
theorem kc_X8_203 : Cond.constant RX8 203 (375400) ∈ zT := zT_5 100 (by decide +kernel) (by decide +kernel)
theorem lk_X8_204 : zLk RX8 204 yX8_part := Or.inl (zT_5 101 (by decide +kernel) (by decide +kernel))
theorem lk_X8_197 : zLk RX8 197 yX8_takes := Or.inl (zT_5 105 (by decide +kernel) (by decide +kernel))
theorem lk_X8_200 : zLk RX8 200 yX8_goesOn := Or.inl (zT_5 109 (by decide +kernel) (by decide +kernel))
theorem lk_X8_187 : zLk RX8 187 yX8_one := Or.inl (zT_5 113 (by decide +kernel) (by decide +kernel))
theorem lk_X8_171 : zLk RX8 171 yX8_lays := Or.inl (zT_5 117 (by decide +kernel) (by decide +kernel))
theorem lk_X8_165 : zLk RX8 165 yX8_rank := Or.inl (zT_5 121 (by decide +kernel) (by decide +kernel))
theorem lk_X8_181 : zLk RX8 181 yX8_push := Or.inl (zT_5 124 (by decide +kernel) (by decide +kernel))
theorem lk_X8_191 : zLk RX8 191 yX8_closes := Or.inl (zT_5 128 (by decide +kernel) (by decide +kernel))
theorem lk_X8_194 : zLk RX8 194 yX8_signed := Or.inl (zT_5 132 (by decide +kernel) (by decide +kernel))
theorem kc_X8_207 : Cond.constant RX8 207 (7008275) ∈ zT := zT_5 136 (by decide +kernel) (by decide +kernel)
theorem kc_X8_208 : Cond.constant RX8 208 (12532058) ∈ zT := zT_5 137 (by decide +kernel) (by decide +kernel)
theorem lk_L_44 : zLk RL 44 yX8_force := Or.inl (zT_5 138 (by decide +kernel) (by decide +kernel))
theorem lk_L_48 : zLk RL 48 yX8_says := Or.inl (zT_5 142 (by decide +kernel) (by decide +kernel))
theorem lk_X8_233 : zLk RX8 233 yX8_isSum := Or.inl (zT_5 146 (by decide +kernel) (by decide +kernel))
theorem lk_X8_236 : zLk RX8 236 yX8_costs := Or.inl (zT_5 149 (by decide +kernel) (by decide +kernel))
theorem lk_X8_225 : zLk RX8 225 yX8_tells := Or.inl (zT_5 153 (by decide +kernel) (by decide +kernel))
theorem lk_X8_212 : zLk RX8 212 yX8_both := Or.inl (zT_5 157 (by decide +kernel) (by decide +kernel))
theorem lk_X8_228 : zLk RX8 228 yX8_bound := Or.inl (zT_5 160 (by decide +kernel) (by decide +kernel))
theorem lk_X8_231 : zLk RX8 231 yX8_one_ := Or.inl (zT_5 163 (by decide +kernel) (by decide +kernel))
theorem lk_X8_239 : zLk RX8 239 yX8_isMeant := Or.inl (zT_5 166 (by decide +kernel) (by decide +kernel))
theorem lk_X8_242 : zLk RX8 242 yX8_worthOf := Or.inl (zT_5 170 (by decide +kernel) (by decide +kernel))
theorem lk_L_52 : zLk RL 52 yX8_common := Or.inl (zT_5 174 (by decide +kernel) (by decide +kernel))
theorem lk_L_57 : zLk RL 57 yX8_pays := Or.inl (zT_5 178 (by decide +kernel) (by decide +kernel))
theorem lk_X8_245 : zLk RX8 245 yX8_sums := Or.inl (zT_5 182 (by decide +kernel) (by decide +kernel))
theorem lk_X8_249 : zLk RX8 249 yX8_legs := Or.inl (zT_5 186 (by decide +kernel) (by decide +kernel))
theorem lk_X8_252 : zLk RX8 252 yX8_ways := Or.inl (zT_5 190 (by decide +kernel) (by decide +kernel))
theorem lk_L_61 : zLk RL 61 yX8_barred := Or.inl (zT_5 194 (by decide +kernel) (by decide +kernel))
theorem lk_X8_255 : zLk RX8 255 yX8_barredOf := Or.inl (zT_5 198 (by decide +kernel) (by decide +kernel))
theorem lk_L_65 : zLk RL 65 yX8_silent := Or.inl (zT_5 202 (by decide +kernel) (by decide +kernel))
theorem lk_L_69 : zLk RL 69 yX8_middle := Or.inl (zT_5 206 (by decide +kernel) (by decide +kernel))
theorem lk_X8_258 : zLk RX8 258 yX8_reached := Or.inl (zT_5 210 (by decide +kernel) (by decide +kernel))
theorem lk_L_73 : zLk RL 73 yX8_leave := Or.inl (zT_5 214 (by decide +kernel) (by decide +kernel))
theorem lk_L_77 : zLk RL 77 yX8_buy := Or.inl (zT_5 218 (by decide +kernel) (by decide +kernel))
theorem lk_L_81 : zLk RL 81 yX8_pawn := Or.inl (zT_5 222 (by decide +kernel) (by decide +kernel))
theorem lk_X8_261 : zLk RX8 261 yX8_unpaid := Or.inl (zT_5 226 (by decide +kernel) (by decide +kernel))
theorem lk_L_85 : zLk RL 85 yX8_rows := Or.inl (zT_5 230 (by decide +kernel) (by decide +kernel))
theorem lk_X8_267 : zLk RX8 267 yX8_isSheet := Or.inl (zT_5 234 (by decide +kernel) (by decide +kernel))
theorem lk_X8_264 : zLk RX8 264 yX8_otherwise := Or.inl (zT_5 237 (by decide +kernel) (by decide +kernel))
theorem lk_X8_270 : zLk RX8 270 yX8_kinds := Or.inl (zT_6 1 (by decide +kernel) (by decide +kernel))
theorem lk_X8_283 : zLk RX8 283 yX8_isSo := Or.inl (zT_6 5 (by decide +kernel) (by decide +kernel))
theorem lk_X8_273 : zLk RX8 273 yX8_mores := Or.inl (zT_6 9 (by decide +kernel) (by decide +kernel))
theorem lk_X8_276 : zLk RX8 276 yX8_rules := Or.inl (zT_6 13 (by decide +kernel) (by decide +kernel))
theorem lk_X8_279 : zLk RX8 279 yX8_owns := Or.inl (zT_6 17 (by decide +kernel) (by decide +kernel))
theorem lk_L_89 : zLk RL 89 yX8_film := Or.inl (zT_6 21 (by decide +kernel) (by decide +kernel))
theorem lk_X8_286 : zLk RX8 286 yX8_sheet := Or.inl (zT_6 25 (by decide +kernel) (by decide +kernel))
theorem lk_L_93 : zLk RL 93 yX8_drawn := Or.inl (zT_6 29 (by decide +kernel) (by decide +kernel))
theorem lk_X8_293 : zLk RX8 293 yX8_draw := Or.inl (zT_6 33 (by decide +kernel) (by decide +kernel))
theorem lk_X8_289 : zLk RX8 289 yX8_keep := Or.inl (zT_6 37 (by decide +kernel) (by decide +kernel))
theorem kc_X8_292 : Cond.constant RX8 292 (1103515245) ∈ zT := zT_6 41 (by decide +kernel) (by decide +kernel)
theorem lk_L_98 : zLk RL 98 yX8_chance := Or.inl (zT_6 42 (by decide +kernel) (by decide +kernel))
theorem kc_X8_296 : Cond.constantLong RX8 296 (-4611686018427387904) ∈ zT := zT_6 46 (by decide +kernel) (by decide +kernel)
theorem lk_L_102 : zLk RL 102 yX8_image := Or.inl (zT_6 47 (by decide +kernel) (by decide +kernel))
theorem lk_L_106 : zLk RL 106 yX8_back := Or.inl (zT_6 51 (by decide +kernel) (by decide +kernel))
theorem lk_L_110 : zLk RL 110 yX8_count := Or.inl (zT_6 55 (by decide +kernel) (by decide +kernel))
theorem lk_L_114 : zLk RL 114 yX8_sheet := Or.inl (zT_6 59 (by decide +kernel) (by decide +kernel))
theorem lk_L_118 : zLk RL 118 yX8_cell := Or.inl (zT_6 60 (by decide +kernel) (by decide +kernel))
theorem lk_L_123 : zLk RL 123 yX8_copy := Or.inl (zT_6 64 (by decide +kernel) (by decide +kernel))
theorem lk_L_127 : zLk RL 127 yX8_heirs := Or.inl (zT_6 68 (by decide +kernel) (by decide +kernel))
theorem kc_X8_304 : Cond.constantLong RX8 304 (2) ∈ zT := zT_6 72 (by decide +kernel) (by decide +kernel)
theorem lk_X8_306 : zLk RX8 306 yX8_heir := Or.inl (zT_6 73 (by decide +kernel) (by decide +kernel))
theorem lk_L_131 : zLk RL 131 yX8_taken := Or.inl (zT_6 74 (by decide +kernel) (by decide +kernel))
theorem lk_X2_11 : zLk RX2 11 yX4_init := Or.inr ⟨"NumbersInherited", List.mem_of_getElem? (i := 0) (by decide +kernel)⟩
theorem lk_X7_48 : zLk RX7 48 yX1_init := Or.inr ⟨"NumbersInherited", List.mem_of_getElem? (i := 1) (by decide +kernel)⟩
theorem lk_X7_53 : zLk RX7 53 yX0_init := Or.inr ⟨"NumbersInherited", List.mem_of_getElem? (i := 2) (by decide +kernel)⟩
theorem lk_X7_61 : zLk RX7 61 yX5_init := Or.inr ⟨"NumbersInherited", List.mem_of_getElem? (i := 3) (by decide +kernel)⟩
theorem lk_X0_45 : zLk RX0 45 yX7_has := Or.inr ⟨"NumbersInherited", List.mem_of_getElem? (i := 4) (by decide +kernel)⟩
theorem lk_X0_38 : zLk RX0 38 yX7_bit := Or.inr ⟨"NumbersInherited", List.mem_of_getElem? (i := 5) (by decide +kernel)⟩
theorem lk_X0_34 : zLk RX0 34 yX7_isNumber := Or.inr ⟨"NumbersInherited", List.mem_of_getElem? (i := 6) (by decide +kernel)⟩
theorem lk_X2_65 : zLk RX2 65 yX7_has := Or.inr ⟨"NumbersInherited", List.mem_of_getElem? (i := 7) (by decide +kernel)⟩
theorem lk_X2_69 : zLk RX2 69 yX7_truth := Or.inr ⟨"NumbersInherited", List.mem_of_getElem? (i := 8) (by decide +kernel)⟩
theorem lk_X3_56 : zLk RX3 56 yX7_has := Or.inr ⟨"NumbersInherited", List.mem_of_getElem? (i := 9) (by decide +kernel)⟩
theorem lk_X3_52 : zLk RX3 52 yX7_isSum := Or.inr ⟨"NumbersInherited", List.mem_of_getElem? (i := 10) (by decide +kernel)⟩
theorem lk_X3_64 : zLk RX3 64 yX7_truth := Or.inr ⟨"NumbersInherited", List.mem_of_getElem? (i := 11) (by decide +kernel)⟩
theorem lk_X5_30 : zLk RX5 30 yX7_isSum := Or.inr ⟨"NumbersInherited", List.mem_of_getElem? (i := 12) (by decide +kernel)⟩
theorem fl_X4_11 : zFld RX4 11 4 0 true := ⟨_, _, _, rfl, by decide, rfl, Or.inl (zT_1 42 (by decide +kernel) (by decide +kernel))⟩
theorem fl_X4_15 : zFld RX4 15 4 1 false := ⟨_, _, _, rfl, by decide, rfl, Or.inl (zT_1 43 (by decide +kernel) (by decide +kernel))⟩
theorem fl_X4_25 : zFld RX4 25 4 2 false := ⟨_, _, _, rfl, by decide, rfl, Or.inl (zT_1 45 (by decide +kernel) (by decide +kernel))⟩
theorem fl_X4_31 : zFld RX4 31 4 3 false := ⟨_, _, _, rfl, by decide, rfl, Or.inl (zT_1 46 (by decide +kernel) (by decide +kernel))⟩
theorem fl_X4_42 : zFld RX4 42 4 4 false := ⟨_, _, _, rfl, by decide, rfl, Or.inl (zT_1 47 (by decide +kernel) (by decide +kernel))⟩
theorem fl_X4_63 : zFld RX4 63 4 5 false := ⟨_, _, _, rfl, by decide, rfl, Or.inl (zT_1 48 (by decide +kernel) (by decide +kernel))⟩
theorem fl_X4_19 : zFld RX4 19 4 6 false := ⟨_, _, _, rfl, by decide, rfl, Or.inl (zT_1 49 (by decide +kernel) (by decide +kernel))⟩
theorem fl_X4_22 : zFld RX4 22 4 7 false := ⟨_, _, _, rfl, by decide, rfl, Or.inl (zT_1 50 (by decide +kernel) (by decide +kernel))⟩
theorem fs_J0_38 : Cond.fieldLink RJ0 38 "java/lang/String" "COMPACT_STRINGS" "Z" ∈ zT := zT_1 80 (by decide +kernel) (by decide +kernel)
theorem fs_J0_1053 : Cond.fieldLink RJ0 1053 "jdk/internal/util/Preconditions" "SIOOBE_FORMATTER" "Ljava/util/function/BiFunction;" ∈ zT := zT_1 96 (by decide +kernel) (by decide +kernel)
theorem fl_X2_12 : zFld RX2 12 2 0 true := ⟨_, _, _, rfl, by decide, rfl, Or.inl (zT_2 34 (by decide +kernel) (by decide +kernel))⟩
theorem fl_X2_20 : zFld RX2 20 2 1 true := ⟨_, _, _, rfl, by decide, rfl, Or.inl (zT_2 36 (by decide +kernel) (by decide +kernel))⟩
theorem fl_X2_23 : zFld RX2 23 2 2 true := ⟨_, _, _, rfl, by decide, rfl, Or.inl (zT_2 37 (by decide +kernel) (by decide +kernel))⟩
theorem fl_X2_26 : zFld RX2 26 2 3 true := ⟨_, _, _, rfl, by decide, rfl, Or.inl (zT_2 38 (by decide +kernel) (by decide +kernel))⟩
theorem fl_X2_30 : zFld RX2 30 2 4 true := ⟨_, _, _, rfl, by decide, rfl, Or.inl (zT_2 39 (by decide +kernel) (by decide +kernel))⟩
theorem fl_X2_52 : zFld RX2 52 2 5 false := ⟨_, _, _, rfl, by decide, rfl, Or.inl (zT_2 40 (by decide +kernel) (by decide +kernel))⟩
theorem fl_X2_110 : zFld RX2 110 2 6 false := ⟨_, _, _, rfl, by decide, rfl, Or.inl (zT_2 42 (by decide +kernel) (by decide +kernel))⟩
theorem fl_X2_104 : zFld RX2 104 2 7 false := ⟨_, _, _, rfl, by decide, rfl, Or.inl (zT_2 45 (by decide +kernel) (by decide +kernel))⟩
theorem fl_X3_28 : zFld RX3 28 3 0 true := ⟨_, _, _, rfl, by decide, rfl, Or.inl (zT_2 70 (by decide +kernel) (by decide +kernel))⟩
theorem fl_X3_9 : zFld RX3 9 3 1 true := ⟨_, _, _, rfl, by decide, rfl, Or.inl (zT_2 71 (by decide +kernel) (by decide +kernel))⟩
theorem fl_X3_15 : zFld RX3 15 3 2 true := ⟨_, _, _, rfl, by decide, rfl, Or.inl (zT_2 72 (by decide +kernel) (by decide +kernel))⟩
theorem fl_X3_18 : zFld RX3 18 3 3 true := ⟨_, _, _, rfl, by decide, rfl, Or.inl (zT_2 73 (by decide +kernel) (by decide +kernel))⟩
theorem fl_X3_21 : zFld RX3 21 3 4 true := ⟨_, _, _, rfl, by decide, rfl, Or.inl (zT_2 74 (by decide +kernel) (by decide +kernel))⟩
theorem fl_X3_25 : zFld RX3 25 3 5 true := ⟨_, _, _, rfl, by decide, rfl, Or.inl (zT_2 75 (by decide +kernel) (by decide +kernel))⟩
theorem fl_X6_23 : zFld RX6 23 6 0 true := ⟨_, _, _, rfl, by decide, rfl, Or.inl (zT_2 97 (by decide +kernel) (by decide +kernel))⟩
theorem fl_X6_11 : zFld RX6 11 6 1 true := ⟨_, _, _, rfl, by decide, rfl, Or.inl (zT_2 98 (by decide +kernel) (by decide +kernel))⟩
theorem fl_X6_16 : zFld RX6 16 6 2 true := ⟨_, _, _, rfl, by decide, rfl, Or.inl (zT_2 99 (by decide +kernel) (by decide +kernel))⟩
theorem fl_X6_20 : zFld RX6 20 6 3 true := ⟨_, _, _, rfl, by decide, rfl, Or.inl (zT_2 100 (by decide +kernel) (by decide +kernel))⟩
theorem fl_X6_36 : zFld RX6 36 6 4 false := ⟨_, _, _, rfl, by decide, rfl, Or.inl (zT_2 101 (by decide +kernel) (by decide +kernel))⟩
theorem fl_X1_9 : zFld RX1 9 1 0 false := ⟨_, _, _, rfl, by decide, rfl, Or.inl (zT_2 119 (by decide +kernel) (by decide +kernel))⟩
theorem fl_X1_15 : zFld RX1 15 1 3 true := ⟨_, _, _, rfl, by decide, rfl, Or.inl (zT_2 123 (by decide +kernel) (by decide +kernel))⟩
theorem fl_X1_19 : zFld RX1 19 1 4 true := ⟨_, _, _, rfl, by decide, rfl, Or.inl (zT_2 125 (by decide +kernel) (by decide +kernel))⟩
theorem fl_X0_9 : zFld RX0 9 0 0 false := ⟨_, _, _, rfl, by decide, rfl, Or.inl (zT_2 143 (by decide +kernel) (by decide +kernel))⟩
theorem fl_X0_15 : zFld RX0 15 0 1 false := ⟨_, _, _, rfl, by decide, rfl, Or.inl (zT_2 146 (by decide +kernel) (by decide +kernel))⟩
theorem fl_X0_18 : zFld RX0 18 0 2 false := ⟨_, _, _, rfl, by decide, rfl, Or.inl (zT_2 148 (by decide +kernel) (by decide +kernel))⟩
theorem fl_X0_21 : zFld RX0 21 0 3 false := ⟨_, _, _, rfl, by decide, rfl, Or.inl (zT_2 151 (by decide +kernel) (by decide +kernel))⟩
theorem fl_X5_9 : zFld RX5 9 5 0 false := ⟨_, _, _, rfl, by decide, rfl, Or.inl (zT_2 168 (by decide +kernel) (by decide +kernel))⟩
theorem fl_X5_19 : zFld RX5 19 5 1 false := ⟨_, _, _, rfl, by decide, rfl, Or.inl (zT_2 170 (by decide +kernel) (by decide +kernel))⟩
theorem fl_X5_15 : zFld RX5 15 5 2 true := ⟨_, _, _, rfl, by decide, rfl, Or.inl (zT_2 172 (by decide +kernel) (by decide +kernel))⟩
theorem fl_X7_11 : zFld RX7 11 7 0 true := ⟨_, _, _, rfl, by decide, rfl, Or.inl (zT_2 181 (by decide +kernel) (by decide +kernel))⟩
theorem fl_X7_17 : zFld RX7 17 7 1 true := ⟨_, _, _, rfl, by decide, rfl, Or.inl (zT_2 182 (by decide +kernel) (by decide +kernel))⟩
theorem fl_X7_24 : zFld RX7 24 7 2 true := ⟨_, _, _, rfl, by decide, rfl, Or.inl (zT_2 183 (by decide +kernel) (by decide +kernel))⟩
theorem fl_X7_33 : zFld RX7 33 7 3 true := ⟨_, _, _, rfl, by decide, rfl, Or.inl (zT_2 184 (by decide +kernel) (by decide +kernel))⟩
theorem fl_X7_42 : zFld RX7 42 7 4 true := ⟨_, _, _, rfl, by decide, rfl, Or.inl (zT_2 185 (by decide +kernel) (by decide +kernel))⟩
theorem fl_X7_49 : zFld RX7 49 7 5 true := ⟨_, _, _, rfl, by decide, rfl, Or.inl (zT_2 186 (by decide +kernel) (by decide +kernel))⟩
theorem fl_X7_54 : zFld RX7 54 7 6 true := ⟨_, _, _, rfl, by decide, rfl, Or.inl (zT_2 187 (by decide +kernel) (by decide +kernel))⟩
theorem fl_X7_58 : zFld RX7 58 7 7 true := ⟨_, _, _, rfl, by decide, rfl, Or.inl (zT_2 188 (by decide +kernel) (by decide +kernel))⟩
theorem fl_X7_77 : zFld RX7 77 7 8 false := ⟨_, _, _, rfl, by decide, rfl, Or.inl (zT_2 189 (by decide +kernel) (by decide +kernel))⟩
theorem fl_X8_94 : zFld RX8 94 8 0 false := ⟨_, _, _, rfl, by decide, rfl, Or.inl (zT_4 132 (by decide +kernel) (by decide +kernel))⟩
theorem fl_X8_82 : zFld RX8 82 8 1 false := ⟨_, _, _, rfl, by decide, rfl, Or.inl (zT_4 133 (by decide +kernel) (by decide +kernel))⟩
theorem fl_X8_7 : zFld RX8 7 8 2 true := ⟨_, _, _, rfl, by decide, rfl, Or.inl (zT_4 134 (by decide +kernel) (by decide +kernel))⟩
theorem fl_X8_13 : zFld RX8 13 8 3 true := ⟨_, _, _, rfl, by decide, rfl, Or.inl (zT_4 135 (by decide +kernel) (by decide +kernel))⟩
theorem fl_X8_16 : zFld RX8 16 8 4 true := ⟨_, _, _, rfl, by decide, rfl, Or.inl (zT_4 136 (by decide +kernel) (by decide +kernel))⟩
theorem fl_X8_209 : zFld RX8 209 8 5 false := ⟨_, _, _, rfl, by decide, rfl, Or.inl (zT_4 137 (by decide +kernel) (by decide +kernel))⟩
theorem fl_X8_121 : zFld RX8 121 8 6 false := ⟨_, _, _, rfl, by decide, rfl, Or.inl (zT_4 138 (by decide +kernel) (by decide +kernel))⟩
theorem fl_X8_19 : zFld RX8 19 8 7 true := ⟨_, _, _, rfl, by decide, rfl, Or.inl (zT_4 139 (by decide +kernel) (by decide +kernel))⟩
theorem fl_X8_78 : zFld RX8 78 8 8 false := ⟨_, _, _, rfl, by decide, rfl, Or.inl (zT_4 140 (by decide +kernel) (by decide +kernel))⟩
theorem fl_X8_22 : zFld RX8 22 8 9 true := ⟨_, _, _, rfl, by decide, rfl, Or.inl (zT_4 141 (by decide +kernel) (by decide +kernel))⟩
theorem fl_X8_25 : zFld RX8 25 8 10 true := ⟨_, _, _, rfl, by decide, rfl, Or.inl (zT_4 142 (by decide +kernel) (by decide +kernel))⟩
theorem fl_X8_28 : zFld RX8 28 8 11 true := ⟨_, _, _, rfl, by decide, rfl, Or.inl (zT_4 143 (by decide +kernel) (by decide +kernel))⟩
theorem fl_X8_159 : zFld RX8 159 8 12 false := ⟨_, _, _, rfl, by decide, rfl, Or.inl (zT_4 144 (by decide +kernel) (by decide +kernel))⟩
theorem fl_X8_130 : zFld RX8 130 8 13 false := ⟨_, _, _, rfl, by decide, rfl, Or.inl (zT_4 145 (by decide +kernel) (by decide +kernel))⟩
theorem fl_X8_127 : zFld RX8 127 8 14 false := ⟨_, _, _, rfl, by decide, rfl, Or.inl (zT_4 146 (by decide +kernel) (by decide +kernel))⟩
theorem fl_X8_133 : zFld RX8 133 8 15 false := ⟨_, _, _, rfl, by decide, rfl, Or.inl (zT_4 147 (by decide +kernel) (by decide +kernel))⟩
theorem fl_X8_150 : zFld RX8 150 8 16 false := ⟨_, _, _, rfl, by decide, rfl, Or.inl (zT_4 148 (by decide +kernel) (by decide +kernel))⟩
theorem fl_X8_124 : zFld RX8 124 8 17 false := ⟨_, _, _, rfl, by decide, rfl, Or.inl (zT_4 149 (by decide +kernel) (by decide +kernel))⟩
theorem fl_X8_31 : zFld RX8 31 8 18 true := ⟨_, _, _, rfl, by decide, rfl, Or.inl (zT_4 150 (by decide +kernel) (by decide +kernel))⟩
theorem fl_X8_162 : zFld RX8 162 8 19 false := ⟨_, _, _, rfl, by decide, rfl, Or.inl (zT_4 151 (by decide +kernel) (by decide +kernel))⟩
theorem fl_X8_168 : zFld RX8 168 8 20 false := ⟨_, _, _, rfl, by decide, rfl, Or.inl (zT_4 152 (by decide +kernel) (by decide +kernel))⟩
theorem fl_X8_178 : zFld RX8 178 8 21 false := ⟨_, _, _, rfl, by decide, rfl, Or.inl (zT_4 153 (by decide +kernel) (by decide +kernel))⟩
theorem fl_X8_174 : zFld RX8 174 8 22 false := ⟨_, _, _, rfl, by decide, rfl, Or.inl (zT_4 154 (by decide +kernel) (by decide +kernel))⟩
theorem fl_X8_184 : zFld RX8 184 8 23 false := ⟨_, _, _, rfl, by decide, rfl, Or.inl (zT_4 155 (by decide +kernel) (by decide +kernel))⟩
theorem fl_X8_34 : zFld RX8 34 8 24 true := ⟨_, _, _, rfl, by decide, rfl, Or.inl (zT_4 156 (by decide +kernel) (by decide +kernel))⟩
theorem fl_X8_37 : zFld RX8 37 8 25 true := ⟨_, _, _, rfl, by decide, rfl, Or.inl (zT_4 157 (by decide +kernel) (by decide +kernel))⟩
theorem fl_X8_40 : zFld RX8 40 8 26 true := ⟨_, _, _, rfl, by decide, rfl, Or.inl (zT_4 158 (by decide +kernel) (by decide +kernel))⟩
theorem fl_X8_43 : zFld RX8 43 8 27 true := ⟨_, _, _, rfl, by decide, rfl, Or.inl (zT_4 159 (by decide +kernel) (by decide +kernel))⟩
theorem fl_X8_46 : zFld RX8 46 8 28 true := ⟨_, _, _, rfl, by decide, rfl, Or.inl (zT_4 160 (by decide +kernel) (by decide +kernel))⟩
theorem fl_X8_50 : zFld RX8 50 8 29 true := ⟨_, _, _, rfl, by decide, rfl, Or.inl (zT_4 161 (by decide +kernel) (by decide +kernel))⟩
theorem fl_X8_53 : zFld RX8 53 8 30 true := ⟨_, _, _, rfl, by decide, rfl, Or.inl (zT_4 162 (by decide +kernel) (by decide +kernel))⟩
theorem fl_X8_56 : zFld RX8 56 8 31 true := ⟨_, _, _, rfl, by decide, rfl, Or.inl (zT_4 163 (by decide +kernel) (by decide +kernel))⟩
theorem fl_X8_298 : zFld RX8 298 8 32 false := ⟨_, _, _, rfl, by decide, rfl, Or.inl (zT_4 164 (by decide +kernel) (by decide +kernel))⟩
theorem fl_X8_301 : zFld RX8 301 8 33 false := ⟨_, _, _, rfl, by decide, rfl, Or.inl (zT_4 165 (by decide +kernel) (by decide +kernel))⟩
theorem fl_X8_59 : zFld RX8 59 8 34 true := ⟨_, _, _, rfl, by decide, rfl, Or.inl (zT_4 166 (by decide +kernel) (by decide +kernel))⟩
theorem fl_X8_62 : zFld RX8 62 8 35 true := ⟨_, _, _, rfl, by decide, rfl, Or.inl (zT_4 167 (by decide +kernel) (by decide +kernel))⟩
theorem fl_X8_65 : zFld RX8 65 8 36 true := ⟨_, _, _, rfl, by decide, rfl, Or.inl (zT_4 168 (by decide +kernel) (by decide +kernel))⟩
theorem fl_X8_68 : zFld RX8 68 8 37 true := ⟨_, _, _, rfl, by decide, rfl, Or.inl (zT_4 169 (by decide +kernel) (by decide +kernel))⟩
theorem fl_X8_71 : zFld RX8 71 8 38 true := ⟨_, _, _, rfl, by decide, rfl, Or.inl (zT_4 170 (by decide +kernel) (by decide +kernel))⟩
theorem fs_J0_9 : Cond.fieldLink RJ0 9 "java/lang/String" "value" "[B" ∈ zT := zT_6 78 (by decide +kernel) (by decide +kernel)
theorem fs_J0_15 : Cond.fieldLink RJ0 15 "java/lang/String" "coder" "B" ∈ zT := zT_6 79 (by decide +kernel) (by decide +kernel)
theorem fl_X7_126 : zFld RX7 126 4 1 false := ⟨_, _, _, rfl, by decide, rfl, Or.inr ⟨"NumbersInherited", List.mem_of_getElem? (i := 13) (by decide +kernel)⟩⟩
theorem fl_X7_117 : zFld RX7 117 2 0 true := ⟨_, _, _, rfl, by decide, rfl, Or.inr ⟨"NumbersInherited", List.mem_of_getElem? (i := 14) (by decide +kernel)⟩⟩
theorem fl_X7_127 : zFld RX7 127 2 5 false := ⟨_, _, _, rfl, by decide, rfl, Or.inr ⟨"NumbersInherited", List.mem_of_getElem? (i := 15) (by decide +kernel)⟩⟩
theorem fl_X7_133 : zFld RX7 133 2 6 false := ⟨_, _, _, rfl, by decide, rfl, Or.inr ⟨"NumbersInherited", List.mem_of_getElem? (i := 16) (by decide +kernel)⟩⟩
theorem fl_X7_109 : zFld RX7 109 2 7 false := ⟨_, _, _, rfl, by decide, rfl, Or.inr ⟨"NumbersInherited", List.mem_of_getElem? (i := 17) (by decide +kernel)⟩⟩
theorem fl_X7_257 : zFld RX7 257 1 0 false := ⟨_, _, _, rfl, by decide, rfl, Or.inr ⟨"NumbersInherited", List.mem_of_getElem? (i := 18) (by decide +kernel)⟩⟩
theorem fl_X7_255 : zFld RX7 255 1 1 false := ⟨_, _, _, rfl, by decide, rfl, Or.inr ⟨"NumbersInherited", List.mem_of_getElem? (i := 19) (by decide +kernel)⟩⟩
theorem fl_X7_256 : zFld RX7 256 1 2 false := ⟨_, _, _, rfl, by decide, rfl, Or.inr ⟨"NumbersInherited", List.mem_of_getElem? (i := 20) (by decide +kernel)⟩⟩
theorem fl_X7_258 : zFld RX7 258 1 3 true := ⟨_, _, _, rfl, by decide, rfl, Or.inr ⟨"NumbersInherited", List.mem_of_getElem? (i := 21) (by decide +kernel)⟩⟩
theorem fl_X7_262 : zFld RX7 262 1 4 true := ⟨_, _, _, rfl, by decide, rfl, Or.inr ⟨"NumbersInherited", List.mem_of_getElem? (i := 22) (by decide +kernel)⟩⟩
theorem fl_X7_81 : zFld RX7 81 0 0 false := ⟨_, _, _, rfl, by decide, rfl, Or.inr ⟨"NumbersInherited", List.mem_of_getElem? (i := 23) (by decide +kernel)⟩⟩
theorem fl_X2_101 : zFld RX2 101 0 0 false := ⟨_, _, _, rfl, by decide, rfl, Or.inr ⟨"NumbersInherited", List.mem_of_getElem? (i := 24) (by decide +kernel)⟩⟩
theorem fl_X7_84 : zFld RX7 84 0 1 false := ⟨_, _, _, rfl, by decide, rfl, Or.inr ⟨"NumbersInherited", List.mem_of_getElem? (i := 25) (by decide +kernel)⟩⟩
theorem fl_X7_87 : zFld RX7 87 0 2 false := ⟨_, _, _, rfl, by decide, rfl, Or.inr ⟨"NumbersInherited", List.mem_of_getElem? (i := 26) (by decide +kernel)⟩⟩
theorem fl_X2_93 : zFld RX2 93 0 2 false := ⟨_, _, _, rfl, by decide, rfl, Or.inr ⟨"NumbersInherited", List.mem_of_getElem? (i := 27) (by decide +kernel)⟩⟩
theorem fl_X2_60 : zFld RX2 60 0 3 false := ⟨_, _, _, rfl, by decide, rfl, Or.inr ⟨"NumbersInherited", List.mem_of_getElem? (i := 28) (by decide +kernel)⟩⟩
theorem fl_X7_90 : zFld RX7 90 0 3 false := ⟨_, _, _, rfl, by decide, rfl, Or.inr ⟨"NumbersInherited", List.mem_of_getElem? (i := 29) (by decide +kernel)⟩⟩
theorem fl_X7_209 : zFld RX7 209 5 0 false := ⟨_, _, _, rfl, by decide, rfl, Or.inr ⟨"NumbersInherited", List.mem_of_getElem? (i := 30) (by decide +kernel)⟩⟩
theorem fl_X3_79 : zFld RX3 79 5 1 false := ⟨_, _, _, rfl, by decide, rfl, Or.inr ⟨"NumbersInherited", List.mem_of_getElem? (i := 31) (by decide +kernel)⟩⟩
theorem fl_X7_277 : zFld RX7 277 5 2 true := ⟨_, _, _, rfl, by decide, rfl, Or.inr ⟨"NumbersInherited", List.mem_of_getElem? (i := 32) (by decide +kernel)⟩⟩
theorem tw_obj1 : Cond.instanceMethod Lib.objectInit ∈ zT := zT_1 24 (by decide +kernel) (by decide +kernel)
theorem tw_obj2 : Cond.code Lib.objectInit ⟨#[0xb1]⟩ 1 none ∈ zT := zT_1 25 (by decide +kernel) (by decide +kernel)
theorem tw_max1 : Cond.static Lib.Math.max.name ∈ zT := zT_1 191 (by decide +kernel) (by decide +kernel)
theorem tw_max2 : Cond.code Lib.Math.max.name Lib.Math.max.code 2 (some .int) ∈ zT := zT_1 192 (by decide +kernel) (by decide +kernel)
theorem tw_min1 : Cond.static Lib.Math.min.name ∈ zT := zT_1 194 (by decide +kernel) (by decide +kernel)
theorem tw_min2 : Cond.code Lib.Math.min.name Lib.Math.min.code 2 (some .int) ∈ zT := zT_1 195 (by decide +kernel) (by decide +kernel)
theorem tw_math : Cond.initialized "java/lang/Math" ∈ zT := zT_1 8 (by decide +kernel) (by decide +kernel)
theorem tw_sys : Cond.initialized "java/lang/System" ∈ zT := zT_1 17 (by decide +kernel) (by decide +kernel)
theorem tw_cp1 : Cond.native arraycopyName ∈ zT := zT_4 105 (by decide +kernel) (by decide +kernel)
theorem tw_cp2 : Cond.static arraycopyName ∈ zT := zT_4 104 (by decide +kernel) (by decide +kernel)
theorem tw_arr_int : Cond.arrayClass .int ∈ zT := zT_1 68 (by decide +kernel) (by decide +kernel)
theorem tw_arr_boolean : Cond.arrayClass .boolean ∈ zT := zT_2 89 (by decide +kernel) (by decide +kernel)
