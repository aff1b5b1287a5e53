/-! every word of wsL_law stands in the tables, by its place -/
theorem wl_1_0 : Cond.classLink RL 37 RX5 ∈ lw_tbl := List.mem_append_right _ (List.mem_of_getElem? (i := 12) (by decide +kernel))
theorem wl_1_1 : Cond.instantiable RX5 6 ∈ lw_tbl := List.mem_append_right _ (List.mem_of_getElem? (i := 13) (by decide +kernel))
theorem wl_1_2 : Cond.initialized RX5 ∈ lw_tbl := List.mem_append_right _ (List.mem_of_getElem? (i := 1) (by decide +kernel))
theorem wl_1_3 : Cond.arrayClass .int ∈ lw_tbl := List.mem_append_right _ (List.mem_of_getElem? (i := 228) (by decide +kernel))
theorem wl_1_4 : Cond.constant RL 145 (2147483647) ∈ lw_tbl := List.mem_append_right _ (List.mem_of_getElem? (i := 649) (by decide +kernel))
theorem wl_1_5 : Cond.methodLink RL 130 yX5_init ∈ lw_tbl := List.mem_append_right _ (List.mem_of_getElem? (i := 14) (by decide +kernel))
theorem wl_1_6 : Cond.instanceMethod yX5_init ∈ lw_tbl := List.mem_append_right _ (List.mem_of_getElem? (i := 15) (by decide +kernel))
set_option maxRecDepth 100000 in
theorem wl_1_7 : Cond.code yX5_init cX5_init 4 none ∈ lw_tbl := List.mem_append_right _ (List.mem_of_getElem? (i := 16) rfl)
theorem wl_1_8 : Cond.methodLink RX5 3 objectInit ∈ lw_tbl := List.mem_append_right _ (List.mem_of_getElem? (i := 17) (by decide +kernel))
theorem wl_1_9 : Cond.instanceMethod objectInit ∈ lw_tbl := List.mem_append_right _ (List.mem_of_getElem? (i := 18) (by decide +kernel))
set_option maxRecDepth 100000 in
theorem wl_1_10 : Cond.code objectInit ⟨#[0xb1]⟩ 1 none ∈ lw_tbl := List.mem_append_right _ (List.mem_of_getElem? (i := 19) rfl)
theorem wl_1_11 : Cond.classLink RX5 9 RX1 ∈ lw_tbl := List.mem_append_right _ (List.mem_of_getElem? (i := 20) (by decide +kernel))
theorem wl_1_12 : Cond.instantiable RX1 2 ∈ lw_tbl := List.mem_append_right _ (List.mem_of_getElem? (i := 21) (by decide +kernel))
theorem wl_1_13 : Cond.initialized RX1 ∈ lw_tbl := List.mem_append_right _ (List.mem_of_getElem? (i := 2) (by decide +kernel))
theorem wl_1_14 : Cond.classLink RX5 28 RX3 ∈ lw_tbl := List.mem_append_right _ (List.mem_of_getElem? (i := 87) (by decide +kernel))
theorem wl_1_15 : Cond.instantiable RX3 11 ∈ lw_tbl := List.mem_append_right _ (List.mem_of_getElem? (i := 88) (by decide +kernel))
theorem wl_1_16 : Cond.initialized RX3 ∈ lw_tbl := List.mem_append_right _ (List.mem_of_getElem? (i := 7) (by decide +kernel))
theorem wl_1_17 : Cond.fieldLink RX5 38 "PeatRailway" "text" "LPeatRailway$InputText;" ∈ lw_tbl := List.mem_append_right _ (List.mem_of_getElem? (i := 288) (by decide +kernel))
theorem wl_1_18 : Cond.fieldLink RX5 42 "PeatRailway" "now" "LPeatRailway$State;" ∈ lw_tbl := List.mem_append_right _ (List.mem_of_getElem? (i := 289) (by decide +kernel))
theorem wl_1_19 : Cond.fieldLink RX5 46 "PeatRailway" "trial" "LPeatRailway$State;" ∈ lw_tbl := List.mem_append_right _ (List.mem_of_getElem? (i := 290) (by decide +kernel))
theorem wl_1_20 : Cond.classLink RX5 49 RX0 ∈ lw_tbl := List.mem_append_right _ (List.mem_of_getElem? (i := 272) (by decide +kernel))
theorem wl_1_21 : Cond.instantiable RX0 2 ∈ lw_tbl := List.mem_append_right _ (List.mem_of_getElem? (i := 273) (by decide +kernel))
theorem wl_1_22 : Cond.initialized RX0 ∈ lw_tbl := List.mem_append_right _ (List.mem_of_getElem? (i := 10) (by decide +kernel))
theorem wl_1_23 : Cond.fieldLink RX5 52 "PeatRailway" "history" "LPeatRailway$History;" ∈ lw_tbl := List.mem_append_right _ (List.mem_of_getElem? (i := 291) (by decide +kernel))
theorem wlr_1 : ∀ w ∈ wsL_law_r1, w ∈ lw_tbl := List.forall_mem_cons.mpr ⟨wl_1_0, List.forall_mem_cons.mpr ⟨wl_1_1, List.forall_mem_cons.mpr ⟨wl_1_2, List.forall_mem_cons.mpr ⟨wl_1_3, List.forall_mem_cons.mpr ⟨wl_1_4, List.forall_mem_cons.mpr ⟨wl_1_5, List.forall_mem_cons.mpr ⟨wl_1_6, List.forall_mem_cons.mpr ⟨wl_1_7, List.forall_mem_cons.mpr ⟨wl_1_8, List.forall_mem_cons.mpr ⟨wl_1_9, List.forall_mem_cons.mpr ⟨wl_1_10, List.forall_mem_cons.mpr ⟨wl_1_11, List.forall_mem_cons.mpr ⟨wl_1_12, List.forall_mem_cons.mpr ⟨wl_1_13, List.forall_mem_cons.mpr ⟨wl_1_14, List.forall_mem_cons.mpr ⟨wl_1_15, List.forall_mem_cons.mpr ⟨wl_1_16, List.forall_mem_cons.mpr ⟨wl_1_17, List.forall_mem_cons.mpr ⟨wl_1_18, List.forall_mem_cons.mpr ⟨wl_1_19, List.forall_mem_cons.mpr ⟨wl_1_20, List.forall_mem_cons.mpr ⟨wl_1_21, List.forall_mem_cons.mpr ⟨wl_1_22, List.forall_mem_cons.mpr ⟨wl_1_23, fun _ h => absurd h List.not_mem_nil⟩⟩⟩⟩⟩⟩⟩⟩⟩⟩⟩⟩⟩⟩⟩⟩⟩⟩⟩⟩⟩⟩⟩⟩
theorem wl_2_0 : Cond.fieldLink RX5 56 "PeatRailway" "images" "[LPeatRailway$State;" ∈ lw_tbl := List.mem_append_right _ (List.mem_of_getElem? (i := 292) (by decide +kernel))
theorem wl_2_1 : Cond.methodLink RX5 11 yX1_init ∈ lw_tbl := List.mem_append_right _ (List.mem_of_getElem? (i := 22) (by decide +kernel))
theorem wl_2_2 : Cond.instanceMethod yX1_init ∈ lw_tbl := List.mem_append_right _ (List.mem_of_getElem? (i := 23) (by decide +kernel))
set_option maxRecDepth 100000 in
theorem wl_2_3 : Cond.code yX1_init cX1_init 1 none ∈ lw_tbl := List.mem_append_right _ (List.mem_of_getElem? (i := 24) rfl)
theorem wl_2_4 : Cond.methodLink RX1 3 objectInit ∈ lw_tbl := List.mem_append_right _ (List.mem_of_getElem? (i := 25) (by decide +kernel))
theorem wl_2_5 : Cond.arrayClass .char ∈ lw_tbl := List.mem_append_right _ (List.mem_of_getElem? (i := 33) (by decide +kernel))
theorem wl_2_6 : Cond.fieldLink RX1 9 "PeatRailway$InputText" "signs" "[C" ∈ lw_tbl := List.mem_append_right _ (List.mem_of_getElem? (i := 26) (by decide +kernel))
theorem wl_2_7 : Cond.methodLink RX5 14 yJ0_length_8abf5 ∈ lw_tbl := List.mem_append_right _ (List.mem_of_getElem? (i := 35) (by decide +kernel))
theorem wl_2_8 : Cond.instanceMethod yJ0_length_8abf5 ∈ lw_tbl := List.mem_append_right _ (List.mem_of_getElem? (i := 36) (by decide +kernel))
theorem wl_2_9 : Cond.selects RJ0 yJ0_length_8abf5 yJ0_length_8abf5 ∈ lw_tbl := List.mem_append_right _ (List.mem_of_getElem? (i := 37) (by decide +kernel))
theorem wl_2_10 : Cond.initialized RJ0 ∈ lw_tbl := List.mem_append_right _ (List.mem_of_getElem? (i := 3) (by decide +kernel))
set_option maxRecDepth 100000 in
theorem wl_2_11 : Cond.code yJ0_length_8abf5 cJ0_length_8abf5 1 (some .int) ∈ lw_tbl := List.mem_append_right _ (List.mem_of_getElem? (i := 38) rfl)
theorem wl_2_12 : Cond.fieldLink RJ0 9 "java/lang/String" "value" "[B" ∈ lw_tbl := List.mem_append_right _ (List.mem_of_getElem? (i := 650) (by decide +kernel))
theorem wl_2_13 : Cond.methodLink RJ0 335 yJ0_coder_7d493 ∈ lw_tbl := List.mem_append_right _ (List.mem_of_getElem? (i := 39) (by decide +kernel))
theorem wl_2_14 : Cond.instanceMethod yJ0_coder_7d493 ∈ lw_tbl := List.mem_append_right _ (List.mem_of_getElem? (i := 40) (by decide +kernel))
theorem wl_2_15 : Cond.selects RJ0 yJ0_coder_7d493 yJ0_coder_7d493 ∈ lw_tbl := List.mem_append_right _ (List.mem_of_getElem? (i := 41) (by decide +kernel))
set_option maxRecDepth 100000 in
theorem wl_2_16 : Cond.code yJ0_coder_7d493 cJ0_coder_7d493 1 (some .byte) ∈ lw_tbl := List.mem_append_right _ (List.mem_of_getElem? (i := 42) rfl)
theorem wl_2_17 : Cond.fieldLink RJ0 38 "java/lang/String" "COMPACT_STRINGS" "Z" ∈ lw_tbl := List.mem_append_right _ (List.mem_of_getElem? (i := 43) (by decide +kernel))
theorem wl_2_18 : Cond.fieldLink RJ0 15 "java/lang/String" "coder" "B" ∈ lw_tbl := List.mem_append_right _ (List.mem_of_getElem? (i := 651) (by decide +kernel))
theorem wl_2_19 : Cond.methodLink RX5 20 yJ0_charAt_5068e ∈ lw_tbl := List.mem_append_right _ (List.mem_of_getElem? (i := 45) (by decide +kernel))
theorem wl_2_20 : Cond.instanceMethod yJ0_charAt_5068e ∈ lw_tbl := List.mem_append_right _ (List.mem_of_getElem? (i := 46) (by decide +kernel))
theorem wl_2_21 : Cond.selects RJ0 yJ0_charAt_5068e yJ0_charAt_5068e ∈ lw_tbl := List.mem_append_right _ (List.mem_of_getElem? (i := 47) (by decide +kernel))
set_option maxRecDepth 100000 in
theorem wl_2_22 : Cond.code yJ0_charAt_5068e cJ0_charAt_5068e 2 (some .char) ∈ lw_tbl := List.mem_append_right _ (List.mem_of_getElem? (i := 48) rfl)
theorem wl_2_23 : Cond.methodLink RJ0 492 yJ0_isLatin1_aae02 ∈ lw_tbl := List.mem_append_right _ (List.mem_of_getElem? (i := 49) (by decide +kernel))
theorem wlr_2 : ∀ w ∈ wsL_law_r2, w ∈ lw_tbl := List.forall_mem_cons.mpr ⟨wl_2_0, List.forall_mem_cons.mpr ⟨wl_2_1, List.forall_mem_cons.mpr ⟨wl_2_2, List.forall_mem_cons.mpr ⟨wl_2_3, List.forall_mem_cons.mpr ⟨wl_2_4, List.forall_mem_cons.mpr ⟨wl_2_5, List.forall_mem_cons.mpr ⟨wl_2_6, List.forall_mem_cons.mpr ⟨wl_2_7, List.forall_mem_cons.mpr ⟨wl_2_8, List.forall_mem_cons.mpr ⟨wl_2_9, List.forall_mem_cons.mpr ⟨wl_2_10, List.forall_mem_cons.mpr ⟨wl_2_11, List.forall_mem_cons.mpr ⟨wl_2_12, List.forall_mem_cons.mpr ⟨wl_2_13, List.forall_mem_cons.mpr ⟨wl_2_14, List.forall_mem_cons.mpr ⟨wl_2_15, List.forall_mem_cons.mpr ⟨wl_2_16, List.forall_mem_cons.mpr ⟨wl_2_17, List.forall_mem_cons.mpr ⟨wl_2_18, List.forall_mem_cons.mpr ⟨wl_2_19, List.forall_mem_cons.mpr ⟨wl_2_20, List.forall_mem_cons.mpr ⟨wl_2_21, List.forall_mem_cons.mpr ⟨wl_2_22, List.forall_mem_cons.mpr ⟨wl_2_23, fun _ h => absurd h List.not_mem_nil⟩⟩⟩⟩⟩⟩⟩⟩⟩⟩⟩⟩⟩⟩⟩⟩⟩⟩⟩⟩⟩⟩⟩⟩
theorem wl_3_0 : Cond.instanceMethod yJ0_isLatin1_aae02 ∈ lw_tbl := List.mem_append_right _ (List.mem_of_getElem? (i := 50) (by decide +kernel))
theorem wl_3_1 : Cond.selects RJ0 yJ0_isLatin1_aae02 yJ0_isLatin1_aae02 ∈ lw_tbl := List.mem_append_right _ (List.mem_of_getElem? (i := 51) (by decide +kernel))
set_option maxRecDepth 100000 in
theorem wl_3_2 : Cond.code yJ0_isLatin1_aae02 cJ0_isLatin1_aae02 1 (some .boolean) ∈ lw_tbl := List.mem_append_right _ (List.mem_of_getElem? (i := 52) rfl)
theorem wl_3_3 : Cond.methodLink RJ0 495 yJ1_charAt_3b067 ∈ lw_tbl := List.mem_append_right _ (List.mem_of_getElem? (i := 53) (by decide +kernel))
theorem wl_3_4 : Cond.static yJ1_charAt_3b067 ∈ lw_tbl := List.mem_append_right _ (List.mem_of_getElem? (i := 54) (by decide +kernel))
theorem wl_3_5 : Cond.initialized RJ1 ∈ lw_tbl := List.mem_append_right _ (List.mem_of_getElem? (i := 4) (by decide +kernel))
set_option maxRecDepth 100000 in
theorem wl_3_6 : Cond.code yJ1_charAt_3b067 cJ1_charAt_3b067 2 (some .char) ∈ lw_tbl := List.mem_append_right _ (List.mem_of_getElem? (i := 55) rfl)
theorem wl_3_7 : Cond.methodLink RJ1 9 yJ0_checkIndex_df160 ∈ lw_tbl := List.mem_append_right _ (List.mem_of_getElem? (i := 56) (by decide +kernel))
theorem wl_3_8 : Cond.static yJ0_checkIndex_df160 ∈ lw_tbl := List.mem_append_right _ (List.mem_of_getElem? (i := 57) (by decide +kernel))
set_option maxRecDepth 100000 in
theorem wl_3_9 : Cond.code yJ0_checkIndex_df160 cJ0_checkIndex_df160 2 none ∈ lw_tbl := List.mem_append_right _ (List.mem_of_getElem? (i := 58) rfl)
theorem wl_3_10 : Cond.fieldLink RJ0 1053 "jdk/internal/util/Preconditions" "SIOOBE_FORMATTER" "Ljava/util/function/BiFunction;" ∈ lw_tbl := List.mem_append_right _ (List.mem_of_getElem? (i := 59) (by decide +kernel))
theorem wl_3_11 : Cond.methodLink RJ0 1059 yJ3_checkIndex_8e157 ∈ lw_tbl := List.mem_append_right _ (List.mem_of_getElem? (i := 61) (by decide +kernel))
theorem wl_3_12 : Cond.static yJ3_checkIndex_8e157 ∈ lw_tbl := List.mem_append_right _ (List.mem_of_getElem? (i := 62) (by decide +kernel))
theorem wl_3_13 : Cond.initialized RJ3 ∈ lw_tbl := List.mem_append_right _ (List.mem_of_getElem? (i := 5) (by decide +kernel))
set_option maxRecDepth 100000 in
theorem wl_3_14 : Cond.code yJ3_checkIndex_8e157 cJ3_checkIndex_8e157 3 (some .int) ∈ lw_tbl := List.mem_append_right _ (List.mem_of_getElem? (i := 63) rfl)
theorem wl_3_15 : Cond.methodLink RJ0 498 yJ2_charAt_3b067 ∈ lw_tbl := List.mem_append_right _ (List.mem_of_getElem? (i := 64) (by decide +kernel))
theorem wl_3_16 : Cond.static yJ2_charAt_3b067 ∈ lw_tbl := List.mem_append_right _ (List.mem_of_getElem? (i := 65) (by decide +kernel))
theorem wl_3_17 : Cond.initialized RJ2 ∈ lw_tbl := List.mem_append_right _ (List.mem_of_getElem? (i := 6) (by decide +kernel))
set_option maxRecDepth 100000 in
theorem wl_3_18 : Cond.code yJ2_charAt_3b067 cJ2_charAt_3b067 2 (some .char) ∈ lw_tbl := List.mem_append_right _ (List.mem_of_getElem? (i := 66) rfl)
theorem wl_3_19 : Cond.methodLink RJ2 67 yJ2_checkIndex_2214a ∈ lw_tbl := List.mem_append_right _ (List.mem_of_getElem? (i := 67) (by decide +kernel))
theorem wl_3_20 : Cond.static yJ2_checkIndex_2214a ∈ lw_tbl := List.mem_append_right _ (List.mem_of_getElem? (i := 68) (by decide +kernel))
set_option maxRecDepth 100000 in
theorem wl_3_21 : Cond.code yJ2_checkIndex_2214a cJ2_checkIndex_2214a 2 none ∈ lw_tbl := List.mem_append_right _ (List.mem_of_getElem? (i := 69) rfl)
theorem wl_3_22 : Cond.methodLink RJ2 48 yJ2_length_9d52b ∈ lw_tbl := List.mem_append_right _ (List.mem_of_getElem? (i := 70) (by decide +kernel))
theorem wl_3_23 : Cond.static yJ2_length_9d52b ∈ lw_tbl := List.mem_append_right _ (List.mem_of_getElem? (i := 71) (by decide +kernel))
theorem wlr_3 : ∀ w ∈ wsL_law_r3, w ∈ lw_tbl := List.forall_mem_cons.mpr ⟨wl_3_0, List.forall_mem_cons.mpr ⟨wl_3_1, List.forall_mem_cons.mpr ⟨wl_3_2, List.forall_mem_cons.mpr ⟨wl_3_3, List.forall_mem_cons.mpr ⟨wl_3_4, List.forall_mem_cons.mpr ⟨wl_3_5, List.forall_mem_cons.mpr ⟨wl_3_6, List.forall_mem_cons.mpr ⟨wl_3_7, List.forall_mem_cons.mpr ⟨wl_3_8, List.forall_mem_cons.mpr ⟨wl_3_9, List.forall_mem_cons.mpr ⟨wl_3_10, List.forall_mem_cons.mpr ⟨wl_3_11, List.forall_mem_cons.mpr ⟨wl_3_12, List.forall_mem_cons.mpr ⟨wl_3_13, List.forall_mem_cons.mpr ⟨wl_3_14, List.forall_mem_cons.mpr ⟨wl_3_15, List.forall_mem_cons.mpr ⟨wl_3_16, List.forall_mem_cons.mpr ⟨wl_3_17, List.forall_mem_cons.mpr ⟨wl_3_18, List.forall_mem_cons.mpr ⟨wl_3_19, List.forall_mem_cons.mpr ⟨wl_3_20, List.forall_mem_cons.mpr ⟨wl_3_21, List.forall_mem_cons.mpr ⟨wl_3_22, List.forall_mem_cons.mpr ⟨wl_3_23, fun _ h => absurd h List.not_mem_nil⟩⟩⟩⟩⟩⟩⟩⟩⟩⟩⟩⟩⟩⟩⟩⟩⟩⟩⟩⟩⟩⟩⟩⟩
set_option maxRecDepth 100000 in
theorem wl_4_0 : Cond.code yJ2_length_9d52b cJ2_length_9d52b 1 (some .int) ∈ lw_tbl := List.mem_append_right _ (List.mem_of_getElem? (i := 72) rfl)
theorem wl_4_1 : Cond.methodLink RJ2 414 yJ0_checkIndex_df160 ∈ lw_tbl := List.mem_append_right _ (List.mem_of_getElem? (i := 73) (by decide +kernel))
theorem wl_4_2 : Cond.methodLink RJ2 71 yJ2_getChar_3b067 ∈ lw_tbl := List.mem_append_right _ (List.mem_of_getElem? (i := 74) (by decide +kernel))
theorem wl_4_3 : Cond.static yJ2_getChar_3b067 ∈ lw_tbl := List.mem_append_right _ (List.mem_of_getElem? (i := 75) (by decide +kernel))
set_option maxRecDepth 100000 in
theorem wl_4_4 : Cond.code yJ2_getChar_3b067 cJ2_getChar_3b067 2 (some .char) ∈ lw_tbl := List.mem_append_right _ (List.mem_of_getElem? (i := 76) rfl)
theorem wl_4_5 : Cond.fieldLink RJ2 44 "java/lang/StringUTF16" "$assertionsDisabled" "Z" ∈ lw_tbl := List.mem_append_right _ (List.mem_of_getElem? (i := 77) (by decide +kernel))
theorem wl_4_6 : Cond.fieldLink RJ2 59 "java/lang/StringUTF16" "HI_BYTE_SHIFT" "I" ∈ lw_tbl := List.mem_append_right _ (List.mem_of_getElem? (i := 79) (by decide +kernel))
theorem wl_4_7 : Cond.fieldLink RJ2 63 "java/lang/StringUTF16" "LO_BYTE_SHIFT" "I" ∈ lw_tbl := List.mem_append_right _ (List.mem_of_getElem? (i := 81) (by decide +kernel))
theorem wl_4_8 : Cond.methodLink RX5 24 yX1_append ∈ lw_tbl := List.mem_append_right _ (List.mem_of_getElem? (i := 83) (by decide +kernel))
theorem wl_4_9 : Cond.instanceMethod yX1_append ∈ lw_tbl := List.mem_append_right _ (List.mem_of_getElem? (i := 84) (by decide +kernel))
theorem wl_4_10 : Cond.selects RX1 yX1_append yX1_append ∈ lw_tbl := List.mem_append_right _ (List.mem_of_getElem? (i := 85) (by decide +kernel))
set_option maxRecDepth 100000 in
theorem wl_4_11 : Cond.code yX1_append cX1_append 2 none ∈ lw_tbl := List.mem_append_right _ (List.mem_of_getElem? (i := 86) rfl)
theorem wl_4_12 : Cond.fieldLink RX1 15 "PeatRailway$InputText" "length" "I" ∈ lw_tbl := List.mem_append_right _ (List.mem_of_getElem? (i := 27) (by decide +kernel))
theorem wl_4_13 : Cond.methodLink RX5 30 yX3_init ∈ lw_tbl := List.mem_append_right _ (List.mem_of_getElem? (i := 89) (by decide +kernel))
theorem wl_4_14 : Cond.instanceMethod yX3_init ∈ lw_tbl := List.mem_append_right _ (List.mem_of_getElem? (i := 90) (by decide +kernel))
set_option maxRecDepth 100000 in
theorem wl_4_15 : Cond.code yX3_init cX3_init 2 none ∈ lw_tbl := List.mem_append_right _ (List.mem_of_getElem? (i := 91) rfl)
theorem wl_4_16 : Cond.methodLink RX3 3 objectInit ∈ lw_tbl := List.mem_append_right _ (List.mem_of_getElem? (i := 92) (by decide +kernel))
theorem wl_4_17 : Cond.classLink RX3 9 RX2 ∈ lw_tbl := List.mem_append_right _ (List.mem_of_getElem? (i := 93) (by decide +kernel))
theorem wl_4_18 : Cond.fieldLink RX3 11 "PeatRailway$State" "segments" "[LPeatRailway$Segment;" ∈ lw_tbl := List.mem_append_right _ (List.mem_of_getElem? (i := 185) (by decide +kernel))
theorem wl_4_19 : Cond.instantiable RX2 6 ∈ lw_tbl := List.mem_append_right _ (List.mem_of_getElem? (i := 95) (by decide +kernel))
theorem wl_4_20 : Cond.initialized RX2 ∈ lw_tbl := List.mem_append_right _ (List.mem_of_getElem? (i := 8) (by decide +kernel))
theorem wl_4_21 : Cond.classLink RX3 18 RX4 ∈ lw_tbl := List.mem_append_right _ (List.mem_of_getElem? (i := 128) (by decide +kernel))
theorem wl_4_22 : Cond.fieldLink RX3 20 "PeatRailway$State" "trains" "[LPeatRailway$Train;" ∈ lw_tbl := List.mem_append_right _ (List.mem_of_getElem? (i := 186) (by decide +kernel))
theorem wl_4_23 : Cond.instantiable RX4 10 ∈ lw_tbl := List.mem_append_right _ (List.mem_of_getElem? (i := 130) (by decide +kernel))
theorem wlr_4 : ∀ w ∈ wsL_law_r4, w ∈ lw_tbl := List.forall_mem_cons.mpr ⟨wl_4_0, List.forall_mem_cons.mpr ⟨wl_4_1, List.forall_mem_cons.mpr ⟨wl_4_2, List.forall_mem_cons.mpr ⟨wl_4_3, List.forall_mem_cons.mpr ⟨wl_4_4, List.forall_mem_cons.mpr ⟨wl_4_5, List.forall_mem_cons.mpr ⟨wl_4_6, List.forall_mem_cons.mpr ⟨wl_4_7, List.forall_mem_cons.mpr ⟨wl_4_8, List.forall_mem_cons.mpr ⟨wl_4_9, List.forall_mem_cons.mpr ⟨wl_4_10, List.forall_mem_cons.mpr ⟨wl_4_11, List.forall_mem_cons.mpr ⟨wl_4_12, List.forall_mem_cons.mpr ⟨wl_4_13, List.forall_mem_cons.mpr ⟨wl_4_14, List.forall_mem_cons.mpr ⟨wl_4_15, List.forall_mem_cons.mpr ⟨wl_4_16, List.forall_mem_cons.mpr ⟨wl_4_17, List.forall_mem_cons.mpr ⟨wl_4_18, List.forall_mem_cons.mpr ⟨wl_4_19, List.forall_mem_cons.mpr ⟨wl_4_20, List.forall_mem_cons.mpr ⟨wl_4_21, List.forall_mem_cons.mpr ⟨wl_4_22, List.forall_mem_cons.mpr ⟨wl_4_23, fun _ h => absurd h List.not_mem_nil⟩⟩⟩⟩⟩⟩⟩⟩⟩⟩⟩⟩⟩⟩⟩⟩⟩⟩⟩⟩⟩⟩⟩⟩
theorem wl_5_0 : Cond.initialized RX4 ∈ lw_tbl := List.mem_append_right _ (List.mem_of_getElem? (i := 9) (by decide +kernel))
theorem wl_5_1 : Cond.fieldLink RX3 25 "PeatRailway$State" "settings" "[I" ∈ lw_tbl := List.mem_append_right _ (List.mem_of_getElem? (i := 187) (by decide +kernel))
theorem wl_5_2 : Cond.instanceMethod yX2_init ∈ lw_tbl := List.mem_append_right _ (List.mem_of_getElem? (i := 97) (by decide +kernel))
set_option maxRecDepth 100000 in
theorem wl_5_3 : Cond.code yX2_init cX2_init 1 none ∈ lw_tbl := List.mem_append_right _ (List.mem_of_getElem? (i := 98) rfl)
theorem wl_5_4 : Cond.methodLink RX2 3 objectInit ∈ lw_tbl := List.mem_append_right _ (List.mem_of_getElem? (i := 99) (by decide +kernel))
theorem wl_5_5 : Cond.instanceMethod yX4_init ∈ lw_tbl := List.mem_append_right _ (List.mem_of_getElem? (i := 132) (by decide +kernel))
set_option maxRecDepth 100000 in
theorem wl_5_6 : Cond.code yX4_init cX4_init 1 none ∈ lw_tbl := List.mem_append_right _ (List.mem_of_getElem? (i := 133) rfl)
theorem wl_5_7 : Cond.methodLink RX4 3 objectInit ∈ lw_tbl := List.mem_append_right _ (List.mem_of_getElem? (i := 134) (by decide +kernel))
theorem wl_5_8 : Cond.methodLink RX5 31 yX1_layOnto ∈ lw_tbl := List.mem_append_right _ (List.mem_of_getElem? (i := 229) (by decide +kernel))
theorem wl_5_9 : Cond.instanceMethod yX1_layOnto ∈ lw_tbl := List.mem_append_right _ (List.mem_of_getElem? (i := 230) (by decide +kernel))
theorem wl_5_10 : Cond.selects RX1 yX1_layOnto yX1_layOnto ∈ lw_tbl := List.mem_append_right _ (List.mem_of_getElem? (i := 231) (by decide +kernel))
set_option maxRecDepth 100000 in
theorem wl_5_11 : Cond.code yX1_layOnto cX1_layOnto 4 none ∈ lw_tbl := List.mem_append_right _ (List.mem_of_getElem? (i := 232) rfl)
theorem wl_5_12 : Cond.methodLink RX1 27 yX3_beginTrack ∈ lw_tbl := List.mem_append_right _ (List.mem_of_getElem? (i := 233) (by decide +kernel))
theorem wl_5_13 : Cond.instanceMethod yX3_beginTrack ∈ lw_tbl := List.mem_append_right _ (List.mem_of_getElem? (i := 234) (by decide +kernel))
theorem wl_5_14 : Cond.selects RX3 yX3_beginTrack yX3_beginTrack ∈ lw_tbl := List.mem_append_right _ (List.mem_of_getElem? (i := 235) (by decide +kernel))
set_option maxRecDepth 100000 in
theorem wl_5_15 : Cond.code yX3_beginTrack cX3_beginTrack 1 none ∈ lw_tbl := List.mem_append_right _ (List.mem_of_getElem? (i := 236) rfl)
theorem wl_5_16 : Cond.fieldLink RX3 32 "PeatRailway$State" "segmentCount" "I" ∈ lw_tbl := List.mem_append_right _ (List.mem_of_getElem? (i := 189) (by decide +kernel))
theorem wl_5_17 : Cond.methodLink RX1 19 yX1_codeAt ∈ lw_tbl := List.mem_append_right _ (List.mem_of_getElem? (i := 237) (by decide +kernel))
theorem wl_5_18 : Cond.instanceMethod yX1_codeAt ∈ lw_tbl := List.mem_append_right _ (List.mem_of_getElem? (i := 238) (by decide +kernel))
theorem wl_5_19 : Cond.selects RX1 yX1_codeAt yX1_codeAt ∈ lw_tbl := List.mem_append_right _ (List.mem_of_getElem? (i := 239) (by decide +kernel))
set_option maxRecDepth 100000 in
theorem wl_5_20 : Cond.code yX1_codeAt cX1_codeAt 2 (some .int) ∈ lw_tbl := List.mem_append_right _ (List.mem_of_getElem? (i := 240) rfl)
theorem wl_5_21 : Cond.methodLink RX1 23 yX1_isDigit ∈ lw_tbl := List.mem_append_right _ (List.mem_of_getElem? (i := 241) (by decide +kernel))
theorem wl_5_22 : Cond.static yX1_isDigit ∈ lw_tbl := List.mem_append_right _ (List.mem_of_getElem? (i := 242) (by decide +kernel))
set_option maxRecDepth 100000 in
theorem wl_5_23 : Cond.code yX1_isDigit cX1_isDigit 1 (some .boolean) ∈ lw_tbl := List.mem_append_right _ (List.mem_of_getElem? (i := 243) rfl)
theorem wlr_5 : ∀ w ∈ wsL_law_r5, w ∈ lw_tbl := List.forall_mem_cons.mpr ⟨wl_5_0, List.forall_mem_cons.mpr ⟨wl_5_1, List.forall_mem_cons.mpr ⟨wl_5_2, List.forall_mem_cons.mpr ⟨wl_5_3, List.forall_mem_cons.mpr ⟨wl_5_4, List.forall_mem_cons.mpr ⟨wl_5_5, List.forall_mem_cons.mpr ⟨wl_5_6, List.forall_mem_cons.mpr ⟨wl_5_7, List.forall_mem_cons.mpr ⟨wl_5_8, List.forall_mem_cons.mpr ⟨wl_5_9, List.forall_mem_cons.mpr ⟨wl_5_10, List.forall_mem_cons.mpr ⟨wl_5_11, List.forall_mem_cons.mpr ⟨wl_5_12, List.forall_mem_cons.mpr ⟨wl_5_13, List.forall_mem_cons.mpr ⟨wl_5_14, List.forall_mem_cons.mpr ⟨wl_5_15, List.forall_mem_cons.mpr ⟨wl_5_16, List.forall_mem_cons.mpr ⟨wl_5_17, List.forall_mem_cons.mpr ⟨wl_5_18, List.forall_mem_cons.mpr ⟨wl_5_19, List.forall_mem_cons.mpr ⟨wl_5_20, List.forall_mem_cons.mpr ⟨wl_5_21, List.forall_mem_cons.mpr ⟨wl_5_22, List.forall_mem_cons.mpr ⟨wl_5_23, fun _ h => absurd h List.not_mem_nil⟩⟩⟩⟩⟩⟩⟩⟩⟩⟩⟩⟩⟩⟩⟩⟩⟩⟩⟩⟩⟩⟩⟩⟩
theorem wl_6_0 : Cond.methodLink RX1 32 yX3_appendSegment ∈ lw_tbl := List.mem_append_right _ (List.mem_of_getElem? (i := 244) (by decide +kernel))
theorem wl_6_1 : Cond.instanceMethod yX3_appendSegment ∈ lw_tbl := List.mem_append_right _ (List.mem_of_getElem? (i := 245) (by decide +kernel))
theorem wl_6_2 : Cond.selects RX3 yX3_appendSegment yX3_appendSegment ∈ lw_tbl := List.mem_append_right _ (List.mem_of_getElem? (i := 246) (by decide +kernel))
set_option maxRecDepth 100000 in
theorem wl_6_3 : Cond.code yX3_appendSegment cX3_appendSegment 3 none ∈ lw_tbl := List.mem_append_right _ (List.mem_of_getElem? (i := 247) rfl)
theorem wl_6_4 : Cond.methodLink RX3 61 yX3_segmentAt ∈ lw_tbl := List.mem_append_right _ (List.mem_of_getElem? (i := 248) (by decide +kernel))
theorem wl_6_5 : Cond.instanceMethod yX3_segmentAt ∈ lw_tbl := List.mem_append_right _ (List.mem_of_getElem? (i := 249) (by decide +kernel))
theorem wl_6_6 : Cond.selects RX3 yX3_segmentAt yX3_segmentAt ∈ lw_tbl := List.mem_append_right _ (List.mem_of_getElem? (i := 250) (by decide +kernel))
set_option maxRecDepth 100000 in
theorem wl_6_7 : Cond.code yX3_segmentAt cX3_segmentAt 2 (some (.object "PeatRailway$Segment")) ∈ lw_tbl := List.mem_append_right _ (List.mem_of_getElem? (i := 251) rfl)
theorem wl_6_8 : Cond.methodLink RX3 65 yX2_layDown ∈ lw_tbl := List.mem_append_right _ (List.mem_of_getElem? (i := 252) (by decide +kernel))
theorem wl_6_9 : Cond.instanceMethod yX2_layDown ∈ lw_tbl := List.mem_append_right _ (List.mem_of_getElem? (i := 253) (by decide +kernel))
theorem wl_6_10 : Cond.selects RX2 yX2_layDown yX2_layDown ∈ lw_tbl := List.mem_append_right _ (List.mem_of_getElem? (i := 254) (by decide +kernel))
set_option maxRecDepth 100000 in
theorem wl_6_11 : Cond.code yX2_layDown cX2_layDown 2 none ∈ lw_tbl := List.mem_append_right _ (List.mem_of_getElem? (i := 255) rfl)
theorem wl_6_12 : Cond.fieldLink RX2 9 "PeatRailway$Segment" "softness" "I" ∈ lw_tbl := List.mem_append_right _ (List.mem_of_getElem? (i := 100) (by decide +kernel))
theorem wl_6_13 : Cond.fieldLink RX2 15 "PeatRailway$Segment" "room" "I" ∈ lw_tbl := List.mem_append_right _ (List.mem_of_getElem? (i := 102) (by decide +kernel))
theorem wl_6_14 : Cond.fieldLink RX2 18 "PeatRailway$Segment" "sinking" "I" ∈ lw_tbl := List.mem_append_right _ (List.mem_of_getElem? (i := 105) (by decide +kernel))
theorem wl_6_15 : Cond.methodLink RX1 36 yX3_widenLatestSegment ∈ lw_tbl := List.mem_append_right _ (List.mem_of_getElem? (i := 256) (by decide +kernel))
theorem wl_6_16 : Cond.instanceMethod yX3_widenLatestSegment ∈ lw_tbl := List.mem_append_right _ (List.mem_of_getElem? (i := 257) (by decide +kernel))
theorem wl_6_17 : Cond.selects RX3 yX3_widenLatestSegment yX3_widenLatestSegment ∈ lw_tbl := List.mem_append_right _ (List.mem_of_getElem? (i := 258) (by decide +kernel))
set_option maxRecDepth 100000 in
theorem wl_6_18 : Cond.code yX3_widenLatestSegment cX3_widenLatestSegment 2 none ∈ lw_tbl := List.mem_append_right _ (List.mem_of_getElem? (i := 259) rfl)
theorem wl_6_19 : Cond.fieldLink RX3 69 "PeatRailway$Segment" "room" "I" ∈ lw_tbl := List.mem_append_right _ (List.mem_of_getElem? (i := 103) (by decide +kernel))
theorem wl_6_20 : Cond.methodLink RX1 39 yX3_endTrack ∈ lw_tbl := List.mem_append_right _ (List.mem_of_getElem? (i := 260) (by decide +kernel))
theorem wl_6_21 : Cond.instanceMethod yX3_endTrack ∈ lw_tbl := List.mem_append_right _ (List.mem_of_getElem? (i := 261) (by decide +kernel))
theorem wl_6_22 : Cond.selects RX3 yX3_endTrack yX3_endTrack ∈ lw_tbl := List.mem_append_right _ (List.mem_of_getElem? (i := 262) (by decide +kernel))
set_option maxRecDepth 100000 in
theorem wl_6_23 : Cond.code yX3_endTrack cX3_endTrack 6 none ∈ lw_tbl := List.mem_append_right _ (List.mem_of_getElem? (i := 263) rfl)
theorem wlr_6 : ∀ w ∈ wsL_law_r6, w ∈ lw_tbl := List.forall_mem_cons.mpr ⟨wl_6_0, List.forall_mem_cons.mpr ⟨wl_6_1, List.forall_mem_cons.mpr ⟨wl_6_2, List.forall_mem_cons.mpr ⟨wl_6_3, List.forall_mem_cons.mpr ⟨wl_6_4, List.forall_mem_cons.mpr ⟨wl_6_5, List.forall_mem_cons.mpr ⟨wl_6_6, List.forall_mem_cons.mpr ⟨wl_6_7, List.forall_mem_cons.mpr ⟨wl_6_8, List.forall_mem_cons.mpr ⟨wl_6_9, List.forall_mem_cons.mpr ⟨wl_6_10, List.forall_mem_cons.mpr ⟨wl_6_11, List.forall_mem_cons.mpr ⟨wl_6_12, List.forall_mem_cons.mpr ⟨wl_6_13, List.forall_mem_cons.mpr ⟨wl_6_14, List.forall_mem_cons.mpr ⟨wl_6_15, List.forall_mem_cons.mpr ⟨wl_6_16, List.forall_mem_cons.mpr ⟨wl_6_17, List.forall_mem_cons.mpr ⟨wl_6_18, List.forall_mem_cons.mpr ⟨wl_6_19, List.forall_mem_cons.mpr ⟨wl_6_20, List.forall_mem_cons.mpr ⟨wl_6_21, List.forall_mem_cons.mpr ⟨wl_6_22, List.forall_mem_cons.mpr ⟨wl_6_23, fun _ h => absurd h List.not_mem_nil⟩⟩⟩⟩⟩⟩⟩⟩⟩⟩⟩⟩⟩⟩⟩⟩⟩⟩⟩⟩⟩⟩⟩⟩
theorem wl_7_0 : Cond.fieldLink RX3 72 "PeatRailway$Segment" "passingBelow" "I" ∈ lw_tbl := List.mem_append_right _ (List.mem_of_getElem? (i := 111) (by decide +kernel))
theorem wl_7_1 : Cond.fieldLink RX3 79 "PeatRailway$Segment" "passingAbove" "I" ∈ lw_tbl := List.mem_append_right _ (List.mem_of_getElem? (i := 109) (by decide +kernel))
theorem wl_7_2 : Cond.methodLink RX3 75 yX2_isPassingPlace ∈ lw_tbl := List.mem_append_right _ (List.mem_of_getElem? (i := 264) (by decide +kernel))
theorem wl_7_3 : Cond.instanceMethod yX2_isPassingPlace ∈ lw_tbl := List.mem_append_right _ (List.mem_of_getElem? (i := 265) (by decide +kernel))
theorem wl_7_4 : Cond.selects RX2 yX2_isPassingPlace yX2_isPassingPlace ∈ lw_tbl := List.mem_append_right _ (List.mem_of_getElem? (i := 266) (by decide +kernel))
set_option maxRecDepth 100000 in
theorem wl_7_5 : Cond.code yX2_isPassingPlace cX2_isPassingPlace 1 (some .boolean) ∈ lw_tbl := List.mem_append_right _ (List.mem_of_getElem? (i := 267) rfl)
theorem wl_7_6 : Cond.methodLink RX5 35 yX1_wipe ∈ lw_tbl := List.mem_append_right _ (List.mem_of_getElem? (i := 268) (by decide +kernel))
theorem wl_7_7 : Cond.instanceMethod yX1_wipe ∈ lw_tbl := List.mem_append_right _ (List.mem_of_getElem? (i := 269) (by decide +kernel))
theorem wl_7_8 : Cond.selects RX1 yX1_wipe yX1_wipe ∈ lw_tbl := List.mem_append_right _ (List.mem_of_getElem? (i := 270) (by decide +kernel))
set_option maxRecDepth 100000 in
theorem wl_7_9 : Cond.code yX1_wipe cX1_wipe 1 none ∈ lw_tbl := List.mem_append_right _ (List.mem_of_getElem? (i := 271) rfl)
theorem wl_7_10 : Cond.methodLink RX5 51 yX0_init ∈ lw_tbl := List.mem_append_right _ (List.mem_of_getElem? (i := 274) (by decide +kernel))
theorem wl_7_11 : Cond.instanceMethod yX0_init ∈ lw_tbl := List.mem_append_right _ (List.mem_of_getElem? (i := 275) (by decide +kernel))
set_option maxRecDepth 100000 in
theorem wl_7_12 : Cond.code yX0_init cX0_init 2 none ∈ lw_tbl := List.mem_append_right _ (List.mem_of_getElem? (i := 276) rfl)
theorem wl_7_13 : Cond.methodLink RX0 3 objectInit ∈ lw_tbl := List.mem_append_right _ (List.mem_of_getElem? (i := 277) (by decide +kernel))
theorem wl_7_14 : Cond.classLink RX0 9 RX3 ∈ lw_tbl := List.mem_append_right _ (List.mem_of_getElem? (i := 278) (by decide +kernel))
theorem wl_7_15 : Cond.fieldLink RX0 11 "PeatRailway$History" "states" "[LPeatRailway$State;" ∈ lw_tbl := List.mem_append_right _ (List.mem_of_getElem? (i := 281) (by decide +kernel))
theorem wl_7_16 : Cond.methodLink RX0 17 yX3_init ∈ lw_tbl := List.mem_append_right _ (List.mem_of_getElem? (i := 280) (by decide +kernel))
theorem wl_7_17 : Cond.methodLink RL 131 yX5_undo ∈ lw_tbl := List.mem_append_right _ (List.mem_of_getElem? (i := 307) (by decide +kernel))
theorem wl_7_18 : Cond.instanceMethod yX5_undo ∈ lw_tbl := List.mem_append_right _ (List.mem_of_getElem? (i := 308) (by decide +kernel))
theorem wl_7_19 : Cond.selects RX5 yX5_undo yX5_undo ∈ lw_tbl := List.mem_append_right _ (List.mem_of_getElem? (i := 309) (by decide +kernel))
set_option maxRecDepth 100000 in
theorem wl_7_20 : Cond.code yX5_undo cX5_undo 1 (some .int) ∈ lw_tbl := List.mem_append_right _ (List.mem_of_getElem? (i := 310) rfl)
theorem wl_7_21 : Cond.methodLink RX5 131 yX0_size ∈ lw_tbl := List.mem_append_right _ (List.mem_of_getElem? (i := 311) (by decide +kernel))
theorem wl_7_22 : Cond.instanceMethod yX0_size ∈ lw_tbl := List.mem_append_right _ (List.mem_of_getElem? (i := 312) (by decide +kernel))
theorem wl_7_23 : Cond.selects RX0 yX0_size yX0_size ∈ lw_tbl := List.mem_append_right _ (List.mem_of_getElem? (i := 313) (by decide +kernel))
theorem wlr_7 : ∀ w ∈ wsL_law_r7, w ∈ lw_tbl := List.forall_mem_cons.mpr ⟨wl_7_0, List.forall_mem_cons.mpr ⟨wl_7_1, List.forall_mem_cons.mpr ⟨wl_7_2, List.forall_mem_cons.mpr ⟨wl_7_3, List.forall_mem_cons.mpr ⟨wl_7_4, List.forall_mem_cons.mpr ⟨wl_7_5, List.forall_mem_cons.mpr ⟨wl_7_6, List.forall_mem_cons.mpr ⟨wl_7_7, List.forall_mem_cons.mpr ⟨wl_7_8, List.forall_mem_cons.mpr ⟨wl_7_9, List.forall_mem_cons.mpr ⟨wl_7_10, List.forall_mem_cons.mpr ⟨wl_7_11, List.forall_mem_cons.mpr ⟨wl_7_12, List.forall_mem_cons.mpr ⟨wl_7_13, List.forall_mem_cons.mpr ⟨wl_7_14, List.forall_mem_cons.mpr ⟨wl_7_15, List.forall_mem_cons.mpr ⟨wl_7_16, List.forall_mem_cons.mpr ⟨wl_7_17, List.forall_mem_cons.mpr ⟨wl_7_18, List.forall_mem_cons.mpr ⟨wl_7_19, List.forall_mem_cons.mpr ⟨wl_7_20, List.forall_mem_cons.mpr ⟨wl_7_21, List.forall_mem_cons.mpr ⟨wl_7_22, List.forall_mem_cons.mpr ⟨wl_7_23, fun _ h => absurd h List.not_mem_nil⟩⟩⟩⟩⟩⟩⟩⟩⟩⟩⟩⟩⟩⟩⟩⟩⟩⟩⟩⟩⟩⟩⟩⟩
set_option maxRecDepth 100000 in
theorem wl_8_0 : Cond.code yX0_size cX0_size 1 (some .int) ∈ lw_tbl := List.mem_append_right _ (List.mem_of_getElem? (i := 314) rfl)
theorem wl_8_1 : Cond.fieldLink RX0 18 "PeatRailway$History" "size" "I" ∈ lw_tbl := List.mem_append_right _ (List.mem_of_getElem? (i := 282) (by decide +kernel))
theorem wl_8_2 : Cond.methodLink RX5 134 yX0_restore ∈ lw_tbl := List.mem_append_right _ (List.mem_of_getElem? (i := 315) (by decide +kernel))
theorem wl_8_3 : Cond.instanceMethod yX0_restore ∈ lw_tbl := List.mem_append_right _ (List.mem_of_getElem? (i := 316) (by decide +kernel))
theorem wl_8_4 : Cond.selects RX0 yX0_restore yX0_restore ∈ lw_tbl := List.mem_append_right _ (List.mem_of_getElem? (i := 317) (by decide +kernel))
set_option maxRecDepth 100000 in
theorem wl_8_5 : Cond.code yX0_restore cX0_restore 2 none ∈ lw_tbl := List.mem_append_right _ (List.mem_of_getElem? (i := 318) rfl)
theorem wl_8_6 : Cond.methodLink RX0 25 yX3_copyFrom ∈ lw_tbl := List.mem_append_right _ (List.mem_of_getElem? (i := 319) (by decide +kernel))
theorem wl_8_7 : Cond.instanceMethod yX3_copyFrom ∈ lw_tbl := List.mem_append_right _ (List.mem_of_getElem? (i := 320) (by decide +kernel))
theorem wl_8_8 : Cond.selects RX3 yX3_copyFrom yX3_copyFrom ∈ lw_tbl := List.mem_append_right _ (List.mem_of_getElem? (i := 321) (by decide +kernel))
set_option maxRecDepth 100000 in
theorem wl_8_9 : Cond.code yX3_copyFrom cX3_copyFrom 3 none ∈ lw_tbl := List.mem_append_right _ (List.mem_of_getElem? (i := 322) rfl)
theorem wl_8_10 : Cond.fieldLink RX3 40 "PeatRailway$State" "trainCount" "I" ∈ lw_tbl := List.mem_append_right _ (List.mem_of_getElem? (i := 191) (by decide +kernel))
theorem wl_8_11 : Cond.fieldLink RX3 46 "PeatRailway$State" "stock" "I" ∈ lw_tbl := List.mem_append_right _ (List.mem_of_getElem? (i := 193) (by decide +kernel))
theorem wl_8_12 : Cond.fieldLink RX3 49 "PeatRailway$State" "dug" "I" ∈ lw_tbl := List.mem_append_right _ (List.mem_of_getElem? (i := 195) (by decide +kernel))
theorem wl_8_13 : Cond.fieldLink RX3 52 "PeatRailway$State" "delivered" "I" ∈ lw_tbl := List.mem_append_right _ (List.mem_of_getElem? (i := 197) (by decide +kernel))
theorem wl_8_14 : Cond.fieldLink RX3 55 "PeatRailway$State" "lost" "I" ∈ lw_tbl := List.mem_append_right _ (List.mem_of_getElem? (i := 199) (by decide +kernel))
theorem wl_8_15 : Cond.fieldLink RX3 58 "PeatRailway$State" "clock" "I" ∈ lw_tbl := List.mem_append_right _ (List.mem_of_getElem? (i := 201) (by decide +kernel))
theorem wl_8_16 : Cond.methodLink RX3 36 yX2_copyFrom ∈ lw_tbl := List.mem_append_right _ (List.mem_of_getElem? (i := 323) (by decide +kernel))
theorem wl_8_17 : Cond.instanceMethod yX2_copyFrom ∈ lw_tbl := List.mem_append_right _ (List.mem_of_getElem? (i := 324) (by decide +kernel))
theorem wl_8_18 : Cond.selects RX2 yX2_copyFrom yX2_copyFrom ∈ lw_tbl := List.mem_append_right _ (List.mem_of_getElem? (i := 325) (by decide +kernel))
set_option maxRecDepth 100000 in
theorem wl_8_19 : Cond.code yX2_copyFrom cX2_copyFrom 2 none ∈ lw_tbl := List.mem_append_right _ (List.mem_of_getElem? (i := 326) rfl)
theorem wl_8_20 : Cond.fieldLink RX2 21 "PeatRailway$Segment" "passingAbove" "I" ∈ lw_tbl := List.mem_append_right _ (List.mem_of_getElem? (i := 108) (by decide +kernel))
theorem wl_8_21 : Cond.fieldLink RX2 24 "PeatRailway$Segment" "passingBelow" "I" ∈ lw_tbl := List.mem_append_right _ (List.mem_of_getElem? (i := 110) (by decide +kernel))
theorem wl_8_22 : Cond.methodLink RX3 43 yX4_copyFrom ∈ lw_tbl := List.mem_append_right _ (List.mem_of_getElem? (i := 327) (by decide +kernel))
theorem wl_8_23 : Cond.instanceMethod yX4_copyFrom ∈ lw_tbl := List.mem_append_right _ (List.mem_of_getElem? (i := 328) (by decide +kernel))
theorem wlr_8 : ∀ w ∈ wsL_law_r8, w ∈ lw_tbl := List.forall_mem_cons.mpr ⟨wl_8_0, List.forall_mem_cons.mpr ⟨wl_8_1, List.forall_mem_cons.mpr ⟨wl_8_2, List.forall_mem_cons.mpr ⟨wl_8_3, List.forall_mem_cons.mpr ⟨wl_8_4, List.forall_mem_cons.mpr ⟨wl_8_5, List.forall_mem_cons.mpr ⟨wl_8_6, List.forall_mem_cons.mpr ⟨wl_8_7, List.forall_mem_cons.mpr ⟨wl_8_8, List.forall_mem_cons.mpr ⟨wl_8_9, List.forall_mem_cons.mpr ⟨wl_8_10, List.forall_mem_cons.mpr ⟨wl_8_11, List.forall_mem_cons.mpr ⟨wl_8_12, List.forall_mem_cons.mpr ⟨wl_8_13, List.forall_mem_cons.mpr ⟨wl_8_14, List.forall_mem_cons.mpr ⟨wl_8_15, List.forall_mem_cons.mpr ⟨wl_8_16, List.forall_mem_cons.mpr ⟨wl_8_17, List.forall_mem_cons.mpr ⟨wl_8_18, List.forall_mem_cons.mpr ⟨wl_8_19, List.forall_mem_cons.mpr ⟨wl_8_20, List.forall_mem_cons.mpr ⟨wl_8_21, List.forall_mem_cons.mpr ⟨wl_8_22, List.forall_mem_cons.mpr ⟨wl_8_23, fun _ h => absurd h List.not_mem_nil⟩⟩⟩⟩⟩⟩⟩⟩⟩⟩⟩⟩⟩⟩⟩⟩⟩⟩⟩⟩⟩⟩⟩⟩
theorem wl_9_0 : Cond.selects RX4 yX4_copyFrom yX4_copyFrom ∈ lw_tbl := List.mem_append_right _ (List.mem_of_getElem? (i := 329) (by decide +kernel))
set_option maxRecDepth 100000 in
theorem wl_9_1 : Cond.code yX4_copyFrom cX4_copyFrom 2 none ∈ lw_tbl := List.mem_append_right _ (List.mem_of_getElem? (i := 330) rfl)
theorem wl_9_2 : Cond.fieldLink RX4 9 "PeatRailway$Train" "wagons" "I" ∈ lw_tbl := List.mem_append_right _ (List.mem_of_getElem? (i := 135) (by decide +kernel))
theorem wl_9_3 : Cond.fieldLink RX4 15 "PeatRailway$Train" "load" "I" ∈ lw_tbl := List.mem_append_right _ (List.mem_of_getElem? (i := 138) (by decide +kernel))
theorem wl_9_4 : Cond.fieldLink RX4 18 "PeatRailway$Train" "peat" "I" ∈ lw_tbl := List.mem_append_right _ (List.mem_of_getElem? (i := 140) (by decide +kernel))
theorem wl_9_5 : Cond.fieldLink RX4 21 "PeatRailway$Train" "place" "I" ∈ lw_tbl := List.mem_append_right _ (List.mem_of_getElem? (i := 143) (by decide +kernel))
theorem wl_9_6 : Cond.fieldLink RX4 24 "PeatRailway$Train" "up" "Z" ∈ lw_tbl := List.mem_append_right _ (List.mem_of_getElem? (i := 146) (by decide +kernel))
theorem wl_9_7 : Cond.fieldLink RX4 28 "PeatRailway$Train" "rest" "I" ∈ lw_tbl := List.mem_append_right _ (List.mem_of_getElem? (i := 149) (by decide +kernel))
theorem wl_9_8 : Cond.fieldLink RX4 31 "PeatRailway$Train" "reason" "I" ∈ lw_tbl := List.mem_append_right _ (List.mem_of_getElem? (i := 152) (by decide +kernel))
theorem wl_9_9 : Cond.fieldLink RX4 34 "PeatRailway$Train" "waits" "I" ∈ lw_tbl := List.mem_append_right _ (List.mem_of_getElem? (i := 155) (by decide +kernel))
theorem wl_9_10 : Cond.fieldLink RX4 37 "PeatRailway$Train" "unloads" "I" ∈ lw_tbl := List.mem_append_right _ (List.mem_of_getElem? (i := 158) (by decide +kernel))
theorem wl_9_11 : Cond.methodLink RL 134 yX5_back ∈ lw_tbl := List.mem_append_right _ (List.mem_of_getElem? (i := 331) (by decide +kernel))
theorem wl_9_12 : Cond.instanceMethod yX5_back ∈ lw_tbl := List.mem_append_right _ (List.mem_of_getElem? (i := 332) (by decide +kernel))
theorem wl_9_13 : Cond.selects RX5 yX5_back yX5_back ∈ lw_tbl := List.mem_append_right _ (List.mem_of_getElem? (i := 333) (by decide +kernel))
set_option maxRecDepth 100000 in
theorem wl_9_14 : Cond.code yX5_back cX5_back 2 (some .int) ∈ lw_tbl := List.mem_append_right _ (List.mem_of_getElem? (i := 334) rfl)
theorem wl_9_15 : Cond.fieldLink RX5 143 "PeatRailway" "keptImages" "I" ∈ lw_tbl := List.mem_append_right _ (List.mem_of_getElem? (i := 293) (by decide +kernel))
theorem wl_9_16 : Cond.fieldLink RX5 146 "PeatRailway$State" "clock" "I" ∈ lw_tbl := List.mem_append_right _ (List.mem_of_getElem? (i := 202) (by decide +kernel))
theorem wl_9_17 : Cond.methodLink RX5 137 yX5_isImage ∈ lw_tbl := List.mem_append_right _ (List.mem_of_getElem? (i := 335) (by decide +kernel))
theorem wl_9_18 : Cond.static yX5_isImage ∈ lw_tbl := List.mem_append_right _ (List.mem_of_getElem? (i := 336) (by decide +kernel))
set_option maxRecDepth 100000 in
theorem wl_9_19 : Cond.code yX5_isImage cX5_isImage 1 (some .boolean) ∈ lw_tbl := List.mem_append_right _ (List.mem_of_getElem? (i := 337) rfl)
theorem wl_9_20 : Cond.methodLink RX5 68 yX0_remember ∈ lw_tbl := List.mem_append_right _ (List.mem_of_getElem? (i := 338) (by decide +kernel))
theorem wl_9_21 : Cond.instanceMethod yX0_remember ∈ lw_tbl := List.mem_append_right _ (List.mem_of_getElem? (i := 339) (by decide +kernel))
theorem wl_9_22 : Cond.selects RX0 yX0_remember yX0_remember ∈ lw_tbl := List.mem_append_right _ (List.mem_of_getElem? (i := 340) (by decide +kernel))
set_option maxRecDepth 100000 in
theorem wl_9_23 : Cond.code yX0_remember cX0_remember 2 none ∈ lw_tbl := List.mem_append_right _ (List.mem_of_getElem? (i := 341) rfl)
theorem wlr_9 : ∀ w ∈ wsL_law_r9, w ∈ lw_tbl := List.forall_mem_cons.mpr ⟨wl_9_0, List.forall_mem_cons.mpr ⟨wl_9_1, List.forall_mem_cons.mpr ⟨wl_9_2, List.forall_mem_cons.mpr ⟨wl_9_3, List.forall_mem_cons.mpr ⟨wl_9_4, List.forall_mem_cons.mpr ⟨wl_9_5, List.forall_mem_cons.mpr ⟨wl_9_6, List.forall_mem_cons.mpr ⟨wl_9_7, List.forall_mem_cons.mpr ⟨wl_9_8, List.forall_mem_cons.mpr ⟨wl_9_9, List.forall_mem_cons.mpr ⟨wl_9_10, List.forall_mem_cons.mpr ⟨wl_9_11, List.forall_mem_cons.mpr ⟨wl_9_12, List.forall_mem_cons.mpr ⟨wl_9_13, List.forall_mem_cons.mpr ⟨wl_9_14, List.forall_mem_cons.mpr ⟨wl_9_15, List.forall_mem_cons.mpr ⟨wl_9_16, List.forall_mem_cons.mpr ⟨wl_9_17, List.forall_mem_cons.mpr ⟨wl_9_18, List.forall_mem_cons.mpr ⟨wl_9_19, List.forall_mem_cons.mpr ⟨wl_9_20, List.forall_mem_cons.mpr ⟨wl_9_21, List.forall_mem_cons.mpr ⟨wl_9_22, List.forall_mem_cons.mpr ⟨wl_9_23, fun _ h => absurd h List.not_mem_nil⟩⟩⟩⟩⟩⟩⟩⟩⟩⟩⟩⟩⟩⟩⟩⟩⟩⟩⟩⟩⟩⟩⟩⟩
theorem wl_10_0 : Cond.methodLink RX0 22 yX0_dropOldest ∈ lw_tbl := List.mem_append_right _ (List.mem_of_getElem? (i := 342) (by decide +kernel))
theorem wl_10_1 : Cond.instanceMethod yX0_dropOldest ∈ lw_tbl := List.mem_append_right _ (List.mem_of_getElem? (i := 344) (by decide +kernel))
theorem wl_10_2 : Cond.selects RX0 yX0_dropOldest yX0_dropOldest ∈ lw_tbl := List.mem_append_left _ (List.mem_of_getElem? (i := 0) (by decide +kernel))
set_option maxRecDepth 100000 in
theorem wl_10_3 : Cond.code yX0_dropOldest cX0_dropOldest 3 none ∈ lw_tbl := List.mem_append_right _ (List.mem_of_getElem? (i := 345) rfl)
theorem wl_10_4 : Cond.methodLink RX5 140 yX3_copyFrom ∈ lw_tbl := List.mem_append_right _ (List.mem_of_getElem? (i := 346) (by decide +kernel))
theorem wl_10_5 : Cond.methodLink RL 137 yL_told ∈ lw_tbl := List.mem_append_right _ (List.mem_of_getElem? (i := 377) (by decide +kernel))
theorem wl_10_6 : Cond.static yL_told ∈ lw_tbl := List.mem_append_right _ (List.mem_of_getElem? (i := 378) (by decide +kernel))
theorem wl_10_7 : Cond.initialized RL ∈ lw_tbl := List.mem_append_right _ (List.mem_of_getElem? (i := 0) (by decide +kernel))
set_option maxRecDepth 100000 in
theorem wl_10_8 : Cond.code yL_told cL_told 9 (some .boolean) ∈ lw_tbl := List.mem_append_right _ (List.mem_of_getElem? (i := 379) rfl)
theorem wl_10_9 : Cond.methodLink RL 36 yX5_segment ∈ lw_tbl := List.mem_append_right _ (List.mem_of_getElem? (i := 380) (by decide +kernel))
theorem wl_10_10 : Cond.instanceMethod yX5_segment ∈ lw_tbl := List.mem_append_right _ (List.mem_of_getElem? (i := 381) (by decide +kernel))
theorem wl_10_11 : Cond.selects RX5 yX5_segment yX5_segment ∈ lw_tbl := List.mem_append_right _ (List.mem_of_getElem? (i := 382) (by decide +kernel))
set_option maxRecDepth 100000 in
theorem wl_10_12 : Cond.code yX5_segment cX5_segment 4 (some .int) ∈ lw_tbl := List.mem_append_right _ (List.mem_of_getElem? (i := 383) rfl)
theorem wl_10_13 : Cond.fieldLink RX5 153 "PeatRailway$Segment" "softness" "I" ∈ lw_tbl := List.mem_append_right _ (List.mem_of_getElem? (i := 101) (by decide +kernel))
theorem wl_10_14 : Cond.fieldLink RX5 161 "PeatRailway$Segment" "sinking" "I" ∈ lw_tbl := List.mem_append_right _ (List.mem_of_getElem? (i := 106) (by decide +kernel))
theorem wl_10_15 : Cond.fieldLink RX5 170 "PeatRailway$Segment" "room" "I" ∈ lw_tbl := List.mem_append_right _ (List.mem_of_getElem? (i := 104) (by decide +kernel))
theorem wl_10_16 : Cond.fieldLink RX5 89 "PeatRailway$State" "settings" "[I" ∈ lw_tbl := List.mem_append_right _ (List.mem_of_getElem? (i := 188) (by decide +kernel))
theorem wl_10_17 : Cond.methodLink RX5 149 yX3_segmentAt ∈ lw_tbl := List.mem_append_right _ (List.mem_of_getElem? (i := 384) (by decide +kernel))
theorem wl_10_18 : Cond.methodLink RX5 158 yX2_isPassingPlace ∈ lw_tbl := List.mem_append_right _ (List.mem_of_getElem? (i := 385) (by decide +kernel))
theorem wl_10_19 : Cond.methodLink RX5 164 yX3_trainsIn ∈ lw_tbl := List.mem_append_right _ (List.mem_of_getElem? (i := 386) (by decide +kernel))
theorem wl_10_20 : Cond.instanceMethod yX3_trainsIn ∈ lw_tbl := List.mem_append_right _ (List.mem_of_getElem? (i := 387) (by decide +kernel))
theorem wl_10_21 : Cond.selects RX3 yX3_trainsIn yX3_trainsIn ∈ lw_tbl := List.mem_append_right _ (List.mem_of_getElem? (i := 388) (by decide +kernel))
set_option maxRecDepth 100000 in
theorem wl_10_22 : Cond.code yX3_trainsIn cX3_trainsIn 5 (some .int) ∈ lw_tbl := List.mem_append_right _ (List.mem_of_getElem? (i := 389) rfl)
theorem wl_10_23 : Cond.fieldLink RX3 148 "PeatRailway$Train" "place" "I" ∈ lw_tbl := List.mem_append_right _ (List.mem_of_getElem? (i := 144) (by decide +kernel))
theorem wlr_10 : ∀ w ∈ wsL_law_r10, w ∈ lw_tbl := List.forall_mem_cons.mpr ⟨wl_10_0, List.forall_mem_cons.mpr ⟨wl_10_1, List.forall_mem_cons.mpr ⟨wl_10_2, List.forall_mem_cons.mpr ⟨wl_10_3, List.forall_mem_cons.mpr ⟨wl_10_4, List.forall_mem_cons.mpr ⟨wl_10_5, List.forall_mem_cons.mpr ⟨wl_10_6, List.forall_mem_cons.mpr ⟨wl_10_7, List.forall_mem_cons.mpr ⟨wl_10_8, List.forall_mem_cons.mpr ⟨wl_10_9, List.forall_mem_cons.mpr ⟨wl_10_10, List.forall_mem_cons.mpr ⟨wl_10_11, List.forall_mem_cons.mpr ⟨wl_10_12, List.forall_mem_cons.mpr ⟨wl_10_13, List.forall_mem_cons.mpr ⟨wl_10_14, List.forall_mem_cons.mpr ⟨wl_10_15, List.forall_mem_cons.mpr ⟨wl_10_16, List.forall_mem_cons.mpr ⟨wl_10_17, List.forall_mem_cons.mpr ⟨wl_10_18, List.forall_mem_cons.mpr ⟨wl_10_19, List.forall_mem_cons.mpr ⟨wl_10_20, List.forall_mem_cons.mpr ⟨wl_10_21, List.forall_mem_cons.mpr ⟨wl_10_22, List.forall_mem_cons.mpr ⟨wl_10_23, fun _ h => absurd h List.not_mem_nil⟩⟩⟩⟩⟩⟩⟩⟩⟩⟩⟩⟩⟩⟩⟩⟩⟩⟩⟩⟩⟩⟩⟩⟩
theorem wl_11_0 : Cond.methodLink RX3 82 yX3_trainAt ∈ lw_tbl := List.mem_append_right _ (List.mem_of_getElem? (i := 362) (by decide +kernel))
theorem wl_11_1 : Cond.instanceMethod yX3_trainAt ∈ lw_tbl := List.mem_append_right _ (List.mem_of_getElem? (i := 363) (by decide +kernel))
theorem wl_11_2 : Cond.selects RX3 yX3_trainAt yX3_trainAt ∈ lw_tbl := List.mem_append_right _ (List.mem_of_getElem? (i := 364) (by decide +kernel))
set_option maxRecDepth 100000 in
theorem wl_11_3 : Cond.code yX3_trainAt cX3_trainAt 2 (some (.object "PeatRailway$Train")) ∈ lw_tbl := List.mem_append_right _ (List.mem_of_getElem? (i := 365) rfl)
theorem wl_11_4 : Cond.methodLink RX5 167 yX3_weightIn ∈ lw_tbl := List.mem_append_right _ (List.mem_of_getElem? (i := 390) (by decide +kernel))
theorem wl_11_5 : Cond.instanceMethod yX3_weightIn ∈ lw_tbl := List.mem_append_right _ (List.mem_of_getElem? (i := 391) (by decide +kernel))
theorem wl_11_6 : Cond.selects RX3 yX3_weightIn yX3_weightIn ∈ lw_tbl := List.mem_append_right _ (List.mem_of_getElem? (i := 392) (by decide +kernel))
set_option maxRecDepth 100000 in
theorem wl_11_7 : Cond.code yX3_weightIn cX3_weightIn 5 (some .int) ∈ lw_tbl := List.mem_append_right _ (List.mem_of_getElem? (i := 393) rfl)
theorem wl_11_8 : Cond.methodLink RX3 181 yX4_weight ∈ lw_tbl := List.mem_append_right _ (List.mem_of_getElem? (i := 394) (by decide +kernel))
theorem wl_11_9 : Cond.instanceMethod yX4_weight ∈ lw_tbl := List.mem_append_right _ (List.mem_of_getElem? (i := 395) (by decide +kernel))
theorem wl_11_10 : Cond.selects RX4 yX4_weight yX4_weight ∈ lw_tbl := List.mem_append_right _ (List.mem_of_getElem? (i := 396) (by decide +kernel))
set_option maxRecDepth 100000 in
theorem wl_11_11 : Cond.code yX4_weight cX4_weight 1 (some .int) ∈ lw_tbl := List.mem_append_right _ (List.mem_of_getElem? (i := 397) rfl)
theorem wl_11_12 : Cond.methodLink RX5 173 yX2_ticksToRise ∈ lw_tbl := List.mem_append_right _ (List.mem_of_getElem? (i := 398) (by decide +kernel))
theorem wl_11_13 : Cond.instanceMethod yX2_ticksToRise ∈ lw_tbl := List.mem_append_right _ (List.mem_of_getElem? (i := 399) (by decide +kernel))
theorem wl_11_14 : Cond.selects RX2 yX2_ticksToRise yX2_ticksToRise ∈ lw_tbl := List.mem_append_right _ (List.mem_of_getElem? (i := 400) (by decide +kernel))
set_option maxRecDepth 100000 in
theorem wl_11_15 : Cond.code yX2_ticksToRise cX2_ticksToRise 3 (some .int) ∈ lw_tbl := List.mem_append_right _ (List.mem_of_getElem? (i := 401) rfl)
theorem wl_11_16 : Cond.methodLink RL 8 yL_passing ∈ lw_tbl := List.mem_append_right _ (List.mem_of_getElem? (i := 402) (by decide +kernel))
theorem wl_11_17 : Cond.static yL_passing ∈ lw_tbl := List.mem_append_right _ (List.mem_of_getElem? (i := 403) (by decide +kernel))
set_option maxRecDepth 100000 in
theorem wl_11_18 : Cond.code yL_passing cL_passing 3 (some .boolean) ∈ lw_tbl := List.mem_append_right _ (List.mem_of_getElem? (i := 404) rfl)
theorem wl_11_19 : Cond.methodLink RL 22 yL_many ∈ lw_tbl := List.mem_append_right _ (List.mem_of_getElem? (i := 405) (by decide +kernel))
theorem wl_11_20 : Cond.static yL_many ∈ lw_tbl := List.mem_append_right _ (List.mem_of_getElem? (i := 406) (by decide +kernel))
set_option maxRecDepth 100000 in
theorem wl_11_21 : Cond.code yL_many cL_many 3 (some .int) ∈ lw_tbl := List.mem_append_right _ (List.mem_of_getElem? (i := 407) rfl)
theorem wl_11_22 : Cond.methodLink RL 18 yL_there ∈ lw_tbl := List.mem_append_right _ (List.mem_of_getElem? (i := 408) (by decide +kernel))
theorem wl_11_23 : Cond.static yL_there ∈ lw_tbl := List.mem_append_right _ (List.mem_of_getElem? (i := 409) (by decide +kernel))
theorem wlr_11 : ∀ w ∈ wsL_law_r11, w ∈ lw_tbl := List.forall_mem_cons.mpr ⟨wl_11_0, List.forall_mem_cons.mpr ⟨wl_11_1, List.forall_mem_cons.mpr ⟨wl_11_2, List.forall_mem_cons.mpr ⟨wl_11_3, List.forall_mem_cons.mpr ⟨wl_11_4, List.forall_mem_cons.mpr ⟨wl_11_5, List.forall_mem_cons.mpr ⟨wl_11_6, List.forall_mem_cons.mpr ⟨wl_11_7, List.forall_mem_cons.mpr ⟨wl_11_8, List.forall_mem_cons.mpr ⟨wl_11_9, List.forall_mem_cons.mpr ⟨wl_11_10, List.forall_mem_cons.mpr ⟨wl_11_11, List.forall_mem_cons.mpr ⟨wl_11_12, List.forall_mem_cons.mpr ⟨wl_11_13, List.forall_mem_cons.mpr ⟨wl_11_14, List.forall_mem_cons.mpr ⟨wl_11_15, List.forall_mem_cons.mpr ⟨wl_11_16, List.forall_mem_cons.mpr ⟨wl_11_17, List.forall_mem_cons.mpr ⟨wl_11_18, List.forall_mem_cons.mpr ⟨wl_11_19, List.forall_mem_cons.mpr ⟨wl_11_20, List.forall_mem_cons.mpr ⟨wl_11_21, List.forall_mem_cons.mpr ⟨wl_11_22, List.forall_mem_cons.mpr ⟨wl_11_23, fun _ h => absurd h List.not_mem_nil⟩⟩⟩⟩⟩⟩⟩⟩⟩⟩⟩⟩⟩⟩⟩⟩⟩⟩⟩⟩⟩⟩⟩⟩
set_option maxRecDepth 100000 in
theorem wl_12_0 : Cond.code yL_there cL_there 5 (some .int) ∈ lw_tbl := List.mem_append_right _ (List.mem_of_getElem? (i := 410) rfl)
theorem wl_12_1 : Cond.methodLink RL 14 yL_weight ∈ lw_tbl := List.mem_append_right _ (List.mem_of_getElem? (i := 411) (by decide +kernel))
theorem wl_12_2 : Cond.static yL_weight ∈ lw_tbl := List.mem_append_right _ (List.mem_of_getElem? (i := 412) (by decide +kernel))
set_option maxRecDepth 100000 in
theorem wl_12_3 : Cond.code yL_weight cL_weight 2 (some .int) ∈ lw_tbl := List.mem_append_right _ (List.mem_of_getElem? (i := 413) rfl)
theorem wl_12_4 : Cond.methodLink RL 25 yL_room ∈ lw_tbl := List.mem_append_right _ (List.mem_of_getElem? (i := 414) (by decide +kernel))
theorem wl_12_5 : Cond.static yL_room ∈ lw_tbl := List.mem_append_right _ (List.mem_of_getElem? (i := 415) (by decide +kernel))
set_option maxRecDepth 100000 in
theorem wl_12_6 : Cond.code yL_room cL_room 3 (some .int) ∈ lw_tbl := List.mem_append_right _ (List.mem_of_getElem? (i := 416) rfl)
theorem wl_12_7 : Cond.methodLink RL 42 yX5_train ∈ lw_tbl := List.mem_append_right _ (List.mem_of_getElem? (i := 417) (by decide +kernel))
theorem wl_12_8 : Cond.instanceMethod yX5_train ∈ lw_tbl := List.mem_append_right _ (List.mem_of_getElem? (i := 418) (by decide +kernel))
theorem wl_12_9 : Cond.selects RX5 yX5_train yX5_train ∈ lw_tbl := List.mem_append_right _ (List.mem_of_getElem? (i := 419) (by decide +kernel))
set_option maxRecDepth 100000 in
theorem wl_12_10 : Cond.code yX5_train cX5_train 4 (some .int) ∈ lw_tbl := List.mem_append_right _ (List.mem_of_getElem? (i := 420) rfl)
theorem wl_12_11 : Cond.fieldLink RX5 176 "PeatRailway$Train" "wagons" "I" ∈ lw_tbl := List.mem_append_right _ (List.mem_of_getElem? (i := 136) (by decide +kernel))
theorem wl_12_12 : Cond.fieldLink RX5 121 "PeatRailway$Train" "load" "I" ∈ lw_tbl := List.mem_append_right _ (List.mem_of_getElem? (i := 139) (by decide +kernel))
theorem wl_12_13 : Cond.fieldLink RX5 112 "PeatRailway$Train" "peat" "I" ∈ lw_tbl := List.mem_append_right _ (List.mem_of_getElem? (i := 141) (by decide +kernel))
theorem wl_12_14 : Cond.fieldLink RX5 179 "PeatRailway$Train" "place" "I" ∈ lw_tbl := List.mem_append_right _ (List.mem_of_getElem? (i := 145) (by decide +kernel))
theorem wl_12_15 : Cond.fieldLink RX5 182 "PeatRailway$Train" "up" "Z" ∈ lw_tbl := List.mem_append_right _ (List.mem_of_getElem? (i := 148) (by decide +kernel))
theorem wl_12_16 : Cond.fieldLink RX5 186 "PeatRailway$Train" "rest" "I" ∈ lw_tbl := List.mem_append_right _ (List.mem_of_getElem? (i := 151) (by decide +kernel))
theorem wl_12_17 : Cond.fieldLink RX5 189 "PeatRailway$Train" "reason" "I" ∈ lw_tbl := List.mem_append_right _ (List.mem_of_getElem? (i := 154) (by decide +kernel))
theorem wl_12_18 : Cond.fieldLink RX5 192 "PeatRailway$Train" "waits" "I" ∈ lw_tbl := List.mem_append_right _ (List.mem_of_getElem? (i := 157) (by decide +kernel))
theorem wl_12_19 : Cond.fieldLink RX5 195 "PeatRailway$Train" "unloads" "I" ∈ lw_tbl := List.mem_append_right _ (List.mem_of_getElem? (i := 159) (by decide +kernel))
theorem wl_12_20 : Cond.methodLink RX5 108 yX3_trainAt ∈ lw_tbl := List.mem_append_right _ (List.mem_of_getElem? (i := 421) (by decide +kernel))
theorem wl_12_21 : Cond.methodLink RX5 198 yX4_weight ∈ lw_tbl := List.mem_append_right _ (List.mem_of_getElem? (i := 422) (by decide +kernel))
theorem wl_12_22 : Cond.methodLink RL 45 yX5_why ∈ lw_tbl := List.mem_append_right _ (List.mem_of_getElem? (i := 423) (by decide +kernel))
theorem wl_12_23 : Cond.instanceMethod yX5_why ∈ lw_tbl := List.mem_append_right _ (List.mem_of_getElem? (i := 424) (by decide +kernel))
theorem wlr_12 : ∀ w ∈ wsL_law_r12, w ∈ lw_tbl := List.forall_mem_cons.mpr ⟨wl_12_0, List.forall_mem_cons.mpr ⟨wl_12_1, List.forall_mem_cons.mpr ⟨wl_12_2, List.forall_mem_cons.mpr ⟨wl_12_3, List.forall_mem_cons.mpr ⟨wl_12_4, List.forall_mem_cons.mpr ⟨wl_12_5, List.forall_mem_cons.mpr ⟨wl_12_6, List.forall_mem_cons.mpr ⟨wl_12_7, List.forall_mem_cons.mpr ⟨wl_12_8, List.forall_mem_cons.mpr ⟨wl_12_9, List.forall_mem_cons.mpr ⟨wl_12_10, List.forall_mem_cons.mpr ⟨wl_12_11, List.forall_mem_cons.mpr ⟨wl_12_12, List.forall_mem_cons.mpr ⟨wl_12_13, List.forall_mem_cons.mpr ⟨wl_12_14, List.forall_mem_cons.mpr ⟨wl_12_15, List.forall_mem_cons.mpr ⟨wl_12_16, List.forall_mem_cons.mpr ⟨wl_12_17, List.forall_mem_cons.mpr ⟨wl_12_18, List.forall_mem_cons.mpr ⟨wl_12_19, List.forall_mem_cons.mpr ⟨wl_12_20, List.forall_mem_cons.mpr ⟨wl_12_21, List.forall_mem_cons.mpr ⟨wl_12_22, List.forall_mem_cons.mpr ⟨wl_12_23, fun _ h => absurd h List.not_mem_nil⟩⟩⟩⟩⟩⟩⟩⟩⟩⟩⟩⟩⟩⟩⟩⟩⟩⟩⟩⟩⟩⟩⟩⟩
theorem wl_13_0 : Cond.selects RX5 yX5_why yX5_why ∈ lw_tbl := List.mem_append_right _ (List.mem_of_getElem? (i := 425) (by decide +kernel))
set_option maxRecDepth 100000 in
theorem wl_13_1 : Cond.code yX5_why cX5_why 3 (some .int) ∈ lw_tbl := List.mem_append_right _ (List.mem_of_getElem? (i := 426) rfl)
theorem wl_13_2 : Cond.methodLink RX5 201 yX3_reasonToWait ∈ lw_tbl := List.mem_append_right _ (List.mem_of_getElem? (i := 427) (by decide +kernel))
theorem wl_13_3 : Cond.instanceMethod yX3_reasonToWait ∈ lw_tbl := List.mem_append_right _ (List.mem_of_getElem? (i := 428) (by decide +kernel))
theorem wl_13_4 : Cond.selects RX3 yX3_reasonToWait yX3_reasonToWait ∈ lw_tbl := List.mem_append_right _ (List.mem_of_getElem? (i := 429) (by decide +kernel))
set_option maxRecDepth 100000 in
theorem wl_13_5 : Cond.code yX3_reasonToWait cX3_reasonToWait 5 (some .int) ∈ lw_tbl := List.mem_append_right _ (List.mem_of_getElem? (i := 430) rfl)
theorem wl_13_6 : Cond.fieldLink RX3 163 "PeatRailway$Segment" "sinking" "I" ∈ lw_tbl := List.mem_append_right _ (List.mem_of_getElem? (i := 107) (by decide +kernel))
theorem wl_13_7 : Cond.fieldLink RX3 117 "PeatRailway$Train" "up" "Z" ∈ lw_tbl := List.mem_append_right _ (List.mem_of_getElem? (i := 147) (by decide +kernel))
theorem wl_13_8 : Cond.methodLink RX3 133 yX3_isToUnload ∈ lw_tbl := List.mem_append_right _ (List.mem_of_getElem? (i := 431) (by decide +kernel))
theorem wl_13_9 : Cond.instanceMethod yX3_isToUnload ∈ lw_tbl := List.mem_append_right _ (List.mem_of_getElem? (i := 433) (by decide +kernel))
theorem wl_13_10 : Cond.selects RX3 yX3_isToUnload yX3_isToUnload ∈ lw_tbl := List.mem_append_left _ (List.mem_of_getElem? (i := 1) (by decide +kernel))
set_option maxRecDepth 100000 in
theorem wl_13_11 : Cond.code yX3_isToUnload cX3_isToUnload 2 (some .boolean) ∈ lw_tbl := List.mem_append_right _ (List.mem_of_getElem? (i := 434) rfl)
theorem wl_13_12 : Cond.methodLink RX3 139 yX3_isToLoad ∈ lw_tbl := List.mem_append_right _ (List.mem_of_getElem? (i := 435) (by decide +kernel))
theorem wl_13_13 : Cond.instanceMethod yX3_isToLoad ∈ lw_tbl := List.mem_append_right _ (List.mem_of_getElem? (i := 437) (by decide +kernel))
theorem wl_13_14 : Cond.selects RX3 yX3_isToLoad yX3_isToLoad ∈ lw_tbl := List.mem_append_left _ (List.mem_of_getElem? (i := 2) (by decide +kernel))
set_option maxRecDepth 100000 in
theorem wl_13_15 : Cond.code yX3_isToLoad cX3_isToLoad 2 (some .boolean) ∈ lw_tbl := List.mem_append_right _ (List.mem_of_getElem? (i := 438) rfl)
theorem wl_13_16 : Cond.methodLink RX3 157 yX4_fullLoad ∈ lw_tbl := List.mem_append_right _ (List.mem_of_getElem? (i := 439) (by decide +kernel))
theorem wl_13_17 : Cond.instanceMethod yX4_fullLoad ∈ lw_tbl := List.mem_append_right _ (List.mem_of_getElem? (i := 440) (by decide +kernel))
theorem wl_13_18 : Cond.selects RX4 yX4_fullLoad yX4_fullLoad ∈ lw_tbl := List.mem_append_right _ (List.mem_of_getElem? (i := 441) (by decide +kernel))
set_option maxRecDepth 100000 in
theorem wl_13_19 : Cond.code yX4_fullLoad cX4_fullLoad 1 (some .int) ∈ lw_tbl := List.mem_append_right _ (List.mem_of_getElem? (i := 442) rfl)
theorem wl_13_20 : Cond.methodLink RX3 160 yX3_placeBeyond ∈ lw_tbl := List.mem_append_right _ (List.mem_of_getElem? (i := 443) (by decide +kernel))
theorem wl_13_21 : Cond.instanceMethod yX3_placeBeyond ∈ lw_tbl := List.mem_append_right _ (List.mem_of_getElem? (i := 445) (by decide +kernel))
theorem wl_13_22 : Cond.selects RX3 yX3_placeBeyond yX3_placeBeyond ∈ lw_tbl := List.mem_append_left _ (List.mem_of_getElem? (i := 3) (by decide +kernel))
set_option maxRecDepth 100000 in
theorem wl_13_23 : Cond.code yX3_placeBeyond cX3_placeBeyond 2 (some .int) ∈ lw_tbl := List.mem_append_right _ (List.mem_of_getElem? (i := 446) rfl)
theorem wlr_13 : ∀ w ∈ wsL_law_r13, w ∈ lw_tbl := List.forall_mem_cons.mpr ⟨wl_13_0, List.forall_mem_cons.mpr ⟨wl_13_1, List.forall_mem_cons.mpr ⟨wl_13_2, List.forall_mem_cons.mpr ⟨wl_13_3, List.forall_mem_cons.mpr ⟨wl_13_4, List.forall_mem_cons.mpr ⟨wl_13_5, List.forall_mem_cons.mpr ⟨wl_13_6, List.forall_mem_cons.mpr ⟨wl_13_7, List.forall_mem_cons.mpr ⟨wl_13_8, List.forall_mem_cons.mpr ⟨wl_13_9, List.forall_mem_cons.mpr ⟨wl_13_10, List.forall_mem_cons.mpr ⟨wl_13_11, List.forall_mem_cons.mpr ⟨wl_13_12, List.forall_mem_cons.mpr ⟨wl_13_13, List.forall_mem_cons.mpr ⟨wl_13_14, List.forall_mem_cons.mpr ⟨wl_13_15, List.forall_mem_cons.mpr ⟨wl_13_16, List.forall_mem_cons.mpr ⟨wl_13_17, List.forall_mem_cons.mpr ⟨wl_13_18, List.forall_mem_cons.mpr ⟨wl_13_19, List.forall_mem_cons.mpr ⟨wl_13_20, List.forall_mem_cons.mpr ⟨wl_13_21, List.forall_mem_cons.mpr ⟨wl_13_22, List.forall_mem_cons.mpr ⟨wl_13_23, fun _ h => absurd h List.not_mem_nil⟩⟩⟩⟩⟩⟩⟩⟩⟩⟩⟩⟩⟩⟩⟩⟩⟩⟩⟩⟩⟩⟩⟩⟩
theorem wl_14_0 : Cond.methodLink RX3 166 yX3_trainsIn ∈ lw_tbl := List.mem_append_right _ (List.mem_of_getElem? (i := 447) (by decide +kernel))
theorem wl_14_1 : Cond.methodLink RX3 170 yX3_reasonAhead ∈ lw_tbl := List.mem_append_right _ (List.mem_of_getElem? (i := 448) (by decide +kernel))
theorem wl_14_2 : Cond.instanceMethod yX3_reasonAhead ∈ lw_tbl := List.mem_append_right _ (List.mem_of_getElem? (i := 450) (by decide +kernel))
theorem wl_14_3 : Cond.selects RX3 yX3_reasonAhead yX3_reasonAhead ∈ lw_tbl := List.mem_append_left _ (List.mem_of_getElem? (i := 4) (by decide +kernel))
set_option maxRecDepth 100000 in
theorem wl_14_4 : Cond.code yX3_reasonAhead cX3_reasonAhead 6 (some .int) ∈ lw_tbl := List.mem_append_right _ (List.mem_of_getElem? (i := 451) rfl)
theorem wl_14_5 : Cond.methodLink RX3 174 yX3_isBetween ∈ lw_tbl := List.mem_append_right _ (List.mem_of_getElem? (i := 452) (by decide +kernel))
theorem wl_14_6 : Cond.static yX3_isBetween ∈ lw_tbl := List.mem_append_right _ (List.mem_of_getElem? (i := 453) (by decide +kernel))
set_option maxRecDepth 100000 in
theorem wl_14_7 : Cond.code yX3_isBetween cX3_isBetween 3 (some .boolean) ∈ lw_tbl := List.mem_append_right _ (List.mem_of_getElem? (i := 454) rfl)
theorem wl_14_8 : Cond.methodLink RL 28 yL_why ∈ lw_tbl := List.mem_append_right _ (List.mem_of_getElem? (i := 455) (by decide +kernel))
theorem wl_14_9 : Cond.static yL_why ∈ lw_tbl := List.mem_append_right _ (List.mem_of_getElem? (i := 456) (by decide +kernel))
set_option maxRecDepth 100000 in
theorem wl_14_10 : Cond.code yL_why cL_why 13 (some .int) ∈ lw_tbl := List.mem_append_right _ (List.mem_of_getElem? (i := 457) rfl)
theorem wl_14_11 : Cond.methodLink RL 48 yX5_setting ∈ lw_tbl := List.mem_append_right _ (List.mem_of_getElem? (i := 458) (by decide +kernel))
theorem wl_14_12 : Cond.instanceMethod yX5_setting ∈ lw_tbl := List.mem_append_right _ (List.mem_of_getElem? (i := 459) (by decide +kernel))
theorem wl_14_13 : Cond.selects RX5 yX5_setting yX5_setting ∈ lw_tbl := List.mem_append_right _ (List.mem_of_getElem? (i := 460) (by decide +kernel))
set_option maxRecDepth 100000 in
theorem wl_14_14 : Cond.code yX5_setting cX5_setting 2 (some .int) ∈ lw_tbl := List.mem_append_right _ (List.mem_of_getElem? (i := 461) rfl)
theorem wl_14_15 : Cond.methodLink RX5 78 yX5_isSetting ∈ lw_tbl := List.mem_append_right _ (List.mem_of_getElem? (i := 462) (by decide +kernel))
theorem wl_14_16 : Cond.static yX5_isSetting ∈ lw_tbl := List.mem_append_right _ (List.mem_of_getElem? (i := 463) (by decide +kernel))
set_option maxRecDepth 100000 in
theorem wl_14_17 : Cond.code yX5_isSetting cX5_isSetting 1 (some .boolean) ∈ lw_tbl := List.mem_append_right _ (List.mem_of_getElem? (i := 464) rfl)
theorem wl_14_18 : Cond.methodLink RL 51 yX5_account ∈ lw_tbl := List.mem_append_right _ (List.mem_of_getElem? (i := 465) (by decide +kernel))
theorem wl_14_19 : Cond.instanceMethod yX5_account ∈ lw_tbl := List.mem_append_right _ (List.mem_of_getElem? (i := 466) (by decide +kernel))
theorem wl_14_20 : Cond.selects RX5 yX5_account yX5_account ∈ lw_tbl := List.mem_append_right _ (List.mem_of_getElem? (i := 467) (by decide +kernel))
set_option maxRecDepth 100000 in
theorem wl_14_21 : Cond.code yX5_account cX5_account 2 (some .int) ∈ lw_tbl := List.mem_append_right _ (List.mem_of_getElem? (i := 468) rfl)
theorem wl_14_22 : Cond.fieldLink RX5 95 "PeatRailway$State" "dug" "I" ∈ lw_tbl := List.mem_append_right _ (List.mem_of_getElem? (i := 196) (by decide +kernel))
theorem wl_14_23 : Cond.fieldLink RX5 92 "PeatRailway$State" "stock" "I" ∈ lw_tbl := List.mem_append_right _ (List.mem_of_getElem? (i := 194) (by decide +kernel))
theorem wlr_14 : ∀ w ∈ wsL_law_r14, w ∈ lw_tbl := List.forall_mem_cons.mpr ⟨wl_14_0, List.forall_mem_cons.mpr ⟨wl_14_1, List.forall_mem_cons.mpr ⟨wl_14_2, List.forall_mem_cons.mpr ⟨wl_14_3, List.forall_mem_cons.mpr ⟨wl_14_4, List.forall_mem_cons.mpr ⟨wl_14_5, List.forall_mem_cons.mpr ⟨wl_14_6, List.forall_mem_cons.mpr ⟨wl_14_7, List.forall_mem_cons.mpr ⟨wl_14_8, List.forall_mem_cons.mpr ⟨wl_14_9, List.forall_mem_cons.mpr ⟨wl_14_10, List.forall_mem_cons.mpr ⟨wl_14_11, List.forall_mem_cons.mpr ⟨wl_14_12, List.forall_mem_cons.mpr ⟨wl_14_13, List.forall_mem_cons.mpr ⟨wl_14_14, List.forall_mem_cons.mpr ⟨wl_14_15, List.forall_mem_cons.mpr ⟨wl_14_16, List.forall_mem_cons.mpr ⟨wl_14_17, List.forall_mem_cons.mpr ⟨wl_14_18, List.forall_mem_cons.mpr ⟨wl_14_19, List.forall_mem_cons.mpr ⟨wl_14_20, List.forall_mem_cons.mpr ⟨wl_14_21, List.forall_mem_cons.mpr ⟨wl_14_22, List.forall_mem_cons.mpr ⟨wl_14_23, fun _ h => absurd h List.not_mem_nil⟩⟩⟩⟩⟩⟩⟩⟩⟩⟩⟩⟩⟩⟩⟩⟩⟩⟩⟩⟩⟩⟩⟩⟩
theorem wl_15_0 : Cond.fieldLink RX5 208 "PeatRailway$State" "delivered" "I" ∈ lw_tbl := List.mem_append_right _ (List.mem_of_getElem? (i := 198) (by decide +kernel))
theorem wl_15_1 : Cond.fieldLink RX5 211 "PeatRailway$State" "lost" "I" ∈ lw_tbl := List.mem_append_right _ (List.mem_of_getElem? (i := 200) (by decide +kernel))
theorem wl_15_2 : Cond.methodLink RX5 205 yX3_peatInTrains ∈ lw_tbl := List.mem_append_right _ (List.mem_of_getElem? (i := 469) (by decide +kernel))
theorem wl_15_3 : Cond.instanceMethod yX3_peatInTrains ∈ lw_tbl := List.mem_append_right _ (List.mem_of_getElem? (i := 470) (by decide +kernel))
theorem wl_15_4 : Cond.selects RX3 yX3_peatInTrains yX3_peatInTrains ∈ lw_tbl := List.mem_append_right _ (List.mem_of_getElem? (i := 471) (by decide +kernel))
set_option maxRecDepth 100000 in
theorem wl_15_5 : Cond.code yX3_peatInTrains cX3_peatInTrains 4 (some .int) ∈ lw_tbl := List.mem_append_right _ (List.mem_of_getElem? (i := 472) rfl)
theorem wl_15_6 : Cond.fieldLink RX3 90 "PeatRailway$Train" "peat" "I" ∈ lw_tbl := List.mem_append_right _ (List.mem_of_getElem? (i := 142) (by decide +kernel))
theorem wl_15_7 : Cond.methodLink RL 54 yL_sum ∈ lw_tbl := List.mem_append_right _ (List.mem_of_getElem? (i := 473) (by decide +kernel))
theorem wl_15_8 : Cond.static yL_sum ∈ lw_tbl := List.mem_append_right _ (List.mem_of_getElem? (i := 474) (by decide +kernel))
set_option maxRecDepth 100000 in
theorem wl_15_9 : Cond.code yL_sum cL_sum 5 (some .int) ∈ lw_tbl := List.mem_append_right _ (List.mem_of_getElem? (i := 475) rfl)
theorem wl_15_10 : Cond.methodLink RL 57 yX5_count ∈ lw_tbl := List.mem_append_right _ (List.mem_of_getElem? (i := 347) (by decide +kernel))
theorem wl_15_11 : Cond.instanceMethod yX5_count ∈ lw_tbl := List.mem_append_right _ (List.mem_of_getElem? (i := 348) (by decide +kernel))
theorem wl_15_12 : Cond.selects RX5 yX5_count yX5_count ∈ lw_tbl := List.mem_append_right _ (List.mem_of_getElem? (i := 349) (by decide +kernel))
set_option maxRecDepth 100000 in
theorem wl_15_13 : Cond.code yX5_count cX5_count 2 (some .int) ∈ lw_tbl := List.mem_append_right _ (List.mem_of_getElem? (i := 350) rfl)
theorem wl_15_14 : Cond.fieldLink RX5 74 "PeatRailway$State" "segmentCount" "I" ∈ lw_tbl := List.mem_append_right _ (List.mem_of_getElem? (i := 190) (by decide +kernel))
theorem wl_15_15 : Cond.fieldLink RX5 101 "PeatRailway$State" "trainCount" "I" ∈ lw_tbl := List.mem_append_right _ (List.mem_of_getElem? (i := 192) (by decide +kernel))
theorem wl_15_16 : Cond.methodLink RX5 214 yX3_greatestSinking ∈ lw_tbl := List.mem_append_right _ (List.mem_of_getElem? (i := 351) (by decide +kernel))
theorem wl_15_17 : Cond.instanceMethod yX3_greatestSinking ∈ lw_tbl := List.mem_append_right _ (List.mem_of_getElem? (i := 352) (by decide +kernel))
theorem wl_15_18 : Cond.selects RX3 yX3_greatestSinking yX3_greatestSinking ∈ lw_tbl := List.mem_append_right _ (List.mem_of_getElem? (i := 353) (by decide +kernel))
set_option maxRecDepth 100000 in
theorem wl_15_19 : Cond.code yX3_greatestSinking cX3_greatestSinking 4 (some .int) ∈ lw_tbl := List.mem_append_right _ (List.mem_of_getElem? (i := 354) rfl)
theorem wl_15_20 : Cond.methodLink RX3 186 Lib.Math.max.name ∈ lw_tbl := List.mem_append_right _ (List.mem_of_getElem? (i := 355) (by decide +kernel))
theorem wl_15_21 : Cond.static Lib.Math.max.name ∈ lw_tbl := List.mem_append_right _ (List.mem_of_getElem? (i := 356) (by decide +kernel))
theorem wl_15_22 : Cond.initialized "java/lang/Math" ∈ lw_tbl := List.mem_append_right _ (List.mem_of_getElem? (i := 11) (by decide +kernel))
set_option maxRecDepth 100000 in
theorem wl_15_23 : Cond.code Lib.Math.max.name Lib.Math.max.code 2 (some .int) ∈ lw_tbl := List.mem_append_right _ (List.mem_of_getElem? (i := 357) rfl)
theorem wlr_15 : ∀ w ∈ wsL_law_r15, w ∈ lw_tbl := List.forall_mem_cons.mpr ⟨wl_15_0, List.forall_mem_cons.mpr ⟨wl_15_1, List.forall_mem_cons.mpr ⟨wl_15_2, List.forall_mem_cons.mpr ⟨wl_15_3, List.forall_mem_cons.mpr ⟨wl_15_4, List.forall_mem_cons.mpr ⟨wl_15_5, List.forall_mem_cons.mpr ⟨wl_15_6, List.forall_mem_cons.mpr ⟨wl_15_7, List.forall_mem_cons.mpr ⟨wl_15_8, List.forall_mem_cons.mpr ⟨wl_15_9, List.forall_mem_cons.mpr ⟨wl_15_10, List.forall_mem_cons.mpr ⟨wl_15_11, List.forall_mem_cons.mpr ⟨wl_15_12, List.forall_mem_cons.mpr ⟨wl_15_13, List.forall_mem_cons.mpr ⟨wl_15_14, List.forall_mem_cons.mpr ⟨wl_15_15, List.forall_mem_cons.mpr ⟨wl_15_16, List.forall_mem_cons.mpr ⟨wl_15_17, List.forall_mem_cons.mpr ⟨wl_15_18, List.forall_mem_cons.mpr ⟨wl_15_19, List.forall_mem_cons.mpr ⟨wl_15_20, List.forall_mem_cons.mpr ⟨wl_15_21, List.forall_mem_cons.mpr ⟨wl_15_22, List.forall_mem_cons.mpr ⟨wl_15_23, fun _ h => absurd h List.not_mem_nil⟩⟩⟩⟩⟩⟩⟩⟩⟩⟩⟩⟩⟩⟩⟩⟩⟩⟩⟩⟩⟩⟩⟩⟩
theorem wl_16_0 : Cond.methodLink RX5 217 yX3_waitsOfAll ∈ lw_tbl := List.mem_append_right _ (List.mem_of_getElem? (i := 358) (by decide +kernel))
theorem wl_16_1 : Cond.instanceMethod yX3_waitsOfAll ∈ lw_tbl := List.mem_append_right _ (List.mem_of_getElem? (i := 359) (by decide +kernel))
theorem wl_16_2 : Cond.selects RX3 yX3_waitsOfAll yX3_waitsOfAll ∈ lw_tbl := List.mem_append_right _ (List.mem_of_getElem? (i := 360) (by decide +kernel))
set_option maxRecDepth 100000 in
theorem wl_16_3 : Cond.code yX3_waitsOfAll cX3_waitsOfAll 4 (some .int) ∈ lw_tbl := List.mem_append_right _ (List.mem_of_getElem? (i := 361) rfl)
theorem wl_16_4 : Cond.fieldLink RX3 130 "PeatRailway$Train" "waits" "I" ∈ lw_tbl := List.mem_append_right _ (List.mem_of_getElem? (i := 156) (by decide +kernel))
theorem wl_16_5 : Cond.methodLink RX5 220 yX3_sunkSegments ∈ lw_tbl := List.mem_append_right _ (List.mem_of_getElem? (i := 366) (by decide +kernel))
theorem wl_16_6 : Cond.instanceMethod yX3_sunkSegments ∈ lw_tbl := List.mem_append_right _ (List.mem_of_getElem? (i := 367) (by decide +kernel))
theorem wl_16_7 : Cond.selects RX3 yX3_sunkSegments yX3_sunkSegments ∈ lw_tbl := List.mem_append_right _ (List.mem_of_getElem? (i := 368) (by decide +kernel))
set_option maxRecDepth 100000 in
theorem wl_16_8 : Cond.code yX3_sunkSegments cX3_sunkSegments 4 (some .int) ∈ lw_tbl := List.mem_append_right _ (List.mem_of_getElem? (i := 369) rfl)
theorem wl_16_9 : Cond.methodLink RL 60 yL_sunk ∈ lw_tbl := List.mem_append_right _ (List.mem_of_getElem? (i := 476) (by decide +kernel))
theorem wl_16_10 : Cond.static yL_sunk ∈ lw_tbl := List.mem_append_right _ (List.mem_of_getElem? (i := 477) (by decide +kernel))
set_option maxRecDepth 100000 in
theorem wl_16_11 : Cond.code yL_sunk cL_sunk 4 (some .int) ∈ lw_tbl := List.mem_append_right _ (List.mem_of_getElem? (i := 478) rfl)
theorem wl_16_12 : Cond.methodLink RL 64 yX5_meanSinking ∈ lw_tbl := List.mem_append_right _ (List.mem_of_getElem? (i := 479) (by decide +kernel))
theorem wl_16_13 : Cond.instanceMethod yX5_meanSinking ∈ lw_tbl := List.mem_append_right _ (List.mem_of_getElem? (i := 480) (by decide +kernel))
theorem wl_16_14 : Cond.selects RX5 yX5_meanSinking yX5_meanSinking ∈ lw_tbl := List.mem_append_right _ (List.mem_of_getElem? (i := 481) (by decide +kernel))
set_option maxRecDepth 100000 in
theorem wl_16_15 : Cond.code yX5_meanSinking cX5_meanSinking 1 (some .double) ∈ lw_tbl := List.mem_append_right _ (List.mem_of_getElem? (i := 482) rfl)
theorem wl_16_16 : Cond.methodLink RX5 229 yX3_sumOfSinkings ∈ lw_tbl := List.mem_append_right _ (List.mem_of_getElem? (i := 483) (by decide +kernel))
theorem wl_16_17 : Cond.instanceMethod yX3_sumOfSinkings ∈ lw_tbl := List.mem_append_right _ (List.mem_of_getElem? (i := 484) (by decide +kernel))
theorem wl_16_18 : Cond.selects RX3 yX3_sumOfSinkings yX3_sumOfSinkings ∈ lw_tbl := List.mem_append_right _ (List.mem_of_getElem? (i := 485) (by decide +kernel))
set_option maxRecDepth 100000 in
theorem wl_16_19 : Cond.code yX3_sumOfSinkings cX3_sumOfSinkings 4 (some .int) ∈ lw_tbl := List.mem_append_right _ (List.mem_of_getElem? (i := 486) rfl)
theorem wl_16_20 : Cond.methodLink RL 141 yL_cell ∈ lw_tbl := List.mem_append_right _ (List.mem_of_getElem? (i := 370) (by decide +kernel))
theorem wl_16_21 : Cond.static yL_cell ∈ lw_tbl := List.mem_append_right _ (List.mem_of_getElem? (i := 371) (by decide +kernel))
set_option maxRecDepth 100000 in
theorem wl_16_22 : Cond.code yL_cell cL_cell 2 (some .int) ∈ lw_tbl := List.mem_append_right _ (List.mem_of_getElem? (i := 372) rfl)
theorem wl_16_23 : Cond.constant RL 7 (625341585) ∈ lw_tbl := List.mem_append_right _ (List.mem_of_getElem? (i := 373) (by decide +kernel))
theorem wlr_16 : ∀ w ∈ wsL_law_r16, w ∈ lw_tbl := List.forall_mem_cons.mpr ⟨wl_16_0, List.forall_mem_cons.mpr ⟨wl_16_1, List.forall_mem_cons.mpr ⟨wl_16_2, List.forall_mem_cons.mpr ⟨wl_16_3, List.forall_mem_cons.mpr ⟨wl_16_4, List.forall_mem_cons.mpr ⟨wl_16_5, List.forall_mem_cons.mpr ⟨wl_16_6, List.forall_mem_cons.mpr ⟨wl_16_7, List.forall_mem_cons.mpr ⟨wl_16_8, List.forall_mem_cons.mpr ⟨wl_16_9, List.forall_mem_cons.mpr ⟨wl_16_10, List.forall_mem_cons.mpr ⟨wl_16_11, List.forall_mem_cons.mpr ⟨wl_16_12, List.forall_mem_cons.mpr ⟨wl_16_13, List.forall_mem_cons.mpr ⟨wl_16_14, List.forall_mem_cons.mpr ⟨wl_16_15, List.forall_mem_cons.mpr ⟨wl_16_16, List.forall_mem_cons.mpr ⟨wl_16_17, List.forall_mem_cons.mpr ⟨wl_16_18, List.forall_mem_cons.mpr ⟨wl_16_19, List.forall_mem_cons.mpr ⟨wl_16_20, List.forall_mem_cons.mpr ⟨wl_16_21, List.forall_mem_cons.mpr ⟨wl_16_22, List.forall_mem_cons.mpr ⟨wl_16_23, fun _ h => absurd h List.not_mem_nil⟩⟩⟩⟩⟩⟩⟩⟩⟩⟩⟩⟩⟩⟩⟩⟩⟩⟩⟩⟩⟩⟩⟩⟩
theorem wl_17_0 : Cond.methodLink RL 71 yL_copy ∈ lw_tbl := List.mem_append_right _ (List.mem_of_getElem? (i := 487) (by decide +kernel))
theorem wl_17_1 : Cond.static yL_copy ∈ lw_tbl := List.mem_append_right _ (List.mem_of_getElem? (i := 488) (by decide +kernel))
set_option maxRecDepth 100000 in
theorem wl_17_2 : Cond.code yL_copy cL_copy 3 none ∈ lw_tbl := List.mem_append_right _ (List.mem_of_getElem? (i := 489) rfl)
theorem wl_17_3 : Cond.methodLink RL 68 yL_at ∈ lw_tbl := List.mem_append_right _ (List.mem_of_getElem? (i := 374) (by decide +kernel))
theorem wl_17_4 : Cond.static yL_at ∈ lw_tbl := List.mem_append_right _ (List.mem_of_getElem? (i := 375) (by decide +kernel))
set_option maxRecDepth 100000 in
theorem wl_17_5 : Cond.code yL_at cL_at 2 (some .int) ∈ lw_tbl := List.mem_append_right _ (List.mem_of_getElem? (i := 376) rfl)
theorem wl_17_6 : Cond.methodLink RL 146 yL_act ∈ lw_tbl := List.mem_append_right _ (List.mem_of_getElem? (i := 568) (by decide +kernel))
theorem wl_17_7 : Cond.static yL_act ∈ lw_tbl := List.mem_append_right _ (List.mem_of_getElem? (i := 569) (by decide +kernel))
set_option maxRecDepth 100000 in
theorem wl_17_8 : Cond.code yL_act cL_act 10 (some .boolean) ∈ lw_tbl := List.mem_append_right _ (List.mem_of_getElem? (i := 570) rfl)
theorem wl_17_9 : Cond.methodLink RL 75 yL_tick ∈ lw_tbl := List.mem_append_right _ (List.mem_of_getElem? (i := 493) (by decide +kernel))
theorem wl_17_10 : Cond.static yL_tick ∈ lw_tbl := List.mem_append_right _ (List.mem_of_getElem? (i := 494) (by decide +kernel))
set_option maxRecDepth 100000 in
theorem wl_17_11 : Cond.code yL_tick cL_tick 6 none ∈ lw_tbl := List.mem_append_right _ (List.mem_of_getElem? (i := 495) rfl)
theorem wl_17_12 : Cond.methodLink RL 32 yL_turn ∈ lw_tbl := List.mem_append_right _ (List.mem_of_getElem? (i := 496) (by decide +kernel))
theorem wl_17_13 : Cond.static yL_turn ∈ lw_tbl := List.mem_append_right _ (List.mem_of_getElem? (i := 497) (by decide +kernel))
set_option maxRecDepth 100000 in
theorem wl_17_14 : Cond.code yL_turn cL_turn 7 none ∈ lw_tbl := List.mem_append_right _ (List.mem_of_getElem? (i := 498) rfl)
theorem wl_17_15 : Cond.methodLink RL 108 yX5_run ∈ lw_tbl := List.mem_append_right _ (List.mem_of_getElem? (i := 571) (by decide +kernel))
theorem wl_17_16 : Cond.instanceMethod yX5_run ∈ lw_tbl := List.mem_append_right _ (List.mem_of_getElem? (i := 572) (by decide +kernel))
theorem wl_17_17 : Cond.selects RX5 yX5_run yX5_run ∈ lw_tbl := List.mem_append_right _ (List.mem_of_getElem? (i := 573) (by decide +kernel))
set_option maxRecDepth 100000 in
theorem wl_17_18 : Cond.code yX5_run cX5_run 2 (some .int) ∈ lw_tbl := List.mem_append_right _ (List.mem_of_getElem? (i := 574) rfl)
theorem wl_17_19 : Cond.methodLink RX5 124 yX5_isRun ∈ lw_tbl := List.mem_append_right _ (List.mem_of_getElem? (i := 503) (by decide +kernel))
theorem wl_17_20 : Cond.static yX5_isRun ∈ lw_tbl := List.mem_append_right _ (List.mem_of_getElem? (i := 504) (by decide +kernel))
set_option maxRecDepth 100000 in
theorem wl_17_21 : Cond.code yX5_isRun cX5_isRun 1 (some .boolean) ∈ lw_tbl := List.mem_append_right _ (List.mem_of_getElem? (i := 505) rfl)
theorem wl_17_22 : Cond.methodLink RX5 127 yX3_pass ∈ lw_tbl := List.mem_append_right _ (List.mem_of_getElem? (i := 506) (by decide +kernel))
theorem wl_17_23 : Cond.instanceMethod yX3_pass ∈ lw_tbl := List.mem_append_right _ (List.mem_of_getElem? (i := 507) (by decide +kernel))
theorem wlr_17 : ∀ w ∈ wsL_law_r17, w ∈ lw_tbl := List.forall_mem_cons.mpr ⟨wl_17_0, List.forall_mem_cons.mpr ⟨wl_17_1, List.forall_mem_cons.mpr ⟨wl_17_2, List.forall_mem_cons.mpr ⟨wl_17_3, List.forall_mem_cons.mpr ⟨wl_17_4, List.forall_mem_cons.mpr ⟨wl_17_5, List.forall_mem_cons.mpr ⟨wl_17_6, List.forall_mem_cons.mpr ⟨wl_17_7, List.forall_mem_cons.mpr ⟨wl_17_8, List.forall_mem_cons.mpr ⟨wl_17_9, List.forall_mem_cons.mpr ⟨wl_17_10, List.forall_mem_cons.mpr ⟨wl_17_11, List.forall_mem_cons.mpr ⟨wl_17_12, List.forall_mem_cons.mpr ⟨wl_17_13, List.forall_mem_cons.mpr ⟨wl_17_14, List.forall_mem_cons.mpr ⟨wl_17_15, List.forall_mem_cons.mpr ⟨wl_17_16, List.forall_mem_cons.mpr ⟨wl_17_17, List.forall_mem_cons.mpr ⟨wl_17_18, List.forall_mem_cons.mpr ⟨wl_17_19, List.forall_mem_cons.mpr ⟨wl_17_20, List.forall_mem_cons.mpr ⟨wl_17_21, List.forall_mem_cons.mpr ⟨wl_17_22, List.forall_mem_cons.mpr ⟨wl_17_23, fun _ h => absurd h List.not_mem_nil⟩⟩⟩⟩⟩⟩⟩⟩⟩⟩⟩⟩⟩⟩⟩⟩⟩⟩⟩⟩⟩⟩⟩⟩
theorem wl_18_0 : Cond.selects RX3 yX3_pass yX3_pass ∈ lw_tbl := List.mem_append_right _ (List.mem_of_getElem? (i := 508) (by decide +kernel))
set_option maxRecDepth 100000 in
theorem wl_18_1 : Cond.code yX3_pass cX3_pass 4 (some .int) ∈ lw_tbl := List.mem_append_right _ (List.mem_of_getElem? (i := 509) rfl)
theorem wl_18_2 : Cond.fieldLink RX3 97 "PeatRailway$State" "peak" "I" ∈ lw_tbl := List.mem_append_right _ (List.mem_of_getElem? (i := 203) (by decide +kernel))
theorem wl_18_3 : Cond.methodLink RX3 100 yX3_tick ∈ lw_tbl := List.mem_append_right _ (List.mem_of_getElem? (i := 510) (by decide +kernel))
theorem wl_18_4 : Cond.instanceMethod yX3_tick ∈ lw_tbl := List.mem_append_right _ (List.mem_of_getElem? (i := 511) (by decide +kernel))
theorem wl_18_5 : Cond.selects RX3 yX3_tick yX3_tick ∈ lw_tbl := List.mem_append_right _ (List.mem_of_getElem? (i := 512) (by decide +kernel))
set_option maxRecDepth 100000 in
theorem wl_18_6 : Cond.code yX3_tick cX3_tick 4 none ∈ lw_tbl := List.mem_append_right _ (List.mem_of_getElem? (i := 513) rfl)
theorem wl_18_7 : Cond.fieldLink RX3 107 "PeatRailway$Train" "early" "Z" ∈ lw_tbl := List.mem_append_right _ (List.mem_of_getElem? (i := 161) (by decide +kernel))
theorem wl_18_8 : Cond.methodLink RX3 103 yX3_goesFirst ∈ lw_tbl := List.mem_append_right _ (List.mem_of_getElem? (i := 514) (by decide +kernel))
theorem wl_18_9 : Cond.instanceMethod yX3_goesFirst ∈ lw_tbl := List.mem_append_right _ (List.mem_of_getElem? (i := 516) (by decide +kernel))
theorem wl_18_10 : Cond.selects RX3 yX3_goesFirst yX3_goesFirst ∈ lw_tbl := List.mem_append_left _ (List.mem_of_getElem? (i := 5) (by decide +kernel))
set_option maxRecDepth 100000 in
theorem wl_18_11 : Cond.code yX3_goesFirst cX3_goesFirst 3 (some .boolean) ∈ lw_tbl := List.mem_append_right _ (List.mem_of_getElem? (i := 517) rfl)
theorem wl_18_12 : Cond.methodLink RX3 111 yX3_takeTurn ∈ lw_tbl := List.mem_append_right _ (List.mem_of_getElem? (i := 518) (by decide +kernel))
theorem wl_18_13 : Cond.instanceMethod yX3_takeTurn ∈ lw_tbl := List.mem_append_right _ (List.mem_of_getElem? (i := 520) (by decide +kernel))
theorem wl_18_14 : Cond.selects RX3 yX3_takeTurn yX3_takeTurn ∈ lw_tbl := List.mem_append_left _ (List.mem_of_getElem? (i := 6) (by decide +kernel))
set_option maxRecDepth 100000 in
theorem wl_18_15 : Cond.code yX3_takeTurn cX3_takeTurn 2 none ∈ lw_tbl := List.mem_append_right _ (List.mem_of_getElem? (i := 521) rfl)
theorem wl_18_16 : Cond.fieldLink RX3 120 "PeatRailway$Train" "rest" "I" ∈ lw_tbl := List.mem_append_right _ (List.mem_of_getElem? (i := 150) (by decide +kernel))
theorem wl_18_17 : Cond.fieldLink RX3 123 "PeatRailway$Train" "reason" "I" ∈ lw_tbl := List.mem_append_right _ (List.mem_of_getElem? (i := 153) (by decide +kernel))
theorem wl_18_18 : Cond.methodLink RX3 126 yX3_reasonToWait ∈ lw_tbl := List.mem_append_right _ (List.mem_of_getElem? (i := 522) (by decide +kernel))
theorem wl_18_19 : Cond.methodLink RX3 136 yX3_unloadTrain ∈ lw_tbl := List.mem_append_right _ (List.mem_of_getElem? (i := 523) (by decide +kernel))
theorem wl_18_20 : Cond.instanceMethod yX3_unloadTrain ∈ lw_tbl := List.mem_append_right _ (List.mem_of_getElem? (i := 525) (by decide +kernel))
theorem wl_18_21 : Cond.selects RX3 yX3_unloadTrain yX3_unloadTrain ∈ lw_tbl := List.mem_append_left _ (List.mem_of_getElem? (i := 7) (by decide +kernel))
set_option maxRecDepth 100000 in
theorem wl_18_22 : Cond.code yX3_unloadTrain cX3_unloadTrain 2 none ∈ lw_tbl := List.mem_append_right _ (List.mem_of_getElem? (i := 526) rfl)
theorem wl_18_23 : Cond.fieldLink RX3 151 "PeatRailway$Train" "wagons" "I" ∈ lw_tbl := List.mem_append_right _ (List.mem_of_getElem? (i := 137) (by decide +kernel))
theorem wlr_18 : ∀ w ∈ wsL_law_r18, w ∈ lw_tbl := List.forall_mem_cons.mpr ⟨wl_18_0, List.forall_mem_cons.mpr ⟨wl_18_1, List.forall_mem_cons.mpr ⟨wl_18_2, List.forall_mem_cons.mpr ⟨wl_18_3, List.forall_mem_cons.mpr ⟨wl_18_4, List.forall_mem_cons.mpr ⟨wl_18_5, List.forall_mem_cons.mpr ⟨wl_18_6, List.forall_mem_cons.mpr ⟨wl_18_7, List.forall_mem_cons.mpr ⟨wl_18_8, List.forall_mem_cons.mpr ⟨wl_18_9, List.forall_mem_cons.mpr ⟨wl_18_10, List.forall_mem_cons.mpr ⟨wl_18_11, List.forall_mem_cons.mpr ⟨wl_18_12, List.forall_mem_cons.mpr ⟨wl_18_13, List.forall_mem_cons.mpr ⟨wl_18_14, List.forall_mem_cons.mpr ⟨wl_18_15, List.forall_mem_cons.mpr ⟨wl_18_16, List.forall_mem_cons.mpr ⟨wl_18_17, List.forall_mem_cons.mpr ⟨wl_18_18, List.forall_mem_cons.mpr ⟨wl_18_19, List.forall_mem_cons.mpr ⟨wl_18_20, List.forall_mem_cons.mpr ⟨wl_18_21, List.forall_mem_cons.mpr ⟨wl_18_22, List.forall_mem_cons.mpr ⟨wl_18_23, fun _ h => absurd h List.not_mem_nil⟩⟩⟩⟩⟩⟩⟩⟩⟩⟩⟩⟩⟩⟩⟩⟩⟩⟩⟩⟩⟩⟩⟩⟩
theorem wl_19_0 : Cond.fieldLink RX3 154 "PeatRailway$Train" "unloads" "I" ∈ lw_tbl := List.mem_append_right _ (List.mem_of_getElem? (i := 160) (by decide +kernel))
theorem wl_19_1 : Cond.methodLink RX3 142 yX3_loadTrain ∈ lw_tbl := List.mem_append_right _ (List.mem_of_getElem? (i := 527) (by decide +kernel))
theorem wl_19_2 : Cond.instanceMethod yX3_loadTrain ∈ lw_tbl := List.mem_append_right _ (List.mem_of_getElem? (i := 529) (by decide +kernel))
theorem wl_19_3 : Cond.selects RX3 yX3_loadTrain yX3_loadTrain ∈ lw_tbl := List.mem_append_left _ (List.mem_of_getElem? (i := 8) (by decide +kernel))
set_option maxRecDepth 100000 in
theorem wl_19_4 : Cond.code yX3_loadTrain cX3_loadTrain 2 none ∈ lw_tbl := List.mem_append_right _ (List.mem_of_getElem? (i := 530) rfl)
theorem wl_19_5 : Cond.methodLink RX3 145 yX3_moveTrain ∈ lw_tbl := List.mem_append_right _ (List.mem_of_getElem? (i := 531) (by decide +kernel))
theorem wl_19_6 : Cond.instanceMethod yX3_moveTrain ∈ lw_tbl := List.mem_append_right _ (List.mem_of_getElem? (i := 533) (by decide +kernel))
theorem wl_19_7 : Cond.selects RX3 yX3_moveTrain yX3_moveTrain ∈ lw_tbl := List.mem_append_left _ (List.mem_of_getElem? (i := 9) (by decide +kernel))
set_option maxRecDepth 100000 in
theorem wl_19_8 : Cond.code yX3_moveTrain cX3_moveTrain 3 none ∈ lw_tbl := List.mem_append_right _ (List.mem_of_getElem? (i := 534) rfl)
theorem wl_19_9 : Cond.methodLink RX3 114 yX3_settle ∈ lw_tbl := List.mem_append_right _ (List.mem_of_getElem? (i := 535) (by decide +kernel))
theorem wl_19_10 : Cond.instanceMethod yX3_settle ∈ lw_tbl := List.mem_append_right _ (List.mem_of_getElem? (i := 537) (by decide +kernel))
theorem wl_19_11 : Cond.selects RX3 yX3_settle yX3_settle ∈ lw_tbl := List.mem_append_left _ (List.mem_of_getElem? (i := 10) (by decide +kernel))
set_option maxRecDepth 100000 in
theorem wl_19_12 : Cond.code yX3_settle cX3_settle 4 none ∈ lw_tbl := List.mem_append_right _ (List.mem_of_getElem? (i := 538) rfl)
theorem wl_19_13 : Cond.fieldLink RX3 178 "PeatRailway$Segment" "burden" "I" ∈ lw_tbl := List.mem_append_right _ (List.mem_of_getElem? (i := 113) (by decide +kernel))
theorem wl_19_14 : Cond.methodLink RX3 184 yX2_settle ∈ lw_tbl := List.mem_append_right _ (List.mem_of_getElem? (i := 539) (by decide +kernel))
theorem wl_19_15 : Cond.instanceMethod yX2_settle ∈ lw_tbl := List.mem_append_right _ (List.mem_of_getElem? (i := 540) (by decide +kernel))
theorem wl_19_16 : Cond.selects RX2 yX2_settle yX2_settle ∈ lw_tbl := List.mem_append_right _ (List.mem_of_getElem? (i := 541) (by decide +kernel))
set_option maxRecDepth 100000 in
theorem wl_19_17 : Cond.code yX2_settle cX2_settle 2 none ∈ lw_tbl := List.mem_append_right _ (List.mem_of_getElem? (i := 542) rfl)
theorem wl_19_18 : Cond.fieldLink RX2 27 "PeatRailway$Segment" "burden" "I" ∈ lw_tbl := List.mem_append_right _ (List.mem_of_getElem? (i := 112) (by decide +kernel))
theorem wl_19_19 : Cond.methodLink RX2 30 Lib.Math.max.name ∈ lw_tbl := List.mem_append_right _ (List.mem_of_getElem? (i := 543) (by decide +kernel))
theorem wl_19_20 : Cond.methodLink RX2 36 Lib.Math.min.name ∈ lw_tbl := List.mem_append_right _ (List.mem_of_getElem? (i := 544) (by decide +kernel))
theorem wl_19_21 : Cond.static Lib.Math.min.name ∈ lw_tbl := List.mem_append_right _ (List.mem_of_getElem? (i := 545) (by decide +kernel))
set_option maxRecDepth 100000 in
theorem wl_19_22 : Cond.code Lib.Math.min.name Lib.Math.min.code 2 (some .int) ∈ lw_tbl := List.mem_append_right _ (List.mem_of_getElem? (i := 546) rfl)
theorem wl_19_23 : Cond.methodLink RL 111 yX5_dig ∈ lw_tbl := List.mem_append_right _ (List.mem_of_getElem? (i := 575) (by decide +kernel))
theorem wlr_19 : ∀ w ∈ wsL_law_r19, w ∈ lw_tbl := List.forall_mem_cons.mpr ⟨wl_19_0, List.forall_mem_cons.mpr ⟨wl_19_1, List.forall_mem_cons.mpr ⟨wl_19_2, List.forall_mem_cons.mpr ⟨wl_19_3, List.forall_mem_cons.mpr ⟨wl_19_4, List.forall_mem_cons.mpr ⟨wl_19_5, List.forall_mem_cons.mpr ⟨wl_19_6, List.forall_mem_cons.mpr ⟨wl_19_7, List.forall_mem_cons.mpr ⟨wl_19_8, List.forall_mem_cons.mpr ⟨wl_19_9, List.forall_mem_cons.mpr ⟨wl_19_10, List.forall_mem_cons.mpr ⟨wl_19_11, List.forall_mem_cons.mpr ⟨wl_19_12, List.forall_mem_cons.mpr ⟨wl_19_13, List.forall_mem_cons.mpr ⟨wl_19_14, List.forall_mem_cons.mpr ⟨wl_19_15, List.forall_mem_cons.mpr ⟨wl_19_16, List.forall_mem_cons.mpr ⟨wl_19_17, List.forall_mem_cons.mpr ⟨wl_19_18, List.forall_mem_cons.mpr ⟨wl_19_19, List.forall_mem_cons.mpr ⟨wl_19_20, List.forall_mem_cons.mpr ⟨wl_19_21, List.forall_mem_cons.mpr ⟨wl_19_22, List.forall_mem_cons.mpr ⟨wl_19_23, fun _ h => absurd h List.not_mem_nil⟩⟩⟩⟩⟩⟩⟩⟩⟩⟩⟩⟩⟩⟩⟩⟩⟩⟩⟩⟩⟩⟩⟩⟩
theorem wl_20_0 : Cond.instanceMethod yX5_dig ∈ lw_tbl := List.mem_append_right _ (List.mem_of_getElem? (i := 576) (by decide +kernel))
theorem wl_20_1 : Cond.selects RX5 yX5_dig yX5_dig ∈ lw_tbl := List.mem_append_right _ (List.mem_of_getElem? (i := 577) (by decide +kernel))
set_option maxRecDepth 100000 in
theorem wl_20_2 : Cond.code yX5_dig cX5_dig 2 (some .int) ∈ lw_tbl := List.mem_append_right _ (List.mem_of_getElem? (i := 578) rfl)
theorem wl_20_3 : Cond.methodLink RL 114 yX5_addTrain ∈ lw_tbl := List.mem_append_right _ (List.mem_of_getElem? (i := 579) (by decide +kernel))
theorem wl_20_4 : Cond.instanceMethod yX5_addTrain ∈ lw_tbl := List.mem_append_right _ (List.mem_of_getElem? (i := 580) (by decide +kernel))
theorem wl_20_5 : Cond.selects RX5 yX5_addTrain yX5_addTrain ∈ lw_tbl := List.mem_append_right _ (List.mem_of_getElem? (i := 581) (by decide +kernel))
set_option maxRecDepth 100000 in
theorem wl_20_6 : Cond.code yX5_addTrain cX5_addTrain 3 (some .int) ∈ lw_tbl := List.mem_append_right _ (List.mem_of_getElem? (i := 582) rfl)
theorem wl_20_7 : Cond.methodLink RX5 98 yX5_isLoad ∈ lw_tbl := List.mem_append_right _ (List.mem_of_getElem? (i := 583) (by decide +kernel))
theorem wl_20_8 : Cond.static yX5_isLoad ∈ lw_tbl := List.mem_append_right _ (List.mem_of_getElem? (i := 584) (by decide +kernel))
set_option maxRecDepth 100000 in
theorem wl_20_9 : Cond.code yX5_isLoad cX5_isLoad 1 (some .boolean) ∈ lw_tbl := List.mem_append_right _ (List.mem_of_getElem? (i := 585) rfl)
theorem wl_20_10 : Cond.methodLink RX5 104 yX3_bringTrain ∈ lw_tbl := List.mem_append_right _ (List.mem_of_getElem? (i := 586) (by decide +kernel))
theorem wl_20_11 : Cond.instanceMethod yX3_bringTrain ∈ lw_tbl := List.mem_append_right _ (List.mem_of_getElem? (i := 587) (by decide +kernel))
theorem wl_20_12 : Cond.selects RX3 yX3_bringTrain yX3_bringTrain ∈ lw_tbl := List.mem_append_right _ (List.mem_of_getElem? (i := 588) (by decide +kernel))
set_option maxRecDepth 100000 in
theorem wl_20_13 : Cond.code yX3_bringTrain cX3_bringTrain 4 (some .int) ∈ lw_tbl := List.mem_append_right _ (List.mem_of_getElem? (i := 589) rfl)
theorem wl_20_14 : Cond.methodLink RX3 86 yX4_start ∈ lw_tbl := List.mem_append_right _ (List.mem_of_getElem? (i := 590) (by decide +kernel))
theorem wl_20_15 : Cond.instanceMethod yX4_start ∈ lw_tbl := List.mem_append_right _ (List.mem_of_getElem? (i := 591) (by decide +kernel))
theorem wl_20_16 : Cond.selects RX4 yX4_start yX4_start ∈ lw_tbl := List.mem_append_right _ (List.mem_of_getElem? (i := 592) (by decide +kernel))
set_option maxRecDepth 100000 in
theorem wl_20_17 : Cond.code yX4_start cX4_start 3 none ∈ lw_tbl := List.mem_append_right _ (List.mem_of_getElem? (i := 593) rfl)
theorem wl_20_18 : Cond.methodLink RL 117 yX5_set ∈ lw_tbl := List.mem_append_right _ (List.mem_of_getElem? (i := 594) (by decide +kernel))
theorem wl_20_19 : Cond.instanceMethod yX5_set ∈ lw_tbl := List.mem_append_right _ (List.mem_of_getElem? (i := 595) (by decide +kernel))
theorem wl_20_20 : Cond.selects RX5 yX5_set yX5_set ∈ lw_tbl := List.mem_append_right _ (List.mem_of_getElem? (i := 596) (by decide +kernel))
set_option maxRecDepth 100000 in
theorem wl_20_21 : Cond.code yX5_set cX5_set 4 (some .int) ∈ lw_tbl := List.mem_append_right _ (List.mem_of_getElem? (i := 597) rfl)
theorem wl_20_22 : Cond.fieldLink RX5 82 "PeatRailway" "LEAST_VALUE" "[I" ∈ lw_tbl := List.mem_append_right _ (List.mem_of_getElem? (i := 560) (by decide +kernel))
theorem wl_20_23 : Cond.fieldLink RX5 86 "PeatRailway" "MOST_VALUE" "[I" ∈ lw_tbl := List.mem_append_right _ (List.mem_of_getElem? (i := 562) (by decide +kernel))
theorem wlr_20 : ∀ w ∈ wsL_law_r20, w ∈ lw_tbl := List.forall_mem_cons.mpr ⟨wl_20_0, List.forall_mem_cons.mpr ⟨wl_20_1, List.forall_mem_cons.mpr ⟨wl_20_2, List.forall_mem_cons.mpr ⟨wl_20_3, List.forall_mem_cons.mpr ⟨wl_20_4, List.forall_mem_cons.mpr ⟨wl_20_5, List.forall_mem_cons.mpr ⟨wl_20_6, List.forall_mem_cons.mpr ⟨wl_20_7, List.forall_mem_cons.mpr ⟨wl_20_8, List.forall_mem_cons.mpr ⟨wl_20_9, List.forall_mem_cons.mpr ⟨wl_20_10, List.forall_mem_cons.mpr ⟨wl_20_11, List.forall_mem_cons.mpr ⟨wl_20_12, List.forall_mem_cons.mpr ⟨wl_20_13, List.forall_mem_cons.mpr ⟨wl_20_14, List.forall_mem_cons.mpr ⟨wl_20_15, List.forall_mem_cons.mpr ⟨wl_20_16, List.forall_mem_cons.mpr ⟨wl_20_17, List.forall_mem_cons.mpr ⟨wl_20_18, List.forall_mem_cons.mpr ⟨wl_20_19, List.forall_mem_cons.mpr ⟨wl_20_20, List.forall_mem_cons.mpr ⟨wl_20_21, List.forall_mem_cons.mpr ⟨wl_20_22, List.forall_mem_cons.mpr ⟨wl_20_23, fun _ h => absurd h List.not_mem_nil⟩⟩⟩⟩⟩⟩⟩⟩⟩⟩⟩⟩⟩⟩⟩⟩⟩⟩⟩⟩⟩⟩⟩⟩
theorem wl_21_0 : Cond.methodLink RL 120 yL_lay ∈ lw_tbl := List.mem_append_right _ (List.mem_of_getElem? (i := 598) (by decide +kernel))
theorem wl_21_1 : Cond.static yL_lay ∈ lw_tbl := List.mem_append_right _ (List.mem_of_getElem? (i := 599) (by decide +kernel))
set_option maxRecDepth 100000 in
theorem wl_21_2 : Cond.code yL_lay cL_lay 9 (some .boolean) ∈ lw_tbl := List.mem_append_right _ (List.mem_of_getElem? (i := 600) rfl)
theorem wl_21_3 : Cond.methodLink RL 91 yX5_clear ∈ lw_tbl := List.mem_append_right _ (List.mem_of_getElem? (i := 601) (by decide +kernel))
theorem wl_21_4 : Cond.instanceMethod yX5_clear ∈ lw_tbl := List.mem_append_right _ (List.mem_of_getElem? (i := 602) (by decide +kernel))
theorem wl_21_5 : Cond.selects RX5 yX5_clear yX5_clear ∈ lw_tbl := List.mem_append_right _ (List.mem_of_getElem? (i := 603) (by decide +kernel))
set_option maxRecDepth 100000 in
theorem wl_21_6 : Cond.code yX5_clear cX5_clear 2 (some .int) ∈ lw_tbl := List.mem_append_right _ (List.mem_of_getElem? (i := 604) rfl)
theorem wl_21_7 : Cond.methodLink RX5 64 yX1_length ∈ lw_tbl := List.mem_append_right _ (List.mem_of_getElem? (i := 605) (by decide +kernel))
theorem wl_21_8 : Cond.instanceMethod yX1_length ∈ lw_tbl := List.mem_append_right _ (List.mem_of_getElem? (i := 606) (by decide +kernel))
theorem wl_21_9 : Cond.selects RX1 yX1_length yX1_length ∈ lw_tbl := List.mem_append_right _ (List.mem_of_getElem? (i := 607) (by decide +kernel))
set_option maxRecDepth 100000 in
theorem wl_21_10 : Cond.code yX1_length cX1_length 1 (some .int) ∈ lw_tbl := List.mem_append_right _ (List.mem_of_getElem? (i := 608) rfl)
theorem wl_21_11 : Cond.methodLink RL 95 yX5_fault ∈ lw_tbl := List.mem_append_right _ (List.mem_of_getElem? (i := 609) (by decide +kernel))
theorem wl_21_12 : Cond.instanceMethod yX5_fault ∈ lw_tbl := List.mem_append_right _ (List.mem_of_getElem? (i := 610) (by decide +kernel))
theorem wl_21_13 : Cond.selects RX5 yX5_fault yX5_fault ∈ lw_tbl := List.mem_append_right _ (List.mem_of_getElem? (i := 611) (by decide +kernel))
set_option maxRecDepth 100000 in
theorem wl_21_14 : Cond.code yX5_fault cX5_fault 1 (some .int) ∈ lw_tbl := List.mem_append_right _ (List.mem_of_getElem? (i := 612) rfl)
theorem wl_21_15 : Cond.methodLink RX5 65 yX1_firstFault ∈ lw_tbl := List.mem_append_right _ (List.mem_of_getElem? (i := 613) (by decide +kernel))
theorem wl_21_16 : Cond.instanceMethod yX1_firstFault ∈ lw_tbl := List.mem_append_right _ (List.mem_of_getElem? (i := 614) (by decide +kernel))
theorem wl_21_17 : Cond.selects RX1 yX1_firstFault yX1_firstFault ∈ lw_tbl := List.mem_append_right _ (List.mem_of_getElem? (i := 615) (by decide +kernel))
set_option maxRecDepth 100000 in
theorem wl_21_18 : Cond.code yX1_firstFault cX1_firstFault 5 (some .int) ∈ lw_tbl := List.mem_append_right _ (List.mem_of_getElem? (i := 616) rfl)
theorem wl_21_19 : Cond.methodLink RL 98 yX5_type ∈ lw_tbl := List.mem_append_right _ (List.mem_of_getElem? (i := 617) (by decide +kernel))
theorem wl_21_20 : Cond.instanceMethod yX5_type ∈ lw_tbl := List.mem_append_right _ (List.mem_of_getElem? (i := 618) (by decide +kernel))
theorem wl_21_21 : Cond.selects RX5 yX5_type yX5_type ∈ lw_tbl := List.mem_append_right _ (List.mem_of_getElem? (i := 619) (by decide +kernel))
set_option maxRecDepth 100000 in
theorem wl_21_22 : Cond.code yX5_type cX5_type 2 (some .int) ∈ lw_tbl := List.mem_append_right _ (List.mem_of_getElem? (i := 620) rfl)
theorem wl_21_23 : Cond.methodLink RX5 60 yX1_isFull ∈ lw_tbl := List.mem_append_right _ (List.mem_of_getElem? (i := 621) (by decide +kernel))
theorem wlr_21 : ∀ w ∈ wsL_law_r21, w ∈ lw_tbl := List.forall_mem_cons.mpr ⟨wl_21_0, List.forall_mem_cons.mpr ⟨wl_21_1, List.forall_mem_cons.mpr ⟨wl_21_2, List.forall_mem_cons.mpr ⟨wl_21_3, List.forall_mem_cons.mpr ⟨wl_21_4, List.forall_mem_cons.mpr ⟨wl_21_5, List.forall_mem_cons.mpr ⟨wl_21_6, List.forall_mem_cons.mpr ⟨wl_21_7, List.forall_mem_cons.mpr ⟨wl_21_8, List.forall_mem_cons.mpr ⟨wl_21_9, List.forall_mem_cons.mpr ⟨wl_21_10, List.forall_mem_cons.mpr ⟨wl_21_11, List.forall_mem_cons.mpr ⟨wl_21_12, List.forall_mem_cons.mpr ⟨wl_21_13, List.forall_mem_cons.mpr ⟨wl_21_14, List.forall_mem_cons.mpr ⟨wl_21_15, List.forall_mem_cons.mpr ⟨wl_21_16, List.forall_mem_cons.mpr ⟨wl_21_17, List.forall_mem_cons.mpr ⟨wl_21_18, List.forall_mem_cons.mpr ⟨wl_21_19, List.forall_mem_cons.mpr ⟨wl_21_20, List.forall_mem_cons.mpr ⟨wl_21_21, List.forall_mem_cons.mpr ⟨wl_21_22, List.forall_mem_cons.mpr ⟨wl_21_23, fun _ h => absurd h List.not_mem_nil⟩⟩⟩⟩⟩⟩⟩⟩⟩⟩⟩⟩⟩⟩⟩⟩⟩⟩⟩⟩⟩⟩⟩⟩
theorem wl_22_0 : Cond.instanceMethod yX1_isFull ∈ lw_tbl := List.mem_append_right _ (List.mem_of_getElem? (i := 622) (by decide +kernel))
theorem wl_22_1 : Cond.selects RX1 yX1_isFull yX1_isFull ∈ lw_tbl := List.mem_append_right _ (List.mem_of_getElem? (i := 623) (by decide +kernel))
set_option maxRecDepth 100000 in
theorem wl_22_2 : Cond.code yX1_isFull cX1_isFull 1 (some .boolean) ∈ lw_tbl := List.mem_append_right _ (List.mem_of_getElem? (i := 624) rfl)
theorem wl_22_3 : Cond.methodLink RL 101 yL_again ∈ lw_tbl := List.mem_append_right _ (List.mem_of_getElem? (i := 625) (by decide +kernel))
theorem wl_22_4 : Cond.static yL_again ∈ lw_tbl := List.mem_append_right _ (List.mem_of_getElem? (i := 626) (by decide +kernel))
set_option maxRecDepth 100000 in
theorem wl_22_5 : Cond.code yL_again cL_again 4 (some .boolean) ∈ lw_tbl := List.mem_append_right _ (List.mem_of_getElem? (i := 627) rfl)
theorem wl_22_6 : Cond.methodLink RL 105 yX5_layTrack ∈ lw_tbl := List.mem_append_right _ (List.mem_of_getElem? (i := 628) (by decide +kernel))
theorem wl_22_7 : Cond.instanceMethod yX5_layTrack ∈ lw_tbl := List.mem_append_right _ (List.mem_of_getElem? (i := 629) (by decide +kernel))
theorem wl_22_8 : Cond.selects RX5 yX5_layTrack yX5_layTrack ∈ lw_tbl := List.mem_append_right _ (List.mem_of_getElem? (i := 630) (by decide +kernel))
set_option maxRecDepth 100000 in
theorem wl_22_9 : Cond.code yX5_layTrack cX5_layTrack 1 (some .int) ∈ lw_tbl := List.mem_append_right _ (List.mem_of_getElem? (i := 631) rfl)
theorem wl_22_10 : Cond.methodLink RX5 71 yX3_loseAllTrains ∈ lw_tbl := List.mem_append_right _ (List.mem_of_getElem? (i := 632) (by decide +kernel))
theorem wl_22_11 : Cond.instanceMethod yX3_loseAllTrains ∈ lw_tbl := List.mem_append_right _ (List.mem_of_getElem? (i := 633) (by decide +kernel))
theorem wl_22_12 : Cond.selects RX3 yX3_loseAllTrains yX3_loseAllTrains ∈ lw_tbl := List.mem_append_right _ (List.mem_of_getElem? (i := 634) (by decide +kernel))
set_option maxRecDepth 100000 in
theorem wl_22_13 : Cond.code yX3_loseAllTrains cX3_loseAllTrains 1 none ∈ lw_tbl := List.mem_append_right _ (List.mem_of_getElem? (i := 635) rfl)
theorem wl_22_14 : Cond.methodLink RX3 93 yX3_peatInTrains ∈ lw_tbl := List.mem_append_right _ (List.mem_of_getElem? (i := 636) (by decide +kernel))
theorem wl_22_15 : Cond.methodLink RL 124 yX5_dropTrain ∈ lw_tbl := List.mem_append_right _ (List.mem_of_getElem? (i := 637) (by decide +kernel))
theorem wl_22_16 : Cond.instanceMethod yX5_dropTrain ∈ lw_tbl := List.mem_append_right _ (List.mem_of_getElem? (i := 638) (by decide +kernel))
theorem wl_22_17 : Cond.selects RX5 yX5_dropTrain yX5_dropTrain ∈ lw_tbl := List.mem_append_right _ (List.mem_of_getElem? (i := 639) (by decide +kernel))
set_option maxRecDepth 100000 in
theorem wl_22_18 : Cond.code yX5_dropTrain cX5_dropTrain 4 (some .int) ∈ lw_tbl := List.mem_append_right _ (List.mem_of_getElem? (i := 640) rfl)
theorem wl_22_19 : Cond.methodLink RX5 117 yX3_loseTrain ∈ lw_tbl := List.mem_append_right _ (List.mem_of_getElem? (i := 641) (by decide +kernel))
theorem wl_22_20 : Cond.instanceMethod yX3_loseTrain ∈ lw_tbl := List.mem_append_right _ (List.mem_of_getElem? (i := 642) (by decide +kernel))
theorem wl_22_21 : Cond.selects RX3 yX3_loseTrain yX3_loseTrain ∈ lw_tbl := List.mem_append_right _ (List.mem_of_getElem? (i := 643) (by decide +kernel))
set_option maxRecDepth 100000 in
theorem wl_22_22 : Cond.code yX3_loseTrain cX3_loseTrain 6 none ∈ lw_tbl := List.mem_append_right _ (List.mem_of_getElem? (i := 644) rfl)
theorem wl_22_23 : Cond.methodLink RL 127 yX5_setLoad ∈ lw_tbl := List.mem_append_right _ (List.mem_of_getElem? (i := 645) (by decide +kernel))
theorem wlr_22 : ∀ w ∈ wsL_law_r22, w ∈ lw_tbl := List.forall_mem_cons.mpr ⟨wl_22_0, List.forall_mem_cons.mpr ⟨wl_22_1, List.forall_mem_cons.mpr ⟨wl_22_2, List.forall_mem_cons.mpr ⟨wl_22_3, List.forall_mem_cons.mpr ⟨wl_22_4, List.forall_mem_cons.mpr ⟨wl_22_5, List.forall_mem_cons.mpr ⟨wl_22_6, List.forall_mem_cons.mpr ⟨wl_22_7, List.forall_mem_cons.mpr ⟨wl_22_8, List.forall_mem_cons.mpr ⟨wl_22_9, List.forall_mem_cons.mpr ⟨wl_22_10, List.forall_mem_cons.mpr ⟨wl_22_11, List.forall_mem_cons.mpr ⟨wl_22_12, List.forall_mem_cons.mpr ⟨wl_22_13, List.forall_mem_cons.mpr ⟨wl_22_14, List.forall_mem_cons.mpr ⟨wl_22_15, List.forall_mem_cons.mpr ⟨wl_22_16, List.forall_mem_cons.mpr ⟨wl_22_17, List.forall_mem_cons.mpr ⟨wl_22_18, List.forall_mem_cons.mpr ⟨wl_22_19, List.forall_mem_cons.mpr ⟨wl_22_20, List.forall_mem_cons.mpr ⟨wl_22_21, List.forall_mem_cons.mpr ⟨wl_22_22, List.forall_mem_cons.mpr ⟨wl_22_23, fun _ h => absurd h List.not_mem_nil⟩⟩⟩⟩⟩⟩⟩⟩⟩⟩⟩⟩⟩⟩⟩⟩⟩⟩⟩⟩⟩⟩⟩⟩
theorem wl_23_0 : Cond.instanceMethod yX5_setLoad ∈ lw_tbl := List.mem_append_right _ (List.mem_of_getElem? (i := 646) (by decide +kernel))
theorem wl_23_1 : Cond.selects RX5 yX5_setLoad yX5_setLoad ∈ lw_tbl := List.mem_append_right _ (List.mem_of_getElem? (i := 647) (by decide +kernel))
set_option maxRecDepth 100000 in
theorem wl_23_2 : Cond.code yX5_setLoad cX5_setLoad 5 (some .int) ∈ lw_tbl := List.mem_append_right _ (List.mem_of_getElem? (i := 648) rfl)
theorem wl_23_3 : Cond.methodLink RL 150 yL_ahead ∈ lw_tbl := List.mem_append_right _ (List.mem_of_getElem? (i := 490) (by decide +kernel))
theorem wl_23_4 : Cond.static yL_ahead ∈ lw_tbl := List.mem_append_right _ (List.mem_of_getElem? (i := 491) (by decide +kernel))
set_option maxRecDepth 100000 in
theorem wl_23_5 : Cond.code yL_ahead cL_ahead 15 (some .boolean) ∈ lw_tbl := List.mem_append_right _ (List.mem_of_getElem? (i := 492) rfl)
theorem wl_23_6 : Cond.methodLink RL 79 yX5_ifRun ∈ lw_tbl := List.mem_append_right _ (List.mem_of_getElem? (i := 499) (by decide +kernel))
theorem wl_23_7 : Cond.instanceMethod yX5_ifRun ∈ lw_tbl := List.mem_append_right _ (List.mem_of_getElem? (i := 500) (by decide +kernel))
theorem wl_23_8 : Cond.selects RX5 yX5_ifRun yX5_ifRun ∈ lw_tbl := List.mem_append_right _ (List.mem_of_getElem? (i := 501) (by decide +kernel))
set_option maxRecDepth 100000 in
theorem wl_23_9 : Cond.code yX5_ifRun cX5_ifRun 3 (some .int) ∈ lw_tbl := List.mem_append_right _ (List.mem_of_getElem? (i := 502) rfl)
theorem wl_23_10 : Cond.methodLink RX5 223 yX5_foreseen ∈ lw_tbl := List.mem_append_right _ (List.mem_of_getElem? (i := 547) (by decide +kernel))
theorem wl_23_11 : Cond.instanceMethod yX5_foreseen ∈ lw_tbl := List.mem_append_right _ (List.mem_of_getElem? (i := 549) (by decide +kernel))
theorem wl_23_12 : Cond.selects RX5 yX5_foreseen yX5_foreseen ∈ lw_tbl := List.mem_append_left _ (List.mem_of_getElem? (i := 11) (by decide +kernel))
set_option maxRecDepth 100000 in
theorem wl_23_13 : Cond.code yX5_foreseen cX5_foreseen 2 (some .int) ∈ lw_tbl := List.mem_append_right _ (List.mem_of_getElem? (i := 550) rfl)
theorem wl_23_14 : Cond.fieldLink RX5 265 "PeatRailway$State" "peak" "I" ∈ lw_tbl := List.mem_append_right _ (List.mem_of_getElem? (i := 204) (by decide +kernel))
theorem wl_23_15 : Cond.methodLink RL 82 yX5_ticksFor ∈ lw_tbl := List.mem_append_right _ (List.mem_of_getElem? (i := 551) (by decide +kernel))
theorem wl_23_16 : Cond.instanceMethod yX5_ticksFor ∈ lw_tbl := List.mem_append_right _ (List.mem_of_getElem? (i := 552) (by decide +kernel))
theorem wl_23_17 : Cond.selects RX5 yX5_ticksFor yX5_ticksFor ∈ lw_tbl := List.mem_append_right _ (List.mem_of_getElem? (i := 553) (by decide +kernel))
set_option maxRecDepth 100000 in
theorem wl_23_18 : Cond.code yX5_ticksFor cX5_ticksFor 3 (some .int) ∈ lw_tbl := List.mem_append_right _ (List.mem_of_getElem? (i := 554) rfl)
theorem wl_23_19 : Cond.methodLink RX5 226 yX3_tick ∈ lw_tbl := List.mem_append_right _ (List.mem_of_getElem? (i := 555) (by decide +kernel))
theorem wl_23_20 : Cond.methodLink RL 85 yX5_bestRule ∈ lw_tbl := List.mem_append_right _ (List.mem_of_getElem? (i := 556) (by decide +kernel))
theorem wl_23_21 : Cond.instanceMethod yX5_bestRule ∈ lw_tbl := List.mem_append_right _ (List.mem_of_getElem? (i := 557) (by decide +kernel))
theorem wl_23_22 : Cond.selects RX5 yX5_bestRule yX5_bestRule ∈ lw_tbl := List.mem_append_right _ (List.mem_of_getElem? (i := 558) (by decide +kernel))
set_option maxRecDepth 100000 in
theorem wl_23_23 : Cond.code yX5_bestRule cX5_bestRule 6 (some .int) ∈ lw_tbl := List.mem_append_right _ (List.mem_of_getElem? (i := 559) rfl)
theorem wlr_23 : ∀ w ∈ wsL_law_r23, w ∈ lw_tbl := List.forall_mem_cons.mpr ⟨wl_23_0, List.forall_mem_cons.mpr ⟨wl_23_1, List.forall_mem_cons.mpr ⟨wl_23_2, List.forall_mem_cons.mpr ⟨wl_23_3, List.forall_mem_cons.mpr ⟨wl_23_4, List.forall_mem_cons.mpr ⟨wl_23_5, List.forall_mem_cons.mpr ⟨wl_23_6, List.forall_mem_cons.mpr ⟨wl_23_7, List.forall_mem_cons.mpr ⟨wl_23_8, List.forall_mem_cons.mpr ⟨wl_23_9, List.forall_mem_cons.mpr ⟨wl_23_10, List.forall_mem_cons.mpr ⟨wl_23_11, List.forall_mem_cons.mpr ⟨wl_23_12, List.forall_mem_cons.mpr ⟨wl_23_13, List.forall_mem_cons.mpr ⟨wl_23_14, List.forall_mem_cons.mpr ⟨wl_23_15, List.forall_mem_cons.mpr ⟨wl_23_16, List.forall_mem_cons.mpr ⟨wl_23_17, List.forall_mem_cons.mpr ⟨wl_23_18, List.forall_mem_cons.mpr ⟨wl_23_19, List.forall_mem_cons.mpr ⟨wl_23_20, List.forall_mem_cons.mpr ⟨wl_23_21, List.forall_mem_cons.mpr ⟨wl_23_22, List.forall_mem_cons.mpr ⟨wl_23_23, fun _ h => absurd h List.not_mem_nil⟩⟩⟩⟩⟩⟩⟩⟩⟩⟩⟩⟩⟩⟩⟩⟩⟩⟩⟩⟩⟩⟩⟩⟩
theorem wl_24_0 : Cond.methodLink RL 88 yX5_bestLoad ∈ lw_tbl := List.mem_append_right _ (List.mem_of_getElem? (i := 564) (by decide +kernel))
theorem wl_24_1 : Cond.instanceMethod yX5_bestLoad ∈ lw_tbl := List.mem_append_right _ (List.mem_of_getElem? (i := 565) (by decide +kernel))
theorem wl_24_2 : Cond.selects RX5 yX5_bestLoad yX5_bestLoad ∈ lw_tbl := List.mem_append_right _ (List.mem_of_getElem? (i := 566) (by decide +kernel))
set_option maxRecDepth 100000 in
theorem wl_24_3 : Cond.code yX5_bestLoad cX5_bestLoad 8 (some .int) ∈ lw_tbl := List.mem_append_right _ (List.mem_of_getElem? (i := 567) rfl)
theorem wlr_24 : ∀ w ∈ wsL_law_r24, w ∈ lw_tbl := List.forall_mem_cons.mpr ⟨wl_24_0, List.forall_mem_cons.mpr ⟨wl_24_1, List.forall_mem_cons.mpr ⟨wl_24_2, List.forall_mem_cons.mpr ⟨wl_24_3, fun _ h => absurd h List.not_mem_nil⟩⟩⟩⟩
theorem wlx_0_0 : u_lay RX0 TX0 0 ∈ lw_tbl := List.mem_append_right _ (List.mem_of_getElem? (i := 283) (by decide +kernel))
theorem wlx_0_1 : u_lay RX0 TX0 1 ∈ lw_tbl := List.mem_append_right _ (List.mem_of_getElem? (i := 285) (by decide +kernel))
theorem wlx_0 : ∀ w ∈ wsX00, w ∈ lw_tbl := fun w h => by
  obtain ⟨k, hk, rfl⟩ := List.mem_map.mp h
  have hk := List.mem_range.mp hk
  rcases (show k = 0 ∨ k = 1 by omega) with rfl | rfl
  · exact wlx_0_0
  · exact wlx_0_1
theorem wlx_1_0 : u_lay RX1 TX1 0 ∈ lw_tbl := List.mem_append_right _ (List.mem_of_getElem? (i := 28) (by decide +kernel))
theorem wlx_1_1 : u_lay RX1 TX1 1 ∈ lw_tbl := List.mem_append_right _ (List.mem_of_getElem? (i := 30) (by decide +kernel))
theorem wlx_1 : ∀ w ∈ wsX10, w ∈ lw_tbl := fun w h => by
  obtain ⟨k, hk, rfl⟩ := List.mem_map.mp h
  have hk := List.mem_range.mp hk
  rcases (show k = 0 ∨ k = 1 by omega) with rfl | rfl
  · exact wlx_1_0
  · exact wlx_1_1
theorem wlx_2_0 : u_lay RX2 TX2 0 ∈ lw_tbl := List.mem_append_right _ (List.mem_of_getElem? (i := 114) (by decide +kernel))
theorem wlx_2_1 : u_lay RX2 TX2 1 ∈ lw_tbl := List.mem_append_right _ (List.mem_of_getElem? (i := 116) (by decide +kernel))
theorem wlx_2_2 : u_lay RX2 TX2 2 ∈ lw_tbl := List.mem_append_right _ (List.mem_of_getElem? (i := 118) (by decide +kernel))
theorem wlx_2_3 : u_lay RX2 TX2 3 ∈ lw_tbl := List.mem_append_right _ (List.mem_of_getElem? (i := 120) (by decide +kernel))
theorem wlx_2_4 : u_lay RX2 TX2 4 ∈ lw_tbl := List.mem_append_right _ (List.mem_of_getElem? (i := 122) (by decide +kernel))
theorem wlx_2_5 : u_lay RX2 TX2 5 ∈ lw_tbl := List.mem_append_right _ (List.mem_of_getElem? (i := 124) (by decide +kernel))
theorem wlx_2 : ∀ w ∈ wsX20, w ∈ lw_tbl := fun w h => by
  obtain ⟨k, hk, rfl⟩ := List.mem_map.mp h
  have hk := List.mem_range.mp hk
  rcases (show k = 0 ∨ k = 1 ∨ k = 2 ∨ k = 3 ∨ k = 4 ∨ k = 5 by omega) with rfl | rfl | rfl | rfl | rfl | rfl
  · exact wlx_2_0
  · exact wlx_2_1
  · exact wlx_2_2
  · exact wlx_2_3
  · exact wlx_2_4
  · exact wlx_2_5
theorem wlx_3_0 : u_lay RX3 TX3 0 ∈ lw_tbl := List.mem_append_right _ (List.mem_of_getElem? (i := 205) (by decide +kernel))
theorem wlx_3_1 : u_lay RX3 TX3 1 ∈ lw_tbl := List.mem_append_right _ (List.mem_of_getElem? (i := 207) (by decide +kernel))
theorem wlx_3_2 : u_lay RX3 TX3 2 ∈ lw_tbl := List.mem_append_right _ (List.mem_of_getElem? (i := 209) (by decide +kernel))
theorem wlx_3_3 : u_lay RX3 TX3 3 ∈ lw_tbl := List.mem_append_right _ (List.mem_of_getElem? (i := 211) (by decide +kernel))
theorem wlx_3_4 : u_lay RX3 TX3 4 ∈ lw_tbl := List.mem_append_right _ (List.mem_of_getElem? (i := 213) (by decide +kernel))
theorem wlx_3_5 : u_lay RX3 TX3 5 ∈ lw_tbl := List.mem_append_right _ (List.mem_of_getElem? (i := 215) (by decide +kernel))
theorem wlx_3_6 : u_lay RX3 TX3 6 ∈ lw_tbl := List.mem_append_right _ (List.mem_of_getElem? (i := 217) (by decide +kernel))
theorem wlx_3_7 : u_lay RX3 TX3 7 ∈ lw_tbl := List.mem_append_right _ (List.mem_of_getElem? (i := 219) (by decide +kernel))
theorem wlx_3_8 : u_lay RX3 TX3 8 ∈ lw_tbl := List.mem_append_right _ (List.mem_of_getElem? (i := 221) (by decide +kernel))
theorem wlx_3_9 : u_lay RX3 TX3 9 ∈ lw_tbl := List.mem_append_right _ (List.mem_of_getElem? (i := 223) (by decide +kernel))
theorem wlx_3_10 : u_lay RX3 TX3 10 ∈ lw_tbl := List.mem_append_right _ (List.mem_of_getElem? (i := 225) (by decide +kernel))
theorem wlx_3 : ∀ w ∈ wsX30, w ∈ lw_tbl := fun w h => by
  obtain ⟨k, hk, rfl⟩ := List.mem_map.mp h
  have hk := List.mem_range.mp hk
  rcases (show k = 0 ∨ k = 1 ∨ k = 2 ∨ k = 3 ∨ k = 4 ∨ k = 5 ∨ k = 6 ∨ k = 7 ∨ k = 8 ∨ k = 9 ∨ k = 10 by omega) with rfl | rfl | rfl | rfl | rfl | rfl | rfl | rfl | rfl | rfl | rfl
  · exact wlx_3_0
  · exact wlx_3_1
  · exact wlx_3_2
  · exact wlx_3_3
  · exact wlx_3_4
  · exact wlx_3_5
  · exact wlx_3_6
  · exact wlx_3_7
  · exact wlx_3_8
  · exact wlx_3_9
  · exact wlx_3_10
theorem wlx_4_0 : u_lay RX4 TX4 0 ∈ lw_tbl := List.mem_append_right _ (List.mem_of_getElem? (i := 162) (by decide +kernel))
theorem wlx_4_1 : u_lay RX4 TX4 1 ∈ lw_tbl := List.mem_append_right _ (List.mem_of_getElem? (i := 164) (by decide +kernel))
theorem wlx_4_2 : u_lay RX4 TX4 2 ∈ lw_tbl := List.mem_append_right _ (List.mem_of_getElem? (i := 166) (by decide +kernel))
theorem wlx_4_3 : u_lay RX4 TX4 3 ∈ lw_tbl := List.mem_append_right _ (List.mem_of_getElem? (i := 168) (by decide +kernel))
theorem wlx_4_4 : u_lay RX4 TX4 4 ∈ lw_tbl := List.mem_append_right _ (List.mem_of_getElem? (i := 170) (by decide +kernel))
theorem wlx_4_5 : u_lay RX4 TX4 5 ∈ lw_tbl := List.mem_append_right _ (List.mem_of_getElem? (i := 172) (by decide +kernel))
theorem wlx_4_6 : u_lay RX4 TX4 6 ∈ lw_tbl := List.mem_append_right _ (List.mem_of_getElem? (i := 174) (by decide +kernel))
theorem wlx_4_7 : u_lay RX4 TX4 7 ∈ lw_tbl := List.mem_append_right _ (List.mem_of_getElem? (i := 176) (by decide +kernel))
theorem wlx_4_8 : u_lay RX4 TX4 8 ∈ lw_tbl := List.mem_append_right _ (List.mem_of_getElem? (i := 178) (by decide +kernel))
theorem wlx_4_9 : u_lay RX4 TX4 9 ∈ lw_tbl := List.mem_append_right _ (List.mem_of_getElem? (i := 180) (by decide +kernel))
theorem wlx_4 : ∀ w ∈ wsX40, w ∈ lw_tbl := fun w h => by
  obtain ⟨k, hk, rfl⟩ := List.mem_map.mp h
  have hk := List.mem_range.mp hk
  rcases (show k = 0 ∨ k = 1 ∨ k = 2 ∨ k = 3 ∨ k = 4 ∨ k = 5 ∨ k = 6 ∨ k = 7 ∨ k = 8 ∨ k = 9 by omega) with rfl | rfl | rfl | rfl | rfl | rfl | rfl | rfl | rfl | rfl
  · exact wlx_4_0
  · exact wlx_4_1
  · exact wlx_4_2
  · exact wlx_4_3
  · exact wlx_4_4
  · exact wlx_4_5
  · exact wlx_4_6
  · exact wlx_4_7
  · exact wlx_4_8
  · exact wlx_4_9
theorem wlx_5_0 : u_lay RX5 TX5 0 ∈ lw_tbl := List.mem_append_right _ (List.mem_of_getElem? (i := 294) (by decide +kernel))
theorem wlx_5_1 : u_lay RX5 TX5 1 ∈ lw_tbl := List.mem_append_right _ (List.mem_of_getElem? (i := 296) (by decide +kernel))
theorem wlx_5_2 : u_lay RX5 TX5 2 ∈ lw_tbl := List.mem_append_right _ (List.mem_of_getElem? (i := 298) (by decide +kernel))
theorem wlx_5_3 : u_lay RX5 TX5 3 ∈ lw_tbl := List.mem_append_right _ (List.mem_of_getElem? (i := 300) (by decide +kernel))
theorem wlx_5_4 : u_lay RX5 TX5 4 ∈ lw_tbl := List.mem_append_right _ (List.mem_of_getElem? (i := 302) (by decide +kernel))
theorem wlx_5_5 : u_lay RX5 TX5 5 ∈ lw_tbl := List.mem_append_right _ (List.mem_of_getElem? (i := 304) (by decide +kernel))
theorem wlx_5 : ∀ w ∈ wsX50, w ∈ lw_tbl := fun w h => by
  obtain ⟨k, hk, rfl⟩ := List.mem_map.mp h
  have hk := List.mem_range.mp hk
  rcases (show k = 0 ∨ k = 1 ∨ k = 2 ∨ k = 3 ∨ k = 4 ∨ k = 5 by omega) with rfl | rfl | rfl | rfl | rfl | rfl
  · exact wlx_5_0
  · exact wlx_5_1
  · exact wlx_5_2
  · exact wlx_5_3
  · exact wlx_5_4
  · exact wlx_5_5
theorem wl_all : ∀ w ∈ wsL_law, w ∈ lw_tbl := by
  unfold wsL_law
  exact List.forall_mem_append.mpr ⟨List.forall_mem_append.mpr ⟨List.forall_mem_append.mpr ⟨List.forall_mem_append.mpr ⟨List.forall_mem_append.mpr ⟨List.forall_mem_append.mpr ⟨List.forall_mem_append.mpr ⟨List.forall_mem_append.mpr ⟨wlr_1, List.forall_mem_append.mpr ⟨wlr_2, List.forall_mem_append.mpr ⟨wlr_3, List.forall_mem_append.mpr ⟨wlr_4, List.forall_mem_append.mpr ⟨wlr_5, List.forall_mem_append.mpr ⟨wlr_6, List.forall_mem_append.mpr ⟨wlr_7, List.forall_mem_append.mpr ⟨wlr_8, List.forall_mem_append.mpr ⟨wlr_9, List.forall_mem_append.mpr ⟨wlr_10, List.forall_mem_append.mpr ⟨wlr_11, List.forall_mem_append.mpr ⟨wlr_12, List.forall_mem_append.mpr ⟨wlr_13, List.forall_mem_append.mpr ⟨wlr_14, List.forall_mem_append.mpr ⟨wlr_15, List.forall_mem_append.mpr ⟨wlr_16, List.forall_mem_append.mpr ⟨wlr_17, List.forall_mem_append.mpr ⟨wlr_18, List.forall_mem_append.mpr ⟨wlr_19, List.forall_mem_append.mpr ⟨wlr_20, List.forall_mem_append.mpr ⟨wlr_21, List.forall_mem_append.mpr ⟨wlr_22, List.forall_mem_append.mpr ⟨wlr_23, wlr_24⟩⟩⟩⟩⟩⟩⟩⟩⟩⟩⟩⟩⟩⟩⟩⟩⟩⟩⟩⟩⟩⟩⟩, wlx_5⟩, wlx_1⟩, wlx_3⟩, wlx_0⟩, wlx_2⟩, wlx_4⟩, fun _ h => absurd h List.not_mem_nil⟩
