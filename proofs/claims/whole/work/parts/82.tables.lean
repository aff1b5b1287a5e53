/-! every word of wsL_law stands in the tables, by its place -/
theorem wl_1_0 : Cond.classLink RL 7 RX5 ∈ lw_tbl := List.mem_append_right _ (List.mem_of_getElem? (i := 14) (by decide +kernel))
theorem wl_1_1 : Cond.instantiable RX5 6 ∈ lw_tbl := List.mem_append_right _ (List.mem_of_getElem? (i := 15) (by decide +kernel))
theorem wl_1_2 : Cond.initialized RX5 ∈ lw_tbl := List.mem_append_right _ (List.mem_of_getElem? (i := 1) (by decide +kernel))
theorem wl_1_3 : Cond.classLink RL 10 RX6 ∈ lw_tbl := List.mem_append_right _ (List.mem_of_getElem? (i := 631) (by decide +kernel))
theorem wl_1_4 : Cond.instantiable RX6 11 ∈ lw_tbl := List.mem_append_right _ (List.mem_of_getElem? (i := 632) (by decide +kernel))
theorem wl_1_5 : Cond.initialized RX6 ∈ lw_tbl := List.mem_append_right _ (List.mem_of_getElem? (i := 11) (by decide +kernel))
theorem wl_1_6 : Cond.methodLink RL 9 yX5_init ∈ lw_tbl := List.mem_append_right _ (List.mem_of_getElem? (i := 16) (by decide +kernel))
theorem wl_1_7 : Cond.instanceMethod yX5_init ∈ lw_tbl := List.mem_append_right _ (List.mem_of_getElem? (i := 17) (by decide +kernel))
set_option maxRecDepth 100000 in
theorem wl_1_8 : Cond.code yX5_init cX5_init 4 none ∈ lw_tbl := List.mem_append_right _ (List.mem_of_getElem? (i := 18) rfl)
theorem wl_1_9 : Cond.methodLink RX5 3 objectInit ∈ lw_tbl := List.mem_append_right _ (List.mem_of_getElem? (i := 19) (by decide +kernel))
theorem wl_1_10 : Cond.instanceMethod objectInit ∈ lw_tbl := List.mem_append_right _ (List.mem_of_getElem? (i := 20) (by decide +kernel))
set_option maxRecDepth 100000 in
theorem wl_1_11 : Cond.code objectInit ⟨#[0xb1]⟩ 1 none ∈ lw_tbl := List.mem_append_right _ (List.mem_of_getElem? (i := 21) rfl)
theorem wl_1_12 : Cond.classLink RX5 9 RX1 ∈ lw_tbl := List.mem_append_right _ (List.mem_of_getElem? (i := 22) (by decide +kernel))
theorem wl_1_13 : Cond.instantiable RX1 2 ∈ lw_tbl := List.mem_append_right _ (List.mem_of_getElem? (i := 23) (by decide +kernel))
theorem wl_1_14 : Cond.initialized RX1 ∈ lw_tbl := List.mem_append_right _ (List.mem_of_getElem? (i := 2) (by decide +kernel))
theorem wl_1_15 : Cond.classLink RX5 28 RX3 ∈ lw_tbl := List.mem_append_right _ (List.mem_of_getElem? (i := 89) (by decide +kernel))
theorem wl_1_16 : Cond.instantiable RX3 11 ∈ lw_tbl := List.mem_append_right _ (List.mem_of_getElem? (i := 90) (by decide +kernel))
theorem wl_1_17 : Cond.initialized RX3 ∈ lw_tbl := List.mem_append_right _ (List.mem_of_getElem? (i := 7) (by decide +kernel))
theorem wl_1_18 : Cond.fieldLink RX5 38 "PeatRailway" "text" "LPeatRailway$InputText;" ∈ lw_tbl := List.mem_append_right _ (List.mem_of_getElem? (i := 290) (by decide +kernel))
theorem wl_1_19 : Cond.fieldLink RX5 42 "PeatRailway" "now" "LPeatRailway$State;" ∈ lw_tbl := List.mem_append_right _ (List.mem_of_getElem? (i := 291) (by decide +kernel))
theorem wl_1_20 : Cond.fieldLink RX5 46 "PeatRailway" "trial" "LPeatRailway$State;" ∈ lw_tbl := List.mem_append_right _ (List.mem_of_getElem? (i := 292) (by decide +kernel))
theorem wl_1_21 : Cond.classLink RX5 49 RX0 ∈ lw_tbl := List.mem_append_right _ (List.mem_of_getElem? (i := 274) (by decide +kernel))
theorem wl_1_22 : Cond.instantiable RX0 2 ∈ lw_tbl := List.mem_append_right _ (List.mem_of_getElem? (i := 275) (by decide +kernel))
theorem wl_1_23 : Cond.initialized RX0 ∈ lw_tbl := List.mem_append_right _ (List.mem_of_getElem? (i := 10) (by decide +kernel))
theorem wlr_1 : ∀ w ∈ wsL_law_r1, w ∈ lw_tbl := List.forall_mem_cons.mpr ⟨wl_1_0, List.forall_mem_cons.mpr ⟨wl_1_1, List.forall_mem_cons.mpr ⟨wl_1_2, List.forall_mem_cons.mpr ⟨wl_1_3, List.forall_mem_cons.mpr ⟨wl_1_4, List.forall_mem_cons.mpr ⟨wl_1_5, List.forall_mem_cons.mpr ⟨wl_1_6, List.forall_mem_cons.mpr ⟨wl_1_7, List.forall_mem_cons.mpr ⟨wl_1_8, List.forall_mem_cons.mpr ⟨wl_1_9, List.forall_mem_cons.mpr ⟨wl_1_10, List.forall_mem_cons.mpr ⟨wl_1_11, List.forall_mem_cons.mpr ⟨wl_1_12, List.forall_mem_cons.mpr ⟨wl_1_13, List.forall_mem_cons.mpr ⟨wl_1_14, List.forall_mem_cons.mpr ⟨wl_1_15, List.forall_mem_cons.mpr ⟨wl_1_16, List.forall_mem_cons.mpr ⟨wl_1_17, List.forall_mem_cons.mpr ⟨wl_1_18, List.forall_mem_cons.mpr ⟨wl_1_19, List.forall_mem_cons.mpr ⟨wl_1_20, List.forall_mem_cons.mpr ⟨wl_1_21, List.forall_mem_cons.mpr ⟨wl_1_22, List.forall_mem_cons.mpr ⟨wl_1_23, fun _ h => absurd h List.not_mem_nil⟩⟩⟩⟩⟩⟩⟩⟩⟩⟩⟩⟩⟩⟩⟩⟩⟩⟩⟩⟩⟩⟩⟩⟩
theorem wl_2_0 : Cond.fieldLink RX5 52 "PeatRailway" "history" "LPeatRailway$History;" ∈ lw_tbl := List.mem_append_right _ (List.mem_of_getElem? (i := 293) (by decide +kernel))
theorem wl_2_1 : Cond.fieldLink RX5 56 "PeatRailway" "images" "[LPeatRailway$State;" ∈ lw_tbl := List.mem_append_right _ (List.mem_of_getElem? (i := 294) (by decide +kernel))
theorem wl_2_2 : Cond.methodLink RX5 11 yX1_init ∈ lw_tbl := List.mem_append_right _ (List.mem_of_getElem? (i := 24) (by decide +kernel))
theorem wl_2_3 : Cond.instanceMethod yX1_init ∈ lw_tbl := List.mem_append_right _ (List.mem_of_getElem? (i := 25) (by decide +kernel))
set_option maxRecDepth 100000 in
theorem wl_2_4 : Cond.code yX1_init cX1_init 1 none ∈ lw_tbl := List.mem_append_right _ (List.mem_of_getElem? (i := 26) rfl)
theorem wl_2_5 : Cond.methodLink RX1 3 objectInit ∈ lw_tbl := List.mem_append_right _ (List.mem_of_getElem? (i := 27) (by decide +kernel))
theorem wl_2_6 : Cond.arrayClass .char ∈ lw_tbl := List.mem_append_right _ (List.mem_of_getElem? (i := 35) (by decide +kernel))
theorem wl_2_7 : Cond.fieldLink RX1 9 "PeatRailway$InputText" "signs" "[C" ∈ lw_tbl := List.mem_append_right _ (List.mem_of_getElem? (i := 28) (by decide +kernel))
theorem wl_2_8 : Cond.methodLink RX5 14 yJ0_length_8abf5 ∈ lw_tbl := List.mem_append_right _ (List.mem_of_getElem? (i := 37) (by decide +kernel))
theorem wl_2_9 : Cond.instanceMethod yJ0_length_8abf5 ∈ lw_tbl := List.mem_append_right _ (List.mem_of_getElem? (i := 38) (by decide +kernel))
theorem wl_2_10 : Cond.selects RJ0 yJ0_length_8abf5 yJ0_length_8abf5 ∈ lw_tbl := List.mem_append_right _ (List.mem_of_getElem? (i := 39) (by decide +kernel))
theorem wl_2_11 : Cond.initialized RJ0 ∈ lw_tbl := List.mem_append_right _ (List.mem_of_getElem? (i := 3) (by decide +kernel))
set_option maxRecDepth 100000 in
theorem wl_2_12 : Cond.code yJ0_length_8abf5 cJ0_length_8abf5 1 (some .int) ∈ lw_tbl := List.mem_append_right _ (List.mem_of_getElem? (i := 40) rfl)
theorem wl_2_13 : Cond.fieldLink RJ0 9 "java/lang/String" "value" "[B" ∈ lw_tbl := List.mem_append_right _ (List.mem_of_getElem? (i := 938) (by decide +kernel))
theorem wl_2_14 : Cond.methodLink RJ0 335 yJ0_coder_7d493 ∈ lw_tbl := List.mem_append_right _ (List.mem_of_getElem? (i := 41) (by decide +kernel))
theorem wl_2_15 : Cond.instanceMethod yJ0_coder_7d493 ∈ lw_tbl := List.mem_append_right _ (List.mem_of_getElem? (i := 42) (by decide +kernel))
theorem wl_2_16 : Cond.selects RJ0 yJ0_coder_7d493 yJ0_coder_7d493 ∈ lw_tbl := List.mem_append_right _ (List.mem_of_getElem? (i := 43) (by decide +kernel))
set_option maxRecDepth 100000 in
theorem wl_2_17 : Cond.code yJ0_coder_7d493 cJ0_coder_7d493 1 (some .byte) ∈ lw_tbl := List.mem_append_right _ (List.mem_of_getElem? (i := 44) rfl)
theorem wl_2_18 : Cond.fieldLink RJ0 38 "java/lang/String" "COMPACT_STRINGS" "Z" ∈ lw_tbl := List.mem_append_right _ (List.mem_of_getElem? (i := 45) (by decide +kernel))
theorem wl_2_19 : Cond.fieldLink RJ0 15 "java/lang/String" "coder" "B" ∈ lw_tbl := List.mem_append_right _ (List.mem_of_getElem? (i := 939) (by decide +kernel))
theorem wl_2_20 : Cond.methodLink RX5 20 yJ0_charAt_5068e ∈ lw_tbl := List.mem_append_right _ (List.mem_of_getElem? (i := 47) (by decide +kernel))
theorem wl_2_21 : Cond.instanceMethod yJ0_charAt_5068e ∈ lw_tbl := List.mem_append_right _ (List.mem_of_getElem? (i := 48) (by decide +kernel))
theorem wl_2_22 : Cond.selects RJ0 yJ0_charAt_5068e yJ0_charAt_5068e ∈ lw_tbl := List.mem_append_right _ (List.mem_of_getElem? (i := 49) (by decide +kernel))
set_option maxRecDepth 100000 in
theorem wl_2_23 : Cond.code yJ0_charAt_5068e cJ0_charAt_5068e 2 (some .char) ∈ lw_tbl := List.mem_append_right _ (List.mem_of_getElem? (i := 50) rfl)
theorem wlr_2 : ∀ w ∈ wsL_law_r2, w ∈ lw_tbl := List.forall_mem_cons.mpr ⟨wl_2_0, List.forall_mem_cons.mpr ⟨wl_2_1, List.forall_mem_cons.mpr ⟨wl_2_2, List.forall_mem_cons.mpr ⟨wl_2_3, List.forall_mem_cons.mpr ⟨wl_2_4, List.forall_mem_cons.mpr ⟨wl_2_5, List.forall_mem_cons.mpr ⟨wl_2_6, List.forall_mem_cons.mpr ⟨wl_2_7, List.forall_mem_cons.mpr ⟨wl_2_8, List.forall_mem_cons.mpr ⟨wl_2_9, List.forall_mem_cons.mpr ⟨wl_2_10, List.forall_mem_cons.mpr ⟨wl_2_11, List.forall_mem_cons.mpr ⟨wl_2_12, List.forall_mem_cons.mpr ⟨wl_2_13, List.forall_mem_cons.mpr ⟨wl_2_14, List.forall_mem_cons.mpr ⟨wl_2_15, List.forall_mem_cons.mpr ⟨wl_2_16, List.forall_mem_cons.mpr ⟨wl_2_17, List.forall_mem_cons.mpr ⟨wl_2_18, List.forall_mem_cons.mpr ⟨wl_2_19, List.forall_mem_cons.mpr ⟨wl_2_20, List.forall_mem_cons.mpr ⟨wl_2_21, List.forall_mem_cons.mpr ⟨wl_2_22, List.forall_mem_cons.mpr ⟨wl_2_23, fun _ h => absurd h List.not_mem_nil⟩⟩⟩⟩⟩⟩⟩⟩⟩⟩⟩⟩⟩⟩⟩⟩⟩⟩⟩⟩⟩⟩⟩⟩
theorem wl_3_0 : Cond.methodLink RJ0 492 yJ0_isLatin1_aae02 ∈ lw_tbl := List.mem_append_right _ (List.mem_of_getElem? (i := 51) (by decide +kernel))
theorem wl_3_1 : Cond.instanceMethod yJ0_isLatin1_aae02 ∈ lw_tbl := List.mem_append_right _ (List.mem_of_getElem? (i := 52) (by decide +kernel))
theorem wl_3_2 : Cond.selects RJ0 yJ0_isLatin1_aae02 yJ0_isLatin1_aae02 ∈ lw_tbl := List.mem_append_right _ (List.mem_of_getElem? (i := 53) (by decide +kernel))
set_option maxRecDepth 100000 in
theorem wl_3_3 : Cond.code yJ0_isLatin1_aae02 cJ0_isLatin1_aae02 1 (some .boolean) ∈ lw_tbl := List.mem_append_right _ (List.mem_of_getElem? (i := 54) rfl)
theorem wl_3_4 : Cond.methodLink RJ0 495 yJ1_charAt_3b067 ∈ lw_tbl := List.mem_append_right _ (List.mem_of_getElem? (i := 55) (by decide +kernel))
theorem wl_3_5 : Cond.static yJ1_charAt_3b067 ∈ lw_tbl := List.mem_append_right _ (List.mem_of_getElem? (i := 56) (by decide +kernel))
theorem wl_3_6 : Cond.initialized RJ1 ∈ lw_tbl := List.mem_append_right _ (List.mem_of_getElem? (i := 4) (by decide +kernel))
set_option maxRecDepth 100000 in
theorem wl_3_7 : Cond.code yJ1_charAt_3b067 cJ1_charAt_3b067 2 (some .char) ∈ lw_tbl := List.mem_append_right _ (List.mem_of_getElem? (i := 57) rfl)
theorem wl_3_8 : Cond.methodLink RJ1 9 yJ0_checkIndex_df160 ∈ lw_tbl := List.mem_append_right _ (List.mem_of_getElem? (i := 58) (by decide +kernel))
theorem wl_3_9 : Cond.static yJ0_checkIndex_df160 ∈ lw_tbl := List.mem_append_right _ (List.mem_of_getElem? (i := 59) (by decide +kernel))
set_option maxRecDepth 100000 in
theorem wl_3_10 : Cond.code yJ0_checkIndex_df160 cJ0_checkIndex_df160 2 none ∈ lw_tbl := List.mem_append_right _ (List.mem_of_getElem? (i := 60) rfl)
theorem wl_3_11 : Cond.fieldLink RJ0 1053 "jdk/internal/util/Preconditions" "SIOOBE_FORMATTER" "Ljava/util/function/BiFunction;" ∈ lw_tbl := List.mem_append_right _ (List.mem_of_getElem? (i := 61) (by decide +kernel))
theorem wl_3_12 : Cond.methodLink RJ0 1059 yJ3_checkIndex_8e157 ∈ lw_tbl := List.mem_append_right _ (List.mem_of_getElem? (i := 63) (by decide +kernel))
theorem wl_3_13 : Cond.static yJ3_checkIndex_8e157 ∈ lw_tbl := List.mem_append_right _ (List.mem_of_getElem? (i := 64) (by decide +kernel))
theorem wl_3_14 : Cond.initialized RJ3 ∈ lw_tbl := List.mem_append_right _ (List.mem_of_getElem? (i := 5) (by decide +kernel))
set_option maxRecDepth 100000 in
theorem wl_3_15 : Cond.code yJ3_checkIndex_8e157 cJ3_checkIndex_8e157 3 (some .int) ∈ lw_tbl := List.mem_append_right _ (List.mem_of_getElem? (i := 65) rfl)
theorem wl_3_16 : Cond.methodLink RJ0 498 yJ2_charAt_3b067 ∈ lw_tbl := List.mem_append_right _ (List.mem_of_getElem? (i := 66) (by decide +kernel))
theorem wl_3_17 : Cond.static yJ2_charAt_3b067 ∈ lw_tbl := List.mem_append_right _ (List.mem_of_getElem? (i := 67) (by decide +kernel))
theorem wl_3_18 : Cond.initialized RJ2 ∈ lw_tbl := List.mem_append_right _ (List.mem_of_getElem? (i := 6) (by decide +kernel))
set_option maxRecDepth 100000 in
theorem wl_3_19 : Cond.code yJ2_charAt_3b067 cJ2_charAt_3b067 2 (some .char) ∈ lw_tbl := List.mem_append_right _ (List.mem_of_getElem? (i := 68) rfl)
theorem wl_3_20 : Cond.methodLink RJ2 67 yJ2_checkIndex_2214a ∈ lw_tbl := List.mem_append_right _ (List.mem_of_getElem? (i := 69) (by decide +kernel))
theorem wl_3_21 : Cond.static yJ2_checkIndex_2214a ∈ lw_tbl := List.mem_append_right _ (List.mem_of_getElem? (i := 70) (by decide +kernel))
set_option maxRecDepth 100000 in
theorem wl_3_22 : Cond.code yJ2_checkIndex_2214a cJ2_checkIndex_2214a 2 none ∈ lw_tbl := List.mem_append_right _ (List.mem_of_getElem? (i := 71) rfl)
theorem wl_3_23 : Cond.methodLink RJ2 48 yJ2_length_9d52b ∈ lw_tbl := List.mem_append_right _ (List.mem_of_getElem? (i := 72) (by decide +kernel))
theorem wlr_3 : ∀ w ∈ wsL_law_r3, w ∈ lw_tbl := List.forall_mem_cons.mpr ⟨wl_3_0, List.forall_mem_cons.mpr ⟨wl_3_1, List.forall_mem_cons.mpr ⟨wl_3_2, List.forall_mem_cons.mpr ⟨wl_3_3, List.forall_mem_cons.mpr ⟨wl_3_4, List.forall_mem_cons.mpr ⟨wl_3_5, List.forall_mem_cons.mpr ⟨wl_3_6, List.forall_mem_cons.mpr ⟨wl_3_7, List.forall_mem_cons.mpr ⟨wl_3_8, List.forall_mem_cons.mpr ⟨wl_3_9, List.forall_mem_cons.mpr ⟨wl_3_10, List.forall_mem_cons.mpr ⟨wl_3_11, List.forall_mem_cons.mpr ⟨wl_3_12, List.forall_mem_cons.mpr ⟨wl_3_13, List.forall_mem_cons.mpr ⟨wl_3_14, List.forall_mem_cons.mpr ⟨wl_3_15, List.forall_mem_cons.mpr ⟨wl_3_16, List.forall_mem_cons.mpr ⟨wl_3_17, List.forall_mem_cons.mpr ⟨wl_3_18, List.forall_mem_cons.mpr ⟨wl_3_19, List.forall_mem_cons.mpr ⟨wl_3_20, List.forall_mem_cons.mpr ⟨wl_3_21, List.forall_mem_cons.mpr ⟨wl_3_22, List.forall_mem_cons.mpr ⟨wl_3_23, fun _ h => absurd h List.not_mem_nil⟩⟩⟩⟩⟩⟩⟩⟩⟩⟩⟩⟩⟩⟩⟩⟩⟩⟩⟩⟩⟩⟩⟩⟩
theorem wl_4_0 : Cond.static yJ2_length_9d52b ∈ lw_tbl := List.mem_append_right _ (List.mem_of_getElem? (i := 73) (by decide +kernel))
set_option maxRecDepth 100000 in
theorem wl_4_1 : Cond.code yJ2_length_9d52b cJ2_length_9d52b 1 (some .int) ∈ lw_tbl := List.mem_append_right _ (List.mem_of_getElem? (i := 74) rfl)
theorem wl_4_2 : Cond.methodLink RJ2 414 yJ0_checkIndex_df160 ∈ lw_tbl := List.mem_append_right _ (List.mem_of_getElem? (i := 75) (by decide +kernel))
theorem wl_4_3 : Cond.methodLink RJ2 71 yJ2_getChar_3b067 ∈ lw_tbl := List.mem_append_right _ (List.mem_of_getElem? (i := 76) (by decide +kernel))
theorem wl_4_4 : Cond.static yJ2_getChar_3b067 ∈ lw_tbl := List.mem_append_right _ (List.mem_of_getElem? (i := 77) (by decide +kernel))
set_option maxRecDepth 100000 in
theorem wl_4_5 : Cond.code yJ2_getChar_3b067 cJ2_getChar_3b067 2 (some .char) ∈ lw_tbl := List.mem_append_right _ (List.mem_of_getElem? (i := 78) rfl)
theorem wl_4_6 : Cond.fieldLink RJ2 44 "java/lang/StringUTF16" "$assertionsDisabled" "Z" ∈ lw_tbl := List.mem_append_right _ (List.mem_of_getElem? (i := 79) (by decide +kernel))
theorem wl_4_7 : Cond.fieldLink RJ2 59 "java/lang/StringUTF16" "HI_BYTE_SHIFT" "I" ∈ lw_tbl := List.mem_append_right _ (List.mem_of_getElem? (i := 81) (by decide +kernel))
theorem wl_4_8 : Cond.fieldLink RJ2 63 "java/lang/StringUTF16" "LO_BYTE_SHIFT" "I" ∈ lw_tbl := List.mem_append_right _ (List.mem_of_getElem? (i := 83) (by decide +kernel))
theorem wl_4_9 : Cond.methodLink RX5 24 yX1_append ∈ lw_tbl := List.mem_append_right _ (List.mem_of_getElem? (i := 85) (by decide +kernel))
theorem wl_4_10 : Cond.instanceMethod yX1_append ∈ lw_tbl := List.mem_append_right _ (List.mem_of_getElem? (i := 86) (by decide +kernel))
theorem wl_4_11 : Cond.selects RX1 yX1_append yX1_append ∈ lw_tbl := List.mem_append_right _ (List.mem_of_getElem? (i := 87) (by decide +kernel))
set_option maxRecDepth 100000 in
theorem wl_4_12 : Cond.code yX1_append cX1_append 2 none ∈ lw_tbl := List.mem_append_right _ (List.mem_of_getElem? (i := 88) rfl)
theorem wl_4_13 : Cond.fieldLink RX1 15 "PeatRailway$InputText" "length" "I" ∈ lw_tbl := List.mem_append_right _ (List.mem_of_getElem? (i := 29) (by decide +kernel))
theorem wl_4_14 : Cond.methodLink RX5 30 yX3_init ∈ lw_tbl := List.mem_append_right _ (List.mem_of_getElem? (i := 91) (by decide +kernel))
theorem wl_4_15 : Cond.instanceMethod yX3_init ∈ lw_tbl := List.mem_append_right _ (List.mem_of_getElem? (i := 92) (by decide +kernel))
set_option maxRecDepth 100000 in
theorem wl_4_16 : Cond.code yX3_init cX3_init 2 none ∈ lw_tbl := List.mem_append_right _ (List.mem_of_getElem? (i := 93) rfl)
theorem wl_4_17 : Cond.methodLink RX3 3 objectInit ∈ lw_tbl := List.mem_append_right _ (List.mem_of_getElem? (i := 94) (by decide +kernel))
theorem wl_4_18 : Cond.classLink RX3 9 RX2 ∈ lw_tbl := List.mem_append_right _ (List.mem_of_getElem? (i := 95) (by decide +kernel))
theorem wl_4_19 : Cond.fieldLink RX3 11 "PeatRailway$State" "segments" "[LPeatRailway$Segment;" ∈ lw_tbl := List.mem_append_right _ (List.mem_of_getElem? (i := 187) (by decide +kernel))
theorem wl_4_20 : Cond.instantiable RX2 6 ∈ lw_tbl := List.mem_append_right _ (List.mem_of_getElem? (i := 97) (by decide +kernel))
theorem wl_4_21 : Cond.initialized RX2 ∈ lw_tbl := List.mem_append_right _ (List.mem_of_getElem? (i := 8) (by decide +kernel))
theorem wl_4_22 : Cond.classLink RX3 18 RX4 ∈ lw_tbl := List.mem_append_right _ (List.mem_of_getElem? (i := 130) (by decide +kernel))
theorem wl_4_23 : Cond.fieldLink RX3 20 "PeatRailway$State" "trains" "[LPeatRailway$Train;" ∈ lw_tbl := List.mem_append_right _ (List.mem_of_getElem? (i := 188) (by decide +kernel))
theorem wlr_4 : ∀ w ∈ wsL_law_r4, w ∈ lw_tbl := List.forall_mem_cons.mpr ⟨wl_4_0, List.forall_mem_cons.mpr ⟨wl_4_1, List.forall_mem_cons.mpr ⟨wl_4_2, List.forall_mem_cons.mpr ⟨wl_4_3, List.forall_mem_cons.mpr ⟨wl_4_4, List.forall_mem_cons.mpr ⟨wl_4_5, List.forall_mem_cons.mpr ⟨wl_4_6, List.forall_mem_cons.mpr ⟨wl_4_7, List.forall_mem_cons.mpr ⟨wl_4_8, List.forall_mem_cons.mpr ⟨wl_4_9, List.forall_mem_cons.mpr ⟨wl_4_10, List.forall_mem_cons.mpr ⟨wl_4_11, List.forall_mem_cons.mpr ⟨wl_4_12, List.forall_mem_cons.mpr ⟨wl_4_13, List.forall_mem_cons.mpr ⟨wl_4_14, List.forall_mem_cons.mpr ⟨wl_4_15, List.forall_mem_cons.mpr ⟨wl_4_16, List.forall_mem_cons.mpr ⟨wl_4_17, List.forall_mem_cons.mpr ⟨wl_4_18, List.forall_mem_cons.mpr ⟨wl_4_19, List.forall_mem_cons.mpr ⟨wl_4_20, List.forall_mem_cons.mpr ⟨wl_4_21, List.forall_mem_cons.mpr ⟨wl_4_22, List.forall_mem_cons.mpr ⟨wl_4_23, fun _ h => absurd h List.not_mem_nil⟩⟩⟩⟩⟩⟩⟩⟩⟩⟩⟩⟩⟩⟩⟩⟩⟩⟩⟩⟩⟩⟩⟩⟩
theorem wl_5_0 : Cond.instantiable RX4 10 ∈ lw_tbl := List.mem_append_right _ (List.mem_of_getElem? (i := 132) (by decide +kernel))
theorem wl_5_1 : Cond.initialized RX4 ∈ lw_tbl := List.mem_append_right _ (List.mem_of_getElem? (i := 9) (by decide +kernel))
theorem wl_5_2 : Cond.arrayClass .int ∈ lw_tbl := List.mem_append_right _ (List.mem_of_getElem? (i := 230) (by decide +kernel))
theorem wl_5_3 : Cond.fieldLink RX3 25 "PeatRailway$State" "settings" "[I" ∈ lw_tbl := List.mem_append_right _ (List.mem_of_getElem? (i := 189) (by decide +kernel))
theorem wl_5_4 : Cond.instanceMethod yX2_init ∈ lw_tbl := List.mem_append_right _ (List.mem_of_getElem? (i := 99) (by decide +kernel))
set_option maxRecDepth 100000 in
theorem wl_5_5 : Cond.code yX2_init cX2_init 1 none ∈ lw_tbl := List.mem_append_right _ (List.mem_of_getElem? (i := 100) rfl)
theorem wl_5_6 : Cond.methodLink RX2 3 objectInit ∈ lw_tbl := List.mem_append_right _ (List.mem_of_getElem? (i := 101) (by decide +kernel))
theorem wl_5_7 : Cond.instanceMethod yX4_init ∈ lw_tbl := List.mem_append_right _ (List.mem_of_getElem? (i := 134) (by decide +kernel))
set_option maxRecDepth 100000 in
theorem wl_5_8 : Cond.code yX4_init cX4_init 1 none ∈ lw_tbl := List.mem_append_right _ (List.mem_of_getElem? (i := 135) rfl)
theorem wl_5_9 : Cond.methodLink RX4 3 objectInit ∈ lw_tbl := List.mem_append_right _ (List.mem_of_getElem? (i := 136) (by decide +kernel))
theorem wl_5_10 : Cond.methodLink RX5 31 yX1_layOnto ∈ lw_tbl := List.mem_append_right _ (List.mem_of_getElem? (i := 231) (by decide +kernel))
theorem wl_5_11 : Cond.instanceMethod yX1_layOnto ∈ lw_tbl := List.mem_append_right _ (List.mem_of_getElem? (i := 232) (by decide +kernel))
theorem wl_5_12 : Cond.selects RX1 yX1_layOnto yX1_layOnto ∈ lw_tbl := List.mem_append_right _ (List.mem_of_getElem? (i := 233) (by decide +kernel))
set_option maxRecDepth 100000 in
theorem wl_5_13 : Cond.code yX1_layOnto cX1_layOnto 4 none ∈ lw_tbl := List.mem_append_right _ (List.mem_of_getElem? (i := 234) rfl)
theorem wl_5_14 : Cond.methodLink RX1 27 yX3_beginTrack ∈ lw_tbl := List.mem_append_right _ (List.mem_of_getElem? (i := 235) (by decide +kernel))
theorem wl_5_15 : Cond.instanceMethod yX3_beginTrack ∈ lw_tbl := List.mem_append_right _ (List.mem_of_getElem? (i := 236) (by decide +kernel))
theorem wl_5_16 : Cond.selects RX3 yX3_beginTrack yX3_beginTrack ∈ lw_tbl := List.mem_append_right _ (List.mem_of_getElem? (i := 237) (by decide +kernel))
set_option maxRecDepth 100000 in
theorem wl_5_17 : Cond.code yX3_beginTrack cX3_beginTrack 1 none ∈ lw_tbl := List.mem_append_right _ (List.mem_of_getElem? (i := 238) rfl)
theorem wl_5_18 : Cond.fieldLink RX3 32 "PeatRailway$State" "segmentCount" "I" ∈ lw_tbl := List.mem_append_right _ (List.mem_of_getElem? (i := 191) (by decide +kernel))
theorem wl_5_19 : Cond.methodLink RX1 19 yX1_codeAt ∈ lw_tbl := List.mem_append_right _ (List.mem_of_getElem? (i := 239) (by decide +kernel))
theorem wl_5_20 : Cond.instanceMethod yX1_codeAt ∈ lw_tbl := List.mem_append_right _ (List.mem_of_getElem? (i := 240) (by decide +kernel))
theorem wl_5_21 : Cond.selects RX1 yX1_codeAt yX1_codeAt ∈ lw_tbl := List.mem_append_right _ (List.mem_of_getElem? (i := 241) (by decide +kernel))
set_option maxRecDepth 100000 in
theorem wl_5_22 : Cond.code yX1_codeAt cX1_codeAt 2 (some .int) ∈ lw_tbl := List.mem_append_right _ (List.mem_of_getElem? (i := 242) rfl)
theorem wl_5_23 : Cond.methodLink RX1 23 yX1_isDigit ∈ lw_tbl := List.mem_append_right _ (List.mem_of_getElem? (i := 243) (by decide +kernel))
theorem wlr_5 : ∀ w ∈ wsL_law_r5, w ∈ lw_tbl := List.forall_mem_cons.mpr ⟨wl_5_0, List.forall_mem_cons.mpr ⟨wl_5_1, List.forall_mem_cons.mpr ⟨wl_5_2, List.forall_mem_cons.mpr ⟨wl_5_3, List.forall_mem_cons.mpr ⟨wl_5_4, List.forall_mem_cons.mpr ⟨wl_5_5, List.forall_mem_cons.mpr ⟨wl_5_6, List.forall_mem_cons.mpr ⟨wl_5_7, List.forall_mem_cons.mpr ⟨wl_5_8, List.forall_mem_cons.mpr ⟨wl_5_9, List.forall_mem_cons.mpr ⟨wl_5_10, List.forall_mem_cons.mpr ⟨wl_5_11, List.forall_mem_cons.mpr ⟨wl_5_12, List.forall_mem_cons.mpr ⟨wl_5_13, List.forall_mem_cons.mpr ⟨wl_5_14, List.forall_mem_cons.mpr ⟨wl_5_15, List.forall_mem_cons.mpr ⟨wl_5_16, List.forall_mem_cons.mpr ⟨wl_5_17, List.forall_mem_cons.mpr ⟨wl_5_18, List.forall_mem_cons.mpr ⟨wl_5_19, List.forall_mem_cons.mpr ⟨wl_5_20, List.forall_mem_cons.mpr ⟨wl_5_21, List.forall_mem_cons.mpr ⟨wl_5_22, List.forall_mem_cons.mpr ⟨wl_5_23, fun _ h => absurd h List.not_mem_nil⟩⟩⟩⟩⟩⟩⟩⟩⟩⟩⟩⟩⟩⟩⟩⟩⟩⟩⟩⟩⟩⟩⟩⟩
theorem wl_6_0 : Cond.static yX1_isDigit ∈ lw_tbl := List.mem_append_right _ (List.mem_of_getElem? (i := 244) (by decide +kernel))
set_option maxRecDepth 100000 in
theorem wl_6_1 : Cond.code yX1_isDigit cX1_isDigit 1 (some .boolean) ∈ lw_tbl := List.mem_append_right _ (List.mem_of_getElem? (i := 245) rfl)
theorem wl_6_2 : Cond.methodLink RX1 32 yX3_appendSegment ∈ lw_tbl := List.mem_append_right _ (List.mem_of_getElem? (i := 246) (by decide +kernel))
theorem wl_6_3 : Cond.instanceMethod yX3_appendSegment ∈ lw_tbl := List.mem_append_right _ (List.mem_of_getElem? (i := 247) (by decide +kernel))
theorem wl_6_4 : Cond.selects RX3 yX3_appendSegment yX3_appendSegment ∈ lw_tbl := List.mem_append_right _ (List.mem_of_getElem? (i := 248) (by decide +kernel))
set_option maxRecDepth 100000 in
theorem wl_6_5 : Cond.code yX3_appendSegment cX3_appendSegment 3 none ∈ lw_tbl := List.mem_append_right _ (List.mem_of_getElem? (i := 249) rfl)
theorem wl_6_6 : Cond.methodLink RX3 61 yX3_segmentAt ∈ lw_tbl := List.mem_append_right _ (List.mem_of_getElem? (i := 250) (by decide +kernel))
theorem wl_6_7 : Cond.instanceMethod yX3_segmentAt ∈ lw_tbl := List.mem_append_right _ (List.mem_of_getElem? (i := 251) (by decide +kernel))
theorem wl_6_8 : Cond.selects RX3 yX3_segmentAt yX3_segmentAt ∈ lw_tbl := List.mem_append_right _ (List.mem_of_getElem? (i := 252) (by decide +kernel))
set_option maxRecDepth 100000 in
theorem wl_6_9 : Cond.code yX3_segmentAt cX3_segmentAt 2 (some (.object "PeatRailway$Segment")) ∈ lw_tbl := List.mem_append_right _ (List.mem_of_getElem? (i := 253) rfl)
theorem wl_6_10 : Cond.methodLink RX3 65 yX2_layDown ∈ lw_tbl := List.mem_append_right _ (List.mem_of_getElem? (i := 254) (by decide +kernel))
theorem wl_6_11 : Cond.instanceMethod yX2_layDown ∈ lw_tbl := List.mem_append_right _ (List.mem_of_getElem? (i := 255) (by decide +kernel))
theorem wl_6_12 : Cond.selects RX2 yX2_layDown yX2_layDown ∈ lw_tbl := List.mem_append_right _ (List.mem_of_getElem? (i := 256) (by decide +kernel))
set_option maxRecDepth 100000 in
theorem wl_6_13 : Cond.code yX2_layDown cX2_layDown 2 none ∈ lw_tbl := List.mem_append_right _ (List.mem_of_getElem? (i := 257) rfl)
theorem wl_6_14 : Cond.fieldLink RX2 9 "PeatRailway$Segment" "softness" "I" ∈ lw_tbl := List.mem_append_right _ (List.mem_of_getElem? (i := 102) (by decide +kernel))
theorem wl_6_15 : Cond.fieldLink RX2 15 "PeatRailway$Segment" "room" "I" ∈ lw_tbl := List.mem_append_right _ (List.mem_of_getElem? (i := 104) (by decide +kernel))
theorem wl_6_16 : Cond.fieldLink RX2 18 "PeatRailway$Segment" "sinking" "I" ∈ lw_tbl := List.mem_append_right _ (List.mem_of_getElem? (i := 107) (by decide +kernel))
theorem wl_6_17 : Cond.methodLink RX1 36 yX3_widenLatestSegment ∈ lw_tbl := List.mem_append_right _ (List.mem_of_getElem? (i := 258) (by decide +kernel))
theorem wl_6_18 : Cond.instanceMethod yX3_widenLatestSegment ∈ lw_tbl := List.mem_append_right _ (List.mem_of_getElem? (i := 259) (by decide +kernel))
theorem wl_6_19 : Cond.selects RX3 yX3_widenLatestSegment yX3_widenLatestSegment ∈ lw_tbl := List.mem_append_right _ (List.mem_of_getElem? (i := 260) (by decide +kernel))
set_option maxRecDepth 100000 in
theorem wl_6_20 : Cond.code yX3_widenLatestSegment cX3_widenLatestSegment 2 none ∈ lw_tbl := List.mem_append_right _ (List.mem_of_getElem? (i := 261) rfl)
theorem wl_6_21 : Cond.fieldLink RX3 69 "PeatRailway$Segment" "room" "I" ∈ lw_tbl := List.mem_append_right _ (List.mem_of_getElem? (i := 105) (by decide +kernel))
theorem wl_6_22 : Cond.methodLink RX1 39 yX3_endTrack ∈ lw_tbl := List.mem_append_right _ (List.mem_of_getElem? (i := 262) (by decide +kernel))
theorem wl_6_23 : Cond.instanceMethod yX3_endTrack ∈ lw_tbl := List.mem_append_right _ (List.mem_of_getElem? (i := 263) (by decide +kernel))
theorem wlr_6 : ∀ w ∈ wsL_law_r6, w ∈ lw_tbl := List.forall_mem_cons.mpr ⟨wl_6_0, List.forall_mem_cons.mpr ⟨wl_6_1, List.forall_mem_cons.mpr ⟨wl_6_2, List.forall_mem_cons.mpr ⟨wl_6_3, List.forall_mem_cons.mpr ⟨wl_6_4, List.forall_mem_cons.mpr ⟨wl_6_5, List.forall_mem_cons.mpr ⟨wl_6_6, List.forall_mem_cons.mpr ⟨wl_6_7, List.forall_mem_cons.mpr ⟨wl_6_8, List.forall_mem_cons.mpr ⟨wl_6_9, List.forall_mem_cons.mpr ⟨wl_6_10, List.forall_mem_cons.mpr ⟨wl_6_11, List.forall_mem_cons.mpr ⟨wl_6_12, List.forall_mem_cons.mpr ⟨wl_6_13, List.forall_mem_cons.mpr ⟨wl_6_14, List.forall_mem_cons.mpr ⟨wl_6_15, List.forall_mem_cons.mpr ⟨wl_6_16, List.forall_mem_cons.mpr ⟨wl_6_17, List.forall_mem_cons.mpr ⟨wl_6_18, List.forall_mem_cons.mpr ⟨wl_6_19, List.forall_mem_cons.mpr ⟨wl_6_20, List.forall_mem_cons.mpr ⟨wl_6_21, List.forall_mem_cons.mpr ⟨wl_6_22, List.forall_mem_cons.mpr ⟨wl_6_23, fun _ h => absurd h List.not_mem_nil⟩⟩⟩⟩⟩⟩⟩⟩⟩⟩⟩⟩⟩⟩⟩⟩⟩⟩⟩⟩⟩⟩⟩⟩
theorem wl_7_0 : Cond.selects RX3 yX3_endTrack yX3_endTrack ∈ lw_tbl := List.mem_append_right _ (List.mem_of_getElem? (i := 264) (by decide +kernel))
set_option maxRecDepth 100000 in
theorem wl_7_1 : Cond.code yX3_endTrack cX3_endTrack 6 none ∈ lw_tbl := List.mem_append_right _ (List.mem_of_getElem? (i := 265) rfl)
theorem wl_7_2 : Cond.fieldLink RX3 72 "PeatRailway$Segment" "passingBelow" "I" ∈ lw_tbl := List.mem_append_right _ (List.mem_of_getElem? (i := 113) (by decide +kernel))
theorem wl_7_3 : Cond.fieldLink RX3 79 "PeatRailway$Segment" "passingAbove" "I" ∈ lw_tbl := List.mem_append_right _ (List.mem_of_getElem? (i := 111) (by decide +kernel))
theorem wl_7_4 : Cond.methodLink RX3 75 yX2_isPassingPlace ∈ lw_tbl := List.mem_append_right _ (List.mem_of_getElem? (i := 266) (by decide +kernel))
theorem wl_7_5 : Cond.instanceMethod yX2_isPassingPlace ∈ lw_tbl := List.mem_append_right _ (List.mem_of_getElem? (i := 267) (by decide +kernel))
theorem wl_7_6 : Cond.selects RX2 yX2_isPassingPlace yX2_isPassingPlace ∈ lw_tbl := List.mem_append_right _ (List.mem_of_getElem? (i := 268) (by decide +kernel))
set_option maxRecDepth 100000 in
theorem wl_7_7 : Cond.code yX2_isPassingPlace cX2_isPassingPlace 1 (some .boolean) ∈ lw_tbl := List.mem_append_right _ (List.mem_of_getElem? (i := 269) rfl)
theorem wl_7_8 : Cond.methodLink RX5 35 yX1_wipe ∈ lw_tbl := List.mem_append_right _ (List.mem_of_getElem? (i := 270) (by decide +kernel))
theorem wl_7_9 : Cond.instanceMethod yX1_wipe ∈ lw_tbl := List.mem_append_right _ (List.mem_of_getElem? (i := 271) (by decide +kernel))
theorem wl_7_10 : Cond.selects RX1 yX1_wipe yX1_wipe ∈ lw_tbl := List.mem_append_right _ (List.mem_of_getElem? (i := 272) (by decide +kernel))
set_option maxRecDepth 100000 in
theorem wl_7_11 : Cond.code yX1_wipe cX1_wipe 1 none ∈ lw_tbl := List.mem_append_right _ (List.mem_of_getElem? (i := 273) rfl)
theorem wl_7_12 : Cond.methodLink RX5 51 yX0_init ∈ lw_tbl := List.mem_append_right _ (List.mem_of_getElem? (i := 276) (by decide +kernel))
theorem wl_7_13 : Cond.instanceMethod yX0_init ∈ lw_tbl := List.mem_append_right _ (List.mem_of_getElem? (i := 277) (by decide +kernel))
set_option maxRecDepth 100000 in
theorem wl_7_14 : Cond.code yX0_init cX0_init 2 none ∈ lw_tbl := List.mem_append_right _ (List.mem_of_getElem? (i := 278) rfl)
theorem wl_7_15 : Cond.methodLink RX0 3 objectInit ∈ lw_tbl := List.mem_append_right _ (List.mem_of_getElem? (i := 279) (by decide +kernel))
theorem wl_7_16 : Cond.classLink RX0 9 RX3 ∈ lw_tbl := List.mem_append_right _ (List.mem_of_getElem? (i := 280) (by decide +kernel))
theorem wl_7_17 : Cond.fieldLink RX0 11 "PeatRailway$History" "states" "[LPeatRailway$State;" ∈ lw_tbl := List.mem_append_right _ (List.mem_of_getElem? (i := 283) (by decide +kernel))
theorem wl_7_18 : Cond.methodLink RX0 17 yX3_init ∈ lw_tbl := List.mem_append_right _ (List.mem_of_getElem? (i := 282) (by decide +kernel))
theorem wl_7_19 : Cond.methodLink RL 12 yX6_init ∈ lw_tbl := List.mem_append_right _ (List.mem_of_getElem? (i := 633) (by decide +kernel))
theorem wl_7_20 : Cond.instanceMethod yX6_init ∈ lw_tbl := List.mem_append_right _ (List.mem_of_getElem? (i := 634) (by decide +kernel))
set_option maxRecDepth 100000 in
theorem wl_7_21 : Cond.code yX6_init cX6_init 2 none ∈ lw_tbl := List.mem_append_right _ (List.mem_of_getElem? (i := 635) rfl)
theorem wl_7_22 : Cond.methodLink RX6 1 objectInit ∈ lw_tbl := List.mem_append_right _ (List.mem_of_getElem? (i := 636) (by decide +kernel))
theorem wl_7_23 : Cond.fieldLink RX6 7 "PeatRailwayModel" "z" "[I" ∈ lw_tbl := List.mem_append_right _ (List.mem_of_getElem? (i := 641) (by decide +kernel))
theorem wlr_7 : ∀ w ∈ wsL_law_r7, w ∈ lw_tbl := List.forall_mem_cons.mpr ⟨wl_7_0, List.forall_mem_cons.mpr ⟨wl_7_1, List.forall_mem_cons.mpr ⟨wl_7_2, List.forall_mem_cons.mpr ⟨wl_7_3, List.forall_mem_cons.mpr ⟨wl_7_4, List.forall_mem_cons.mpr ⟨wl_7_5, List.forall_mem_cons.mpr ⟨wl_7_6, List.forall_mem_cons.mpr ⟨wl_7_7, List.forall_mem_cons.mpr ⟨wl_7_8, List.forall_mem_cons.mpr ⟨wl_7_9, List.forall_mem_cons.mpr ⟨wl_7_10, List.forall_mem_cons.mpr ⟨wl_7_11, List.forall_mem_cons.mpr ⟨wl_7_12, List.forall_mem_cons.mpr ⟨wl_7_13, List.forall_mem_cons.mpr ⟨wl_7_14, List.forall_mem_cons.mpr ⟨wl_7_15, List.forall_mem_cons.mpr ⟨wl_7_16, List.forall_mem_cons.mpr ⟨wl_7_17, List.forall_mem_cons.mpr ⟨wl_7_18, List.forall_mem_cons.mpr ⟨wl_7_19, List.forall_mem_cons.mpr ⟨wl_7_20, List.forall_mem_cons.mpr ⟨wl_7_21, List.forall_mem_cons.mpr ⟨wl_7_22, List.forall_mem_cons.mpr ⟨wl_7_23, fun _ h => absurd h List.not_mem_nil⟩⟩⟩⟩⟩⟩⟩⟩⟩⟩⟩⟩⟩⟩⟩⟩⟩⟩⟩⟩⟩⟩⟩⟩
theorem wl_8_0 : Cond.fieldLink RX6 13 "PeatRailwayModel" "aside" "[I" ∈ lw_tbl := List.mem_append_right _ (List.mem_of_getElem? (i := 642) (by decide +kernel))
theorem wl_8_1 : Cond.fieldLink RX6 16 "PeatRailwayModel" "history" "[I" ∈ lw_tbl := List.mem_append_right _ (List.mem_of_getElem? (i := 644) (by decide +kernel))
theorem wl_8_2 : Cond.fieldLink RX6 19 "PeatRailwayModel" "images" "[I" ∈ lw_tbl := List.mem_append_right _ (List.mem_of_getElem? (i := 646) (by decide +kernel))
theorem wl_8_3 : Cond.fieldLink RX6 22 "PeatRailwayModel" "text" "[I" ∈ lw_tbl := List.mem_append_right _ (List.mem_of_getElem? (i := 648) (by decide +kernel))
theorem wl_8_4 : Cond.methodLink RX6 25 yX6_putSegment ∈ lw_tbl := List.mem_append_right _ (List.mem_of_getElem? (i := 637) (by decide +kernel))
theorem wl_8_5 : Cond.instanceMethod yX6_putSegment ∈ lw_tbl := List.mem_append_right _ (List.mem_of_getElem? (i := 639) (by decide +kernel))
theorem wl_8_6 : Cond.selects RX6 yX6_putSegment yX6_putSegment ∈ lw_tbl := List.mem_append_left _ (List.mem_of_getElem? (i := 14) (by decide +kernel))
set_option maxRecDepth 100000 in
theorem wl_8_7 : Cond.code yX6_putSegment cX6_putSegment 4 none ∈ lw_tbl := List.mem_append_right _ (List.mem_of_getElem? (i := 640) rfl)
theorem wl_8_8 : Cond.methodLink RL 13 yX5_type ∈ lw_tbl := List.mem_append_right _ (List.mem_of_getElem? (i := 309) (by decide +kernel))
theorem wl_8_9 : Cond.instanceMethod yX5_type ∈ lw_tbl := List.mem_append_right _ (List.mem_of_getElem? (i := 310) (by decide +kernel))
theorem wl_8_10 : Cond.selects RX5 yX5_type yX5_type ∈ lw_tbl := List.mem_append_right _ (List.mem_of_getElem? (i := 311) (by decide +kernel))
set_option maxRecDepth 100000 in
theorem wl_8_11 : Cond.code yX5_type cX5_type 2 (some .int) ∈ lw_tbl := List.mem_append_right _ (List.mem_of_getElem? (i := 312) rfl)
theorem wl_8_12 : Cond.methodLink RX5 60 yX1_isFull ∈ lw_tbl := List.mem_append_right _ (List.mem_of_getElem? (i := 313) (by decide +kernel))
theorem wl_8_13 : Cond.instanceMethod yX1_isFull ∈ lw_tbl := List.mem_append_right _ (List.mem_of_getElem? (i := 314) (by decide +kernel))
theorem wl_8_14 : Cond.selects RX1 yX1_isFull yX1_isFull ∈ lw_tbl := List.mem_append_right _ (List.mem_of_getElem? (i := 315) (by decide +kernel))
set_option maxRecDepth 100000 in
theorem wl_8_15 : Cond.code yX1_isFull cX1_isFull 1 (some .boolean) ∈ lw_tbl := List.mem_append_right _ (List.mem_of_getElem? (i := 316) rfl)
theorem wl_8_16 : Cond.methodLink RX5 64 yX1_length ∈ lw_tbl := List.mem_append_right _ (List.mem_of_getElem? (i := 317) (by decide +kernel))
theorem wl_8_17 : Cond.instanceMethod yX1_length ∈ lw_tbl := List.mem_append_right _ (List.mem_of_getElem? (i := 318) (by decide +kernel))
theorem wl_8_18 : Cond.selects RX1 yX1_length yX1_length ∈ lw_tbl := List.mem_append_right _ (List.mem_of_getElem? (i := 319) (by decide +kernel))
set_option maxRecDepth 100000 in
theorem wl_8_19 : Cond.code yX1_length cX1_length 1 (some .int) ∈ lw_tbl := List.mem_append_right _ (List.mem_of_getElem? (i := 320) rfl)
theorem wl_8_20 : Cond.methodLink RL 17 yX6_type ∈ lw_tbl := List.mem_append_right _ (List.mem_of_getElem? (i := 675) (by decide +kernel))
theorem wl_8_21 : Cond.instanceMethod yX6_type ∈ lw_tbl := List.mem_append_right _ (List.mem_of_getElem? (i := 676) (by decide +kernel))
theorem wl_8_22 : Cond.selects RX6 yX6_type yX6_type ∈ lw_tbl := List.mem_append_right _ (List.mem_of_getElem? (i := 677) (by decide +kernel))
set_option maxRecDepth 100000 in
theorem wl_8_23 : Cond.code yX6_type cX6_type 2 (some .int) ∈ lw_tbl := List.mem_append_right _ (List.mem_of_getElem? (i := 678) rfl)
theorem wlr_8 : ∀ w ∈ wsL_law_r8, w ∈ lw_tbl := List.forall_mem_cons.mpr ⟨wl_8_0, List.forall_mem_cons.mpr ⟨wl_8_1, List.forall_mem_cons.mpr ⟨wl_8_2, List.forall_mem_cons.mpr ⟨wl_8_3, List.forall_mem_cons.mpr ⟨wl_8_4, List.forall_mem_cons.mpr ⟨wl_8_5, List.forall_mem_cons.mpr ⟨wl_8_6, List.forall_mem_cons.mpr ⟨wl_8_7, List.forall_mem_cons.mpr ⟨wl_8_8, List.forall_mem_cons.mpr ⟨wl_8_9, List.forall_mem_cons.mpr ⟨wl_8_10, List.forall_mem_cons.mpr ⟨wl_8_11, List.forall_mem_cons.mpr ⟨wl_8_12, List.forall_mem_cons.mpr ⟨wl_8_13, List.forall_mem_cons.mpr ⟨wl_8_14, List.forall_mem_cons.mpr ⟨wl_8_15, List.forall_mem_cons.mpr ⟨wl_8_16, List.forall_mem_cons.mpr ⟨wl_8_17, List.forall_mem_cons.mpr ⟨wl_8_18, List.forall_mem_cons.mpr ⟨wl_8_19, List.forall_mem_cons.mpr ⟨wl_8_20, List.forall_mem_cons.mpr ⟨wl_8_21, List.forall_mem_cons.mpr ⟨wl_8_22, List.forall_mem_cons.mpr ⟨wl_8_23, fun _ h => absurd h List.not_mem_nil⟩⟩⟩⟩⟩⟩⟩⟩⟩⟩⟩⟩⟩⟩⟩⟩⟩⟩⟩⟩⟩⟩⟩⟩
theorem wl_9_0 : Cond.fieldLink RX6 41 "PeatRailwayModel" "length" "I" ∈ lw_tbl := List.mem_append_right _ (List.mem_of_getElem? (i := 647) (by decide +kernel))
theorem wl_9_1 : Cond.methodLink RX6 29 yX6_within ∈ lw_tbl := List.mem_append_right _ (List.mem_of_getElem? (i := 679) (by decide +kernel))
theorem wl_9_2 : Cond.static yX6_within ∈ lw_tbl := List.mem_append_right _ (List.mem_of_getElem? (i := 680) (by decide +kernel))
set_option maxRecDepth 100000 in
theorem wl_9_3 : Cond.code yX6_within cX6_within 3 (some .boolean) ∈ lw_tbl := List.mem_append_right _ (List.mem_of_getElem? (i := 681) rfl)
theorem wl_9_4 : Cond.methodLink RL 18 yX5_clear ∈ lw_tbl := List.mem_append_right _ (List.mem_of_getElem? (i := 321) (by decide +kernel))
theorem wl_9_5 : Cond.instanceMethod yX5_clear ∈ lw_tbl := List.mem_append_right _ (List.mem_of_getElem? (i := 322) (by decide +kernel))
theorem wl_9_6 : Cond.selects RX5 yX5_clear yX5_clear ∈ lw_tbl := List.mem_append_right _ (List.mem_of_getElem? (i := 323) (by decide +kernel))
set_option maxRecDepth 100000 in
theorem wl_9_7 : Cond.code yX5_clear cX5_clear 2 (some .int) ∈ lw_tbl := List.mem_append_right _ (List.mem_of_getElem? (i := 324) rfl)
theorem wl_9_8 : Cond.methodLink RL 22 yX6_clear ∈ lw_tbl := List.mem_append_right _ (List.mem_of_getElem? (i := 682) (by decide +kernel))
theorem wl_9_9 : Cond.instanceMethod yX6_clear ∈ lw_tbl := List.mem_append_right _ (List.mem_of_getElem? (i := 683) (by decide +kernel))
theorem wl_9_10 : Cond.selects RX6 yX6_clear yX6_clear ∈ lw_tbl := List.mem_append_right _ (List.mem_of_getElem? (i := 684) (by decide +kernel))
set_option maxRecDepth 100000 in
theorem wl_9_11 : Cond.code yX6_clear cX6_clear 2 (some .int) ∈ lw_tbl := List.mem_append_right _ (List.mem_of_getElem? (i := 685) rfl)
theorem wl_9_12 : Cond.methodLink RL 23 yX5_fault ∈ lw_tbl := List.mem_append_right _ (List.mem_of_getElem? (i := 325) (by decide +kernel))
theorem wl_9_13 : Cond.instanceMethod yX5_fault ∈ lw_tbl := List.mem_append_right _ (List.mem_of_getElem? (i := 326) (by decide +kernel))
theorem wl_9_14 : Cond.selects RX5 yX5_fault yX5_fault ∈ lw_tbl := List.mem_append_right _ (List.mem_of_getElem? (i := 327) (by decide +kernel))
set_option maxRecDepth 100000 in
theorem wl_9_15 : Cond.code yX5_fault cX5_fault 1 (some .int) ∈ lw_tbl := List.mem_append_right _ (List.mem_of_getElem? (i := 328) rfl)
theorem wl_9_16 : Cond.methodLink RX5 65 yX1_firstFault ∈ lw_tbl := List.mem_append_right _ (List.mem_of_getElem? (i := 329) (by decide +kernel))
theorem wl_9_17 : Cond.instanceMethod yX1_firstFault ∈ lw_tbl := List.mem_append_right _ (List.mem_of_getElem? (i := 330) (by decide +kernel))
theorem wl_9_18 : Cond.selects RX1 yX1_firstFault yX1_firstFault ∈ lw_tbl := List.mem_append_right _ (List.mem_of_getElem? (i := 331) (by decide +kernel))
set_option maxRecDepth 100000 in
theorem wl_9_19 : Cond.code yX1_firstFault cX1_firstFault 5 (some .int) ∈ lw_tbl := List.mem_append_right _ (List.mem_of_getElem? (i := 332) rfl)
theorem wl_9_20 : Cond.methodLink RL 26 yX6_fault ∈ lw_tbl := List.mem_append_right _ (List.mem_of_getElem? (i := 686) (by decide +kernel))
theorem wl_9_21 : Cond.instanceMethod yX6_fault ∈ lw_tbl := List.mem_append_right _ (List.mem_of_getElem? (i := 687) (by decide +kernel))
theorem wl_9_22 : Cond.selects RX6 yX6_fault yX6_fault ∈ lw_tbl := List.mem_append_right _ (List.mem_of_getElem? (i := 688) (by decide +kernel))
set_option maxRecDepth 100000 in
theorem wl_9_23 : Cond.code yX6_fault cX6_fault 1 (some .int) ∈ lw_tbl := List.mem_append_right _ (List.mem_of_getElem? (i := 689) rfl)
theorem wlr_9 : ∀ w ∈ wsL_law_r9, w ∈ lw_tbl := List.forall_mem_cons.mpr ⟨wl_9_0, List.forall_mem_cons.mpr ⟨wl_9_1, List.forall_mem_cons.mpr ⟨wl_9_2, List.forall_mem_cons.mpr ⟨wl_9_3, List.forall_mem_cons.mpr ⟨wl_9_4, List.forall_mem_cons.mpr ⟨wl_9_5, List.forall_mem_cons.mpr ⟨wl_9_6, List.forall_mem_cons.mpr ⟨wl_9_7, List.forall_mem_cons.mpr ⟨wl_9_8, List.forall_mem_cons.mpr ⟨wl_9_9, List.forall_mem_cons.mpr ⟨wl_9_10, List.forall_mem_cons.mpr ⟨wl_9_11, List.forall_mem_cons.mpr ⟨wl_9_12, List.forall_mem_cons.mpr ⟨wl_9_13, List.forall_mem_cons.mpr ⟨wl_9_14, List.forall_mem_cons.mpr ⟨wl_9_15, List.forall_mem_cons.mpr ⟨wl_9_16, List.forall_mem_cons.mpr ⟨wl_9_17, List.forall_mem_cons.mpr ⟨wl_9_18, List.forall_mem_cons.mpr ⟨wl_9_19, List.forall_mem_cons.mpr ⟨wl_9_20, List.forall_mem_cons.mpr ⟨wl_9_21, List.forall_mem_cons.mpr ⟨wl_9_22, List.forall_mem_cons.mpr ⟨wl_9_23, fun _ h => absurd h List.not_mem_nil⟩⟩⟩⟩⟩⟩⟩⟩⟩⟩⟩⟩⟩⟩⟩⟩⟩⟩⟩⟩⟩⟩⟩⟩
theorem wl_10_0 : Cond.methodLink RX6 54 yX6_faultNow ∈ lw_tbl := List.mem_append_right _ (List.mem_of_getElem? (i := 690) (by decide +kernel))
theorem wl_10_1 : Cond.instanceMethod yX6_faultNow ∈ lw_tbl := List.mem_append_right _ (List.mem_of_getElem? (i := 692) (by decide +kernel))
theorem wl_10_2 : Cond.selects RX6 yX6_faultNow yX6_faultNow ∈ lw_tbl := List.mem_append_left _ (List.mem_of_getElem? (i := 15) (by decide +kernel))
set_option maxRecDepth 100000 in
theorem wl_10_3 : Cond.code yX6_faultNow cX6_faultNow 2 (some .int) ∈ lw_tbl := List.mem_append_right _ (List.mem_of_getElem? (i := 693) rfl)
theorem wl_10_4 : Cond.fieldLink RX6 47 "PeatRailwayModel" "begun" "I" ∈ lw_tbl := List.mem_append_right _ (List.mem_of_getElem? (i := 649) (by decide +kernel))
theorem wl_10_5 : Cond.fieldLink RX6 44 "PeatRailwayModel" "step" "I" ∈ lw_tbl := List.mem_append_right _ (List.mem_of_getElem? (i := 650) (by decide +kernel))
theorem wl_10_6 : Cond.methodLink RX6 50 yX6_takes ∈ lw_tbl := List.mem_append_right _ (List.mem_of_getElem? (i := 694) (by decide +kernel))
theorem wl_10_7 : Cond.instanceMethod yX6_takes ∈ lw_tbl := List.mem_append_right _ (List.mem_of_getElem? (i := 696) (by decide +kernel))
theorem wl_10_8 : Cond.selects RX6 yX6_takes yX6_takes ∈ lw_tbl := List.mem_append_left _ (List.mem_of_getElem? (i := 16) (by decide +kernel))
set_option maxRecDepth 100000 in
theorem wl_10_9 : Cond.code yX6_takes cX6_takes 3 (some .boolean) ∈ lw_tbl := List.mem_append_right _ (List.mem_of_getElem? (i := 697) rfl)
theorem wl_10_10 : Cond.methodLink RL 27 yX5_layTrack ∈ lw_tbl := List.mem_append_right _ (List.mem_of_getElem? (i := 333) (by decide +kernel))
theorem wl_10_11 : Cond.instanceMethod yX5_layTrack ∈ lw_tbl := List.mem_append_right _ (List.mem_of_getElem? (i := 334) (by decide +kernel))
theorem wl_10_12 : Cond.selects RX5 yX5_layTrack yX5_layTrack ∈ lw_tbl := List.mem_append_right _ (List.mem_of_getElem? (i := 335) (by decide +kernel))
set_option maxRecDepth 100000 in
theorem wl_10_13 : Cond.code yX5_layTrack cX5_layTrack 1 (some .int) ∈ lw_tbl := List.mem_append_right _ (List.mem_of_getElem? (i := 336) rfl)
theorem wl_10_14 : Cond.fieldLink RX5 74 "PeatRailway$State" "segmentCount" "I" ∈ lw_tbl := List.mem_append_right _ (List.mem_of_getElem? (i := 192) (by decide +kernel))
theorem wl_10_15 : Cond.methodLink RX5 68 yX0_remember ∈ lw_tbl := List.mem_append_right _ (List.mem_of_getElem? (i := 337) (by decide +kernel))
theorem wl_10_16 : Cond.instanceMethod yX0_remember ∈ lw_tbl := List.mem_append_right _ (List.mem_of_getElem? (i := 338) (by decide +kernel))
theorem wl_10_17 : Cond.selects RX0 yX0_remember yX0_remember ∈ lw_tbl := List.mem_append_right _ (List.mem_of_getElem? (i := 339) (by decide +kernel))
set_option maxRecDepth 100000 in
theorem wl_10_18 : Cond.code yX0_remember cX0_remember 2 none ∈ lw_tbl := List.mem_append_right _ (List.mem_of_getElem? (i := 340) rfl)
theorem wl_10_19 : Cond.fieldLink RX0 18 "PeatRailway$History" "size" "I" ∈ lw_tbl := List.mem_append_right _ (List.mem_of_getElem? (i := 284) (by decide +kernel))
theorem wl_10_20 : Cond.methodLink RX0 22 yX0_dropOldest ∈ lw_tbl := List.mem_append_right _ (List.mem_of_getElem? (i := 341) (by decide +kernel))
theorem wl_10_21 : Cond.instanceMethod yX0_dropOldest ∈ lw_tbl := List.mem_append_right _ (List.mem_of_getElem? (i := 343) (by decide +kernel))
theorem wl_10_22 : Cond.selects RX0 yX0_dropOldest yX0_dropOldest ∈ lw_tbl := List.mem_append_left _ (List.mem_of_getElem? (i := 0) (by decide +kernel))
set_option maxRecDepth 100000 in
theorem wl_10_23 : Cond.code yX0_dropOldest cX0_dropOldest 3 none ∈ lw_tbl := List.mem_append_right _ (List.mem_of_getElem? (i := 344) rfl)
theorem wlr_10 : ∀ w ∈ wsL_law_r10, w ∈ lw_tbl := List.forall_mem_cons.mpr ⟨wl_10_0, List.forall_mem_cons.mpr ⟨wl_10_1, List.forall_mem_cons.mpr ⟨wl_10_2, List.forall_mem_cons.mpr ⟨wl_10_3, List.forall_mem_cons.mpr ⟨wl_10_4, List.forall_mem_cons.mpr ⟨wl_10_5, List.forall_mem_cons.mpr ⟨wl_10_6, List.forall_mem_cons.mpr ⟨wl_10_7, List.forall_mem_cons.mpr ⟨wl_10_8, List.forall_mem_cons.mpr ⟨wl_10_9, List.forall_mem_cons.mpr ⟨wl_10_10, List.forall_mem_cons.mpr ⟨wl_10_11, List.forall_mem_cons.mpr ⟨wl_10_12, List.forall_mem_cons.mpr ⟨wl_10_13, List.forall_mem_cons.mpr ⟨wl_10_14, List.forall_mem_cons.mpr ⟨wl_10_15, List.forall_mem_cons.mpr ⟨wl_10_16, List.forall_mem_cons.mpr ⟨wl_10_17, List.forall_mem_cons.mpr ⟨wl_10_18, List.forall_mem_cons.mpr ⟨wl_10_19, List.forall_mem_cons.mpr ⟨wl_10_20, List.forall_mem_cons.mpr ⟨wl_10_21, List.forall_mem_cons.mpr ⟨wl_10_22, List.forall_mem_cons.mpr ⟨wl_10_23, fun _ h => absurd h List.not_mem_nil⟩⟩⟩⟩⟩⟩⟩⟩⟩⟩⟩⟩⟩⟩⟩⟩⟩⟩⟩⟩⟩⟩⟩⟩
theorem wl_11_0 : Cond.methodLink RX0 25 yX3_copyFrom ∈ lw_tbl := List.mem_append_right _ (List.mem_of_getElem? (i := 345) (by decide +kernel))
theorem wl_11_1 : Cond.instanceMethod yX3_copyFrom ∈ lw_tbl := List.mem_append_right _ (List.mem_of_getElem? (i := 346) (by decide +kernel))
theorem wl_11_2 : Cond.selects RX3 yX3_copyFrom yX3_copyFrom ∈ lw_tbl := List.mem_append_right _ (List.mem_of_getElem? (i := 347) (by decide +kernel))
set_option maxRecDepth 100000 in
theorem wl_11_3 : Cond.code yX3_copyFrom cX3_copyFrom 3 none ∈ lw_tbl := List.mem_append_right _ (List.mem_of_getElem? (i := 348) rfl)
theorem wl_11_4 : Cond.fieldLink RX3 40 "PeatRailway$State" "trainCount" "I" ∈ lw_tbl := List.mem_append_right _ (List.mem_of_getElem? (i := 193) (by decide +kernel))
theorem wl_11_5 : Cond.fieldLink RX3 46 "PeatRailway$State" "stock" "I" ∈ lw_tbl := List.mem_append_right _ (List.mem_of_getElem? (i := 195) (by decide +kernel))
theorem wl_11_6 : Cond.fieldLink RX3 49 "PeatRailway$State" "dug" "I" ∈ lw_tbl := List.mem_append_right _ (List.mem_of_getElem? (i := 197) (by decide +kernel))
theorem wl_11_7 : Cond.fieldLink RX3 52 "PeatRailway$State" "delivered" "I" ∈ lw_tbl := List.mem_append_right _ (List.mem_of_getElem? (i := 199) (by decide +kernel))
theorem wl_11_8 : Cond.fieldLink RX3 55 "PeatRailway$State" "lost" "I" ∈ lw_tbl := List.mem_append_right _ (List.mem_of_getElem? (i := 201) (by decide +kernel))
theorem wl_11_9 : Cond.fieldLink RX3 58 "PeatRailway$State" "clock" "I" ∈ lw_tbl := List.mem_append_right _ (List.mem_of_getElem? (i := 203) (by decide +kernel))
theorem wl_11_10 : Cond.methodLink RX3 36 yX2_copyFrom ∈ lw_tbl := List.mem_append_right _ (List.mem_of_getElem? (i := 349) (by decide +kernel))
theorem wl_11_11 : Cond.instanceMethod yX2_copyFrom ∈ lw_tbl := List.mem_append_right _ (List.mem_of_getElem? (i := 350) (by decide +kernel))
theorem wl_11_12 : Cond.selects RX2 yX2_copyFrom yX2_copyFrom ∈ lw_tbl := List.mem_append_right _ (List.mem_of_getElem? (i := 351) (by decide +kernel))
set_option maxRecDepth 100000 in
theorem wl_11_13 : Cond.code yX2_copyFrom cX2_copyFrom 2 none ∈ lw_tbl := List.mem_append_right _ (List.mem_of_getElem? (i := 352) rfl)
theorem wl_11_14 : Cond.fieldLink RX2 21 "PeatRailway$Segment" "passingAbove" "I" ∈ lw_tbl := List.mem_append_right _ (List.mem_of_getElem? (i := 110) (by decide +kernel))
theorem wl_11_15 : Cond.fieldLink RX2 24 "PeatRailway$Segment" "passingBelow" "I" ∈ lw_tbl := List.mem_append_right _ (List.mem_of_getElem? (i := 112) (by decide +kernel))
theorem wl_11_16 : Cond.methodLink RX3 43 yX4_copyFrom ∈ lw_tbl := List.mem_append_right _ (List.mem_of_getElem? (i := 353) (by decide +kernel))
theorem wl_11_17 : Cond.instanceMethod yX4_copyFrom ∈ lw_tbl := List.mem_append_right _ (List.mem_of_getElem? (i := 354) (by decide +kernel))
theorem wl_11_18 : Cond.selects RX4 yX4_copyFrom yX4_copyFrom ∈ lw_tbl := List.mem_append_right _ (List.mem_of_getElem? (i := 355) (by decide +kernel))
set_option maxRecDepth 100000 in
theorem wl_11_19 : Cond.code yX4_copyFrom cX4_copyFrom 2 none ∈ lw_tbl := List.mem_append_right _ (List.mem_of_getElem? (i := 356) rfl)
theorem wl_11_20 : Cond.fieldLink RX4 9 "PeatRailway$Train" "wagons" "I" ∈ lw_tbl := List.mem_append_right _ (List.mem_of_getElem? (i := 137) (by decide +kernel))
theorem wl_11_21 : Cond.fieldLink RX4 15 "PeatRailway$Train" "load" "I" ∈ lw_tbl := List.mem_append_right _ (List.mem_of_getElem? (i := 140) (by decide +kernel))
theorem wl_11_22 : Cond.fieldLink RX4 18 "PeatRailway$Train" "peat" "I" ∈ lw_tbl := List.mem_append_right _ (List.mem_of_getElem? (i := 142) (by decide +kernel))
theorem wl_11_23 : Cond.fieldLink RX4 21 "PeatRailway$Train" "place" "I" ∈ lw_tbl := List.mem_append_right _ (List.mem_of_getElem? (i := 145) (by decide +kernel))
theorem wlr_11 : ∀ w ∈ wsL_law_r11, w ∈ lw_tbl := List.forall_mem_cons.mpr ⟨wl_11_0, List.forall_mem_cons.mpr ⟨wl_11_1, List.forall_mem_cons.mpr ⟨wl_11_2, List.forall_mem_cons.mpr ⟨wl_11_3, List.forall_mem_cons.mpr ⟨wl_11_4, List.forall_mem_cons.mpr ⟨wl_11_5, List.forall_mem_cons.mpr ⟨wl_11_6, List.forall_mem_cons.mpr ⟨wl_11_7, List.forall_mem_cons.mpr ⟨wl_11_8, List.forall_mem_cons.mpr ⟨wl_11_9, List.forall_mem_cons.mpr ⟨wl_11_10, List.forall_mem_cons.mpr ⟨wl_11_11, List.forall_mem_cons.mpr ⟨wl_11_12, List.forall_mem_cons.mpr ⟨wl_11_13, List.forall_mem_cons.mpr ⟨wl_11_14, List.forall_mem_cons.mpr ⟨wl_11_15, List.forall_mem_cons.mpr ⟨wl_11_16, List.forall_mem_cons.mpr ⟨wl_11_17, List.forall_mem_cons.mpr ⟨wl_11_18, List.forall_mem_cons.mpr ⟨wl_11_19, List.forall_mem_cons.mpr ⟨wl_11_20, List.forall_mem_cons.mpr ⟨wl_11_21, List.forall_mem_cons.mpr ⟨wl_11_22, List.forall_mem_cons.mpr ⟨wl_11_23, fun _ h => absurd h List.not_mem_nil⟩⟩⟩⟩⟩⟩⟩⟩⟩⟩⟩⟩⟩⟩⟩⟩⟩⟩⟩⟩⟩⟩⟩⟩
theorem wl_12_0 : Cond.fieldLink RX4 24 "PeatRailway$Train" "up" "Z" ∈ lw_tbl := List.mem_append_right _ (List.mem_of_getElem? (i := 148) (by decide +kernel))
theorem wl_12_1 : Cond.fieldLink RX4 28 "PeatRailway$Train" "rest" "I" ∈ lw_tbl := List.mem_append_right _ (List.mem_of_getElem? (i := 151) (by decide +kernel))
theorem wl_12_2 : Cond.fieldLink RX4 31 "PeatRailway$Train" "reason" "I" ∈ lw_tbl := List.mem_append_right _ (List.mem_of_getElem? (i := 154) (by decide +kernel))
theorem wl_12_3 : Cond.fieldLink RX4 34 "PeatRailway$Train" "waits" "I" ∈ lw_tbl := List.mem_append_right _ (List.mem_of_getElem? (i := 157) (by decide +kernel))
theorem wl_12_4 : Cond.fieldLink RX4 37 "PeatRailway$Train" "unloads" "I" ∈ lw_tbl := List.mem_append_right _ (List.mem_of_getElem? (i := 160) (by decide +kernel))
theorem wl_12_5 : Cond.methodLink RX5 71 yX3_loseAllTrains ∈ lw_tbl := List.mem_append_right _ (List.mem_of_getElem? (i := 357) (by decide +kernel))
theorem wl_12_6 : Cond.instanceMethod yX3_loseAllTrains ∈ lw_tbl := List.mem_append_right _ (List.mem_of_getElem? (i := 358) (by decide +kernel))
theorem wl_12_7 : Cond.selects RX3 yX3_loseAllTrains yX3_loseAllTrains ∈ lw_tbl := List.mem_append_right _ (List.mem_of_getElem? (i := 359) (by decide +kernel))
set_option maxRecDepth 100000 in
theorem wl_12_8 : Cond.code yX3_loseAllTrains cX3_loseAllTrains 1 none ∈ lw_tbl := List.mem_append_right _ (List.mem_of_getElem? (i := 360) rfl)
theorem wl_12_9 : Cond.methodLink RX3 93 yX3_peatInTrains ∈ lw_tbl := List.mem_append_right _ (List.mem_of_getElem? (i := 361) (by decide +kernel))
theorem wl_12_10 : Cond.instanceMethod yX3_peatInTrains ∈ lw_tbl := List.mem_append_right _ (List.mem_of_getElem? (i := 362) (by decide +kernel))
theorem wl_12_11 : Cond.selects RX3 yX3_peatInTrains yX3_peatInTrains ∈ lw_tbl := List.mem_append_right _ (List.mem_of_getElem? (i := 363) (by decide +kernel))
set_option maxRecDepth 100000 in
theorem wl_12_12 : Cond.code yX3_peatInTrains cX3_peatInTrains 4 (some .int) ∈ lw_tbl := List.mem_append_right _ (List.mem_of_getElem? (i := 364) rfl)
theorem wl_12_13 : Cond.fieldLink RX3 90 "PeatRailway$Train" "peat" "I" ∈ lw_tbl := List.mem_append_right _ (List.mem_of_getElem? (i := 144) (by decide +kernel))
theorem wl_12_14 : Cond.methodLink RX3 82 yX3_trainAt ∈ lw_tbl := List.mem_append_right _ (List.mem_of_getElem? (i := 365) (by decide +kernel))
theorem wl_12_15 : Cond.instanceMethod yX3_trainAt ∈ lw_tbl := List.mem_append_right _ (List.mem_of_getElem? (i := 366) (by decide +kernel))
theorem wl_12_16 : Cond.selects RX3 yX3_trainAt yX3_trainAt ∈ lw_tbl := List.mem_append_right _ (List.mem_of_getElem? (i := 367) (by decide +kernel))
set_option maxRecDepth 100000 in
theorem wl_12_17 : Cond.code yX3_trainAt cX3_trainAt 2 (some (.object "PeatRailway$Train")) ∈ lw_tbl := List.mem_append_right _ (List.mem_of_getElem? (i := 368) rfl)
theorem wl_12_18 : Cond.methodLink RL 30 yX6_layTrack ∈ lw_tbl := List.mem_append_right _ (List.mem_of_getElem? (i := 698) (by decide +kernel))
theorem wl_12_19 : Cond.instanceMethod yX6_layTrack ∈ lw_tbl := List.mem_append_right _ (List.mem_of_getElem? (i := 699) (by decide +kernel))
theorem wl_12_20 : Cond.selects RX6 yX6_layTrack yX6_layTrack ∈ lw_tbl := List.mem_append_right _ (List.mem_of_getElem? (i := 700) (by decide +kernel))
set_option maxRecDepth 100000 in
theorem wl_12_21 : Cond.code yX6_layTrack cX6_layTrack 2 (some .int) ∈ lw_tbl := List.mem_append_right _ (List.mem_of_getElem? (i := 701) rfl)
theorem wl_12_22 : Cond.methodLink RX6 62 yX6_record ∈ lw_tbl := List.mem_append_right _ (List.mem_of_getElem? (i := 702) (by decide +kernel))
theorem wl_12_23 : Cond.instanceMethod yX6_record ∈ lw_tbl := List.mem_append_right _ (List.mem_of_getElem? (i := 704) (by decide +kernel))
theorem wlr_12 : ∀ w ∈ wsL_law_r12, w ∈ lw_tbl := List.forall_mem_cons.mpr ⟨wl_12_0, List.forall_mem_cons.mpr ⟨wl_12_1, List.forall_mem_cons.mpr ⟨wl_12_2, List.forall_mem_cons.mpr ⟨wl_12_3, List.forall_mem_cons.mpr ⟨wl_12_4, List.forall_mem_cons.mpr ⟨wl_12_5, List.forall_mem_cons.mpr ⟨wl_12_6, List.forall_mem_cons.mpr ⟨wl_12_7, List.forall_mem_cons.mpr ⟨wl_12_8, List.forall_mem_cons.mpr ⟨wl_12_9, List.forall_mem_cons.mpr ⟨wl_12_10, List.forall_mem_cons.mpr ⟨wl_12_11, List.forall_mem_cons.mpr ⟨wl_12_12, List.forall_mem_cons.mpr ⟨wl_12_13, List.forall_mem_cons.mpr ⟨wl_12_14, List.forall_mem_cons.mpr ⟨wl_12_15, List.forall_mem_cons.mpr ⟨wl_12_16, List.forall_mem_cons.mpr ⟨wl_12_17, List.forall_mem_cons.mpr ⟨wl_12_18, List.forall_mem_cons.mpr ⟨wl_12_19, List.forall_mem_cons.mpr ⟨wl_12_20, List.forall_mem_cons.mpr ⟨wl_12_21, List.forall_mem_cons.mpr ⟨wl_12_22, List.forall_mem_cons.mpr ⟨wl_12_23, fun _ h => absurd h List.not_mem_nil⟩⟩⟩⟩⟩⟩⟩⟩⟩⟩⟩⟩⟩⟩⟩⟩⟩⟩⟩⟩⟩⟩⟩⟩
theorem wl_13_0 : Cond.selects RX6 yX6_record yX6_record ∈ lw_tbl := List.mem_append_left _ (List.mem_of_getElem? (i := 17) (by decide +kernel))
set_option maxRecDepth 100000 in
theorem wl_13_1 : Cond.code yX6_record cX6_record 2 none ∈ lw_tbl := List.mem_append_right _ (List.mem_of_getElem? (i := 705) rfl)
theorem wl_13_2 : Cond.fieldLink RX6 33 "PeatRailwayModel" "states" "I" ∈ lw_tbl := List.mem_append_right _ (List.mem_of_getElem? (i := 643) (by decide +kernel))
theorem wl_13_3 : Cond.methodLink RX6 37 yX6_copy ∈ lw_tbl := List.mem_append_right _ (List.mem_of_getElem? (i := 706) (by decide +kernel))
theorem wl_13_4 : Cond.instanceMethod yX6_copy ∈ lw_tbl := List.mem_append_right _ (List.mem_of_getElem? (i := 708) (by decide +kernel))
theorem wl_13_5 : Cond.selects RX6 yX6_copy yX6_copy ∈ lw_tbl := List.mem_append_left _ (List.mem_of_getElem? (i := 18) (by decide +kernel))
set_option maxRecDepth 100000 in
theorem wl_13_6 : Cond.code yX6_copy cX6_copy 6 none ∈ lw_tbl := List.mem_append_right _ (List.mem_of_getElem? (i := 709) rfl)
theorem wl_13_7 : Cond.methodLink RX6 65 yX6_peatInTrains ∈ lw_tbl := List.mem_append_right _ (List.mem_of_getElem? (i := 710) (by decide +kernel))
theorem wl_13_8 : Cond.instanceMethod yX6_peatInTrains ∈ lw_tbl := List.mem_append_right _ (List.mem_of_getElem? (i := 712) (by decide +kernel))
theorem wl_13_9 : Cond.selects RX6 yX6_peatInTrains yX6_peatInTrains ∈ lw_tbl := List.mem_append_left _ (List.mem_of_getElem? (i := 19) (by decide +kernel))
set_option maxRecDepth 100000 in
theorem wl_13_10 : Cond.code yX6_peatInTrains cX6_peatInTrains 3 (some .int) ∈ lw_tbl := List.mem_append_right _ (List.mem_of_getElem? (i := 713) rfl)
theorem wl_13_11 : Cond.methodLink RX6 58 yX6_of ∈ lw_tbl := List.mem_append_right _ (List.mem_of_getElem? (i := 714) (by decide +kernel))
theorem wl_13_12 : Cond.instanceMethod yX6_of ∈ lw_tbl := List.mem_append_right _ (List.mem_of_getElem? (i := 716) (by decide +kernel))
theorem wl_13_13 : Cond.selects RX6 yX6_of yX6_of ∈ lw_tbl := List.mem_append_left _ (List.mem_of_getElem? (i := 20) (by decide +kernel))
set_option maxRecDepth 100000 in
theorem wl_13_14 : Cond.code yX6_of cX6_of 3 (some .int) ∈ lw_tbl := List.mem_append_right _ (List.mem_of_getElem? (i := 717) rfl)
theorem wl_13_15 : Cond.methodLink RL 31 yX5_set ∈ lw_tbl := List.mem_append_right _ (List.mem_of_getElem? (i := 369) (by decide +kernel))
theorem wl_13_16 : Cond.instanceMethod yX5_set ∈ lw_tbl := List.mem_append_right _ (List.mem_of_getElem? (i := 370) (by decide +kernel))
theorem wl_13_17 : Cond.selects RX5 yX5_set yX5_set ∈ lw_tbl := List.mem_append_right _ (List.mem_of_getElem? (i := 371) (by decide +kernel))
set_option maxRecDepth 100000 in
theorem wl_13_18 : Cond.code yX5_set cX5_set 4 (some .int) ∈ lw_tbl := List.mem_append_right _ (List.mem_of_getElem? (i := 372) rfl)
theorem wl_13_19 : Cond.fieldLink RX5 82 "PeatRailway" "LEAST_VALUE" "[I" ∈ lw_tbl := List.mem_append_right _ (List.mem_of_getElem? (i := 376) (by decide +kernel))
theorem wl_13_20 : Cond.fieldLink RX5 86 "PeatRailway" "MOST_VALUE" "[I" ∈ lw_tbl := List.mem_append_right _ (List.mem_of_getElem? (i := 378) (by decide +kernel))
theorem wl_13_21 : Cond.fieldLink RX5 89 "PeatRailway$State" "settings" "[I" ∈ lw_tbl := List.mem_append_right _ (List.mem_of_getElem? (i := 190) (by decide +kernel))
theorem wl_13_22 : Cond.methodLink RX5 78 yX5_isSetting ∈ lw_tbl := List.mem_append_right _ (List.mem_of_getElem? (i := 373) (by decide +kernel))
theorem wl_13_23 : Cond.static yX5_isSetting ∈ lw_tbl := List.mem_append_right _ (List.mem_of_getElem? (i := 374) (by decide +kernel))
theorem wlr_13 : ∀ w ∈ wsL_law_r13, w ∈ lw_tbl := List.forall_mem_cons.mpr ⟨wl_13_0, List.forall_mem_cons.mpr ⟨wl_13_1, List.forall_mem_cons.mpr ⟨wl_13_2, List.forall_mem_cons.mpr ⟨wl_13_3, List.forall_mem_cons.mpr ⟨wl_13_4, List.forall_mem_cons.mpr ⟨wl_13_5, List.forall_mem_cons.mpr ⟨wl_13_6, List.forall_mem_cons.mpr ⟨wl_13_7, List.forall_mem_cons.mpr ⟨wl_13_8, List.forall_mem_cons.mpr ⟨wl_13_9, List.forall_mem_cons.mpr ⟨wl_13_10, List.forall_mem_cons.mpr ⟨wl_13_11, List.forall_mem_cons.mpr ⟨wl_13_12, List.forall_mem_cons.mpr ⟨wl_13_13, List.forall_mem_cons.mpr ⟨wl_13_14, List.forall_mem_cons.mpr ⟨wl_13_15, List.forall_mem_cons.mpr ⟨wl_13_16, List.forall_mem_cons.mpr ⟨wl_13_17, List.forall_mem_cons.mpr ⟨wl_13_18, List.forall_mem_cons.mpr ⟨wl_13_19, List.forall_mem_cons.mpr ⟨wl_13_20, List.forall_mem_cons.mpr ⟨wl_13_21, List.forall_mem_cons.mpr ⟨wl_13_22, List.forall_mem_cons.mpr ⟨wl_13_23, fun _ h => absurd h List.not_mem_nil⟩⟩⟩⟩⟩⟩⟩⟩⟩⟩⟩⟩⟩⟩⟩⟩⟩⟩⟩⟩⟩⟩⟩⟩
set_option maxRecDepth 100000 in
theorem wl_14_0 : Cond.code yX5_isSetting cX5_isSetting 1 (some .boolean) ∈ lw_tbl := List.mem_append_right _ (List.mem_of_getElem? (i := 375) rfl)
theorem wl_14_1 : Cond.methodLink RL 35 yX6_set ∈ lw_tbl := List.mem_append_right _ (List.mem_of_getElem? (i := 718) (by decide +kernel))
theorem wl_14_2 : Cond.instanceMethod yX6_set ∈ lw_tbl := List.mem_append_right _ (List.mem_of_getElem? (i := 719) (by decide +kernel))
theorem wl_14_3 : Cond.selects RX6 yX6_set yX6_set ∈ lw_tbl := List.mem_append_right _ (List.mem_of_getElem? (i := 720) (by decide +kernel))
set_option maxRecDepth 100000 in
theorem wl_14_4 : Cond.code yX6_set cX6_set 4 (some .int) ∈ lw_tbl := List.mem_append_right _ (List.mem_of_getElem? (i := 721) rfl)
theorem wl_14_5 : Cond.methodLink RX6 68 yX6_isValue ∈ lw_tbl := List.mem_append_right _ (List.mem_of_getElem? (i := 722) (by decide +kernel))
theorem wl_14_6 : Cond.static yX6_isValue ∈ lw_tbl := List.mem_append_right _ (List.mem_of_getElem? (i := 723) (by decide +kernel))
set_option maxRecDepth 100000 in
theorem wl_14_7 : Cond.code yX6_isValue cX6_isValue 2 (some .boolean) ∈ lw_tbl := List.mem_append_right _ (List.mem_of_getElem? (i := 724) rfl)
theorem wl_14_8 : Cond.methodLink RX6 72 yX6_other ∈ lw_tbl := List.mem_append_right _ (List.mem_of_getElem? (i := 725) (by decide +kernel))
theorem wl_14_9 : Cond.instanceMethod yX6_other ∈ lw_tbl := List.mem_append_right _ (List.mem_of_getElem? (i := 727) (by decide +kernel))
theorem wl_14_10 : Cond.selects RX6 yX6_other yX6_other ∈ lw_tbl := List.mem_append_left _ (List.mem_of_getElem? (i := 21) (by decide +kernel))
set_option maxRecDepth 100000 in
theorem wl_14_11 : Cond.code yX6_other cX6_other 2 (some .int) ∈ lw_tbl := List.mem_append_right _ (List.mem_of_getElem? (i := 728) rfl)
theorem wl_14_12 : Cond.methodLink RL 36 yX5_dig ∈ lw_tbl := List.mem_append_right _ (List.mem_of_getElem? (i := 380) (by decide +kernel))
theorem wl_14_13 : Cond.instanceMethod yX5_dig ∈ lw_tbl := List.mem_append_right _ (List.mem_of_getElem? (i := 381) (by decide +kernel))
theorem wl_14_14 : Cond.selects RX5 yX5_dig yX5_dig ∈ lw_tbl := List.mem_append_right _ (List.mem_of_getElem? (i := 382) (by decide +kernel))
set_option maxRecDepth 100000 in
theorem wl_14_15 : Cond.code yX5_dig cX5_dig 2 (some .int) ∈ lw_tbl := List.mem_append_right _ (List.mem_of_getElem? (i := 383) rfl)
theorem wl_14_16 : Cond.fieldLink RX5 92 "PeatRailway$State" "stock" "I" ∈ lw_tbl := List.mem_append_right _ (List.mem_of_getElem? (i := 196) (by decide +kernel))
theorem wl_14_17 : Cond.fieldLink RX5 95 "PeatRailway$State" "dug" "I" ∈ lw_tbl := List.mem_append_right _ (List.mem_of_getElem? (i := 198) (by decide +kernel))
theorem wl_14_18 : Cond.methodLink RL 39 yX6_dig ∈ lw_tbl := List.mem_append_right _ (List.mem_of_getElem? (i := 729) (by decide +kernel))
theorem wl_14_19 : Cond.instanceMethod yX6_dig ∈ lw_tbl := List.mem_append_right _ (List.mem_of_getElem? (i := 730) (by decide +kernel))
theorem wl_14_20 : Cond.selects RX6 yX6_dig yX6_dig ∈ lw_tbl := List.mem_append_right _ (List.mem_of_getElem? (i := 731) (by decide +kernel))
set_option maxRecDepth 100000 in
theorem wl_14_21 : Cond.code yX6_dig cX6_dig 2 (some .int) ∈ lw_tbl := List.mem_append_right _ (List.mem_of_getElem? (i := 732) rfl)
theorem wl_14_22 : Cond.methodLink RL 40 yX5_addTrain ∈ lw_tbl := List.mem_append_right _ (List.mem_of_getElem? (i := 384) (by decide +kernel))
theorem wl_14_23 : Cond.instanceMethod yX5_addTrain ∈ lw_tbl := List.mem_append_right _ (List.mem_of_getElem? (i := 385) (by decide +kernel))
theorem wlr_14 : ∀ w ∈ wsL_law_r14, w ∈ lw_tbl := List.forall_mem_cons.mpr ⟨wl_14_0, List.forall_mem_cons.mpr ⟨wl_14_1, List.forall_mem_cons.mpr ⟨wl_14_2, List.forall_mem_cons.mpr ⟨wl_14_3, List.forall_mem_cons.mpr ⟨wl_14_4, List.forall_mem_cons.mpr ⟨wl_14_5, List.forall_mem_cons.mpr ⟨wl_14_6, List.forall_mem_cons.mpr ⟨wl_14_7, List.forall_mem_cons.mpr ⟨wl_14_8, List.forall_mem_cons.mpr ⟨wl_14_9, List.forall_mem_cons.mpr ⟨wl_14_10, List.forall_mem_cons.mpr ⟨wl_14_11, List.forall_mem_cons.mpr ⟨wl_14_12, List.forall_mem_cons.mpr ⟨wl_14_13, List.forall_mem_cons.mpr ⟨wl_14_14, List.forall_mem_cons.mpr ⟨wl_14_15, List.forall_mem_cons.mpr ⟨wl_14_16, List.forall_mem_cons.mpr ⟨wl_14_17, List.forall_mem_cons.mpr ⟨wl_14_18, List.forall_mem_cons.mpr ⟨wl_14_19, List.forall_mem_cons.mpr ⟨wl_14_20, List.forall_mem_cons.mpr ⟨wl_14_21, List.forall_mem_cons.mpr ⟨wl_14_22, List.forall_mem_cons.mpr ⟨wl_14_23, fun _ h => absurd h List.not_mem_nil⟩⟩⟩⟩⟩⟩⟩⟩⟩⟩⟩⟩⟩⟩⟩⟩⟩⟩⟩⟩⟩⟩⟩⟩
theorem wl_15_0 : Cond.selects RX5 yX5_addTrain yX5_addTrain ∈ lw_tbl := List.mem_append_right _ (List.mem_of_getElem? (i := 386) (by decide +kernel))
set_option maxRecDepth 100000 in
theorem wl_15_1 : Cond.code yX5_addTrain cX5_addTrain 3 (some .int) ∈ lw_tbl := List.mem_append_right _ (List.mem_of_getElem? (i := 387) rfl)
theorem wl_15_2 : Cond.fieldLink RX5 101 "PeatRailway$State" "trainCount" "I" ∈ lw_tbl := List.mem_append_right _ (List.mem_of_getElem? (i := 194) (by decide +kernel))
theorem wl_15_3 : Cond.methodLink RX5 98 yX5_isLoad ∈ lw_tbl := List.mem_append_right _ (List.mem_of_getElem? (i := 388) (by decide +kernel))
theorem wl_15_4 : Cond.static yX5_isLoad ∈ lw_tbl := List.mem_append_right _ (List.mem_of_getElem? (i := 389) (by decide +kernel))
set_option maxRecDepth 100000 in
theorem wl_15_5 : Cond.code yX5_isLoad cX5_isLoad 1 (some .boolean) ∈ lw_tbl := List.mem_append_right _ (List.mem_of_getElem? (i := 390) rfl)
theorem wl_15_6 : Cond.methodLink RX5 104 yX3_bringTrain ∈ lw_tbl := List.mem_append_right _ (List.mem_of_getElem? (i := 391) (by decide +kernel))
theorem wl_15_7 : Cond.instanceMethod yX3_bringTrain ∈ lw_tbl := List.mem_append_right _ (List.mem_of_getElem? (i := 392) (by decide +kernel))
theorem wl_15_8 : Cond.selects RX3 yX3_bringTrain yX3_bringTrain ∈ lw_tbl := List.mem_append_right _ (List.mem_of_getElem? (i := 393) (by decide +kernel))
set_option maxRecDepth 100000 in
theorem wl_15_9 : Cond.code yX3_bringTrain cX3_bringTrain 4 (some .int) ∈ lw_tbl := List.mem_append_right _ (List.mem_of_getElem? (i := 394) rfl)
theorem wl_15_10 : Cond.methodLink RX3 86 yX4_start ∈ lw_tbl := List.mem_append_right _ (List.mem_of_getElem? (i := 395) (by decide +kernel))
theorem wl_15_11 : Cond.instanceMethod yX4_start ∈ lw_tbl := List.mem_append_right _ (List.mem_of_getElem? (i := 396) (by decide +kernel))
theorem wl_15_12 : Cond.selects RX4 yX4_start yX4_start ∈ lw_tbl := List.mem_append_right _ (List.mem_of_getElem? (i := 397) (by decide +kernel))
set_option maxRecDepth 100000 in
theorem wl_15_13 : Cond.code yX4_start cX4_start 3 none ∈ lw_tbl := List.mem_append_right _ (List.mem_of_getElem? (i := 398) rfl)
theorem wl_15_14 : Cond.methodLink RL 43 yX6_addTrain ∈ lw_tbl := List.mem_append_right _ (List.mem_of_getElem? (i := 733) (by decide +kernel))
theorem wl_15_15 : Cond.instanceMethod yX6_addTrain ∈ lw_tbl := List.mem_append_right _ (List.mem_of_getElem? (i := 734) (by decide +kernel))
theorem wl_15_16 : Cond.selects RX6 yX6_addTrain yX6_addTrain ∈ lw_tbl := List.mem_append_right _ (List.mem_of_getElem? (i := 735) (by decide +kernel))
set_option maxRecDepth 100000 in
theorem wl_15_17 : Cond.code yX6_addTrain cX6_addTrain 5 (some .int) ∈ lw_tbl := List.mem_append_right _ (List.mem_of_getElem? (i := 736) rfl)
theorem wl_15_18 : Cond.methodLink RX6 76 yX6_put ∈ lw_tbl := List.mem_append_right _ (List.mem_of_getElem? (i := 737) (by decide +kernel))
theorem wl_15_19 : Cond.instanceMethod yX6_put ∈ lw_tbl := List.mem_append_right _ (List.mem_of_getElem? (i := 739) (by decide +kernel))
theorem wl_15_20 : Cond.selects RX6 yX6_put yX6_put ∈ lw_tbl := List.mem_append_left _ (List.mem_of_getElem? (i := 22) (by decide +kernel))
set_option maxRecDepth 100000 in
theorem wl_15_21 : Cond.code yX6_put cX6_put 4 none ∈ lw_tbl := List.mem_append_right _ (List.mem_of_getElem? (i := 740) rfl)
theorem wl_15_22 : Cond.methodLink RL 44 yX5_dropTrain ∈ lw_tbl := List.mem_append_right _ (List.mem_of_getElem? (i := 399) (by decide +kernel))
theorem wl_15_23 : Cond.instanceMethod yX5_dropTrain ∈ lw_tbl := List.mem_append_right _ (List.mem_of_getElem? (i := 400) (by decide +kernel))
theorem wlr_15 : ∀ w ∈ wsL_law_r15, w ∈ lw_tbl := List.forall_mem_cons.mpr ⟨wl_15_0, List.forall_mem_cons.mpr ⟨wl_15_1, List.forall_mem_cons.mpr ⟨wl_15_2, List.forall_mem_cons.mpr ⟨wl_15_3, List.forall_mem_cons.mpr ⟨wl_15_4, List.forall_mem_cons.mpr ⟨wl_15_5, List.forall_mem_cons.mpr ⟨wl_15_6, List.forall_mem_cons.mpr ⟨wl_15_7, List.forall_mem_cons.mpr ⟨wl_15_8, List.forall_mem_cons.mpr ⟨wl_15_9, List.forall_mem_cons.mpr ⟨wl_15_10, List.forall_mem_cons.mpr ⟨wl_15_11, List.forall_mem_cons.mpr ⟨wl_15_12, List.forall_mem_cons.mpr ⟨wl_15_13, List.forall_mem_cons.mpr ⟨wl_15_14, List.forall_mem_cons.mpr ⟨wl_15_15, List.forall_mem_cons.mpr ⟨wl_15_16, List.forall_mem_cons.mpr ⟨wl_15_17, List.forall_mem_cons.mpr ⟨wl_15_18, List.forall_mem_cons.mpr ⟨wl_15_19, List.forall_mem_cons.mpr ⟨wl_15_20, List.forall_mem_cons.mpr ⟨wl_15_21, List.forall_mem_cons.mpr ⟨wl_15_22, List.forall_mem_cons.mpr ⟨wl_15_23, fun _ h => absurd h List.not_mem_nil⟩⟩⟩⟩⟩⟩⟩⟩⟩⟩⟩⟩⟩⟩⟩⟩⟩⟩⟩⟩⟩⟩⟩⟩
theorem wl_16_0 : Cond.selects RX5 yX5_dropTrain yX5_dropTrain ∈ lw_tbl := List.mem_append_right _ (List.mem_of_getElem? (i := 401) (by decide +kernel))
set_option maxRecDepth 100000 in
theorem wl_16_1 : Cond.code yX5_dropTrain cX5_dropTrain 4 (some .int) ∈ lw_tbl := List.mem_append_right _ (List.mem_of_getElem? (i := 402) rfl)
theorem wl_16_2 : Cond.fieldLink RX5 112 "PeatRailway$Train" "peat" "I" ∈ lw_tbl := List.mem_append_right _ (List.mem_of_getElem? (i := 143) (by decide +kernel))
theorem wl_16_3 : Cond.methodLink RX5 108 yX3_trainAt ∈ lw_tbl := List.mem_append_right _ (List.mem_of_getElem? (i := 403) (by decide +kernel))
theorem wl_16_4 : Cond.methodLink RX5 117 yX3_loseTrain ∈ lw_tbl := List.mem_append_right _ (List.mem_of_getElem? (i := 404) (by decide +kernel))
theorem wl_16_5 : Cond.instanceMethod yX3_loseTrain ∈ lw_tbl := List.mem_append_right _ (List.mem_of_getElem? (i := 405) (by decide +kernel))
theorem wl_16_6 : Cond.selects RX3 yX3_loseTrain yX3_loseTrain ∈ lw_tbl := List.mem_append_right _ (List.mem_of_getElem? (i := 406) (by decide +kernel))
set_option maxRecDepth 100000 in
theorem wl_16_7 : Cond.code yX3_loseTrain cX3_loseTrain 6 none ∈ lw_tbl := List.mem_append_right _ (List.mem_of_getElem? (i := 407) rfl)
theorem wl_16_8 : Cond.methodLink RL 47 yX6_dropTrain ∈ lw_tbl := List.mem_append_right _ (List.mem_of_getElem? (i := 741) (by decide +kernel))
theorem wl_16_9 : Cond.instanceMethod yX6_dropTrain ∈ lw_tbl := List.mem_append_right _ (List.mem_of_getElem? (i := 742) (by decide +kernel))
theorem wl_16_10 : Cond.selects RX6 yX6_dropTrain yX6_dropTrain ∈ lw_tbl := List.mem_append_right _ (List.mem_of_getElem? (i := 743) (by decide +kernel))
set_option maxRecDepth 100000 in
theorem wl_16_11 : Cond.code yX6_dropTrain cX6_dropTrain 4 (some .int) ∈ lw_tbl := List.mem_append_right _ (List.mem_of_getElem? (i := 744) rfl)
theorem wl_16_12 : Cond.methodLink RX6 80 yX6_isTrain ∈ lw_tbl := List.mem_append_right _ (List.mem_of_getElem? (i := 745) (by decide +kernel))
theorem wl_16_13 : Cond.instanceMethod yX6_isTrain ∈ lw_tbl := List.mem_append_right _ (List.mem_of_getElem? (i := 747) (by decide +kernel))
theorem wl_16_14 : Cond.selects RX6 yX6_isTrain yX6_isTrain ∈ lw_tbl := List.mem_append_left _ (List.mem_of_getElem? (i := 23) (by decide +kernel))
set_option maxRecDepth 100000 in
theorem wl_16_15 : Cond.code yX6_isTrain cX6_isTrain 2 (some .boolean) ∈ lw_tbl := List.mem_append_right _ (List.mem_of_getElem? (i := 748) rfl)
theorem wl_16_16 : Cond.methodLink RL 48 yX5_setLoad ∈ lw_tbl := List.mem_append_right _ (List.mem_of_getElem? (i := 408) (by decide +kernel))
theorem wl_16_17 : Cond.instanceMethod yX5_setLoad ∈ lw_tbl := List.mem_append_right _ (List.mem_of_getElem? (i := 409) (by decide +kernel))
theorem wl_16_18 : Cond.selects RX5 yX5_setLoad yX5_setLoad ∈ lw_tbl := List.mem_append_right _ (List.mem_of_getElem? (i := 410) (by decide +kernel))
set_option maxRecDepth 100000 in
theorem wl_16_19 : Cond.code yX5_setLoad cX5_setLoad 5 (some .int) ∈ lw_tbl := List.mem_append_right _ (List.mem_of_getElem? (i := 411) rfl)
theorem wl_16_20 : Cond.fieldLink RX5 121 "PeatRailway$Train" "load" "I" ∈ lw_tbl := List.mem_append_right _ (List.mem_of_getElem? (i := 141) (by decide +kernel))
theorem wl_16_21 : Cond.methodLink RL 51 yX6_setLoad ∈ lw_tbl := List.mem_append_right _ (List.mem_of_getElem? (i := 749) (by decide +kernel))
theorem wl_16_22 : Cond.instanceMethod yX6_setLoad ∈ lw_tbl := List.mem_append_right _ (List.mem_of_getElem? (i := 750) (by decide +kernel))
theorem wl_16_23 : Cond.selects RX6 yX6_setLoad yX6_setLoad ∈ lw_tbl := List.mem_append_right _ (List.mem_of_getElem? (i := 751) (by decide +kernel))
theorem wlr_16 : ∀ w ∈ wsL_law_r16, w ∈ lw_tbl := List.forall_mem_cons.mpr ⟨wl_16_0, List.forall_mem_cons.mpr ⟨wl_16_1, List.forall_mem_cons.mpr ⟨wl_16_2, List.forall_mem_cons.mpr ⟨wl_16_3, List.forall_mem_cons.mpr ⟨wl_16_4, List.forall_mem_cons.mpr ⟨wl_16_5, List.forall_mem_cons.mpr ⟨wl_16_6, List.forall_mem_cons.mpr ⟨wl_16_7, List.forall_mem_cons.mpr ⟨wl_16_8, List.forall_mem_cons.mpr ⟨wl_16_9, List.forall_mem_cons.mpr ⟨wl_16_10, List.forall_mem_cons.mpr ⟨wl_16_11, List.forall_mem_cons.mpr ⟨wl_16_12, List.forall_mem_cons.mpr ⟨wl_16_13, List.forall_mem_cons.mpr ⟨wl_16_14, List.forall_mem_cons.mpr ⟨wl_16_15, List.forall_mem_cons.mpr ⟨wl_16_16, List.forall_mem_cons.mpr ⟨wl_16_17, List.forall_mem_cons.mpr ⟨wl_16_18, List.forall_mem_cons.mpr ⟨wl_16_19, List.forall_mem_cons.mpr ⟨wl_16_20, List.forall_mem_cons.mpr ⟨wl_16_21, List.forall_mem_cons.mpr ⟨wl_16_22, List.forall_mem_cons.mpr ⟨wl_16_23, fun _ h => absurd h List.not_mem_nil⟩⟩⟩⟩⟩⟩⟩⟩⟩⟩⟩⟩⟩⟩⟩⟩⟩⟩⟩⟩⟩⟩⟩⟩
set_option maxRecDepth 100000 in
theorem wl_17_0 : Cond.code yX6_setLoad cX6_setLoad 4 (some .int) ∈ lw_tbl := List.mem_append_right _ (List.mem_of_getElem? (i := 752) rfl)
theorem wl_17_1 : Cond.methodLink RL 52 yX5_run ∈ lw_tbl := List.mem_append_right _ (List.mem_of_getElem? (i := 412) (by decide +kernel))
theorem wl_17_2 : Cond.instanceMethod yX5_run ∈ lw_tbl := List.mem_append_right _ (List.mem_of_getElem? (i := 413) (by decide +kernel))
theorem wl_17_3 : Cond.selects RX5 yX5_run yX5_run ∈ lw_tbl := List.mem_append_right _ (List.mem_of_getElem? (i := 414) (by decide +kernel))
set_option maxRecDepth 100000 in
theorem wl_17_4 : Cond.code yX5_run cX5_run 2 (some .int) ∈ lw_tbl := List.mem_append_right _ (List.mem_of_getElem? (i := 415) rfl)
theorem wl_17_5 : Cond.methodLink RX5 124 yX5_isRun ∈ lw_tbl := List.mem_append_right _ (List.mem_of_getElem? (i := 416) (by decide +kernel))
theorem wl_17_6 : Cond.static yX5_isRun ∈ lw_tbl := List.mem_append_right _ (List.mem_of_getElem? (i := 417) (by decide +kernel))
set_option maxRecDepth 100000 in
theorem wl_17_7 : Cond.code yX5_isRun cX5_isRun 1 (some .boolean) ∈ lw_tbl := List.mem_append_right _ (List.mem_of_getElem? (i := 418) rfl)
theorem wl_17_8 : Cond.methodLink RX5 127 yX3_pass ∈ lw_tbl := List.mem_append_right _ (List.mem_of_getElem? (i := 419) (by decide +kernel))
theorem wl_17_9 : Cond.instanceMethod yX3_pass ∈ lw_tbl := List.mem_append_right _ (List.mem_of_getElem? (i := 420) (by decide +kernel))
theorem wl_17_10 : Cond.selects RX3 yX3_pass yX3_pass ∈ lw_tbl := List.mem_append_right _ (List.mem_of_getElem? (i := 421) (by decide +kernel))
set_option maxRecDepth 100000 in
theorem wl_17_11 : Cond.code yX3_pass cX3_pass 4 (some .int) ∈ lw_tbl := List.mem_append_right _ (List.mem_of_getElem? (i := 422) rfl)
theorem wl_17_12 : Cond.fieldLink RX3 97 "PeatRailway$State" "peak" "I" ∈ lw_tbl := List.mem_append_right _ (List.mem_of_getElem? (i := 205) (by decide +kernel))
theorem wl_17_13 : Cond.methodLink RX3 100 yX3_tick ∈ lw_tbl := List.mem_append_right _ (List.mem_of_getElem? (i := 423) (by decide +kernel))
theorem wl_17_14 : Cond.instanceMethod yX3_tick ∈ lw_tbl := List.mem_append_right _ (List.mem_of_getElem? (i := 424) (by decide +kernel))
theorem wl_17_15 : Cond.selects RX3 yX3_tick yX3_tick ∈ lw_tbl := List.mem_append_right _ (List.mem_of_getElem? (i := 425) (by decide +kernel))
set_option maxRecDepth 100000 in
theorem wl_17_16 : Cond.code yX3_tick cX3_tick 4 none ∈ lw_tbl := List.mem_append_right _ (List.mem_of_getElem? (i := 426) rfl)
theorem wl_17_17 : Cond.fieldLink RX3 107 "PeatRailway$Train" "early" "Z" ∈ lw_tbl := List.mem_append_right _ (List.mem_of_getElem? (i := 163) (by decide +kernel))
theorem wl_17_18 : Cond.methodLink RX3 103 yX3_goesFirst ∈ lw_tbl := List.mem_append_right _ (List.mem_of_getElem? (i := 427) (by decide +kernel))
theorem wl_17_19 : Cond.instanceMethod yX3_goesFirst ∈ lw_tbl := List.mem_append_right _ (List.mem_of_getElem? (i := 429) (by decide +kernel))
theorem wl_17_20 : Cond.selects RX3 yX3_goesFirst yX3_goesFirst ∈ lw_tbl := List.mem_append_left _ (List.mem_of_getElem? (i := 1) (by decide +kernel))
set_option maxRecDepth 100000 in
theorem wl_17_21 : Cond.code yX3_goesFirst cX3_goesFirst 3 (some .boolean) ∈ lw_tbl := List.mem_append_right _ (List.mem_of_getElem? (i := 430) rfl)
theorem wl_17_22 : Cond.fieldLink RX3 117 "PeatRailway$Train" "up" "Z" ∈ lw_tbl := List.mem_append_right _ (List.mem_of_getElem? (i := 149) (by decide +kernel))
theorem wl_17_23 : Cond.methodLink RX3 111 yX3_takeTurn ∈ lw_tbl := List.mem_append_right _ (List.mem_of_getElem? (i := 431) (by decide +kernel))
theorem wlr_17 : ∀ w ∈ wsL_law_r17, w ∈ lw_tbl := List.forall_mem_cons.mpr ⟨wl_17_0, List.forall_mem_cons.mpr ⟨wl_17_1, List.forall_mem_cons.mpr ⟨wl_17_2, List.forall_mem_cons.mpr ⟨wl_17_3, List.forall_mem_cons.mpr ⟨wl_17_4, List.forall_mem_cons.mpr ⟨wl_17_5, List.forall_mem_cons.mpr ⟨wl_17_6, List.forall_mem_cons.mpr ⟨wl_17_7, List.forall_mem_cons.mpr ⟨wl_17_8, List.forall_mem_cons.mpr ⟨wl_17_9, List.forall_mem_cons.mpr ⟨wl_17_10, List.forall_mem_cons.mpr ⟨wl_17_11, List.forall_mem_cons.mpr ⟨wl_17_12, List.forall_mem_cons.mpr ⟨wl_17_13, List.forall_mem_cons.mpr ⟨wl_17_14, List.forall_mem_cons.mpr ⟨wl_17_15, List.forall_mem_cons.mpr ⟨wl_17_16, List.forall_mem_cons.mpr ⟨wl_17_17, List.forall_mem_cons.mpr ⟨wl_17_18, List.forall_mem_cons.mpr ⟨wl_17_19, List.forall_mem_cons.mpr ⟨wl_17_20, List.forall_mem_cons.mpr ⟨wl_17_21, List.forall_mem_cons.mpr ⟨wl_17_22, List.forall_mem_cons.mpr ⟨wl_17_23, fun _ h => absurd h List.not_mem_nil⟩⟩⟩⟩⟩⟩⟩⟩⟩⟩⟩⟩⟩⟩⟩⟩⟩⟩⟩⟩⟩⟩⟩⟩
theorem wl_18_0 : Cond.instanceMethod yX3_takeTurn ∈ lw_tbl := List.mem_append_right _ (List.mem_of_getElem? (i := 433) (by decide +kernel))
theorem wl_18_1 : Cond.selects RX3 yX3_takeTurn yX3_takeTurn ∈ lw_tbl := List.mem_append_left _ (List.mem_of_getElem? (i := 2) (by decide +kernel))
set_option maxRecDepth 100000 in
theorem wl_18_2 : Cond.code yX3_takeTurn cX3_takeTurn 2 none ∈ lw_tbl := List.mem_append_right _ (List.mem_of_getElem? (i := 434) rfl)
theorem wl_18_3 : Cond.fieldLink RX3 120 "PeatRailway$Train" "rest" "I" ∈ lw_tbl := List.mem_append_right _ (List.mem_of_getElem? (i := 152) (by decide +kernel))
theorem wl_18_4 : Cond.fieldLink RX3 123 "PeatRailway$Train" "reason" "I" ∈ lw_tbl := List.mem_append_right _ (List.mem_of_getElem? (i := 155) (by decide +kernel))
theorem wl_18_5 : Cond.fieldLink RX3 130 "PeatRailway$Train" "waits" "I" ∈ lw_tbl := List.mem_append_right _ (List.mem_of_getElem? (i := 158) (by decide +kernel))
theorem wl_18_6 : Cond.methodLink RX3 126 yX3_reasonToWait ∈ lw_tbl := List.mem_append_right _ (List.mem_of_getElem? (i := 435) (by decide +kernel))
theorem wl_18_7 : Cond.instanceMethod yX3_reasonToWait ∈ lw_tbl := List.mem_append_right _ (List.mem_of_getElem? (i := 436) (by decide +kernel))
theorem wl_18_8 : Cond.selects RX3 yX3_reasonToWait yX3_reasonToWait ∈ lw_tbl := List.mem_append_right _ (List.mem_of_getElem? (i := 437) (by decide +kernel))
set_option maxRecDepth 100000 in
theorem wl_18_9 : Cond.code yX3_reasonToWait cX3_reasonToWait 5 (some .int) ∈ lw_tbl := List.mem_append_right _ (List.mem_of_getElem? (i := 438) rfl)
theorem wl_18_10 : Cond.fieldLink RX3 148 "PeatRailway$Train" "place" "I" ∈ lw_tbl := List.mem_append_right _ (List.mem_of_getElem? (i := 146) (by decide +kernel))
theorem wl_18_11 : Cond.fieldLink RX3 163 "PeatRailway$Segment" "sinking" "I" ∈ lw_tbl := List.mem_append_right _ (List.mem_of_getElem? (i := 109) (by decide +kernel))
theorem wl_18_12 : Cond.methodLink RX3 133 yX3_isToUnload ∈ lw_tbl := List.mem_append_right _ (List.mem_of_getElem? (i := 439) (by decide +kernel))
theorem wl_18_13 : Cond.instanceMethod yX3_isToUnload ∈ lw_tbl := List.mem_append_right _ (List.mem_of_getElem? (i := 441) (by decide +kernel))
theorem wl_18_14 : Cond.selects RX3 yX3_isToUnload yX3_isToUnload ∈ lw_tbl := List.mem_append_left _ (List.mem_of_getElem? (i := 3) (by decide +kernel))
set_option maxRecDepth 100000 in
theorem wl_18_15 : Cond.code yX3_isToUnload cX3_isToUnload 2 (some .boolean) ∈ lw_tbl := List.mem_append_right _ (List.mem_of_getElem? (i := 442) rfl)
theorem wl_18_16 : Cond.methodLink RX3 139 yX3_isToLoad ∈ lw_tbl := List.mem_append_right _ (List.mem_of_getElem? (i := 443) (by decide +kernel))
theorem wl_18_17 : Cond.instanceMethod yX3_isToLoad ∈ lw_tbl := List.mem_append_right _ (List.mem_of_getElem? (i := 445) (by decide +kernel))
theorem wl_18_18 : Cond.selects RX3 yX3_isToLoad yX3_isToLoad ∈ lw_tbl := List.mem_append_left _ (List.mem_of_getElem? (i := 4) (by decide +kernel))
set_option maxRecDepth 100000 in
theorem wl_18_19 : Cond.code yX3_isToLoad cX3_isToLoad 2 (some .boolean) ∈ lw_tbl := List.mem_append_right _ (List.mem_of_getElem? (i := 446) rfl)
theorem wl_18_20 : Cond.methodLink RX3 157 yX4_fullLoad ∈ lw_tbl := List.mem_append_right _ (List.mem_of_getElem? (i := 447) (by decide +kernel))
theorem wl_18_21 : Cond.instanceMethod yX4_fullLoad ∈ lw_tbl := List.mem_append_right _ (List.mem_of_getElem? (i := 448) (by decide +kernel))
theorem wl_18_22 : Cond.selects RX4 yX4_fullLoad yX4_fullLoad ∈ lw_tbl := List.mem_append_right _ (List.mem_of_getElem? (i := 449) (by decide +kernel))
set_option maxRecDepth 100000 in
theorem wl_18_23 : Cond.code yX4_fullLoad cX4_fullLoad 1 (some .int) ∈ lw_tbl := List.mem_append_right _ (List.mem_of_getElem? (i := 450) rfl)
theorem wlr_18 : ∀ w ∈ wsL_law_r18, w ∈ lw_tbl := List.forall_mem_cons.mpr ⟨wl_18_0, List.forall_mem_cons.mpr ⟨wl_18_1, List.forall_mem_cons.mpr ⟨wl_18_2, List.forall_mem_cons.mpr ⟨wl_18_3, List.forall_mem_cons.mpr ⟨wl_18_4, List.forall_mem_cons.mpr ⟨wl_18_5, List.forall_mem_cons.mpr ⟨wl_18_6, List.forall_mem_cons.mpr ⟨wl_18_7, List.forall_mem_cons.mpr ⟨wl_18_8, List.forall_mem_cons.mpr ⟨wl_18_9, List.forall_mem_cons.mpr ⟨wl_18_10, List.forall_mem_cons.mpr ⟨wl_18_11, List.forall_mem_cons.mpr ⟨wl_18_12, List.forall_mem_cons.mpr ⟨wl_18_13, List.forall_mem_cons.mpr ⟨wl_18_14, List.forall_mem_cons.mpr ⟨wl_18_15, List.forall_mem_cons.mpr ⟨wl_18_16, List.forall_mem_cons.mpr ⟨wl_18_17, List.forall_mem_cons.mpr ⟨wl_18_18, List.forall_mem_cons.mpr ⟨wl_18_19, List.forall_mem_cons.mpr ⟨wl_18_20, List.forall_mem_cons.mpr ⟨wl_18_21, List.forall_mem_cons.mpr ⟨wl_18_22, List.forall_mem_cons.mpr ⟨wl_18_23, fun _ h => absurd h List.not_mem_nil⟩⟩⟩⟩⟩⟩⟩⟩⟩⟩⟩⟩⟩⟩⟩⟩⟩⟩⟩⟩⟩⟩⟩⟩
theorem wl_19_0 : Cond.methodLink RX3 160 yX3_placeBeyond ∈ lw_tbl := List.mem_append_right _ (List.mem_of_getElem? (i := 451) (by decide +kernel))
theorem wl_19_1 : Cond.instanceMethod yX3_placeBeyond ∈ lw_tbl := List.mem_append_right _ (List.mem_of_getElem? (i := 453) (by decide +kernel))
theorem wl_19_2 : Cond.selects RX3 yX3_placeBeyond yX3_placeBeyond ∈ lw_tbl := List.mem_append_left _ (List.mem_of_getElem? (i := 5) (by decide +kernel))
set_option maxRecDepth 100000 in
theorem wl_19_3 : Cond.code yX3_placeBeyond cX3_placeBeyond 2 (some .int) ∈ lw_tbl := List.mem_append_right _ (List.mem_of_getElem? (i := 454) rfl)
theorem wl_19_4 : Cond.methodLink RX3 166 yX3_trainsIn ∈ lw_tbl := List.mem_append_right _ (List.mem_of_getElem? (i := 455) (by decide +kernel))
theorem wl_19_5 : Cond.instanceMethod yX3_trainsIn ∈ lw_tbl := List.mem_append_right _ (List.mem_of_getElem? (i := 456) (by decide +kernel))
theorem wl_19_6 : Cond.selects RX3 yX3_trainsIn yX3_trainsIn ∈ lw_tbl := List.mem_append_right _ (List.mem_of_getElem? (i := 457) (by decide +kernel))
set_option maxRecDepth 100000 in
theorem wl_19_7 : Cond.code yX3_trainsIn cX3_trainsIn 5 (some .int) ∈ lw_tbl := List.mem_append_right _ (List.mem_of_getElem? (i := 458) rfl)
theorem wl_19_8 : Cond.methodLink RX3 170 yX3_reasonAhead ∈ lw_tbl := List.mem_append_right _ (List.mem_of_getElem? (i := 459) (by decide +kernel))
theorem wl_19_9 : Cond.instanceMethod yX3_reasonAhead ∈ lw_tbl := List.mem_append_right _ (List.mem_of_getElem? (i := 461) (by decide +kernel))
theorem wl_19_10 : Cond.selects RX3 yX3_reasonAhead yX3_reasonAhead ∈ lw_tbl := List.mem_append_left _ (List.mem_of_getElem? (i := 6) (by decide +kernel))
set_option maxRecDepth 100000 in
theorem wl_19_11 : Cond.code yX3_reasonAhead cX3_reasonAhead 6 (some .int) ∈ lw_tbl := List.mem_append_right _ (List.mem_of_getElem? (i := 462) rfl)
theorem wl_19_12 : Cond.methodLink RX3 174 yX3_isBetween ∈ lw_tbl := List.mem_append_right _ (List.mem_of_getElem? (i := 463) (by decide +kernel))
theorem wl_19_13 : Cond.static yX3_isBetween ∈ lw_tbl := List.mem_append_right _ (List.mem_of_getElem? (i := 464) (by decide +kernel))
set_option maxRecDepth 100000 in
theorem wl_19_14 : Cond.code yX3_isBetween cX3_isBetween 3 (some .boolean) ∈ lw_tbl := List.mem_append_right _ (List.mem_of_getElem? (i := 465) rfl)
theorem wl_19_15 : Cond.methodLink RX3 136 yX3_unloadTrain ∈ lw_tbl := List.mem_append_right _ (List.mem_of_getElem? (i := 466) (by decide +kernel))
theorem wl_19_16 : Cond.instanceMethod yX3_unloadTrain ∈ lw_tbl := List.mem_append_right _ (List.mem_of_getElem? (i := 468) (by decide +kernel))
theorem wl_19_17 : Cond.selects RX3 yX3_unloadTrain yX3_unloadTrain ∈ lw_tbl := List.mem_append_left _ (List.mem_of_getElem? (i := 7) (by decide +kernel))
set_option maxRecDepth 100000 in
theorem wl_19_18 : Cond.code yX3_unloadTrain cX3_unloadTrain 2 none ∈ lw_tbl := List.mem_append_right _ (List.mem_of_getElem? (i := 469) rfl)
theorem wl_19_19 : Cond.fieldLink RX3 151 "PeatRailway$Train" "wagons" "I" ∈ lw_tbl := List.mem_append_right _ (List.mem_of_getElem? (i := 139) (by decide +kernel))
theorem wl_19_20 : Cond.fieldLink RX3 154 "PeatRailway$Train" "unloads" "I" ∈ lw_tbl := List.mem_append_right _ (List.mem_of_getElem? (i := 162) (by decide +kernel))
theorem wl_19_21 : Cond.methodLink RX3 142 yX3_loadTrain ∈ lw_tbl := List.mem_append_right _ (List.mem_of_getElem? (i := 470) (by decide +kernel))
theorem wl_19_22 : Cond.instanceMethod yX3_loadTrain ∈ lw_tbl := List.mem_append_right _ (List.mem_of_getElem? (i := 472) (by decide +kernel))
theorem wl_19_23 : Cond.selects RX3 yX3_loadTrain yX3_loadTrain ∈ lw_tbl := List.mem_append_left _ (List.mem_of_getElem? (i := 8) (by decide +kernel))
theorem wlr_19 : ∀ w ∈ wsL_law_r19, w ∈ lw_tbl := List.forall_mem_cons.mpr ⟨wl_19_0, List.forall_mem_cons.mpr ⟨wl_19_1, List.forall_mem_cons.mpr ⟨wl_19_2, List.forall_mem_cons.mpr ⟨wl_19_3, List.forall_mem_cons.mpr ⟨wl_19_4, List.forall_mem_cons.mpr ⟨wl_19_5, List.forall_mem_cons.mpr ⟨wl_19_6, List.forall_mem_cons.mpr ⟨wl_19_7, List.forall_mem_cons.mpr ⟨wl_19_8, List.forall_mem_cons.mpr ⟨wl_19_9, List.forall_mem_cons.mpr ⟨wl_19_10, List.forall_mem_cons.mpr ⟨wl_19_11, List.forall_mem_cons.mpr ⟨wl_19_12, List.forall_mem_cons.mpr ⟨wl_19_13, List.forall_mem_cons.mpr ⟨wl_19_14, List.forall_mem_cons.mpr ⟨wl_19_15, List.forall_mem_cons.mpr ⟨wl_19_16, List.forall_mem_cons.mpr ⟨wl_19_17, List.forall_mem_cons.mpr ⟨wl_19_18, List.forall_mem_cons.mpr ⟨wl_19_19, List.forall_mem_cons.mpr ⟨wl_19_20, List.forall_mem_cons.mpr ⟨wl_19_21, List.forall_mem_cons.mpr ⟨wl_19_22, List.forall_mem_cons.mpr ⟨wl_19_23, fun _ h => absurd h List.not_mem_nil⟩⟩⟩⟩⟩⟩⟩⟩⟩⟩⟩⟩⟩⟩⟩⟩⟩⟩⟩⟩⟩⟩⟩⟩
set_option maxRecDepth 100000 in
theorem wl_20_0 : Cond.code yX3_loadTrain cX3_loadTrain 2 none ∈ lw_tbl := List.mem_append_right _ (List.mem_of_getElem? (i := 473) rfl)
theorem wl_20_1 : Cond.methodLink RX3 145 yX3_moveTrain ∈ lw_tbl := List.mem_append_right _ (List.mem_of_getElem? (i := 474) (by decide +kernel))
theorem wl_20_2 : Cond.instanceMethod yX3_moveTrain ∈ lw_tbl := List.mem_append_right _ (List.mem_of_getElem? (i := 476) (by decide +kernel))
theorem wl_20_3 : Cond.selects RX3 yX3_moveTrain yX3_moveTrain ∈ lw_tbl := List.mem_append_left _ (List.mem_of_getElem? (i := 9) (by decide +kernel))
set_option maxRecDepth 100000 in
theorem wl_20_4 : Cond.code yX3_moveTrain cX3_moveTrain 3 none ∈ lw_tbl := List.mem_append_right _ (List.mem_of_getElem? (i := 477) rfl)
theorem wl_20_5 : Cond.methodLink RX3 114 yX3_settle ∈ lw_tbl := List.mem_append_right _ (List.mem_of_getElem? (i := 478) (by decide +kernel))
theorem wl_20_6 : Cond.instanceMethod yX3_settle ∈ lw_tbl := List.mem_append_right _ (List.mem_of_getElem? (i := 480) (by decide +kernel))
theorem wl_20_7 : Cond.selects RX3 yX3_settle yX3_settle ∈ lw_tbl := List.mem_append_left _ (List.mem_of_getElem? (i := 10) (by decide +kernel))
set_option maxRecDepth 100000 in
theorem wl_20_8 : Cond.code yX3_settle cX3_settle 4 none ∈ lw_tbl := List.mem_append_right _ (List.mem_of_getElem? (i := 481) rfl)
theorem wl_20_9 : Cond.fieldLink RX3 178 "PeatRailway$Segment" "burden" "I" ∈ lw_tbl := List.mem_append_right _ (List.mem_of_getElem? (i := 115) (by decide +kernel))
theorem wl_20_10 : Cond.methodLink RX3 186 Lib.Math.max.name ∈ lw_tbl := List.mem_append_right _ (List.mem_of_getElem? (i := 496) (by decide +kernel))
theorem wl_20_11 : Cond.static Lib.Math.max.name ∈ lw_tbl := List.mem_append_right _ (List.mem_of_getElem? (i := 491) (by decide +kernel))
theorem wl_20_12 : Cond.initialized "java/lang/Math" ∈ lw_tbl := List.mem_append_right _ (List.mem_of_getElem? (i := 12) (by decide +kernel))
set_option maxRecDepth 100000 in
theorem wl_20_13 : Cond.code Lib.Math.max.name Lib.Math.max.code 2 (some .int) ∈ lw_tbl := List.mem_append_right _ (List.mem_of_getElem? (i := 492) rfl)
theorem wl_20_14 : Cond.methodLink RX3 181 yX4_weight ∈ lw_tbl := List.mem_append_right _ (List.mem_of_getElem? (i := 482) (by decide +kernel))
theorem wl_20_15 : Cond.instanceMethod yX4_weight ∈ lw_tbl := List.mem_append_right _ (List.mem_of_getElem? (i := 483) (by decide +kernel))
theorem wl_20_16 : Cond.selects RX4 yX4_weight yX4_weight ∈ lw_tbl := List.mem_append_right _ (List.mem_of_getElem? (i := 484) (by decide +kernel))
set_option maxRecDepth 100000 in
theorem wl_20_17 : Cond.code yX4_weight cX4_weight 1 (some .int) ∈ lw_tbl := List.mem_append_right _ (List.mem_of_getElem? (i := 485) rfl)
theorem wl_20_18 : Cond.methodLink RX3 184 yX2_settle ∈ lw_tbl := List.mem_append_right _ (List.mem_of_getElem? (i := 486) (by decide +kernel))
theorem wl_20_19 : Cond.instanceMethod yX2_settle ∈ lw_tbl := List.mem_append_right _ (List.mem_of_getElem? (i := 487) (by decide +kernel))
theorem wl_20_20 : Cond.selects RX2 yX2_settle yX2_settle ∈ lw_tbl := List.mem_append_right _ (List.mem_of_getElem? (i := 488) (by decide +kernel))
set_option maxRecDepth 100000 in
theorem wl_20_21 : Cond.code yX2_settle cX2_settle 2 none ∈ lw_tbl := List.mem_append_right _ (List.mem_of_getElem? (i := 489) rfl)
theorem wl_20_22 : Cond.fieldLink RX2 27 "PeatRailway$Segment" "burden" "I" ∈ lw_tbl := List.mem_append_right _ (List.mem_of_getElem? (i := 114) (by decide +kernel))
theorem wl_20_23 : Cond.methodLink RX2 30 Lib.Math.max.name ∈ lw_tbl := List.mem_append_right _ (List.mem_of_getElem? (i := 490) (by decide +kernel))
theorem wlr_20 : ∀ w ∈ wsL_law_r20, w ∈ lw_tbl := List.forall_mem_cons.mpr ⟨wl_20_0, List.forall_mem_cons.mpr ⟨wl_20_1, List.forall_mem_cons.mpr ⟨wl_20_2, List.forall_mem_cons.mpr ⟨wl_20_3, List.forall_mem_cons.mpr ⟨wl_20_4, List.forall_mem_cons.mpr ⟨wl_20_5, List.forall_mem_cons.mpr ⟨wl_20_6, List.forall_mem_cons.mpr ⟨wl_20_7, List.forall_mem_cons.mpr ⟨wl_20_8, List.forall_mem_cons.mpr ⟨wl_20_9, List.forall_mem_cons.mpr ⟨wl_20_10, List.forall_mem_cons.mpr ⟨wl_20_11, List.forall_mem_cons.mpr ⟨wl_20_12, List.forall_mem_cons.mpr ⟨wl_20_13, List.forall_mem_cons.mpr ⟨wl_20_14, List.forall_mem_cons.mpr ⟨wl_20_15, List.forall_mem_cons.mpr ⟨wl_20_16, List.forall_mem_cons.mpr ⟨wl_20_17, List.forall_mem_cons.mpr ⟨wl_20_18, List.forall_mem_cons.mpr ⟨wl_20_19, List.forall_mem_cons.mpr ⟨wl_20_20, List.forall_mem_cons.mpr ⟨wl_20_21, List.forall_mem_cons.mpr ⟨wl_20_22, List.forall_mem_cons.mpr ⟨wl_20_23, fun _ h => absurd h List.not_mem_nil⟩⟩⟩⟩⟩⟩⟩⟩⟩⟩⟩⟩⟩⟩⟩⟩⟩⟩⟩⟩⟩⟩⟩⟩
theorem wl_21_0 : Cond.methodLink RX2 36 Lib.Math.min.name ∈ lw_tbl := List.mem_append_right _ (List.mem_of_getElem? (i := 493) (by decide +kernel))
theorem wl_21_1 : Cond.static Lib.Math.min.name ∈ lw_tbl := List.mem_append_right _ (List.mem_of_getElem? (i := 494) (by decide +kernel))
set_option maxRecDepth 100000 in
theorem wl_21_2 : Cond.code Lib.Math.min.name Lib.Math.min.code 2 (some .int) ∈ lw_tbl := List.mem_append_right _ (List.mem_of_getElem? (i := 495) rfl)
theorem wl_21_3 : Cond.methodLink RL 55 yX6_run ∈ lw_tbl := List.mem_append_right _ (List.mem_of_getElem? (i := 753) (by decide +kernel))
theorem wl_21_4 : Cond.instanceMethod yX6_run ∈ lw_tbl := List.mem_append_right _ (List.mem_of_getElem? (i := 754) (by decide +kernel))
theorem wl_21_5 : Cond.selects RX6 yX6_run yX6_run ∈ lw_tbl := List.mem_append_right _ (List.mem_of_getElem? (i := 755) (by decide +kernel))
set_option maxRecDepth 100000 in
theorem wl_21_6 : Cond.code yX6_run cX6_run 4 (some .int) ∈ lw_tbl := List.mem_append_right _ (List.mem_of_getElem? (i := 756) rfl)
theorem wl_21_7 : Cond.methodLink RX6 124 yX6_tick ∈ lw_tbl := List.mem_append_right _ (List.mem_of_getElem? (i := 757) (by decide +kernel))
theorem wl_21_8 : Cond.instanceMethod yX6_tick ∈ lw_tbl := List.mem_append_right _ (List.mem_of_getElem? (i := 759) (by decide +kernel))
theorem wl_21_9 : Cond.selects RX6 yX6_tick yX6_tick ∈ lw_tbl := List.mem_append_left _ (List.mem_of_getElem? (i := 24) (by decide +kernel))
set_option maxRecDepth 100000 in
theorem wl_21_10 : Cond.code yX6_tick cX6_tick 6 none ∈ lw_tbl := List.mem_append_right _ (List.mem_of_getElem? (i := 760) rfl)
theorem wl_21_11 : Cond.methodLink RX6 118 yX6_turn ∈ lw_tbl := List.mem_append_right _ (List.mem_of_getElem? (i := 761) (by decide +kernel))
theorem wl_21_12 : Cond.instanceMethod yX6_turn ∈ lw_tbl := List.mem_append_right _ (List.mem_of_getElem? (i := 763) (by decide +kernel))
theorem wl_21_13 : Cond.selects RX6 yX6_turn yX6_turn ∈ lw_tbl := List.mem_append_left _ (List.mem_of_getElem? (i := 25) (by decide +kernel))
set_option maxRecDepth 100000 in
theorem wl_21_14 : Cond.code yX6_turn cX6_turn 4 none ∈ lw_tbl := List.mem_append_right _ (List.mem_of_getElem? (i := 764) rfl)
theorem wl_21_15 : Cond.methodLink RX6 108 yX6_reason ∈ lw_tbl := List.mem_append_right _ (List.mem_of_getElem? (i := 765) (by decide +kernel))
theorem wl_21_16 : Cond.instanceMethod yX6_reason ∈ lw_tbl := List.mem_append_right _ (List.mem_of_getElem? (i := 767) (by decide +kernel))
theorem wl_21_17 : Cond.selects RX6 yX6_reason yX6_reason ∈ lw_tbl := List.mem_append_left _ (List.mem_of_getElem? (i := 26) (by decide +kernel))
set_option maxRecDepth 100000 in
theorem wl_21_18 : Cond.code yX6_reason cX6_reason 8 (some .int) ∈ lw_tbl := List.mem_append_right _ (List.mem_of_getElem? (i := 768) rfl)
theorem wl_21_19 : Cond.methodLink RX6 95 yX6_wanted ∈ lw_tbl := List.mem_append_right _ (List.mem_of_getElem? (i := 769) (by decide +kernel))
theorem wl_21_20 : Cond.instanceMethod yX6_wanted ∈ lw_tbl := List.mem_append_right _ (List.mem_of_getElem? (i := 771) (by decide +kernel))
theorem wl_21_21 : Cond.selects RX6 yX6_wanted yX6_wanted ∈ lw_tbl := List.mem_append_left _ (List.mem_of_getElem? (i := 27) (by decide +kernel))
set_option maxRecDepth 100000 in
theorem wl_21_22 : Cond.code yX6_wanted cX6_wanted 2 (some .int) ∈ lw_tbl := List.mem_append_right _ (List.mem_of_getElem? (i := 772) rfl)
theorem wl_21_23 : Cond.methodLink RX6 83 yX6_seg ∈ lw_tbl := List.mem_append_right _ (List.mem_of_getElem? (i := 773) (by decide +kernel))
theorem wlr_21 : ∀ w ∈ wsL_law_r21, w ∈ lw_tbl := List.forall_mem_cons.mpr ⟨wl_21_0, List.forall_mem_cons.mpr ⟨wl_21_1, List.forall_mem_cons.mpr ⟨wl_21_2, List.forall_mem_cons.mpr ⟨wl_21_3, List.forall_mem_cons.mpr ⟨wl_21_4, List.forall_mem_cons.mpr ⟨wl_21_5, List.forall_mem_cons.mpr ⟨wl_21_6, List.forall_mem_cons.mpr ⟨wl_21_7, List.forall_mem_cons.mpr ⟨wl_21_8, List.forall_mem_cons.mpr ⟨wl_21_9, List.forall_mem_cons.mpr ⟨wl_21_10, List.forall_mem_cons.mpr ⟨wl_21_11, List.forall_mem_cons.mpr ⟨wl_21_12, List.forall_mem_cons.mpr ⟨wl_21_13, List.forall_mem_cons.mpr ⟨wl_21_14, List.forall_mem_cons.mpr ⟨wl_21_15, List.forall_mem_cons.mpr ⟨wl_21_16, List.forall_mem_cons.mpr ⟨wl_21_17, List.forall_mem_cons.mpr ⟨wl_21_18, List.forall_mem_cons.mpr ⟨wl_21_19, List.forall_mem_cons.mpr ⟨wl_21_20, List.forall_mem_cons.mpr ⟨wl_21_21, List.forall_mem_cons.mpr ⟨wl_21_22, List.forall_mem_cons.mpr ⟨wl_21_23, fun _ h => absurd h List.not_mem_nil⟩⟩⟩⟩⟩⟩⟩⟩⟩⟩⟩⟩⟩⟩⟩⟩⟩⟩⟩⟩⟩⟩⟩⟩
theorem wl_22_0 : Cond.instanceMethod yX6_seg ∈ lw_tbl := List.mem_append_right _ (List.mem_of_getElem? (i := 775) (by decide +kernel))
theorem wl_22_1 : Cond.selects RX6 yX6_seg yX6_seg ∈ lw_tbl := List.mem_append_left _ (List.mem_of_getElem? (i := 28) (by decide +kernel))
set_option maxRecDepth 100000 in
theorem wl_22_2 : Cond.code yX6_seg cX6_seg 3 (some .int) ∈ lw_tbl := List.mem_append_right _ (List.mem_of_getElem? (i := 776) rfl)
theorem wl_22_3 : Cond.methodLink RX6 98 yX6_trainsIn ∈ lw_tbl := List.mem_append_right _ (List.mem_of_getElem? (i := 777) (by decide +kernel))
theorem wl_22_4 : Cond.instanceMethod yX6_trainsIn ∈ lw_tbl := List.mem_append_right _ (List.mem_of_getElem? (i := 779) (by decide +kernel))
theorem wl_22_5 : Cond.selects RX6 yX6_trainsIn yX6_trainsIn ∈ lw_tbl := List.mem_append_left _ (List.mem_of_getElem? (i := 29) (by decide +kernel))
set_option maxRecDepth 100000 in
theorem wl_22_6 : Cond.code yX6_trainsIn cX6_trainsIn 4 (some .int) ∈ lw_tbl := List.mem_append_right _ (List.mem_of_getElem? (i := 780) rfl)
theorem wl_22_7 : Cond.methodLink RX6 101 yX6_room ∈ lw_tbl := List.mem_append_right _ (List.mem_of_getElem? (i := 781) (by decide +kernel))
theorem wl_22_8 : Cond.instanceMethod yX6_room ∈ lw_tbl := List.mem_append_right _ (List.mem_of_getElem? (i := 783) (by decide +kernel))
theorem wl_22_9 : Cond.selects RX6 yX6_room yX6_room ∈ lw_tbl := List.mem_append_left _ (List.mem_of_getElem? (i := 30) (by decide +kernel))
set_option maxRecDepth 100000 in
theorem wl_22_10 : Cond.code yX6_room cX6_room 2 (some .int) ∈ lw_tbl := List.mem_append_right _ (List.mem_of_getElem? (i := 784) rfl)
theorem wl_22_11 : Cond.methodLink RX6 86 yX6_isEnd ∈ lw_tbl := List.mem_append_right _ (List.mem_of_getElem? (i := 785) (by decide +kernel))
theorem wl_22_12 : Cond.instanceMethod yX6_isEnd ∈ lw_tbl := List.mem_append_right _ (List.mem_of_getElem? (i := 787) (by decide +kernel))
theorem wl_22_13 : Cond.selects RX6 yX6_isEnd yX6_isEnd ∈ lw_tbl := List.mem_append_left _ (List.mem_of_getElem? (i := 31) (by decide +kernel))
set_option maxRecDepth 100000 in
theorem wl_22_14 : Cond.code yX6_isEnd cX6_isEnd 2 (some .boolean) ∈ lw_tbl := List.mem_append_right _ (List.mem_of_getElem? (i := 788) rfl)
theorem wl_22_15 : Cond.methodLink RX6 89 yX6_isPassing ∈ lw_tbl := List.mem_append_right _ (List.mem_of_getElem? (i := 789) (by decide +kernel))
theorem wl_22_16 : Cond.instanceMethod yX6_isPassing ∈ lw_tbl := List.mem_append_right _ (List.mem_of_getElem? (i := 791) (by decide +kernel))
theorem wl_22_17 : Cond.selects RX6 yX6_isPassing yX6_isPassing ∈ lw_tbl := List.mem_append_left _ (List.mem_of_getElem? (i := 32) (by decide +kernel))
set_option maxRecDepth 100000 in
theorem wl_22_18 : Cond.code yX6_isPassing cX6_isPassing 2 (some .boolean) ∈ lw_tbl := List.mem_append_right _ (List.mem_of_getElem? (i := 792) rfl)
theorem wl_22_19 : Cond.methodLink RX6 104 yX6_between ∈ lw_tbl := List.mem_append_right _ (List.mem_of_getElem? (i := 793) (by decide +kernel))
theorem wl_22_20 : Cond.instanceMethod yX6_between ∈ lw_tbl := List.mem_append_right _ (List.mem_of_getElem? (i := 795) (by decide +kernel))
theorem wl_22_21 : Cond.selects RX6 yX6_between yX6_between ∈ lw_tbl := List.mem_append_left _ (List.mem_of_getElem? (i := 33) (by decide +kernel))
set_option maxRecDepth 100000 in
theorem wl_22_22 : Cond.code yX6_between cX6_between 8 (some .int) ∈ lw_tbl := List.mem_append_right _ (List.mem_of_getElem? (i := 796) rfl)
theorem wl_22_23 : Cond.methodLink RX6 111 yX6_go ∈ lw_tbl := List.mem_append_right _ (List.mem_of_getElem? (i := 797) (by decide +kernel))
theorem wlr_22 : ∀ w ∈ wsL_law_r22, w ∈ lw_tbl := List.forall_mem_cons.mpr ⟨wl_22_0, List.forall_mem_cons.mpr ⟨wl_22_1, List.forall_mem_cons.mpr ⟨wl_22_2, List.forall_mem_cons.mpr ⟨wl_22_3, List.forall_mem_cons.mpr ⟨wl_22_4, List.forall_mem_cons.mpr ⟨wl_22_5, List.forall_mem_cons.mpr ⟨wl_22_6, List.forall_mem_cons.mpr ⟨wl_22_7, List.forall_mem_cons.mpr ⟨wl_22_8, List.forall_mem_cons.mpr ⟨wl_22_9, List.forall_mem_cons.mpr ⟨wl_22_10, List.forall_mem_cons.mpr ⟨wl_22_11, List.forall_mem_cons.mpr ⟨wl_22_12, List.forall_mem_cons.mpr ⟨wl_22_13, List.forall_mem_cons.mpr ⟨wl_22_14, List.forall_mem_cons.mpr ⟨wl_22_15, List.forall_mem_cons.mpr ⟨wl_22_16, List.forall_mem_cons.mpr ⟨wl_22_17, List.forall_mem_cons.mpr ⟨wl_22_18, List.forall_mem_cons.mpr ⟨wl_22_19, List.forall_mem_cons.mpr ⟨wl_22_20, List.forall_mem_cons.mpr ⟨wl_22_21, List.forall_mem_cons.mpr ⟨wl_22_22, List.forall_mem_cons.mpr ⟨wl_22_23, fun _ h => absurd h List.not_mem_nil⟩⟩⟩⟩⟩⟩⟩⟩⟩⟩⟩⟩⟩⟩⟩⟩⟩⟩⟩⟩⟩⟩⟩⟩
theorem wl_23_0 : Cond.instanceMethod yX6_go ∈ lw_tbl := List.mem_append_right _ (List.mem_of_getElem? (i := 799) (by decide +kernel))
theorem wl_23_1 : Cond.selects RX6 yX6_go yX6_go ∈ lw_tbl := List.mem_append_left _ (List.mem_of_getElem? (i := 34) (by decide +kernel))
set_option maxRecDepth 100000 in
theorem wl_23_2 : Cond.code yX6_go cX6_go 5 none ∈ lw_tbl := List.mem_append_right _ (List.mem_of_getElem? (i := 800) rfl)
theorem wl_23_3 : Cond.methodLink RX6 121 yX6_sink ∈ lw_tbl := List.mem_append_right _ (List.mem_of_getElem? (i := 801) (by decide +kernel))
theorem wl_23_4 : Cond.instanceMethod yX6_sink ∈ lw_tbl := List.mem_append_right _ (List.mem_of_getElem? (i := 803) (by decide +kernel))
theorem wl_23_5 : Cond.selects RX6 yX6_sink yX6_sink ∈ lw_tbl := List.mem_append_left _ (List.mem_of_getElem? (i := 35) (by decide +kernel))
set_option maxRecDepth 100000 in
theorem wl_23_6 : Cond.code yX6_sink cX6_sink 5 none ∈ lw_tbl := List.mem_append_right _ (List.mem_of_getElem? (i := 804) rfl)
theorem wl_23_7 : Cond.methodLink RX6 115 yX6_weightIn ∈ lw_tbl := List.mem_append_right _ (List.mem_of_getElem? (i := 805) (by decide +kernel))
theorem wl_23_8 : Cond.instanceMethod yX6_weightIn ∈ lw_tbl := List.mem_append_right _ (List.mem_of_getElem? (i := 807) (by decide +kernel))
theorem wl_23_9 : Cond.selects RX6 yX6_weightIn yX6_weightIn ∈ lw_tbl := List.mem_append_left _ (List.mem_of_getElem? (i := 36) (by decide +kernel))
set_option maxRecDepth 100000 in
theorem wl_23_10 : Cond.code yX6_weightIn cX6_weightIn 4 (some .int) ∈ lw_tbl := List.mem_append_right _ (List.mem_of_getElem? (i := 808) rfl)
theorem wl_23_11 : Cond.methodLink RX6 92 yX6_weight ∈ lw_tbl := List.mem_append_right _ (List.mem_of_getElem? (i := 809) (by decide +kernel))
theorem wl_23_12 : Cond.instanceMethod yX6_weight ∈ lw_tbl := List.mem_append_right _ (List.mem_of_getElem? (i := 811) (by decide +kernel))
theorem wl_23_13 : Cond.selects RX6 yX6_weight yX6_weight ∈ lw_tbl := List.mem_append_left _ (List.mem_of_getElem? (i := 37) (by decide +kernel))
set_option maxRecDepth 100000 in
theorem wl_23_14 : Cond.code yX6_weight cX6_weight 2 (some .int) ∈ lw_tbl := List.mem_append_right _ (List.mem_of_getElem? (i := 812) rfl)
theorem wl_23_15 : Cond.methodLink RL 56 yX5_undo ∈ lw_tbl := List.mem_append_right _ (List.mem_of_getElem? (i := 497) (by decide +kernel))
theorem wl_23_16 : Cond.instanceMethod yX5_undo ∈ lw_tbl := List.mem_append_right _ (List.mem_of_getElem? (i := 498) (by decide +kernel))
theorem wl_23_17 : Cond.selects RX5 yX5_undo yX5_undo ∈ lw_tbl := List.mem_append_right _ (List.mem_of_getElem? (i := 499) (by decide +kernel))
set_option maxRecDepth 100000 in
theorem wl_23_18 : Cond.code yX5_undo cX5_undo 1 (some .int) ∈ lw_tbl := List.mem_append_right _ (List.mem_of_getElem? (i := 500) rfl)
theorem wl_23_19 : Cond.methodLink RX5 131 yX0_size ∈ lw_tbl := List.mem_append_right _ (List.mem_of_getElem? (i := 501) (by decide +kernel))
theorem wl_23_20 : Cond.instanceMethod yX0_size ∈ lw_tbl := List.mem_append_right _ (List.mem_of_getElem? (i := 502) (by decide +kernel))
theorem wl_23_21 : Cond.selects RX0 yX0_size yX0_size ∈ lw_tbl := List.mem_append_right _ (List.mem_of_getElem? (i := 503) (by decide +kernel))
set_option maxRecDepth 100000 in
theorem wl_23_22 : Cond.code yX0_size cX0_size 1 (some .int) ∈ lw_tbl := List.mem_append_right _ (List.mem_of_getElem? (i := 504) rfl)
theorem wl_23_23 : Cond.methodLink RX5 134 yX0_restore ∈ lw_tbl := List.mem_append_right _ (List.mem_of_getElem? (i := 505) (by decide +kernel))
theorem wlr_23 : ∀ w ∈ wsL_law_r23, w ∈ lw_tbl := List.forall_mem_cons.mpr ⟨wl_23_0, List.forall_mem_cons.mpr ⟨wl_23_1, List.forall_mem_cons.mpr ⟨wl_23_2, List.forall_mem_cons.mpr ⟨wl_23_3, List.forall_mem_cons.mpr ⟨wl_23_4, List.forall_mem_cons.mpr ⟨wl_23_5, List.forall_mem_cons.mpr ⟨wl_23_6, List.forall_mem_cons.mpr ⟨wl_23_7, List.forall_mem_cons.mpr ⟨wl_23_8, List.forall_mem_cons.mpr ⟨wl_23_9, List.forall_mem_cons.mpr ⟨wl_23_10, List.forall_mem_cons.mpr ⟨wl_23_11, List.forall_mem_cons.mpr ⟨wl_23_12, List.forall_mem_cons.mpr ⟨wl_23_13, List.forall_mem_cons.mpr ⟨wl_23_14, List.forall_mem_cons.mpr ⟨wl_23_15, List.forall_mem_cons.mpr ⟨wl_23_16, List.forall_mem_cons.mpr ⟨wl_23_17, List.forall_mem_cons.mpr ⟨wl_23_18, List.forall_mem_cons.mpr ⟨wl_23_19, List.forall_mem_cons.mpr ⟨wl_23_20, List.forall_mem_cons.mpr ⟨wl_23_21, List.forall_mem_cons.mpr ⟨wl_23_22, List.forall_mem_cons.mpr ⟨wl_23_23, fun _ h => absurd h List.not_mem_nil⟩⟩⟩⟩⟩⟩⟩⟩⟩⟩⟩⟩⟩⟩⟩⟩⟩⟩⟩⟩⟩⟩⟩⟩
theorem wl_24_0 : Cond.instanceMethod yX0_restore ∈ lw_tbl := List.mem_append_right _ (List.mem_of_getElem? (i := 506) (by decide +kernel))
theorem wl_24_1 : Cond.selects RX0 yX0_restore yX0_restore ∈ lw_tbl := List.mem_append_right _ (List.mem_of_getElem? (i := 507) (by decide +kernel))
set_option maxRecDepth 100000 in
theorem wl_24_2 : Cond.code yX0_restore cX0_restore 2 none ∈ lw_tbl := List.mem_append_right _ (List.mem_of_getElem? (i := 508) rfl)
theorem wl_24_3 : Cond.methodLink RL 59 yX6_undo ∈ lw_tbl := List.mem_append_right _ (List.mem_of_getElem? (i := 813) (by decide +kernel))
theorem wl_24_4 : Cond.instanceMethod yX6_undo ∈ lw_tbl := List.mem_append_right _ (List.mem_of_getElem? (i := 814) (by decide +kernel))
theorem wl_24_5 : Cond.selects RX6 yX6_undo yX6_undo ∈ lw_tbl := List.mem_append_right _ (List.mem_of_getElem? (i := 815) (by decide +kernel))
set_option maxRecDepth 100000 in
theorem wl_24_6 : Cond.code yX6_undo cX6_undo 1 (some .int) ∈ lw_tbl := List.mem_append_right _ (List.mem_of_getElem? (i := 816) rfl)
theorem wl_24_7 : Cond.methodLink RL 60 yX5_keep ∈ lw_tbl := List.mem_append_right _ (List.mem_of_getElem? (i := 509) (by decide +kernel))
theorem wl_24_8 : Cond.instanceMethod yX5_keep ∈ lw_tbl := List.mem_append_right _ (List.mem_of_getElem? (i := 510) (by decide +kernel))
theorem wl_24_9 : Cond.selects RX5 yX5_keep yX5_keep ∈ lw_tbl := List.mem_append_right _ (List.mem_of_getElem? (i := 511) (by decide +kernel))
set_option maxRecDepth 100000 in
theorem wl_24_10 : Cond.code yX5_keep cX5_keep 2 (some .int) ∈ lw_tbl := List.mem_append_right _ (List.mem_of_getElem? (i := 512) rfl)
theorem wl_24_11 : Cond.fieldLink RX5 143 "PeatRailway" "keptImages" "I" ∈ lw_tbl := List.mem_append_right _ (List.mem_of_getElem? (i := 295) (by decide +kernel))
theorem wl_24_12 : Cond.fieldLink RX5 146 "PeatRailway$State" "clock" "I" ∈ lw_tbl := List.mem_append_right _ (List.mem_of_getElem? (i := 204) (by decide +kernel))
theorem wl_24_13 : Cond.methodLink RX5 137 yX5_isImage ∈ lw_tbl := List.mem_append_right _ (List.mem_of_getElem? (i := 513) (by decide +kernel))
theorem wl_24_14 : Cond.static yX5_isImage ∈ lw_tbl := List.mem_append_right _ (List.mem_of_getElem? (i := 514) (by decide +kernel))
set_option maxRecDepth 100000 in
theorem wl_24_15 : Cond.code yX5_isImage cX5_isImage 1 (some .boolean) ∈ lw_tbl := List.mem_append_right _ (List.mem_of_getElem? (i := 515) rfl)
theorem wl_24_16 : Cond.methodLink RX5 140 yX3_copyFrom ∈ lw_tbl := List.mem_append_right _ (List.mem_of_getElem? (i := 516) (by decide +kernel))
theorem wl_24_17 : Cond.methodLink RL 63 yX6_keep ∈ lw_tbl := List.mem_append_right _ (List.mem_of_getElem? (i := 817) (by decide +kernel))
theorem wl_24_18 : Cond.instanceMethod yX6_keep ∈ lw_tbl := List.mem_append_right _ (List.mem_of_getElem? (i := 818) (by decide +kernel))
theorem wl_24_19 : Cond.selects RX6 yX6_keep yX6_keep ∈ lw_tbl := List.mem_append_right _ (List.mem_of_getElem? (i := 819) (by decide +kernel))
set_option maxRecDepth 100000 in
theorem wl_24_20 : Cond.code yX6_keep cX6_keep 2 (some .int) ∈ lw_tbl := List.mem_append_right _ (List.mem_of_getElem? (i := 820) rfl)
theorem wl_24_21 : Cond.fieldLink RX6 127 "PeatRailwayModel" "kept" "I" ∈ lw_tbl := List.mem_append_right _ (List.mem_of_getElem? (i := 645) (by decide +kernel))
theorem wl_24_22 : Cond.methodLink RL 64 yX5_back ∈ lw_tbl := List.mem_append_right _ (List.mem_of_getElem? (i := 517) (by decide +kernel))
theorem wl_24_23 : Cond.instanceMethod yX5_back ∈ lw_tbl := List.mem_append_right _ (List.mem_of_getElem? (i := 518) (by decide +kernel))
theorem wlr_24 : ∀ w ∈ wsL_law_r24, w ∈ lw_tbl := List.forall_mem_cons.mpr ⟨wl_24_0, List.forall_mem_cons.mpr ⟨wl_24_1, List.forall_mem_cons.mpr ⟨wl_24_2, List.forall_mem_cons.mpr ⟨wl_24_3, List.forall_mem_cons.mpr ⟨wl_24_4, List.forall_mem_cons.mpr ⟨wl_24_5, List.forall_mem_cons.mpr ⟨wl_24_6, List.forall_mem_cons.mpr ⟨wl_24_7, List.forall_mem_cons.mpr ⟨wl_24_8, List.forall_mem_cons.mpr ⟨wl_24_9, List.forall_mem_cons.mpr ⟨wl_24_10, List.forall_mem_cons.mpr ⟨wl_24_11, List.forall_mem_cons.mpr ⟨wl_24_12, List.forall_mem_cons.mpr ⟨wl_24_13, List.forall_mem_cons.mpr ⟨wl_24_14, List.forall_mem_cons.mpr ⟨wl_24_15, List.forall_mem_cons.mpr ⟨wl_24_16, List.forall_mem_cons.mpr ⟨wl_24_17, List.forall_mem_cons.mpr ⟨wl_24_18, List.forall_mem_cons.mpr ⟨wl_24_19, List.forall_mem_cons.mpr ⟨wl_24_20, List.forall_mem_cons.mpr ⟨wl_24_21, List.forall_mem_cons.mpr ⟨wl_24_22, List.forall_mem_cons.mpr ⟨wl_24_23, fun _ h => absurd h List.not_mem_nil⟩⟩⟩⟩⟩⟩⟩⟩⟩⟩⟩⟩⟩⟩⟩⟩⟩⟩⟩⟩⟩⟩⟩⟩
theorem wl_25_0 : Cond.selects RX5 yX5_back yX5_back ∈ lw_tbl := List.mem_append_right _ (List.mem_of_getElem? (i := 519) (by decide +kernel))
set_option maxRecDepth 100000 in
theorem wl_25_1 : Cond.code yX5_back cX5_back 2 (some .int) ∈ lw_tbl := List.mem_append_right _ (List.mem_of_getElem? (i := 520) rfl)
theorem wl_25_2 : Cond.methodLink RL 67 yX6_back ∈ lw_tbl := List.mem_append_right _ (List.mem_of_getElem? (i := 821) (by decide +kernel))
theorem wl_25_3 : Cond.instanceMethod yX6_back ∈ lw_tbl := List.mem_append_right _ (List.mem_of_getElem? (i := 822) (by decide +kernel))
theorem wl_25_4 : Cond.selects RX6 yX6_back yX6_back ∈ lw_tbl := List.mem_append_right _ (List.mem_of_getElem? (i := 823) (by decide +kernel))
set_option maxRecDepth 100000 in
theorem wl_25_5 : Cond.code yX6_back cX6_back 2 (some .int) ∈ lw_tbl := List.mem_append_right _ (List.mem_of_getElem? (i := 824) rfl)
theorem wl_25_6 : Cond.methodLink RL 68 yX5_segment ∈ lw_tbl := List.mem_append_right _ (List.mem_of_getElem? (i := 521) (by decide +kernel))
theorem wl_25_7 : Cond.instanceMethod yX5_segment ∈ lw_tbl := List.mem_append_right _ (List.mem_of_getElem? (i := 522) (by decide +kernel))
theorem wl_25_8 : Cond.selects RX5 yX5_segment yX5_segment ∈ lw_tbl := List.mem_append_right _ (List.mem_of_getElem? (i := 523) (by decide +kernel))
set_option maxRecDepth 100000 in
theorem wl_25_9 : Cond.code yX5_segment cX5_segment 4 (some .int) ∈ lw_tbl := List.mem_append_right _ (List.mem_of_getElem? (i := 524) rfl)
theorem wl_25_10 : Cond.fieldLink RX5 153 "PeatRailway$Segment" "softness" "I" ∈ lw_tbl := List.mem_append_right _ (List.mem_of_getElem? (i := 103) (by decide +kernel))
theorem wl_25_11 : Cond.fieldLink RX5 161 "PeatRailway$Segment" "sinking" "I" ∈ lw_tbl := List.mem_append_right _ (List.mem_of_getElem? (i := 108) (by decide +kernel))
theorem wl_25_12 : Cond.fieldLink RX5 170 "PeatRailway$Segment" "room" "I" ∈ lw_tbl := List.mem_append_right _ (List.mem_of_getElem? (i := 106) (by decide +kernel))
theorem wl_25_13 : Cond.methodLink RX5 149 yX3_segmentAt ∈ lw_tbl := List.mem_append_right _ (List.mem_of_getElem? (i := 525) (by decide +kernel))
theorem wl_25_14 : Cond.methodLink RX5 158 yX2_isPassingPlace ∈ lw_tbl := List.mem_append_right _ (List.mem_of_getElem? (i := 526) (by decide +kernel))
theorem wl_25_15 : Cond.methodLink RX5 164 yX3_trainsIn ∈ lw_tbl := List.mem_append_right _ (List.mem_of_getElem? (i := 527) (by decide +kernel))
theorem wl_25_16 : Cond.methodLink RX5 167 yX3_weightIn ∈ lw_tbl := List.mem_append_right _ (List.mem_of_getElem? (i := 528) (by decide +kernel))
theorem wl_25_17 : Cond.instanceMethod yX3_weightIn ∈ lw_tbl := List.mem_append_right _ (List.mem_of_getElem? (i := 529) (by decide +kernel))
theorem wl_25_18 : Cond.selects RX3 yX3_weightIn yX3_weightIn ∈ lw_tbl := List.mem_append_right _ (List.mem_of_getElem? (i := 530) (by decide +kernel))
set_option maxRecDepth 100000 in
theorem wl_25_19 : Cond.code yX3_weightIn cX3_weightIn 5 (some .int) ∈ lw_tbl := List.mem_append_right _ (List.mem_of_getElem? (i := 531) rfl)
theorem wl_25_20 : Cond.methodLink RX5 173 yX2_ticksToRise ∈ lw_tbl := List.mem_append_right _ (List.mem_of_getElem? (i := 532) (by decide +kernel))
theorem wl_25_21 : Cond.instanceMethod yX2_ticksToRise ∈ lw_tbl := List.mem_append_right _ (List.mem_of_getElem? (i := 533) (by decide +kernel))
theorem wl_25_22 : Cond.selects RX2 yX2_ticksToRise yX2_ticksToRise ∈ lw_tbl := List.mem_append_right _ (List.mem_of_getElem? (i := 534) (by decide +kernel))
set_option maxRecDepth 100000 in
theorem wl_25_23 : Cond.code yX2_ticksToRise cX2_ticksToRise 3 (some .int) ∈ lw_tbl := List.mem_append_right _ (List.mem_of_getElem? (i := 535) rfl)
theorem wlr_25 : ∀ w ∈ wsL_law_r25, w ∈ lw_tbl := List.forall_mem_cons.mpr ⟨wl_25_0, List.forall_mem_cons.mpr ⟨wl_25_1, List.forall_mem_cons.mpr ⟨wl_25_2, List.forall_mem_cons.mpr ⟨wl_25_3, List.forall_mem_cons.mpr ⟨wl_25_4, List.forall_mem_cons.mpr ⟨wl_25_5, List.forall_mem_cons.mpr ⟨wl_25_6, List.forall_mem_cons.mpr ⟨wl_25_7, List.forall_mem_cons.mpr ⟨wl_25_8, List.forall_mem_cons.mpr ⟨wl_25_9, List.forall_mem_cons.mpr ⟨wl_25_10, List.forall_mem_cons.mpr ⟨wl_25_11, List.forall_mem_cons.mpr ⟨wl_25_12, List.forall_mem_cons.mpr ⟨wl_25_13, List.forall_mem_cons.mpr ⟨wl_25_14, List.forall_mem_cons.mpr ⟨wl_25_15, List.forall_mem_cons.mpr ⟨wl_25_16, List.forall_mem_cons.mpr ⟨wl_25_17, List.forall_mem_cons.mpr ⟨wl_25_18, List.forall_mem_cons.mpr ⟨wl_25_19, List.forall_mem_cons.mpr ⟨wl_25_20, List.forall_mem_cons.mpr ⟨wl_25_21, List.forall_mem_cons.mpr ⟨wl_25_22, List.forall_mem_cons.mpr ⟨wl_25_23, fun _ h => absurd h List.not_mem_nil⟩⟩⟩⟩⟩⟩⟩⟩⟩⟩⟩⟩⟩⟩⟩⟩⟩⟩⟩⟩⟩⟩⟩⟩
theorem wl_26_0 : Cond.methodLink RL 71 yX6_segment ∈ lw_tbl := List.mem_append_right _ (List.mem_of_getElem? (i := 825) (by decide +kernel))
theorem wl_26_1 : Cond.instanceMethod yX6_segment ∈ lw_tbl := List.mem_append_right _ (List.mem_of_getElem? (i := 826) (by decide +kernel))
theorem wl_26_2 : Cond.selects RX6 yX6_segment yX6_segment ∈ lw_tbl := List.mem_append_right _ (List.mem_of_getElem? (i := 827) (by decide +kernel))
set_option maxRecDepth 100000 in
theorem wl_26_3 : Cond.code yX6_segment cX6_segment 3 (some .int) ∈ lw_tbl := List.mem_append_right _ (List.mem_of_getElem? (i := 828) rfl)
theorem wl_26_4 : Cond.methodLink RX6 133 yX6_isSegment ∈ lw_tbl := List.mem_append_right _ (List.mem_of_getElem? (i := 829) (by decide +kernel))
theorem wl_26_5 : Cond.instanceMethod yX6_isSegment ∈ lw_tbl := List.mem_append_right _ (List.mem_of_getElem? (i := 831) (by decide +kernel))
theorem wl_26_6 : Cond.selects RX6 yX6_isSegment yX6_isSegment ∈ lw_tbl := List.mem_append_left _ (List.mem_of_getElem? (i := 38) (by decide +kernel))
set_option maxRecDepth 100000 in
theorem wl_26_7 : Cond.code yX6_isSegment cX6_isSegment 2 (some .boolean) ∈ lw_tbl := List.mem_append_right _ (List.mem_of_getElem? (i := 832) rfl)
theorem wl_26_8 : Cond.methodLink RX6 136 yX6_segmentNow ∈ lw_tbl := List.mem_append_right _ (List.mem_of_getElem? (i := 833) (by decide +kernel))
theorem wl_26_9 : Cond.instanceMethod yX6_segmentNow ∈ lw_tbl := List.mem_append_right _ (List.mem_of_getElem? (i := 835) (by decide +kernel))
theorem wl_26_10 : Cond.selects RX6 yX6_segmentNow yX6_segmentNow ∈ lw_tbl := List.mem_append_left _ (List.mem_of_getElem? (i := 39) (by decide +kernel))
set_option maxRecDepth 100000 in
theorem wl_26_11 : Cond.code yX6_segmentNow cX6_segmentNow 3 (some .int) ∈ lw_tbl := List.mem_append_right _ (List.mem_of_getElem? (i := 836) rfl)
theorem wl_26_12 : Cond.methodLink RX6 130 yX6_resting ∈ lw_tbl := List.mem_append_right _ (List.mem_of_getElem? (i := 837) (by decide +kernel))
theorem wl_26_13 : Cond.instanceMethod yX6_resting ∈ lw_tbl := List.mem_append_right _ (List.mem_of_getElem? (i := 839) (by decide +kernel))
theorem wl_26_14 : Cond.selects RX6 yX6_resting yX6_resting ∈ lw_tbl := List.mem_append_left _ (List.mem_of_getElem? (i := 40) (by decide +kernel))
set_option maxRecDepth 100000 in
theorem wl_26_15 : Cond.code yX6_resting cX6_resting 3 (some .int) ∈ lw_tbl := List.mem_append_right _ (List.mem_of_getElem? (i := 840) rfl)
theorem wl_26_16 : Cond.methodLink RL 72 yX5_train ∈ lw_tbl := List.mem_append_right _ (List.mem_of_getElem? (i := 536) (by decide +kernel))
theorem wl_26_17 : Cond.instanceMethod yX5_train ∈ lw_tbl := List.mem_append_right _ (List.mem_of_getElem? (i := 537) (by decide +kernel))
theorem wl_26_18 : Cond.selects RX5 yX5_train yX5_train ∈ lw_tbl := List.mem_append_right _ (List.mem_of_getElem? (i := 538) (by decide +kernel))
set_option maxRecDepth 100000 in
theorem wl_26_19 : Cond.code yX5_train cX5_train 4 (some .int) ∈ lw_tbl := List.mem_append_right _ (List.mem_of_getElem? (i := 539) rfl)
theorem wl_26_20 : Cond.fieldLink RX5 176 "PeatRailway$Train" "wagons" "I" ∈ lw_tbl := List.mem_append_right _ (List.mem_of_getElem? (i := 138) (by decide +kernel))
theorem wl_26_21 : Cond.fieldLink RX5 179 "PeatRailway$Train" "place" "I" ∈ lw_tbl := List.mem_append_right _ (List.mem_of_getElem? (i := 147) (by decide +kernel))
theorem wl_26_22 : Cond.fieldLink RX5 182 "PeatRailway$Train" "up" "Z" ∈ lw_tbl := List.mem_append_right _ (List.mem_of_getElem? (i := 150) (by decide +kernel))
theorem wl_26_23 : Cond.fieldLink RX5 186 "PeatRailway$Train" "rest" "I" ∈ lw_tbl := List.mem_append_right _ (List.mem_of_getElem? (i := 153) (by decide +kernel))
theorem wlr_26 : ∀ w ∈ wsL_law_r26, w ∈ lw_tbl := List.forall_mem_cons.mpr ⟨wl_26_0, List.forall_mem_cons.mpr ⟨wl_26_1, List.forall_mem_cons.mpr ⟨wl_26_2, List.forall_mem_cons.mpr ⟨wl_26_3, List.forall_mem_cons.mpr ⟨wl_26_4, List.forall_mem_cons.mpr ⟨wl_26_5, List.forall_mem_cons.mpr ⟨wl_26_6, List.forall_mem_cons.mpr ⟨wl_26_7, List.forall_mem_cons.mpr ⟨wl_26_8, List.forall_mem_cons.mpr ⟨wl_26_9, List.forall_mem_cons.mpr ⟨wl_26_10, List.forall_mem_cons.mpr ⟨wl_26_11, List.forall_mem_cons.mpr ⟨wl_26_12, List.forall_mem_cons.mpr ⟨wl_26_13, List.forall_mem_cons.mpr ⟨wl_26_14, List.forall_mem_cons.mpr ⟨wl_26_15, List.forall_mem_cons.mpr ⟨wl_26_16, List.forall_mem_cons.mpr ⟨wl_26_17, List.forall_mem_cons.mpr ⟨wl_26_18, List.forall_mem_cons.mpr ⟨wl_26_19, List.forall_mem_cons.mpr ⟨wl_26_20, List.forall_mem_cons.mpr ⟨wl_26_21, List.forall_mem_cons.mpr ⟨wl_26_22, List.forall_mem_cons.mpr ⟨wl_26_23, fun _ h => absurd h List.not_mem_nil⟩⟩⟩⟩⟩⟩⟩⟩⟩⟩⟩⟩⟩⟩⟩⟩⟩⟩⟩⟩⟩⟩⟩⟩
theorem wl_27_0 : Cond.fieldLink RX5 189 "PeatRailway$Train" "reason" "I" ∈ lw_tbl := List.mem_append_right _ (List.mem_of_getElem? (i := 156) (by decide +kernel))
theorem wl_27_1 : Cond.fieldLink RX5 192 "PeatRailway$Train" "waits" "I" ∈ lw_tbl := List.mem_append_right _ (List.mem_of_getElem? (i := 159) (by decide +kernel))
theorem wl_27_2 : Cond.fieldLink RX5 195 "PeatRailway$Train" "unloads" "I" ∈ lw_tbl := List.mem_append_right _ (List.mem_of_getElem? (i := 161) (by decide +kernel))
theorem wl_27_3 : Cond.methodLink RX5 198 yX4_weight ∈ lw_tbl := List.mem_append_right _ (List.mem_of_getElem? (i := 540) (by decide +kernel))
theorem wl_27_4 : Cond.methodLink RL 75 yX6_train ∈ lw_tbl := List.mem_append_right _ (List.mem_of_getElem? (i := 841) (by decide +kernel))
theorem wl_27_5 : Cond.instanceMethod yX6_train ∈ lw_tbl := List.mem_append_right _ (List.mem_of_getElem? (i := 842) (by decide +kernel))
theorem wl_27_6 : Cond.selects RX6 yX6_train yX6_train ∈ lw_tbl := List.mem_append_right _ (List.mem_of_getElem? (i := 843) (by decide +kernel))
set_option maxRecDepth 100000 in
theorem wl_27_7 : Cond.code yX6_train cX6_train 3 (some .int) ∈ lw_tbl := List.mem_append_right _ (List.mem_of_getElem? (i := 844) rfl)
theorem wl_27_8 : Cond.methodLink RX6 139 yX6_trainNow ∈ lw_tbl := List.mem_append_right _ (List.mem_of_getElem? (i := 845) (by decide +kernel))
theorem wl_27_9 : Cond.instanceMethod yX6_trainNow ∈ lw_tbl := List.mem_append_right _ (List.mem_of_getElem? (i := 847) (by decide +kernel))
theorem wl_27_10 : Cond.selects RX6 yX6_trainNow yX6_trainNow ∈ lw_tbl := List.mem_append_left _ (List.mem_of_getElem? (i := 41) (by decide +kernel))
set_option maxRecDepth 100000 in
theorem wl_27_11 : Cond.code yX6_trainNow cX6_trainNow 3 (some .int) ∈ lw_tbl := List.mem_append_right _ (List.mem_of_getElem? (i := 848) rfl)
theorem wl_27_12 : Cond.methodLink RL 76 yX5_why ∈ lw_tbl := List.mem_append_right _ (List.mem_of_getElem? (i := 541) (by decide +kernel))
theorem wl_27_13 : Cond.instanceMethod yX5_why ∈ lw_tbl := List.mem_append_right _ (List.mem_of_getElem? (i := 542) (by decide +kernel))
theorem wl_27_14 : Cond.selects RX5 yX5_why yX5_why ∈ lw_tbl := List.mem_append_right _ (List.mem_of_getElem? (i := 543) (by decide +kernel))
set_option maxRecDepth 100000 in
theorem wl_27_15 : Cond.code yX5_why cX5_why 3 (some .int) ∈ lw_tbl := List.mem_append_right _ (List.mem_of_getElem? (i := 544) rfl)
theorem wl_27_16 : Cond.methodLink RX5 201 yX3_reasonToWait ∈ lw_tbl := List.mem_append_right _ (List.mem_of_getElem? (i := 545) (by decide +kernel))
theorem wl_27_17 : Cond.methodLink RL 79 yX6_why ∈ lw_tbl := List.mem_append_right _ (List.mem_of_getElem? (i := 849) (by decide +kernel))
theorem wl_27_18 : Cond.instanceMethod yX6_why ∈ lw_tbl := List.mem_append_right _ (List.mem_of_getElem? (i := 850) (by decide +kernel))
theorem wl_27_19 : Cond.selects RX6 yX6_why yX6_why ∈ lw_tbl := List.mem_append_right _ (List.mem_of_getElem? (i := 851) (by decide +kernel))
set_option maxRecDepth 100000 in
theorem wl_27_20 : Cond.code yX6_why cX6_why 2 (some .int) ∈ lw_tbl := List.mem_append_right _ (List.mem_of_getElem? (i := 852) rfl)
theorem wl_27_21 : Cond.methodLink RL 80 yX5_account ∈ lw_tbl := List.mem_append_right _ (List.mem_of_getElem? (i := 546) (by decide +kernel))
theorem wl_27_22 : Cond.instanceMethod yX5_account ∈ lw_tbl := List.mem_append_right _ (List.mem_of_getElem? (i := 547) (by decide +kernel))
theorem wl_27_23 : Cond.selects RX5 yX5_account yX5_account ∈ lw_tbl := List.mem_append_right _ (List.mem_of_getElem? (i := 548) (by decide +kernel))
theorem wlr_27 : ∀ w ∈ wsL_law_r27, w ∈ lw_tbl := List.forall_mem_cons.mpr ⟨wl_27_0, List.forall_mem_cons.mpr ⟨wl_27_1, List.forall_mem_cons.mpr ⟨wl_27_2, List.forall_mem_cons.mpr ⟨wl_27_3, List.forall_mem_cons.mpr ⟨wl_27_4, List.forall_mem_cons.mpr ⟨wl_27_5, List.forall_mem_cons.mpr ⟨wl_27_6, List.forall_mem_cons.mpr ⟨wl_27_7, List.forall_mem_cons.mpr ⟨wl_27_8, List.forall_mem_cons.mpr ⟨wl_27_9, List.forall_mem_cons.mpr ⟨wl_27_10, List.forall_mem_cons.mpr ⟨wl_27_11, List.forall_mem_cons.mpr ⟨wl_27_12, List.forall_mem_cons.mpr ⟨wl_27_13, List.forall_mem_cons.mpr ⟨wl_27_14, List.forall_mem_cons.mpr ⟨wl_27_15, List.forall_mem_cons.mpr ⟨wl_27_16, List.forall_mem_cons.mpr ⟨wl_27_17, List.forall_mem_cons.mpr ⟨wl_27_18, List.forall_mem_cons.mpr ⟨wl_27_19, List.forall_mem_cons.mpr ⟨wl_27_20, List.forall_mem_cons.mpr ⟨wl_27_21, List.forall_mem_cons.mpr ⟨wl_27_22, List.forall_mem_cons.mpr ⟨wl_27_23, fun _ h => absurd h List.not_mem_nil⟩⟩⟩⟩⟩⟩⟩⟩⟩⟩⟩⟩⟩⟩⟩⟩⟩⟩⟩⟩⟩⟩⟩⟩
set_option maxRecDepth 100000 in
theorem wl_28_0 : Cond.code yX5_account cX5_account 2 (some .int) ∈ lw_tbl := List.mem_append_right _ (List.mem_of_getElem? (i := 549) rfl)
theorem wl_28_1 : Cond.fieldLink RX5 208 "PeatRailway$State" "delivered" "I" ∈ lw_tbl := List.mem_append_right _ (List.mem_of_getElem? (i := 200) (by decide +kernel))
theorem wl_28_2 : Cond.fieldLink RX5 211 "PeatRailway$State" "lost" "I" ∈ lw_tbl := List.mem_append_right _ (List.mem_of_getElem? (i := 202) (by decide +kernel))
theorem wl_28_3 : Cond.methodLink RX5 205 yX3_peatInTrains ∈ lw_tbl := List.mem_append_right _ (List.mem_of_getElem? (i := 550) (by decide +kernel))
theorem wl_28_4 : Cond.methodLink RL 83 yX6_account ∈ lw_tbl := List.mem_append_right _ (List.mem_of_getElem? (i := 853) (by decide +kernel))
theorem wl_28_5 : Cond.instanceMethod yX6_account ∈ lw_tbl := List.mem_append_right _ (List.mem_of_getElem? (i := 854) (by decide +kernel))
theorem wl_28_6 : Cond.selects RX6 yX6_account yX6_account ∈ lw_tbl := List.mem_append_right _ (List.mem_of_getElem? (i := 855) (by decide +kernel))
set_option maxRecDepth 100000 in
theorem wl_28_7 : Cond.code yX6_account cX6_account 2 (some .int) ∈ lw_tbl := List.mem_append_right _ (List.mem_of_getElem? (i := 856) rfl)
theorem wl_28_8 : Cond.methodLink RX6 142 yX6_accountNow ∈ lw_tbl := List.mem_append_right _ (List.mem_of_getElem? (i := 857) (by decide +kernel))
theorem wl_28_9 : Cond.instanceMethod yX6_accountNow ∈ lw_tbl := List.mem_append_right _ (List.mem_of_getElem? (i := 859) (by decide +kernel))
theorem wl_28_10 : Cond.selects RX6 yX6_accountNow yX6_accountNow ∈ lw_tbl := List.mem_append_left _ (List.mem_of_getElem? (i := 42) (by decide +kernel))
set_option maxRecDepth 100000 in
theorem wl_28_11 : Cond.code yX6_accountNow cX6_accountNow 2 (some .int) ∈ lw_tbl := List.mem_append_right _ (List.mem_of_getElem? (i := 860) rfl)
theorem wl_28_12 : Cond.methodLink RL 84 yX5_count ∈ lw_tbl := List.mem_append_right _ (List.mem_of_getElem? (i := 551) (by decide +kernel))
theorem wl_28_13 : Cond.instanceMethod yX5_count ∈ lw_tbl := List.mem_append_right _ (List.mem_of_getElem? (i := 552) (by decide +kernel))
theorem wl_28_14 : Cond.selects RX5 yX5_count yX5_count ∈ lw_tbl := List.mem_append_right _ (List.mem_of_getElem? (i := 553) (by decide +kernel))
set_option maxRecDepth 100000 in
theorem wl_28_15 : Cond.code yX5_count cX5_count 2 (some .int) ∈ lw_tbl := List.mem_append_right _ (List.mem_of_getElem? (i := 554) rfl)
theorem wl_28_16 : Cond.methodLink RX5 214 yX3_greatestSinking ∈ lw_tbl := List.mem_append_right _ (List.mem_of_getElem? (i := 555) (by decide +kernel))
theorem wl_28_17 : Cond.instanceMethod yX3_greatestSinking ∈ lw_tbl := List.mem_append_right _ (List.mem_of_getElem? (i := 556) (by decide +kernel))
theorem wl_28_18 : Cond.selects RX3 yX3_greatestSinking yX3_greatestSinking ∈ lw_tbl := List.mem_append_right _ (List.mem_of_getElem? (i := 557) (by decide +kernel))
set_option maxRecDepth 100000 in
theorem wl_28_19 : Cond.code yX3_greatestSinking cX3_greatestSinking 4 (some .int) ∈ lw_tbl := List.mem_append_right _ (List.mem_of_getElem? (i := 558) rfl)
theorem wl_28_20 : Cond.methodLink RX5 217 yX3_waitsOfAll ∈ lw_tbl := List.mem_append_right _ (List.mem_of_getElem? (i := 559) (by decide +kernel))
theorem wl_28_21 : Cond.instanceMethod yX3_waitsOfAll ∈ lw_tbl := List.mem_append_right _ (List.mem_of_getElem? (i := 560) (by decide +kernel))
theorem wl_28_22 : Cond.selects RX3 yX3_waitsOfAll yX3_waitsOfAll ∈ lw_tbl := List.mem_append_right _ (List.mem_of_getElem? (i := 561) (by decide +kernel))
set_option maxRecDepth 100000 in
theorem wl_28_23 : Cond.code yX3_waitsOfAll cX3_waitsOfAll 4 (some .int) ∈ lw_tbl := List.mem_append_right _ (List.mem_of_getElem? (i := 562) rfl)
theorem wlr_28 : ∀ w ∈ wsL_law_r28, w ∈ lw_tbl := List.forall_mem_cons.mpr ⟨wl_28_0, List.forall_mem_cons.mpr ⟨wl_28_1, List.forall_mem_cons.mpr ⟨wl_28_2, List.forall_mem_cons.mpr ⟨wl_28_3, List.forall_mem_cons.mpr ⟨wl_28_4, List.forall_mem_cons.mpr ⟨wl_28_5, List.forall_mem_cons.mpr ⟨wl_28_6, List.forall_mem_cons.mpr ⟨wl_28_7, List.forall_mem_cons.mpr ⟨wl_28_8, List.forall_mem_cons.mpr ⟨wl_28_9, List.forall_mem_cons.mpr ⟨wl_28_10, List.forall_mem_cons.mpr ⟨wl_28_11, List.forall_mem_cons.mpr ⟨wl_28_12, List.forall_mem_cons.mpr ⟨wl_28_13, List.forall_mem_cons.mpr ⟨wl_28_14, List.forall_mem_cons.mpr ⟨wl_28_15, List.forall_mem_cons.mpr ⟨wl_28_16, List.forall_mem_cons.mpr ⟨wl_28_17, List.forall_mem_cons.mpr ⟨wl_28_18, List.forall_mem_cons.mpr ⟨wl_28_19, List.forall_mem_cons.mpr ⟨wl_28_20, List.forall_mem_cons.mpr ⟨wl_28_21, List.forall_mem_cons.mpr ⟨wl_28_22, List.forall_mem_cons.mpr ⟨wl_28_23, fun _ h => absurd h List.not_mem_nil⟩⟩⟩⟩⟩⟩⟩⟩⟩⟩⟩⟩⟩⟩⟩⟩⟩⟩⟩⟩⟩⟩⟩⟩
theorem wl_29_0 : Cond.methodLink RX5 220 yX3_sunkSegments ∈ lw_tbl := List.mem_append_right _ (List.mem_of_getElem? (i := 563) (by decide +kernel))
theorem wl_29_1 : Cond.instanceMethod yX3_sunkSegments ∈ lw_tbl := List.mem_append_right _ (List.mem_of_getElem? (i := 564) (by decide +kernel))
theorem wl_29_2 : Cond.selects RX3 yX3_sunkSegments yX3_sunkSegments ∈ lw_tbl := List.mem_append_right _ (List.mem_of_getElem? (i := 565) (by decide +kernel))
set_option maxRecDepth 100000 in
theorem wl_29_3 : Cond.code yX3_sunkSegments cX3_sunkSegments 4 (some .int) ∈ lw_tbl := List.mem_append_right _ (List.mem_of_getElem? (i := 566) rfl)
theorem wl_29_4 : Cond.methodLink RL 87 yX6_count ∈ lw_tbl := List.mem_append_right _ (List.mem_of_getElem? (i := 861) (by decide +kernel))
theorem wl_29_5 : Cond.instanceMethod yX6_count ∈ lw_tbl := List.mem_append_right _ (List.mem_of_getElem? (i := 862) (by decide +kernel))
theorem wl_29_6 : Cond.selects RX6 yX6_count yX6_count ∈ lw_tbl := List.mem_append_right _ (List.mem_of_getElem? (i := 863) (by decide +kernel))
set_option maxRecDepth 100000 in
theorem wl_29_7 : Cond.code yX6_count cX6_count 2 (some .int) ∈ lw_tbl := List.mem_append_right _ (List.mem_of_getElem? (i := 864) rfl)
theorem wl_29_8 : Cond.methodLink RX6 154 yX6_counted ∈ lw_tbl := List.mem_append_right _ (List.mem_of_getElem? (i := 865) (by decide +kernel))
theorem wl_29_9 : Cond.instanceMethod yX6_counted ∈ lw_tbl := List.mem_append_right _ (List.mem_of_getElem? (i := 867) (by decide +kernel))
theorem wl_29_10 : Cond.selects RX6 yX6_counted yX6_counted ∈ lw_tbl := List.mem_append_left _ (List.mem_of_getElem? (i := 43) (by decide +kernel))
set_option maxRecDepth 100000 in
theorem wl_29_11 : Cond.code yX6_counted cX6_counted 2 (some .int) ∈ lw_tbl := List.mem_append_right _ (List.mem_of_getElem? (i := 868) rfl)
theorem wl_29_12 : Cond.methodLink RX6 145 yX6_deepest ∈ lw_tbl := List.mem_append_right _ (List.mem_of_getElem? (i := 869) (by decide +kernel))
theorem wl_29_13 : Cond.instanceMethod yX6_deepest ∈ lw_tbl := List.mem_append_right _ (List.mem_of_getElem? (i := 871) (by decide +kernel))
theorem wl_29_14 : Cond.selects RX6 yX6_deepest yX6_deepest ∈ lw_tbl := List.mem_append_left _ (List.mem_of_getElem? (i := 44) (by decide +kernel))
set_option maxRecDepth 100000 in
theorem wl_29_15 : Cond.code yX6_deepest cX6_deepest 3 (some .int) ∈ lw_tbl := List.mem_append_right _ (List.mem_of_getElem? (i := 872) rfl)
theorem wl_29_16 : Cond.methodLink RX6 148 yX6_allWaits ∈ lw_tbl := List.mem_append_right _ (List.mem_of_getElem? (i := 873) (by decide +kernel))
theorem wl_29_17 : Cond.instanceMethod yX6_allWaits ∈ lw_tbl := List.mem_append_right _ (List.mem_of_getElem? (i := 875) (by decide +kernel))
theorem wl_29_18 : Cond.selects RX6 yX6_allWaits yX6_allWaits ∈ lw_tbl := List.mem_append_left _ (List.mem_of_getElem? (i := 45) (by decide +kernel))
set_option maxRecDepth 100000 in
theorem wl_29_19 : Cond.code yX6_allWaits cX6_allWaits 3 (some .int) ∈ lw_tbl := List.mem_append_right _ (List.mem_of_getElem? (i := 876) rfl)
theorem wl_29_20 : Cond.methodLink RX6 151 yX6_tooDeep ∈ lw_tbl := List.mem_append_right _ (List.mem_of_getElem? (i := 877) (by decide +kernel))
theorem wl_29_21 : Cond.instanceMethod yX6_tooDeep ∈ lw_tbl := List.mem_append_right _ (List.mem_of_getElem? (i := 879) (by decide +kernel))
theorem wl_29_22 : Cond.selects RX6 yX6_tooDeep yX6_tooDeep ∈ lw_tbl := List.mem_append_left _ (List.mem_of_getElem? (i := 46) (by decide +kernel))
set_option maxRecDepth 100000 in
theorem wl_29_23 : Cond.code yX6_tooDeep cX6_tooDeep 3 (some .int) ∈ lw_tbl := List.mem_append_right _ (List.mem_of_getElem? (i := 880) rfl)
theorem wlr_29 : ∀ w ∈ wsL_law_r29, w ∈ lw_tbl := List.forall_mem_cons.mpr ⟨wl_29_0, List.forall_mem_cons.mpr ⟨wl_29_1, List.forall_mem_cons.mpr ⟨wl_29_2, List.forall_mem_cons.mpr ⟨wl_29_3, List.forall_mem_cons.mpr ⟨wl_29_4, List.forall_mem_cons.mpr ⟨wl_29_5, List.forall_mem_cons.mpr ⟨wl_29_6, List.forall_mem_cons.mpr ⟨wl_29_7, List.forall_mem_cons.mpr ⟨wl_29_8, List.forall_mem_cons.mpr ⟨wl_29_9, List.forall_mem_cons.mpr ⟨wl_29_10, List.forall_mem_cons.mpr ⟨wl_29_11, List.forall_mem_cons.mpr ⟨wl_29_12, List.forall_mem_cons.mpr ⟨wl_29_13, List.forall_mem_cons.mpr ⟨wl_29_14, List.forall_mem_cons.mpr ⟨wl_29_15, List.forall_mem_cons.mpr ⟨wl_29_16, List.forall_mem_cons.mpr ⟨wl_29_17, List.forall_mem_cons.mpr ⟨wl_29_18, List.forall_mem_cons.mpr ⟨wl_29_19, List.forall_mem_cons.mpr ⟨wl_29_20, List.forall_mem_cons.mpr ⟨wl_29_21, List.forall_mem_cons.mpr ⟨wl_29_22, List.forall_mem_cons.mpr ⟨wl_29_23, fun _ h => absurd h List.not_mem_nil⟩⟩⟩⟩⟩⟩⟩⟩⟩⟩⟩⟩⟩⟩⟩⟩⟩⟩⟩⟩⟩⟩⟩⟩
theorem wl_30_0 : Cond.methodLink RL 88 yX5_setting ∈ lw_tbl := List.mem_append_right _ (List.mem_of_getElem? (i := 567) (by decide +kernel))
theorem wl_30_1 : Cond.instanceMethod yX5_setting ∈ lw_tbl := List.mem_append_right _ (List.mem_of_getElem? (i := 568) (by decide +kernel))
theorem wl_30_2 : Cond.selects RX5 yX5_setting yX5_setting ∈ lw_tbl := List.mem_append_right _ (List.mem_of_getElem? (i := 569) (by decide +kernel))
set_option maxRecDepth 100000 in
theorem wl_30_3 : Cond.code yX5_setting cX5_setting 2 (some .int) ∈ lw_tbl := List.mem_append_right _ (List.mem_of_getElem? (i := 570) rfl)
theorem wl_30_4 : Cond.methodLink RL 91 yX6_setting ∈ lw_tbl := List.mem_append_right _ (List.mem_of_getElem? (i := 881) (by decide +kernel))
theorem wl_30_5 : Cond.instanceMethod yX6_setting ∈ lw_tbl := List.mem_append_right _ (List.mem_of_getElem? (i := 882) (by decide +kernel))
theorem wl_30_6 : Cond.selects RX6 yX6_setting yX6_setting ∈ lw_tbl := List.mem_append_right _ (List.mem_of_getElem? (i := 883) (by decide +kernel))
set_option maxRecDepth 100000 in
theorem wl_30_7 : Cond.code yX6_setting cX6_setting 2 (some .int) ∈ lw_tbl := List.mem_append_right _ (List.mem_of_getElem? (i := 884) rfl)
theorem wl_30_8 : Cond.methodLink RL 92 yX5_ifRun ∈ lw_tbl := List.mem_append_right _ (List.mem_of_getElem? (i := 571) (by decide +kernel))
theorem wl_30_9 : Cond.instanceMethod yX5_ifRun ∈ lw_tbl := List.mem_append_right _ (List.mem_of_getElem? (i := 572) (by decide +kernel))
theorem wl_30_10 : Cond.selects RX5 yX5_ifRun yX5_ifRun ∈ lw_tbl := List.mem_append_right _ (List.mem_of_getElem? (i := 573) (by decide +kernel))
set_option maxRecDepth 100000 in
theorem wl_30_11 : Cond.code yX5_ifRun cX5_ifRun 3 (some .int) ∈ lw_tbl := List.mem_append_right _ (List.mem_of_getElem? (i := 574) rfl)
theorem wl_30_12 : Cond.methodLink RX5 223 yX5_foreseen ∈ lw_tbl := List.mem_append_right _ (List.mem_of_getElem? (i := 575) (by decide +kernel))
theorem wl_30_13 : Cond.instanceMethod yX5_foreseen ∈ lw_tbl := List.mem_append_right _ (List.mem_of_getElem? (i := 577) (by decide +kernel))
theorem wl_30_14 : Cond.selects RX5 yX5_foreseen yX5_foreseen ∈ lw_tbl := List.mem_append_left _ (List.mem_of_getElem? (i := 11) (by decide +kernel))
set_option maxRecDepth 100000 in
theorem wl_30_15 : Cond.code yX5_foreseen cX5_foreseen 2 (some .int) ∈ lw_tbl := List.mem_append_right _ (List.mem_of_getElem? (i := 578) rfl)
theorem wl_30_16 : Cond.fieldLink RX5 265 "PeatRailway$State" "peak" "I" ∈ lw_tbl := List.mem_append_right _ (List.mem_of_getElem? (i := 206) (by decide +kernel))
theorem wl_30_17 : Cond.methodLink RL 95 yX6_ifRun ∈ lw_tbl := List.mem_append_right _ (List.mem_of_getElem? (i := 885) (by decide +kernel))
theorem wl_30_18 : Cond.instanceMethod yX6_ifRun ∈ lw_tbl := List.mem_append_right _ (List.mem_of_getElem? (i := 886) (by decide +kernel))
theorem wl_30_19 : Cond.selects RX6 yX6_ifRun yX6_ifRun ∈ lw_tbl := List.mem_append_right _ (List.mem_of_getElem? (i := 887) (by decide +kernel))
set_option maxRecDepth 100000 in
theorem wl_30_20 : Cond.code yX6_ifRun cX6_ifRun 3 (some .int) ∈ lw_tbl := List.mem_append_right _ (List.mem_of_getElem? (i := 888) rfl)
theorem wl_30_21 : Cond.methodLink RX6 157 yX6_ahead ∈ lw_tbl := List.mem_append_right _ (List.mem_of_getElem? (i := 889) (by decide +kernel))
theorem wl_30_22 : Cond.instanceMethod yX6_ahead ∈ lw_tbl := List.mem_append_right _ (List.mem_of_getElem? (i := 891) (by decide +kernel))
theorem wl_30_23 : Cond.selects RX6 yX6_ahead yX6_ahead ∈ lw_tbl := List.mem_append_left _ (List.mem_of_getElem? (i := 47) (by decide +kernel))
theorem wlr_30 : ∀ w ∈ wsL_law_r30, w ∈ lw_tbl := List.forall_mem_cons.mpr ⟨wl_30_0, List.forall_mem_cons.mpr ⟨wl_30_1, List.forall_mem_cons.mpr ⟨wl_30_2, List.forall_mem_cons.mpr ⟨wl_30_3, List.forall_mem_cons.mpr ⟨wl_30_4, List.forall_mem_cons.mpr ⟨wl_30_5, List.forall_mem_cons.mpr ⟨wl_30_6, List.forall_mem_cons.mpr ⟨wl_30_7, List.forall_mem_cons.mpr ⟨wl_30_8, List.forall_mem_cons.mpr ⟨wl_30_9, List.forall_mem_cons.mpr ⟨wl_30_10, List.forall_mem_cons.mpr ⟨wl_30_11, List.forall_mem_cons.mpr ⟨wl_30_12, List.forall_mem_cons.mpr ⟨wl_30_13, List.forall_mem_cons.mpr ⟨wl_30_14, List.forall_mem_cons.mpr ⟨wl_30_15, List.forall_mem_cons.mpr ⟨wl_30_16, List.forall_mem_cons.mpr ⟨wl_30_17, List.forall_mem_cons.mpr ⟨wl_30_18, List.forall_mem_cons.mpr ⟨wl_30_19, List.forall_mem_cons.mpr ⟨wl_30_20, List.forall_mem_cons.mpr ⟨wl_30_21, List.forall_mem_cons.mpr ⟨wl_30_22, List.forall_mem_cons.mpr ⟨wl_30_23, fun _ h => absurd h List.not_mem_nil⟩⟩⟩⟩⟩⟩⟩⟩⟩⟩⟩⟩⟩⟩⟩⟩⟩⟩⟩⟩⟩⟩⟩⟩
set_option maxRecDepth 100000 in
theorem wl_31_0 : Cond.code yX6_ahead cX6_ahead 7 (some .int) ∈ lw_tbl := List.mem_append_right _ (List.mem_of_getElem? (i := 892) rfl)
theorem wl_31_1 : Cond.methodLink RL 96 yX5_ticksFor ∈ lw_tbl := List.mem_append_right _ (List.mem_of_getElem? (i := 579) (by decide +kernel))
theorem wl_31_2 : Cond.instanceMethod yX5_ticksFor ∈ lw_tbl := List.mem_append_right _ (List.mem_of_getElem? (i := 580) (by decide +kernel))
theorem wl_31_3 : Cond.selects RX5 yX5_ticksFor yX5_ticksFor ∈ lw_tbl := List.mem_append_right _ (List.mem_of_getElem? (i := 581) (by decide +kernel))
set_option maxRecDepth 100000 in
theorem wl_31_4 : Cond.code yX5_ticksFor cX5_ticksFor 3 (some .int) ∈ lw_tbl := List.mem_append_right _ (List.mem_of_getElem? (i := 582) rfl)
theorem wl_31_5 : Cond.methodLink RX5 226 yX3_tick ∈ lw_tbl := List.mem_append_right _ (List.mem_of_getElem? (i := 583) (by decide +kernel))
theorem wl_31_6 : Cond.methodLink RL 99 yX6_ticksFor ∈ lw_tbl := List.mem_append_right _ (List.mem_of_getElem? (i := 893) (by decide +kernel))
theorem wl_31_7 : Cond.instanceMethod yX6_ticksFor ∈ lw_tbl := List.mem_append_right _ (List.mem_of_getElem? (i := 894) (by decide +kernel))
theorem wl_31_8 : Cond.selects RX6 yX6_ticksFor yX6_ticksFor ∈ lw_tbl := List.mem_append_right _ (List.mem_of_getElem? (i := 895) (by decide +kernel))
set_option maxRecDepth 100000 in
theorem wl_31_9 : Cond.code yX6_ticksFor cX6_ticksFor 2 (some .int) ∈ lw_tbl := List.mem_append_right _ (List.mem_of_getElem? (i := 896) rfl)
theorem wl_31_10 : Cond.methodLink RX6 160 yX6_ticksUntil ∈ lw_tbl := List.mem_append_right _ (List.mem_of_getElem? (i := 897) (by decide +kernel))
theorem wl_31_11 : Cond.instanceMethod yX6_ticksUntil ∈ lw_tbl := List.mem_append_right _ (List.mem_of_getElem? (i := 899) (by decide +kernel))
theorem wl_31_12 : Cond.selects RX6 yX6_ticksUntil yX6_ticksUntil ∈ lw_tbl := List.mem_append_left _ (List.mem_of_getElem? (i := 48) (by decide +kernel))
set_option maxRecDepth 100000 in
theorem wl_31_13 : Cond.code yX6_ticksUntil cX6_ticksUntil 5 (some .int) ∈ lw_tbl := List.mem_append_right _ (List.mem_of_getElem? (i := 900) rfl)
theorem wl_31_14 : Cond.methodLink RL 100 yX5_bestRule ∈ lw_tbl := List.mem_append_right _ (List.mem_of_getElem? (i := 584) (by decide +kernel))
theorem wl_31_15 : Cond.instanceMethod yX5_bestRule ∈ lw_tbl := List.mem_append_right _ (List.mem_of_getElem? (i := 585) (by decide +kernel))
theorem wl_31_16 : Cond.selects RX5 yX5_bestRule yX5_bestRule ∈ lw_tbl := List.mem_append_right _ (List.mem_of_getElem? (i := 586) (by decide +kernel))
set_option maxRecDepth 100000 in
theorem wl_31_17 : Cond.code yX5_bestRule cX5_bestRule 6 (some .int) ∈ lw_tbl := List.mem_append_right _ (List.mem_of_getElem? (i := 587) rfl)
theorem wl_31_18 : Cond.methodLink RL 103 yX6_bestRule ∈ lw_tbl := List.mem_append_right _ (List.mem_of_getElem? (i := 901) (by decide +kernel))
theorem wl_31_19 : Cond.instanceMethod yX6_bestRule ∈ lw_tbl := List.mem_append_right _ (List.mem_of_getElem? (i := 902) (by decide +kernel))
theorem wl_31_20 : Cond.selects RX6 yX6_bestRule yX6_bestRule ∈ lw_tbl := List.mem_append_right _ (List.mem_of_getElem? (i := 903) (by decide +kernel))
set_option maxRecDepth 100000 in
theorem wl_31_21 : Cond.code yX6_bestRule cX6_bestRule 2 (some .int) ∈ lw_tbl := List.mem_append_right _ (List.mem_of_getElem? (i := 904) rfl)
theorem wl_31_22 : Cond.methodLink RX6 163 yX6_best ∈ lw_tbl := List.mem_append_right _ (List.mem_of_getElem? (i := 905) (by decide +kernel))
theorem wl_31_23 : Cond.instanceMethod yX6_best ∈ lw_tbl := List.mem_append_right _ (List.mem_of_getElem? (i := 907) (by decide +kernel))
theorem wlr_31 : ∀ w ∈ wsL_law_r31, w ∈ lw_tbl := List.forall_mem_cons.mpr ⟨wl_31_0, List.forall_mem_cons.mpr ⟨wl_31_1, List.forall_mem_cons.mpr ⟨wl_31_2, List.forall_mem_cons.mpr ⟨wl_31_3, List.forall_mem_cons.mpr ⟨wl_31_4, List.forall_mem_cons.mpr ⟨wl_31_5, List.forall_mem_cons.mpr ⟨wl_31_6, List.forall_mem_cons.mpr ⟨wl_31_7, List.forall_mem_cons.mpr ⟨wl_31_8, List.forall_mem_cons.mpr ⟨wl_31_9, List.forall_mem_cons.mpr ⟨wl_31_10, List.forall_mem_cons.mpr ⟨wl_31_11, List.forall_mem_cons.mpr ⟨wl_31_12, List.forall_mem_cons.mpr ⟨wl_31_13, List.forall_mem_cons.mpr ⟨wl_31_14, List.forall_mem_cons.mpr ⟨wl_31_15, List.forall_mem_cons.mpr ⟨wl_31_16, List.forall_mem_cons.mpr ⟨wl_31_17, List.forall_mem_cons.mpr ⟨wl_31_18, List.forall_mem_cons.mpr ⟨wl_31_19, List.forall_mem_cons.mpr ⟨wl_31_20, List.forall_mem_cons.mpr ⟨wl_31_21, List.forall_mem_cons.mpr ⟨wl_31_22, List.forall_mem_cons.mpr ⟨wl_31_23, fun _ h => absurd h List.not_mem_nil⟩⟩⟩⟩⟩⟩⟩⟩⟩⟩⟩⟩⟩⟩⟩⟩⟩⟩⟩⟩⟩⟩⟩⟩
theorem wl_32_0 : Cond.selects RX6 yX6_best yX6_best ∈ lw_tbl := List.mem_append_left _ (List.mem_of_getElem? (i := 49) (by decide +kernel))
set_option maxRecDepth 100000 in
theorem wl_32_1 : Cond.code yX6_best cX6_best 10 (some .int) ∈ lw_tbl := List.mem_append_right _ (List.mem_of_getElem? (i := 908) rfl)
theorem wl_32_2 : Cond.methodLink RL 104 yX5_bestLoad ∈ lw_tbl := List.mem_append_right _ (List.mem_of_getElem? (i := 588) (by decide +kernel))
theorem wl_32_3 : Cond.instanceMethod yX5_bestLoad ∈ lw_tbl := List.mem_append_right _ (List.mem_of_getElem? (i := 589) (by decide +kernel))
theorem wl_32_4 : Cond.selects RX5 yX5_bestLoad yX5_bestLoad ∈ lw_tbl := List.mem_append_right _ (List.mem_of_getElem? (i := 590) (by decide +kernel))
set_option maxRecDepth 100000 in
theorem wl_32_5 : Cond.code yX5_bestLoad cX5_bestLoad 8 (some .int) ∈ lw_tbl := List.mem_append_right _ (List.mem_of_getElem? (i := 591) rfl)
theorem wl_32_6 : Cond.methodLink RL 107 yX6_bestLoad ∈ lw_tbl := List.mem_append_right _ (List.mem_of_getElem? (i := 909) (by decide +kernel))
theorem wl_32_7 : Cond.instanceMethod yX6_bestLoad ∈ lw_tbl := List.mem_append_right _ (List.mem_of_getElem? (i := 910) (by decide +kernel))
theorem wl_32_8 : Cond.selects RX6 yX6_bestLoad yX6_bestLoad ∈ lw_tbl := List.mem_append_right _ (List.mem_of_getElem? (i := 911) (by decide +kernel))
set_option maxRecDepth 100000 in
theorem wl_32_9 : Cond.code yX6_bestLoad cX6_bestLoad 3 (some .int) ∈ lw_tbl := List.mem_append_right _ (List.mem_of_getElem? (i := 912) rfl)
theorem wl_32_10 : Cond.methodLink RL 108 yX5_meanSinking ∈ lw_tbl := List.mem_append_right _ (List.mem_of_getElem? (i := 592) (by decide +kernel))
theorem wl_32_11 : Cond.instanceMethod yX5_meanSinking ∈ lw_tbl := List.mem_append_right _ (List.mem_of_getElem? (i := 593) (by decide +kernel))
theorem wl_32_12 : Cond.selects RX5 yX5_meanSinking yX5_meanSinking ∈ lw_tbl := List.mem_append_right _ (List.mem_of_getElem? (i := 594) (by decide +kernel))
set_option maxRecDepth 100000 in
theorem wl_32_13 : Cond.code yX5_meanSinking cX5_meanSinking 1 (some .double) ∈ lw_tbl := List.mem_append_right _ (List.mem_of_getElem? (i := 595) rfl)
theorem wl_32_14 : Cond.methodLink RX5 229 yX3_sumOfSinkings ∈ lw_tbl := List.mem_append_right _ (List.mem_of_getElem? (i := 596) (by decide +kernel))
theorem wl_32_15 : Cond.instanceMethod yX3_sumOfSinkings ∈ lw_tbl := List.mem_append_right _ (List.mem_of_getElem? (i := 597) (by decide +kernel))
theorem wl_32_16 : Cond.selects RX3 yX3_sumOfSinkings yX3_sumOfSinkings ∈ lw_tbl := List.mem_append_right _ (List.mem_of_getElem? (i := 598) (by decide +kernel))
set_option maxRecDepth 100000 in
theorem wl_32_17 : Cond.code yX3_sumOfSinkings cX3_sumOfSinkings 4 (some .int) ∈ lw_tbl := List.mem_append_right _ (List.mem_of_getElem? (i := 599) rfl)
theorem wl_32_18 : Cond.methodLink RL 112 yX6_meanSinking ∈ lw_tbl := List.mem_append_right _ (List.mem_of_getElem? (i := 913) (by decide +kernel))
theorem wl_32_19 : Cond.instanceMethod yX6_meanSinking ∈ lw_tbl := List.mem_append_right _ (List.mem_of_getElem? (i := 914) (by decide +kernel))
theorem wl_32_20 : Cond.selects RX6 yX6_meanSinking yX6_meanSinking ∈ lw_tbl := List.mem_append_right _ (List.mem_of_getElem? (i := 915) (by decide +kernel))
set_option maxRecDepth 100000 in
theorem wl_32_21 : Cond.code yX6_meanSinking cX6_meanSinking 3 (some .double) ∈ lw_tbl := List.mem_append_right _ (List.mem_of_getElem? (i := 916) rfl)
theorem wl_32_22 : Cond.methodLink RL 113 yX5_digest ∈ lw_tbl := List.mem_append_right _ (List.mem_of_getElem? (i := 600) (by decide +kernel))
theorem wl_32_23 : Cond.instanceMethod yX5_digest ∈ lw_tbl := List.mem_append_right _ (List.mem_of_getElem? (i := 601) (by decide +kernel))
theorem wlr_32 : ∀ w ∈ wsL_law_r32, w ∈ lw_tbl := List.forall_mem_cons.mpr ⟨wl_32_0, List.forall_mem_cons.mpr ⟨wl_32_1, List.forall_mem_cons.mpr ⟨wl_32_2, List.forall_mem_cons.mpr ⟨wl_32_3, List.forall_mem_cons.mpr ⟨wl_32_4, List.forall_mem_cons.mpr ⟨wl_32_5, List.forall_mem_cons.mpr ⟨wl_32_6, List.forall_mem_cons.mpr ⟨wl_32_7, List.forall_mem_cons.mpr ⟨wl_32_8, List.forall_mem_cons.mpr ⟨wl_32_9, List.forall_mem_cons.mpr ⟨wl_32_10, List.forall_mem_cons.mpr ⟨wl_32_11, List.forall_mem_cons.mpr ⟨wl_32_12, List.forall_mem_cons.mpr ⟨wl_32_13, List.forall_mem_cons.mpr ⟨wl_32_14, List.forall_mem_cons.mpr ⟨wl_32_15, List.forall_mem_cons.mpr ⟨wl_32_16, List.forall_mem_cons.mpr ⟨wl_32_17, List.forall_mem_cons.mpr ⟨wl_32_18, List.forall_mem_cons.mpr ⟨wl_32_19, List.forall_mem_cons.mpr ⟨wl_32_20, List.forall_mem_cons.mpr ⟨wl_32_21, List.forall_mem_cons.mpr ⟨wl_32_22, List.forall_mem_cons.mpr ⟨wl_32_23, fun _ h => absurd h List.not_mem_nil⟩⟩⟩⟩⟩⟩⟩⟩⟩⟩⟩⟩⟩⟩⟩⟩⟩⟩⟩⟩⟩⟩⟩⟩
theorem wl_33_0 : Cond.selects RX5 yX5_digest yX5_digest ∈ lw_tbl := List.mem_append_right _ (List.mem_of_getElem? (i := 602) (by decide +kernel))
set_option maxRecDepth 100000 in
theorem wl_33_1 : Cond.code yX5_digest cX5_digest 4 (some .long) ∈ lw_tbl := List.mem_append_right _ (List.mem_of_getElem? (i := 603) rfl)
theorem wl_33_2 : Cond.constantLong RX5 232 (2069) ∈ lw_tbl := List.mem_append_right _ (List.mem_of_getElem? (i := 604) (by decide +kernel))
theorem wl_33_3 : Cond.methodLink RX5 234 yX5_count ∈ lw_tbl := List.mem_append_right _ (List.mem_of_getElem? (i := 605) (by decide +kernel))
theorem wl_33_4 : Cond.methodLink RX5 237 yX5_mixed ∈ lw_tbl := List.mem_append_right _ (List.mem_of_getElem? (i := 606) (by decide +kernel))
theorem wl_33_5 : Cond.static yX5_mixed ∈ lw_tbl := List.mem_append_right _ (List.mem_of_getElem? (i := 607) (by decide +kernel))
set_option maxRecDepth 100000 in
theorem wl_33_6 : Cond.code yX5_mixed cX5_mixed 4 (some .long) ∈ lw_tbl := List.mem_append_right _ (List.mem_of_getElem? (i := 608) rfl)
theorem wl_33_7 : Cond.constantLong RX5 268 (31) ∈ lw_tbl := List.mem_append_right _ (List.mem_of_getElem? (i := 609) (by decide +kernel))
theorem wl_33_8 : Cond.methodLink RX5 241 yX5_setting ∈ lw_tbl := List.mem_append_right _ (List.mem_of_getElem? (i := 610) (by decide +kernel))
theorem wl_33_9 : Cond.methodLink RX5 244 yX5_account ∈ lw_tbl := List.mem_append_right _ (List.mem_of_getElem? (i := 611) (by decide +kernel))
theorem wl_33_10 : Cond.methodLink RX5 247 yX5_withSegments ∈ lw_tbl := List.mem_append_right _ (List.mem_of_getElem? (i := 612) (by decide +kernel))
theorem wl_33_11 : Cond.instanceMethod yX5_withSegments ∈ lw_tbl := List.mem_append_right _ (List.mem_of_getElem? (i := 614) (by decide +kernel))
theorem wl_33_12 : Cond.selects RX5 yX5_withSegments yX5_withSegments ∈ lw_tbl := List.mem_append_left _ (List.mem_of_getElem? (i := 12) (by decide +kernel))
set_option maxRecDepth 100000 in
theorem wl_33_13 : Cond.code yX5_withSegments cX5_withSegments 7 (some .long) ∈ lw_tbl := List.mem_append_right _ (List.mem_of_getElem? (i := 615) rfl)
theorem wl_33_14 : Cond.methodLink RX5 270 yX5_segment ∈ lw_tbl := List.mem_append_right _ (List.mem_of_getElem? (i := 616) (by decide +kernel))
theorem wl_33_15 : Cond.methodLink RX5 251 yX5_withTrains ∈ lw_tbl := List.mem_append_right _ (List.mem_of_getElem? (i := 617) (by decide +kernel))
theorem wl_33_16 : Cond.instanceMethod yX5_withTrains ∈ lw_tbl := List.mem_append_right _ (List.mem_of_getElem? (i := 619) (by decide +kernel))
theorem wl_33_17 : Cond.selects RX5 yX5_withTrains yX5_withTrains ∈ lw_tbl := List.mem_append_left _ (List.mem_of_getElem? (i := 13) (by decide +kernel))
set_option maxRecDepth 100000 in
theorem wl_33_18 : Cond.code yX5_withTrains cX5_withTrains 7 (some .long) ∈ lw_tbl := List.mem_append_right _ (List.mem_of_getElem? (i := 620) rfl)
theorem wl_33_19 : Cond.methodLink RX5 273 yX5_train ∈ lw_tbl := List.mem_append_right _ (List.mem_of_getElem? (i := 621) (by decide +kernel))
theorem wl_33_20 : Cond.methodLink RX5 276 yX5_why ∈ lw_tbl := List.mem_append_right _ (List.mem_of_getElem? (i := 622) (by decide +kernel))
theorem wl_33_21 : Cond.methodLink RX5 254 yX5_meanSinking ∈ lw_tbl := List.mem_append_right _ (List.mem_of_getElem? (i := 623) (by decide +kernel))
theorem wl_33_22 : Cond.methodLink RX5 258 yX5_bitsOf ∈ lw_tbl := List.mem_append_right _ (List.mem_of_getElem? (i := 624) (by decide +kernel))
theorem wl_33_23 : Cond.static yX5_bitsOf ∈ lw_tbl := List.mem_append_right _ (List.mem_of_getElem? (i := 625) (by decide +kernel))
theorem wlr_33 : ∀ w ∈ wsL_law_r33, w ∈ lw_tbl := List.forall_mem_cons.mpr ⟨wl_33_0, List.forall_mem_cons.mpr ⟨wl_33_1, List.forall_mem_cons.mpr ⟨wl_33_2, List.forall_mem_cons.mpr ⟨wl_33_3, List.forall_mem_cons.mpr ⟨wl_33_4, List.forall_mem_cons.mpr ⟨wl_33_5, List.forall_mem_cons.mpr ⟨wl_33_6, List.forall_mem_cons.mpr ⟨wl_33_7, List.forall_mem_cons.mpr ⟨wl_33_8, List.forall_mem_cons.mpr ⟨wl_33_9, List.forall_mem_cons.mpr ⟨wl_33_10, List.forall_mem_cons.mpr ⟨wl_33_11, List.forall_mem_cons.mpr ⟨wl_33_12, List.forall_mem_cons.mpr ⟨wl_33_13, List.forall_mem_cons.mpr ⟨wl_33_14, List.forall_mem_cons.mpr ⟨wl_33_15, List.forall_mem_cons.mpr ⟨wl_33_16, List.forall_mem_cons.mpr ⟨wl_33_17, List.forall_mem_cons.mpr ⟨wl_33_18, List.forall_mem_cons.mpr ⟨wl_33_19, List.forall_mem_cons.mpr ⟨wl_33_20, List.forall_mem_cons.mpr ⟨wl_33_21, List.forall_mem_cons.mpr ⟨wl_33_22, List.forall_mem_cons.mpr ⟨wl_33_23, fun _ h => absurd h List.not_mem_nil⟩⟩⟩⟩⟩⟩⟩⟩⟩⟩⟩⟩⟩⟩⟩⟩⟩⟩⟩⟩⟩⟩⟩⟩
set_option maxRecDepth 100000 in
theorem wl_34_0 : Cond.code yX5_bitsOf cX5_bitsOf 8 (some .long) ∈ lw_tbl := List.mem_append_right _ (List.mem_of_getElem? (i := 626) rfl)
theorem wl_34_1 : Cond.constantLong RX5 279 (1023) ∈ lw_tbl := List.mem_append_right _ (List.mem_of_getElem? (i := 627) (by decide +kernel))
theorem wl_34_2 : Cond.constantDouble RX5 281 (4611686018427387904) ∈ lw_tbl := List.mem_append_right _ (List.mem_of_getElem? (i := 628) (by decide +kernel))
theorem wl_34_3 : Cond.constantDouble RX5 283 (4841369599423283200) ∈ lw_tbl := List.mem_append_right _ (List.mem_of_getElem? (i := 629) (by decide +kernel))
theorem wl_34_4 : Cond.methodLink RX5 262 yX1_codeAt ∈ lw_tbl := List.mem_append_right _ (List.mem_of_getElem? (i := 630) (by decide +kernel))
theorem wl_34_5 : Cond.methodLink RL 117 yX6_digest ∈ lw_tbl := List.mem_append_right _ (List.mem_of_getElem? (i := 917) (by decide +kernel))
theorem wl_34_6 : Cond.instanceMethod yX6_digest ∈ lw_tbl := List.mem_append_right _ (List.mem_of_getElem? (i := 918) (by decide +kernel))
theorem wl_34_7 : Cond.selects RX6 yX6_digest yX6_digest ∈ lw_tbl := List.mem_append_right _ (List.mem_of_getElem? (i := 919) (by decide +kernel))
set_option maxRecDepth 100000 in
theorem wl_34_8 : Cond.code yX6_digest cX6_digest 3 (some .long) ∈ lw_tbl := List.mem_append_right _ (List.mem_of_getElem? (i := 920) rfl)
theorem wl_34_9 : Cond.constantLong RX6 173 (2069) ∈ lw_tbl := List.mem_append_right _ (List.mem_of_getElem? (i := 921) (by decide +kernel))
theorem wl_34_10 : Cond.fieldLink RX6 169 "PeatRailwayModel" "hash" "J" ∈ lw_tbl := List.mem_append_right _ (List.mem_of_getElem? (i := 651) (by decide +kernel))
theorem wl_34_11 : Cond.methodLink RX6 175 yX6_mix ∈ lw_tbl := List.mem_append_right _ (List.mem_of_getElem? (i := 922) (by decide +kernel))
theorem wl_34_12 : Cond.instanceMethod yX6_mix ∈ lw_tbl := List.mem_append_right _ (List.mem_of_getElem? (i := 924) (by decide +kernel))
theorem wl_34_13 : Cond.selects RX6 yX6_mix yX6_mix ∈ lw_tbl := List.mem_append_left _ (List.mem_of_getElem? (i := 50) (by decide +kernel))
set_option maxRecDepth 100000 in
theorem wl_34_14 : Cond.code yX6_mix cX6_mix 3 none ∈ lw_tbl := List.mem_append_right _ (List.mem_of_getElem? (i := 925) rfl)
theorem wl_34_15 : Cond.constantLong RX6 167 (31) ∈ lw_tbl := List.mem_append_right _ (List.mem_of_getElem? (i := 926) (by decide +kernel))
theorem wl_34_16 : Cond.methodLink RX6 179 yX6_meanSinking ∈ lw_tbl := List.mem_append_right _ (List.mem_of_getElem? (i := 927) (by decide +kernel))
theorem wl_34_17 : Cond.methodLink RX6 183 yJxe99ae_doubleToLongBits_ccdee ∈ lw_tbl := List.mem_append_right _ (List.mem_of_getElem? (i := 928) (by decide +kernel))
theorem wl_34_18 : Cond.static yJxe99ae_doubleToLongBits_ccdee ∈ lw_tbl := List.mem_append_right _ (List.mem_of_getElem? (i := 929) (by decide +kernel))
theorem wl_34_19 : Cond.initialized RJxe99ae ∈ lw_tbl := List.mem_append_right _ (List.mem_of_getElem? (i := 13) (by decide +kernel))
set_option maxRecDepth 100000 in
theorem wl_34_20 : Cond.code yJxe99ae_doubleToLongBits_ccdee cJxe99ae_doubleToLongBits_ccdee 2 (some .long) ∈ lw_tbl := List.mem_append_right _ (List.mem_of_getElem? (i := 930) rfl)
theorem wl_34_21 : Cond.methodLink RJxe99ae 134 ⟨"java/lang/Double", "doubleToRawLongBits", "(D)J"⟩ ∈ lw_tbl := List.mem_append_right _ (List.mem_of_getElem? (i := 934) (by decide +kernel))
theorem wl_34_22 : Cond.native ⟨"java/lang/Double", "doubleToRawLongBits", "(D)J"⟩ ∈ lw_tbl := List.mem_append_right _ (List.mem_of_getElem? (i := 936) (by decide +kernel))
theorem wl_34_23 : Cond.static ⟨"java/lang/Double", "doubleToRawLongBits", "(D)J"⟩ ∈ lw_tbl := List.mem_append_right _ (List.mem_of_getElem? (i := 935) (by decide +kernel))
theorem wlr_34 : ∀ w ∈ wsL_law_r34, w ∈ lw_tbl := List.forall_mem_cons.mpr ⟨wl_34_0, List.forall_mem_cons.mpr ⟨wl_34_1, List.forall_mem_cons.mpr ⟨wl_34_2, List.forall_mem_cons.mpr ⟨wl_34_3, List.forall_mem_cons.mpr ⟨wl_34_4, List.forall_mem_cons.mpr ⟨wl_34_5, List.forall_mem_cons.mpr ⟨wl_34_6, List.forall_mem_cons.mpr ⟨wl_34_7, List.forall_mem_cons.mpr ⟨wl_34_8, List.forall_mem_cons.mpr ⟨wl_34_9, List.forall_mem_cons.mpr ⟨wl_34_10, List.forall_mem_cons.mpr ⟨wl_34_11, List.forall_mem_cons.mpr ⟨wl_34_12, List.forall_mem_cons.mpr ⟨wl_34_13, List.forall_mem_cons.mpr ⟨wl_34_14, List.forall_mem_cons.mpr ⟨wl_34_15, List.forall_mem_cons.mpr ⟨wl_34_16, List.forall_mem_cons.mpr ⟨wl_34_17, List.forall_mem_cons.mpr ⟨wl_34_18, List.forall_mem_cons.mpr ⟨wl_34_19, List.forall_mem_cons.mpr ⟨wl_34_20, List.forall_mem_cons.mpr ⟨wl_34_21, List.forall_mem_cons.mpr ⟨wl_34_22, List.forall_mem_cons.mpr ⟨wl_34_23, fun _ h => absurd h List.not_mem_nil⟩⟩⟩⟩⟩⟩⟩⟩⟩⟩⟩⟩⟩⟩⟩⟩⟩⟩⟩⟩⟩⟩⟩⟩
theorem wl_35_0 : Cond.initialized "java/lang/Double" ∈ lw_tbl := List.mem_append_right _ (List.mem_of_getElem? (i := 13) (by decide +kernel))
theorem wl_35_1 : Cond.constantLong RJxe99ae 137 (9221120237041090560) ∈ lw_tbl := List.mem_append_right _ (List.mem_of_getElem? (i := 937) (by decide +kernel))
theorem wl_35_2 : Cond.methodLink RJxe99ae 122 yJxe99ae_isNaN_b9ae7 ∈ lw_tbl := List.mem_append_right _ (List.mem_of_getElem? (i := 931) (by decide +kernel))
theorem wl_35_3 : Cond.static yJxe99ae_isNaN_b9ae7 ∈ lw_tbl := List.mem_append_right _ (List.mem_of_getElem? (i := 932) (by decide +kernel))
set_option maxRecDepth 100000 in
theorem wl_35_4 : Cond.code yJxe99ae_isNaN_b9ae7 cJxe99ae_isNaN_b9ae7 2 (some .boolean) ∈ lw_tbl := List.mem_append_right _ (List.mem_of_getElem? (i := 933) rfl)
theorem wlr_35 : ∀ w ∈ wsL_law_r35, w ∈ lw_tbl := List.forall_mem_cons.mpr ⟨wl_35_0, List.forall_mem_cons.mpr ⟨wl_35_1, List.forall_mem_cons.mpr ⟨wl_35_2, List.forall_mem_cons.mpr ⟨wl_35_3, List.forall_mem_cons.mpr ⟨wl_35_4, fun _ h => absurd h List.not_mem_nil⟩⟩⟩⟩⟩
theorem wlx_0_0 : u_lay RX0 TX0 0 ∈ lw_tbl := List.mem_append_right _ (List.mem_of_getElem? (i := 285) (by decide +kernel))
theorem wlx_0_1 : u_lay RX0 TX0 1 ∈ lw_tbl := List.mem_append_right _ (List.mem_of_getElem? (i := 287) (by decide +kernel))
theorem wlx_0 : ∀ w ∈ wsX00, w ∈ lw_tbl := fun w h => by
  obtain ⟨k, hk, rfl⟩ := List.mem_map.mp h
  have hk := List.mem_range.mp hk
  rcases (show k = 0 ∨ k = 1 by omega) with rfl | rfl
  · exact wlx_0_0
  · exact wlx_0_1
theorem wlx_1_0 : u_lay RX1 TX1 0 ∈ lw_tbl := List.mem_append_right _ (List.mem_of_getElem? (i := 30) (by decide +kernel))
theorem wlx_1_1 : u_lay RX1 TX1 1 ∈ lw_tbl := List.mem_append_right _ (List.mem_of_getElem? (i := 32) (by decide +kernel))
theorem wlx_1 : ∀ w ∈ wsX10, w ∈ lw_tbl := fun w h => by
  obtain ⟨k, hk, rfl⟩ := List.mem_map.mp h
  have hk := List.mem_range.mp hk
  rcases (show k = 0 ∨ k = 1 by omega) with rfl | rfl
  · exact wlx_1_0
  · exact wlx_1_1
theorem wlx_2_0 : u_lay RX2 TX2 0 ∈ lw_tbl := List.mem_append_right _ (List.mem_of_getElem? (i := 116) (by decide +kernel))
theorem wlx_2_1 : u_lay RX2 TX2 1 ∈ lw_tbl := List.mem_append_right _ (List.mem_of_getElem? (i := 118) (by decide +kernel))
theorem wlx_2_2 : u_lay RX2 TX2 2 ∈ lw_tbl := List.mem_append_right _ (List.mem_of_getElem? (i := 120) (by decide +kernel))
theorem wlx_2_3 : u_lay RX2 TX2 3 ∈ lw_tbl := List.mem_append_right _ (List.mem_of_getElem? (i := 122) (by decide +kernel))
theorem wlx_2_4 : u_lay RX2 TX2 4 ∈ lw_tbl := List.mem_append_right _ (List.mem_of_getElem? (i := 124) (by decide +kernel))
theorem wlx_2_5 : u_lay RX2 TX2 5 ∈ lw_tbl := List.mem_append_right _ (List.mem_of_getElem? (i := 126) (by decide +kernel))
theorem wlx_2 : ∀ w ∈ wsX20, w ∈ lw_tbl := fun w h => by
  obtain ⟨k, hk, rfl⟩ := List.mem_map.mp h
  have hk := List.mem_range.mp hk
  rcases (show k = 0 ∨ k = 1 ∨ k = 2 ∨ k = 3 ∨ k = 4 ∨ k = 5 by omega) with rfl | rfl | rfl | rfl | rfl | rfl
  · exact wlx_2_0
  · exact wlx_2_1
  · exact wlx_2_2
  · exact wlx_2_3
  · exact wlx_2_4
  · exact wlx_2_5
theorem wlx_3_0 : u_lay RX3 TX3 0 ∈ lw_tbl := List.mem_append_right _ (List.mem_of_getElem? (i := 207) (by decide +kernel))
theorem wlx_3_1 : u_lay RX3 TX3 1 ∈ lw_tbl := List.mem_append_right _ (List.mem_of_getElem? (i := 209) (by decide +kernel))
theorem wlx_3_2 : u_lay RX3 TX3 2 ∈ lw_tbl := List.mem_append_right _ (List.mem_of_getElem? (i := 211) (by decide +kernel))
theorem wlx_3_3 : u_lay RX3 TX3 3 ∈ lw_tbl := List.mem_append_right _ (List.mem_of_getElem? (i := 213) (by decide +kernel))
theorem wlx_3_4 : u_lay RX3 TX3 4 ∈ lw_tbl := List.mem_append_right _ (List.mem_of_getElem? (i := 215) (by decide +kernel))
theorem wlx_3_5 : u_lay RX3 TX3 5 ∈ lw_tbl := List.mem_append_right _ (List.mem_of_getElem? (i := 217) (by decide +kernel))
theorem wlx_3_6 : u_lay RX3 TX3 6 ∈ lw_tbl := List.mem_append_right _ (List.mem_of_getElem? (i := 219) (by decide +kernel))
theorem wlx_3_7 : u_lay RX3 TX3 7 ∈ lw_tbl := List.mem_append_right _ (List.mem_of_getElem? (i := 221) (by decide +kernel))
theorem wlx_3_8 : u_lay RX3 TX3 8 ∈ lw_tbl := List.mem_append_right _ (List.mem_of_getElem? (i := 223) (by decide +kernel))
theorem wlx_3_9 : u_lay RX3 TX3 9 ∈ lw_tbl := List.mem_append_right _ (List.mem_of_getElem? (i := 225) (by decide +kernel))
theorem wlx_3_10 : u_lay RX3 TX3 10 ∈ lw_tbl := List.mem_append_right _ (List.mem_of_getElem? (i := 227) (by decide +kernel))
theorem wlx_3 : ∀ w ∈ wsX30, w ∈ lw_tbl := fun w h => by
  obtain ⟨k, hk, rfl⟩ := List.mem_map.mp h
  have hk := List.mem_range.mp hk
  rcases (show k = 0 ∨ k = 1 ∨ k = 2 ∨ k = 3 ∨ k = 4 ∨ k = 5 ∨ k = 6 ∨ k = 7 ∨ k = 8 ∨ k = 9 ∨ k = 10 by omega) with rfl | rfl | rfl | rfl | rfl | rfl | rfl | rfl | rfl | rfl | rfl
  · exact wlx_3_0
  · exact wlx_3_1
  · exact wlx_3_2
  · exact wlx_3_3
  · exact wlx_3_4
  · exact wlx_3_5
  · exact wlx_3_6
  · exact wlx_3_7
  · exact wlx_3_8
  · exact wlx_3_9
  · exact wlx_3_10
theorem wlx_4_0 : u_lay RX4 TX4 0 ∈ lw_tbl := List.mem_append_right _ (List.mem_of_getElem? (i := 164) (by decide +kernel))
theorem wlx_4_1 : u_lay RX4 TX4 1 ∈ lw_tbl := List.mem_append_right _ (List.mem_of_getElem? (i := 166) (by decide +kernel))
theorem wlx_4_2 : u_lay RX4 TX4 2 ∈ lw_tbl := List.mem_append_right _ (List.mem_of_getElem? (i := 168) (by decide +kernel))
theorem wlx_4_3 : u_lay RX4 TX4 3 ∈ lw_tbl := List.mem_append_right _ (List.mem_of_getElem? (i := 170) (by decide +kernel))
theorem wlx_4_4 : u_lay RX4 TX4 4 ∈ lw_tbl := List.mem_append_right _ (List.mem_of_getElem? (i := 172) (by decide +kernel))
theorem wlx_4_5 : u_lay RX4 TX4 5 ∈ lw_tbl := List.mem_append_right _ (List.mem_of_getElem? (i := 174) (by decide +kernel))
theorem wlx_4_6 : u_lay RX4 TX4 6 ∈ lw_tbl := List.mem_append_right _ (List.mem_of_getElem? (i := 176) (by decide +kernel))
theorem wlx_4_7 : u_lay RX4 TX4 7 ∈ lw_tbl := List.mem_append_right _ (List.mem_of_getElem? (i := 178) (by decide +kernel))
theorem wlx_4_8 : u_lay RX4 TX4 8 ∈ lw_tbl := List.mem_append_right _ (List.mem_of_getElem? (i := 180) (by decide +kernel))
theorem wlx_4_9 : u_lay RX4 TX4 9 ∈ lw_tbl := List.mem_append_right _ (List.mem_of_getElem? (i := 182) (by decide +kernel))
theorem wlx_4 : ∀ w ∈ wsX40, w ∈ lw_tbl := fun w h => by
  obtain ⟨k, hk, rfl⟩ := List.mem_map.mp h
  have hk := List.mem_range.mp hk
  rcases (show k = 0 ∨ k = 1 ∨ k = 2 ∨ k = 3 ∨ k = 4 ∨ k = 5 ∨ k = 6 ∨ k = 7 ∨ k = 8 ∨ k = 9 by omega) with rfl | rfl | rfl | rfl | rfl | rfl | rfl | rfl | rfl | rfl
  · exact wlx_4_0
  · exact wlx_4_1
  · exact wlx_4_2
  · exact wlx_4_3
  · exact wlx_4_4
  · exact wlx_4_5
  · exact wlx_4_6
  · exact wlx_4_7
  · exact wlx_4_8
  · exact wlx_4_9
theorem wlx_5_0 : u_lay RX5 TX5 0 ∈ lw_tbl := List.mem_append_right _ (List.mem_of_getElem? (i := 296) (by decide +kernel))
theorem wlx_5_1 : u_lay RX5 TX5 1 ∈ lw_tbl := List.mem_append_right _ (List.mem_of_getElem? (i := 298) (by decide +kernel))
theorem wlx_5_2 : u_lay RX5 TX5 2 ∈ lw_tbl := List.mem_append_right _ (List.mem_of_getElem? (i := 300) (by decide +kernel))
theorem wlx_5_3 : u_lay RX5 TX5 3 ∈ lw_tbl := List.mem_append_right _ (List.mem_of_getElem? (i := 302) (by decide +kernel))
theorem wlx_5_4 : u_lay RX5 TX5 4 ∈ lw_tbl := List.mem_append_right _ (List.mem_of_getElem? (i := 304) (by decide +kernel))
theorem wlx_5_5 : u_lay RX5 TX5 5 ∈ lw_tbl := List.mem_append_right _ (List.mem_of_getElem? (i := 306) (by decide +kernel))
theorem wlx_5 : ∀ w ∈ wsX50, w ∈ lw_tbl := fun w h => by
  obtain ⟨k, hk, rfl⟩ := List.mem_map.mp h
  have hk := List.mem_range.mp hk
  rcases (show k = 0 ∨ k = 1 ∨ k = 2 ∨ k = 3 ∨ k = 4 ∨ k = 5 by omega) with rfl | rfl | rfl | rfl | rfl | rfl
  · exact wlx_5_0
  · exact wlx_5_1
  · exact wlx_5_2
  · exact wlx_5_3
  · exact wlx_5_4
  · exact wlx_5_5
theorem wlx_6_0 : u_lay RX6 TX6 0 ∈ lw_tbl := List.mem_append_right _ (List.mem_of_getElem? (i := 652) (by decide +kernel))
theorem wlx_6_1 : u_lay RX6 TX6 1 ∈ lw_tbl := List.mem_append_right _ (List.mem_of_getElem? (i := 654) (by decide +kernel))
theorem wlx_6_2 : u_lay RX6 TX6 2 ∈ lw_tbl := List.mem_append_right _ (List.mem_of_getElem? (i := 656) (by decide +kernel))
theorem wlx_6_3 : u_lay RX6 TX6 3 ∈ lw_tbl := List.mem_append_right _ (List.mem_of_getElem? (i := 658) (by decide +kernel))
theorem wlx_6_4 : u_lay RX6 TX6 4 ∈ lw_tbl := List.mem_append_right _ (List.mem_of_getElem? (i := 660) (by decide +kernel))
theorem wlx_6_5 : u_lay RX6 TX6 5 ∈ lw_tbl := List.mem_append_right _ (List.mem_of_getElem? (i := 662) (by decide +kernel))
theorem wlx_6_6 : u_lay RX6 TX6 6 ∈ lw_tbl := List.mem_append_right _ (List.mem_of_getElem? (i := 664) (by decide +kernel))
theorem wlx_6_7 : u_lay RX6 TX6 7 ∈ lw_tbl := List.mem_append_right _ (List.mem_of_getElem? (i := 666) (by decide +kernel))
theorem wlx_6_8 : u_lay RX6 TX6 8 ∈ lw_tbl := List.mem_append_right _ (List.mem_of_getElem? (i := 668) (by decide +kernel))
theorem wlx_6_9 : u_lay RX6 TX6 9 ∈ lw_tbl := List.mem_append_right _ (List.mem_of_getElem? (i := 670) (by decide +kernel))
theorem wlx_6_10 : u_lay RX6 TX6 10 ∈ lw_tbl := List.mem_append_right _ (List.mem_of_getElem? (i := 672) (by decide +kernel))
theorem wlx_6 : ∀ w ∈ wsX60, w ∈ lw_tbl := fun w h => by
  obtain ⟨k, hk, rfl⟩ := List.mem_map.mp h
  have hk := List.mem_range.mp hk
  rcases (show k = 0 ∨ k = 1 ∨ k = 2 ∨ k = 3 ∨ k = 4 ∨ k = 5 ∨ k = 6 ∨ k = 7 ∨ k = 8 ∨ k = 9 ∨ k = 10 by omega) with rfl | rfl | rfl | rfl | rfl | rfl | rfl | rfl | rfl | rfl | rfl
  · exact wlx_6_0
  · exact wlx_6_1
  · exact wlx_6_2
  · exact wlx_6_3
  · exact wlx_6_4
  · exact wlx_6_5
  · exact wlx_6_6
  · exact wlx_6_7
  · exact wlx_6_8
  · exact wlx_6_9
  · exact wlx_6_10
theorem wl_all : ∀ w ∈ wsL_law, w ∈ lw_tbl := by
  unfold wsL_law
  exact List.forall_mem_append.mpr ⟨List.forall_mem_append.mpr ⟨List.forall_mem_append.mpr ⟨List.forall_mem_append.mpr ⟨List.forall_mem_append.mpr ⟨List.forall_mem_append.mpr ⟨List.forall_mem_append.mpr ⟨List.forall_mem_append.mpr ⟨List.forall_mem_append.mpr ⟨wlr_1, List.forall_mem_append.mpr ⟨wlr_2, List.forall_mem_append.mpr ⟨wlr_3, List.forall_mem_append.mpr ⟨wlr_4, List.forall_mem_append.mpr ⟨wlr_5, List.forall_mem_append.mpr ⟨wlr_6, List.forall_mem_append.mpr ⟨wlr_7, List.forall_mem_append.mpr ⟨wlr_8, List.forall_mem_append.mpr ⟨wlr_9, List.forall_mem_append.mpr ⟨wlr_10, List.forall_mem_append.mpr ⟨wlr_11, List.forall_mem_append.mpr ⟨wlr_12, List.forall_mem_append.mpr ⟨wlr_13, List.forall_mem_append.mpr ⟨wlr_14, List.forall_mem_append.mpr ⟨wlr_15, List.forall_mem_append.mpr ⟨wlr_16, List.forall_mem_append.mpr ⟨wlr_17, List.forall_mem_append.mpr ⟨wlr_18, List.forall_mem_append.mpr ⟨wlr_19, List.forall_mem_append.mpr ⟨wlr_20, List.forall_mem_append.mpr ⟨wlr_21, List.forall_mem_append.mpr ⟨wlr_22, List.forall_mem_append.mpr ⟨wlr_23, List.forall_mem_append.mpr ⟨wlr_24, List.forall_mem_append.mpr ⟨wlr_25, List.forall_mem_append.mpr ⟨wlr_26, List.forall_mem_append.mpr ⟨wlr_27, List.forall_mem_append.mpr ⟨wlr_28, List.forall_mem_append.mpr ⟨wlr_29, List.forall_mem_append.mpr ⟨wlr_30, List.forall_mem_append.mpr ⟨wlr_31, List.forall_mem_append.mpr ⟨wlr_32, List.forall_mem_append.mpr ⟨wlr_33, List.forall_mem_append.mpr ⟨wlr_34, wlr_35⟩⟩⟩⟩⟩⟩⟩⟩⟩⟩⟩⟩⟩⟩⟩⟩⟩⟩⟩⟩⟩⟩⟩⟩⟩⟩⟩⟩⟩⟩⟩⟩⟩⟩, wlx_5⟩, wlx_6⟩, wlx_1⟩, wlx_3⟩, wlx_0⟩, wlx_2⟩, wlx_4⟩, fun _ h => absurd h List.not_mem_nil⟩
