-- printed by a program: names and rows of the String members that packed reaches
abbrev cS_coder : ByteArray := prog_20_method_152_code
def yS_coder : MethodName := ⟨"java/lang/String", "coder", "()B"⟩
abbrev wS_coder : List Cond := Cond.code yS_coder cS_coder 1 (some .byte) :: lw_gd
theorem dS_coder_0 : decode cS_coder 0 = .ok (.getstatic 38, 3) := by decide +kernel
theorem dS_coder_3 : decode cS_coder 3 = .ok (.ifCond .eq (10), 3) := by decide +kernel
theorem dS_coder_6 : decode cS_coder 6 = .ok (.aload_n 0, 1) := by decide +kernel
theorem dS_coder_7 : decode cS_coder 7 = .ok (.getfield 15, 3) := by decide +kernel
theorem dS_coder_10 : decode cS_coder 10 = .ok (.goto (4), 3) := by decide +kernel
theorem dS_coder_13 : decode cS_coder 13 = .ok (.iconst (1), 1) := by decide +kernel
theorem dS_coder_14 : decode cS_coder 14 = .ok (.ireturn, 1) := by decide +kernel
theorem kS_coder : Cond.code yS_coder cS_coder 1 (some .byte) ∈ lw_tbl := List.mem_of_getElem? (i := 1262) (by decide +kernel)
abbrev cS_isLatin1 : ByteArray := prog_20_method_154_code
def yS_isLatin1 : MethodName := ⟨"java/lang/String", "isLatin1", "()Z"⟩
abbrev wS_isLatin1 : List Cond := Cond.code yS_isLatin1 cS_isLatin1 1 (some .boolean) :: lw_gd
theorem dS_isLatin1_0 : decode cS_isLatin1 0 = .ok (.getstatic 38, 3) := by decide +kernel
theorem dS_isLatin1_3 : decode cS_isLatin1 3 = .ok (.ifCond .eq (14), 3) := by decide +kernel
theorem dS_isLatin1_6 : decode cS_isLatin1 6 = .ok (.aload_n 0, 1) := by decide +kernel
theorem dS_isLatin1_7 : decode cS_isLatin1 7 = .ok (.getfield 15, 3) := by decide +kernel
theorem dS_isLatin1_10 : decode cS_isLatin1 10 = .ok (.ifCond .ne (7), 3) := by decide +kernel
theorem dS_isLatin1_13 : decode cS_isLatin1 13 = .ok (.iconst (1), 1) := by decide +kernel
theorem dS_isLatin1_14 : decode cS_isLatin1 14 = .ok (.goto (4), 3) := by decide +kernel
theorem dS_isLatin1_17 : decode cS_isLatin1 17 = .ok (.iconst (0), 1) := by decide +kernel
theorem dS_isLatin1_18 : decode cS_isLatin1 18 = .ok (.ireturn, 1) := by decide +kernel
theorem kS_isLatin1 : Cond.code yS_isLatin1 cS_isLatin1 1 (some .boolean) ∈ lw_tbl := List.mem_of_getElem? (i := 1272) (by decide +kernel)
abbrev cS_length : ByteArray := prog_20_method_54_code
def yS_length : MethodName := ⟨"java/lang/String", "length", "()I"⟩
abbrev wS_length : List Cond := Cond.code yS_length cS_length 1 (some .int) :: lw_gd
theorem dS_length_0 : decode cS_length 0 = .ok (.aload_n 0, 1) := by decide +kernel
theorem dS_length_1 : decode cS_length 1 = .ok (.getfield 9, 3) := by decide +kernel
theorem dS_length_4 : decode cS_length 4 = .ok (.arraylength, 1) := by decide +kernel
theorem dS_length_5 : decode cS_length 5 = .ok (.aload_n 0, 1) := by decide +kernel
theorem dS_length_6 : decode cS_length 6 = .ok (.invokevirtual 335, 3) := by decide +kernel
theorem dS_length_9 : decode cS_length 9 = .ok (.ishr, 1) := by decide +kernel
theorem dS_length_10 : decode cS_length 10 = .ok (.ireturn, 1) := by decide +kernel
theorem kS_length : Cond.code yS_length cS_length 1 (some .int) ∈ lw_tbl := List.mem_of_getElem? (i := 1258) (by decide +kernel)
abbrev cS_pchk : ByteArray := prog_29_method_11_code
def yS_pchk : MethodName := ⟨"jdk/internal/util/Preconditions", "checkIndex", "(IILjava/util/function/BiFunction;)I"⟩
abbrev wS_pchk : List Cond := Cond.code yS_pchk cS_pchk 3 (some .int) :: lw_gd
theorem dS_pchk_0 : decode cS_pchk 0 = .ok (.iload_n 0, 1) := by decide +kernel
theorem dS_pchk_1 : decode cS_pchk 1 = .ok (.ifCond .lt (8), 3) := by decide +kernel
theorem dS_pchk_4 : decode cS_pchk 4 = .ok (.iload_n 0, 1) := by decide +kernel
theorem dS_pchk_5 : decode cS_pchk 5 = .ok (.iload_n 1, 1) := by decide +kernel
theorem dS_pchk_6 : decode cS_pchk 6 = .ok (.if_icmp .lt (10), 3) := by decide +kernel
theorem dS_pchk_9 : decode cS_pchk 9 = .ok (.aload_n 2, 1) := by decide +kernel
theorem dS_pchk_10 : decode cS_pchk 10 = .ok (.iload_n 0, 1) := by decide +kernel
theorem dS_pchk_11 : decode cS_pchk 11 = .ok (.iload_n 1, 1) := by decide +kernel
theorem dS_pchk_12 : decode cS_pchk 12 = .ok (.invokestatic 95, 3) := by decide +kernel
theorem dS_pchk_15 : decode cS_pchk 15 = .ok (.athrow, 1) := by decide +kernel
theorem dS_pchk_16 : decode cS_pchk 16 = .ok (.iload_n 0, 1) := by decide +kernel
theorem dS_pchk_17 : decode cS_pchk 17 = .ok (.ireturn, 1) := by decide +kernel
theorem kS_pchk : Cond.code yS_pchk cS_pchk 3 (some .int) ∈ lw_tbl := List.mem_of_getElem? (i := 1283) (by decide +kernel)
abbrev cS_schk : ByteArray := prog_20_method_155_code
def yS_schk : MethodName := ⟨"java/lang/String", "checkIndex", "(II)V"⟩
abbrev wS_schk : List Cond := Cond.code yS_schk cS_schk 2 none :: lw_gd
theorem dS_schk_0 : decode cS_schk 0 = .ok (.iload_n 0, 1) := by decide +kernel
theorem dS_schk_1 : decode cS_schk 1 = .ok (.iload_n 1, 1) := by decide +kernel
theorem dS_schk_2 : decode cS_schk 2 = .ok (.getstatic 1053, 3) := by decide +kernel
theorem dS_schk_5 : decode cS_schk 5 = .ok (.invokestatic 1059, 3) := by decide +kernel
theorem dS_schk_8 : decode cS_schk 8 = .ok (.pop, 1) := by decide +kernel
theorem dS_schk_9 : decode cS_schk 9 = .ok (.return_, 1) := by decide +kernel
theorem kS_schk : Cond.code yS_schk cS_schk 2 none ∈ lw_tbl := List.mem_of_getElem? (i := 1278) (by decide +kernel)
abbrev cS_lch : ByteArray := prog_21_method_2_code
def yS_lch : MethodName := ⟨"java/lang/StringLatin1", "charAt", "([BI)C"⟩
abbrev wS_lch : List Cond := Cond.code yS_lch cS_lch 2 (some .char) :: lw_gd
theorem dS_lch_0 : decode cS_lch 0 = .ok (.iload_n 1, 1) := by decide +kernel
theorem dS_lch_1 : decode cS_lch 1 = .ok (.aload_n 0, 1) := by decide +kernel
theorem dS_lch_2 : decode cS_lch 2 = .ok (.arraylength, 1) := by decide +kernel
theorem dS_lch_3 : decode cS_lch 3 = .ok (.invokestatic 9, 3) := by decide +kernel
theorem dS_lch_6 : decode cS_lch 6 = .ok (.aload_n 0, 1) := by decide +kernel
theorem dS_lch_7 : decode cS_lch 7 = .ok (.iload_n 1, 1) := by decide +kernel
theorem dS_lch_8 : decode cS_lch 8 = .ok (.baload, 1) := by decide +kernel
theorem dS_lch_9 : decode cS_lch 9 = .ok (.sipush (255), 3) := by decide +kernel
theorem dS_lch_12 : decode cS_lch 12 = .ok (.iand, 1) := by decide +kernel
theorem dS_lch_13 : decode cS_lch 13 = .ok (.i2c, 1) := by decide +kernel
theorem dS_lch_14 : decode cS_lch 14 = .ok (.ireturn, 1) := by decide +kernel
theorem kS_lch : Cond.code yS_lch cS_lch 2 (some .char) ∈ lw_tbl := List.mem_of_getElem? (i := 1275) (by decide +kernel)
abbrev cS_charAt : ByteArray := prog_20_method_56_code
def yS_charAt : MethodName := ⟨"java/lang/String", "charAt", "(I)C"⟩
abbrev wS_charAt : List Cond := Cond.code yS_charAt cS_charAt 2 (some .char) :: lw_gd
theorem dS_charAt_0 : decode cS_charAt 0 = .ok (.aload_n 0, 1) := by decide +kernel
theorem dS_charAt_1 : decode cS_charAt 1 = .ok (.invokevirtual 492, 3) := by decide +kernel
theorem dS_charAt_4 : decode cS_charAt 4 = .ok (.ifCond .eq (12), 3) := by decide +kernel
theorem dS_charAt_7 : decode cS_charAt 7 = .ok (.aload_n 0, 1) := by decide +kernel
theorem dS_charAt_8 : decode cS_charAt 8 = .ok (.getfield 9, 3) := by decide +kernel
theorem dS_charAt_11 : decode cS_charAt 11 = .ok (.iload_n 1, 1) := by decide +kernel
theorem dS_charAt_12 : decode cS_charAt 12 = .ok (.invokestatic 495, 3) := by decide +kernel
theorem dS_charAt_15 : decode cS_charAt 15 = .ok (.ireturn, 1) := by decide +kernel
theorem dS_charAt_16 : decode cS_charAt 16 = .ok (.aload_n 0, 1) := by decide +kernel
theorem dS_charAt_17 : decode cS_charAt 17 = .ok (.getfield 9, 3) := by decide +kernel
theorem dS_charAt_20 : decode cS_charAt 20 = .ok (.iload_n 1, 1) := by decide +kernel
theorem dS_charAt_21 : decode cS_charAt 21 = .ok (.invokestatic 498, 3) := by decide +kernel
theorem dS_charAt_24 : decode cS_charAt 24 = .ok (.ireturn, 1) := by decide +kernel
theorem kS_charAt : Cond.code yS_charAt cS_charAt 2 (some .char) ∈ lw_tbl := List.mem_of_getElem? (i := 1268) (by decide +kernel)
abbrev cS_packed : ByteArray := prog_11_method_22_code
def yS_packed : MethodName := ⟨"LateBinderModel", "packed", "(Ljava/lang/String;)J"⟩
abbrev wS_packed : List Cond := Cond.code yS_packed cS_packed 4 (some .long) :: lw_gd
theorem dS_packed_0 : decode cS_packed 0 = .ok (.lconst 0, 1) := by decide +kernel
theorem dS_packed_1 : decode cS_packed 1 = .ok (.lstore_n 1, 1) := by decide +kernel
theorem dS_packed_2 : decode cS_packed 2 = .ok (.iconst (0), 1) := by decide +kernel
theorem dS_packed_3 : decode cS_packed 3 = .ok (.istore_n 3, 1) := by decide +kernel
theorem dS_packed_4 : decode cS_packed 4 = .ok (.iload_n 3, 1) := by decide +kernel
theorem dS_packed_5 : decode cS_packed 5 = .ok (.aload_n 0, 1) := by decide +kernel
theorem dS_packed_6 : decode cS_packed 6 = .ok (.invokevirtual 154, 3) := by decide +kernel
theorem dS_packed_9 : decode cS_packed 9 = .ok (.if_icmp .ge (22), 3) := by decide +kernel
theorem dS_packed_12 : decode cS_packed 12 = .ok (.ldc2_w 149, 3) := by decide +kernel
theorem dS_packed_15 : decode cS_packed 15 = .ok (.lload_n 1, 1) := by decide +kernel
theorem dS_packed_16 : decode cS_packed 16 = .ok (.lmul, 1) := by decide +kernel
theorem dS_packed_17 : decode cS_packed 17 = .ok (.aload_n 0, 1) := by decide +kernel
theorem dS_packed_18 : decode cS_packed 18 = .ok (.iload_n 3, 1) := by decide +kernel
theorem dS_packed_19 : decode cS_packed 19 = .ok (.invokevirtual 159, 3) := by decide +kernel
theorem dS_packed_22 : decode cS_packed 22 = .ok (.i2l, 1) := by decide +kernel
theorem dS_packed_23 : decode cS_packed 23 = .ok (.ladd, 1) := by decide +kernel
theorem dS_packed_24 : decode cS_packed 24 = .ok (.lstore_n 1, 1) := by decide +kernel
theorem dS_packed_25 : decode cS_packed 25 = .ok (.iinc 3 (1), 3) := by decide +kernel
theorem dS_packed_28 : decode cS_packed 28 = .ok (.goto (-24), 3) := by decide +kernel
theorem dS_packed_31 : decode cS_packed 31 = .ok (.lload_n 1, 1) := by decide +kernel
theorem dS_packed_32 : decode cS_packed 32 = .ok (.lreturn, 1) := by decide +kernel
theorem kS_packed : Cond.code yS_packed cS_packed 4 (some .long) ∈ lw_tbl := List.mem_of_getElem? (i := 1254) (by decide +kernel)
theorem fS_value : Cond.fieldLink "java/lang/String" 9 "java/lang/String" "value" "[B" ∈ lw_tbl := List.mem_of_getElem? (i := 1694) (by decide +kernel)
theorem fS_coder : Cond.fieldLink "java/lang/String" 15 "java/lang/String" "coder" "B" ∈ lw_tbl := List.mem_of_getElem? (i := 1695) (by decide +kernel)
theorem fS_comp : Cond.fieldLink "java/lang/String" 38 "java/lang/String" "COMPACT_STRINGS" "Z" ∈ lw_tbl := List.mem_of_getElem? (i := 1263) (by decide +kernel)
theorem fS_sio : Cond.fieldLink "java/lang/String" 1053 "jdk/internal/util/Preconditions" "SIOOBE_FORMATTER" "Ljava/util/function/BiFunction;" ∈ lw_tbl := List.mem_of_getElem? (i := 1279) (by decide +kernel)
theorem lS_coder : Cond.methodLink "java/lang/String" 335 yS_coder ∈ lw_tbl := List.mem_of_getElem? (i := 1259) (by decide +kernel)
theorem lS_isLatin1 : Cond.methodLink "java/lang/String" 492 yS_isLatin1 ∈ lw_tbl := List.mem_of_getElem? (i := 1269) (by decide +kernel)
theorem lS_lch : Cond.methodLink "java/lang/String" 495 yS_lch ∈ lw_tbl := List.mem_of_getElem? (i := 1273) (by decide +kernel)
theorem lS_schk : Cond.methodLink "java/lang/StringLatin1" 9 yS_schk ∈ lw_tbl := List.mem_of_getElem? (i := 1276) (by decide +kernel)
theorem lS_pchk : Cond.methodLink "java/lang/String" 1059 yS_pchk ∈ lw_tbl := List.mem_of_getElem? (i := 1281) (by decide +kernel)
theorem lS_length : Cond.methodLink "LateBinderModel" 154 yS_length ∈ lw_tbl := List.mem_of_getElem? (i := 1255) (by decide +kernel)
theorem lS_charAt : Cond.methodLink "LateBinderModel" 159 yS_charAt ∈ lw_tbl := List.mem_of_getElem? (i := 1265) (by decide +kernel)
theorem iS_coder : Cond.instanceMethod yS_coder ∈ lw_tbl := List.mem_of_getElem? (i := 1260) (by decide +kernel)
theorem sS_coder : Cond.selects "java/lang/String" yS_coder yS_coder ∈ lw_tbl := List.mem_of_getElem? (i := 1261) (by decide +kernel)
theorem iS_isLatin1 : Cond.instanceMethod yS_isLatin1 ∈ lw_tbl := List.mem_of_getElem? (i := 1270) (by decide +kernel)
theorem sS_isLatin1 : Cond.selects "java/lang/String" yS_isLatin1 yS_isLatin1 ∈ lw_tbl := List.mem_of_getElem? (i := 1271) (by decide +kernel)
theorem iS_length : Cond.instanceMethod yS_length ∈ lw_tbl := List.mem_of_getElem? (i := 1256) (by decide +kernel)
theorem sS_length : Cond.selects "java/lang/String" yS_length yS_length ∈ lw_tbl := List.mem_of_getElem? (i := 1257) (by decide +kernel)
theorem iS_charAt : Cond.instanceMethod yS_charAt ∈ lw_tbl := List.mem_of_getElem? (i := 1266) (by decide +kernel)
theorem sS_charAt : Cond.selects "java/lang/String" yS_charAt yS_charAt ∈ lw_tbl := List.mem_of_getElem? (i := 1267) (by decide +kernel)
theorem tS_lch : Cond.static yS_lch ∈ lw_tbl := List.mem_of_getElem? (i := 1274) (by decide +kernel)
theorem tS_schk : Cond.static yS_schk ∈ lw_tbl := List.mem_of_getElem? (i := 1277) (by decide +kernel)
theorem tS_pchk : Cond.static yS_pchk ∈ lw_tbl := List.mem_of_getElem? (i := 1282) (by decide +kernel)
theorem tS_packed : Cond.static yS_packed ∈ lw_tbl := List.mem_of_getElem? (i := 1253) (by decide +kernel)
theorem nS_str : Cond.initialized "java/lang/String" ∈ lw_tbl := List.mem_of_getElem? (i := 127) (by decide +kernel)
theorem nS_lat : Cond.initialized "java/lang/StringLatin1" ∈ lw_tbl := List.mem_of_getElem? (i := 128) (by decide +kernel)
theorem nS_pre : Cond.initialized "jdk/internal/util/Preconditions" ∈ lw_tbl := List.mem_of_getElem? (i := 129) (by decide +kernel)
theorem cS_256 : Cond.constantLong "LateBinderModel" 149 256 ∈ lw_tbl := List.mem_of_getElem? (i := 1246) (by decide +kernel)
theorem nS_mod : Cond.initialized "LateBinderModel" ∈ lw_tbl := List.mem_of_getElem? (i := 122) (by decide +kernel)
theorem lS_packed : Cond.methodLink "LateBinderModel" 163 yS_packed ∈ lw_tbl := List.mem_of_getElem? (i := 1252) (by decide +kernel)
