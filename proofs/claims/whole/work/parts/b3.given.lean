-- printed by a program: what the Statement gives of the start, by places
abbrev gvA : List Cond := flatC (Jvm.Cond.and given_1 narrow_1)
abbrev tKy (i : Nat) : Term := .static "LateBinder$Key" (zkn.getD i "") "LLateBinder$Key;"
abbrev tAl : Term := .static "LateBinder$Key" "ALL" "[LLateBinder$Key;"
abbrev tSt (i : Nat) : Term := .string "LateBinderModel" (zsi i)
abbrev tSv (i : Nat) : Term := .field (tSt i) "java/lang/String" "value" "[B"
theorem g_ex : ∀ i, i < 10 → gvA[([19, 31, 22, 26, 37, 44, 52, 61, 71, 82] : List Nat).getD i 0]? = some (Cond.exactly (tKy i) "LateBinder$Key") := by decide +kernel
theorem g_cd : ∀ i, i < 10 → gvA[([21, 33, 24, 28, 39, 46, 54, 63, 73, 84] : List Nat).getD i 0]? = some (Cond.eq (.field (tKy i) "LateBinder$Key" "code" "J") (.long (zcd i))) := by decide +kernel
theorem g_el : ∀ i, i < 10 → gvA[([9, 10, 11, 12, 13, 14, 15, 16, 17, 18] : List Nat).getD i 0]? = some (Cond.eq (.elem tAl (.int (Int32.ofNat i))) (tKy i)) := by decide +kernel
theorem g_ar : gvA[6]? = some (Cond.arrayOf tAl (.object "LateBinder$Key")) := by decide +kernel
theorem g_al : gvA[7]? = some (Cond.eq (.length tAl) (.int (Int32.ofNat 10))) := by decide +kernel
def g_nx (i j : Nat) : Nat := (([[0, 34, 25, 29, 40, 47, 55, 64, 74, 85], [0, 0, 0, 0, 43, 50, 58, 67, 77, 88], [0, 35, 0, 30, 41, 48, 56, 65, 75, 86], [0, 36, 0, 0, 42, 49, 57, 66, 76, 87], [0, 0, 0, 0, 0, 51, 59, 68, 78, 89], [0, 0, 0, 0, 0, 0, 60, 69, 79, 90], [0, 0, 0, 0, 0, 0, 0, 70, 80, 91], [0, 0, 0, 0, 0, 0, 0, 0, 81, 92], [0, 0, 0, 0, 0, 0, 0, 0, 0, 93], [0, 0, 0, 0, 0, 0, 0, 0, 0, 0]] : List (List Nat)).getD i []).getD j 0
theorem g_ne : ∀ i, i < 10 → ∀ j, j < 10 → i ≠ j → (gvA[g_nx i j]? = some (Cond.not (.eq (tKy i) (tKy j))) ∨ gvA[g_nx j i]? = some (Cond.not (.eq (tKy j) (tKy i)))) := by decide +kernel
theorem g_sx : ∀ i, i < 10 → gvA[([135, 145, 156, 164, 176, 186, 198, 212, 226, 242] : List Nat).getD i 0]? = some (Cond.exactly (tSt i) "java/lang/String") := by decide +kernel
theorem g_sc : ∀ i, i < 10 → gvA[([136, 146, 157, 165, 177, 187, 199, 213, 227, 243] : List Nat).getD i 0]? = some (Cond.eq (.field (tSt i) "java/lang/String" "coder" "B") (.int 0)) := by decide +kernel
theorem g_sa : ∀ i, i < 10 → gvA[([137, 147, 158, 166, 178, 188, 200, 214, 228, 244] : List Nat).getD i 0]? = some (Cond.arrayOf (tSv i) .byte) := by decide +kernel
theorem g_sl : ∀ i, i < 10 → gvA[([138, 148, 159, 167, 179, 189, 201, 215, 229, 245] : List Nat).getD i 0]? = some (Cond.eq (.length (tSv i)) (.int (Int32.ofNat (slen.getD i 0)))) := by decide +kernel
theorem g_se : ∀ i, i < 10 → ∀ j, j < slen.getD i 0 → gvA[(([[139, 140, 141, 142, 143, 144], [149, 150, 151, 152, 153, 154], [160, 161], [168, 169, 170, 171, 172], [180, 181], [190, 191, 192], [202, 203, 204, 205], [216, 217, 218], [230, 231, 232, 233], [246, 247, 248, 249, 250]] : List (List Nat)).getD i []).getD j 0]? = some (Cond.eq (.elem (tSv i) (.int (Int32.ofNat j))) (.int ((sbyt.getD i []).getD j 0))) := by decide +kernel
def g_sx2 (i j : Nat) : Nat := (([[0, 155, 162, 173, 182, 193, 206, 219, 234, 251], [0, 0, 163, 174, 183, 194, 207, 220, 235, 252], [0, 0, 0, 175, 184, 195, 208, 221, 236, 253], [0, 0, 0, 0, 185, 196, 209, 222, 237, 254], [0, 0, 0, 0, 0, 197, 210, 223, 238, 255], [0, 0, 0, 0, 0, 0, 211, 224, 239, 256], [0, 0, 0, 0, 0, 0, 0, 225, 240, 257], [0, 0, 0, 0, 0, 0, 0, 0, 241, 258], [0, 0, 0, 0, 0, 0, 0, 0, 0, 259], [0, 0, 0, 0, 0, 0, 0, 0, 0, 0]] : List (List Nat)).getD i []).getD j 0
theorem g_sn : ∀ i, i < 10 → ∀ j, j < 10 → i ≠ j → (gvA[g_sx2 i j]? = some (Cond.not (.eq (tSt i) (tSt j))) ∨ gvA[g_sx2 j i]? = some (Cond.not (.eq (tSt j) (tSt i)))) := by decide +kernel
theorem g_us : gvA[94]? = some (Cond.isRef (.static Bundle.tN "UNASSIGNED_STACK" Bundle.steD)) := by decide +kernel
theorem g_ss : gvA[95]? = some (Cond.isRef (.static Bundle.tN "SUPPRESSED_SENTINEL" Bundle.listD)) := by decide +kernel
theorem g_co : gvA[96]? = some (Cond.eq (.static "java/lang/String" "COMPACT_STRINGS" "Z") (.int 1)) := by decide +kernel
theorem g_si : gvA[97]? = some (Cond.isRef (.static "jdk/internal/util/Preconditions" "SIOOBE_FORMATTER" "Ljava/util/function/BiFunction;")) := by decide +kernel
theorem w_ks : ∀ i, i < 10 → lw_tbl[([558, 612, 591, 602, 622, 632, 634, 636, 638, 640] : List Nat).getD i 0]? = some (Cond.laysStatic "LateBinder$Key" (zkn.getD i "") "LLateBinder$Key;") := by decide +kernel
theorem w_sr : ∀ i, i < 10 → lw_tbl[([1247, 1323, 1324, 1325, 1326, 1327, 1328, 1329, 1330, 1331] : List Nat).getD i 0]? = some (Cond.stringRef "LateBinderModel" (zsi i) (ztx i)) := by decide +kernel
theorem w_al : Cond.laysStatic "LateBinder$Key" "ALL" "[LLateBinder$Key;" ∈ lw_tbl := List.mem_of_getElem? (i := 556) (by decide +kernel)
theorem w_us : Cond.laysStatic Bundle.tN "UNASSIGNED_STACK" Bundle.steD ∈ lw_tbl := List.mem_of_getElem? (i := 1043) (by decide +kernel)
theorem w_ss : Cond.laysStatic Bundle.tN "SUPPRESSED_SENTINEL" Bundle.listD ∈ lw_tbl := List.mem_of_getElem? (i := 1045) (by decide +kernel)
theorem w_ti : Cond.initialized Bundle.tN ∈ lw_tbl := List.mem_of_getElem? (i := 132) (by decide +kernel)
theorem w_co : Cond.laysStatic "java/lang/String" "COMPACT_STRINGS" "Z" ∈ lw_tbl := List.mem_of_getElem? (i := 1264) (by decide +kernel)
theorem w_si : Cond.laysStatic "jdk/internal/util/Preconditions" "SIOOBE_FORMATTER" "Ljava/util/function/BiFunction;" ∈ lw_tbl := List.mem_of_getElem? (i := 1280) (by decide +kernel)
theorem w_pi : Cond.initialized "jdk/internal/util/Preconditions" ∈ lw_tbl := List.mem_of_getElem? (i := 129) (by decide +kernel)
theorem w_st : Cond.initialized "java/lang/String" ∈ lw_tbl := List.mem_of_getElem? (i := 127) (by decide +kernel)
theorem w_ok : Cond.arrayOver (.object "LateBinder$Key") ∈ lw_tbl := List.mem_of_getElem? (i := 231) (by decide +kernel)
theorem w_oi : Cond.arrayOver (.array .int) ∈ lw_tbl := List.mem_of_getElem? (i := 233) (by decide +kernel)
theorem w_ob : Cond.arrayOver (.object "LateBinder$Bench") ∈ lw_tbl := List.mem_of_getElem? (i := 442) (by decide +kernel)
theorem w_ai : Cond.arrayClass .int ∈ lw_tbl := List.mem_of_getElem? (i := 203) (by decide +kernel)
theorem w_al2 : Cond.arrayClass .long ∈ lw_tbl := List.mem_of_getElem? (i := 329) (by decide +kernel)
theorem w_ab : Cond.arrayClass .byte ∈ lw_tbl := List.mem_of_getElem? (i := 159) (by decide +kernel)
theorem w_in : ∀ i, i < 9 → lw_tbl[([331, 205, 161, 225, 444, 337, 145, 137, 1082] : List Nat).getD i 0]? = (clz[i]?).map (fun q => Cond.instantiable q.1 q.2.2) := by decide +kernel
theorem w_nst : zNst.all Cond.onTables = true := by decide +kernel
