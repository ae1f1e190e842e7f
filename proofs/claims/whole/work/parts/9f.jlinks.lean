/-! ===== the JDK's members behind a text: what the tables say ===== -/
def m_Lat_indexOf : sh_M := (⟨"java/lang/StringLatin1", "indexOf", "([BIII)I"⟩, prog_24_method_22_code, 4, some .int)
theorem mo_Lat_indexOf : sh_MO m_Lat_indexOf 4 := ⟨⟨by decide +kernel, by decide +kernel, by decide +kernel⟩, tb_in tb_2 (List.mem_of_getElem? (i := 209) (by decide +kernel)) rfl, by decide, tb_in tb_1 (List.mem_of_getElem? (i := 15) (by decide +kernel)) rfl⟩
theorem sa_Lat_indexOf : Cond.static m_Lat_indexOf.1 ∈ lw_g := tb_in tb_2 (List.mem_of_getElem? (i := 208) (by decide +kernel)) rfl
def m_Lat_indexOfChar : sh_M := (⟨"java/lang/StringLatin1", "indexOfChar", "([BIII)I"⟩, prog_24_method_23_code, 6, some .int)
theorem mo_Lat_indexOfChar : sh_MO m_Lat_indexOfChar 4 := ⟨⟨by decide +kernel, by decide +kernel, by decide +kernel⟩, tb_in tb_2 (List.mem_of_getElem? (i := 221) (by decide +kernel)) rfl, by decide, tb_in tb_1 (List.mem_of_getElem? (i := 15) (by decide +kernel)) rfl⟩
theorem sa_Lat_indexOfChar : Cond.static m_Lat_indexOfChar.1 ∈ lw_g := tb_in tb_2 (List.mem_of_getElem? (i := 220) (by decide +kernel)) rfl
def m_Str_checkIndex : sh_M := (⟨"java/lang/String", "checkIndex", "(II)V"⟩, prog_23_method_155_code, 2, none)
theorem mo_Str_checkIndex : sh_MO m_Str_checkIndex 2 := ⟨⟨by decide +kernel, by decide +kernel, by decide +kernel⟩, tb_in tb_3 (List.mem_of_getElem? (i := 46) (by decide +kernel)) rfl, by decide, tb_in tb_1 (List.mem_of_getElem? (i := 14) (by decide +kernel)) rfl⟩
theorem sa_Str_checkIndex : Cond.static m_Str_checkIndex.1 ∈ lw_g := tb_in tb_3 (List.mem_of_getElem? (i := 45) (by decide +kernel)) rfl
def m_Pre_checkIndex : sh_M := (⟨"jdk/internal/util/Preconditions", "checkIndex", "(IILjava/util/function/BiFunction;)I"⟩, prog_31_method_11_code, 3, some .int)
theorem mo_Pre_checkIndex : sh_MO m_Pre_checkIndex 3 := ⟨⟨by decide +kernel, by decide +kernel, by decide +kernel⟩, tb_in tb_3 (List.mem_of_getElem? (i := 49) (by decide +kernel)) rfl, by decide, tb_in tb_1 (List.mem_of_getElem? (i := 18) (by decide +kernel)) rfl⟩
theorem sa_Pre_checkIndex : Cond.static m_Pre_checkIndex.1 ∈ lw_g := tb_in tb_3 (List.mem_of_getElem? (i := 48) (by decide +kernel)) rfl
theorem ml_Str_637 : Cond.methodLink "java/lang/String" 637 m_Lat_indexOf.1 ∈ lw_g := tb_in tb_2 (List.mem_of_getElem? (i := 207) (by decide +kernel)) rfl
theorem ml_Str_1059 : Cond.methodLink "java/lang/String" 1059 m_Pre_checkIndex.1 ∈ lw_g := tb_in tb_3 (List.mem_of_getElem? (i := 47) (by decide +kernel)) rfl
theorem ml_Lat_88 : Cond.methodLink "java/lang/StringLatin1" 88 m_Lat_canEncode.1 ∈ lw_g := tb_in tb_2 (List.mem_of_getElem? (i := 210) (by decide +kernel)) rfl
theorem ml_Lat_92 : Cond.methodLink "java/lang/StringLatin1" 92 Lib.Math.max.name ∈ lw_g := tb_in tb_2 (List.mem_of_getElem? (i := 213) (by decide +kernel)) rfl
theorem ml_Lat_38 : Cond.methodLink "java/lang/StringLatin1" 38 Lib.Math.min.name ∈ lw_g := tb_in tb_2 (List.mem_of_getElem? (i := 216) (by decide +kernel)) rfl
theorem ml_Lat_95 : Cond.methodLink "java/lang/StringLatin1" 95 m_Lat_indexOfChar.1 ∈ lw_g := tb_in tb_2 (List.mem_of_getElem? (i := 219) (by decide +kernel)) rfl
theorem ml_Lat_9 : Cond.methodLink "java/lang/StringLatin1" 9 m_Str_checkIndex.1 ∈ lw_g := tb_in tb_3 (List.mem_of_getElem? (i := 44) (by decide +kernel)) rfl
theorem fk_Str_9 : Cond.fieldLink "java/lang/String" 9 "java/lang/String" "value" "[B" ∈ lw_g := tb_in tb_8 (List.mem_of_getElem? (i := 121) (by decide +kernel)) rfl
theorem fk_Str_15 : Cond.fieldLink "java/lang/String" 15 "java/lang/String" "coder" "B" ∈ lw_g := tb_in tb_8 (List.mem_of_getElem? (i := 120) (by decide +kernel)) rfl
theorem fk_Str_38 : Cond.fieldLink "java/lang/String" 38 "java/lang/String" "COMPACT_STRINGS" "Z" ∈ lw_g := tb_in tb_2 (List.mem_of_getElem? (i := 197) (by decide +kernel)) rfl
theorem fk_Str_1053 : Cond.fieldLink "java/lang/String" 1053 "jdk/internal/util/Preconditions" "SIOOBE_FORMATTER" "Ljava/util/function/BiFunction;" ∈ lw_g := tb_in tb_3 (List.mem_of_getElem? (i := 0) (by decide +kernel)) rfl
