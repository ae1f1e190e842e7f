/-! ===== constructors: what the tables say ===== -/
theorem mo_Alm_init : sh_MO m_Alm_init 0 := ⟨⟨by decide +kernel, by decide +kernel, by decide +kernel⟩, tb_in tb_1 (List.mem_of_getElem? (i := 198) (by decide +kernel)) rfl, by decide, tb_in tb_1 (List.mem_of_getElem? (i := 9) (by decide +kernel)) rfl⟩
theorem im_Alm_init : Cond.instanceMethod m_Alm_init.1 ∈ lw_g := tb_in tb_1 (List.mem_of_getElem? (i := 197) (by decide +kernel)) rfl
theorem mo_Gang_init : sh_MO m_Gang_init 0 := ⟨⟨by decide +kernel, by decide +kernel, by decide +kernel⟩, tb_in tb_1 (List.mem_of_getElem? (i := 148) (by decide +kernel)) rfl, by decide, tb_in tb_1 (List.mem_of_getElem? (i := 7) (by decide +kernel)) rfl⟩
theorem im_Gang_init : Cond.instanceMethod m_Gang_init.1 ∈ lw_g := tb_in tb_1 (List.mem_of_getElem? (i := 147) (by decide +kernel)) rfl
theorem mo_Law_init : sh_MO m_Law_init 0 := ⟨⟨by decide +kernel, by decide +kernel, by decide +kernel⟩, tb_in tb_1 (List.mem_of_getElem? (i := 204) (by decide +kernel)) rfl, by decide, tb_in tb_1 (List.mem_of_getElem? (i := 10) (by decide +kernel)) rfl⟩
theorem im_Law_init : Cond.instanceMethod m_Law_init.1 ∈ lw_g := tb_in tb_1 (List.mem_of_getElem? (i := 203) (by decide +kernel)) rfl
theorem mo_Mark_init : sh_MO m_Mark_init 0 := ⟨⟨by decide +kernel, by decide +kernel, by decide +kernel⟩, tb_in tb_2 (List.mem_of_getElem? (i := 69) (by decide +kernel)) rfl, by decide, tb_in tb_1 (List.mem_of_getElem? (i := 12) (by decide +kernel)) rfl⟩
theorem im_Mark_init : Cond.instanceMethod m_Mark_init.1 ∈ lw_g := tb_in tb_2 (List.mem_of_getElem? (i := 68) (by decide +kernel)) rfl
theorem mo_Past_init : sh_MO m_Past_init 0 := ⟨⟨by decide +kernel, by decide +kernel, by decide +kernel⟩, tb_in tb_1 (List.mem_of_getElem? (i := 110) (by decide +kernel)) rfl, by decide, tb_in tb_1 (List.mem_of_getElem? (i := 5) (by decide +kernel)) rfl⟩
theorem im_Past_init : Cond.instanceMethod m_Past_init.1 ∈ lw_g := tb_in tb_1 (List.mem_of_getElem? (i := 109) (by decide +kernel)) rfl
theorem mo_Read_init : sh_MO m_Read_init 1 := ⟨⟨by decide +kernel, by decide +kernel, by decide +kernel⟩, tb_in tb_1 (List.mem_of_getElem? (i := 80) (by decide +kernel)) rfl, by decide, tb_in tb_1 (List.mem_of_getElem? (i := 3) (by decide +kernel)) rfl⟩
theorem im_Read_init : Cond.instanceMethod m_Read_init.1 ∈ lw_g := tb_in tb_1 (List.mem_of_getElem? (i := 79) (by decide +kernel)) rfl
theorem mo_Seen_init : sh_MO m_Seen_init 0 := ⟨⟨by decide +kernel, by decide +kernel, by decide +kernel⟩, tb_in tb_1 (List.mem_of_getElem? (i := 127) (by decide +kernel)) rfl, by decide, tb_in tb_1 (List.mem_of_getElem? (i := 6) (by decide +kernel)) rfl⟩
theorem im_Seen_init : Cond.instanceMethod m_Seen_init.1 ∈ lw_g := tb_in tb_1 (List.mem_of_getElem? (i := 126) (by decide +kernel)) rfl
theorem mo_Spr_init : sh_MO m_Spr_init 0 := ⟨⟨by decide +kernel, by decide +kernel, by decide +kernel⟩, tb_in tb_1 (List.mem_of_getElem? (i := 166) (by decide +kernel)) rfl, by decide, tb_in tb_1 (List.mem_of_getElem? (i := 8) (by decide +kernel)) rfl⟩
theorem im_Spr_init : Cond.instanceMethod m_Spr_init.1 ∈ lw_g := tb_in tb_1 (List.mem_of_getElem? (i := 165) (by decide +kernel)) rfl
theorem mo_State_init : sh_MO m_State_init 0 := ⟨⟨by decide +kernel, by decide +kernel, by decide +kernel⟩, tb_in tb_1 (List.mem_of_getElem? (i := 96) (by decide +kernel)) rfl, by decide, tb_in tb_1 (List.mem_of_getElem? (i := 4) (by decide +kernel)) rfl⟩
theorem im_State_init : Cond.instanceMethod m_State_init.1 ∈ lw_g := tb_in tb_1 (List.mem_of_getElem? (i := 95) (by decide +kernel)) rfl
theorem mo_Tape_init : sh_MO m_Tape_init 0 := ⟨⟨by decide +kernel, by decide +kernel, by decide +kernel⟩, tb_in tb_1 (List.mem_of_getElem? (i := 38) (by decide +kernel)) rfl, by decide, tb_in tb_1 (List.mem_of_getElem? (i := 2) (by decide +kernel)) rfl⟩
theorem im_Tape_init : Cond.instanceMethod m_Tape_init.1 ∈ lw_g := tb_in tb_1 (List.mem_of_getElem? (i := 37) (by decide +kernel)) rfl
theorem mo_Year_init : sh_MO m_Year_init 0 := ⟨⟨by decide +kernel, by decide +kernel, by decide +kernel⟩, tb_in tb_2 (List.mem_of_getElem? (i := 48) (by decide +kernel)) rfl, by decide, tb_in tb_1 (List.mem_of_getElem? (i := 11) (by decide +kernel)) rfl⟩
theorem im_Year_init : Cond.instanceMethod m_Year_init.1 ∈ lw_g := tb_in tb_2 (List.mem_of_getElem? (i := 47) (by decide +kernel)) rfl
theorem mo_Sto_init : sh_MO m_Sto_init 0 := ⟨⟨by decide +kernel, by decide +kernel, by decide +kernel⟩, tb_in tb_1 (List.mem_of_getElem? (i := 30) (by decide +kernel)) rfl, by decide, tb_in tb_1 (List.mem_of_getElem? (i := 1) (by decide +kernel)) rfl⟩
theorem im_Sto_init : Cond.instanceMethod m_Sto_init.1 ∈ lw_g := tb_in tb_1 (List.mem_of_getElem? (i := 29) (by decide +kernel)) rfl
theorem mo_Mod_init : sh_MO m_Mod_init 0 := ⟨⟨by decide +kernel, by decide +kernel, by decide +kernel⟩, tb_in tb_5 (List.mem_of_getElem? (i := 162) (by decide +kernel)) rfl, by decide, tb_in tb_1 (List.mem_of_getElem? (i := 13) (by decide +kernel)) rfl⟩
theorem im_Mod_init : Cond.instanceMethod m_Mod_init.1 ∈ lw_g := tb_in tb_5 (List.mem_of_getElem? (i := 161) (by decide +kernel)) rfl
theorem oi_obj : Cond.instanceMethod Lib.objectInit ∈ lw_g := tb_in tb_1 (List.mem_of_getElem? (i := 32) (by decide +kernel)) rfl
theorem oc_obj : Cond.code Lib.objectInit ⟨#[0xb1]⟩ 1 none ∈ lw_g := tb_in tb_1 (List.mem_of_getElem? (i := 33) (by decide +kernel)) rfl
theorem ol_Sto : Cond.methodLink "StolenHolidays" 1 Lib.objectInit ∈ lw_g := tb_in tb_1 (List.mem_of_getElem? (i := 31) (by decide +kernel)) rfl
theorem ml_Sto_18 : Cond.methodLink "StolenHolidays" 18 m_Read_init.1 ∈ lw_g := tb_in tb_1 (List.mem_of_getElem? (i := 78) (by decide +kernel)) rfl
theorem ol_Alm : Cond.methodLink "StolenHolidays$Almanac" 3 Lib.objectInit ∈ lw_g := tb_in tb_1 (List.mem_of_getElem? (i := 199) (by decide +kernel)) rfl
theorem ol_Gang : Cond.methodLink "StolenHolidays$Gang" 3 Lib.objectInit ∈ lw_g := tb_in tb_1 (List.mem_of_getElem? (i := 149) (by decide +kernel)) rfl
theorem ol_Law : Cond.methodLink "StolenHolidays$Law" 3 Lib.objectInit ∈ lw_g := tb_in tb_1 (List.mem_of_getElem? (i := 205) (by decide +kernel)) rfl
theorem ol_Mark : Cond.methodLink "StolenHolidays$Mark" 1 Lib.objectInit ∈ lw_g := tb_in tb_2 (List.mem_of_getElem? (i := 70) (by decide +kernel)) rfl
theorem ol_Past : Cond.methodLink "StolenHolidays$Past" 3 Lib.objectInit ∈ lw_g := tb_in tb_1 (List.mem_of_getElem? (i := 111) (by decide +kernel)) rfl
theorem ol_Read : Cond.methodLink "StolenHolidays$Reader" 3 Lib.objectInit ∈ lw_g := tb_in tb_1 (List.mem_of_getElem? (i := 81) (by decide +kernel)) rfl
theorem ol_Seen : Cond.methodLink "StolenHolidays$Seen" 3 Lib.objectInit ∈ lw_g := tb_in tb_1 (List.mem_of_getElem? (i := 128) (by decide +kernel)) rfl
theorem ol_Spr : Cond.methodLink "StolenHolidays$Spree" 3 Lib.objectInit ∈ lw_g := tb_in tb_1 (List.mem_of_getElem? (i := 167) (by decide +kernel)) rfl
theorem ol_State : Cond.methodLink "StolenHolidays$State" 5 Lib.objectInit ∈ lw_g := tb_in tb_1 (List.mem_of_getElem? (i := 97) (by decide +kernel)) rfl
theorem ol_Tape : Cond.methodLink "StolenHolidays$Tape" 3 Lib.objectInit ∈ lw_g := tb_in tb_1 (List.mem_of_getElem? (i := 39) (by decide +kernel)) rfl
theorem ol_Year : Cond.methodLink "StolenHolidays$Year" 3 Lib.objectInit ∈ lw_g := tb_in tb_2 (List.mem_of_getElem? (i := 49) (by decide +kernel)) rfl
theorem ml_Lw_15 : Cond.methodLink "StolenHolidaysLaw" 15 m_Sto_init.1 ∈ lw_g := tb_in tb_1 (List.mem_of_getElem? (i := 28) (by decide +kernel)) rfl
theorem ml_Lw_18 : Cond.methodLink "StolenHolidaysLaw" 18 m_Mod_init.1 ∈ lw_g := tb_in tb_5 (List.mem_of_getElem? (i := 160) (by decide +kernel)) rfl
theorem ol_Mod : Cond.methodLink "StolenHolidaysModel" 1 Lib.objectInit ∈ lw_g := tb_in tb_5 (List.mem_of_getElem? (i := 163) (by decide +kernel)) rfl
theorem cl_Sto_7 : Cond.classLink "StolenHolidays" 7 "StolenHolidays$Tape" ∈ lw_g := tb_in tb_1 (List.mem_of_getElem? (i := 34) (by decide +kernel)) rfl
theorem cl_Sto_16 : Cond.classLink "StolenHolidays" 16 "StolenHolidays$Reader" ∈ lw_g := tb_in tb_1 (List.mem_of_getElem? (i := 76) (by decide +kernel)) rfl
theorem cl_Sto_25 : Cond.classLink "StolenHolidays" 25 "StolenHolidays$State" ∈ lw_g := tb_in tb_1 (List.mem_of_getElem? (i := 92) (by decide +kernel)) rfl
theorem cl_Sto_35 : Cond.classLink "StolenHolidays" 35 "StolenHolidays$Past" ∈ lw_g := tb_in tb_1 (List.mem_of_getElem? (i := 106) (by decide +kernel)) rfl
theorem cl_Sto_42 : Cond.classLink "StolenHolidays" 42 "StolenHolidays$Seen" ∈ lw_g := tb_in tb_1 (List.mem_of_getElem? (i := 123) (by decide +kernel)) rfl
theorem cl_Sto_49 : Cond.classLink "StolenHolidays" 49 "StolenHolidays$Gang" ∈ lw_g := tb_in tb_1 (List.mem_of_getElem? (i := 144) (by decide +kernel)) rfl
theorem cl_Sto_56 : Cond.classLink "StolenHolidays" 56 "StolenHolidays$Spree" ∈ lw_g := tb_in tb_1 (List.mem_of_getElem? (i := 162) (by decide +kernel)) rfl
theorem cl_Sto_63 : Cond.classLink "StolenHolidays" 63 "StolenHolidays$Mark" ∈ lw_g := tb_in tb_1 (List.mem_of_getElem? (i := 192) (by decide +kernel)) rfl
theorem cl_Sto_69 : Cond.classLink "StolenHolidays" 69 "StolenHolidays$Almanac" ∈ lw_g := tb_in tb_1 (List.mem_of_getElem? (i := 194) (by decide +kernel)) rfl
theorem cl_Sto_79 : Cond.classLink "StolenHolidays" 79 "StolenHolidays$Year" ∈ lw_g := tb_in tb_2 (List.mem_of_getElem? (i := 44) (by decide +kernel)) rfl
theorem cl_Alm_34 : Cond.classLink "StolenHolidays$Almanac" 34 "StolenHolidays$Law" ∈ lw_g := tb_in tb_1 (List.mem_of_getElem? (i := 200) (by decide +kernel)) rfl
theorem cl_Mark_7 : Cond.classLink "StolenHolidays$Mark" 7 "StolenHolidays$State" ∈ lw_g := tb_in tb_2 (List.mem_of_getElem? (i := 71) (by decide +kernel)) rfl
theorem cl_Mark_16 : Cond.classLink "StolenHolidays$Mark" 16 "StolenHolidays$Year" ∈ lw_g := tb_in tb_2 (List.mem_of_getElem? (i := 73) (by decide +kernel)) rfl
theorem cl_Mark_23 : Cond.classLink "StolenHolidays$Mark" 23 "StolenHolidays$Seen" ∈ lw_g := tb_in tb_2 (List.mem_of_getElem? (i := 75) (by decide +kernel)) rfl
theorem cl_Lw_8 : Cond.classLink "StolenHolidaysLaw" 8 "StolenHolidays" ∈ lw_g := tb_in tb_1 (List.mem_of_getElem? (i := 26) (by decide +kernel)) rfl
theorem cl_Lw_16 : Cond.classLink "StolenHolidaysLaw" 16 "StolenHolidaysModel" ∈ lw_g := tb_in tb_5 (List.mem_of_getElem? (i := 158) (by decide +kernel)) rfl
theorem it_Alm : Cond.instantiable "StolenHolidays$Almanac" 11 ∈ lw_g := tb_in tb_1 (List.mem_of_getElem? (i := 195) (by decide +kernel)) rfl
theorem in_Alm : Cond.initialized "StolenHolidays$Almanac" ∈ lw_g := tb_in tb_1 (List.mem_of_getElem? (i := 9) (by decide +kernel)) rfl
theorem it_Gang : Cond.instantiable "StolenHolidays$Gang" 3 ∈ lw_g := tb_in tb_1 (List.mem_of_getElem? (i := 145) (by decide +kernel)) rfl
theorem in_Gang : Cond.initialized "StolenHolidays$Gang" ∈ lw_g := tb_in tb_1 (List.mem_of_getElem? (i := 7) (by decide +kernel)) rfl
theorem it_Law : Cond.instantiable "StolenHolidays$Law" 3 ∈ lw_g := tb_in tb_1 (List.mem_of_getElem? (i := 201) (by decide +kernel)) rfl
theorem in_Law : Cond.initialized "StolenHolidays$Law" ∈ lw_g := tb_in tb_1 (List.mem_of_getElem? (i := 10) (by decide +kernel)) rfl
theorem it_Mark : Cond.instantiable "StolenHolidays$Mark" 4 ∈ lw_g := tb_in tb_2 (List.mem_of_getElem? (i := 66) (by decide +kernel)) rfl
theorem in_Mark : Cond.initialized "StolenHolidays$Mark" ∈ lw_g := tb_in tb_1 (List.mem_of_getElem? (i := 12) (by decide +kernel)) rfl
theorem it_Past : Cond.instantiable "StolenHolidays$Past" 3 ∈ lw_g := tb_in tb_1 (List.mem_of_getElem? (i := 107) (by decide +kernel)) rfl
theorem in_Past : Cond.initialized "StolenHolidays$Past" ∈ lw_g := tb_in tb_1 (List.mem_of_getElem? (i := 5) (by decide +kernel)) rfl
theorem it_Read : Cond.instantiable "StolenHolidays$Reader" 3 ∈ lw_g := tb_in tb_1 (List.mem_of_getElem? (i := 77) (by decide +kernel)) rfl
theorem in_Read : Cond.initialized "StolenHolidays$Reader" ∈ lw_g := tb_in tb_1 (List.mem_of_getElem? (i := 3) (by decide +kernel)) rfl
theorem it_Seen : Cond.instantiable "StolenHolidays$Seen" 4 ∈ lw_g := tb_in tb_1 (List.mem_of_getElem? (i := 124) (by decide +kernel)) rfl
theorem in_Seen : Cond.initialized "StolenHolidays$Seen" ∈ lw_g := tb_in tb_1 (List.mem_of_getElem? (i := 6) (by decide +kernel)) rfl
theorem it_Spr : Cond.instantiable "StolenHolidays$Spree" 7 ∈ lw_g := tb_in tb_1 (List.mem_of_getElem? (i := 163) (by decide +kernel)) rfl
theorem in_Spr : Cond.initialized "StolenHolidays$Spree" ∈ lw_g := tb_in tb_1 (List.mem_of_getElem? (i := 8) (by decide +kernel)) rfl
theorem it_State : Cond.instantiable "StolenHolidays$State" 1 ∈ lw_g := tb_in tb_1 (List.mem_of_getElem? (i := 93) (by decide +kernel)) rfl
theorem in_State : Cond.initialized "StolenHolidays$State" ∈ lw_g := tb_in tb_1 (List.mem_of_getElem? (i := 4) (by decide +kernel)) rfl
theorem it_Tape : Cond.instantiable "StolenHolidays$Tape" 9 ∈ lw_g := tb_in tb_1 (List.mem_of_getElem? (i := 35) (by decide +kernel)) rfl
theorem in_Tape : Cond.initialized "StolenHolidays$Tape" ∈ lw_g := tb_in tb_1 (List.mem_of_getElem? (i := 2) (by decide +kernel)) rfl
theorem it_Year : Cond.instantiable "StolenHolidays$Year" 4 ∈ lw_g := tb_in tb_2 (List.mem_of_getElem? (i := 45) (by decide +kernel)) rfl
theorem in_Year : Cond.initialized "StolenHolidays$Year" ∈ lw_g := tb_in tb_1 (List.mem_of_getElem? (i := 11) (by decide +kernel)) rfl
theorem it_Sto : Cond.instantiable "StolenHolidays" 13 ∈ lw_g := tb_in tb_1 (List.mem_of_getElem? (i := 27) (by decide +kernel)) rfl
theorem in_Sto : Cond.initialized "StolenHolidays" ∈ lw_g := tb_in tb_1 (List.mem_of_getElem? (i := 1) (by decide +kernel)) rfl
theorem it_Mod : Cond.instantiable "StolenHolidaysModel" 59 ∈ lw_g := tb_in tb_5 (List.mem_of_getElem? (i := 159) (by decide +kernel)) rfl
theorem in_Mod : Cond.initialized "StolenHolidaysModel" ∈ lw_g := tb_in tb_1 (List.mem_of_getElem? (i := 13) (by decide +kernel)) rfl
theorem ac_int : Cond.arrayClass (newarray.typeOf .int) ∈ lw_g := tb_in tb_1 (List.mem_of_getElem? (i := 105) (by decide +kernel)) rfl
theorem ac_long : Cond.arrayClass (newarray.typeOf .long) ∈ lw_g := tb_in tb_1 (List.mem_of_getElem? (i := 216) (by decide +kernel)) rfl
theorem ac_boolean : Cond.arrayClass (newarray.typeOf .boolean) ∈ lw_g := tb_in tb_1 (List.mem_of_getElem? (i := 143) (by decide +kernel)) rfl
theorem ac_byte : Cond.arrayClass (newarray.typeOf .byte) ∈ lw_g := tb_in tb_1 (List.mem_of_getElem? (i := 75) (by decide +kernel)) rfl
theorem fp_Alm_9 : ck_FP "StolenHolidays$Almanac" 9 0 3 (.array .long) := ⟨_, _, _, _, cf_X0, by decide, tb_in tb_1 (List.mem_of_getElem? (i := 230) (by decide +kernel)) rfl, rfl, rfl, rfl⟩
theorem fp_Alm_15 : ck_FP "StolenHolidays$Almanac" 15 0 4 (.array .int) := ⟨_, _, _, _, cf_X0, by decide, tb_in tb_1 (List.mem_of_getElem? (i := 232) (by decide +kernel)) rfl, rfl, rfl, rfl⟩
theorem fp_Alm_19 : ck_FP "StolenHolidays$Almanac" 19 0 5 (.array .int) := ⟨_, _, _, _, cf_X0, by decide, tb_in tb_1 (List.mem_of_getElem? (i := 236) (by decide +kernel)) rfl, rfl, rfl, rfl⟩
theorem fp_Alm_22 : ck_FP "StolenHolidays$Almanac" 22 0 6 (.array .int) := ⟨_, _, _, _, cf_X0, by decide, tb_in tb_2 (List.mem_of_getElem? (i := 1) (by decide +kernel)) rfl, rfl, rfl, rfl⟩
theorem fp_Alm_25 : ck_FP "StolenHolidays$Almanac" 25 0 7 (.array .long) := ⟨_, _, _, _, cf_X0, by decide, tb_in tb_2 (List.mem_of_getElem? (i := 6) (by decide +kernel)) rfl, rfl, rfl, rfl⟩
theorem fp_Alm_28 : ck_FP "StolenHolidays$Almanac" 28 0 8 (.array .int) := ⟨_, _, _, _, cf_X0, by decide, tb_in tb_2 (List.mem_of_getElem? (i := 8) (by decide +kernel)) rfl, rfl, rfl, rfl⟩
theorem fp_Alm_31 : ck_FP "StolenHolidays$Almanac" 31 0 9 (.array .int) := ⟨_, _, _, _, cf_X0, by decide, tb_in tb_2 (List.mem_of_getElem? (i := 13) (by decide +kernel)) rfl, rfl, rfl, rfl⟩
theorem fp_Alm_37 : ck_FP "StolenHolidays$Almanac" 37 0 10 (.object "StolenHolidays$Law") := ⟨_, _, _, _, cf_X0, by decide, tb_in tb_2 (List.mem_of_getElem? (i := 18) (by decide +kernel)) rfl, rfl, rfl, rfl⟩
theorem fp_Gang_9 : ck_FP "StolenHolidays$Gang" 9 1 0 (.array .int) := ⟨_, _, _, _, cf_X1, by decide, tb_in tb_1 (List.mem_of_getElem? (i := 150) (by decide +kernel)) rfl, rfl, rfl, rfl⟩
theorem fp_Gang_15 : ck_FP "StolenHolidays$Gang" 15 1 1 (.array .int) := ⟨_, _, _, _, cf_X1, by decide, tb_in tb_1 (List.mem_of_getElem? (i := 151) (by decide +kernel)) rfl, rfl, rfl, rfl⟩
theorem fp_Law_9 : ck_FP "StolenHolidays$Law" 9 2 0 (.array .int) := ⟨_, _, _, _, cf_X2, by decide, tb_in tb_1 (List.mem_of_getElem? (i := 206) (by decide +kernel)) rfl, rfl, rfl, rfl⟩
theorem fp_Law_15 : ck_FP "StolenHolidays$Law" 15 2 1 (.array .int) := ⟨_, _, _, _, cf_X2, by decide, tb_in tb_1 (List.mem_of_getElem? (i := 207) (by decide +kernel)) rfl, rfl, rfl, rfl⟩
theorem fp_Mark_10 : ck_FP "StolenHolidays$Mark" 10 3 1 (.object "StolenHolidays$State") := ⟨_, _, _, _, cf_X3, by decide, tb_in tb_2 (List.mem_of_getElem? (i := 79) (by decide +kernel)) rfl, rfl, rfl, rfl⟩
theorem fp_Mark_19 : ck_FP "StolenHolidays$Mark" 19 3 2 (.object "StolenHolidays$Year") := ⟨_, _, _, _, cf_X3, by decide, tb_in tb_2 (List.mem_of_getElem? (i := 80) (by decide +kernel)) rfl, rfl, rfl, rfl⟩
theorem fp_Mark_26 : ck_FP "StolenHolidays$Mark" 26 3 3 (.object "StolenHolidays$Seen") := ⟨_, _, _, _, cf_X3, by decide, tb_in tb_2 (List.mem_of_getElem? (i := 81) (by decide +kernel)) rfl, rfl, rfl, rfl⟩
theorem fp_Past_11 : ck_FP "StolenHolidays$Past" 11 4 0 (.array .int) := ⟨_, _, _, _, cf_X4, by decide, tb_in tb_1 (List.mem_of_getElem? (i := 112) (by decide +kernel)) rfl, rfl, rfl, rfl⟩
theorem fp_Read_9 : ck_FP "StolenHolidays$Reader" 9 5 0 (.object "StolenHolidays$Tape") := ⟨_, _, _, _, cf_X5, by decide, tb_in tb_1 (List.mem_of_getElem? (i := 82) (by decide +kernel)) rfl, rfl, rfl, rfl⟩
theorem fp_Seen_9 : ck_FP "StolenHolidays$Seen" 9 6 1 (.array .int) := ⟨_, _, _, _, cf_X6, by decide, tb_in tb_1 (List.mem_of_getElem? (i := 131) (by decide +kernel)) rfl, rfl, rfl, rfl⟩
theorem fp_Seen_15 : ck_FP "StolenHolidays$Seen" 15 6 2 (.array .int) := ⟨_, _, _, _, cf_X6, by decide, tb_in tb_1 (List.mem_of_getElem? (i := 132) (by decide +kernel)) rfl, rfl, rfl, rfl⟩
theorem fp_Seen_18 : ck_FP "StolenHolidays$Seen" 18 6 3 (.array .boolean) := ⟨_, _, _, _, cf_X6, by decide, tb_in tb_1 (List.mem_of_getElem? (i := 133) (by decide +kernel)) rfl, rfl, rfl, rfl⟩
theorem fp_Spr_9 : ck_FP "StolenHolidays$Spree" 9 7 0 (.array .int) := ⟨_, _, _, _, cf_X7, by decide, tb_in tb_1 (List.mem_of_getElem? (i := 168) (by decide +kernel)) rfl, rfl, rfl, rfl⟩
theorem fp_Spr_15 : ck_FP "StolenHolidays$Spree" 15 7 1 (.array .int) := ⟨_, _, _, _, cf_X7, by decide, tb_in tb_1 (List.mem_of_getElem? (i := 169) (by decide +kernel)) rfl, rfl, rfl, rfl⟩
theorem fp_State_11 : ck_FP "StolenHolidays$State" 11 8 0 (.array .int) := ⟨_, _, _, _, cf_X8, by decide, tb_in tb_1 (List.mem_of_getElem? (i := 98) (by decide +kernel)) rfl, rfl, rfl, rfl⟩
theorem fp_Tape_9 : ck_FP "StolenHolidays$Tape" 9 9 0 (.array .byte) := ⟨_, _, _, _, cf_X9, by decide, tb_in tb_1 (List.mem_of_getElem? (i := 40) (by decide +kernel)) rfl, rfl, rfl, rfl⟩
theorem fp_Year_9 : ck_FP "StolenHolidays$Year" 9 10 1 (.array .int) := ⟨_, _, _, _, cf_X10, by decide, tb_in tb_2 (List.mem_of_getElem? (i := 53) (by decide +kernel)) rfl, rfl, rfl, rfl⟩
theorem fp_Year_15 : ck_FP "StolenHolidays$Year" 15 10 2 (.array .int) := ⟨_, _, _, _, cf_X10, by decide, tb_in tb_2 (List.mem_of_getElem? (i := 55) (by decide +kernel)) rfl, rfl, rfl, rfl⟩
theorem fp_Year_18 : ck_FP "StolenHolidays$Year" 18 10 3 (.array .int) := ⟨_, _, _, _, cf_X10, by decide, tb_in tb_2 (List.mem_of_getElem? (i := 56) (by decide +kernel)) rfl, rfl, rfl, rfl⟩
theorem fp_Sto_10 : ck_FP "StolenHolidays" 10 11 0 (.object "StolenHolidays$Tape") := ⟨_, _, _, _, cf_X11, by decide, tb_in tb_2 (List.mem_of_getElem? (i := 91) (by decide +kernel)) rfl, rfl, rfl, rfl⟩
theorem fp_Sto_21 : ck_FP "StolenHolidays" 21 11 1 (.object "StolenHolidays$Reader") := ⟨_, _, _, _, cf_X11, by decide, tb_in tb_2 (List.mem_of_getElem? (i := 92) (by decide +kernel)) rfl, rfl, rfl, rfl⟩
theorem fp_Sto_28 : ck_FP "StolenHolidays" 28 11 2 (.object "StolenHolidays$State") := ⟨_, _, _, _, cf_X11, by decide, tb_in tb_2 (List.mem_of_getElem? (i := 93) (by decide +kernel)) rfl, rfl, rfl, rfl⟩
theorem fp_Sto_32 : ck_FP "StolenHolidays" 32 11 3 (.object "StolenHolidays$State") := ⟨_, _, _, _, cf_X11, by decide, tb_in tb_2 (List.mem_of_getElem? (i := 94) (by decide +kernel)) rfl, rfl, rfl, rfl⟩
theorem fp_Sto_38 : ck_FP "StolenHolidays" 38 11 4 (.object "StolenHolidays$Past") := ⟨_, _, _, _, cf_X11, by decide, tb_in tb_2 (List.mem_of_getElem? (i := 95) (by decide +kernel)) rfl, rfl, rfl, rfl⟩
theorem fp_Sto_45 : ck_FP "StolenHolidays" 45 11 5 (.object "StolenHolidays$Seen") := ⟨_, _, _, _, cf_X11, by decide, tb_in tb_2 (List.mem_of_getElem? (i := 96) (by decide +kernel)) rfl, rfl, rfl, rfl⟩
theorem fp_Sto_52 : ck_FP "StolenHolidays" 52 11 6 (.object "StolenHolidays$Gang") := ⟨_, _, _, _, cf_X11, by decide, tb_in tb_2 (List.mem_of_getElem? (i := 97) (by decide +kernel)) rfl, rfl, rfl, rfl⟩
theorem fp_Sto_59 : ck_FP "StolenHolidays" 59 11 7 (.object "StolenHolidays$Spree") := ⟨_, _, _, _, cf_X11, by decide, tb_in tb_2 (List.mem_of_getElem? (i := 98) (by decide +kernel)) rfl, rfl, rfl, rfl⟩
theorem fp_Sto_65 : ck_FP "StolenHolidays" 65 11 8 (.array (.object "StolenHolidays$Mark")) := ⟨_, _, _, _, cf_X11, by decide, tb_in tb_2 (List.mem_of_getElem? (i := 99) (by decide +kernel)) rfl, rfl, rfl, rfl⟩
theorem fp_Mod_7 : ck_FP "StolenHolidaysModel" 7 12 2 (.array .int) := ⟨_, _, _, _, cf_X12, by decide, tb_in tb_5 (List.mem_of_getElem? (i := 170) (by decide +kernel)) rfl, rfl, rfl, rfl⟩
theorem fp_Mod_13 : ck_FP "StolenHolidaysModel" 13 12 10 (.array .int) := ⟨_, _, _, _, cf_X12, by decide, tb_in tb_5 (List.mem_of_getElem? (i := 178) (by decide +kernel)) rfl, rfl, rfl, rfl⟩
theorem fp_Mod_16 : ck_FP "StolenHolidaysModel" 16 12 11 (.array .long) := ⟨_, _, _, _, cf_X12, by decide, tb_in tb_5 (List.mem_of_getElem? (i := 179) (by decide +kernel)) rfl, rfl, rfl, rfl⟩
theorem fp_Mod_20 : ck_FP "StolenHolidaysModel" 20 12 12 (.array .long) := ⟨_, _, _, _, cf_X12, by decide, tb_in tb_5 (List.mem_of_getElem? (i := 180) (by decide +kernel)) rfl, rfl, rfl, rfl⟩
theorem fp_Mod_23 : ck_FP "StolenHolidaysModel" 23 12 13 (.array .int) := ⟨_, _, _, _, cf_X12, by decide, tb_in tb_5 (List.mem_of_getElem? (i := 181) (by decide +kernel)) rfl, rfl, rfl, rfl⟩
theorem fp_Mod_26 : ck_FP "StolenHolidaysModel" 26 12 14 (.array .int) := ⟨_, _, _, _, cf_X12, by decide, tb_in tb_5 (List.mem_of_getElem? (i := 182) (by decide +kernel)) rfl, rfl, rfl, rfl⟩
theorem fp_Mod_29 : ck_FP "StolenHolidaysModel" 29 12 15 (.array .int) := ⟨_, _, _, _, cf_X12, by decide, tb_in tb_5 (List.mem_of_getElem? (i := 183) (by decide +kernel)) rfl, rfl, rfl, rfl⟩
theorem fp_Mod_32 : ck_FP "StolenHolidaysModel" 32 12 16 (.array .int) := ⟨_, _, _, _, cf_X12, by decide, tb_in tb_5 (List.mem_of_getElem? (i := 184) (by decide +kernel)) rfl, rfl, rfl, rfl⟩
theorem fp_Mod_35 : ck_FP "StolenHolidaysModel" 35 12 17 (.array .int) := ⟨_, _, _, _, cf_X12, by decide, tb_in tb_5 (List.mem_of_getElem? (i := 185) (by decide +kernel)) rfl, rfl, rfl, rfl⟩
theorem fp_Mod_38 : ck_FP "StolenHolidaysModel" 38 12 18 (.array .int) := ⟨_, _, _, _, cf_X12, by decide, tb_in tb_5 (List.mem_of_getElem? (i := 186) (by decide +kernel)) rfl, rfl, rfl, rfl⟩
theorem fp_Mod_41 : ck_FP "StolenHolidaysModel" 41 12 19 (.array .int) := ⟨_, _, _, _, cf_X12, by decide, tb_in tb_5 (List.mem_of_getElem? (i := 187) (by decide +kernel)) rfl, rfl, rfl, rfl⟩
theorem fp_Mod_44 : ck_FP "StolenHolidaysModel" 44 12 20 (.array .int) := ⟨_, _, _, _, cf_X12, by decide, tb_in tb_5 (List.mem_of_getElem? (i := 188) (by decide +kernel)) rfl, rfl, rfl, rfl⟩
theorem fp_Mod_47 : ck_FP "StolenHolidaysModel" 47 12 22 (.array .int) := ⟨_, _, _, _, cf_X12, by decide, tb_in tb_5 (List.mem_of_getElem? (i := 190) (by decide +kernel)) rfl, rfl, rfl, rfl⟩
theorem fp_Mod_50 : ck_FP "StolenHolidaysModel" 50 12 23 (.array .boolean) := ⟨_, _, _, _, cf_X12, by decide, tb_in tb_5 (List.mem_of_getElem? (i := 191) (by decide +kernel)) rfl, rfl, rfl, rfl⟩
theorem fp_Mod_54 : ck_FP "StolenHolidaysModel" 54 12 24 (.array .int) := ⟨_, _, _, _, cf_X12, by decide, tb_in tb_5 (List.mem_of_getElem? (i := 192) (by decide +kernel)) rfl, rfl, rfl, rfl⟩
theorem fp_Mod_57 : ck_FP "StolenHolidaysModel" 57 12 25 (.array .int) := ⟨_, _, _, _, cf_X12, by decide, tb_in tb_5 (List.mem_of_getElem? (i := 193) (by decide +kernel)) rfl, rfl, rfl, rfl⟩
theorem fp_Mod_60 : ck_FP "StolenHolidaysModel" 60 12 26 (.array .int) := ⟨_, _, _, _, cf_X12, by decide, tb_in tb_5 (List.mem_of_getElem? (i := 194) (by decide +kernel)) rfl, rfl, rfl, rfl⟩
theorem fp_Mod_63 : ck_FP "StolenHolidaysModel" 63 12 27 (.array .int) := ⟨_, _, _, _, cf_X12, by decide, tb_in tb_5 (List.mem_of_getElem? (i := 195) (by decide +kernel)) rfl, rfl, rfl, rfl⟩
theorem fp_Mod_66 : ck_FP "StolenHolidaysModel" 66 12 28 (.array .int) := ⟨_, _, _, _, cf_X12, by decide, tb_in tb_5 (List.mem_of_getElem? (i := 196) (by decide +kernel)) rfl, rfl, rfl, rfl⟩
theorem fp_Mod_69 : ck_FP "StolenHolidaysModel" 69 12 29 (.array .int) := ⟨_, _, _, _, cf_X12, by decide, tb_in tb_5 (List.mem_of_getElem? (i := 197) (by decide +kernel)) rfl, rfl, rfl, rfl⟩
theorem fp_Mod_72 : ck_FP "StolenHolidaysModel" 72 12 30 (.array .int) := ⟨_, _, _, _, cf_X12, by decide, tb_in tb_5 (List.mem_of_getElem? (i := 198) (by decide +kernel)) rfl, rfl, rfl, rfl⟩
theorem fp_Mod_75 : ck_FP "StolenHolidaysModel" 75 12 31 (.array .int) := ⟨_, _, _, _, cf_X12, by decide, tb_in tb_5 (List.mem_of_getElem? (i := 199) (by decide +kernel)) rfl, rfl, rfl, rfl⟩
theorem fp_Mod_78 : ck_FP "StolenHolidaysModel" 78 12 32 (.array .int) := ⟨_, _, _, _, cf_X12, by decide, tb_in tb_5 (List.mem_of_getElem? (i := 200) (by decide +kernel)) rfl, rfl, rfl, rfl⟩
theorem fp_Mod_81 : ck_FP "StolenHolidaysModel" 81 12 33 (.array .int) := ⟨_, _, _, _, cf_X12, by decide, tb_in tb_5 (List.mem_of_getElem? (i := 201) (by decide +kernel)) rfl, rfl, rfl, rfl⟩
theorem fp_Mod_84 : ck_FP "StolenHolidaysModel" 84 12 36 (.array .int) := ⟨_, _, _, _, cf_X12, by decide, tb_in tb_5 (List.mem_of_getElem? (i := 204) (by decide +kernel)) rfl, rfl, rfl, rfl⟩
theorem fp_Mod_87 : ck_FP "StolenHolidaysModel" 87 12 37 (.array .int) := ⟨_, _, _, _, cf_X12, by decide, tb_in tb_5 (List.mem_of_getElem? (i := 205) (by decide +kernel)) rfl, rfl, rfl, rfl⟩
theorem fp_Mod_90 : ck_FP "StolenHolidaysModel" 90 12 38 (.array .int) := ⟨_, _, _, _, cf_X12, by decide, tb_in tb_5 (List.mem_of_getElem? (i := 206) (by decide +kernel)) rfl, rfl, rfl, rfl⟩
theorem fp_Mod_93 : ck_FP "StolenHolidaysModel" 93 12 39 (.array .int) := ⟨_, _, _, _, cf_X12, by decide, tb_in tb_5 (List.mem_of_getElem? (i := 207) (by decide +kernel)) rfl, rfl, rfl, rfl⟩
theorem fp_Mod_96 : ck_FP "StolenHolidaysModel" 96 12 40 (.array .int) := ⟨_, _, _, _, cf_X12, by decide, tb_in tb_5 (List.mem_of_getElem? (i := 208) (by decide +kernel)) rfl, rfl, rfl, rfl⟩
theorem fp_Mod_99 : ck_FP "StolenHolidaysModel" 99 12 41 (.array .int) := ⟨_, _, _, _, cf_X12, by decide, tb_in tb_5 (List.mem_of_getElem? (i := 209) (by decide +kernel)) rfl, rfl, rfl, rfl⟩
theorem fp_Mod_102 : ck_FP "StolenHolidaysModel" 102 12 42 (.array .int) := ⟨_, _, _, _, cf_X12, by decide, tb_in tb_5 (List.mem_of_getElem? (i := 210) (by decide +kernel)) rfl, rfl, rfl, rfl⟩
theorem fp_Mod_105 : ck_FP "StolenHolidaysModel" 105 12 43 (.array .boolean) := ⟨_, _, _, _, cf_X12, by decide, tb_in tb_5 (List.mem_of_getElem? (i := 211) (by decide +kernel)) rfl, rfl, rfl, rfl⟩
theorem fp_Mod_108 : ck_FP "StolenHolidaysModel" 108 12 44 (.array .int) := ⟨_, _, _, _, cf_X12, by decide, tb_in tb_5 (List.mem_of_getElem? (i := 212) (by decide +kernel)) rfl, rfl, rfl, rfl⟩
theorem fp_Mod_111 : ck_FP "StolenHolidaysModel" 111 12 45 (.array .int) := ⟨_, _, _, _, cf_X12, by decide, tb_in tb_5 (List.mem_of_getElem? (i := 213) (by decide +kernel)) rfl, rfl, rfl, rfl⟩
theorem fp_Mod_114 : ck_FP "StolenHolidaysModel" 114 12 46 (.array .int) := ⟨_, _, _, _, cf_X12, by decide, tb_in tb_5 (List.mem_of_getElem? (i := 214) (by decide +kernel)) rfl, rfl, rfl, rfl⟩
theorem fp_Mod_117 : ck_FP "StolenHolidaysModel" 117 12 47 (.array .int) := ⟨_, _, _, _, cf_X12, by decide, tb_in tb_5 (List.mem_of_getElem? (i := 215) (by decide +kernel)) rfl, rfl, rfl, rfl⟩
theorem fp_Mod_120 : ck_FP "StolenHolidaysModel" 120 12 48 (.array .int) := ⟨_, _, _, _, cf_X12, by decide, tb_in tb_5 (List.mem_of_getElem? (i := 216) (by decide +kernel)) rfl, rfl, rfl, rfl⟩
theorem fp_Mod_123 : ck_FP "StolenHolidaysModel" 123 12 49 (.array .int) := ⟨_, _, _, _, cf_X12, by decide, tb_in tb_5 (List.mem_of_getElem? (i := 217) (by decide +kernel)) rfl, rfl, rfl, rfl⟩
theorem fp_Mod_126 : ck_FP "StolenHolidaysModel" 126 12 50 (.array .boolean) := ⟨_, _, _, _, cf_X12, by decide, tb_in tb_5 (List.mem_of_getElem? (i := 218) (by decide +kernel)) rfl, rfl, rfl, rfl⟩
theorem fp_Mod_129 : ck_FP "StolenHolidaysModel" 129 12 53 (.array .int) := ⟨_, _, _, _, cf_X12, by decide, tb_in tb_5 (List.mem_of_getElem? (i := 221) (by decide +kernel)) rfl, rfl, rfl, rfl⟩
theorem fp_Mod_132 : ck_FP "StolenHolidaysModel" 132 12 54 (.array .int) := ⟨_, _, _, _, cf_X12, by decide, tb_in tb_5 (List.mem_of_getElem? (i := 222) (by decide +kernel)) rfl, rfl, rfl, rfl⟩
theorem fp_Mod_135 : ck_FP "StolenHolidaysModel" 135 12 57 (.array .int) := ⟨_, _, _, _, cf_X12, by decide, tb_in tb_5 (List.mem_of_getElem? (i := 225) (by decide +kernel)) rfl, rfl, rfl, rfl⟩
theorem fu_fu (F : Nat → va_E) (a : Nat) (x y : va_E) : fu (fu F a x) a y = fu F a y := by
  funext b; unfold fu; split <;> rfl
