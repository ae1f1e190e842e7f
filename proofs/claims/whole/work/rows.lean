section
-- ===== PART A: goes FIRST, ahead of the names: the tables' words, and 'selects' of the private methods out of them =====
/-- a private method of a class that the tables say can be made, by its rows of tables_1 -/
def lw_okq (q : MethodName × Nat) : Prop := (q.1.cls ≠ "java/lang/invoke/MethodHandle" ∧ q.1.cls ≠ "java/lang/invoke/VarHandle") ∧ Cond.instantiable q.1.cls q.2 ∈ tables_1 ∧ Cond.privateMethod q.1 ∈ tables_1 ∧ Cond.instanceMethod q.1 ∈ tables_1
theorem lw_p0 : lw_okq (⟨"StolenHolidays$Tape", "readWord", "()V"⟩, 7) := ⟨⟨by decide +kernel, by decide +kernel⟩, List.mem_of_getElem? (i := 35) (by decide +kernel), List.mem_of_getElem? (i := 403) (by decide +kernel), List.mem_of_getElem? (i := 404) (by decide +kernel)⟩
theorem lw_p1 : lw_okq (⟨"StolenHolidays$Tape", "readNumber", "()V"⟩, 7) := ⟨⟨by decide +kernel, by decide +kernel⟩, List.mem_of_getElem? (i := 35) (by decide +kernel), List.mem_of_getElem? (i := 411) (by decide +kernel), List.mem_of_getElem? (i := 412) (by decide +kernel)⟩
theorem lw_p2 : lw_okq (⟨"StolenHolidays$Reader", "readAlmanacLine", "(LStolenHolidays$Almanac;)Z"⟩, 3) := ⟨⟨by decide +kernel, by decide +kernel⟩, List.mem_of_getElem? (i := 69) (by decide +kernel), List.mem_of_getElem? (i := 502) (by decide +kernel), List.mem_of_getElem? (i := 503) (by decide +kernel)⟩
theorem lw_p3 : lw_okq (⟨"StolenHolidays$Tape", "spells", "(Ljava/lang/String;II)Z"⟩, 7) := ⟨⟨by decide +kernel, by decide +kernel⟩, List.mem_of_getElem? (i := 35) (by decide +kernel), List.mem_of_getElem? (i := 512) (by decide +kernel), List.mem_of_getElem? (i := 513) (by decide +kernel)⟩
theorem lw_p4 : lw_okq (⟨"StolenHolidays$Reader", "readDay", "(LStolenHolidays$Almanac;)Z"⟩, 3) := ⟨⟨by decide +kernel, by decide +kernel⟩, List.mem_of_getElem? (i := 69) (by decide +kernel), List.mem_of_getElem? (i := 536) (by decide +kernel), List.mem_of_getElem? (i := 537) (by decide +kernel)⟩
theorem lw_p5 : lw_okq (⟨"StolenHolidays$Reader", "refuse", "(I)Z"⟩, 3) := ⟨⟨by decide +kernel, by decide +kernel⟩, List.mem_of_getElem? (i := 69) (by decide +kernel), List.mem_of_getElem? (i := 540) (by decide +kernel), List.mem_of_getElem? (i := 541) (by decide +kernel)⟩
theorem lw_p6 : lw_okq (⟨"StolenHolidays$Reader", "isNewName", "(LStolenHolidays$Almanac;)Z"⟩, 3) := ⟨⟨by decide +kernel, by decide +kernel⟩, List.mem_of_getElem? (i := 69) (by decide +kernel), List.mem_of_getElem? (i := 545) (by decide +kernel), List.mem_of_getElem? (i := 546) (by decide +kernel)⟩
theorem lw_p7 : lw_okq (⟨"StolenHolidays$Reader", "kindTold", "()I"⟩, 3) := ⟨⟨by decide +kernel, by decide +kernel⟩, List.mem_of_getElem? (i := 69) (by decide +kernel), List.mem_of_getElem? (i := 562) (by decide +kernel), List.mem_of_getElem? (i := 563) (by decide +kernel)⟩
theorem lw_p8 : lw_okq (⟨"StolenHolidays$Reader", "takeWord", "(Ljava/lang/String;)Z"⟩, 3) := ⟨⟨by decide +kernel, by decide +kernel⟩, List.mem_of_getElem? (i := 69) (by decide +kernel), List.mem_of_getElem? (i := 571) (by decide +kernel), List.mem_of_getElem? (i := 572) (by decide +kernel)⟩
theorem lw_p9 : lw_okq (⟨"StolenHolidays$Reader", "takeNumber", "(II)Z"⟩, 3) := ⟨⟨by decide +kernel, by decide +kernel⟩, List.mem_of_getElem? (i := 69) (by decide +kernel), List.mem_of_getElem? (i := 575) (by decide +kernel), List.mem_of_getElem? (i := 576) (by decide +kernel)⟩
theorem lw_p10 : lw_okq (⟨"StolenHolidays$Reader", "takeSign", "(I)Z"⟩, 3) := ⟨⟨by decide +kernel, by decide +kernel⟩, List.mem_of_getElem? (i := 69) (by decide +kernel), List.mem_of_getElem? (i := 583) (by decide +kernel), List.mem_of_getElem? (i := 584) (by decide +kernel)⟩
theorem lw_p11 : lw_okq (⟨"StolenHolidays$Reader", "readThief", "(LStolenHolidays$Almanac;)Z"⟩, 3) := ⟨⟨by decide +kernel, by decide +kernel⟩, List.mem_of_getElem? (i := 69) (by decide +kernel), List.mem_of_getElem? (i := 588) (by decide +kernel), List.mem_of_getElem? (i := 589) (by decide +kernel)⟩
theorem lw_p12 : lw_okq (⟨"StolenHolidays$Reader", "readPays", "(LStolenHolidays$Almanac;)Z"⟩, 3) := ⟨⟨by decide +kernel, by decide +kernel⟩, List.mem_of_getElem? (i := 69) (by decide +kernel), List.mem_of_getElem? (i := 595) (by decide +kernel), List.mem_of_getElem? (i := 596) (by decide +kernel)⟩
theorem lw_p13 : lw_okq (⟨"StolenHolidays$Reader", "readE", "(LStolenHolidays$Law;I)Z"⟩, 3) := ⟨⟨by decide +kernel, by decide +kernel⟩, List.mem_of_getElem? (i := 69) (by decide +kernel), List.mem_of_getElem? (i := 600) (by decide +kernel), List.mem_of_getElem? (i := 601) (by decide +kernel)⟩
theorem lw_p14 : lw_okq (⟨"StolenHolidays$Reader", "readTest", "(LStolenHolidays$Law;I)Z"⟩, 3) := ⟨⟨by decide +kernel, by decide +kernel⟩, List.mem_of_getElem? (i := 69) (by decide +kernel), List.mem_of_getElem? (i := 604) (by decide +kernel), List.mem_of_getElem? (i := 605) (by decide +kernel)⟩
theorem lw_p15 : lw_okq (⟨"StolenHolidays$Reader", "readSum", "(LStolenHolidays$Law;I)Z"⟩, 3) := ⟨⟨by decide +kernel, by decide +kernel⟩, List.mem_of_getElem? (i := 69) (by decide +kernel), List.mem_of_getElem? (i := 608) (by decide +kernel), List.mem_of_getElem? (i := 609) (by decide +kernel)⟩
def lw_privs_1 : List (MethodName × Nat) := [(⟨"StolenHolidays$Tape", "readWord", "()V"⟩, 7), (⟨"StolenHolidays$Tape", "readNumber", "()V"⟩, 7), (⟨"StolenHolidays$Reader", "readAlmanacLine", "(LStolenHolidays$Almanac;)Z"⟩, 3), (⟨"StolenHolidays$Tape", "spells", "(Ljava/lang/String;II)Z"⟩, 7), (⟨"StolenHolidays$Reader", "readDay", "(LStolenHolidays$Almanac;)Z"⟩, 3), (⟨"StolenHolidays$Reader", "refuse", "(I)Z"⟩, 3), (⟨"StolenHolidays$Reader", "isNewName", "(LStolenHolidays$Almanac;)Z"⟩, 3), (⟨"StolenHolidays$Reader", "kindTold", "()I"⟩, 3), (⟨"StolenHolidays$Reader", "takeWord", "(Ljava/lang/String;)Z"⟩, 3), (⟨"StolenHolidays$Reader", "takeNumber", "(II)Z"⟩, 3), (⟨"StolenHolidays$Reader", "takeSign", "(I)Z"⟩, 3), (⟨"StolenHolidays$Reader", "readThief", "(LStolenHolidays$Almanac;)Z"⟩, 3), (⟨"StolenHolidays$Reader", "readPays", "(LStolenHolidays$Almanac;)Z"⟩, 3), (⟨"StolenHolidays$Reader", "readE", "(LStolenHolidays$Law;I)Z"⟩, 3), (⟨"StolenHolidays$Reader", "readTest", "(LStolenHolidays$Law;I)Z"⟩, 3), (⟨"StolenHolidays$Reader", "readSum", "(LStolenHolidays$Law;I)Z"⟩, 3)]
theorem lw_r1 : ∀ q ∈ lw_privs_1, lw_okq q := List.forall_mem_cons.mpr ⟨lw_p0, List.forall_mem_cons.mpr ⟨lw_p1, List.forall_mem_cons.mpr ⟨lw_p2, List.forall_mem_cons.mpr ⟨lw_p3, List.forall_mem_cons.mpr ⟨lw_p4, List.forall_mem_cons.mpr ⟨lw_p5, List.forall_mem_cons.mpr ⟨lw_p6, List.forall_mem_cons.mpr ⟨lw_p7, List.forall_mem_cons.mpr ⟨lw_p8, List.forall_mem_cons.mpr ⟨lw_p9, List.forall_mem_cons.mpr ⟨lw_p10, List.forall_mem_cons.mpr ⟨lw_p11, List.forall_mem_cons.mpr ⟨lw_p12, List.forall_mem_cons.mpr ⟨lw_p13, List.forall_mem_cons.mpr ⟨lw_p14, List.forall_mem_cons.mpr ⟨lw_p15, fun _ h => absurd h List.not_mem_nil⟩⟩⟩⟩⟩⟩⟩⟩⟩⟩⟩⟩⟩⟩⟩⟩
theorem lw_p16 : lw_okq (⟨"StolenHolidays$Reader", "readProduct", "(LStolenHolidays$Law;I)Z"⟩, 3) := ⟨⟨by decide +kernel, by decide +kernel⟩, List.mem_of_getElem? (i := 69) (by decide +kernel), List.mem_of_getElem? (i := 612) (by decide +kernel), List.mem_of_getElem? (i := 613) (by decide +kernel)⟩
theorem lw_p17 : lw_okq (⟨"StolenHolidays$Reader", "readPart", "(LStolenHolidays$Law;I)Z"⟩, 3) := ⟨⟨by decide +kernel, by decide +kernel⟩, List.mem_of_getElem? (i := 69) (by decide +kernel), List.mem_of_getElem? (i := 616) (by decide +kernel), List.mem_of_getElem? (i := 617) (by decide +kernel)⟩
theorem lw_p18 : lw_okq (⟨"StolenHolidays$Reader", "factTold", "()I"⟩, 3) := ⟨⟨by decide +kernel, by decide +kernel⟩, List.mem_of_getElem? (i := 69) (by decide +kernel), List.mem_of_getElem? (i := 621) (by decide +kernel), List.mem_of_getElem? (i := 622) (by decide +kernel)⟩
theorem lw_p19 : lw_okq (⟨"StolenHolidays$Reader", "readYearLine", "(LStolenHolidays$Year;LStolenHolidays$Almanac;)Z"⟩, 3) := ⟨⟨by decide +kernel, by decide +kernel⟩, List.mem_of_getElem? (i := 69) (by decide +kernel), List.mem_of_getElem? (i := 656) (by decide +kernel), List.mem_of_getElem? (i := 657) (by decide +kernel)⟩
theorem lw_p20 : lw_okq (⟨"StolenHolidays$Reader", "doingTold", "()I"⟩, 3) := ⟨⟨by decide +kernel, by decide +kernel⟩, List.mem_of_getElem? (i := 69) (by decide +kernel), List.mem_of_getElem? (i := 660) (by decide +kernel), List.mem_of_getElem? (i := 661) (by decide +kernel)⟩
theorem lw_p21 : lw_okq (⟨"StolenHolidays$Reader", "takeThief", "(LStolenHolidays$Almanac;)Z"⟩, 3) := ⟨⟨by decide +kernel, by decide +kernel⟩, List.mem_of_getElem? (i := 69) (by decide +kernel), List.mem_of_getElem? (i := 669) (by decide +kernel), List.mem_of_getElem? (i := 670) (by decide +kernel)⟩
theorem lw_p22 : lw_okq (⟨"StolenHolidays$Reader", "takeDay", "(LStolenHolidays$Almanac;)Z"⟩, 3) := ⟨⟨by decide +kernel, by decide +kernel⟩, List.mem_of_getElem? (i := 69) (by decide +kernel), List.mem_of_getElem? (i := 673) (by decide +kernel), List.mem_of_getElem? (i := 674) (by decide +kernel)⟩
theorem lw_p23 : lw_okq (⟨"StolenHolidays$Reader", "takeOtherThief", "(LStolenHolidays$Almanac;I)Z"⟩, 3) := ⟨⟨by decide +kernel, by decide +kernel⟩, List.mem_of_getElem? (i := 69) (by decide +kernel), List.mem_of_getElem? (i := 677) (by decide +kernel), List.mem_of_getElem? (i := 678) (by decide +kernel)⟩
theorem lw_p24 : lw_okq (⟨"StolenHolidays", "isDay", "(I)Z"⟩, 13) := ⟨⟨by decide +kernel, by decide +kernel⟩, List.mem_of_getElem? (i := 27) (by decide +kernel), List.mem_of_getElem? (i := 689) (by decide +kernel), List.mem_of_getElem? (i := 690) (by decide +kernel)⟩
theorem lw_p25 : lw_okq (⟨"StolenHolidays", "isThief", "(I)Z"⟩, 13) := ⟨⟨by decide +kernel, by decide +kernel⟩, List.mem_of_getElem? (i := 27) (by decide +kernel), List.mem_of_getElem? (i := 697) (by decide +kernel), List.mem_of_getElem? (i := 698) (by decide +kernel)⟩
theorem lw_p26 : lw_okq (⟨"StolenHolidays$State", "exchange", "(II)V"⟩, 1) := ⟨⟨by decide +kernel, by decide +kernel⟩, List.mem_of_getElem? (i := 85) (by decide +kernel), List.mem_of_getElem? (i := 797) (by decide +kernel), List.mem_of_getElem? (i := 798) (by decide +kernel)⟩
theorem lw_p27 : lw_okq (⟨"StolenHolidays$State", "guiltBehind", "(II)I"⟩, 1) := ⟨⟨by decide +kernel, by decide +kernel⟩, List.mem_of_getElem? (i := 85) (by decide +kernel), List.mem_of_getElem? (i := 809) (by decide +kernel), List.mem_of_getElem? (i := 810) (by decide +kernel)⟩
theorem lw_p28 : lw_okq (⟨"StolenHolidays$State", "bitsOf", "(I)I"⟩, 1) := ⟨⟨by decide +kernel, by decide +kernel⟩, List.mem_of_getElem? (i := 85) (by decide +kernel), List.mem_of_getElem? (i := 825) (by decide +kernel), List.mem_of_getElem? (i := 826) (by decide +kernel)⟩
theorem lw_p29 : lw_okq (⟨"StolenHolidays", "firstWithMost", "(I)I"⟩, 13) := ⟨⟨by decide +kernel, by decide +kernel⟩, List.mem_of_getElem? (i := 27) (by decide +kernel), List.mem_of_getElem? (i := 879) (by decide +kernel), List.mem_of_getElem? (i := 880) (by decide +kernel)⟩
theorem lw_p30 : lw_okq (⟨"StolenHolidays$Gang", "send", "(LStolenHolidays$State;LStolenHolidays$Almanac;III)V"⟩, 3) := ⟨⟨by decide +kernel, by decide +kernel⟩, List.mem_of_getElem? (i := 137) (by decide +kernel), List.mem_of_getElem? (i := 949) (by decide +kernel), List.mem_of_getElem? (i := 950) (by decide +kernel)⟩
theorem lw_p31 : lw_okq (⟨"StolenHolidays", "mostWithout", "(I)I"⟩, 13) := ⟨⟨by decide +kernel, by decide +kernel⟩, List.mem_of_getElem? (i := 27) (by decide +kernel), List.mem_of_getElem? (i := 967) (by decide +kernel), List.mem_of_getElem? (i := 968) (by decide +kernel)⟩
def lw_privs_2 : List (MethodName × Nat) := [(⟨"StolenHolidays$Reader", "readProduct", "(LStolenHolidays$Law;I)Z"⟩, 3), (⟨"StolenHolidays$Reader", "readPart", "(LStolenHolidays$Law;I)Z"⟩, 3), (⟨"StolenHolidays$Reader", "factTold", "()I"⟩, 3), (⟨"StolenHolidays$Reader", "readYearLine", "(LStolenHolidays$Year;LStolenHolidays$Almanac;)Z"⟩, 3), (⟨"StolenHolidays$Reader", "doingTold", "()I"⟩, 3), (⟨"StolenHolidays$Reader", "takeThief", "(LStolenHolidays$Almanac;)Z"⟩, 3), (⟨"StolenHolidays$Reader", "takeDay", "(LStolenHolidays$Almanac;)Z"⟩, 3), (⟨"StolenHolidays$Reader", "takeOtherThief", "(LStolenHolidays$Almanac;I)Z"⟩, 3), (⟨"StolenHolidays", "isDay", "(I)Z"⟩, 13), (⟨"StolenHolidays", "isThief", "(I)Z"⟩, 13), (⟨"StolenHolidays$State", "exchange", "(II)V"⟩, 1), (⟨"StolenHolidays$State", "guiltBehind", "(II)I"⟩, 1), (⟨"StolenHolidays$State", "bitsOf", "(I)I"⟩, 1), (⟨"StolenHolidays", "firstWithMost", "(I)I"⟩, 13), (⟨"StolenHolidays$Gang", "send", "(LStolenHolidays$State;LStolenHolidays$Almanac;III)V"⟩, 3), (⟨"StolenHolidays", "mostWithout", "(I)I"⟩, 13)]
theorem lw_r2 : ∀ q ∈ lw_privs_2, lw_okq q := List.forall_mem_cons.mpr ⟨lw_p16, List.forall_mem_cons.mpr ⟨lw_p17, List.forall_mem_cons.mpr ⟨lw_p18, List.forall_mem_cons.mpr ⟨lw_p19, List.forall_mem_cons.mpr ⟨lw_p20, List.forall_mem_cons.mpr ⟨lw_p21, List.forall_mem_cons.mpr ⟨lw_p22, List.forall_mem_cons.mpr ⟨lw_p23, List.forall_mem_cons.mpr ⟨lw_p24, List.forall_mem_cons.mpr ⟨lw_p25, List.forall_mem_cons.mpr ⟨lw_p26, List.forall_mem_cons.mpr ⟨lw_p27, List.forall_mem_cons.mpr ⟨lw_p28, List.forall_mem_cons.mpr ⟨lw_p29, List.forall_mem_cons.mpr ⟨lw_p30, List.forall_mem_cons.mpr ⟨lw_p31, fun _ h => absurd h List.not_mem_nil⟩⟩⟩⟩⟩⟩⟩⟩⟩⟩⟩⟩⟩⟩⟩⟩
theorem lw_p32 : lw_okq (⟨"StolenHolidays$Spree", "go", "(LStolenHolidays$Almanac;IIII)V"⟩, 7) := ⟨⟨by decide +kernel, by decide +kernel⟩, List.mem_of_getElem? (i := 155) (by decide +kernel), List.mem_of_getElem? (i := 980) (by decide +kernel), List.mem_of_getElem? (i := 981) (by decide +kernel)⟩
theorem lw_p33 : lw_okq (⟨"StolenHolidays$Spree", "hope", "(LStolenHolidays$Almanac;I)I"⟩, 7) := ⟨⟨by decide +kernel, by decide +kernel⟩, List.mem_of_getElem? (i := 155) (by decide +kernel), List.mem_of_getElem? (i := 984) (by decide +kernel), List.mem_of_getElem? (i := 985) (by decide +kernel)⟩
theorem lw_p34 : lw_okq (⟨"StolenHolidays$Spree", "passNight", "(LStolenHolidays$Almanac;III)V"⟩, 7) := ⟨⟨by decide +kernel, by decide +kernel⟩, List.mem_of_getElem? (i := 155) (by decide +kernel), List.mem_of_getElem? (i := 990) (by decide +kernel), List.mem_of_getElem? (i := 991) (by decide +kernel)⟩
theorem lw_p35 : lw_okq (⟨"StolenHolidays", "openTo", "(II)I"⟩, 13) := ⟨⟨by decide +kernel, by decide +kernel⟩, List.mem_of_getElem? (i := 27) (by decide +kernel), List.mem_of_getElem? (i := 1025) (by decide +kernel), List.mem_of_getElem? (i := 1026) (by decide +kernel)⟩
theorem lw_p36 : lw_okq (⟨"StolenHolidays", "tryDrawn", "(III)I"⟩, 13) := ⟨⟨by decide +kernel, by decide +kernel⟩, List.mem_of_getElem? (i := 27) (by decide +kernel), List.mem_of_getElem? (i := 1054) (by decide +kernel), List.mem_of_getElem? (i := 1055) (by decide +kernel)⟩
theorem lw_p37 : lw_okq (⟨"StolenHolidays", "leftOfAll", "()I"⟩, 13) := ⟨⟨by decide +kernel, by decide +kernel⟩, List.mem_of_getElem? (i := 27) (by decide +kernel), List.mem_of_getElem? (i := 1088) (by decide +kernel), List.mem_of_getElem? (i := 1089) (by decide +kernel)⟩
theorem lw_p38 : lw_okq (⟨"java/lang/Throwable", "fillInStackTrace", "(I)Ljava/lang/Throwable;"⟩, 6) := ⟨⟨by decide +kernel, by decide +kernel⟩, List.mem_of_getElem? (i := 1136) (by decide +kernel), List.mem_of_getElem? (i := 1134) (by decide +kernel), List.mem_of_getElem? (i := 1135) (by decide +kernel)⟩
theorem lw_p39 : lw_okq (⟨"StolenHolidaysModel", "fresh0", "()V"⟩, 59) := ⟨⟨by decide +kernel, by decide +kernel⟩, List.mem_of_getElem? (i := 1167) (by decide +kernel), List.mem_of_getElem? (i := 1173) (by decide +kernel), List.mem_of_getElem? (i := 1174) (by decide +kernel)⟩
theorem lw_p40 : lw_okq (⟨"StolenHolidaysModel", "readsAll", "()Z"⟩, 59) := ⟨⟨by decide +kernel, by decide +kernel⟩, List.mem_of_getElem? (i := 1167) (by decide +kernel), List.mem_of_getElem? (i := 1368) (by decide +kernel), List.mem_of_getElem? (i := 1369) (by decide +kernel)⟩
theorem lw_p41 : lw_okq (⟨"StolenHolidaysModel", "begins", "()V"⟩, 59) := ⟨⟨by decide +kernel, by decide +kernel⟩, List.mem_of_getElem? (i := 1167) (by decide +kernel), List.mem_of_getElem? (i := 1372) (by decide +kernel), List.mem_of_getElem? (i := 1373) (by decide +kernel)⟩
theorem lw_p42 : lw_okq (⟨"StolenHolidaysModel", "nextToken", "()V"⟩, 59) := ⟨⟨by decide +kernel, by decide +kernel⟩, List.mem_of_getElem? (i := 1167) (by decide +kernel), List.mem_of_getElem? (i := 1376) (by decide +kernel), List.mem_of_getElem? (i := 1377) (by decide +kernel)⟩
theorem lw_p43 : lw_okq (⟨"StolenHolidaysModel", "signAt", "(I)I"⟩, 59) := ⟨⟨by decide +kernel, by decide +kernel⟩, List.mem_of_getElem? (i := 1167) (by decide +kernel), List.mem_of_getElem? (i := 1380) (by decide +kernel), List.mem_of_getElem? (i := 1381) (by decide +kernel)⟩
theorem lw_p44 : lw_okq (⟨"StolenHolidaysModel", "isWord", "(J)Z"⟩, 59) := ⟨⟨by decide +kernel, by decide +kernel⟩, List.mem_of_getElem? (i := 1167) (by decide +kernel), List.mem_of_getElem? (i := 1387) (by decide +kernel), List.mem_of_getElem? (i := 1388) (by decide +kernel)⟩
theorem lw_p45 : lw_okq (⟨"StolenHolidaysModel", "readsDay", "()Z"⟩, 59) := ⟨⟨by decide +kernel, by decide +kernel⟩, List.mem_of_getElem? (i := 1167) (by decide +kernel), List.mem_of_getElem? (i := 1391) (by decide +kernel), List.mem_of_getElem? (i := 1392) (by decide +kernel)⟩
theorem lw_p46 : lw_okq (⟨"StolenHolidaysModel", "fails", "(I)Z"⟩, 59) := ⟨⟨by decide +kernel, by decide +kernel⟩, List.mem_of_getElem? (i := 1167) (by decide +kernel), List.mem_of_getElem? (i := 1395) (by decide +kernel), List.mem_of_getElem? (i := 1396) (by decide +kernel)⟩
theorem lw_p47 : lw_okq (⟨"StolenHolidaysModel", "needsNew", "()Z"⟩, 59) := ⟨⟨by decide +kernel, by decide +kernel⟩, List.mem_of_getElem? (i := 1167) (by decide +kernel), List.mem_of_getElem? (i := 1399) (by decide +kernel), List.mem_of_getElem? (i := 1400) (by decide +kernel)⟩
def lw_privs_3 : List (MethodName × Nat) := [(⟨"StolenHolidays$Spree", "go", "(LStolenHolidays$Almanac;IIII)V"⟩, 7), (⟨"StolenHolidays$Spree", "hope", "(LStolenHolidays$Almanac;I)I"⟩, 7), (⟨"StolenHolidays$Spree", "passNight", "(LStolenHolidays$Almanac;III)V"⟩, 7), (⟨"StolenHolidays", "openTo", "(II)I"⟩, 13), (⟨"StolenHolidays", "tryDrawn", "(III)I"⟩, 13), (⟨"StolenHolidays", "leftOfAll", "()I"⟩, 13), (⟨"java/lang/Throwable", "fillInStackTrace", "(I)Ljava/lang/Throwable;"⟩, 6), (⟨"StolenHolidaysModel", "fresh0", "()V"⟩, 59), (⟨"StolenHolidaysModel", "readsAll", "()Z"⟩, 59), (⟨"StolenHolidaysModel", "begins", "()V"⟩, 59), (⟨"StolenHolidaysModel", "nextToken", "()V"⟩, 59), (⟨"StolenHolidaysModel", "signAt", "(I)I"⟩, 59), (⟨"StolenHolidaysModel", "isWord", "(J)Z"⟩, 59), (⟨"StolenHolidaysModel", "readsDay", "()Z"⟩, 59), (⟨"StolenHolidaysModel", "fails", "(I)Z"⟩, 59), (⟨"StolenHolidaysModel", "needsNew", "()Z"⟩, 59)]
theorem lw_r3 : ∀ q ∈ lw_privs_3, lw_okq q := List.forall_mem_cons.mpr ⟨lw_p32, List.forall_mem_cons.mpr ⟨lw_p33, List.forall_mem_cons.mpr ⟨lw_p34, List.forall_mem_cons.mpr ⟨lw_p35, List.forall_mem_cons.mpr ⟨lw_p36, List.forall_mem_cons.mpr ⟨lw_p37, List.forall_mem_cons.mpr ⟨lw_p38, List.forall_mem_cons.mpr ⟨lw_p39, List.forall_mem_cons.mpr ⟨lw_p40, List.forall_mem_cons.mpr ⟨lw_p41, List.forall_mem_cons.mpr ⟨lw_p42, List.forall_mem_cons.mpr ⟨lw_p43, List.forall_mem_cons.mpr ⟨lw_p44, List.forall_mem_cons.mpr ⟨lw_p45, List.forall_mem_cons.mpr ⟨lw_p46, List.forall_mem_cons.mpr ⟨lw_p47, fun _ h => absurd h List.not_mem_nil⟩⟩⟩⟩⟩⟩⟩⟩⟩⟩⟩⟩⟩⟩⟩⟩
theorem lw_p48 : lw_okq (⟨"StolenHolidaysModel", "isKept", "()Z"⟩, 59) := ⟨⟨by decide +kernel, by decide +kernel⟩, List.mem_of_getElem? (i := 1167) (by decide +kernel), List.mem_of_getElem? (i := 1403) (by decide +kernel), List.mem_of_getElem? (i := 1404) (by decide +kernel)⟩
theorem lw_p49 : lw_okq (⟨"StolenHolidaysModel", "dayNamed", "(I)I"⟩, 59) := ⟨⟨by decide +kernel, by decide +kernel⟩, List.mem_of_getElem? (i := 1167) (by decide +kernel), List.mem_of_getElem? (i := 1425) (by decide +kernel), List.mem_of_getElem? (i := 1426) (by decide +kernel)⟩
theorem lw_p50 : lw_okq (⟨"StolenHolidaysModel", "namedIn", "([JII)I"⟩, 59) := ⟨⟨by decide +kernel, by decide +kernel⟩, List.mem_of_getElem? (i := 1167) (by decide +kernel), List.mem_of_getElem? (i := 1429) (by decide +kernel), List.mem_of_getElem? (i := 1430) (by decide +kernel)⟩
theorem lw_p51 : lw_okq (⟨"StolenHolidaysModel", "thiefNamed", "(I)I"⟩, 59) := ⟨⟨by decide +kernel, by decide +kernel⟩, List.mem_of_getElem? (i := 1167) (by decide +kernel), List.mem_of_getElem? (i := 1433) (by decide +kernel), List.mem_of_getElem? (i := 1434) (by decide +kernel)⟩
theorem lw_p52 : lw_okq (⟨"StolenHolidaysModel", "needsBoth", "(JII)Z"⟩, 59) := ⟨⟨by decide +kernel, by decide +kernel⟩, List.mem_of_getElem? (i := 1167) (by decide +kernel), List.mem_of_getElem? (i := 1437) (by decide +kernel), List.mem_of_getElem? (i := 1438) (by decide +kernel)⟩
theorem lw_p53 : lw_okq (⟨"StolenHolidaysModel", "needsNumber", "(II)Z"⟩, 59) := ⟨⟨by decide +kernel, by decide +kernel⟩, List.mem_of_getElem? (i := 1167) (by decide +kernel), List.mem_of_getElem? (i := 1441) (by decide +kernel), List.mem_of_getElem? (i := 1442) (by decide +kernel)⟩
theorem lw_p54 : lw_okq (⟨"StolenHolidaysModel", "closes", "()Z"⟩, 59) := ⟨⟨by decide +kernel, by decide +kernel⟩, List.mem_of_getElem? (i := 1167) (by decide +kernel), List.mem_of_getElem? (i := 1448) (by decide +kernel), List.mem_of_getElem? (i := 1449) (by decide +kernel)⟩
theorem lw_p55 : lw_okq (⟨"StolenHolidaysModel", "isSign", "(I)Z"⟩, 59) := ⟨⟨by decide +kernel, by decide +kernel⟩, List.mem_of_getElem? (i := 1167) (by decide +kernel), List.mem_of_getElem? (i := 1452) (by decide +kernel), List.mem_of_getElem? (i := 1453) (by decide +kernel)⟩
theorem lw_p56 : lw_okq (⟨"StolenHolidaysModel", "readsThief", "()Z"⟩, 59) := ⟨⟨by decide +kernel, by decide +kernel⟩, List.mem_of_getElem? (i := 1167) (by decide +kernel), List.mem_of_getElem? (i := 1456) (by decide +kernel), List.mem_of_getElem? (i := 1457) (by decide +kernel)⟩
theorem lw_p57 : lw_okq (⟨"StolenHolidaysModel", "readsPays", "()Z"⟩, 59) := ⟨⟨by decide +kernel, by decide +kernel⟩, List.mem_of_getElem? (i := 1167) (by decide +kernel), List.mem_of_getElem? (i := 1460) (by decide +kernel), List.mem_of_getElem? (i := 1461) (by decide +kernel)⟩
theorem lw_p58 : lw_okq (⟨"StolenHolidaysModel", "reads", "()Z"⟩, 59) := ⟨⟨by decide +kernel, by decide +kernel⟩, List.mem_of_getElem? (i := 1167) (by decide +kernel), List.mem_of_getElem? (i := 1464) (by decide +kernel), List.mem_of_getElem? (i := 1465) (by decide +kernel)⟩
theorem lw_p59 : lw_okq (⟨"StolenHolidaysModel", "fact", "()I"⟩, 59) := ⟨⟨by decide +kernel, by decide +kernel⟩, List.mem_of_getElem? (i := 1167) (by decide +kernel), List.mem_of_getElem? (i := 1468) (by decide +kernel), List.mem_of_getElem? (i := 1469) (by decide +kernel)⟩
theorem lw_p60 : lw_okq (⟨"StolenHolidaysModel", "puts", "(I)V"⟩, 59) := ⟨⟨by decide +kernel, by decide +kernel⟩, List.mem_of_getElem? (i := 1167) (by decide +kernel), List.mem_of_getElem? (i := 1476) (by decide +kernel), List.mem_of_getElem? (i := 1477) (by decide +kernel)⟩
theorem lw_p61 : lw_okq (⟨"StolenHolidaysModel", "lays", "()V"⟩, 59) := ⟨⟨by decide +kernel, by decide +kernel⟩, List.mem_of_getElem? (i := 1167) (by decide +kernel), List.mem_of_getElem? (i := 1480) (by decide +kernel), List.mem_of_getElem? (i := 1481) (by decide +kernel)⟩
theorem lw_p62 : lw_okq (⟨"StolenHolidaysModel", "readsLine", "()Z"⟩, 59) := ⟨⟨by decide +kernel, by decide +kernel⟩, List.mem_of_getElem? (i := 1167) (by decide +kernel), List.mem_of_getElem? (i := 1494) (by decide +kernel), List.mem_of_getElem? (i := 1495) (by decide +kernel)⟩
theorem lw_p63 : lw_okq (⟨"StolenHolidaysModel", "passesFound", "(I)Z"⟩, 59) := ⟨⟨by decide +kernel, by decide +kernel⟩, List.mem_of_getElem? (i := 1167) (by decide +kernel), List.mem_of_getElem? (i := 1498) (by decide +kernel), List.mem_of_getElem? (i := 1499) (by decide +kernel)⟩
def lw_privs_4 : List (MethodName × Nat) := [(⟨"StolenHolidaysModel", "isKept", "()Z"⟩, 59), (⟨"StolenHolidaysModel", "dayNamed", "(I)I"⟩, 59), (⟨"StolenHolidaysModel", "namedIn", "([JII)I"⟩, 59), (⟨"StolenHolidaysModel", "thiefNamed", "(I)I"⟩, 59), (⟨"StolenHolidaysModel", "needsBoth", "(JII)Z"⟩, 59), (⟨"StolenHolidaysModel", "needsNumber", "(II)Z"⟩, 59), (⟨"StolenHolidaysModel", "closes", "()Z"⟩, 59), (⟨"StolenHolidaysModel", "isSign", "(I)Z"⟩, 59), (⟨"StolenHolidaysModel", "readsThief", "()Z"⟩, 59), (⟨"StolenHolidaysModel", "readsPays", "()Z"⟩, 59), (⟨"StolenHolidaysModel", "reads", "()Z"⟩, 59), (⟨"StolenHolidaysModel", "fact", "()I"⟩, 59), (⟨"StolenHolidaysModel", "puts", "(I)V"⟩, 59), (⟨"StolenHolidaysModel", "lays", "()V"⟩, 59), (⟨"StolenHolidaysModel", "readsLine", "()Z"⟩, 59), (⟨"StolenHolidaysModel", "passesFound", "(I)Z"⟩, 59)]
theorem lw_r4 : ∀ q ∈ lw_privs_4, lw_okq q := List.forall_mem_cons.mpr ⟨lw_p48, List.forall_mem_cons.mpr ⟨lw_p49, List.forall_mem_cons.mpr ⟨lw_p50, List.forall_mem_cons.mpr ⟨lw_p51, List.forall_mem_cons.mpr ⟨lw_p52, List.forall_mem_cons.mpr ⟨lw_p53, List.forall_mem_cons.mpr ⟨lw_p54, List.forall_mem_cons.mpr ⟨lw_p55, List.forall_mem_cons.mpr ⟨lw_p56, List.forall_mem_cons.mpr ⟨lw_p57, List.forall_mem_cons.mpr ⟨lw_p58, List.forall_mem_cons.mpr ⟨lw_p59, List.forall_mem_cons.mpr ⟨lw_p60, List.forall_mem_cons.mpr ⟨lw_p61, List.forall_mem_cons.mpr ⟨lw_p62, List.forall_mem_cons.mpr ⟨lw_p63, fun _ h => absurd h List.not_mem_nil⟩⟩⟩⟩⟩⟩⟩⟩⟩⟩⟩⟩⟩⟩⟩⟩
theorem lw_p64 : lw_okq (⟨"StolenHolidaysModel", "isFound", "(I)Z"⟩, 59) := ⟨⟨by decide +kernel, by decide +kernel⟩, List.mem_of_getElem? (i := 1167) (by decide +kernel), List.mem_of_getElem? (i := 1502) (by decide +kernel), List.mem_of_getElem? (i := 1503) (by decide +kernel)⟩
theorem lw_p65 : lw_okq (⟨"StolenHolidaysModel", "laysLines", "(II)V"⟩, 59) := ⟨⟨by decide +kernel, by decide +kernel⟩, List.mem_of_getElem? (i := 1167) (by decide +kernel), List.mem_of_getElem? (i := 1506) (by decide +kernel), List.mem_of_getElem? (i := 1507) (by decide +kernel)⟩
theorem lw_p66 : lw_okq (⟨"StolenHolidaysModel", "isDay", "(I)Z"⟩, 59) := ⟨⟨by decide +kernel, by decide +kernel⟩, List.mem_of_getElem? (i := 1167) (by decide +kernel), List.mem_of_getElem? (i := 1514) (by decide +kernel), List.mem_of_getElem? (i := 1515) (by decide +kernel)⟩
theorem lw_p67 : lw_okq (⟨"StolenHolidaysModel", "isThief", "(I)Z"⟩, 59) := ⟨⟨by decide +kernel, by decide +kernel⟩, List.mem_of_getElem? (i := 1167) (by decide +kernel), List.mem_of_getElem? (i := 1522) (by decide +kernel), List.mem_of_getElem? (i := 1523) (by decide +kernel)⟩
theorem lw_p68 : lw_okq (⟨"StolenHolidaysModel", "couldSteal", "(I)Z"⟩, 59) := ⟨⟨by decide +kernel, by decide +kernel⟩, List.mem_of_getElem? (i := 1167) (by decide +kernel), List.mem_of_getElem? (i := 1530) (by decide +kernel), List.mem_of_getElem? (i := 1531) (by decide +kernel)⟩
theorem lw_p69 : lw_okq (⟨"StolenHolidaysModel", "isFree", "(I)Z"⟩, 59) := ⟨⟨by decide +kernel, by decide +kernel⟩, List.mem_of_getElem? (i := 1167) (by decide +kernel), List.mem_of_getElem? (i := 1534) (by decide +kernel), List.mem_of_getElem? (i := 1535) (by decide +kernel)⟩
theorem lw_p70 : lw_okq (⟨"StolenHolidaysModel", "hasPiece", "(I)Z"⟩, 59) := ⟨⟨by decide +kernel, by decide +kernel⟩, List.mem_of_getElem? (i := 1167) (by decide +kernel), List.mem_of_getElem? (i := 1538) (by decide +kernel), List.mem_of_getElem? (i := 1539) (by decide +kernel)⟩
theorem lw_p71 : lw_okq (⟨"StolenHolidaysModel", "keepsIt", "()V"⟩, 59) := ⟨⟨by decide +kernel, by decide +kernel⟩, List.mem_of_getElem? (i := 1167) (by decide +kernel), List.mem_of_getElem? (i := 1542) (by decide +kernel), List.mem_of_getElem? (i := 1543) (by decide +kernel)⟩
theorem lw_p72 : lw_okq (⟨"StolenHolidaysModel", "steals", "(II)I"⟩, 59) := ⟨⟨by decide +kernel, by decide +kernel⟩, List.mem_of_getElem? (i := 1167) (by decide +kernel), List.mem_of_getElem? (i := 1549) (by decide +kernel), List.mem_of_getElem? (i := 1550) (by decide +kernel)⟩
theorem lw_p73 : lw_okq (⟨"StolenHolidaysModel", "haulOf", "(II)I"⟩, 59) := ⟨⟨by decide +kernel, by decide +kernel⟩, List.mem_of_getElem? (i := 1167) (by decide +kernel), List.mem_of_getElem? (i := 1553) (by decide +kernel), List.mem_of_getElem? (i := 1554) (by decide +kernel)⟩
theorem lw_p74 : lw_okq (⟨"StolenHolidaysModel", "isOpen", "(II)Z"⟩, 59) := ⟨⟨by decide +kernel, by decide +kernel⟩, List.mem_of_getElem? (i := 1167) (by decide +kernel), List.mem_of_getElem? (i := 1557) (by decide +kernel), List.mem_of_getElem? (i := 1558) (by decide +kernel)⟩
theorem lw_p75 : lw_okq (⟨"StolenHolidaysModel", "canDeal", "(I)Z"⟩, 59) := ⟨⟨by decide +kernel, by decide +kernel⟩, List.mem_of_getElem? (i := 1167) (by decide +kernel), List.mem_of_getElem? (i := 1566) (by decide +kernel), List.mem_of_getElem? (i := 1567) (by decide +kernel)⟩
theorem lw_p76 : lw_okq (⟨"StolenHolidaysModel", "sellsIt", "(I)I"⟩, 59) := ⟨⟨by decide +kernel, by decide +kernel⟩, List.mem_of_getElem? (i := 1167) (by decide +kernel), List.mem_of_getElem? (i := 1570) (by decide +kernel), List.mem_of_getElem? (i := 1571) (by decide +kernel)⟩
theorem lw_p77 : lw_okq (⟨"StolenHolidaysModel", "priceOf", "(I)I"⟩, 59) := ⟨⟨by decide +kernel, by decide +kernel⟩, List.mem_of_getElem? (i := 1167) (by decide +kernel), List.mem_of_getElem? (i := 1574) (by decide +kernel), List.mem_of_getElem? (i := 1575) (by decide +kernel)⟩
theorem lw_p78 : lw_okq (⟨"StolenHolidaysModel", "worked", "(I)I"⟩, 59) := ⟨⟨by decide +kernel, by decide +kernel⟩, List.mem_of_getElem? (i := 1167) (by decide +kernel), List.mem_of_getElem? (i := 1578) (by decide +kernel), List.mem_of_getElem? (i := 1579) (by decide +kernel)⟩
theorem lw_p79 : lw_okq (⟨"StolenHolidaysModel", "openings", "(I)V"⟩, 59) := ⟨⟨by decide +kernel, by decide +kernel⟩, List.mem_of_getElem? (i := 1167) (by decide +kernel), List.mem_of_getElem? (i := 1582) (by decide +kernel), List.mem_of_getElem? (i := 1583) (by decide +kernel)⟩
def lw_privs_5 : List (MethodName × Nat) := [(⟨"StolenHolidaysModel", "isFound", "(I)Z"⟩, 59), (⟨"StolenHolidaysModel", "laysLines", "(II)V"⟩, 59), (⟨"StolenHolidaysModel", "isDay", "(I)Z"⟩, 59), (⟨"StolenHolidaysModel", "isThief", "(I)Z"⟩, 59), (⟨"StolenHolidaysModel", "couldSteal", "(I)Z"⟩, 59), (⟨"StolenHolidaysModel", "isFree", "(I)Z"⟩, 59), (⟨"StolenHolidaysModel", "hasPiece", "(I)Z"⟩, 59), (⟨"StolenHolidaysModel", "keepsIt", "()V"⟩, 59), (⟨"StolenHolidaysModel", "steals", "(II)I"⟩, 59), (⟨"StolenHolidaysModel", "haulOf", "(II)I"⟩, 59), (⟨"StolenHolidaysModel", "isOpen", "(II)Z"⟩, 59), (⟨"StolenHolidaysModel", "canDeal", "(I)Z"⟩, 59), (⟨"StolenHolidaysModel", "sellsIt", "(I)I"⟩, 59), (⟨"StolenHolidaysModel", "priceOf", "(I)I"⟩, 59), (⟨"StolenHolidaysModel", "worked", "(I)I"⟩, 59), (⟨"StolenHolidaysModel", "openings", "(I)V"⟩, 59)]
theorem lw_r5 : ∀ q ∈ lw_privs_5, lw_okq q := List.forall_mem_cons.mpr ⟨lw_p64, List.forall_mem_cons.mpr ⟨lw_p65, List.forall_mem_cons.mpr ⟨lw_p66, List.forall_mem_cons.mpr ⟨lw_p67, List.forall_mem_cons.mpr ⟨lw_p68, List.forall_mem_cons.mpr ⟨lw_p69, List.forall_mem_cons.mpr ⟨lw_p70, List.forall_mem_cons.mpr ⟨lw_p71, List.forall_mem_cons.mpr ⟨lw_p72, List.forall_mem_cons.mpr ⟨lw_p73, List.forall_mem_cons.mpr ⟨lw_p74, List.forall_mem_cons.mpr ⟨lw_p75, List.forall_mem_cons.mpr ⟨lw_p76, List.forall_mem_cons.mpr ⟨lw_p77, List.forall_mem_cons.mpr ⟨lw_p78, List.forall_mem_cons.mpr ⟨lw_p79, fun _ h => absurd h List.not_mem_nil⟩⟩⟩⟩⟩⟩⟩⟩⟩⟩⟩⟩⟩⟩⟩⟩
theorem lw_p80 : lw_okq (⟨"StolenHolidaysModel", "sums", "(I)V"⟩, 59) := ⟨⟨by decide +kernel, by decide +kernel⟩, List.mem_of_getElem? (i := 1167) (by decide +kernel), List.mem_of_getElem? (i := 1586) (by decide +kernel), List.mem_of_getElem? (i := 1587) (by decide +kernel)⟩
theorem lw_p81 : lw_okq (⟨"StolenHolidaysModel", "tests", "(I)V"⟩, 59) := ⟨⟨by decide +kernel, by decide +kernel⟩, List.mem_of_getElem? (i := 1167) (by decide +kernel), List.mem_of_getElem? (i := 1590) (by decide +kernel), List.mem_of_getElem? (i := 1591) (by decide +kernel)⟩
theorem lw_p82 : lw_okq (⟨"StolenHolidaysModel", "takesAway", "(I)V"⟩, 59) := ⟨⟨by decide +kernel, by decide +kernel⟩, List.mem_of_getElem? (i := 1167) (by decide +kernel), List.mem_of_getElem? (i := 1597) (by decide +kernel), List.mem_of_getElem? (i := 1598) (by decide +kernel)⟩
theorem lw_p83 : lw_okq (⟨"StolenHolidaysModel", "spendsIt", "(I)I"⟩, 59) := ⟨⟨by decide +kernel, by decide +kernel⟩, List.mem_of_getElem? (i := 1167) (by decide +kernel), List.mem_of_getElem? (i := 1605) (by decide +kernel), List.mem_of_getElem? (i := 1606) (by decide +kernel)⟩
theorem lw_p84 : lw_okq (⟨"StolenHolidaysModel", "joyOf", "(I)I"⟩, 59) := ⟨⟨by decide +kernel, by decide +kernel⟩, List.mem_of_getElem? (i := 1167) (by decide +kernel), List.mem_of_getElem? (i := 1609) (by decide +kernel), List.mem_of_getElem? (i := 1610) (by decide +kernel)⟩
theorem lw_p85 : lw_okq (⟨"StolenHolidaysModel", "swapsIt", "(II)V"⟩, 59) := ⟨⟨by decide +kernel, by decide +kernel⟩, List.mem_of_getElem? (i := 1167) (by decide +kernel), List.mem_of_getElem? (i := 1618) (by decide +kernel), List.mem_of_getElem? (i := 1619) (by decide +kernel)⟩
theorem lw_p86 : lw_okq (⟨"StolenHolidaysModel", "passes", "()V"⟩, 59) := ⟨⟨by decide +kernel, by decide +kernel⟩, List.mem_of_getElem? (i := 1167) (by decide +kernel), List.mem_of_getElem? (i := 1626) (by decide +kernel), List.mem_of_getElem? (i := 1627) (by decide +kernel)⟩
theorem lw_p87 : lw_okq (⟨"StolenHolidaysModel", "ages", "(I)V"⟩, 59) := ⟨⟨by decide +kernel, by decide +kernel⟩, List.mem_of_getElem? (i := 1167) (by decide +kernel), List.mem_of_getElem? (i := 1630) (by decide +kernel), List.mem_of_getElem? (i := 1631) (by decide +kernel)⟩
theorem lw_p88 : lw_okq (⟨"StolenHolidaysModel", "having", "()I"⟩, 59) := ⟨⟨by decide +kernel, by decide +kernel⟩, List.mem_of_getElem? (i := 1167) (by decide +kernel), List.mem_of_getElem? (i := 1634) (by decide +kernel), List.mem_of_getElem? (i := 1635) (by decide +kernel)⟩
theorem lw_p89 : lw_okq (⟨"StolenHolidaysModel", "isDone", "(I)Z"⟩, 59) := ⟨⟨by decide +kernel, by decide +kernel⟩, List.mem_of_getElem? (i := 1167) (by decide +kernel), List.mem_of_getElem? (i := 1646) (by decide +kernel), List.mem_of_getElem? (i := 1647) (by decide +kernel)⟩
theorem lw_p90 : lw_okq (⟨"StolenHolidaysModel", "caughtOnes", "()I"⟩, 59) := ⟨⟨by decide +kernel, by decide +kernel⟩, List.mem_of_getElem? (i := 1167) (by decide +kernel), List.mem_of_getElem? (i := 1650) (by decide +kernel), List.mem_of_getElem? (i := 1651) (by decide +kernel)⟩
theorem lw_p91 : lw_okq (⟨"StolenHolidaysModel", "sumOf", "(II)I"⟩, 59) := ⟨⟨by decide +kernel, by decide +kernel⟩, List.mem_of_getElem? (i := 1167) (by decide +kernel), List.mem_of_getElem? (i := 1654) (by decide +kernel), List.mem_of_getElem? (i := 1655) (by decide +kernel)⟩
theorem lw_p92 : lw_okq (⟨"StolenHolidaysModel", "canOf", "(I)I"⟩, 59) := ⟨⟨by decide +kernel, by decide +kernel⟩, List.mem_of_getElem? (i := 1167) (by decide +kernel), List.mem_of_getElem? (i := 1662) (by decide +kernel), List.mem_of_getElem? (i := 1663) (by decide +kernel)⟩
theorem lw_p93 : lw_okq (⟨"StolenHolidaysModel", "mostAt", "(I)I"⟩, 59) := ⟨⟨by decide +kernel, by decide +kernel⟩, List.mem_of_getElem? (i := 1167) (by decide +kernel), List.mem_of_getElem? (i := 1682) (by decide +kernel), List.mem_of_getElem? (i := 1683) (by decide +kernel)⟩
theorem lw_p94 : lw_okq (⟨"StolenHolidaysModel", "laterAt", "(II)I"⟩, 59) := ⟨⟨by decide +kernel, by decide +kernel⟩, List.mem_of_getElem? (i := 1167) (by decide +kernel), List.mem_of_getElem? (i := 1694) (by decide +kernel), List.mem_of_getElem? (i := 1695) (by decide +kernel)⟩
theorem lw_p95 : lw_okq (⟨"StolenHolidaysModel", "areWhole", "()Z"⟩, 59) := ⟨⟨by decide +kernel, by decide +kernel⟩, List.mem_of_getElem? (i := 1167) (by decide +kernel), List.mem_of_getElem? (i := 1718) (by decide +kernel), List.mem_of_getElem? (i := 1719) (by decide +kernel)⟩
def lw_privs_6 : List (MethodName × Nat) := [(⟨"StolenHolidaysModel", "sums", "(I)V"⟩, 59), (⟨"StolenHolidaysModel", "tests", "(I)V"⟩, 59), (⟨"StolenHolidaysModel", "takesAway", "(I)V"⟩, 59), (⟨"StolenHolidaysModel", "spendsIt", "(I)I"⟩, 59), (⟨"StolenHolidaysModel", "joyOf", "(I)I"⟩, 59), (⟨"StolenHolidaysModel", "swapsIt", "(II)V"⟩, 59), (⟨"StolenHolidaysModel", "passes", "()V"⟩, 59), (⟨"StolenHolidaysModel", "ages", "(I)V"⟩, 59), (⟨"StolenHolidaysModel", "having", "()I"⟩, 59), (⟨"StolenHolidaysModel", "isDone", "(I)Z"⟩, 59), (⟨"StolenHolidaysModel", "caughtOnes", "()I"⟩, 59), (⟨"StolenHolidaysModel", "sumOf", "(II)I"⟩, 59), (⟨"StolenHolidaysModel", "canOf", "(I)I"⟩, 59), (⟨"StolenHolidaysModel", "mostAt", "(I)I"⟩, 59), (⟨"StolenHolidaysModel", "laterAt", "(II)I"⟩, 59), (⟨"StolenHolidaysModel", "areWhole", "()Z"⟩, 59)]
theorem lw_r6 : ∀ q ∈ lw_privs_6, lw_okq q := List.forall_mem_cons.mpr ⟨lw_p80, List.forall_mem_cons.mpr ⟨lw_p81, List.forall_mem_cons.mpr ⟨lw_p82, List.forall_mem_cons.mpr ⟨lw_p83, List.forall_mem_cons.mpr ⟨lw_p84, List.forall_mem_cons.mpr ⟨lw_p85, List.forall_mem_cons.mpr ⟨lw_p86, List.forall_mem_cons.mpr ⟨lw_p87, List.forall_mem_cons.mpr ⟨lw_p88, List.forall_mem_cons.mpr ⟨lw_p89, List.forall_mem_cons.mpr ⟨lw_p90, List.forall_mem_cons.mpr ⟨lw_p91, List.forall_mem_cons.mpr ⟨lw_p92, List.forall_mem_cons.mpr ⟨lw_p93, List.forall_mem_cons.mpr ⟨lw_p94, List.forall_mem_cons.mpr ⟨lw_p95, fun _ h => absurd h List.not_mem_nil⟩⟩⟩⟩⟩⟩⟩⟩⟩⟩⟩⟩⟩⟩⟩⟩
theorem lw_p96 : lw_okq (⟨"StolenHolidaysModel", "waitFor", "(IZ)I"⟩, 59) := ⟨⟨by decide +kernel, by decide +kernel⟩, List.mem_of_getElem? (i := 1167) (by decide +kernel), List.mem_of_getElem? (i := 1726) (by decide +kernel), List.mem_of_getElem? (i := 1727) (by decide +kernel)⟩
theorem lw_p97 : lw_okq (⟨"StolenHolidaysModel", "goesOut", "(III)V"⟩, 59) := ⟨⟨by decide +kernel, by decide +kernel⟩, List.mem_of_getElem? (i := 1167) (by decide +kernel), List.mem_of_getElem? (i := 1742) (by decide +kernel), List.mem_of_getElem? (i := 1743) (by decide +kernel)⟩
theorem lw_p98 : lw_okq (⟨"StolenHolidaysModel", "mostBut", "(I)I"⟩, 59) := ⟨⟨by decide +kernel, by decide +kernel⟩, List.mem_of_getElem? (i := 1167) (by decide +kernel), List.mem_of_getElem? (i := 1754) (by decide +kernel), List.mem_of_getElem? (i := 1755) (by decide +kernel)⟩
theorem lw_p99 : lw_okq (⟨"StolenHolidaysModel", "spreeOf", "(II)I"⟩, 59) := ⟨⟨by decide +kernel, by decide +kernel⟩, List.mem_of_getElem? (i := 1167) (by decide +kernel), List.mem_of_getElem? (i := 1762) (by decide +kernel), List.mem_of_getElem? (i := 1763) (by decide +kernel)⟩
theorem lw_p100 : lw_okq (⟨"StolenHolidaysModel", "laysOpen", "()V"⟩, 59) := ⟨⟨by decide +kernel, by decide +kernel⟩, List.mem_of_getElem? (i := 1167) (by decide +kernel), List.mem_of_getElem? (i := 1774) (by decide +kernel), List.mem_of_getElem? (i := 1775) (by decide +kernel)⟩
theorem lw_p101 : lw_okq (⟨"StolenHolidaysModel", "isAsSeen", "(I)Z"⟩, 59) := ⟨⟨by decide +kernel, by decide +kernel⟩, List.mem_of_getElem? (i := 1167) (by decide +kernel), List.mem_of_getElem? (i := 1778) (by decide +kernel), List.mem_of_getElem? (i := 1779) (by decide +kernel)⟩
theorem lw_p102 : lw_okq (⟨"StolenHolidaysModel", "lives", "()I"⟩, 59) := ⟨⟨by decide +kernel, by decide +kernel⟩, List.mem_of_getElem? (i := 1167) (by decide +kernel), List.mem_of_getElem? (i := 1807) (by decide +kernel), List.mem_of_getElem? (i := 1808) (by decide +kernel)⟩
theorem lw_p103 : lw_okq (⟨"StolenHolidaysModel", "draws", "(I)I"⟩, 59) := ⟨⟨by decide +kernel, by decide +kernel⟩, List.mem_of_getElem? (i := 1167) (by decide +kernel), List.mem_of_getElem? (i := 1811) (by decide +kernel), List.mem_of_getElem? (i := 1812) (by decide +kernel)⟩
theorem lw_p104 : lw_okq (⟨"StolenHolidaysModel", "laysSeen", "(II)V"⟩, 59) := ⟨⟨by decide +kernel, by decide +kernel⟩, List.mem_of_getElem? (i := 1167) (by decide +kernel), List.mem_of_getElem? (i := 1823) (by decide +kernel), List.mem_of_getElem? (i := 1824) (by decide +kernel)⟩
def lw_privs_7 : List (MethodName × Nat) := [(⟨"StolenHolidaysModel", "waitFor", "(IZ)I"⟩, 59), (⟨"StolenHolidaysModel", "goesOut", "(III)V"⟩, 59), (⟨"StolenHolidaysModel", "mostBut", "(I)I"⟩, 59), (⟨"StolenHolidaysModel", "spreeOf", "(II)I"⟩, 59), (⟨"StolenHolidaysModel", "laysOpen", "()V"⟩, 59), (⟨"StolenHolidaysModel", "isAsSeen", "(I)Z"⟩, 59), (⟨"StolenHolidaysModel", "lives", "()I"⟩, 59), (⟨"StolenHolidaysModel", "draws", "(I)I"⟩, 59), (⟨"StolenHolidaysModel", "laysSeen", "(II)V"⟩, 59)]
theorem lw_r7 : ∀ q ∈ lw_privs_7, lw_okq q := List.forall_mem_cons.mpr ⟨lw_p96, List.forall_mem_cons.mpr ⟨lw_p97, List.forall_mem_cons.mpr ⟨lw_p98, List.forall_mem_cons.mpr ⟨lw_p99, List.forall_mem_cons.mpr ⟨lw_p100, List.forall_mem_cons.mpr ⟨lw_p101, List.forall_mem_cons.mpr ⟨lw_p102, List.forall_mem_cons.mpr ⟨lw_p103, List.forall_mem_cons.mpr ⟨lw_p104, fun _ h => absurd h List.not_mem_nil⟩⟩⟩⟩⟩⟩⟩⟩⟩
def lw_privs : List (MethodName × Nat) := lw_privs_1 ++ (lw_privs_2 ++ (lw_privs_3 ++ (lw_privs_4 ++ (lw_privs_5 ++ (lw_privs_6 ++ (lw_privs_7))))))
def lw_tbl : List Cond := k2_sels lw_privs ++ tables_1
theorem lw_privs_ok : ∀ q ∈ lw_privs, lw_okq q := by
  show ∀ q ∈ lw_privs_1 ++ (lw_privs_2 ++ (lw_privs_3 ++ (lw_privs_4 ++ (lw_privs_5 ++ (lw_privs_6 ++ (lw_privs_7)))))), lw_okq q
  exact List.forall_mem_append.mpr ⟨lw_r1, List.forall_mem_append.mpr ⟨lw_r2, List.forall_mem_append.mpr ⟨lw_r3, List.forall_mem_append.mpr ⟨lw_r4, List.forall_mem_append.mpr ⟨lw_r5, List.forall_mem_append.mpr ⟨lw_r6, lw_r7⟩⟩⟩⟩⟩⟩
end
section
def RX0 : String := "StolenHolidays$Almanac"
def TX0 : u_T := fun k => match k with
  | 0 => ("StolenHolidays$Almanac", "days", "I", false)
  | 1 => ("StolenHolidays$Almanac", "thieves", "I", false)
  | 2 => ("StolenHolidays$Almanac", "lawTold", "Z", false)
  | 3 => ("StolenHolidays$Almanac", "dayNames", "[J", true)
  | 4 => ("StolenHolidays$Almanac", "kinds", "[I", true)
  | 5 => ("StolenHolidays$Almanac", "worths", "[I", true)
  | 6 => ("StolenHolidays$Almanac", "guards", "[I", true)
  | 7 => ("StolenHolidays$Almanac", "thiefNames", "[J", true)
  | 8 => ("StolenHolidays$Almanac", "skills", "[I", true)
  | 9 => ("StolenHolidays$Almanac", "sacks", "[I", true)
  | _ => ("StolenHolidays$Almanac", "law", "LStolenHolidays$Law;", true)
def tyX0 : Nat → FieldType := fun k => match k with
  | 0 => .int
  | 1 => .int
  | 2 => .boolean
  | 3 => .array .long
  | 4 => .array .int
  | 5 => .array .int
  | 6 => .array .int
  | 7 => .array .long
  | 8 => .array .int
  | 9 => .array .int
  | _ => .object "StolenHolidays$Law"
abbrev wsX00 : List Cond := u_ws RX0 TX0 11
theorem nmX0 : ∀ a, a < 11 → ∀ b, b < 11 → a ≠ b → (TX0 a).2.1 ≠ (TX0 b).2.1 := by decide +kernel
theorem tyX0_ok : ∀ k, k < 11 → parseFieldDescriptor (TX0 k).2.2.1 = some (tyX0 k) := by decide +kernel
def RX1 : String := "StolenHolidays$Gang"
def TX1 : u_T := fun k => match k with
  | 0 => ("StolenHolidays$Gang", "row", "[I", true)
  | 1 => ("StolenHolidays$Gang", "best", "[I", true)
  | _ => ("StolenHolidays$Gang", "most", "I", false)
def tyX1 : Nat → FieldType := fun k => match k with
  | 0 => .array .int
  | 1 => .array .int
  | _ => .int
abbrev wsX10 : List Cond := u_ws RX1 TX1 3
theorem nmX1 : ∀ a, a < 3 → ∀ b, b < 3 → a ≠ b → (TX1 a).2.1 ≠ (TX1 b).2.1 := by decide +kernel
theorem tyX1_ok : ∀ k, k < 3 → parseFieldDescriptor (TX1 k).2.2.1 = some (tyX1 k) := by decide +kernel
def RX2 : String := "StolenHolidays$Law"
def TX2 : u_T := fun k => match k with
  | 0 => ("StolenHolidays$Law", "code", "[I", true)
  | 1 => ("StolenHolidays$Law", "stack", "[I", true)
  | _ => ("StolenHolidays$Law", "length", "I", false)
def tyX2 : Nat → FieldType := fun k => match k with
  | 0 => .array .int
  | 1 => .array .int
  | _ => .int
abbrev wsX20 : List Cond := u_ws RX2 TX2 3
theorem nmX2 : ∀ a, a < 3 → ∀ b, b < 3 → a ≠ b → (TX2 a).2.1 ≠ (TX2 b).2.1 := by decide +kernel
theorem tyX2_ok : ∀ k, k < 3 → parseFieldDescriptor (TX2 k).2.2.1 = some (tyX2 k) := by decide +kernel
def RX3 : String := "StolenHolidays$Mark"
def TX3 : u_T := fun k => match k with
  | 0 => ("StolenHolidays$Mark", "laid", "Z", false)
  | 1 => ("StolenHolidays$Mark", "state", "LStolenHolidays$State;", true)
  | 2 => ("StolenHolidays$Mark", "year", "LStolenHolidays$Year;", true)
  | _ => ("StolenHolidays$Mark", "seen", "LStolenHolidays$Seen;", true)
def tyX3 : Nat → FieldType := fun k => match k with
  | 0 => .boolean
  | 1 => .object "StolenHolidays$State"
  | 2 => .object "StolenHolidays$Year"
  | _ => .object "StolenHolidays$Seen"
abbrev wsX30 : List Cond := u_ws RX3 TX3 4
theorem nmX3 : ∀ a, a < 4 → ∀ b, b < 4 → a ≠ b → (TX3 a).2.1 ≠ (TX3 b).2.1 := by decide +kernel
theorem tyX3_ok : ∀ k, k < 4 → parseFieldDescriptor (TX3 k).2.2.1 = some (tyX3 k) := by decide +kernel
def RX4 : String := "StolenHolidays$Past"
def TX4 : u_T := fun k => match k with
  | 0 => ("StolenHolidays$Past", "rows", "[I", true)
  | 1 => ("StolenHolidays$Past", "next", "I", false)
  | _ => ("StolenHolidays$Past", "size", "I", false)
def tyX4 : Nat → FieldType := fun k => match k with
  | 0 => .array .int
  | 1 => .int
  | _ => .int
abbrev wsX40 : List Cond := u_ws RX4 TX4 3
theorem nmX4 : ∀ a, a < 3 → ∀ b, b < 3 → a ≠ b → (TX4 a).2.1 ≠ (TX4 b).2.1 := by decide +kernel
theorem tyX4_ok : ∀ k, k < 3 → parseFieldDescriptor (TX4 k).2.2.1 = some (tyX4 k) := by decide +kernel
def RX5 : String := "StolenHolidays$Reader"
def TX5 : u_T := fun k => match k with
  | 0 => ("StolenHolidays$Reader", "tape", "LStolenHolidays$Tape;", true)
  | 1 => ("StolenHolidays$Reader", "fault", "I", false)
  | _ => ("StolenHolidays$Reader", "taken", "I", false)
def tyX5 : Nat → FieldType := fun k => match k with
  | 0 => .object "StolenHolidays$Tape"
  | 1 => .int
  | _ => .int
abbrev wsX50 : List Cond := u_ws RX5 TX5 3
theorem nmX5 : ∀ a, a < 3 → ∀ b, b < 3 → a ≠ b → (TX5 a).2.1 ≠ (TX5 b).2.1 := by decide +kernel
theorem tyX5_ok : ∀ k, k < 3 → parseFieldDescriptor (TX5 k).2.2.1 = some (tyX5 k) := by decide +kernel
def RX6 : String := "StolenHolidays$Seen"
def TX6 : u_T := fun k => match k with
  | 0 => ("StolenHolidays$Seen", "size", "I", false)
  | 1 => ("StolenHolidays$Seen", "days", "[I", true)
  | 2 => ("StolenHolidays$Seen", "nights", "[I", true)
  | _ => ("StolenHolidays$Seen", "opens", "[Z", true)
def tyX6 : Nat → FieldType := fun k => match k with
  | 0 => .int
  | 1 => .array .int
  | 2 => .array .int
  | _ => .array .boolean
abbrev wsX60 : List Cond := u_ws RX6 TX6 4
theorem nmX6 : ∀ a, a < 4 → ∀ b, b < 4 → a ≠ b → (TX6 a).2.1 ≠ (TX6 b).2.1 := by decide +kernel
theorem tyX6_ok : ∀ k, k < 4 → parseFieldDescriptor (TX6 k).2.2.1 = some (tyX6 k) := by decide +kernel
def RX7 : String := "StolenHolidays$Spree"
def TX7 : u_T := fun k => match k with
  | 0 => ("StolenHolidays$Spree", "left", "[I", true)
  | 1 => ("StolenHolidays$Spree", "guard", "[I", true)
  | 2 => ("StolenHolidays$Spree", "skill", "I", false)
  | 3 => ("StolenHolidays$Spree", "sack", "I", false)
  | 4 => ("StolenHolidays$Spree", "nights", "I", false)
  | 5 => ("StolenHolidays$Spree", "most", "I", false)
  | _ => ("StolenHolidays$Spree", "first", "I", false)
def tyX7 : Nat → FieldType := fun k => match k with
  | 0 => .array .int
  | 1 => .array .int
  | 2 => .int
  | 3 => .int
  | 4 => .int
  | 5 => .int
  | _ => .int
abbrev wsX70 : List Cond := u_ws RX7 TX7 7
theorem nmX7 : ∀ a, a < 7 → ∀ b, b < 7 → a ≠ b → (TX7 a).2.1 ≠ (TX7 b).2.1 := by decide +kernel
theorem tyX7_ok : ∀ k, k < 7 → parseFieldDescriptor (TX7 k).2.2.1 = some (tyX7 k) := by decide +kernel
def RX8 : String := "StolenHolidays$State"
def TX8 : u_T := fun k => match k with
  | _ => ("StolenHolidays$State", "cells", "[I", true)
def tyX8 : Nat → FieldType := fun k => match k with
  | _ => .array .int
abbrev wsX80 : List Cond := u_ws RX8 TX8 1
theorem nmX8 : ∀ a, a < 1 → ∀ b, b < 1 → a ≠ b → (TX8 a).2.1 ≠ (TX8 b).2.1 := by decide +kernel
theorem tyX8_ok : ∀ k, k < 1 → parseFieldDescriptor (TX8 k).2.2.1 = some (tyX8 k) := by decide +kernel
def RX9 : String := "StolenHolidays$Tape"
def TX9 : u_T := fun k => match k with
  | 0 => ("StolenHolidays$Tape", "signs", "[B", true)
  | 1 => ("StolenHolidays$Tape", "length", "I", false)
  | 2 => ("StolenHolidays$Tape", "kind", "I", false)
  | 3 => ("StolenHolidays$Tape", "place", "I", false)
  | 4 => ("StolenHolidays$Tape", "behind", "I", false)
  | 5 => ("StolenHolidays$Tape", "word", "J", false)
  | _ => ("StolenHolidays$Tape", "number", "I", false)
def tyX9 : Nat → FieldType := fun k => match k with
  | 0 => .array .byte
  | 1 => .int
  | 2 => .int
  | 3 => .int
  | 4 => .int
  | 5 => .long
  | _ => .int
abbrev wsX90 : List Cond := u_ws RX9 TX9 7
theorem nmX9 : ∀ a, a < 7 → ∀ b, b < 7 → a ≠ b → (TX9 a).2.1 ≠ (TX9 b).2.1 := by decide +kernel
theorem tyX9_ok : ∀ k, k < 7 → parseFieldDescriptor (TX9 k).2.2.1 = some (tyX9 k) := by decide +kernel
def RX10 : String := "StolenHolidays$Year"
def TX10 : u_T := fun k => match k with
  | 0 => ("StolenHolidays$Year", "lines", "I", false)
  | 1 => ("StolenHolidays$Year", "doings", "[I", true)
  | 2 => ("StolenHolidays$Year", "firsts", "[I", true)
  | _ => ("StolenHolidays$Year", "seconds", "[I", true)
def tyX10 : Nat → FieldType := fun k => match k with
  | 0 => .int
  | 1 => .array .int
  | 2 => .array .int
  | _ => .array .int
abbrev wsX100 : List Cond := u_ws RX10 TX10 4
theorem nmX10 : ∀ a, a < 4 → ∀ b, b < 4 → a ≠ b → (TX10 a).2.1 ≠ (TX10 b).2.1 := by decide +kernel
theorem tyX10_ok : ∀ k, k < 4 → parseFieldDescriptor (TX10 k).2.2.1 = some (tyX10 k) := by decide +kernel
def RX11 : String := "StolenHolidays"
def TX11 : u_T := fun k => match k with
  | 0 => ("StolenHolidays", "tape", "LStolenHolidays$Tape;", true)
  | 1 => ("StolenHolidays", "reader", "LStolenHolidays$Reader;", true)
  | 2 => ("StolenHolidays", "now", "LStolenHolidays$State;", true)
  | 3 => ("StolenHolidays", "trial", "LStolenHolidays$State;", true)
  | 4 => ("StolenHolidays", "past", "LStolenHolidays$Past;", true)
  | 5 => ("StolenHolidays", "seen", "LStolenHolidays$Seen;", true)
  | 6 => ("StolenHolidays", "gang", "LStolenHolidays$Gang;", true)
  | 7 => ("StolenHolidays", "spree", "LStolenHolidays$Spree;", true)
  | 8 => ("StolenHolidays", "marks", "[LStolenHolidays$Mark;", true)
  | 9 => ("StolenHolidays", "book", "LStolenHolidays$Almanac;", false)
  | 10 => ("StolenHolidays", "bookDraft", "LStolenHolidays$Almanac;", false)
  | 11 => ("StolenHolidays", "year", "LStolenHolidays$Year;", false)
  | _ => ("StolenHolidays", "yearDraft", "LStolenHolidays$Year;", false)
def tyX11 : Nat → FieldType := fun k => match k with
  | 0 => .object "StolenHolidays$Tape"
  | 1 => .object "StolenHolidays$Reader"
  | 2 => .object "StolenHolidays$State"
  | 3 => .object "StolenHolidays$State"
  | 4 => .object "StolenHolidays$Past"
  | 5 => .object "StolenHolidays$Seen"
  | 6 => .object "StolenHolidays$Gang"
  | 7 => .object "StolenHolidays$Spree"
  | 8 => .array (.object "StolenHolidays$Mark")
  | 9 => .object "StolenHolidays$Almanac"
  | 10 => .object "StolenHolidays$Almanac"
  | 11 => .object "StolenHolidays$Year"
  | _ => .object "StolenHolidays$Year"
abbrev wsX110 : List Cond := u_ws RX11 TX11 13
theorem nmX11 : ∀ a, a < 13 → ∀ b, b < 13 → a ≠ b → (TX11 a).2.1 ≠ (TX11 b).2.1 := by decide +kernel
theorem tyX11_ok : ∀ k, k < 13 → parseFieldDescriptor (TX11 k).2.2.1 = some (tyX11 k) := by decide +kernel
def RX12 : String := "StolenHolidaysModel"
def TX12 : u_T := fun k => match k with
  | 0 => ("StolenHolidaysModel", "thrown", "I", false)
  | 1 => ("StolenHolidaysModel", "taped", "I", false)
  | 2 => ("StolenHolidaysModel", "tape", "[I", true)
  | 3 => ("StolenHolidaysModel", "size", "I", false)
  | 4 => ("StolenHolidaysModel", "place", "I", false)
  | 5 => ("StolenHolidaysModel", "begin", "I", false)
  | 6 => ("StolenHolidaysModel", "token", "I", false)
  | 7 => ("StolenHolidaysModel", "word", "J", false)
  | 8 => ("StolenHolidaysModel", "told", "I", false)
  | 9 => ("StolenHolidaysModel", "wrong", "I", false)
  | 10 => ("StolenHolidaysModel", "almanac", "[I", true)
  | 11 => ("StolenHolidaysModel", "dayName", "[J", true)
  | 12 => ("StolenHolidaysModel", "thiefName", "[J", true)
  | 13 => ("StolenHolidaysModel", "kind", "[I", true)
  | 14 => ("StolenHolidaysModel", "worthTold", "[I", true)
  | 15 => ("StolenHolidaysModel", "guardTold", "[I", true)
  | 16 => ("StolenHolidaysModel", "skill", "[I", true)
  | 17 => ("StolenHolidaysModel", "sack", "[I", true)
  | 18 => ("StolenHolidaysModel", "lineFrom", "[I", true)
  | 19 => ("StolenHolidaysModel", "lineTo", "[I", true)
  | 20 => ("StolenHolidaysModel", "codes", "[I", true)
  | 21 => ("StolenHolidaysModel", "code", "I", false)
  | 22 => ("StolenHolidaysModel", "opened", "[I", true)
  | 23 => ("StolenHolidaysModel", "compared", "[Z", true)
  | 24 => ("StolenHolidaysModel", "kept", "[I", true)
  | 25 => ("StolenHolidaysModel", "keptBy", "[I", true)
  | 26 => ("StolenHolidaysModel", "ahead", "[I", true)
  | 27 => ("StolenHolidaysModel", "against", "[I", true)
  | 28 => ("StolenHolidaysModel", "sum", "[I", true)
  | 29 => ("StolenHolidaysModel", "sumBy", "[I", true)
  | 30 => ("StolenHolidaysModel", "term", "[I", true)
  | 31 => ("StolenHolidaysModel", "termBy", "[I", true)
  | 32 => ("StolenHolidaysModel", "byNot", "[I", true)
  | 33 => ("StolenHolidaysModel", "valueOf", "[I", true)
  | 34 => ("StolenHolidaysModel", "given", "I", false)
  | 35 => ("StolenHolidaysModel", "fresh", "J", false)
  | 36 => ("StolenHolidaysModel", "lines", "[I", true)
  | 37 => ("StolenHolidaysModel", "lineWhat", "[I", true)
  | 38 => ("StolenHolidaysModel", "lineA", "[I", true)
  | 39 => ("StolenHolidaysModel", "lineB", "[I", true)
  | 40 => ("StolenHolidaysModel", "seens", "[I", true)
  | 41 => ("StolenHolidaysModel", "seenAt", "[I", true)
  | 42 => ("StolenHolidaysModel", "seenIn", "[I", true)
  | 43 => ("StolenHolidaysModel", "seenOpen", "[Z", true)
  | 44 => ("StolenHolidaysModel", "s", "[I", true)
  | 45 => ("StolenHolidaysModel", "aside", "[I", true)
  | 46 => ("StolenHolidaysModel", "before", "[I", true)
  | 47 => ("StolenHolidaysModel", "tried", "[I", true)
  | 48 => ("StolenHolidaysModel", "marked", "[I", true)
  | 49 => ("StolenHolidaysModel", "undone", "[I", true)
  | 50 => ("StolenHolidaysModel", "isLaid", "[Z", true)
  | 51 => ("StolenHolidaysModel", "done", "I", false)
  | 52 => ("StolenHolidaysModel", "greatest", "I", false)
  | 53 => ("StolenHolidaysModel", "row", "[I", true)
  | 54 => ("StolenHolidaysModel", "bestRow", "[I", true)
  | 55 => ("StolenHolidaysModel", "bestMuch", "I", false)
  | 56 => ("StolenHolidaysModel", "spreeDay", "I", false)
  | 57 => ("StolenHolidaysModel", "openIn", "[I", true)
  | _ => ("StolenHolidaysModel", "g", "J", false)
def tyX12 : Nat → FieldType := fun k => match k with
  | 0 => .int
  | 1 => .int
  | 2 => .array .int
  | 3 => .int
  | 4 => .int
  | 5 => .int
  | 6 => .int
  | 7 => .long
  | 8 => .int
  | 9 => .int
  | 10 => .array .int
  | 11 => .array .long
  | 12 => .array .long
  | 13 => .array .int
  | 14 => .array .int
  | 15 => .array .int
  | 16 => .array .int
  | 17 => .array .int
  | 18 => .array .int
  | 19 => .array .int
  | 20 => .array .int
  | 21 => .int
  | 22 => .array .int
  | 23 => .array .boolean
  | 24 => .array .int
  | 25 => .array .int
  | 26 => .array .int
  | 27 => .array .int
  | 28 => .array .int
  | 29 => .array .int
  | 30 => .array .int
  | 31 => .array .int
  | 32 => .array .int
  | 33 => .array .int
  | 34 => .int
  | 35 => .long
  | 36 => .array .int
  | 37 => .array .int
  | 38 => .array .int
  | 39 => .array .int
  | 40 => .array .int
  | 41 => .array .int
  | 42 => .array .int
  | 43 => .array .boolean
  | 44 => .array .int
  | 45 => .array .int
  | 46 => .array .int
  | 47 => .array .int
  | 48 => .array .int
  | 49 => .array .int
  | 50 => .array .boolean
  | 51 => .int
  | 52 => .int
  | 53 => .array .int
  | 54 => .array .int
  | 55 => .int
  | 56 => .int
  | 57 => .array .int
  | _ => .long
abbrev wsX120 : List Cond := u_ws RX12 TX12 59
theorem nmX12 : ∀ a, a < 59 → ∀ b, b < 59 → a ≠ b → (TX12 a).2.1 ≠ (TX12 b).2.1 := by decide +kernel
theorem tyX12_ok : ∀ k, k < 59 → parseFieldDescriptor (TX12 k).2.2.1 = some (tyX12 k) := by decide +kernel
abbrev sh_cl : List vw_C := [(RX0, TX0, 11), (RX1, TX1, 3), (RX2, TX2, 3), (RX3, TX3, 4), (RX4, TX4, 3), (RX5, TX5, 3), (RX6, TX6, 4), (RX7, TX7, 7), (RX8, TX8, 1), (RX9, TX9, 7), (RX10, TX10, 4), (RX11, TX11, 13), (RX12, TX12, 59)]
/-- the kinds of the fields: 0 int, 1 long, 2 a reference that moves, 3 boolean, 6 the cell 2, 10 and more: the cell that lies so much less 10 behind the object -/
def sh_ftl : List (List Nat) := [[0, 0, 3, 11, 12, 13, 14, 15, 16, 17, 18], [11, 12, 0], [11, 12, 0], [3, 11, 13, 17], [11, 0, 0], [6, 0, 0], [0, 11, 12, 13], [11, 12, 0, 0, 0, 0, 0], [11], [11, 0, 0, 0, 0, 1, 0], [0, 11, 12, 13], [11, 13, 14, 16, 18, 20, 24, 27, 30, 2, 2, 2, 2], [0, 0, 11, 0, 0, 0, 0, 1, 0, 0, 12, 13, 14, 15, 16, 17, 18, 19, 20, 21, 22, 0, 23, 24, 25, 26, 27, 28, 29, 30, 31, 32, 33, 34, 0, 1, 35, 36, 37, 38, 39, 40, 41, 42, 43, 44, 45, 46, 47, 48, 49, 0, 0, 50, 51, 0, 0, 52, 1]]
/-- the cells, in the order in which they are made: an object (its class) or an array (0 int, 1 long, 2 Mark, 3 boolean, 4 byte; its length) -/
def sh_shl : List (Nat ⊕ (Nat × Nat)) := [.inl 11, .inl 9, .inr (4, 1000), .inl 5, .inl 8, .inr (0, 45), .inl 8, .inr (0, 45), .inl 4, .inr (0, 720), .inl 6, .inr (0, 8), .inr (0, 8), .inr (3, 8), .inl 1, .inr (0, 4), .inr (0, 4), .inl 7, .inr (0, 48), .inr (0, 48), .inr (2, 4), .inl 0, .inr (1, 8), .inr (0, 8), .inr (0, 8), .inr (0, 8), .inr (1, 4), .inr (0, 4), .inr (0, 4), .inl 2, .inr (0, 1000), .inr (0, 32), .inl 0, .inr (1, 8), .inr (0, 8), .inr (0, 8), .inr (0, 8), .inr (1, 4), .inr (0, 4), .inr (0, 4), .inl 2, .inr (0, 1000), .inr (0, 32), .inl 10, .inr (0, 40), .inr (0, 40), .inr (0, 40), .inl 10, .inr (0, 40), .inr (0, 40), .inr (0, 40), .inl 3, .inl 8, .inr (0, 45), .inl 10, .inr (0, 40), .inr (0, 40), .inr (0, 40), .inl 6, .inr (0, 8), .inr (0, 8), .inr (3, 8), .inl 3, .inl 8, .inr (0, 45), .inl 10, .inr (0, 40), .inr (0, 40), .inr (0, 40), .inl 6, .inr (0, 8), .inr (0, 8), .inr (3, 8), .inl 3, .inl 8, .inr (0, 45), .inl 10, .inr (0, 40), .inr (0, 40), .inr (0, 40), .inl 6, .inr (0, 8), .inr (0, 8), .inr (3, 8), .inl 3, .inl 8, .inr (0, 45), .inl 10, .inr (0, 40), .inr (0, 40), .inr (0, 40), .inl 6, .inr (0, 8), .inr (0, 8), .inr (3, 8), .inl 12, .inr (0, 1000), .inr (0, 4), .inr (1, 16), .inr (1, 8), .inr (0, 16), .inr (0, 16), .inr (0, 16), .inr (0, 8), .inr (0, 8), .inr (0, 2), .inr (0, 2), .inr (0, 2000), .inr (0, 7), .inr (3, 7), .inr (0, 7), .inr (0, 7), .inr (0, 7), .inr (0, 7), .inr (0, 7), .inr (0, 7), .inr (0, 7), .inr (0, 7), .inr (0, 7), .inr (0, 20), .inr (0, 6), .inr (0, 240), .inr (0, 240), .inr (0, 240), .inr (0, 5), .inr (0, 40), .inr (0, 40), .inr (3, 40), .inr (0, 45), .inr (0, 45), .inr (0, 45), .inr (0, 270), .inr (0, 180), .inr (0, 720), .inr (3, 4), .inr (0, 4), .inr (0, 4), .inr (0, 124)]
abbrev sh_nc : Nat := 138
end
section
/-! ===== THE ABSTRACT MACHINE: values, memory, the world of the cells ===== -/
/-- an int, a long, a reference (the number of a cell; 1000 + i: the i-th text, 2000 + i: its bytes). Numbers are whole numbers that stand for what is left of them. -/
abbrev sh_V : Type := Int ⊕ (Int ⊕ Nat)
abbrev sh_i (x : Int) : sh_V := .inl x
abbrev sh_l (x : Int) : sh_V := .inr (.inl x)
abbrev sh_r (a : Nat) : sh_V := .inr (.inr a)
abbrev sh_Mem : Type := Nat → Nat → Int
/-- launch, classes' numbers, the base, array classes, texts, their bytes -/
abbrev sh_G : Type := Launch × va_G × Nat × (Nat → ClassId) × (Nat → Nat) × (Nat → Nat)
abbrev sh_M : Type := MethodName × ByteArray × Nat × Option FieldType
def sh_ad (g : sh_G) (a : Nat) : Nat := if a < 1000 then g.2.2.1 + a else if a < 2000 then g.2.2.2.2.1 (a - 1000) else g.2.2.2.2.2 (a - 2000)
def sh_cv (g : sh_G) : sh_V → Value
  | .inl x => .int (Int32.ofInt x)
  | .inr (.inl x) => .long (Int64.ofInt x)
  | .inr (.inr a) => .ref (sh_ad g a)
def sh_shp (a : Nat) : Option (Nat ⊕ (Nat × Nat)) := if a = 0 then none else sh_shl[a - 1]?
def sh_nf (ci : Nat) : Nat := (sh_ftl.getD ci []).length
def sh_ft (ci k : Nat) : Nat := (sh_ftl.getD ci []).getD k 0
def sh_fv (g : sh_G) (a t : Nat) (x : Int) : Value :=
  if t = 1 then .long (Int64.ofInt x) else if t = 2 then .ref (sh_ad g x.toNat) else if t = 6 then .ref (sh_ad g 2) else if 10 ≤ t then .ref (sh_ad g (a + (t - 10))) else .int (Int32.ofInt x)
def sh_ac (g : sh_G) (t : Nat) (f : Nat → Int) : (Nat → Int32) ⊕ (Nat → Int64) ⊕ (Nat → UInt32) ⊕ (Nat → UInt64) ⊕ (Nat → Option Nat) :=
  if t = 1 then .inr (.inl fun j => Int64.ofInt (f j)) else if t = 2 then .inr (.inr (.inr (.inr fun j => if j < 4 then some (sh_ad g (52 + 11 * j)) else none))) else .inl fun j => Int32.ofInt (f j)
def sh_fs (g : sh_G) (ci a : Nat) (r : Nat → Int) : List Value := (List.range (sh_nf ci)).map fun k => sh_fv g a (sh_ft ci k) (r k)
def sh_cel (g : sh_G) (mem : sh_Mem) (a : Nat) : va_E := match sh_shp a with
  | some (.inl ci) => .inr (ci, sh_fs g ci a (mem a))
  | some (.inr q) => .inl (g.2.2.2.1 q.1, q.2, sh_ac g q.1 (mem a))
  | none => .inr (0, [])
def sh_tys (g : sh_G) : List (ClassId × FieldType) := [(g.2.2.2.1 0, .int), (g.2.2.2.1 1, .long), (g.2.2.2.1 2, .object "StolenHolidays$Mark"), (g.2.2.2.1 3, .boolean), (g.2.2.2.1 4, .byte)]
def sh_w (g : sh_G) (mem : sh_Mem) : va_W := (List.range sh_nc).map fun i => (sh_ad g (i + 1), sh_cel g mem (i + 1))
/-- the cells of the world -/
def sh_A (g : sh_G) (q : Nat) : Prop := g.2.2.1 < q ∧ q ≤ g.2.2.1 + sh_nc
/-- one cell's row is another -/
def ms (mem : sh_Mem) (a : Nat) (r : Nat → Int) : sh_Mem := fun b => if b = a then r else mem b
def ru (r : Nat → Int) (i : Nat) (x : Int) : Nat → Int := fun j => if j = i then x else r j
theorem ms_s (mem : sh_Mem) (a : Nat) (r : Nat → Int) : ms mem a r a = r := if_pos rfl
theorem ms_n (mem : sh_Mem) {a b : Nat} (r : Nat → Int) (h : b ≠ a) : ms mem a r b = mem b := if_neg h
theorem ms_ms (mem : sh_Mem) (a : Nat) (r r2 : Nat → Int) : ms (ms mem a r) a r2 = ms mem a r2 := by
  funext b; unfold ms; split <;> rfl
theorem ms_id (mem : sh_Mem) (a : Nat) : ms mem a (mem a) = mem := by
  funext b; unfold ms; split
  · rename_i h; rw [h]
  · rfl
theorem ms_sw (mem : sh_Mem) {a b : Nat} (r r2 : Nat → Int) (h : a ≠ b) : ms (ms mem a r) b r2 = ms (ms mem b r2) a r := by
  funext c; unfold ms
  by_cases h1 : c = b
  · subst h1; rw [if_pos rfl, if_neg (Ne.symm h), if_pos rfl]
  · rw [if_neg h1]; by_cases h2 : c = a
    · rw [if_pos h2, if_pos h2]
    · rw [if_neg h2, if_neg h2, if_neg h1]
theorem ru_s (r : Nat → Int) (i : Nat) (x : Int) : ru r i x i = x := if_pos rfl
theorem ru_n (r : Nat → Int) {i j : Nat} (x : Int) (h : j ≠ i) : ru r i x j = r j := if_neg h
theorem sh_shp_lt {a : Nat} {q} (h : sh_shp a = some q) : 1 ≤ a ∧ a ≤ sh_nc := by
  unfold sh_shp at h
  by_cases h0 : a = 0
  · rw [if_pos h0] at h; cases h
  · rw [if_neg h0] at h
    have h1 := (List.getElem?_eq_some_iff.mp h).1
    have h2 : sh_shl.length = 138 := by decide +kernel
    rw [h2] at h1
    exact ⟨by omega, by show a ≤ 138; omega⟩
theorem sh_w_get (g : sh_G) (mem : sh_Mem) {a : Nat} (h : 1 ≤ a) (h2 : a ≤ sh_nc) : (sh_w g mem)[a - 1]? = some (sh_ad g a, sh_cel g mem a) := by
  have e : a - 1 + 1 = a := by omega
  unfold sh_w
  rw [List.getElem?_map, List.getElem?_range (by omega)]
  simp only [Option.map_some, e]
theorem sh_w_set (g : sh_G) {mem mem' : sh_Mem} {a : Nat} {x : va_E} (h : 1 ≤ a) (hm : ∀ b, b ≠ a → mem' b = mem b) (hx : x = sh_cel g mem' a) : (sh_w g mem).set (a - 1) (sh_ad g a, x) = sh_w g mem' := by
  apply List.ext_getElem?
  intro i
  unfold sh_w
  by_cases hi : i < sh_nc
  · by_cases e : i = a - 1
    · subst e
      have e2 : a - 1 + 1 = a := by omega
      rw [List.getElem?_set_self (by simpa using hi), List.getElem?_map, List.getElem?_range hi, hx]
      simp only [Option.map_some, e2]
    · rw [List.getElem?_set_ne (Ne.symm e), List.getElem?_map, List.getElem?_map, List.getElem?_range hi]
      have e3 : mem' (i + 1) = mem (i + 1) := hm _ (by omega)
      simp only [Option.map_some, sh_cel, e3]
  · rw [List.getElem?_eq_none (by simpa using hi), List.getElem?_eq_none (by simpa using hi)]
theorem sh_ad_lo (g : sh_G) {a : Nat} (h : a ≤ sh_nc) : sh_ad g a = g.2.2.1 + a := if_pos (Nat.lt_of_le_of_lt h (by decide))
theorem sh_w_D (g : sh_G) (mem : sh_Mem) {A : Nat → Prop} (hA : ∀ q, sh_A g q → A q) : va_D A (sh_w g mem) := by
  have key : ∀ (k : Nat) (q : Nat × va_E), (sh_w g mem)[k]? = some q → k < sh_nc ∧ q.1 = g.2.2.1 + (k + 1) := by
    intro k q hk
    by_cases h : k < sh_nc
    · have h1 := sh_w_get g mem (a := k + 1) (by omega) (by omega)
      rw [Nat.add_sub_cancel] at h1
      rw [h1] at hk
      cases hk
      exact ⟨h, sh_ad_lo g (by omega)⟩
    · unfold sh_w at hk
      rw [List.getElem?_eq_none (by simpa using h)] at hk
      cases hk
  refine ⟨fun i j p q hi hj e => ?_, fun k q hk => hA _ ?_⟩
  · have h1 := (key i p hi).2
    have h2 := (key j q hj).2
    omega
  · obtain ⟨h1, h2⟩ := key k q hk
    rw [h2]
    exact ⟨by omega, by omega⟩
theorem sh_cel_o (g : sh_G) (mem : sh_Mem) {a ci : Nat} (h : sh_shp a = some (.inl ci)) : sh_cel g mem a = .inr (ci, sh_fs g ci a (mem a)) := by
  unfold sh_cel; rw [h]
theorem sh_cel_a (g : sh_G) (mem : sh_Mem) {a t n : Nat} (h : sh_shp a = some (.inr (t, n))) : sh_cel g mem a = .inl (g.2.2.2.1 t, n, sh_ac g t (mem a)) := by
  unfold sh_cel; rw [h]
theorem sh_fs_get (g : sh_G) {ci a k : Nat} (r : Nat → Int) (h : k < sh_nf ci) : (sh_fs g ci a r)[k]? = some (sh_fv g a (sh_ft ci k) (r k)) := by
  unfold sh_fs
  rw [List.getElem?_map, List.getElem?_range h]
  rfl
theorem sh_fs_set (g : sh_G) {ci a k : Nat} (r : Nat → Int) (x : Int) : (sh_fs g ci a r).set k (sh_fv g a (sh_ft ci k) x) = sh_fs g ci a (ru r k x) := by
  apply List.ext_getElem?
  intro i
  unfold sh_fs
  by_cases hi : i < sh_nf ci
  · by_cases e : i = k
    · subst e
      rw [List.getElem?_set_self (by simpa using hi), List.getElem?_map, List.getElem?_range hi, Option.map_some, ru_s]
    · rw [List.getElem?_set_ne (Ne.symm e), List.getElem?_map, List.getElem?_map, List.getElem?_range hi, Option.map_some, Option.map_some, ru_n _ _ e]
  · rw [List.getElem?_eq_none (by simpa using hi), List.getElem?_eq_none (by simpa using hi)]
end
section
/-! ===== texts ===== -/
def sh_sr : List (String × Nat × String) := [("StolenHolidays$Tape", 44, "()<=+-*;"), ("StolenHolidays$Reader", 46, "day"), ("StolenHolidays$Tape", 68, "day worth guard thief skill sack pays night steal sell spend swap plain sunday wet feast not and or "), ("StolenHolidays$Reader", 184, "plain"), ("StolenHolidays$Reader", 186, "sunday"), ("StolenHolidays$Reader", 188, "wet"), ("StolenHolidays$Reader", 190, "feast"), ("StolenHolidays$Reader", 94, "worth"), ("StolenHolidays$Reader", 109, "guard"), ("StolenHolidays$Reader", 55, "thief"), ("StolenHolidays$Reader", 123, "skill"), ("StolenHolidays$Reader", 128, "sack"), ("StolenHolidays$Reader", 60, "pays"), ("StolenHolidays$Reader", 168, "not"), ("StolenHolidays$Reader", 176, "much"), ("StolenHolidays$Reader", 178, "old"), ("StolenHolidays$Reader", 180, "sort"), ("StolenHolidays$Reader", 182, "date"), ("StolenHolidays$Reader", 151, "and"), ("StolenHolidays$Reader", 153, "or"), ("StolenHolidays$Reader", 209, "night"), ("StolenHolidays$Reader", 211, "steal"), ("StolenHolidays$Reader", 213, "sell"), ("StolenHolidays$Reader", 215, "spend"), ("StolenHolidays$Reader", 217, "swap")]
def sh_len : List Nat := [8, 3, 100, 5, 6, 3, 5, 5, 5, 5, 5, 4, 4, 3, 4, 3, 4, 4, 3, 2, 5, 5, 4, 5, 4]
def sh_byt : List (List Int32) := [[40, 41, 60, 61, 43, 45, 42, 59], [100, 97, 121], [100, 97, 121, 32, 119, 111, 114, 116, 104, 32, 103, 117, 97, 114, 100, 32, 116, 104, 105, 101, 102, 32, 115, 107, 105, 108, 108, 32, 115, 97, 99, 107, 32, 112, 97, 121, 115, 32, 110, 105, 103, 104, 116, 32, 115, 116, 101, 97, 108, 32, 115, 101, 108, 108, 32, 115, 112, 101, 110, 100, 32, 115, 119, 97, 112, 32, 112, 108, 97, 105, 110, 32, 115, 117, 110, 100, 97, 121, 32, 119, 101, 116, 32, 102, 101, 97, 115, 116, 32, 110, 111, 116, 32, 97, 110, 100, 32, 111, 114, 32], [112, 108, 97, 105, 110], [115, 117, 110, 100, 97, 121], [119, 101, 116], [102, 101, 97, 115, 116], [119, 111, 114, 116, 104], [103, 117, 97, 114, 100], [116, 104, 105, 101, 102], [115, 107, 105, 108, 108], [115, 97, 99, 107], [112, 97, 121, 115], [110, 111, 116], [109, 117, 99, 104], [111, 108, 100], [115, 111, 114, 116], [100, 97, 116, 101], [97, 110, 100], [111, 114], [110, 105, 103, 104, 116], [115, 116, 101, 97, 108], [115, 101, 108, 108], [115, 112, 101, 110, 100], [115, 119, 97, 112]]
abbrev sh_nS : Nat := 25

def lw_g : List Cond := lw_tbl.filter goodWord
theorem lw_g_in {x : Cond} (h : x ∈ lw_tbl) (h2 : goodWord x = true) : x ∈ lw_g := List.mem_filter.mpr ⟨h, h2⟩
theorem lw_g_good : ∀ x ∈ lw_g, (x.onTables && x.keeps) = true ∨ ∃ ty, x = .arrayClass ty := fun x h => good_of_word (List.mem_filter.mp h).2
/-- what stays as it is while the program runs: tables, texts, one static -/
def sh_E (g : sh_G) (A : Nat → Prop) (U : State) (H : Heap) : Prop :=
  va_K g.2.1 sh_cl (sh_tys g) U ∧ vk_S sh_nS sh_len sh_byt g.2.2.2.2.1 g.2.2.2.2.2 A U H ∧ (∀ i q, sh_sr[i]? = some q → vk_R q.1 q.2.1 q.2.2 (g.2.2.2.2.1 i) U) ∧ va_Z "java/lang/String" "COMPACT_STRINGS" "Z" (.int 1) A U H
def sh_C (g : sh_G) (M : sh_M) (d : Nat) (A : Nat → Prop) (p : Program) (R : Room) (s : State) (m : MethodId) (args : Array Value) (c : Code) (cells slots : Nat) : Prop :=
  p.tables.exec = Jvm.exec ∧ c.code = M.2.1 ∧ c.maxLocals = M.2.2.1 ∧ s.vm.findClass M.1.cls = some m.cls ∧ (∀ x ∈ lw_g, x.before args s = true) ∧ (d ≤ R.frames ∧ 64 * d ≤ R.locals ∧ cells ≤ R.cells ∧ slots ≤ R.slots) ∧ (∀ q, sh_A g q → A q) ∧ sh_E g A s s.heap
abbrev sh_cl1 (g : sh_G) (q : Nat × sh_V) : Nat × Value := (q.1, sh_cv g q.2)
def sh_R (g : sh_G) (M : sh_M) (A : Nat → Prop) (s : State) (mem : sh_Mem) (lo : List (Nat × sh_V)) (H : Heap) (locs : List Loc) (ls : Array Slot) : Prop :=
  va_P g.2.1 sh_cl (sh_w g mem) H ∧ va_S A s.heap H locs ∧ lv_has ls M.2.2.1 (lo.map (sh_cl1 g))
/-- from here the machine comes to a place of K -/
def sh_X (g : sh_G) (d : Nat) (M : sh_M) (pc : Nat) (lo : List (Nat × sh_V)) (st : List sh_V) (mem : sh_Mem) (K : Nat → List (Nat × sh_V) → List sh_V → sh_Mem → Prop) : Prop :=
  ∀ (p : Program) (e : Env) (R : Room) (s : State) (m : MethodId) (args : Array Value) (below : List Frame) (meth : Method) (c : Code) (A : Nat → Prop) (H : Heap) (locs : List Loc) (ls : Array Slot) (cells slots : Nat) (Qf : State → Prop),
    sh_C g M d A p R s m args c cells slots → sh_R g M A s mem lo H locs ls →
    (∀ pc' lo' st' mem' H' locs' ls', K pc' lo' st' mem' → sh_R g M A s mem' lo' H' locs' ls' → W p g.1 e R s m args below meth c H' locs' cells slots Qf (F0 m pc' ls' (st'.map (sh_cv g)))) →
    W p g.1 e R s m args below meth c H locs cells slots Qf (F0 m pc ls (st.map (sh_cv g)))
/-- an int as the machine sees it -/
def i3 (x : Int) : Int := (Int32.ofInt x).toInt
def i6 (x : Int) : Int := (Int64.ofInt x).toInt
theorem i3_id {x : Int} (h1 : -2147483648 ≤ x) (h2 : x < 2147483648) : i3 x = x := by
  unfold i3; rw [Int32.toInt_ofInt]
  show Int.bmod x 4294967296 = x
  exact Int.bmod_eq_of_le_mul_two (by omega) (by omega)
theorem i6_id {x : Int} (h1 : -9223372036854775808 ≤ x) (h2 : x < 9223372036854775808) : i6 x = x := by
  unfold i6; rw [Int64.toInt_ofInt]
  show Int.bmod x 18446744073709551616 = x
  exact Int.bmod_eq_of_le_mul_two (by omega) (by omega)
theorem i3_of (x : Int) : Int32.ofInt (i3 x) = Int32.ofInt x := Int32.ofInt_toInt _
theorem i6_of (x : Int) : Int64.ofInt (i6 x) = Int64.ofInt x := Int64.ofInt_toInt _
theorem i3_rng (x : Int) : -2147483648 ≤ i3 x ∧ i3 x < 2147483648 := ⟨Int32.le_toInt _, Int32.toInt_lt _⟩
theorem i3_i3 (x : Int) : i3 (i3 x) = i3 x := i3_id (i3_rng x).1 (i3_rng x).2
theorem i3_eq (a b : Int) : Int32.ofInt a = Int32.ofInt b ↔ i3 a = i3 b := Int32.toInt_inj.symm
theorem i3_lt (a b : Int) : Int32.ofInt a < Int32.ofInt b ↔ i3 a < i3 b := Int32.lt_iff_toInt_lt
theorem i3_le (a b : Int) : Int32.ofInt a ≤ Int32.ofInt b ↔ i3 a ≤ i3 b := Int32.le_iff_toInt_le
theorem i3_0 : i3 0 = 0 := rfl
theorem i3_eq0 (a : Int) : Int32.ofInt a = 0 ↔ i3 a = 0 := i3_eq a 0
theorem i3_lt0 (a : Int) : Int32.ofInt a < 0 ↔ i3 a < 0 := i3_lt a 0
theorem i3_0le (a : Int) : 0 ≤ Int32.ofInt a ↔ 0 ≤ i3 a := i3_le 0 a
theorem i3_0lt (a : Int) : 0 < Int32.ofInt a ↔ 0 < i3 a := i3_lt 0 a
theorem i3_le0 (a : Int) : Int32.ofInt a ≤ 0 ↔ i3 a ≤ 0 := i3_le a 0
def i_and (a b : Int) : Int := (Int32.ofInt a &&& Int32.ofInt b).toInt
def i_or (a b : Int) : Int := (Int32.ofInt a ||| Int32.ofInt b).toInt
def i_xor (a b : Int) : Int := (Int32.ofInt a ^^^ Int32.ofInt b).toInt
def i_shl (a b : Int) : Int := (Int32.ofInt a <<< (Int32.ofInt b &&& 31)).toInt
def i_shr (a b : Int) : Int := (Int32.ofInt a >>> (Int32.ofInt b &&& 31)).toInt
def i_ushr (a b : Int) : Int := ((Int32.ofInt a).toUInt32 >>> ((Int32.ofInt b).toUInt32 &&& Int32.toUInt32 31)).toInt32.toInt
def i_div (a b : Int) : Int := (Int32.ofInt a / Int32.ofInt b).toInt
def i_rem (a b : Int) : Int := (Int32.ofInt a - Int32.ofInt a / Int32.ofInt b * Int32.ofInt b).toInt
def i_2c (a : Int) : Int := ((Int32.ofInt a).toUInt32 % 65536).toInt32.toInt
def i_2b (a : Int) : Int := (Int32.ofInt a).toInt8.toInt32.toInt
def l_and (a b : Int) : Int := (Int64.ofInt a &&& Int64.ofInt b).toInt
def l_or (a b : Int) : Int := (Int64.ofInt a ||| Int64.ofInt b).toInt
def l_shl (a b : Int) : Int := (Int64.ofInt a <<< ((Int32.ofInt b).toInt64 &&& 63)).toInt
def l_ushr (a b : Int) : Int := ((Int64.ofInt a).toUInt64 >>> ((Int32.ofInt b).toInt64.toUInt64 &&& Int64.toUInt64 63)).toInt64.toInt
def l_div (a b : Int) : Int := (Int64.ofInt a / Int64.ofInt b).toInt
def l_rem (a b : Int) : Int := (Int64.ofInt a - Int64.ofInt a / Int64.ofInt b * Int64.ofInt b).toInt
def l_2i (a : Int) : Int := (Int64.ofInt a).toInt32.toInt
def l_cmp (a b : Int) : Int := (lg_cmp (Int64.ofInt a) (Int64.ofInt b)).toInt
def i_2l (a : Int) : Int := (Int32.ofInt a).toInt64.toInt
section XR
variable {g : sh_G} {d : Nat} {M : sh_M} {pc : Nat} {lo : List (Nat × sh_V)} {st : List sh_V} {mem : sh_Mem} {K : Nat → List (Nat × sh_V) → List sh_V → sh_Mem → Prop}
theorem sh_go {pc' : Nat} {st' : List sh_V} (h : ∀ (p : Program) (e : Env) (R : Room) (s : State) (m : MethodId) (args : Array Value) (below : List Frame) (meth : Method) (c : Code) (A : Nat → Prop) (H : Heap) (locs : List Loc) (ls : Array Slot) (cells slots : Nat) (Qf : State → Prop), sh_C g M d A p R s m args c cells slots → sh_R g M A s mem lo H locs ls → W p g.1 e R s m args below meth c H locs cells slots Qf (F0 m pc' ls (st'.map (sh_cv g))) → W p g.1 e R s m args below meth c H locs cells slots Qf (F0 m pc ls (st.map (sh_cv g))))
    (k : sh_X g d M pc' lo st' mem K) : sh_X g d M pc lo st mem K :=
  fun p e R s m args below meth c A H locs ls cells slots Qf C Rl hk => h p e R s m args below meth c A H locs ls cells slots Qf C Rl (k p e R s m args below meth c A H locs ls cells slots Qf C Rl hk)
theorem xr_here (h : K pc lo st mem) : sh_X g d M pc lo st mem K := fun p e R s m args below meth c A H locs ls cells slots Qf C Rl hk => hk pc lo st mem H locs ls h Rl
theorem sh_lo {i : Nat} {v : sh_V} {A : Nat → Prop} {s : State} {H : Heap} {locs : List Loc} {ls : Array Slot} (Rl : sh_R g M A s mem lo H locs ls) (h : (i, v) ∈ lo) : ls[i]? = some (.val (sh_cv g v)) := Rl.2.2.2.2 (sh_cl1 g (i, v)) (List.mem_map_of_mem h)

theorem xr_iconst {n : Int} (hd : decode M.2.1 pc = .ok (.iconst n, 1)) (k : sh_X g d M (pc + 1) lo (sh_i n :: st) mem K) : sh_X g d M pc lo (st) mem K :=
  sh_go (fun p e R s m args below meth c A H locs ls cells slots Qf C Rl z => lv_iconst C.1 C.2.1 hd rfl z) k
theorem xr_bipush {n v : Int} (hv : (Int8.ofInt n).toInt32 = Int32.ofInt v) (hd : decode M.2.1 pc = .ok (.bipush n, 2)) (k : sh_X g d M (pc + 2) lo (sh_i v :: st) mem K) : sh_X g d M pc lo (st) mem K :=
  sh_go (fun p e R s m args below meth c A H locs ls cells slots Qf C Rl z => lv_bipush C.1 C.2.1 hd hv z) k
theorem xr_sipush {n v : Int} (hv : (Int16.ofInt n).toInt32 = Int32.ofInt v) (hd : decode M.2.1 pc = .ok (.sipush n, 3)) (k : sh_X g d M (pc + 3) lo (sh_i v :: st) mem K) : sh_X g d M pc lo (st) mem K :=
  sh_go (fun p e R s m args below meth c A H locs ls cells slots Qf C Rl z => lv_sipush C.1 C.2.1 hd hv z) k
theorem xr_lconst {n : Fin 2} {v : Int} (hv : Int64.ofNat (n : Nat) = Int64.ofInt v) (hd : decode M.2.1 pc = .ok (.lconst n, 1)) (k : sh_X g d M (pc + 1) lo (sh_l v :: st) mem K) : sh_X g d M pc lo (st) mem K :=
  sh_go (fun p e R s m args below meth c A H locs ls cells slots Qf C Rl z => lv_lconst C.1 C.2.1 hd hv z) k
theorem xr_ldcI {ix : Nat} {v : Int} {v3 : Int32} (hv : v3 = Int32.ofInt v) (hl : Cond.constant M.1.cls ix v3 ∈ lw_g) (hd : decode M.2.1 pc = .ok (.ldc ix, 2)) (k : sh_X g d M (pc + 2) lo (sh_i v :: st) mem K) : sh_X g d M pc lo (st) mem K :=
  sh_go (fun p e R s m args below meth c A H locs ls cells slots Qf C Rl z => lv_ldc C.1 C.2.1 C.2.2.2.1 (C.2.2.2.2.1 _ hl) hd (by rw [hv]; exact z)) k
theorem xr_ldcwI {ix : Nat} {v : Int} {v3 : Int32} (hv : v3 = Int32.ofInt v) (hl : Cond.constant M.1.cls ix v3 ∈ lw_g) (hd : decode M.2.1 pc = .ok (.ldc_w ix, 3)) (k : sh_X g d M (pc + 3) lo (sh_i v :: st) mem K) : sh_X g d M pc lo (st) mem K :=
  sh_go (fun p e R s m args below meth c A H locs ls cells slots Qf C Rl z => lv_ldcw C.1 C.2.1 C.2.2.2.1 (C.2.2.2.2.1 _ hl) hd (by rw [hv]; exact z)) k
theorem xr_ldc2 {ix : Nat} {v : Int} {v3 : Int64} (hv : v3 = Int64.ofInt v) (hl : Cond.constantLong M.1.cls ix v3 ∈ lw_g) (hd : decode M.2.1 pc = .ok (.ldc2_w ix, 3)) (k : sh_X g d M (pc + 3) lo (sh_l v :: st) mem K) : sh_X g d M pc lo (st) mem K :=
  sh_go (fun p e R s m args below meth c A H locs ls cells slots Qf C Rl z => lv_ldc2 C.1 C.2.1 C.2.2.2.1 (C.2.2.2.2.1 _ hl) hd (by rw [hv]; exact z)) k
theorem xr_ldcS {ix i : Nat} {tx : String} (hi : i < 1000) (hs : sh_sr[i]? = some (M.1.cls, ix, tx)) (hd : decode M.2.1 pc = .ok (.ldc ix, 2)) (k : sh_X g d M (pc + 2) lo (sh_r (1000 + i) :: st) mem K) : sh_X g d M pc lo (st) mem K :=
  sh_go (fun p e R s m args below meth c A H locs ls cells slots Qf C Rl z => va_ldcS C.1 C.2.1 C.2.2.2.1 (C.2.2.2.2.2.2.2.2.2.1 i _ hs) hd (by have q : sh_cv g (sh_r (1000 + i)) = .ref (g.2.2.2.2.1 i) := (by show Value.ref (sh_ad g (1000 + i)) = _; unfold sh_ad; rw [if_neg (by omega), if_pos (by omega), Nat.add_sub_cancel_left]); rw [← q]; exact z)) k
theorem xr_iload {i : Nat} {x : Int} (hm : (i, sh_i x) ∈ lo) (hd : decode M.2.1 pc = .ok (.iload i, 2)) (k : sh_X g d M (pc + 2) lo (sh_i x :: st) mem K) : sh_X g d M pc lo (st) mem K :=
  sh_go (fun p e R s m args below meth c A H locs ls cells slots Qf C Rl z => lv_iload C.1 C.2.1 hd (sh_lo Rl hm) z) k
theorem xr_iload_n {n : Fin 4} {i : Nat} {x : Int} (hi : (n : Nat) = i) (hm : (i, sh_i x) ∈ lo) (hd : decode M.2.1 pc = .ok (.iload_n n, 1)) (k : sh_X g d M (pc + 1) lo (sh_i x :: st) mem K) : sh_X g d M pc lo (st) mem K :=
  sh_go (fun p e R s m args below meth c A H locs ls cells slots Qf C Rl z => lv_iload_n C.1 C.2.1 hd hi (sh_lo Rl hm) z) k
theorem xr_lload {i : Nat} {x : Int} (hm : (i, sh_l x) ∈ lo) (hd : decode M.2.1 pc = .ok (.lload i, 2)) (k : sh_X g d M (pc + 2) lo (sh_l x :: st) mem K) : sh_X g d M pc lo (st) mem K :=
  sh_go (fun p e R s m args below meth c A H locs ls cells slots Qf C Rl z => lv_lload C.1 C.2.1 hd (sh_lo Rl hm) z) k
theorem xr_lload_n {n : Fin 4} {i : Nat} {x : Int} (hi : (n : Nat) = i) (hm : (i, sh_l x) ∈ lo) (hd : decode M.2.1 pc = .ok (.lload_n n, 1)) (k : sh_X g d M (pc + 1) lo (sh_l x :: st) mem K) : sh_X g d M pc lo (st) mem K :=
  sh_go (fun p e R s m args below meth c A H locs ls cells slots Qf C Rl z => lv_lload_n C.1 C.2.1 hd hi (sh_lo Rl hm) z) k
theorem xr_aload {i a : Nat} (hm : (i, sh_r a) ∈ lo) (hd : decode M.2.1 pc = .ok (.aload i, 2)) (k : sh_X g d M (pc + 2) lo (sh_r a :: st) mem K) : sh_X g d M pc lo (st) mem K :=
  sh_go (fun p e R s m args below meth c A H locs ls cells slots Qf C Rl z => lv_aload C.1 C.2.1 hd (sh_lo Rl hm) z) k
theorem xr_aload_n {n : Fin 4} {i a : Nat} (hi : (n : Nat) = i) (hm : (i, sh_r a) ∈ lo) (hd : decode M.2.1 pc = .ok (.aload_n n, 1)) (k : sh_X g d M (pc + 1) lo (sh_r a :: st) mem K) : sh_X g d M pc lo (st) mem K :=
  sh_go (fun p e R s m args below meth c A H locs ls cells slots Qf C Rl z => lv_aload_n C.1 C.2.1 hd hi (sh_lo Rl hm) z) k
theorem xr_iadd {a b : Int} (hd : decode M.2.1 pc = .ok (.iadd, 1)) (k : sh_X g d M (pc + 1) lo (sh_i (a + b) :: st) mem K) : sh_X g d M pc lo (sh_i b :: sh_i a :: st) mem K :=
  sh_go (fun p e R s m args below meth c A H locs ls cells slots Qf C Rl z => lv_iadd C.1 C.2.1 hd (by rw [← Int32.ofInt_add]; exact z)) k
theorem xr_isub {a b : Int} (hd : decode M.2.1 pc = .ok (.isub, 1)) (k : sh_X g d M (pc + 1) lo (sh_i (a - b) :: st) mem K) : sh_X g d M pc lo (sh_i b :: sh_i a :: st) mem K :=
  sh_go (fun p e R s m args below meth c A H locs ls cells slots Qf C Rl z => lv_isub C.1 C.2.1 hd (by rw [← Int32.ofInt_sub]; exact z)) k
theorem xr_imul {a b : Int} (hd : decode M.2.1 pc = .ok (.imul, 1)) (k : sh_X g d M (pc + 1) lo (sh_i (a * b) :: st) mem K) : sh_X g d M pc lo (sh_i b :: sh_i a :: st) mem K :=
  sh_go (fun p e R s m args below meth c A H locs ls cells slots Qf C Rl z => lv_imul C.1 C.2.1 hd (by rw [← Int32.ofInt_mul]; exact z)) k
theorem xr_ladd {a b : Int} (hd : decode M.2.1 pc = .ok (.ladd, 1)) (k : sh_X g d M (pc + 1) lo (sh_l (a + b) :: st) mem K) : sh_X g d M pc lo (sh_l b :: sh_l a :: st) mem K :=
  sh_go (fun p e R s m args below meth c A H locs ls cells slots Qf C Rl z => lv_ladd C.1 C.2.1 hd (by rw [← Int64.ofInt_add]; exact z)) k
theorem xr_lsub {a b : Int} (hd : decode M.2.1 pc = .ok (.lsub, 1)) (k : sh_X g d M (pc + 1) lo (sh_l (a - b) :: st) mem K) : sh_X g d M pc lo (sh_l b :: sh_l a :: st) mem K :=
  sh_go (fun p e R s m args below meth c A H locs ls cells slots Qf C Rl z => lv_lsub C.1 C.2.1 hd (by rw [← Int64.ofInt_sub]; exact z)) k
theorem xr_lmul {a b : Int} (hd : decode M.2.1 pc = .ok (.lmul, 1)) (k : sh_X g d M (pc + 1) lo (sh_l (a * b) :: st) mem K) : sh_X g d M pc lo (sh_l b :: sh_l a :: st) mem K :=
  sh_go (fun p e R s m args below meth c A H locs ls cells slots Qf C Rl z => lv_lmul C.1 C.2.1 hd (by rw [← Int64.ofInt_mul]; exact z)) k
theorem xr_iand {a b : Int} (hd : decode M.2.1 pc = .ok (.iand, 1)) (k : sh_X g d M (pc + 1) lo (sh_i (i_and a b) :: st) mem K) : sh_X g d M pc lo (sh_i b :: sh_i a :: st) mem K :=
  sh_go (fun p e R s m args below meth c A H locs ls cells slots Qf C Rl z => lv_iand C.1 C.2.1 hd (by have q := z; simp only [List.map_cons, sh_cv, i_and, Int32.ofInt_toInt] at q; exact q)) k
theorem xr_ior {a b : Int} (hd : decode M.2.1 pc = .ok (.ior, 1)) (k : sh_X g d M (pc + 1) lo (sh_i (i_or a b) :: st) mem K) : sh_X g d M pc lo (sh_i b :: sh_i a :: st) mem K :=
  sh_go (fun p e R s m args below meth c A H locs ls cells slots Qf C Rl z => lv_ior C.1 C.2.1 hd (by have q := z; simp only [List.map_cons, sh_cv, i_or, Int32.ofInt_toInt] at q; exact q)) k
theorem xr_ixor {a b : Int} (hd : decode M.2.1 pc = .ok (.ixor, 1)) (k : sh_X g d M (pc + 1) lo (sh_i (i_xor a b) :: st) mem K) : sh_X g d M pc lo (sh_i b :: sh_i a :: st) mem K :=
  sh_go (fun p e R s m args below meth c A H locs ls cells slots Qf C Rl z => lv_ixor C.1 C.2.1 hd (by have q := z; simp only [List.map_cons, sh_cv, i_xor, Int32.ofInt_toInt] at q; exact q)) k
theorem xr_ishl {a b : Int} (hd : decode M.2.1 pc = .ok (.ishl, 1)) (k : sh_X g d M (pc + 1) lo (sh_i (i_shl a b) :: st) mem K) : sh_X g d M pc lo (sh_i b :: sh_i a :: st) mem K :=
  sh_go (fun p e R s m args below meth c A H locs ls cells slots Qf C Rl z => lv_ishl C.1 C.2.1 hd (by have q := z; simp only [List.map_cons, sh_cv, i_shl, Int32.ofInt_toInt] at q; exact q)) k
theorem xr_ishr {a b : Int} (hd : decode M.2.1 pc = .ok (.ishr, 1)) (k : sh_X g d M (pc + 1) lo (sh_i (i_shr a b) :: st) mem K) : sh_X g d M pc lo (sh_i b :: sh_i a :: st) mem K :=
  sh_go (fun p e R s m args below meth c A H locs ls cells slots Qf C Rl z => lv_ishr C.1 C.2.1 hd (by have q := z; simp only [List.map_cons, sh_cv, i_shr, Int32.ofInt_toInt] at q; exact q)) k
theorem xr_land {a b : Int} (hd : decode M.2.1 pc = .ok (.land, 1)) (k : sh_X g d M (pc + 1) lo (sh_l (l_and a b) :: st) mem K) : sh_X g d M pc lo (sh_l b :: sh_l a :: st) mem K :=
  sh_go (fun p e R s m args below meth c A H locs ls cells slots Qf C Rl z => lv_land C.1 C.2.1 hd (by have q := z; simp only [List.map_cons, sh_cv, l_and, Int64.ofInt_toInt] at q; exact q)) k
theorem xr_lor {a b : Int} (hd : decode M.2.1 pc = .ok (.lor, 1)) (k : sh_X g d M (pc + 1) lo (sh_l (l_or a b) :: st) mem K) : sh_X g d M pc lo (sh_l b :: sh_l a :: st) mem K :=
  sh_go (fun p e R s m args below meth c A H locs ls cells slots Qf C Rl z => lv_lor C.1 C.2.1 hd (by have q := z; simp only [List.map_cons, sh_cv, l_or, Int64.ofInt_toInt] at q; exact q)) k
theorem xr_idiv {a b : Int} (hz : ¬ Int32.ofInt b = 0) (hd : decode M.2.1 pc = .ok (.idiv, 1)) (k : sh_X g d M (pc + 1) lo (sh_i (i_div a b) :: st) mem K) : sh_X g d M pc lo (sh_i b :: sh_i a :: st) mem K :=
  sh_go (fun p e R s m args below meth c A H locs ls cells slots Qf C Rl z => lv_idiv C.1 C.2.1 hd hz (by have q := z; simp only [List.map_cons, sh_cv, i_div, Int32.ofInt_toInt] at q; exact q)) k
theorem xr_irem {a b : Int} (hz : ¬ Int32.ofInt b = 0) (hd : decode M.2.1 pc = .ok (.irem, 1)) (k : sh_X g d M (pc + 1) lo (sh_i (i_rem a b) :: st) mem K) : sh_X g d M pc lo (sh_i b :: sh_i a :: st) mem K :=
  sh_go (fun p e R s m args below meth c A H locs ls cells slots Qf C Rl z => lv_irem C.1 C.2.1 hd hz (by have q := z; simp only [List.map_cons, sh_cv, i_rem, Int32.ofInt_toInt] at q; exact q)) k
theorem xr_ldiv {a b : Int} (hz : ¬ Int64.ofInt b = 0) (hd : decode M.2.1 pc = .ok (.ldiv, 1)) (k : sh_X g d M (pc + 1) lo (sh_l (l_div a b) :: st) mem K) : sh_X g d M pc lo (sh_l b :: sh_l a :: st) mem K :=
  sh_go (fun p e R s m args below meth c A H locs ls cells slots Qf C Rl z => lv_ldiv C.1 C.2.1 hd hz (by have q := z; simp only [List.map_cons, sh_cv, l_div, Int64.ofInt_toInt] at q; exact q)) k
theorem xr_lrem {a b : Int} (hz : ¬ Int64.ofInt b = 0) (hd : decode M.2.1 pc = .ok (.lrem, 1)) (k : sh_X g d M (pc + 1) lo (sh_l (l_rem a b) :: st) mem K) : sh_X g d M pc lo (sh_l b :: sh_l a :: st) mem K :=
  sh_go (fun p e R s m args below meth c A H locs ls cells slots Qf C Rl z => lv_lrem C.1 C.2.1 hd hz (by have q := z; simp only [List.map_cons, sh_cv, l_rem, Int64.ofInt_toInt] at q; exact q)) k
theorem xr_ineg {a : Int} (hd : decode M.2.1 pc = .ok (.ineg, 1)) (k : sh_X g d M (pc + 1) lo (sh_i (-a) :: st) mem K) : sh_X g d M pc lo (sh_i a :: st) mem K :=
  sh_go (fun p e R s m args below meth c A H locs ls cells slots Qf C Rl z => lv_ineg C.1 C.2.1 hd (by rw [← Int32.ofInt_neg]; exact z)) k
theorem xr_iushr {a b : Int} (hd : decode M.2.1 pc = .ok (.iushr, 1)) (k : sh_X g d M (pc + 1) lo (sh_i (i_ushr a b) :: st) mem K) : sh_X g d M pc lo (sh_i b :: sh_i a :: st) mem K :=
  sh_go (fun p e R s m args below meth c A H locs ls cells slots Qf C Rl z => lv_iushr C.1 C.2.1 hd (Int32.ofInt_toInt _).symm z) k
theorem xr_lshl {a b : Int} (hd : decode M.2.1 pc = .ok (.lshl, 1)) (k : sh_X g d M (pc + 1) lo (sh_l (l_shl a b) :: st) mem K) : sh_X g d M pc lo (sh_i b :: sh_l a :: st) mem K :=
  sh_go (fun p e R s m args below meth c A H locs ls cells slots Qf C Rl z => lv_lshl C.1 C.2.1 hd (Int64.ofInt_toInt _).symm z) k
theorem xr_lushr {a b : Int} (hd : decode M.2.1 pc = .ok (.lushr, 1)) (k : sh_X g d M (pc + 1) lo (sh_l (l_ushr a b) :: st) mem K) : sh_X g d M pc lo (sh_i b :: sh_l a :: st) mem K :=
  sh_go (fun p e R s m args below meth c A H locs ls cells slots Qf C Rl z => lv_lushr C.1 C.2.1 hd (Int64.ofInt_toInt _).symm z) k
theorem xr_i2l {a : Int} (hd : decode M.2.1 pc = .ok (.i2l, 1)) (k : sh_X g d M (pc + 1) lo (sh_l (i_2l a) :: st) mem K) : sh_X g d M pc lo (sh_i a :: st) mem K :=
  sh_go (fun p e R s m args below meth c A H locs ls cells slots Qf C Rl z => lv_i2l C.1 C.2.1 hd (Int64.ofInt_toInt _).symm z) k
theorem xr_l2i {a : Int} (hd : decode M.2.1 pc = .ok (.l2i, 1)) (k : sh_X g d M (pc + 1) lo (sh_i (l_2i a) :: st) mem K) : sh_X g d M pc lo (sh_l a :: st) mem K :=
  sh_go (fun p e R s m args below meth c A H locs ls cells slots Qf C Rl z => lv_l2i C.1 C.2.1 hd (Int32.ofInt_toInt _).symm z) k
theorem xr_i2b {a : Int} (hd : decode M.2.1 pc = .ok (.i2b, 1)) (k : sh_X g d M (pc + 1) lo (sh_i (i_2b a) :: st) mem K) : sh_X g d M pc lo (sh_i a :: st) mem K :=
  sh_go (fun p e R s m args below meth c A H locs ls cells slots Qf C Rl z => lv_i2b C.1 C.2.1 hd (Int32.ofInt_toInt _).symm z) k
theorem xr_i2c {a : Int} (hd : decode M.2.1 pc = .ok (.i2c, 1)) (k : sh_X g d M (pc + 1) lo (sh_i (i_2c a) :: st) mem K) : sh_X g d M pc lo (sh_i a :: st) mem K :=
  sh_go (fun p e R s m args below meth c A H locs ls cells slots Qf C Rl z => lv_i2c C.1 C.2.1 hd (Int32.ofInt_toInt _).symm z) k
theorem xr_lcmp {a b : Int} (hd : decode M.2.1 pc = .ok (.lcmp, 1)) (k : sh_X g d M (pc + 1) lo (sh_i (l_cmp a b) :: st) mem K) : sh_X g d M pc lo (sh_l b :: sh_l a :: st) mem K :=
  sh_go (fun p e R s m args below meth c A H locs ls cells slots Qf C Rl z => W.lcmp C.1 C.2.1 hd (by have q := z; simp only [List.map_cons, sh_cv, l_cmp, Int32.ofInt_toInt] at q; exact q)) k
theorem xr_dupI {a : Int} (hd : decode M.2.1 pc = .ok (.dup, 1)) (k : sh_X g d M (pc + 1) lo (sh_i a :: sh_i a :: st) mem K) : sh_X g d M pc lo (sh_i a :: st) mem K :=
  sh_go (fun p e R s m args below meth c A H locs ls cells slots Qf C Rl z => lv_dup C.1 C.2.1 hd rfl z) k
theorem xr_dupR {a : Nat} (hd : decode M.2.1 pc = .ok (.dup, 1)) (k : sh_X g d M (pc + 1) lo (sh_r a :: sh_r a :: st) mem K) : sh_X g d M pc lo (sh_r a :: st) mem K :=
  sh_go (fun p e R s m args below meth c A H locs ls cells slots Qf C Rl z => lv_dup C.1 C.2.1 hd rfl z) k
theorem xr_popI {a : Int} (hd : decode M.2.1 pc = .ok (.pop, 1)) (k : sh_X g d M (pc + 1) lo (st) mem K) : sh_X g d M pc lo (sh_i a :: st) mem K :=
  sh_go (fun p e R s m args below meth c A H locs ls cells slots Qf C Rl z => lv_pop C.1 C.2.1 hd rfl z) k
theorem xr_dup2 {a : Int} {b : Nat} (hd : decode M.2.1 pc = .ok (.dup2, 1)) (k : sh_X g d M (pc + 1) lo (sh_i a :: sh_r b :: sh_i a :: sh_r b :: st) mem K) : sh_X g d M pc lo (sh_i a :: sh_r b :: st) mem K :=
  sh_go (fun p e R s m args below meth c A H locs ls cells slots Qf C Rl z => lv_dup2_11 C.1 C.2.1 hd rfl rfl z) k
theorem xr_goto {off : Int} {tgt : Nat} (ht : (pc : Int) + off = (tgt : Int)) (hd : decode M.2.1 pc = .ok (.goto off, 3)) (k : sh_X g d M tgt lo st mem K) : sh_X g d M pc lo st mem K :=
  sh_go (fun p e R s m args below meth c A H locs ls cells slots Qf C Rl z => lv_goto C.1 C.2.1 hd ht z) k
theorem xr_icmp_eq {a b a' b' off : Int} {tgt : Nat} (ha : i3 a = a') (hb : i3 b = b') (ht : (pc : Int) + off = (tgt : Int)) (hd : decode M.2.1 pc = .ok (.if_icmp .eq off, 3)) (k : (a' = b' → sh_X g d M tgt lo st mem K) ∧ (¬ a' = b' → sh_X g d M (pc + 3) lo st mem K)) : sh_X g d M pc lo (sh_i b :: sh_i a :: st) mem K := by
  subst ha; subst hb
  exact fun p e R s m args below meth c A H locs ls cells slots Qf C Rl hk => lv_icmp_eq C.1 C.2.1 hd ht (fun h => k.1 (by first | exact (i3_eq _ _).mp h | exact fun q => h ((i3_eq _ _).mpr q)) p e R s m args below meth c A H locs ls cells slots Qf C Rl hk) (fun h => k.2 (by first | exact (i3_eq _ _).mp h | exact fun q => h ((i3_eq _ _).mpr q)) p e R s m args below meth c A H locs ls cells slots Qf C Rl hk)
theorem xr_if_eq {a a' off : Int} {tgt : Nat} (ha : i3 a = a') (ht : (pc : Int) + off = (tgt : Int)) (hd : decode M.2.1 pc = .ok (.ifCond .eq off, 3)) (k : (a' = 0 → sh_X g d M tgt lo st mem K) ∧ (¬ a' = 0 → sh_X g d M (pc + 3) lo st mem K)) : sh_X g d M pc lo (sh_i a :: st) mem K := by
  subst ha
  exact fun p e R s m args below meth c A H locs ls cells slots Qf C Rl hk => lv_if_eq C.1 C.2.1 hd ht (fun h => k.1 (by first | exact (i3_eq0 _).mp h | exact fun q => h ((i3_eq0 _).mpr q)) p e R s m args below meth c A H locs ls cells slots Qf C Rl hk) (fun h => k.2 (by first | exact (i3_eq0 _).mp h | exact fun q => h ((i3_eq0 _).mpr q)) p e R s m args below meth c A H locs ls cells slots Qf C Rl hk)
theorem xr_icmp_ne {a b a' b' off : Int} {tgt : Nat} (ha : i3 a = a') (hb : i3 b = b') (ht : (pc : Int) + off = (tgt : Int)) (hd : decode M.2.1 pc = .ok (.if_icmp .ne off, 3)) (k : (¬ a' = b' → sh_X g d M tgt lo st mem K) ∧ (a' = b' → sh_X g d M (pc + 3) lo st mem K)) : sh_X g d M pc lo (sh_i b :: sh_i a :: st) mem K := by
  subst ha; subst hb
  exact fun p e R s m args below meth c A H locs ls cells slots Qf C Rl hk => lv_icmp_ne C.1 C.2.1 hd ht (fun h => k.1 (by first | exact (i3_eq _ _).mp h | exact fun q => h ((i3_eq _ _).mpr q)) p e R s m args below meth c A H locs ls cells slots Qf C Rl hk) (fun h => k.2 (by first | exact (i3_eq _ _).mp h | exact fun q => h ((i3_eq _ _).mpr q)) p e R s m args below meth c A H locs ls cells slots Qf C Rl hk)
theorem xr_if_ne {a a' off : Int} {tgt : Nat} (ha : i3 a = a') (ht : (pc : Int) + off = (tgt : Int)) (hd : decode M.2.1 pc = .ok (.ifCond .ne off, 3)) (k : (¬ a' = 0 → sh_X g d M tgt lo st mem K) ∧ (a' = 0 → sh_X g d M (pc + 3) lo st mem K)) : sh_X g d M pc lo (sh_i a :: st) mem K := by
  subst ha
  exact fun p e R s m args below meth c A H locs ls cells slots Qf C Rl hk => lv_if_ne C.1 C.2.1 hd ht (fun h => k.1 (by first | exact (i3_eq0 _).mp h | exact fun q => h ((i3_eq0 _).mpr q)) p e R s m args below meth c A H locs ls cells slots Qf C Rl hk) (fun h => k.2 (by first | exact (i3_eq0 _).mp h | exact fun q => h ((i3_eq0 _).mpr q)) p e R s m args below meth c A H locs ls cells slots Qf C Rl hk)
theorem xr_icmp_lt {a b a' b' off : Int} {tgt : Nat} (ha : i3 a = a') (hb : i3 b = b') (ht : (pc : Int) + off = (tgt : Int)) (hd : decode M.2.1 pc = .ok (.if_icmp .lt off, 3)) (k : (a' < b' → sh_X g d M tgt lo st mem K) ∧ (¬ a' < b' → sh_X g d M (pc + 3) lo st mem K)) : sh_X g d M pc lo (sh_i b :: sh_i a :: st) mem K := by
  subst ha; subst hb
  exact fun p e R s m args below meth c A H locs ls cells slots Qf C Rl hk => lv_icmp_lt C.1 C.2.1 hd ht (fun h => k.1 (by first | exact (i3_lt _ _).mp h | exact fun q => h ((i3_lt _ _).mpr q)) p e R s m args below meth c A H locs ls cells slots Qf C Rl hk) (fun h => k.2 (by first | exact (i3_lt _ _).mp h | exact fun q => h ((i3_lt _ _).mpr q)) p e R s m args below meth c A H locs ls cells slots Qf C Rl hk)
theorem xr_if_lt {a a' off : Int} {tgt : Nat} (ha : i3 a = a') (ht : (pc : Int) + off = (tgt : Int)) (hd : decode M.2.1 pc = .ok (.ifCond .lt off, 3)) (k : (a' < 0 → sh_X g d M tgt lo st mem K) ∧ (¬ a' < 0 → sh_X g d M (pc + 3) lo st mem K)) : sh_X g d M pc lo (sh_i a :: st) mem K := by
  subst ha
  exact fun p e R s m args below meth c A H locs ls cells slots Qf C Rl hk => lv_if_lt C.1 C.2.1 hd ht (fun h => k.1 (by first | exact (i3_lt0 _).mp h | exact fun q => h ((i3_lt0 _).mpr q)) p e R s m args below meth c A H locs ls cells slots Qf C Rl hk) (fun h => k.2 (by first | exact (i3_lt0 _).mp h | exact fun q => h ((i3_lt0 _).mpr q)) p e R s m args below meth c A H locs ls cells slots Qf C Rl hk)
theorem xr_icmp_ge {a b a' b' off : Int} {tgt : Nat} (ha : i3 a = a') (hb : i3 b = b') (ht : (pc : Int) + off = (tgt : Int)) (hd : decode M.2.1 pc = .ok (.if_icmp .ge off, 3)) (k : (b' ≤ a' → sh_X g d M tgt lo st mem K) ∧ (¬ b' ≤ a' → sh_X g d M (pc + 3) lo st mem K)) : sh_X g d M pc lo (sh_i b :: sh_i a :: st) mem K := by
  subst ha; subst hb
  exact fun p e R s m args below meth c A H locs ls cells slots Qf C Rl hk => lv_icmp_ge C.1 C.2.1 hd ht (fun h => k.1 (by first | exact (i3_le _ _).mp h | exact fun q => h ((i3_le _ _).mpr q)) p e R s m args below meth c A H locs ls cells slots Qf C Rl hk) (fun h => k.2 (by first | exact (i3_le _ _).mp h | exact fun q => h ((i3_le _ _).mpr q)) p e R s m args below meth c A H locs ls cells slots Qf C Rl hk)
theorem xr_if_ge {a a' off : Int} {tgt : Nat} (ha : i3 a = a') (ht : (pc : Int) + off = (tgt : Int)) (hd : decode M.2.1 pc = .ok (.ifCond .ge off, 3)) (k : (0 ≤ a' → sh_X g d M tgt lo st mem K) ∧ (¬ 0 ≤ a' → sh_X g d M (pc + 3) lo st mem K)) : sh_X g d M pc lo (sh_i a :: st) mem K := by
  subst ha
  exact fun p e R s m args below meth c A H locs ls cells slots Qf C Rl hk => lv_if_ge C.1 C.2.1 hd ht (fun h => k.1 (by first | exact (i3_0le _).mp h | exact fun q => h ((i3_0le _).mpr q)) p e R s m args below meth c A H locs ls cells slots Qf C Rl hk) (fun h => k.2 (by first | exact (i3_0le _).mp h | exact fun q => h ((i3_0le _).mpr q)) p e R s m args below meth c A H locs ls cells slots Qf C Rl hk)
theorem xr_icmp_gt {a b a' b' off : Int} {tgt : Nat} (ha : i3 a = a') (hb : i3 b = b') (ht : (pc : Int) + off = (tgt : Int)) (hd : decode M.2.1 pc = .ok (.if_icmp .gt off, 3)) (k : (b' < a' → sh_X g d M tgt lo st mem K) ∧ (¬ b' < a' → sh_X g d M (pc + 3) lo st mem K)) : sh_X g d M pc lo (sh_i b :: sh_i a :: st) mem K := by
  subst ha; subst hb
  exact fun p e R s m args below meth c A H locs ls cells slots Qf C Rl hk => lv_icmp_gt C.1 C.2.1 hd ht (fun h => k.1 (by first | exact (i3_lt _ _).mp h | exact fun q => h ((i3_lt _ _).mpr q)) p e R s m args below meth c A H locs ls cells slots Qf C Rl hk) (fun h => k.2 (by first | exact (i3_lt _ _).mp h | exact fun q => h ((i3_lt _ _).mpr q)) p e R s m args below meth c A H locs ls cells slots Qf C Rl hk)
theorem xr_if_gt {a a' off : Int} {tgt : Nat} (ha : i3 a = a') (ht : (pc : Int) + off = (tgt : Int)) (hd : decode M.2.1 pc = .ok (.ifCond .gt off, 3)) (k : (0 < a' → sh_X g d M tgt lo st mem K) ∧ (¬ 0 < a' → sh_X g d M (pc + 3) lo st mem K)) : sh_X g d M pc lo (sh_i a :: st) mem K := by
  subst ha
  exact fun p e R s m args below meth c A H locs ls cells slots Qf C Rl hk => lv_if_gt C.1 C.2.1 hd ht (fun h => k.1 (by first | exact (i3_0lt _).mp h | exact fun q => h ((i3_0lt _).mpr q)) p e R s m args below meth c A H locs ls cells slots Qf C Rl hk) (fun h => k.2 (by first | exact (i3_0lt _).mp h | exact fun q => h ((i3_0lt _).mpr q)) p e R s m args below meth c A H locs ls cells slots Qf C Rl hk)
theorem xr_icmp_le {a b a' b' off : Int} {tgt : Nat} (ha : i3 a = a') (hb : i3 b = b') (ht : (pc : Int) + off = (tgt : Int)) (hd : decode M.2.1 pc = .ok (.if_icmp .le off, 3)) (k : (a' ≤ b' → sh_X g d M tgt lo st mem K) ∧ (¬ a' ≤ b' → sh_X g d M (pc + 3) lo st mem K)) : sh_X g d M pc lo (sh_i b :: sh_i a :: st) mem K := by
  subst ha; subst hb
  exact fun p e R s m args below meth c A H locs ls cells slots Qf C Rl hk => lv_icmp_le C.1 C.2.1 hd ht (fun h => k.1 (by first | exact (i3_le _ _).mp h | exact fun q => h ((i3_le _ _).mpr q)) p e R s m args below meth c A H locs ls cells slots Qf C Rl hk) (fun h => k.2 (by first | exact (i3_le _ _).mp h | exact fun q => h ((i3_le _ _).mpr q)) p e R s m args below meth c A H locs ls cells slots Qf C Rl hk)
theorem xr_if_le {a a' off : Int} {tgt : Nat} (ha : i3 a = a') (ht : (pc : Int) + off = (tgt : Int)) (hd : decode M.2.1 pc = .ok (.ifCond .le off, 3)) (k : (a' ≤ 0 → sh_X g d M tgt lo st mem K) ∧ (¬ a' ≤ 0 → sh_X g d M (pc + 3) lo st mem K)) : sh_X g d M pc lo (sh_i a :: st) mem K := by
  subst ha
  exact fun p e R s m args below meth c A H locs ls cells slots Qf C Rl hk => lv_if_le C.1 C.2.1 hd ht (fun h => k.1 (by first | exact (i3_le0 _).mp h | exact fun q => h ((i3_le0 _).mpr q)) p e R s m args below meth c A H locs ls cells slots Qf C Rl hk) (fun h => k.2 (by first | exact (i3_le0 _).mp h | exact fun q => h ((i3_le0 _).mpr q)) p e R s m args below meth c A H locs ls cells slots Qf C Rl hk)
theorem xr_tabIn {a dflt low high off : Int} {offs : Array Int} {len tgt : Nat} (v : Int) (hv : i3 a = v) (h1 : low ≤ v) (h2 : v ≤ high) (ho : offs[(v - low).toNat]? = some off) (ht : (pc : Int) + off = (tgt : Int)) (hd : decode M.2.1 pc = .ok (.tableswitch dflt low high offs, len)) (k : sh_X g d M tgt lo st mem K) : sh_X g d M pc lo (sh_i a :: st) mem K := by
  subst hv
  exact sh_go (fun p e R s m args below meth c A H locs ls cells slots Qf C Rl z => lv_tableIn C.1 C.2.1 hd (by show ¬ i3 a < low; omega) (by show ¬ high < i3 a; omega) ho ht z) k
theorem xr_tabOut {a dflt low high : Int} {offs : Array Int} {len tgt : Nat} (h : i3 a < low ∨ high < i3 a) (ht : (pc : Int) + dflt = (tgt : Int)) (hd : decode M.2.1 pc = .ok (.tableswitch dflt low high offs, len)) (k : sh_X g d M tgt lo st mem K) : sh_X g d M pc lo (sh_i a :: st) mem K :=
  sh_go (fun p e R s m args below meth c A H locs ls cells slots Qf C Rl z => lv_tableOut C.1 C.2.1 hd h ht z) k

/-- the locals behind a store of one slot, of two -/
def sh_isl (v : sh_V) : Bool := match v with | .inr (.inl _) => true | _ => false
def sh_s1 (lo : List (Nat × sh_V)) (i : Nat) (v : sh_V) : List (Nat × sh_V) := (i, v) :: lo.filter (fun q => !(q.1 == i) && !(q.1 + 1 == i && sh_isl q.2))
def sh_s2 (lo : List (Nat × sh_V)) (i : Nat) (v : sh_V) : List (Nat × sh_V) := (i, v) :: lo.filter (fun q => !(q.1 == i) && (!(q.1 == i + 1) && !(q.1 + 1 == i && sh_isl q.2)))
theorem sh_isl_cv (v : sh_V) : ((sh_cv g v).category == 2) = sh_isl v := by
  rcases v with x | x | x <;> rfl
theorem sh_s1_map (i : Nat) (v : sh_V) : (i, sh_cv g v) :: (lo.map (sh_cl1 g)).filter (fun q => !(q.1 == i) && !(q.1 + 1 == i && q.2.category == 2)) = (sh_s1 lo i v).map (sh_cl1 g) := by
  unfold sh_s1
  rw [List.map_cons, List.filter_map]
  congr 2
  refine List.filter_congr fun q _ => ?_
  simp only [Function.comp, sh_isl_cv]
theorem sh_s2_map (i : Nat) (v : sh_V) : (i, sh_cv g v) :: (lo.map (sh_cl1 g)).filter (fun q => !(q.1 == i) && (!(q.1 == i + 1) && !(q.1 + 1 == i && q.2.category == 2))) = (sh_s2 lo i v).map (sh_cl1 g) := by
  unfold sh_s2
  rw [List.map_cons, List.filter_map]
  congr 2
  refine List.filter_congr fun q _ => ?_
  simp only [Function.comp, sh_isl_cv]
theorem xr_istore {i : Nat} {x : Int} {lo' : List (Nat × sh_V)} (hn : i < M.2.2.1) (he : sh_s1 lo i (sh_i x) = lo') (hd : decode M.2.1 pc = .ok (.istore i, 2)) (k : sh_X g d M (pc + 2) lo' st mem K) : sh_X g d M pc lo (sh_i x :: st) mem K :=
  fun p e R s m args below meth c A H locs ls cells slots Qf C Rl hk => lv_istore C.1 C.2.1 hd Rl.2.2 hn (sh_s1_map i (sh_i x)) (fun ls h => k p e R s m args below meth c A H locs ls cells slots Qf C ⟨Rl.1, Rl.2.1, he ▸ h⟩ hk)
theorem xr_istore_n {n : Fin 4} {i : Nat} {x : Int} {lo' : List (Nat × sh_V)} (hi : (n : Nat) = i) (hn : i < M.2.2.1) (he : sh_s1 lo i (sh_i x) = lo') (hd : decode M.2.1 pc = .ok (.istore_n n, 1)) (k : sh_X g d M (pc + 1) lo' st mem K) : sh_X g d M pc lo (sh_i x :: st) mem K :=
  fun p e R s m args below meth c A H locs ls cells slots Qf C Rl hk => lv_istore_n C.1 C.2.1 hd hi Rl.2.2 hn (sh_s1_map i (sh_i x)) (fun ls h => k p e R s m args below meth c A H locs ls cells slots Qf C ⟨Rl.1, Rl.2.1, he ▸ h⟩ hk)
theorem xr_astore {i : Nat} {x : Nat} {lo' : List (Nat × sh_V)} (hn : i < M.2.2.1) (he : sh_s1 lo i (sh_r x) = lo') (hd : decode M.2.1 pc = .ok (.astore i, 2)) (k : sh_X g d M (pc + 2) lo' st mem K) : sh_X g d M pc lo (sh_r x :: st) mem K :=
  fun p e R s m args below meth c A H locs ls cells slots Qf C Rl hk => lv_astore C.1 C.2.1 hd Rl.2.2 hn (sh_s1_map i (sh_r x)) (fun ls h => k p e R s m args below meth c A H locs ls cells slots Qf C ⟨Rl.1, Rl.2.1, he ▸ h⟩ hk)
theorem xr_astore_n {n : Fin 4} {i : Nat} {x : Nat} {lo' : List (Nat × sh_V)} (hi : (n : Nat) = i) (hn : i < M.2.2.1) (he : sh_s1 lo i (sh_r x) = lo') (hd : decode M.2.1 pc = .ok (.astore_n n, 1)) (k : sh_X g d M (pc + 1) lo' st mem K) : sh_X g d M pc lo (sh_r x :: st) mem K :=
  fun p e R s m args below meth c A H locs ls cells slots Qf C Rl hk => lv_astore_n C.1 C.2.1 hd hi Rl.2.2 hn (sh_s1_map i (sh_r x)) (fun ls h => k p e R s m args below meth c A H locs ls cells slots Qf C ⟨Rl.1, Rl.2.1, he ▸ h⟩ hk)
theorem xr_lstore {i : Nat} {x : Int} {lo' : List (Nat × sh_V)} (hn : i + 1 < M.2.2.1) (he : sh_s2 lo i (sh_l x) = lo') (hd : decode M.2.1 pc = .ok (.lstore i, 2)) (k : sh_X g d M (pc + 2) lo' st mem K) : sh_X g d M pc lo (sh_l x :: st) mem K :=
  fun p e R s m args below meth c A H locs ls cells slots Qf C Rl hk => lv_lstore C.1 C.2.1 hd Rl.2.2 hn (sh_s2_map i (sh_l x)) (fun ls h => k p e R s m args below meth c A H locs ls cells slots Qf C ⟨Rl.1, Rl.2.1, he ▸ h⟩ hk)
theorem xr_lstore_n {n : Fin 4} {i : Nat} {x : Int} {lo' : List (Nat × sh_V)} (hi : (n : Nat) = i) (hn : i + 1 < M.2.2.1) (he : sh_s2 lo i (sh_l x) = lo') (hd : decode M.2.1 pc = .ok (.lstore_n n, 1)) (k : sh_X g d M (pc + 1) lo' st mem K) : sh_X g d M pc lo (sh_l x :: st) mem K :=
  fun p e R s m args below meth c A H locs ls cells slots Qf C Rl hk => lv_lstore_n C.1 C.2.1 hd hi Rl.2.2 hn (sh_s2_map i (sh_l x)) (fun ls h => k p e R s m args below meth c A H locs ls cells slots Qf C ⟨Rl.1, Rl.2.1, he ▸ h⟩ hk)
theorem xr_iinc {i : Nat} {n x : Int} {lo' : List (Nat × sh_V)} (hm : (i, sh_i x) ∈ lo) (hn : i < M.2.2.1) (he : sh_s1 lo i (sh_i (x + n)) = lo') (hd : decode M.2.1 pc = .ok (.iinc i n, 3)) (k : sh_X g d M (pc + 3) lo' st mem K) : sh_X g d M pc lo st mem K := by
  intro p e R s m args below meth c A H locs ls cells slots Qf C Rl hk
  obtain ⟨q, hq⟩ := List.getElem?_of_mem hm
  exact lv_iinc C.1 C.2.1 hd Rl.2.2 (k := q) (by rw [List.getElem?_map, hq]; rfl) (Int32.ofInt_add x n).symm hn (sh_s1_map i (sh_i (x + n))) (fun ls h => k p e R s m args below meth c A H locs ls cells slots Qf C ⟨Rl.1, Rl.2.1, he ▸ h⟩ hk)
end XR
end
section
/-! ===== rules of the heap, calls, returns ===== -/
def sh_CF (ci : Nat) (C : String) (T : u_T) (N : Nat) (ty0 : Nat → FieldType) : Prop :=
  sh_cl[ci]? = some (C, T, N) ∧ sh_nf ci = N ∧ (∀ x ∈ u_ws C T N, x ∈ lw_g) ∧ (∀ k, k < N → parseFieldDescriptor (T k).2.2.1 = some (ty0 k)) ∧ (∀ a, a < N → ∀ b, b < N → a ≠ b → (T a).2.1 ≠ (T b).2.1)
def sh_FL (own : String) (ix ci k : Nat) : Prop := ∃ (C : String) (T : u_T) (N : Nat) (ty0 : Nat → FieldType), sh_CF ci C T N ty0 ∧ k < N ∧ Cond.fieldLink own ix (T k).1 (T k).2.1 (T k).2.2.1 ∈ lw_g
def sh_PL (own : String) (ix ci k : Nat) (ty : FieldType) : Prop := ∃ (C : String) (T : u_T) (N : Nat) (ty0 : Nat → FieldType), sh_CF ci C T N ty0 ∧ k < N ∧ Cond.fieldLink own ix (T k).1 (T k).2.1 (T k).2.2.1 ∈ lw_g ∧ (T k).2.2.2 = false ∧ ty0 k = ty
theorem sh_len_le {a t n : Nat} (h : sh_shp a = some (.inr (t, n))) : n ≤ 2000 := by
  have key : ∀ q ∈ sh_shl, (match q with | .inl _ => 0 | .inr q => q.2) ≤ 2000 := by decide +kernel
  unfold sh_shp at h
  by_cases h0 : a = 0
  · rw [if_pos h0] at h; cases h
  · rw [if_neg h0] at h
    exact key _ (List.mem_of_getElem? h)
theorem sh_ix {i : Int} {n : Nat} (h0 : 0 ≤ i) (h1 : i < (n : Int)) (hn : n ≤ 2000) : vp_in (Int32.ofInt i) n ∧ (Int32.ofInt i).toNatClampNeg = i.toNat := by
  have e : (Int32.ofInt i).toInt = i := i3_id (by omega) (by omega)
  refine ⟨vp_in_iff.mpr ⟨by rw [e]; exact h0, by rw [e]; exact h1⟩, ?_⟩
  show (Int32.ofInt i).toInt.toNat = i.toNat
  rw [e]
theorem sh_upd (f : Nat → Int) (j : Nat) (x : Int) : upd (fun j => Int32.ofInt (f j)) j (Int32.ofInt x) = fun q => Int32.ofInt (ru f j x q) := by
  funext q
  unfold upd ru
  by_cases h : q = j
  · rw [if_pos h, if_pos h]
  · rw [if_neg h, if_neg h]
theorem sh_updL (f : Nat → Int) (j : Nat) (x : Int) : vp_updL (fun j => Int64.ofInt (f j)) j (Int64.ofInt x) = fun q => Int64.ofInt (ru f j x q) := by
  funext q
  unfold vp_updL ru
  by_cases h : q = j
  · rw [if_pos h, if_pos h]
  · rw [if_neg h, if_neg h]
def cpy (f r : Nat → Int) (sp dp n : Nat) : Nat → Int := fun k => if dp ≤ k ∧ k < dp + n then f (sp + (k - dp)) else r k
theorem sh_cpy (f r : Nat → Int) (sp dp n : Nat) : va_cpy (fun j => Int32.ofInt (f j)) (fun j => Int32.ofInt (r j)) sp dp n = fun j => Int32.ofInt (cpy f r sp dp n j) := by
  funext k
  unfold va_cpy cpy
  by_cases h : dp ≤ k ∧ k < dp + n
  · rw [if_pos h, if_pos h]
  · rw [if_neg h, if_neg h]
section XH
variable {g : sh_G} {d : Nat} {M : sh_M} {pc : Nat} {lo : List (Nat × sh_V)} {st : List sh_V} {mem : sh_Mem} {K : Nat → List (Nat × sh_V) → List sh_V → sh_Mem → Prop}
theorem xr_get {ix ci k a : Nat} {v : sh_V} (hs : sh_shp a = some (.inl ci)) (hf : sh_FL M.1.cls ix ci k) (hv : sh_cv g v = sh_fv g a (sh_ft ci k) (mem a k)) (hd : decode M.2.1 pc = .ok (.getfield ix, 3)) (kx : sh_X g d M (pc + 3) lo (v :: st) mem K) : sh_X g d M pc lo (sh_r a :: st) mem K := by
  obtain ⟨C0, T, N, ty0, ⟨h1, h2, h3, h4, h5⟩, h6, h7⟩ := hf
  refine sh_go (fun p e R s m args below meth c A H locs ls cells slots Qf C Rl z => ?_) kx
  have hw := sh_w_get g mem (sh_shp_lt hs).1 (sh_shp_lt hs).2
  rw [sh_cel_o g mem hs] at hw
  exact va_get C.1 C.2.1 C.2.2.2.2.1 h3 C.2.2.2.1 C.2.2.2.2.2.2.2.1 Rl.1 (a - 1) hw h1 k h6 (C.2.2.2.2.1 _ h7) (fun _ h => h) (v := sh_cv g v) (by rw [hv]; exact sh_fs_get g _ (by rw [h2]; exact h6)) hd z
theorem xr_getI {ix ci k a : Nat} (hs : sh_shp a = some (.inl ci)) (hf : sh_FL M.1.cls ix ci k) (ht : sh_ft ci k = 0 ∨ sh_ft ci k = 3) (hd : decode M.2.1 pc = .ok (.getfield ix, 3)) (kx : sh_X g d M (pc + 3) lo (sh_i (mem a k) :: st) mem K) : sh_X g d M pc lo (sh_r a :: st) mem K :=
  xr_get hs hf (by rcases ht with h | h <;> rw [h] <;> rfl) hd kx
theorem xr_getL {ix ci k a : Nat} (hs : sh_shp a = some (.inl ci)) (hf : sh_FL M.1.cls ix ci k) (ht : sh_ft ci k = 1) (hd : decode M.2.1 pc = .ok (.getfield ix, 3)) (kx : sh_X g d M (pc + 3) lo (sh_l (mem a k) :: st) mem K) : sh_X g d M pc lo (sh_r a :: st) mem K :=
  xr_get hs hf (by rw [ht]; rfl) hd kx
theorem xr_getR {ix ci k a o : Nat} (hs : sh_shp a = some (.inl ci)) (hf : sh_FL M.1.cls ix ci k) (ht : sh_ft ci k = 10 + o) (hd : decode M.2.1 pc = .ok (.getfield ix, 3)) (kx : sh_X g d M (pc + 3) lo (sh_r (a + o) :: st) mem K) : sh_X g d M pc lo (sh_r a :: st) mem K :=
  xr_get hs hf (by rw [ht]; unfold sh_fv; rw [if_neg (by omega), if_neg (by omega), if_neg (by omega), if_pos (by omega), Nat.add_sub_cancel_left]; rfl) hd kx
theorem xr_getT {ix ci k a : Nat} (hs : sh_shp a = some (.inl ci)) (hf : sh_FL M.1.cls ix ci k) (ht : sh_ft ci k = 6) (hd : decode M.2.1 pc = .ok (.getfield ix, 3)) (kx : sh_X g d M (pc + 3) lo (sh_r 2 :: st) mem K) : sh_X g d M pc lo (sh_r a :: st) mem K :=
  xr_get hs hf (by rw [ht]; rfl) hd kx
theorem xr_getD {ix ci k a b : Nat} (hs : sh_shp a = some (.inl ci)) (hf : sh_FL M.1.cls ix ci k) (ht : sh_ft ci k = 2) (hb : mem a k = (b : Int)) (hd : decode M.2.1 pc = .ok (.getfield ix, 3)) (kx : sh_X g d M (pc + 3) lo (sh_r b :: st) mem K) : sh_X g d M pc lo (sh_r a :: st) mem K :=
  xr_get hs hf (by rw [ht, hb]; rfl) hd kx
theorem xr_put {ix ci k a : Nat} {ty : FieldType} {v : sh_V} {x : Int} (hs : sh_shp a = some (.inl ci)) (hf : sh_PL M.1.cls ix ci k ty) (hv : sh_cv g v = sh_fv g a (sh_ft ci k) x) (hn : narrow ty (sh_cv g v) = sh_cv g v) (hfit : fits ty (sh_cv g v) = true) (hd : decode M.2.1 pc = .ok (.putfield ix, 3)) (kx : sh_X g d M (pc + 3) lo st (ms mem a (ru (mem a) k x)) K) : sh_X g d M pc lo (v :: sh_r a :: st) mem K := by
  obtain ⟨C0, T, N, ty0, ⟨h1, h2, h3, h4, h5⟩, h6, h7, h8, h9⟩ := hf
  intro p e R s m args below meth c A H locs ls cells slots Qf C Rl hk
  have hw := sh_w_get g mem (sh_shp_lt hs).1 (sh_shp_lt hs).2
  rw [sh_cel_o g mem hs] at hw
  refine va_put (D := g.2.1) (v := sh_cv g v) (ty := ty) C.1 C.2.1 C.2.2.2.2.1 h3 ty0 h4 h5 C.2.2.2.1 C.2.2.2.2.2.2.2.1 Rl.1 (sh_w_D g mem C.2.2.2.2.2.2.1) Rl.2.1 (a - 1) hw h1 k h6 (C.2.2.2.2.1 _ h7) (fun _ h => h) h8 (by rw [← h9]; exact h4 k h6) hn hfit (by unfold sh_fs; rw [List.length_map, List.length_range, h2]; exact h6) hd (fun H1 locs1 hP hD hS => ?_)
  rw [hv, sh_fs_set, sh_w_set g (mem' := ms mem a (ru (mem a) k x)) (sh_shp_lt hs).1 (fun b hb => ms_n _ _ hb) (by rw [sh_cel_o g _ hs, ms_s])] at hP
  exact kx p e R s m args below meth c A H1 locs1 ls cells slots Qf C ⟨hP, hS, Rl.2.2⟩ hk
theorem xr_putI {ix ci k a : Nat} {x : Int} (hs : sh_shp a = some (.inl ci)) (hf : sh_PL M.1.cls ix ci k .int) (ht : sh_ft ci k = 0) (hd : decode M.2.1 pc = .ok (.putfield ix, 3)) (kx : sh_X g d M (pc + 3) lo st (ms mem a (ru (mem a) k x)) K) : sh_X g d M pc lo (sh_i x :: sh_r a :: st) mem K :=
  xr_put hs hf (by rw [ht]; rfl) rfl rfl hd kx
theorem xr_putL {ix ci k a : Nat} {x : Int} (hs : sh_shp a = some (.inl ci)) (hf : sh_PL M.1.cls ix ci k .long) (ht : sh_ft ci k = 1) (hd : decode M.2.1 pc = .ok (.putfield ix, 3)) (kx : sh_X g d M (pc + 3) lo st (ms mem a (ru (mem a) k x)) K) : sh_X g d M pc lo (sh_l x :: sh_r a :: st) mem K :=
  xr_put hs hf (by rw [ht]; rfl) rfl rfl hd kx
theorem xr_putZ {ix ci k a : Nat} {x : Int} (hx : x = 0 ∨ x = 1) (hs : sh_shp a = some (.inl ci)) (hf : sh_PL M.1.cls ix ci k .boolean) (ht : sh_ft ci k = 3) (hd : decode M.2.1 pc = .ok (.putfield ix, 3)) (kx : sh_X g d M (pc + 3) lo st (ms mem a (ru (mem a) k x)) K) : sh_X g d M pc lo (sh_i x :: sh_r a :: st) mem K :=
  xr_put hs hf (by rw [ht]; rfl) (by rcases hx with rfl | rfl <;> rfl) (by rcases hx with rfl | rfl <;> rfl) hd kx
theorem xr_putD {ix ci k a b : Nat} {C : String} (hs : sh_shp a = some (.inl ci)) (hf : sh_PL M.1.cls ix ci k (.object C)) (ht : sh_ft ci k = 2) (hd : decode M.2.1 pc = .ok (.putfield ix, 3)) (kx : sh_X g d M (pc + 3) lo st (ms mem a (ru (mem a) k (b : Int))) K) : sh_X g d M pc lo (sh_r b :: sh_r a :: st) mem K :=
  xr_put hs hf (by rw [ht]; rfl) rfl rfl hd kx
/-! arrays -/
theorem xr_iald {a n : Nat} {i : Int} (hs : sh_shp a = some (.inr (0, n))) (h0 : 0 ≤ i) (h1 : i < (n : Int)) (hd : decode M.2.1 pc = .ok (.iaload, 1)) (k : sh_X g d M (pc + 1) lo (sh_i (mem a i.toNat) :: st) mem K) : sh_X g d M pc lo (sh_i i :: sh_r a :: st) mem K := by
  refine sh_go (fun p e R s m args below meth c A H locs ls cells slots Qf C Rl z => ?_) k
  have hw := sh_w_get g mem (sh_shp_lt hs).1 (sh_shp_lt hs).2
  rw [sh_cel_a g mem hs] at hw
  obtain ⟨q1, q2⟩ := sh_ix h0 h1 (sh_len_le hs)
  refine va_iald C.1 C.2.1 C.2.2.2.2.2.2.2.1 Rl.1 (a - 1) 0 hw rfl q1 hd ?_
  rw [q2]; exact z
theorem xr_zald {a n : Nat} {i : Int} (hs : sh_shp a = some (.inr (3, n))) (h0 : 0 ≤ i) (h1 : i < (n : Int)) (hd : decode M.2.1 pc = .ok (.baload, 1)) (k : sh_X g d M (pc + 1) lo (sh_i (mem a i.toNat) :: st) mem K) : sh_X g d M pc lo (sh_i i :: sh_r a :: st) mem K := by
  refine sh_go (fun p e R s m args below meth c A H locs ls cells slots Qf C Rl z => ?_) k
  have hw := sh_w_get g mem (sh_shp_lt hs).1 (sh_shp_lt hs).2
  rw [sh_cel_a g mem hs] at hw
  obtain ⟨q1, q2⟩ := sh_ix h0 h1 (sh_len_le hs)
  refine va_zald C.1 C.2.1 C.2.2.2.2.2.2.2.1 Rl.1 (a - 1) 3 hw rfl q1 hd ?_
  rw [q2]; exact z
theorem xr_bald {a n : Nat} {i : Int} (hs : sh_shp a = some (.inr (4, n))) (h0 : 0 ≤ i) (h1 : i < (n : Int)) (hd : decode M.2.1 pc = .ok (.baload, 1)) (k : sh_X g d M (pc + 1) lo (sh_i (mem a i.toNat) :: st) mem K) : sh_X g d M pc lo (sh_i i :: sh_r a :: st) mem K := by
  refine sh_go (fun p e R s m args below meth c A H locs ls cells slots Qf C Rl z => ?_) k
  have hw := sh_w_get g mem (sh_shp_lt hs).1 (sh_shp_lt hs).2
  rw [sh_cel_a g mem hs] at hw
  obtain ⟨q1, q2⟩ := sh_ix h0 h1 (sh_len_le hs)
  refine va_bald C.1 C.2.1 C.2.2.2.2.2.2.2.1 Rl.1 (a - 1) 4 hw rfl q1 hd ?_
  rw [q2]; exact z
theorem xr_lald {a n : Nat} {i : Int} (hs : sh_shp a = some (.inr (1, n))) (h0 : 0 ≤ i) (h1 : i < (n : Int)) (hd : decode M.2.1 pc = .ok (.laload, 1)) (k : sh_X g d M (pc + 1) lo (sh_l (mem a i.toNat) :: st) mem K) : sh_X g d M pc lo (sh_i i :: sh_r a :: st) mem K := by
  refine sh_go (fun p e R s m args below meth c A H locs ls cells slots Qf C Rl z => ?_) k
  have hw := sh_w_get g mem (sh_shp_lt hs).1 (sh_shp_lt hs).2
  rw [sh_cel_a g mem hs] at hw
  obtain ⟨q1, q2⟩ := sh_ix h0 h1 (sh_len_le hs)
  refine va_lald C.1 C.2.1 C.2.2.2.2.2.2.2.1 Rl.1 (a - 1) 1 hw rfl q1 hd ?_
  rw [q2]; exact z
theorem xr_aald {i : Int} (h0 : 0 ≤ i) (h1 : i < 4) (hd : decode M.2.1 pc = .ok (.aaload, 1)) (k : sh_X g d M (pc + 1) lo (sh_r (52 + 11 * i.toNat) :: st) mem K) : sh_X g d M pc lo (sh_i i :: sh_r 21 :: st) mem K := by
  refine sh_go (fun p e R s m args below meth c A H locs ls cells slots Qf C Rl z => ?_) k
  have hs : sh_shp 21 = some (.inr (2, 4)) := rfl
  have hw := sh_w_get g mem (sh_shp_lt hs).1 (sh_shp_lt hs).2
  rw [sh_cel_a g mem hs] at hw
  obtain ⟨q1, q2⟩ := sh_ix (n := 4) h0 h1 (by decide)
  refine va_aldq C.1 C.2.1 C.2.2.2.2.2.2.2.1 Rl.1 20 2 hw rfl q1 hd ?_
  rw [q2, if_pos (by omega)]; exact z
theorem xr_iast {a n : Nat} {i x : Int} (hs : sh_shp a = some (.inr (0, n))) (h0 : 0 ≤ i) (h1 : i < (n : Int)) (hd : decode M.2.1 pc = .ok (.iastore, 1)) (k : sh_X g d M (pc + 1) lo st (ms mem a (ru (mem a) i.toNat x)) K) : sh_X g d M pc lo (sh_i x :: sh_i i :: sh_r a :: st) mem K := by
  intro p e R s m args below meth c A H locs ls cells slots Qf C Rl hk
  have hw := sh_w_get g mem (sh_shp_lt hs).1 (sh_shp_lt hs).2
  rw [sh_cel_a g mem hs] at hw
  obtain ⟨q1, q2⟩ := sh_ix h0 h1 (sh_len_le hs)
  refine va_iast C.1 C.2.1 C.2.2.2.2.2.2.2.1 Rl.1 (sh_w_D g mem C.2.2.2.2.2.2.1) Rl.2.1 (a - 1) 0 hw rfl q1 hd (fun H1 locs1 hP hD hS => ?_)
  rw [q2, sh_upd, sh_w_set g (mem' := ms mem a (ru (mem a) i.toNat x)) (sh_shp_lt hs).1 (fun b hb => ms_n _ _ hb) (by rw [sh_cel_a g _ hs, ms_s]; rfl)] at hP
  exact k p e R s m args below meth c A H1 locs1 ls cells slots Qf C ⟨hP, hS, Rl.2.2⟩ hk
theorem xr_last {a n : Nat} {i x : Int} (hs : sh_shp a = some (.inr (1, n))) (h0 : 0 ≤ i) (h1 : i < (n : Int)) (hd : decode M.2.1 pc = .ok (.lastore, 1)) (k : sh_X g d M (pc + 1) lo st (ms mem a (ru (mem a) i.toNat x)) K) : sh_X g d M pc lo (sh_l x :: sh_i i :: sh_r a :: st) mem K := by
  intro p e R s m args below meth c A H locs ls cells slots Qf C Rl hk
  have hw := sh_w_get g mem (sh_shp_lt hs).1 (sh_shp_lt hs).2
  rw [sh_cel_a g mem hs] at hw
  obtain ⟨q1, q2⟩ := sh_ix h0 h1 (sh_len_le hs)
  refine va_last C.1 C.2.1 C.2.2.2.2.2.2.2.1 Rl.1 (sh_w_D g mem C.2.2.2.2.2.2.1) Rl.2.1 (a - 1) 1 hw rfl q1 hd (fun H1 locs1 hP hD hS => ?_)
  rw [q2, sh_updL, sh_w_set g (mem' := ms mem a (ru (mem a) i.toNat x)) (sh_shp_lt hs).1 (fun b hb => ms_n _ _ hb) (by rw [sh_cel_a g _ hs, ms_s]; rfl)] at hP
  exact k p e R s m args below meth c A H1 locs1 ls cells slots Qf C ⟨hP, hS, Rl.2.2⟩ hk
theorem xr_zast {a n : Nat} {i x : Int} (hx : x = 0 ∨ x = 1) (hs : sh_shp a = some (.inr (3, n))) (h0 : 0 ≤ i) (h1 : i < (n : Int)) (hd : decode M.2.1 pc = .ok (.bastore, 1)) (k : sh_X g d M (pc + 1) lo st (ms mem a (ru (mem a) i.toNat x)) K) : sh_X g d M pc lo (sh_i x :: sh_i i :: sh_r a :: st) mem K := by
  intro p e R s m args below meth c A H locs ls cells slots Qf C Rl hk
  have hw := sh_w_get g mem (sh_shp_lt hs).1 (sh_shp_lt hs).2
  rw [sh_cel_a g mem hs] at hw
  obtain ⟨q1, q2⟩ := sh_ix h0 h1 (sh_len_le hs)
  have hx2 : vp_nar .boolean (Int32.ofInt x) = Int32.ofInt x := by rcases hx with rfl | rfl <;> rfl
  refine va_zast C.1 C.2.1 C.2.2.2.2.2.2.2.1 Rl.1 (sh_w_D g mem C.2.2.2.2.2.2.1) Rl.2.1 (a - 1) 3 hw rfl q1 hd (fun H1 locs1 hP hD hS => ?_)
  rw [q2, hx2, sh_upd, sh_w_set g (mem' := ms mem a (ru (mem a) i.toNat x)) (sh_shp_lt hs).1 (fun b hb => ms_n _ _ hb) (by rw [sh_cel_a g _ hs, ms_s]; rfl)] at hP
  exact k p e R s m args below meth c A H1 locs1 ls cells slots Qf C ⟨hP, hS, Rl.2.2⟩ hk
theorem sh_byte {x : Int} (h0 : -128 ≤ x) (h1 : x < 128) : (Int32.ofInt x).toInt8.toInt32 = Int32.ofInt x := by
  have e : (Int32.ofInt x).toInt = x := i3_id (by omega) (by omega)
  apply Int32.toInt_inj.mp
  rw [Int8.toInt_toInt32, Int32.toInt_toInt8, e]
  exact Int.bmod_eq_of_le_mul_two (by omega) (by omega)
theorem xr_bast {a n : Nat} {i x : Int} (hx : -128 ≤ x ∧ x < 128) (hs : sh_shp a = some (.inr (4, n))) (h0 : 0 ≤ i) (h1 : i < (n : Int)) (hd : decode M.2.1 pc = .ok (.bastore, 1)) (k : sh_X g d M (pc + 1) lo st (ms mem a (ru (mem a) i.toNat x)) K) : sh_X g d M pc lo (sh_i x :: sh_i i :: sh_r a :: st) mem K := by
  intro p e R s m args below meth c A H locs ls cells slots Qf C Rl hk
  have hw := sh_w_get g mem (sh_shp_lt hs).1 (sh_shp_lt hs).2
  rw [sh_cel_a g mem hs] at hw
  obtain ⟨q1, q2⟩ := sh_ix h0 h1 (sh_len_le hs)
  have hx2 : vp_nar .byte (Int32.ofInt x) = Int32.ofInt x := by rw [vp_nar_byte, sh_byte hx.1 hx.2]
  refine va_bast C.1 C.2.1 C.2.2.2.2.2.2.2.1 Rl.1 (sh_w_D g mem C.2.2.2.2.2.2.1) Rl.2.1 (a - 1) 4 hw rfl q1 hd (fun H1 locs1 hP hD hS => ?_)
  rw [q2, hx2, sh_upd, sh_w_set g (mem' := ms mem a (ru (mem a) i.toNat x)) (sh_shp_lt hs).1 (fun b hb => ms_n _ _ hb) (by rw [sh_cel_a g _ hs, ms_s]; rfl)] at hP
  exact k p e R s m args below meth c A H1 locs1 ls cells slots Qf C ⟨hP, hS, Rl.2.2⟩ hk
theorem xr_copy {ix a0 a1 n0 n1 : Nat} {sp dp n : Int} (hl : Cond.methodLink M.1.cls ix arraycopyName ∈ lw_g) (hnat : Cond.native arraycopyName ∈ lw_g) (hsta : Cond.static arraycopyName ∈ lw_g) (hini : Cond.initialized "java/lang/System" ∈ lw_g) (hs0 : sh_shp a0 = some (.inr (0, n0))) (hs1 : sh_shp a1 = some (.inr (0, n1))) (h1 : 0 ≤ sp) (h2 : 0 ≤ dp) (h3 : 0 ≤ n) (h4 : sp + n ≤ n0) (h5 : dp + n ≤ n1) (hd : decode M.2.1 pc = .ok (.invokestatic ix, 3)) (k : sh_X g (d + 1) M (pc + 3) lo [] (ms mem a1 (cpy (mem a0) (mem a1) sp.toNat dp.toNat n.toNat)) K) : sh_X g (d + 1) M pc lo [sh_i n, sh_i dp, sh_r a1, sh_i sp, sh_r a0] mem K := by
  intro p e R s m args below meth c A H locs ls cells slots Qf C Rl hk
  have hw0 := sh_w_get g mem (sh_shp_lt hs0).1 (sh_shp_lt hs0).2
  rw [sh_cel_a g mem hs0] at hw0
  have hw1 := sh_w_get g mem (sh_shp_lt hs1).1 (sh_shp_lt hs1).2
  rw [sh_cel_a g mem hs1] at hw1
  have l0 := sh_len_le hs0
  have l1 := sh_len_le hs1
  have cl : ∀ z : Int, 0 ≤ z → z ≤ 2000 → ¬ Int32.ofInt z < 0 ∧ (Int32.ofInt z).toNatClampNeg = z.toNat := by
    intro z z0 z1
    have e : (Int32.ofInt z).toInt = z := i3_id (by omega) (by omega)
    refine ⟨fun q => ?_, by show (Int32.ofInt z).toInt.toNat = z.toNat; rw [e]⟩
    have q2 := (i3_lt0 z).mp q
    rw [i3_id (by omega) (by omega)] at q2
    omega
  obtain ⟨s1, s2⟩ := cl sp h1 (by omega)
  obtain ⟨d1, d2⟩ := cl dp h2 (by omega)
  obtain ⟨n1', n2'⟩ := cl n h3 (by omega)
  have hfr := C.2.2.2.2.2.1
  refine va_copyi C.1 C.2.1 (C.2.2.1.trans Rl.2.2.1.symm) C.2.2.2.1 (C.2.2.2.2.1 _ hl) (C.2.2.2.2.1 _ hnat) (C.2.2.2.2.1 _ hsta) (C.2.2.2.2.1 _ hini) C.2.2.2.2.2.2.2.1 Rl.1 (sh_w_D g mem C.2.2.2.2.2.2.1) Rl.2.1 (a0 - 1) (a1 - 1) 0 0 (ty := .int) hw0 hw1 rfl rfl rfl s1 d1 n1' (by rw [s2, n2']; omega) (by rw [d2, n2']; omega) (fun _ _ => rfl) (by omega) (by show 0 + (nativeFrameWords "java/lang/System" "arraycopy" 5 + 11) ≤ R.locals; have hnf : nativeFrameWords "java/lang/System" "arraycopy" 5 + 11 ≤ 64 := (by decide); omega) hd (fun H1 locs1 hP hD hS => ?_)
  rw [s2, d2, n2', sh_cpy, sh_w_set g (mem' := ms mem a1 (cpy (mem a0) (mem a1) sp.toNat dp.toNat n.toNat)) (sh_shp_lt hs1).1 (fun b hb => ms_n _ _ hb) (by rw [sh_cel_a g _ hs1, ms_s]; rfl)] at hP
  exact k p e R s m args below meth c A H1 locs1 ls cells slots Qf C ⟨hP, hS, Rl.2.2⟩ hk
end XH
/-! ===== methods ===== -/
def sh_rm (d : Nat) : Room := { frames := d, cells := 0, slots := 0, locals := 64 * d }
def sh_ws (M : sh_M) : List Cond := .code M.1 M.2.1 M.2.2.1 M.2.2.2 :: lw_g
def sh_Pc (g : sh_G) (av : List sh_V) (mem : sh_Mem) : Array Value → State → Prop := va_Pc (av.map (sh_cv g)) (fun U => va_P g.2.1 sh_cl (sh_w g mem) U.heap ∧ sh_E g (sh_A g) U U.heap)
def sh_Qc (g : sh_G) (Q : Option sh_V → sh_Mem → Prop) : Array Value → State → Outcome → State → Prop := fun _ s0 oc t => (∃ (rv : Option sh_V) (mem' : sh_Mem), oc = .returned (rv.map (sh_cv g)) ∧ Q rv mem' ∧ va_P g.2.1 sh_cl (sh_w g mem') t.heap) ∧ va_F (sh_A g) s0 t
/-- the method, called so, returns so -/
def sh_Cal (g : sh_G) (d : Nat) (M : sh_M) (av : List sh_V) (mem : sh_Mem) (Q : Option sh_V → sh_Mem → Prop) : Prop := Met g.1 M.1 (sh_ws M) (sh_rm d) (sh_Pc g av mem) (sh_Qc g Q) 0 0 (sh_A g)
theorem sh_E_call {g : sh_G} {A : Nat → Prop} {s U : State} {H : Heap} {locs : List Loc} (hE : sh_E g A s s.heap) (hS : va_S A s.heap H locs) (hA : ∀ q, sh_A g q → A q) (hU : U.heap = H) (hW : s.WarmedH U.vm) : sh_E g (sh_A g) U U.heap := by
  obtain ⟨h1, h2, h3, h4⟩ := hE
  rw [hU]
  exact ⟨va_K.moved hW.alike h1, ((h2.kept hS.2.1).narrow hA).moved hW.alike, fun i q hq => (h3 i q hq).warm hW, ((h4.kept hS.2.1).narrow hA).moved hW.alike⟩
theorem sh_blind (g : sh_G) (av : List sh_V) (mem : sh_Mem) : FrameBlind (sh_Pc g av mem) := by
  intro a U g' mk h
  obtain ⟨h0, hP, h1, h2, h3, h4⟩ := h
  exact ⟨h0, hP, va_K.moved (u := U) (U := U.calling g' mk a) (Vm.Alike.refl U.vm) h1, vk_S.moved (u := U) (U := U.calling g' mk a) (Vm.Alike.refl U.vm) h2, fun i q hq => (h3 i q hq).same rfl, va_Z.moved (u := U) (U := U.calling g' mk a) (Vm.Alike.refl U.vm) h4⟩
theorem sh_callW {g : sh_G} {p : Program} {e : Env} {R : Room} {s : State} {m : MethodId} {args : Array Value} {below : List Frame} {meth : Method} {c : Code} {H : Heap} {locs : List Loc} {cells slots : Nat} {Qf : State → Prop} {A : Nat → Prop} {pc : Nat} {ls : Array Slot} {st0 rest : List Value} {a : Array Value} {Q2 : Option sh_V → sh_Mem → Prop}
    (hr : va_Run p g.1 e R s m args below meth c H locs cells slots 0 0 (F0 m pc ls st0) rest (sh_Qc g Q2 a) (sh_A g)) (hS : va_S A s.heap H locs) (hA : ∀ q, sh_A g q → A q)
    (kk : ∀ (rv : Option sh_V) (mem' : sh_Mem) (H1 : Heap) (locs1 : List Loc), Q2 rv mem' → va_P g.2.1 sh_cl (sh_w g mem') H1 → va_S A s.heap H1 locs1 → W p g.1 e R s m args below meth c H1 locs1 cells slots Qf (F0 m (pc + 3) ls ((rv.map (sh_cv g)).toList ++ rest))) : W p g.1 e R s m args below meth c H locs cells slots Qf (F0 m pc ls st0) := by
  intro T hT X
  obtain ⟨v, st₀, t, T', L, h0, X', hL, e1, e2, ⟨⟨rv, mem', hv, hq, hP'⟩, hz, hk⟩, st⟩ := hr T hT X
  cases hv
  rw [h0] at hz hk
  obtain ⟨t2, a1, b1⟩ := kk rv mem' T'.heap (locs ++ L) hq (by rw [e1]; exact hP')
    ⟨Nat.le_trans hS.1 (by rw [e1]; exact hz), fun q h1 h2 => by rw [e1, hk q (Nat.lt_of_lt_of_le h1 hS.1) (fun z => h2 (hA q z))]; exact hS.2.1 q h1 h2, fun q hq => by
      rcases List.mem_append.mp hq with h | h
      · exact hS.2.2 q h
      · exact hA _ (hL q h)⟩ T' rfl X'
  exact ⟨t2, st t2 a1, b1⟩
/-- what the tables say of a method that may be called: by its name's class not strange, its parameters n, its code there, its locals few -/
def sh_MO (M : sh_M) (n : Nat) : Prop := (M.1.cls ≠ "java/lang/invoke/MethodHandle" ∧ M.1.cls ≠ "java/lang/invoke/VarHandle" ∧ (parseMethodDescriptor M.1.desc).map (fun d => d.parameters.length) = some n) ∧ Cond.code M.1 M.2.1 M.2.2.1 M.2.2.2 ∈ lw_g ∧ M.2.2.1 ≤ 40 ∧ Cond.initialized M.1.cls ∈ lw_g
theorem sh_good {M : sh_M} {n : Nat} (h : sh_MO M n) : GoodIn lw_g (sh_ws M) := by
  intro x hx
  rcases List.mem_cons.mp hx with e | hx
  · rw [e]; exact ⟨h.2.1, lw_g_good _ h.2.1⟩
  · exact ⟨hx, lw_g_good _ hx⟩
section XC
variable {g : sh_G} {d : Nat} {M M2 : sh_M} {pc : Nat} {lo : List (Nat × sh_V)} {st : List sh_V} {mem : sh_Mem} {K : Nat → List (Nat × sh_V) → List sh_V → sh_Mem → Prop}
theorem sh_rv (rv : Option sh_V) (st : List sh_V) : (rv.map (sh_cv g)).toList ++ st.map (sh_cv g) = (rv.toList ++ st).map (sh_cv g) := by cases rv <;> rfl
theorem xr_callV {ix ci a n : Nat} {av : List sh_V} {q : vw_C} (hs : sh_shp a = some (.inl ci)) (hc : sh_cl[ci]? = some q) (hq : M2.1.cls = q.1) (hm : sh_MO M2 n) (hl : Cond.methodLink M.1.cls ix M2.1 ∈ lw_g) (hin : Cond.instanceMethod M2.1 ∈ lw_g) (hsel : Cond.selects M2.1.cls M2.1 M2.1 ∈ lw_g) (hn : av.length = n) (hst : (st.map fun v => (sh_cv g v).category).sum ≤ 8)
    (hd : decode M.2.1 pc = .ok (.invokevirtual ix, 3)) (h : sh_Cal g d M2 (sh_r a :: av) mem (fun rv mem' => sh_X g (d + 1) M (pc + 3) lo (rv.toList ++ st) mem' K)) : sh_X g (d + 1) M pc lo (av.reverse ++ sh_r a :: st) mem K := by
  intro p e R s m args below meth c A H locs ls cells slots Qf C Rl hk
  have hw := sh_w_get g mem (sh_shp_lt hs).1 (sh_shp_lt hs).2
  rw [sh_cel_o g mem hs] at hw
  obtain ⟨cell, c1, c2, c3⟩ := va_recv C.2.2.2.2.2.2.2.1 Rl.1 hc hw
  have hR := C.2.2.2.2.2.1
  have hts := C.2.2.2.2.1
  have cb : CallB R s args M.1.cls ix M2.1 M2.2.1 M2.2.2.1 M2.2.2.2 (sh_ws M2) (sh_rm d) 0 0 n := callB_of n hts (sh_good hm) rfl rfl rfl (hts _ hm.2.2.2) (hts _ hl) hm.1 ⟨hR.1, by show 8 + (M2.2.2.1 + 11) + 64 * d ≤ R.locals; have := hm.2.2.1; have := hR.2.1; omega⟩
  refine sh_callW (rest := st.map (sh_cv g)) (va_runV (As := av.map (sh_cv g)) (C := q.1) (b := sh_ad g a) ⟨C.1, C.2.1, C.2.2.1, C.2.2.2.1, hts⟩ h ⟨cb, hts _ hin, by rw [← hq]; exact hts _ hsel⟩ ⟨sh_blind g _ _, ⟨cell, c1, c2, c3⟩, fun U hU hW => ⟨rfl, by rw [hU]; exact Rl.1, sh_E_call C.2.2.2.2.2.2.2 Rl.2.1 C.2.2.2.2.2.2.1 hU hW⟩⟩ rfl (by rw [List.length_map]; exact hn) Rl.2.2.1 (by simp only [List.map_append, List.map_cons, List.map_reverse]; rfl) (lv_room (by rw [List.map_map]; exact hst)) hd ⟨hR.2.2.1, hR.2.2.2⟩) Rl.2.1 C.2.2.2.2.2.2.1 (fun rv mem' H1 locs1 hx hP hS => ?_)
  rw [sh_rv]
  exact hx p e R s m args below meth c A H1 locs1 ls cells slots Qf C ⟨hP, hS, Rl.2.2⟩ hk
theorem xr_callS {ix n : Nat} {av : List sh_V} (hm : sh_MO M2 n) (hl : Cond.methodLink M.1.cls ix M2.1 ∈ lw_g) (hsta : Cond.static M2.1 ∈ lw_g) (hn : av.length = n) (hst : (st.map fun v => (sh_cv g v).category).sum ≤ 8)
    (hd : decode M.2.1 pc = .ok (.invokestatic ix, 3)) (h : sh_Cal g d M2 av mem (fun rv mem' => sh_X g (d + 1) M (pc + 3) lo (rv.toList ++ st) mem' K)) : sh_X g (d + 1) M pc lo (av.reverse ++ st) mem K := by
  intro p e R s m args below meth c A H locs ls cells slots Qf C Rl hk
  have hR := C.2.2.2.2.2.1
  have hts := C.2.2.2.2.1
  have cb : CallB R s args M.1.cls ix M2.1 M2.2.1 M2.2.2.1 M2.2.2.2 (sh_ws M2) (sh_rm d) 0 0 n := callB_of n hts (sh_good hm) rfl rfl rfl (hts _ hm.2.2.2) (hts _ hl) hm.1 ⟨hR.1, by show 8 + (M2.2.2.1 + 11) + 64 * d ≤ R.locals; have := hm.2.2.1; have := hR.2.1; omega⟩
  refine sh_callW (rest := st.map (sh_cv g)) (va_runS (As := av.map (sh_cv g)) ⟨C.1, C.2.1, C.2.2.1, C.2.2.2.1, hts⟩ h ⟨cb, hts _ hsta⟩ ⟨sh_blind g _ _, fun U hU hW => ⟨rfl, by rw [hU]; exact Rl.1, sh_E_call C.2.2.2.2.2.2.2 Rl.2.1 C.2.2.2.2.2.2.1 hU hW⟩⟩ rfl (by rw [List.length_map]; exact hn) Rl.2.2.1 (by simp only [List.map_append, List.map_reverse]) (lv_room (by rw [List.map_map]; exact hst)) hd ⟨hR.2.2.1, hR.2.2.2⟩) Rl.2.1 C.2.2.2.2.2.2.1 (fun rv mem' H1 locs1 hx hP hS => ?_)
  rw [sh_rv]
  exact hx p e R s m args below meth c A H1 locs1 ls cells slots Qf C ⟨hP, hS, Rl.2.2⟩ hk
theorem xr_callN {ix n : Nat} {host : String} {av : List sh_V} (hm : sh_MO M2 n) (hl : Cond.methodLinkNest M.1.cls ix M2.1 host ∈ lw_g) (hsta : Cond.static M2.1 ∈ lw_g) (hn : av.length = n) (hst : (st.map fun v => (sh_cv g v).category).sum ≤ 8)
    (hd : decode M.2.1 pc = .ok (.invokestatic ix, 3)) (h : sh_Cal g d M2 av mem (fun rv mem' => sh_X g (d + 1) M (pc + 3) lo (rv.toList ++ st) mem' K)) : sh_X g (d + 1) M pc lo (av.reverse ++ st) mem K := by
  intro p e R s m args below meth c A H locs ls cells slots Qf C Rl hk
  have hR := C.2.2.2.2.2.1
  have hts := C.2.2.2.2.1
  have cb : va_CN R s args M.1.cls ix M2.1 host M2.2.1 M2.2.2.1 M2.2.2.2 (sh_ws M2) (sh_rm d) 0 0 n := ⟨⟨rfl, rfl, hR.1, by show 8 + (M2.2.2.1 + 11) + 64 * d ≤ R.locals; have := hm.2.2.1; have := hR.2.1; omega, pay_in hts (sh_good hm), List.mem_cons_self⟩, hts _ hm.2.1, hts _ hm.2.2.2, ⟨hm.1.1, hm.1.2.1⟩, fun sig hsig => (by have h2 := hm.1.2.2; rw [hsig] at h2; exact (Option.some.inj h2).symm), hts _ hl⟩
  refine sh_callW (rest := st.map (sh_cv g)) (va_runSN (As := av.map (sh_cv g)) ⟨C.1, C.2.1, C.2.2.1, C.2.2.2.1, hts⟩ h ⟨cb, hts _ hsta, trivial⟩ ⟨sh_blind g _ _, fun U hU hW => ⟨rfl, by rw [hU]; exact Rl.1, sh_E_call C.2.2.2.2.2.2.2 Rl.2.1 C.2.2.2.2.2.2.1 hU hW⟩⟩ rfl (by rw [List.length_map]; exact hn) Rl.2.2.1 (by simp only [List.map_append, List.map_reverse]) (lv_room (by rw [List.map_map]; exact hst)) hd ⟨hR.2.2.1, hR.2.2.2⟩) Rl.2.1 C.2.2.2.2.2.2.1 (fun rv mem' H1 locs1 hx hP hS => ?_)
  rw [sh_rv]
  exact hx p e R s m args below meth c A H1 locs1 ls cells slots Qf C ⟨hP, hS, Rl.2.2⟩ hk
end XC
/-- a method's end -/
def sh_K (M : sh_M) (Q : Option sh_V → sh_Mem → Prop) : Nat → List (Nat × sh_V) → List sh_V → sh_Mem → Prop := fun pc _ st mem =>
  (M.2.2.2 = none ∧ st = [] ∧ decode M.2.1 pc = .ok (.return_, 1) ∧ Q none mem) ∨ (∃ x, (∃ ty, M.2.2.2 = some ty ∧ narrow ty (.int (Int32.ofInt x)) = .int (Int32.ofInt x)) ∧ st = [sh_i x] ∧ decode M.2.1 pc = .ok (.ireturn, 1) ∧ Q (some (sh_i x)) mem)
section XE
variable {g : sh_G} {d : Nat} {M : sh_M} {pc : Nat} {lo : List (Nat × sh_V)} {st : List sh_V} {mem : sh_Mem} {Q : Option sh_V → sh_Mem → Prop}
theorem xr_ret (hr : M.2.2.2 = none) (hd : decode M.2.1 pc = .ok (.return_, 1)) (h : Q none mem) : sh_X g d M pc lo [] mem (sh_K M Q) := xr_here (Or.inl ⟨hr, rfl, hd, h⟩)
theorem xr_iret {x : Int} (hr : M.2.2.2 = some .int) (hd : decode M.2.1 pc = .ok (.ireturn, 1)) (h : Q (some (sh_i x)) mem) : sh_X g d M pc lo [sh_i x] mem (sh_K M Q) := xr_here (Or.inr ⟨x, ⟨.int, hr, rfl⟩, rfl, hd, h⟩)
theorem xr_zret {x : Int} (hr : M.2.2.2 = some .boolean) (hd : decode M.2.1 pc = .ok (.ireturn, 1)) (hx : x = 0 ∨ x = 1) (h : Q (some (sh_i x)) mem) : sh_X g d M pc lo [sh_i x] mem (sh_K M Q) := xr_here (Or.inr ⟨x, ⟨.boolean, hr, by rcases hx with rfl | rfl <;> rfl⟩, rfl, hd, h⟩)
theorem xr_cret {x : Int} (hr : M.2.2.2 = some .char) (hd : decode M.2.1 pc = .ok (.ireturn, 1)) (hx : 0 ≤ x ∧ x < 65536) (h : Q (some (sh_i x)) mem) : sh_X g d M pc lo [sh_i x] mem (sh_K M Q) := xr_here (Or.inr ⟨x, ⟨.char, hr, by
  have e : Int32.ofInt x = nI x.toNat := by
    unfold nI
    rw [← Int32.ofInt_eq_ofNat, Int.toNat_of_nonneg hx.1]
  rw [e]
  exact (pk_charN (by omega)).1⟩, rfl, hd, h⟩)
theorem xr_bret {x : Int} (hr : M.2.2.2 = some .byte) (hd : decode M.2.1 pc = .ok (.ireturn, 1)) (hx : x = 0 ∨ x = 1) (h : Q (some (sh_i x)) mem) : sh_X g d M pc lo [sh_i x] mem (sh_K M Q) := xr_here (Or.inr ⟨x, ⟨.byte, hr, by rcases hx with rfl | rfl <;> rfl⟩, rfl, hd, h⟩)
def sh_la : Nat → List sh_V → List (Nat × sh_V)
  | _, [] => []
  | i, v :: vs => (i, v) :: sh_la (if sh_isl v = true then i + 2 else i + 1) vs
theorem sh_la_map (g : sh_G) : ∀ (av : List sh_V) (i : Nat), lv_args i (av.map (sh_cv g)) = (sh_la i av).map (sh_cl1 g)
  | [], _ => rfl
  | v :: vs, i => by
    rw [List.map_cons, lv_args, sh_la, List.map_cons, sh_la_map g vs]
    congr 3
    rw [← sh_isl_cv (g := g) v]
    simp only [beq_iff_eq]
def sh_sz (av : List sh_V) : Nat := (av.map fun v => if sh_isl v = true then 2 else 1).sum
theorem sh_sz_map (g : sh_G) : ∀ av : List sh_V, (lg_sl (av.map (sh_cv g))).length = sh_sz av
  | [] => rfl
  | v :: vs => by
    have h := sh_sz_map g vs
    unfold lg_sl sh_sz at *
    rw [List.map_cons, List.flatMap_cons, List.length_append, h, List.map_cons, List.sum_cons]
    rcases v with x | x | x <;> rfl
theorem sh_met {av : List sh_V} (hp : plainName M.1.cls = true) (hsz : sh_sz av ≤ M.2.2.1) (hlo : sh_la 0 av = lo) (h : sh_X g d M 0 lo [] mem (sh_K M Q)) : sh_Cal g d M av mem Q := by
  refine Met.ofW (cc := M.2.1) (maxL := M.2.2.1) (ret := M.2.2.2) hp rfl ?_
  intro p e s m args below meth c s₁ B hml hv
  obtain ⟨rfl, hP, hE⟩ := hv
  have hlocks := B.notSynchronized
  have hts := atoms_spec (ws := sh_ws M) B.pre
  have hown : s.vm.findClass M.1.cls = some m.cls := findClass_of_methodNamed B.named
  rw [lg_entry_eq]
  refine h p e _ s m _ below meth c (sh_A g) s.heap [] _ 0 0 _ ⟨B.exec, B.bytes, hml, hown, fun x hx => hts x (List.mem_cons_of_mem _ hx), ⟨Nat.le_refl _, Nat.le_refl _, Nat.le_refl _, Nat.le_refl _⟩, fun _ z => z, hE⟩ ⟨hP, va_S.rf, ?_⟩ ?_
  · have hl := lv_entry (av.map (sh_cv g)) (n := M.2.2.1) (by rw [sh_sz_map]; exact hsz)
    rw [sh_la_map, hlo] at hl
    exact hl
  · intro pc' lo' st' mem' H' locs' ls' hk hR
    rcases hk with ⟨h1, rfl, h3, h4⟩ | ⟨x, ⟨ty, h1, h2⟩, rfl, h3, h4⟩
    · exact W.vret B.exec B.bytes (B.returns.trans h1) (fun t ht hW => ⟨⟨none, mem', rfl, h4, by rw [ht]; exact hR.1⟩, hR.2.1.F ht⟩) hR.2.1.2.2 h3
    · exact W.zret B.exec B.bytes (B.returns.trans h1) h2 (fun t ht hW => ⟨⟨some (sh_i x), mem', rfl, h4, by rw [ht]; exact hR.1⟩, hR.2.1.F ht⟩) hR.2.1.2.2 h3
end XE
end
