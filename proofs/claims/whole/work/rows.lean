section
-- ===== PART A: goes FIRST, ahead of the names: the tables' words, and 'selects' of the private methods out of them =====
/-- a private method of a class that the tables say can be made, by its rows of tables_1 -/
def lw_okq (q : MethodName × Nat) : Prop := (q.1.cls ≠ "java/lang/invoke/MethodHandle" ∧ q.1.cls ≠ "java/lang/invoke/VarHandle") ∧ Cond.instantiable q.1.cls q.2 ∈ tables_1 ∧ Cond.privateMethod q.1 ∈ tables_1 ∧ Cond.instanceMethod q.1 ∈ tables_1
theorem lw_p0 : lw_okq (⟨"StolenHolidays$Tape", "readWord", "()V"⟩, 7) := ⟨⟨by decide +kernel, by decide +kernel⟩, List.mem_of_getElem? (i := 35) (by decide +kernel), List.mem_of_getElem? (i := 403) (by decide +kernel), List.mem_of_getElem? (i := 404) (by decide +kernel)⟩
theorem lw_p1 : lw_okq (⟨"StolenHolidays$Tape", "readNumber", "()V"⟩, 7) := ⟨⟨by decide +kernel, by decide +kernel⟩, List.mem_of_getElem? (i := 35) (by decide +kernel), List.mem_of_getElem? (i := 411) (by decide +kernel), List.mem_of_getElem? (i := 412) (by decide +kernel)⟩
theorem lw_p2 : lw_okq (⟨"StolenHolidays$Reader", "readAlmanacLine", "(LStolenHolidays$Almanac;)Z"⟩, 3) := ⟨⟨by decide +kernel, by decide +kernel⟩, List.mem_of_getElem? (i := 69) (by decide +kernel), List.mem_of_getElem? (i := 502) (by decide +kernel), List.mem_of_getElem? (i := 503) (by decide +kernel)⟩
theorem lw_p3 : lw_okq (⟨"StolenHolidays$Tape", "spells", "(Ljava/lang/String;II)Z"⟩, 7) := ⟨⟨by decide +kernel, by decide +kernel⟩, List.mem_of_getElem? (i := 35) (by decide +kernel), List.mem_of_getElem? (i := 512) (by decide +kernel), List.mem_of_getElem? (i := 513) (by decide +kernel)⟩
theorem lw_p4 : lw_okq (⟨"StolenHolidays$Reader", "readDay", "(LStolenHolidays$Almanac;)Z"⟩, 3) := ⟨⟨by decide +kernel, by decide +kernel⟩, List.mem_of_getElem? (i := 69) (by decide +kernel), List.mem_of_getElem? (i := 536) (by decide +kernel), List.mem_of_getElem? (i := 537) (by decide +kernel)⟩
theorem lw_p5 : lw_okq (⟨"StolenHolidays$Reader", "refuse", "(I)Z"⟩, 3) := ⟨⟨by decide +kernel, by decide +kernel⟩, List.mem_of_getElem? (i := 69) (by decide +kernel), List.mem_of_getElem? (i := 540) (by decide +kernel), List.mem_of_getElem? (i := 541) (by decide +kernel)⟩
theorem lw_p6 : lw_okq (⟨"StolenHolidays$Reader", "isNewName", "(LStolenHolidays$Almanac;)Z"⟩, 3) := ⟨⟨by decide +kernel, by decide +kernel⟩, List.mem_of_getElem? (i := 69) (by decide +kernel), List.mem_of_getElem? (i := 545) (by decide +kernel), List.mem_of_getElem? (i := 546) (by decide +kernel)⟩
theorem lw_p7 : lw_okq (⟨"StolenHolidays$Reader", "kindTold", "()I"⟩, 3) := ⟨⟨by decide +kernel, by decide +kernel⟩, List.mem_of_getElem? (i := 69) (by decide +kernel), List.mem_of_getElem? (i := 562) (by decide +kernel), List.mem_of_getElem? (i := 563) (by decide +kernel)⟩
theorem lw_p8 : lw_okq (⟨"StolenHolidays$Reader", "takeWord", "(Ljava/lang/String;)Z"⟩, 3) := ⟨⟨by decide +kernel, by decide +kernel⟩, List.mem_of_getElem? (i := 69) (by decide +kernel), List.mem_of_getElem? (i := 571) (by decide +kernel), List.mem_of_getElem? (i := 572) (by decide +kernel)⟩
theorem lw_p9 : lw_okq (⟨"StolenHolidays$Reader", "takeNumber", "(II)Z"⟩, 3) := ⟨⟨by decide +kernel, by decide +kernel⟩, List.mem_of_getElem? (i := 69) (by decide +kernel), List.mem_of_getElem? (i := 575) (by decide +kernel), List.mem_of_getElem? (i := 576) (by decide +kernel)⟩
theorem lw_p10 : lw_okq (⟨"StolenHolidays$Reader", "takeSign", "(I)Z"⟩, 3) := ⟨⟨by decide +kernel, by decide +kernel⟩, List.mem_of_getElem? (i := 69) (by decide +kernel), List.mem_of_getElem? (i := 583) (by decide +kernel), List.mem_of_getElem? (i := 584) (by decide +kernel)⟩
theorem lw_p11 : lw_okq (⟨"StolenHolidays$Reader", "readThief", "(LStolenHolidays$Almanac;)Z"⟩, 3) := ⟨⟨by decide +kernel, by decide +kernel⟩, List.mem_of_getElem? (i := 69) (by decide +kernel), List.mem_of_getElem? (i := 588) (by decide +kernel), List.mem_of_getElem? (i := 589) (by decide +kernel)⟩
theorem lw_p12 : lw_okq (⟨"StolenHolidays$Reader", "readPays", "(LStolenHolidays$Almanac;)Z"⟩, 3) := ⟨⟨by decide +kernel, by decide +kernel⟩, List.mem_of_getElem? (i := 69) (by decide +kernel), List.mem_of_getElem? (i := 595) (by decide +kernel), List.mem_of_getElem? (i := 596) (by decide +kernel)⟩
theorem lw_p13 : lw_okq (⟨"StolenHolidays$Reader", "readE", "(LStolenHolidays$Law;I)Z"⟩, 3) := ⟨⟨by decide +kernel, by decide +kernel⟩, List.mem_of_getElem? (i := 69) (by decide +kernel), List.mem_of_getElem? (i := 600) (by decide +kernel), List.mem_of_getElem? (i := 601) (by decide +kernel)⟩
theorem lw_p14 : lw_okq (⟨"StolenHolidays$Reader", "readTest", "(LStolenHolidays$Law;I)Z"⟩, 3) := ⟨⟨by decide +kernel, by decide +kernel⟩, List.mem_of_getElem? (i := 69) (by decide +kernel), List.mem_of_getElem? (i := 604) (by decide +kernel), List.mem_of_getElem? (i := 605) (by decide +kernel)⟩
theorem lw_p15 : lw_okq (⟨"StolenHolidays$Reader", "readSum", "(LStolenHolidays$Law;I)Z"⟩, 3) := ⟨⟨by decide +kernel, by decide +kernel⟩, List.mem_of_getElem? (i := 69) (by decide +kernel), List.mem_of_getElem? (i := 608) (by decide +kernel), List.mem_of_getElem? (i := 609) (by decide +kernel)⟩
def lw_privs_1 : List (MethodName × Nat) := [(⟨"StolenHolidays$Tape", "readWord", "()V"⟩, 7), (⟨"StolenHolidays$Tape", "readNumber", "()V"⟩, 7), (⟨"StolenHolidays$Reader", "readAlmanacLine", "(LStolenHolidays$Almanac;)Z"⟩, 3), (⟨"StolenHolidays$Tape", "spells", "(Ljava/lang/String;II)Z"⟩, 7), (⟨"StolenHolidays$Reader", "readDay", "(LStolenHolidays$Almanac;)Z"⟩, 3), (⟨"StolenHolidays$Reader", "refuse", "(I)Z"⟩, 3), (⟨"StolenHolidays$Reader", "isNewName", "(LStolenHolidays$Almanac;)Z"⟩, 3), (⟨"StolenHolidays$Reader", "kindTold", "()I"⟩, 3), (⟨"StolenHolidays$Reader", "takeWord", "(Ljava/lang/String;)Z"⟩, 3), (⟨"StolenHolidays$Reader", "takeNumber", "(II)Z"⟩, 3), (⟨"StolenHolidays$Reader", "takeSign", "(I)Z"⟩, 3), (⟨"StolenHolidays$Reader", "readThief", "(LStolenHolidays$Almanac;)Z"⟩, 3), (⟨"StolenHolidays$Reader", "readPays", "(LStolenHolidays$Almanac;)Z"⟩, 3), (⟨"StolenHolidays$Reader", "readE", "(LStolenHolidays$Law;I)Z"⟩, 3), (⟨"StolenHolidays$Reader", "readTest", "(LStolenHolidays$Law;I)Z"⟩, 3), (⟨"StolenHolidays$Reader", "readSum", "(LStolenHolidays$Law;I)Z"⟩, 3)]
theorem lw_r1 : ∀ q ∈ lw_privs_1, lw_okq q := List.forall_mem_cons.mpr ⟨lw_p0, List.forall_mem_cons.mpr ⟨lw_p1, List.forall_mem_cons.mpr ⟨lw_p2, List.forall_mem_cons.mpr ⟨lw_p3, List.forall_mem_cons.mpr ⟨lw_p4, List.forall_mem_cons.mpr ⟨lw_p5, List.forall_mem_cons.mpr ⟨lw_p6, List.forall_mem_cons.mpr ⟨lw_p7, List.forall_mem_cons.mpr ⟨lw_p8, List.forall_mem_cons.mpr ⟨lw_p9, List.forall_mem_cons.mpr ⟨lw_p10, List.forall_mem_cons.mpr ⟨lw_p11, List.forall_mem_cons.mpr ⟨lw_p12, List.forall_mem_cons.mpr ⟨lw_p13, List.forall_mem_cons.mpr ⟨lw_p14, List.forall_mem_cons.mpr ⟨lw_p15, fun _ h => absurd h List.not_mem_nil⟩⟩⟩⟩⟩⟩⟩⟩⟩⟩⟩⟩⟩⟩⟩⟩
theorem lw_p16 : lw_okq (⟨"StolenHolidays$Reader", "readProduct", "(LStolenHolidays$Law;I)Z"⟩, 3) := ⟨⟨by decide +kernel, by decide +kernel⟩, List.mem_of_getElem? (i := 69) (by decide +kernel), List.mem_of_getElem? (i := 612) (by decide +kernel), List.mem_of_getElem? (i := 613) (by decide +kernel)⟩
theorem lw_p17 : lw_okq (⟨"StolenHolidays$Reader", "readPart", "(LStolenHolidays$Law;I)Z"⟩, 3) := ⟨⟨by decide +kernel, by decide +kernel⟩, List.mem_of_getElem? (i := 69) (by decide +kernel), List.mem_of_getElem? (i := 616) (by decide +kernel), List.mem_of_getElem? (i := 617) (by decide +kernel)⟩
theorem lw_p18 : lw_okq (⟨"StolenHolidays$Reader", "factTold", "()I"⟩, 3) := ⟨⟨by decide +kernel, by decide +kernel⟩, List.mem_of_getElem? (i := 69) (by decide +kernel), List.mem_of_getElem? (i := 621) (by decide +kernel), List.mem_of_getElem? (i := 622) (by decide +kernel)⟩
theorem lw_p19 : lw_okq (⟨"StolenHolidays$Reader", "readYearLine", "(LStolenHolidays$Year;LStolenHolidays$Almanac;)Z"⟩, 3) := ⟨⟨by decide +kernel, by decide +kernel⟩, List.mem_of_getElem? (i := 69) (by decide +kernel), List.mem_of_getElem? (i := 656) (by decide +kernel), List.mem_of_getElem? (i := 657) (by decide +kernel)⟩
theorem lw_p20 : lw_okq (⟨"StolenHolidays$Reader", "doingTold", "()I"⟩, 3) := ⟨⟨by decide +kernel, by decide +kernel⟩, List.mem_of_getElem? (i := 69) (by decide +kernel), List.mem_of_getElem? (i := 660) (by decide +kernel), List.mem_of_getElem? (i := 661) (by decide +kernel)⟩
theorem lw_p21 : lw_okq (⟨"StolenHolidays$Reader", "takeThief", "(LStolenHolidays$Almanac;)Z"⟩, 3) := ⟨⟨by decide +kernel, by decide +kernel⟩, List.mem_of_getElem? (i := 69) (by decide +kernel), List.mem_of_getElem? (i := 669) (by decide +kernel), List.mem_of_getElem? (i := 670) (by decide +kernel)⟩
theorem lw_p22 : lw_okq (⟨"StolenHolidays$Reader", "takeDay", "(LStolenHolidays$Almanac;)Z"⟩, 3) := ⟨⟨by decide +kernel, by decide +kernel⟩, List.mem_of_getElem? (i := 69) (by decide +kernel), List.mem_of_getElem? (i := 673) (by decide +kernel), List.mem_of_getElem? (i := 674) (by decide +kernel)⟩
theorem lw_p23 : lw_okq (⟨"StolenHolidays$Reader", "takeOtherThief", "(LStolenHolidays$Almanac;I)Z"⟩, 3) := ⟨⟨by decide +kernel, by decide +kernel⟩, List.mem_of_getElem? (i := 69) (by decide +kernel), List.mem_of_getElem? (i := 677) (by decide +kernel), List.mem_of_getElem? (i := 678) (by decide +kernel)⟩
theorem lw_p24 : lw_okq (⟨"StolenHolidays", "isDay", "(I)Z"⟩, 13) := ⟨⟨by decide +kernel, by decide +kernel⟩, List.mem_of_getElem? (i := 27) (by decide +kernel), List.mem_of_getElem? (i := 689) (by decide +kernel), List.mem_of_getElem? (i := 690) (by decide +kernel)⟩
theorem lw_p25 : lw_okq (⟨"StolenHolidays", "isThief", "(I)Z"⟩, 13) := ⟨⟨by decide +kernel, by decide +kernel⟩, List.mem_of_getElem? (i := 27) (by decide +kernel), List.mem_of_getElem? (i := 697) (by decide +kernel), List.mem_of_getElem? (i := 698) (by decide +kernel)⟩
theorem lw_p26 : lw_okq (⟨"StolenHolidays$State", "exchange", "(II)V"⟩, 1) := ⟨⟨by decide +kernel, by decide +kernel⟩, List.mem_of_getElem? (i := 85) (by decide +kernel), List.mem_of_getElem? (i := 797) (by decide +kernel), List.mem_of_getElem? (i := 798) (by decide +kernel)⟩
theorem lw_p27 : lw_okq (⟨"StolenHolidays$State", "guiltBehind", "(II)I"⟩, 1) := ⟨⟨by decide +kernel, by decide +kernel⟩, List.mem_of_getElem? (i := 85) (by decide +kernel), List.mem_of_getElem? (i := 809) (by decide +kernel), List.mem_of_getElem? (i := 810) (by decide +kernel)⟩
theorem lw_p28 : lw_okq (⟨"StolenHolidays$State", "bitsOf", "(I)I"⟩, 1) := ⟨⟨by decide +kernel, by decide +kernel⟩, List.mem_of_getElem? (i := 85) (by decide +kernel), List.mem_of_getElem? (i := 825) (by decide +kernel), List.mem_of_getElem? (i := 826) (by decide +kernel)⟩
theorem lw_p29 : lw_okq (⟨"StolenHolidays", "firstWithMost", "(I)I"⟩, 13) := ⟨⟨by decide +kernel, by decide +kernel⟩, List.mem_of_getElem? (i := 27) (by decide +kernel), List.mem_of_getElem? (i := 879) (by decide +kernel), List.mem_of_getElem? (i := 880) (by decide +kernel)⟩
theorem lw_p30 : lw_okq (⟨"StolenHolidays$Gang", "send", "(LStolenHolidays$State;LStolenHolidays$Almanac;III)V"⟩, 3) := ⟨⟨by decide +kernel, by decide +kernel⟩, List.mem_of_getElem? (i := 137) (by decide +kernel), List.mem_of_getElem? (i := 949) (by decide +kernel), List.mem_of_getElem? (i := 950) (by decide +kernel)⟩
theorem lw_p31 : lw_okq (⟨"StolenHolidays", "mostWithout", "(I)I"⟩, 13) := ⟨⟨by decide +kernel, by decide +kernel⟩, List.mem_of_getElem? (i := 27) (by decide +kernel), List.mem_of_getElem? (i := 967) (by decide +kernel), List.mem_of_getElem? (i := 968) (by decide +kernel)⟩
def lw_privs_2 : List (MethodName × Nat) := [(⟨"StolenHolidays$Reader", "readProduct", "(LStolenHolidays$Law;I)Z"⟩, 3), (⟨"StolenHolidays$Reader", "readPart", "(LStolenHolidays$Law;I)Z"⟩, 3), (⟨"StolenHolidays$Reader", "factTold", "()I"⟩, 3), (⟨"StolenHolidays$Reader", "readYearLine", "(LStolenHolidays$Year;LStolenHolidays$Almanac;)Z"⟩, 3), (⟨"StolenHolidays$Reader", "doingTold", "()I"⟩, 3), (⟨"StolenHolidays$Reader", "takeThief", "(LStolenHolidays$Almanac;)Z"⟩, 3), (⟨"StolenHolidays$Reader", "takeDay", "(LStolenHolidays$Almanac;)Z"⟩, 3), (⟨"StolenHolidays$Reader", "takeOtherThief", "(LStolenHolidays$Almanac;I)Z"⟩, 3), (⟨"StolenHolidays", "isDay", "(I)Z"⟩, 13), (⟨"StolenHolidays", "isThief", "(I)Z"⟩, 13), (⟨"StolenHolidays$State", "exchange", "(II)V"⟩, 1), (⟨"StolenHolidays$State", "guiltBehind", "(II)I"⟩, 1), (⟨"StolenHolidays$State", "bitsOf", "(I)I"⟩, 1), (⟨"StolenHolidays", "firstWithMost", "(I)I"⟩, 13), (⟨"StolenHolidays$Gang", "send", "(LStolenHolidays$State;LStolenHolidays$Almanac;III)V"⟩, 3), (⟨"StolenHolidays", "mostWithout", "(I)I"⟩, 13)]
theorem lw_r2 : ∀ q ∈ lw_privs_2, lw_okq q := List.forall_mem_cons.mpr ⟨lw_p16, List.forall_mem_cons.mpr ⟨lw_p17, List.forall_mem_cons.mpr ⟨lw_p18, List.forall_mem_cons.mpr ⟨lw_p19, List.forall_mem_cons.mpr ⟨lw_p20, List.forall_mem_cons.mpr ⟨lw_p21, List.forall_mem_cons.mpr ⟨lw_p22, List.forall_mem_cons.mpr ⟨lw_p23, List.forall_mem_cons.mpr ⟨lw_p24, List.forall_mem_cons.mpr ⟨lw_p25, List.forall_mem_cons.mpr ⟨lw_p26, List.forall_mem_cons.mpr ⟨lw_p27, List.forall_mem_cons.mpr ⟨lw_p28, List.forall_mem_cons.mpr ⟨lw_p29, List.forall_mem_cons.mpr ⟨lw_p30, List.forall_mem_cons.mpr ⟨lw_p31, fun _ h => absurd h List.not_mem_nil⟩⟩⟩⟩⟩⟩⟩⟩⟩⟩⟩⟩⟩⟩⟩⟩
theorem lw_p32 : lw_okq (⟨"StolenHolidays$Spree", "go", "(LStolenHolidays$Almanac;IIII)V"⟩, 7) := ⟨⟨by decide +kernel, by decide +kernel⟩, List.mem_of_getElem? (i := 155) (by decide +kernel), List.mem_of_getElem? (i := 980) (by decide +kernel), List.mem_of_getElem? (i := 981) (by decide +kernel)⟩
theorem lw_p33 : lw_okq (⟨"StolenHolidays$Spree", "hope", "(LStolenHolidays$Almanac;I)I"⟩, 7) := ⟨⟨by decide +kernel, by decide +kernel⟩, List.mem_of_getElem? (i := 155) (by decide +kernel), List.mem_of_getElem? (i := 984) (by decide +kernel), List.mem_of_getElem? (i := 985) (by decide +kernel)⟩
theorem lw_p34 : lw_okq (⟨"StolenHolidays$Spree", "passNight", "(LStolenHolidays$Almanac;III)V"⟩, 7) := ⟨⟨by decide +kernel, by decide +kernel⟩, List.mem_of_getElem? (i := 155) (by decide +kernel), List.mem_of_getElem? (i := 990) (by decide +kernel), List.mem_of_getElem? (i := 991) (by decide +kernel)⟩
theorem lw_p35 : lw_okq (⟨"StolenHolidays", "openTo", "(II)I"⟩, 13) := ⟨⟨by decide +kernel, by decide +kernel⟩, List.mem_of_getElem? (i := 27) (by decide +kernel), List.mem_of_getElem? (i := 1025) (by decide +kernel), List.mem_of_getElem? (i := 1026) (by decide +kernel)⟩
theorem lw_p36 : lw_okq (⟨"StolenHolidays", "tryDrawn", "(III)I"⟩, 13) := ⟨⟨by decide +kernel, by decide +kernel⟩, List.mem_of_getElem? (i := 27) (by decide +kernel), List.mem_of_getElem? (i := 1054) (by decide +kernel), List.mem_of_getElem? (i := 1055) (by decide +kernel)⟩
theorem lw_p37 : lw_okq (⟨"StolenHolidays", "leftOfAll", "()I"⟩, 13) := ⟨⟨by decide +kernel, by decide +kernel⟩, List.mem_of_getElem? (i := 27) (by decide +kernel), List.mem_of_getElem? (i := 1088) (by decide +kernel), List.mem_of_getElem? (i := 1089) (by decide +kernel)⟩
theorem lw_p38 : lw_okq (⟨"java/lang/Throwable", "fillInStackTrace", "(I)Ljava/lang/Throwable;"⟩, 6) := ⟨⟨by decide +kernel, by decide +kernel⟩, List.mem_of_getElem? (i := 1136) (by decide +kernel), List.mem_of_getElem? (i := 1134) (by decide +kernel), List.mem_of_getElem? (i := 1135) (by decide +kernel)⟩
theorem lw_p39 : lw_okq (⟨"StolenHolidaysModel", "fresh0", "()V"⟩, 59) := ⟨⟨by decide +kernel, by decide +kernel⟩, List.mem_of_getElem? (i := 1167) (by decide +kernel), List.mem_of_getElem? (i := 1173) (by decide +kernel), List.mem_of_getElem? (i := 1174) (by decide +kernel)⟩
theorem lw_p40 : lw_okq (⟨"StolenHolidaysModel", "readsAll", "()Z"⟩, 59) := ⟨⟨by decide +kernel, by decide +kernel⟩, List.mem_of_getElem? (i := 1167) (by decide +kernel), List.mem_of_getElem? (i := 1368) (by decide +kernel), List.mem_of_getElem? (i := 1369) (by decide +kernel)⟩
theorem lw_p41 : lw_okq (⟨"StolenHolidaysModel", "begins", "()V"⟩, 59) := ⟨⟨by decide +kernel, by decide +kernel⟩, List.mem_of_getElem? (i := 1167) (by decide +kernel), List.mem_of_getElem? (i := 1372) (by decide +kernel), List.mem_of_getElem? (i := 1373) (by decide +kernel)⟩
theorem lw_p42 : lw_okq (⟨"StolenHolidaysModel", "nextToken", "()V"⟩, 59) := ⟨⟨by decide +kernel, by decide +kernel⟩, List.mem_of_getElem? (i := 1167) (by decide +kernel), List.mem_of_getElem? (i := 1376) (by decide +kernel), List.mem_of_getElem? (i := 1377) (by decide +kernel)⟩
theorem lw_p43 : lw_okq (⟨"StolenHolidaysModel", "signAt", "(I)I"⟩, 59) := ⟨⟨by decide +kernel, by decide +kernel⟩, List.mem_of_getElem? (i := 1167) (by decide +kernel), List.mem_of_getElem? (i := 1380) (by decide +kernel), List.mem_of_getElem? (i := 1381) (by decide +kernel)⟩
theorem lw_p44 : lw_okq (⟨"StolenHolidaysModel", "isWord", "(J)Z"⟩, 59) := ⟨⟨by decide +kernel, by decide +kernel⟩, List.mem_of_getElem? (i := 1167) (by decide +kernel), List.mem_of_getElem? (i := 1387) (by decide +kernel), List.mem_of_getElem? (i := 1388) (by decide +kernel)⟩
theorem lw_p45 : lw_okq (⟨"StolenHolidaysModel", "readsDay", "()Z"⟩, 59) := ⟨⟨by decide +kernel, by decide +kernel⟩, List.mem_of_getElem? (i := 1167) (by decide +kernel), List.mem_of_getElem? (i := 1391) (by decide +kernel), List.mem_of_getElem? (i := 1392) (by decide +kernel)⟩
theorem lw_p46 : lw_okq (⟨"StolenHolidaysModel", "fails", "(I)Z"⟩, 59) := ⟨⟨by decide +kernel, by decide +kernel⟩, List.mem_of_getElem? (i := 1167) (by decide +kernel), List.mem_of_getElem? (i := 1395) (by decide +kernel), List.mem_of_getElem? (i := 1396) (by decide +kernel)⟩
theorem lw_p47 : lw_okq (⟨"StolenHolidaysModel", "needsNew", "()Z"⟩, 59) := ⟨⟨by decide +kernel, by decide +kernel⟩, List.mem_of_getElem? (i := 1167) (by decide +kernel), List.mem_of_getElem? (i := 1399) (by decide +kernel), List.mem_of_getElem? (i := 1400) (by decide +kernel)⟩
def lw_privs_3 : List (MethodName × Nat) := [(⟨"StolenHolidays$Spree", "go", "(LStolenHolidays$Almanac;IIII)V"⟩, 7), (⟨"StolenHolidays$Spree", "hope", "(LStolenHolidays$Almanac;I)I"⟩, 7), (⟨"StolenHolidays$Spree", "passNight", "(LStolenHolidays$Almanac;III)V"⟩, 7), (⟨"StolenHolidays", "openTo", "(II)I"⟩, 13), (⟨"StolenHolidays", "tryDrawn", "(III)I"⟩, 13), (⟨"StolenHolidays", "leftOfAll", "()I"⟩, 13), (⟨"java/lang/Throwable", "fillInStackTrace", "(I)Ljava/lang/Throwable;"⟩, 6), (⟨"StolenHolidaysModel", "fresh0", "()V"⟩, 59), (⟨"StolenHolidaysModel", "readsAll", "()Z"⟩, 59), (⟨"StolenHolidaysModel", "begins", "()V"⟩, 59), (⟨"StolenHolidaysModel", "nextToken", "()V"⟩, 59), (⟨"StolenHolidaysModel", "signAt", "(I)I"⟩, 59), (⟨"StolenHolidaysModel", "isWord", "(J)Z"⟩, 59), (⟨"StolenHolidaysModel", "readsDay", "()Z"⟩, 59), (⟨"StolenHolidaysModel", "fails", "(I)Z"⟩, 59), (⟨"StolenHolidaysModel", "needsNew", "()Z"⟩, 59)]
theorem lw_r3 : ∀ q ∈ lw_privs_3, lw_okq q := List.forall_mem_cons.mpr ⟨lw_p32, List.forall_mem_cons.mpr ⟨lw_p33, List.forall_mem_cons.mpr ⟨lw_p34, List.forall_mem_cons.mpr ⟨lw_p35, List.forall_mem_cons.mpr ⟨lw_p36, List.forall_mem_cons.mpr ⟨lw_p37, List.forall_mem_cons.mpr ⟨lw_p38, List.forall_mem_cons.mpr ⟨lw_p39, List.forall_mem_cons.mpr ⟨lw_p40, List.forall_mem_cons.mpr ⟨lw_p41, List.forall_mem_cons.mpr ⟨lw_p42, List.forall_mem_cons.mpr ⟨lw_p43, List.forall_mem_cons.mpr ⟨lw_p44, List.forall_mem_cons.mpr ⟨lw_p45, List.forall_mem_cons.mpr ⟨lw_p46, List.forall_mem_cons.mpr ⟨lw_p47, fun _ h => absurd h List.not_mem_nil⟩⟩⟩⟩⟩⟩⟩⟩⟩⟩⟩⟩⟩⟩⟩⟩
theorem lw_p48 : lw_okq (⟨"StolenHolidaysModel", "isKept", "()Z"⟩, 59) := ⟨⟨by decide +kernel, by decide +kernel⟩, List.mem_of_getElem? (i := 1167) (by decide +kernel), List.mem_of_getElem? (i := 1403) (by decide +kernel), List.mem_of_getElem? (i := 1404) (by decide +kernel)⟩
theorem lw_p49 : lw_okq (⟨"StolenHolidaysModel", "dayNamed", "(I)I"⟩, 59) := ⟨⟨by decide +kernel, by decide +kernel⟩, List.mem_of_getElem? (i := 1167) (by decide +kernel), List.mem_of_getElem? (i := 1425) (by decide +kernel), List.mem_of_getElem? (i := 1426) (by decide +kernel)⟩
theorem lw_p50 : lw_okq (⟨"StolenHolidaysModel", "namedIn", "([JII)I"⟩, 59) := ⟨⟨by decide +kernel, by decide +kernel⟩, List.mem_of_getElem? (i := 1167) (by decide +kernel), List.mem_of_getElem? (i := 1429) (by decide +kernel), List.mem_of_getElem? (i := 1430) (by decide +kernel)⟩
theorem lw_p51 : lw_okq (⟨"StolenHolidaysModel", "thiefNamed", "(I)I"⟩, 59) := ⟨⟨by decide +kernel, by decide +kernel⟩, List.mem_of_getElem? (i := 1167) (by decide +kernel), List.mem_of_getElem? (i := 1433) (by decide +kernel), List.mem_of_getElem? (i := 1434) (by decide +kernel)⟩
theorem lw_p52 : lw_okq (⟨"StolenHolidaysModel", "needsBoth", "(JII)Z"⟩, 59) := ⟨⟨by decide +kernel, by decide +kernel⟩, List.mem_of_getElem? (i := 1167) (by decide +kernel), List.mem_of_getElem? (i := 1437) (by decide +kernel), List.mem_of_getElem? (i := 1438) (by decide +kernel)⟩
theorem lw_p53 : lw_okq (⟨"StolenHolidaysModel", "needsNumber", "(II)Z"⟩, 59) := ⟨⟨by decide +kernel, by decide +kernel⟩, List.mem_of_getElem? (i := 1167) (by decide +kernel), List.mem_of_getElem? (i := 1441) (by decide +kernel), List.mem_of_getElem? (i := 1442) (by decide +kernel)⟩
theorem lw_p54 : lw_okq (⟨"StolenHolidaysModel", "closes", "()Z"⟩, 59) := ⟨⟨by decide +kernel, by decide +kernel⟩, List.mem_of_getElem? (i := 1167) (by decide +kernel), List.mem_of_getElem? (i := 1448) (by decide +kernel), List.mem_of_getElem? (i := 1449) (by decide +kernel)⟩
theorem lw_p55 : lw_okq (⟨"StolenHolidaysModel", "isSign", "(I)Z"⟩, 59) := ⟨⟨by decide +kernel, by decide +kernel⟩, List.mem_of_getElem? (i := 1167) (by decide +kernel), List.mem_of_getElem? (i := 1452) (by decide +kernel), List.mem_of_getElem? (i := 1453) (by decide +kernel)⟩
theorem lw_p56 : lw_okq (⟨"StolenHolidaysModel", "readsThief", "()Z"⟩, 59) := ⟨⟨by decide +kernel, by decide +kernel⟩, List.mem_of_getElem? (i := 1167) (by decide +kernel), List.mem_of_getElem? (i := 1456) (by decide +kernel), List.mem_of_getElem? (i := 1457) (by decide +kernel)⟩
theorem lw_p57 : lw_okq (⟨"StolenHolidaysModel", "readsPays", "()Z"⟩, 59) := ⟨⟨by decide +kernel, by decide +kernel⟩, List.mem_of_getElem? (i := 1167) (by decide +kernel), List.mem_of_getElem? (i := 1460) (by decide +kernel), List.mem_of_getElem? (i := 1461) (by decide +kernel)⟩
theorem lw_p58 : lw_okq (⟨"StolenHolidaysModel", "reads", "()Z"⟩, 59) := ⟨⟨by decide +kernel, by decide +kernel⟩, List.mem_of_getElem? (i := 1167) (by decide +kernel), List.mem_of_getElem? (i := 1464) (by decide +kernel), List.mem_of_getElem? (i := 1465) (by decide +kernel)⟩
theorem lw_p59 : lw_okq (⟨"StolenHolidaysModel", "fact", "()I"⟩, 59) := ⟨⟨by decide +kernel, by decide +kernel⟩, List.mem_of_getElem? (i := 1167) (by decide +kernel), List.mem_of_getElem? (i := 1468) (by decide +kernel), List.mem_of_getElem? (i := 1469) (by decide +kernel)⟩
theorem lw_p60 : lw_okq (⟨"StolenHolidaysModel", "puts", "(I)V"⟩, 59) := ⟨⟨by decide +kernel, by decide +kernel⟩, List.mem_of_getElem? (i := 1167) (by decide +kernel), List.mem_of_getElem? (i := 1476) (by decide +kernel), List.mem_of_getElem? (i := 1477) (by decide +kernel)⟩
theorem lw_p61 : lw_okq (⟨"StolenHolidaysModel", "lays", "()V"⟩, 59) := ⟨⟨by decide +kernel, by decide +kernel⟩, List.mem_of_getElem? (i := 1167) (by decide +kernel), List.mem_of_getElem? (i := 1480) (by decide +kernel), List.mem_of_getElem? (i := 1481) (by decide +kernel)⟩
theorem lw_p62 : lw_okq (⟨"StolenHolidaysModel", "readsLine", "()Z"⟩, 59) := ⟨⟨by decide +kernel, by decide +kernel⟩, List.mem_of_getElem? (i := 1167) (by decide +kernel), List.mem_of_getElem? (i := 1494) (by decide +kernel), List.mem_of_getElem? (i := 1495) (by decide +kernel)⟩
theorem lw_p63 : lw_okq (⟨"StolenHolidaysModel", "passesFound", "(I)Z"⟩, 59) := ⟨⟨by decide +kernel, by decide +kernel⟩, List.mem_of_getElem? (i := 1167) (by decide +kernel), List.mem_of_getElem? (i := 1498) (by decide +kernel), List.mem_of_getElem? (i := 1499) (by decide +kernel)⟩
def lw_privs_4 : List (MethodName × Nat) := [(⟨"StolenHolidaysModel", "isKept", "()Z"⟩, 59), (⟨"StolenHolidaysModel", "dayNamed", "(I)I"⟩, 59), (⟨"StolenHolidaysModel", "namedIn", "([JII)I"⟩, 59), (⟨"StolenHolidaysModel", "thiefNamed", "(I)I"⟩, 59), (⟨"StolenHolidaysModel", "needsBoth", "(JII)Z"⟩, 59), (⟨"StolenHolidaysModel", "needsNumber", "(II)Z"⟩, 59), (⟨"StolenHolidaysModel", "closes", "()Z"⟩, 59), (⟨"StolenHolidaysModel", "isSign", "(I)Z"⟩, 59), (⟨"StolenHolidaysModel", "readsThief", "()Z"⟩, 59), (⟨"StolenHolidaysModel", "readsPays", "()Z"⟩, 59), (⟨"StolenHolidaysModel", "reads", "()Z"⟩, 59), (⟨"StolenHolidaysModel", "fact", "()I"⟩, 59), (⟨"StolenHolidaysModel", "puts", "(I)V"⟩, 59), (⟨"StolenHolidaysModel", "lays", "()V"⟩, 59), (⟨"StolenHolidaysModel", "readsLine", "()Z"⟩, 59), (⟨"StolenHolidaysModel", "passesFound", "(I)Z"⟩, 59)]
theorem lw_r4 : ∀ q ∈ lw_privs_4, lw_okq q := List.forall_mem_cons.mpr ⟨lw_p48, List.forall_mem_cons.mpr ⟨lw_p49, List.forall_mem_cons.mpr ⟨lw_p50, List.forall_mem_cons.mpr ⟨lw_p51, List.forall_mem_cons.mpr ⟨lw_p52, List.forall_mem_cons.mpr ⟨lw_p53, List.forall_mem_cons.mpr ⟨lw_p54, List.forall_mem_cons.mpr ⟨lw_p55, List.forall_mem_cons.mpr ⟨lw_p56, List.forall_mem_cons.mpr ⟨lw_p57, List.forall_mem_cons.mpr ⟨lw_p58, List.forall_mem_cons.mpr ⟨lw_p59, List.forall_mem_cons.mpr ⟨lw_p60, List.forall_mem_cons.mpr ⟨lw_p61, List.forall_mem_cons.mpr ⟨lw_p62, List.forall_mem_cons.mpr ⟨lw_p63, fun _ h => absurd h List.not_mem_nil⟩⟩⟩⟩⟩⟩⟩⟩⟩⟩⟩⟩⟩⟩⟩⟩
theorem lw_p64 : lw_okq (⟨"StolenHolidaysModel", "isFound", "(I)Z"⟩, 59) := ⟨⟨by decide +kernel, by decide +kernel⟩, List.mem_of_getElem? (i := 1167) (by decide +kernel), List.mem_of_getElem? (i := 1502) (by decide +kernel), List.mem_of_getElem? (i := 1503) (by decide +kernel)⟩
theorem lw_p65 : lw_okq (⟨"StolenHolidaysModel", "laysLines", "(II)V"⟩, 59) := ⟨⟨by decide +kernel, by decide +kernel⟩, List.mem_of_getElem? (i := 1167) (by decide +kernel), List.mem_of_getElem? (i := 1506) (by decide +kernel), List.mem_of_getElem? (i := 1507) (by decide +kernel)⟩
theorem lw_p66 : lw_okq (⟨"StolenHolidaysModel", "isDay", "(I)Z"⟩, 59) := ⟨⟨by decide +kernel, by decide +kernel⟩, List.mem_of_getElem? (i := 1167) (by decide +kernel), List.mem_of_getElem? (i := 1514) (by decide +kernel), List.mem_of_getElem? (i := 1515) (by decide +kernel)⟩
theorem lw_p67 : lw_okq (⟨"StolenHolidaysModel", "isThief", "(I)Z"⟩, 59) := ⟨⟨by decide +kernel, by decide +kernel⟩, List.mem_of_getElem? (i := 1167) (by decide +kernel), List.mem_of_getElem? (i := 1522) (by decide +kernel), List.mem_of_getElem? (i := 1523) (by decide +kernel)⟩
theorem lw_p68 : lw_okq (⟨"StolenHolidaysModel", "couldSteal", "(I)Z"⟩, 59) := ⟨⟨by decide +kernel, by decide +kernel⟩, List.mem_of_getElem? (i := 1167) (by decide +kernel), List.mem_of_getElem? (i := 1530) (by decide +kernel), List.mem_of_getElem? (i := 1531) (by decide +kernel)⟩
theorem lw_p69 : lw_okq (⟨"StolenHolidaysModel", "isFree", "(I)Z"⟩, 59) := ⟨⟨by decide +kernel, by decide +kernel⟩, List.mem_of_getElem? (i := 1167) (by decide +kernel), List.mem_of_getElem? (i := 1534) (by decide +kernel), List.mem_of_getElem? (i := 1535) (by decide +kernel)⟩
theorem lw_p70 : lw_okq (⟨"StolenHolidaysModel", "hasPiece", "(I)Z"⟩, 59) := ⟨⟨by decide +kernel, by decide +kernel⟩, List.mem_of_getElem? (i := 1167) (by decide +kernel), List.mem_of_getElem? (i := 1538) (by decide +kernel), List.mem_of_getElem? (i := 1539) (by decide +kernel)⟩
theorem lw_p71 : lw_okq (⟨"StolenHolidaysModel", "keepsIt", "()V"⟩, 59) := ⟨⟨by decide +kernel, by decide +kernel⟩, List.mem_of_getElem? (i := 1167) (by decide +kernel), List.mem_of_getElem? (i := 1542) (by decide +kernel), List.mem_of_getElem? (i := 1543) (by decide +kernel)⟩
theorem lw_p72 : lw_okq (⟨"StolenHolidaysModel", "steals", "(II)I"⟩, 59) := ⟨⟨by decide +kernel, by decide +kernel⟩, List.mem_of_getElem? (i := 1167) (by decide +kernel), List.mem_of_getElem? (i := 1549) (by decide +kernel), List.mem_of_getElem? (i := 1550) (by decide +kernel)⟩
theorem lw_p73 : lw_okq (⟨"StolenHolidaysModel", "haulOf", "(II)I"⟩, 59) := ⟨⟨by decide +kernel, by decide +kernel⟩, List.mem_of_getElem? (i := 1167) (by decide +kernel), List.mem_of_getElem? (i := 1553) (by decide +kernel), List.mem_of_getElem? (i := 1554) (by decide +kernel)⟩
theorem lw_p74 : lw_okq (⟨"StolenHolidaysModel", "isOpen", "(II)Z"⟩, 59) := ⟨⟨by decide +kernel, by decide +kernel⟩, List.mem_of_getElem? (i := 1167) (by decide +kernel), List.mem_of_getElem? (i := 1557) (by decide +kernel), List.mem_of_getElem? (i := 1558) (by decide +kernel)⟩
theorem lw_p75 : lw_okq (⟨"StolenHolidaysModel", "canDeal", "(I)Z"⟩, 59) := ⟨⟨by decide +kernel, by decide +kernel⟩, List.mem_of_getElem? (i := 1167) (by decide +kernel), List.mem_of_getElem? (i := 1566) (by decide +kernel), List.mem_of_getElem? (i := 1567) (by decide +kernel)⟩
theorem lw_p76 : lw_okq (⟨"StolenHolidaysModel", "sellsIt", "(I)I"⟩, 59) := ⟨⟨by decide +kernel, by decide +kernel⟩, List.mem_of_getElem? (i := 1167) (by decide +kernel), List.mem_of_getElem? (i := 1570) (by decide +kernel), List.mem_of_getElem? (i := 1571) (by decide +kernel)⟩
theorem lw_p77 : lw_okq (⟨"StolenHolidaysModel", "priceOf", "(I)I"⟩, 59) := ⟨⟨by decide +kernel, by decide +kernel⟩, List.mem_of_getElem? (i := 1167) (by decide +kernel), List.mem_of_getElem? (i := 1574) (by decide +kernel), List.mem_of_getElem? (i := 1575) (by decide +kernel)⟩
theorem lw_p78 : lw_okq (⟨"StolenHolidaysModel", "worked", "(I)I"⟩, 59) := ⟨⟨by decide +kernel, by decide +kernel⟩, List.mem_of_getElem? (i := 1167) (by decide +kernel), List.mem_of_getElem? (i := 1578) (by decide +kernel), List.mem_of_getElem? (i := 1579) (by decide +kernel)⟩
theorem lw_p79 : lw_okq (⟨"StolenHolidaysModel", "openings", "(I)V"⟩, 59) := ⟨⟨by decide +kernel, by decide +kernel⟩, List.mem_of_getElem? (i := 1167) (by decide +kernel), List.mem_of_getElem? (i := 1582) (by decide +kernel), List.mem_of_getElem? (i := 1583) (by decide +kernel)⟩
def lw_privs_5 : List (MethodName × Nat) := [(⟨"StolenHolidaysModel", "isFound", "(I)Z"⟩, 59), (⟨"StolenHolidaysModel", "laysLines", "(II)V"⟩, 59), (⟨"StolenHolidaysModel", "isDay", "(I)Z"⟩, 59), (⟨"StolenHolidaysModel", "isThief", "(I)Z"⟩, 59), (⟨"StolenHolidaysModel", "couldSteal", "(I)Z"⟩, 59), (⟨"StolenHolidaysModel", "isFree", "(I)Z"⟩, 59), (⟨"StolenHolidaysModel", "hasPiece", "(I)Z"⟩, 59), (⟨"StolenHolidaysModel", "keepsIt", "()V"⟩, 59), (⟨"StolenHolidaysModel", "steals", "(II)I"⟩, 59), (⟨"StolenHolidaysModel", "haulOf", "(II)I"⟩, 59), (⟨"StolenHolidaysModel", "isOpen", "(II)Z"⟩, 59), (⟨"StolenHolidaysModel", "canDeal", "(I)Z"⟩, 59), (⟨"StolenHolidaysModel", "sellsIt", "(I)I"⟩, 59), (⟨"StolenHolidaysModel", "priceOf", "(I)I"⟩, 59), (⟨"StolenHolidaysModel", "worked", "(I)I"⟩, 59), (⟨"StolenHolidaysModel", "openings", "(I)V"⟩, 59)]
theorem lw_r5 : ∀ q ∈ lw_privs_5, lw_okq q := List.forall_mem_cons.mpr ⟨lw_p64, List.forall_mem_cons.mpr ⟨lw_p65, List.forall_mem_cons.mpr ⟨lw_p66, List.forall_mem_cons.mpr ⟨lw_p67, List.forall_mem_cons.mpr ⟨lw_p68, List.forall_mem_cons.mpr ⟨lw_p69, List.forall_mem_cons.mpr ⟨lw_p70, List.forall_mem_cons.mpr ⟨lw_p71, List.forall_mem_cons.mpr ⟨lw_p72, List.forall_mem_cons.mpr ⟨lw_p73, List.forall_mem_cons.mpr ⟨lw_p74, List.forall_mem_cons.mpr ⟨lw_p75, List.forall_mem_cons.mpr ⟨lw_p76, List.forall_mem_cons.mpr ⟨lw_p77, List.forall_mem_cons.mpr ⟨lw_p78, List.forall_mem_cons.mpr ⟨lw_p79, fun _ h => absurd h List.not_mem_nil⟩⟩⟩⟩⟩⟩⟩⟩⟩⟩⟩⟩⟩⟩⟩⟩
theorem lw_p80 : lw_okq (⟨"StolenHolidaysModel", "sums", "(I)V"⟩, 59) := ⟨⟨by decide +kernel, by decide +kernel⟩, List.mem_of_getElem? (i := 1167) (by decide +kernel), List.mem_of_getElem? (i := 1586) (by decide +kernel), List.mem_of_getElem? (i := 1587) (by decide +kernel)⟩
theorem lw_p81 : lw_okq (⟨"StolenHolidaysModel", "tests", "(I)V"⟩, 59) := ⟨⟨by decide +kernel, by decide +kernel⟩, List.mem_of_getElem? (i := 1167) (by decide +kernel), List.mem_of_getElem? (i := 1590) (by decide +kernel), List.mem_of_getElem? (i := 1591) (by decide +kernel)⟩
theorem lw_p82 : lw_okq (⟨"StolenHolidaysModel", "takesAway", "(I)V"⟩, 59) := ⟨⟨by decide +kernel, by decide +kernel⟩, List.mem_of_getElem? (i := 1167) (by decide +kernel), List.mem_of_getElem? (i := 1597) (by decide +kernel), List.mem_of_getElem? (i := 1598) (by decide +kernel)⟩
theorem lw_p83 : lw_okq (⟨"StolenHolidaysModel", "spendsIt", "(I)I"⟩, 59) := ⟨⟨by decide +kernel, by decide +kernel⟩, List.mem_of_getElem? (i := 1167) (by decide +kernel), List.mem_of_getElem? (i := 1605) (by decide +kernel), List.mem_of_getElem? (i := 1606) (by decide +kernel)⟩
theorem lw_p84 : lw_okq (⟨"StolenHolidaysModel", "joyOf", "(I)I"⟩, 59) := ⟨⟨by decide +kernel, by decide +kernel⟩, List.mem_of_getElem? (i := 1167) (by decide +kernel), List.mem_of_getElem? (i := 1609) (by decide +kernel), List.mem_of_getElem? (i := 1610) (by decide +kernel)⟩
theorem lw_p85 : lw_okq (⟨"StolenHolidaysModel", "swapsIt", "(II)V"⟩, 59) := ⟨⟨by decide +kernel, by decide +kernel⟩, List.mem_of_getElem? (i := 1167) (by decide +kernel), List.mem_of_getElem? (i := 1618) (by decide +kernel), List.mem_of_getElem? (i := 1619) (by decide +kernel)⟩
theorem lw_p86 : lw_okq (⟨"StolenHolidaysModel", "passes", "()V"⟩, 59) := ⟨⟨by decide +kernel, by decide +kernel⟩, List.mem_of_getElem? (i := 1167) (by decide +kernel), List.mem_of_getElem? (i := 1626) (by decide +kernel), List.mem_of_getElem? (i := 1627) (by decide +kernel)⟩
theorem lw_p87 : lw_okq (⟨"StolenHolidaysModel", "ages", "(I)V"⟩, 59) := ⟨⟨by decide +kernel, by decide +kernel⟩, List.mem_of_getElem? (i := 1167) (by decide +kernel), List.mem_of_getElem? (i := 1630) (by decide +kernel), List.mem_of_getElem? (i := 1631) (by decide +kernel)⟩
theorem lw_p88 : lw_okq (⟨"StolenHolidaysModel", "having", "()I"⟩, 59) := ⟨⟨by decide +kernel, by decide +kernel⟩, List.mem_of_getElem? (i := 1167) (by decide +kernel), List.mem_of_getElem? (i := 1634) (by decide +kernel), List.mem_of_getElem? (i := 1635) (by decide +kernel)⟩
theorem lw_p89 : lw_okq (⟨"StolenHolidaysModel", "isDone", "(I)Z"⟩, 59) := ⟨⟨by decide +kernel, by decide +kernel⟩, List.mem_of_getElem? (i := 1167) (by decide +kernel), List.mem_of_getElem? (i := 1646) (by decide +kernel), List.mem_of_getElem? (i := 1647) (by decide +kernel)⟩
theorem lw_p90 : lw_okq (⟨"StolenHolidaysModel", "caughtOnes", "()I"⟩, 59) := ⟨⟨by decide +kernel, by decide +kernel⟩, List.mem_of_getElem? (i := 1167) (by decide +kernel), List.mem_of_getElem? (i := 1650) (by decide +kernel), List.mem_of_getElem? (i := 1651) (by decide +kernel)⟩
theorem lw_p91 : lw_okq (⟨"StolenHolidaysModel", "sumOf", "(II)I"⟩, 59) := ⟨⟨by decide +kernel, by decide +kernel⟩, List.mem_of_getElem? (i := 1167) (by decide +kernel), List.mem_of_getElem? (i := 1654) (by decide +kernel), List.mem_of_getElem? (i := 1655) (by decide +kernel)⟩
theorem lw_p92 : lw_okq (⟨"StolenHolidaysModel", "canOf", "(I)I"⟩, 59) := ⟨⟨by decide +kernel, by decide +kernel⟩, List.mem_of_getElem? (i := 1167) (by decide +kernel), List.mem_of_getElem? (i := 1662) (by decide +kernel), List.mem_of_getElem? (i := 1663) (by decide +kernel)⟩
theorem lw_p93 : lw_okq (⟨"StolenHolidaysModel", "mostAt", "(I)I"⟩, 59) := ⟨⟨by decide +kernel, by decide +kernel⟩, List.mem_of_getElem? (i := 1167) (by decide +kernel), List.mem_of_getElem? (i := 1682) (by decide +kernel), List.mem_of_getElem? (i := 1683) (by decide +kernel)⟩
theorem lw_p94 : lw_okq (⟨"StolenHolidaysModel", "laterAt", "(II)I"⟩, 59) := ⟨⟨by decide +kernel, by decide +kernel⟩, List.mem_of_getElem? (i := 1167) (by decide +kernel), List.mem_of_getElem? (i := 1694) (by decide +kernel), List.mem_of_getElem? (i := 1695) (by decide +kernel)⟩
theorem lw_p95 : lw_okq (⟨"StolenHolidaysModel", "areWhole", "()Z"⟩, 59) := ⟨⟨by decide +kernel, by decide +kernel⟩, List.mem_of_getElem? (i := 1167) (by decide +kernel), List.mem_of_getElem? (i := 1718) (by decide +kernel), List.mem_of_getElem? (i := 1719) (by decide +kernel)⟩
def lw_privs_6 : List (MethodName × Nat) := [(⟨"StolenHolidaysModel", "sums", "(I)V"⟩, 59), (⟨"StolenHolidaysModel", "tests", "(I)V"⟩, 59), (⟨"StolenHolidaysModel", "takesAway", "(I)V"⟩, 59), (⟨"StolenHolidaysModel", "spendsIt", "(I)I"⟩, 59), (⟨"StolenHolidaysModel", "joyOf", "(I)I"⟩, 59), (⟨"StolenHolidaysModel", "swapsIt", "(II)V"⟩, 59), (⟨"StolenHolidaysModel", "passes", "()V"⟩, 59), (⟨"StolenHolidaysModel", "ages", "(I)V"⟩, 59), (⟨"StolenHolidaysModel", "having", "()I"⟩, 59), (⟨"StolenHolidaysModel", "isDone", "(I)Z"⟩, 59), (⟨"StolenHolidaysModel", "caughtOnes", "()I"⟩, 59), (⟨"StolenHolidaysModel", "sumOf", "(II)I"⟩, 59), (⟨"StolenHolidaysModel", "canOf", "(I)I"⟩, 59), (⟨"StolenHolidaysModel", "mostAt", "(I)I"⟩, 59), (⟨"StolenHolidaysModel", "laterAt", "(II)I"⟩, 59), (⟨"StolenHolidaysModel", "areWhole", "()Z"⟩, 59)]
theorem lw_r6 : ∀ q ∈ lw_privs_6, lw_okq q := List.forall_mem_cons.mpr ⟨lw_p80, List.forall_mem_cons.mpr ⟨lw_p81, List.forall_mem_cons.mpr ⟨lw_p82, List.forall_mem_cons.mpr ⟨lw_p83, List.forall_mem_cons.mpr ⟨lw_p84, List.forall_mem_cons.mpr ⟨lw_p85, List.forall_mem_cons.mpr ⟨lw_p86, List.forall_mem_cons.mpr ⟨lw_p87, List.forall_mem_cons.mpr ⟨lw_p88, List.forall_mem_cons.mpr ⟨lw_p89, List.forall_mem_cons.mpr ⟨lw_p90, List.forall_mem_cons.mpr ⟨lw_p91, List.forall_mem_cons.mpr ⟨lw_p92, List.forall_mem_cons.mpr ⟨lw_p93, List.forall_mem_cons.mpr ⟨lw_p94, List.forall_mem_cons.mpr ⟨lw_p95, fun _ h => absurd h List.not_mem_nil⟩⟩⟩⟩⟩⟩⟩⟩⟩⟩⟩⟩⟩⟩⟩⟩
theorem lw_p96 : lw_okq (⟨"StolenHolidaysModel", "waitFor", "(IZ)I"⟩, 59) := ⟨⟨by decide +kernel, by decide +kernel⟩, List.mem_of_getElem? (i := 1167) (by decide +kernel), List.mem_of_getElem? (i := 1726) (by decide +kernel), List.mem_of_getElem? (i := 1727) (by decide +kernel)⟩
theorem lw_p97 : lw_okq (⟨"StolenHolidaysModel", "goesOut", "(III)V"⟩, 59) := ⟨⟨by decide +kernel, by decide +kernel⟩, List.mem_of_getElem? (i := 1167) (by decide +kernel), List.mem_of_getElem? (i := 1742) (by decide +kernel), List.mem_of_getElem? (i := 1743) (by decide +kernel)⟩
theorem lw_p98 : lw_okq (⟨"StolenHolidaysModel", "mostBut", "(I)I"⟩, 59) := ⟨⟨by decide +kernel, by decide +kernel⟩, List.mem_of_getElem? (i := 1167) (by decide +kernel), List.mem_of_getElem? (i := 1754) (by decide +kernel), List.mem_of_getElem? (i := 1755) (by decide +kernel)⟩
theorem lw_p99 : lw_okq (⟨"StolenHolidaysModel", "spreeOf", "(II)I"⟩, 59) := ⟨⟨by decide +kernel, by decide +kernel⟩, List.mem_of_getElem? (i := 1167) (by decide +kernel), List.mem_of_getElem? (i := 1762) (by decide +kernel), List.mem_of_getElem? (i := 1763) (by decide +kernel)⟩
theorem lw_p100 : lw_okq (⟨"StolenHolidaysModel", "laysOpen", "()V"⟩, 59) := ⟨⟨by decide +kernel, by decide +kernel⟩, List.mem_of_getElem? (i := 1167) (by decide +kernel), List.mem_of_getElem? (i := 1774) (by decide +kernel), List.mem_of_getElem? (i := 1775) (by decide +kernel)⟩
theorem lw_p101 : lw_okq (⟨"StolenHolidaysModel", "isAsSeen", "(I)Z"⟩, 59) := ⟨⟨by decide +kernel, by decide +kernel⟩, List.mem_of_getElem? (i := 1167) (by decide +kernel), List.mem_of_getElem? (i := 1778) (by decide +kernel), List.mem_of_getElem? (i := 1779) (by decide +kernel)⟩
theorem lw_p102 : lw_okq (⟨"StolenHolidaysModel", "lives", "()I"⟩, 59) := ⟨⟨by decide +kernel, by decide +kernel⟩, List.mem_of_getElem? (i := 1167) (by decide +kernel), List.mem_of_getElem? (i := 1807) (by decide +kernel), List.mem_of_getElem? (i := 1808) (by decide +kernel)⟩
theorem lw_p103 : lw_okq (⟨"StolenHolidaysModel", "draws", "(I)I"⟩, 59) := ⟨⟨by decide +kernel, by decide +kernel⟩, List.mem_of_getElem? (i := 1167) (by decide +kernel), List.mem_of_getElem? (i := 1811) (by decide +kernel), List.mem_of_getElem? (i := 1812) (by decide +kernel)⟩
theorem lw_p104 : lw_okq (⟨"StolenHolidaysModel", "laysSeen", "(II)V"⟩, 59) := ⟨⟨by decide +kernel, by decide +kernel⟩, List.mem_of_getElem? (i := 1167) (by decide +kernel), List.mem_of_getElem? (i := 1823) (by decide +kernel), List.mem_of_getElem? (i := 1824) (by decide +kernel)⟩
def lw_privs_7 : List (MethodName × Nat) := [(⟨"StolenHolidaysModel", "waitFor", "(IZ)I"⟩, 59), (⟨"StolenHolidaysModel", "goesOut", "(III)V"⟩, 59), (⟨"StolenHolidaysModel", "mostBut", "(I)I"⟩, 59), (⟨"StolenHolidaysModel", "spreeOf", "(II)I"⟩, 59), (⟨"StolenHolidaysModel", "laysOpen", "()V"⟩, 59), (⟨"StolenHolidaysModel", "isAsSeen", "(I)Z"⟩, 59), (⟨"StolenHolidaysModel", "lives", "()I"⟩, 59), (⟨"StolenHolidaysModel", "draws", "(I)I"⟩, 59), (⟨"StolenHolidaysModel", "laysSeen", "(II)V"⟩, 59)]
theorem lw_r7 : ∀ q ∈ lw_privs_7, lw_okq q := List.forall_mem_cons.mpr ⟨lw_p96, List.forall_mem_cons.mpr ⟨lw_p97, List.forall_mem_cons.mpr ⟨lw_p98, List.forall_mem_cons.mpr ⟨lw_p99, List.forall_mem_cons.mpr ⟨lw_p100, List.forall_mem_cons.mpr ⟨lw_p101, List.forall_mem_cons.mpr ⟨lw_p102, List.forall_mem_cons.mpr ⟨lw_p103, List.forall_mem_cons.mpr ⟨lw_p104, fun _ h => absurd h List.not_mem_nil⟩⟩⟩⟩⟩⟩⟩⟩⟩
def lw_privs : List (MethodName × Nat) := lw_privs_1 ++ (lw_privs_2 ++ (lw_privs_3 ++ (lw_privs_4 ++ (lw_privs_5 ++ (lw_privs_6 ++ (lw_privs_7))))))
def lw_tbl : List Cond := k2_sels lw_privs ++ tables_1
theorem lw_privs_ok : ∀ q ∈ lw_privs, lw_okq q := by
  show ∀ q ∈ lw_privs_1 ++ (lw_privs_2 ++ (lw_privs_3 ++ (lw_privs_4 ++ (lw_privs_5 ++ (lw_privs_6 ++ (lw_privs_7)))))), lw_okq q
  exact List.forall_mem_append.mpr ⟨lw_r1, List.forall_mem_append.mpr ⟨lw_r2, List.forall_mem_append.mpr ⟨lw_r3, List.forall_mem_append.mpr ⟨lw_r4, List.forall_mem_append.mpr ⟨lw_r5, List.forall_mem_append.mpr ⟨lw_r6, lw_r7⟩⟩⟩⟩⟩⟩
end
section
def RX0 : String := "StolenHolidays$Almanac"
def TX0 : u_T := fun k => match k with
  | 0 => ("StolenHolidays$Almanac", "days", "I", false)
  | 1 => ("StolenHolidays$Almanac", "thieves", "I", false)
  | 2 => ("StolenHolidays$Almanac", "lawTold", "Z", false)
  | 3 => ("StolenHolidays$Almanac", "dayNames", "[J", true)
  | 4 => ("StolenHolidays$Almanac", "kinds", "[I", true)
  | 5 => ("StolenHolidays$Almanac", "worths", "[I", true)
  | 6 => ("StolenHolidays$Almanac", "guards", "[I", true)
  | 7 => ("StolenHolidays$Almanac", "thiefNames", "[J", true)
  | 8 => ("StolenHolidays$Almanac", "skills", "[I", true)
  | 9 => ("StolenHolidays$Almanac", "sacks", "[I", true)
  | _ => ("StolenHolidays$Almanac", "law", "LStolenHolidays$Law;", true)
def tyX0 : Nat → FieldType := fun k => match k with
  | 0 => .int
  | 1 => .int
  | 2 => .boolean
  | 3 => .array .long
  | 4 => .array .int
  | 5 => .array .int
  | 6 => .array .int
  | 7 => .array .long
  | 8 => .array .int
  | 9 => .array .int
  | _ => .object "StolenHolidays$Law"
abbrev wsX00 : List Cond := u_ws RX0 TX0 11
theorem nmX0 : ∀ a, a < 11 → ∀ b, b < 11 → a ≠ b → (TX0 a).2.1 ≠ (TX0 b).2.1 := by decide +kernel
theorem tyX0_ok : ∀ k, k < 11 → parseFieldDescriptor (TX0 k).2.2.1 = some (tyX0 k) := by decide +kernel
def RX1 : String := "StolenHolidays$Gang"
def TX1 : u_T := fun k => match k with
  | 0 => ("StolenHolidays$Gang", "row", "[I", true)
  | 1 => ("StolenHolidays$Gang", "best", "[I", true)
  | _ => ("StolenHolidays$Gang", "most", "I", false)
def tyX1 : Nat → FieldType := fun k => match k with
  | 0 => .array .int
  | 1 => .array .int
  | _ => .int
abbrev wsX10 : List Cond := u_ws RX1 TX1 3
theorem nmX1 : ∀ a, a < 3 → ∀ b, b < 3 → a ≠ b → (TX1 a).2.1 ≠ (TX1 b).2.1 := by decide +kernel
theorem tyX1_ok : ∀ k, k < 3 → parseFieldDescriptor (TX1 k).2.2.1 = some (tyX1 k) := by decide +kernel
def RX2 : String := "StolenHolidays$Law"
def TX2 : u_T := fun k => match k with
  | 0 => ("StolenHolidays$Law", "code", "[I", true)
  | 1 => ("StolenHolidays$Law", "stack", "[I", true)
  | _ => ("StolenHolidays$Law", "length", "I", false)
def tyX2 : Nat → FieldType := fun k => match k with
  | 0 => .array .int
  | 1 => .array .int
  | _ => .int
abbrev wsX20 : List Cond := u_ws RX2 TX2 3
theorem nmX2 : ∀ a, a < 3 → ∀ b, b < 3 → a ≠ b → (TX2 a).2.1 ≠ (TX2 b).2.1 := by decide +kernel
theorem tyX2_ok : ∀ k, k < 3 → parseFieldDescriptor (TX2 k).2.2.1 = some (tyX2 k) := by decide +kernel
def RX3 : String := "StolenHolidays$Mark"
def TX3 : u_T := fun k => match k with
  | 0 => ("StolenHolidays$Mark", "laid", "Z", false)
  | 1 => ("StolenHolidays$Mark", "state", "LStolenHolidays$State;", true)
  | 2 => ("StolenHolidays$Mark", "year", "LStolenHolidays$Year;", true)
  | _ => ("StolenHolidays$Mark", "seen", "LStolenHolidays$Seen;", true)
def tyX3 : Nat → FieldType := fun k => match k with
  | 0 => .boolean
  | 1 => .object "StolenHolidays$State"
  | 2 => .object "StolenHolidays$Year"
  | _ => .object "StolenHolidays$Seen"
abbrev wsX30 : List Cond := u_ws RX3 TX3 4
theorem nmX3 : ∀ a, a < 4 → ∀ b, b < 4 → a ≠ b → (TX3 a).2.1 ≠ (TX3 b).2.1 := by decide +kernel
theorem tyX3_ok : ∀ k, k < 4 → parseFieldDescriptor (TX3 k).2.2.1 = some (tyX3 k) := by decide +kernel
def RX4 : String := "StolenHolidays$Past"
def TX4 : u_T := fun k => match k with
  | 0 => ("StolenHolidays$Past", "rows", "[I", true)
  | 1 => ("StolenHolidays$Past", "next", "I", false)
  | _ => ("StolenHolidays$Past", "size", "I", false)
def tyX4 : Nat → FieldType := fun k => match k with
  | 0 => .array .int
  | 1 => .int
  | _ => .int
abbrev wsX40 : List Cond := u_ws RX4 TX4 3
theorem nmX4 : ∀ a, a < 3 → ∀ b, b < 3 → a ≠ b → (TX4 a).2.1 ≠ (TX4 b).2.1 := by decide +kernel
theorem tyX4_ok : ∀ k, k < 3 → parseFieldDescriptor (TX4 k).2.2.1 = some (tyX4 k) := by decide +kernel
def RX5 : String := "StolenHolidays$Reader"
def TX5 : u_T := fun k => match k with
  | 0 => ("StolenHolidays$Reader", "tape", "LStolenHolidays$Tape;", true)
  | 1 => ("StolenHolidays$Reader", "fault", "I", false)
  | _ => ("StolenHolidays$Reader", "taken", "I", false)
def tyX5 : Nat → FieldType := fun k => match k with
  | 0 => .object "StolenHolidays$Tape"
  | 1 => .int
  | _ => .int
abbrev wsX50 : List Cond := u_ws RX5 TX5 3
theorem nmX5 : ∀ a, a < 3 → ∀ b, b < 3 → a ≠ b → (TX5 a).2.1 ≠ (TX5 b).2.1 := by decide +kernel
theorem tyX5_ok : ∀ k, k < 3 → parseFieldDescriptor (TX5 k).2.2.1 = some (tyX5 k) := by decide +kernel
def RX6 : String := "StolenHolidays$Seen"
def TX6 : u_T := fun k => match k with
  | 0 => ("StolenHolidays$Seen", "size", "I", false)
  | 1 => ("StolenHolidays$Seen", "days", "[I", true)
  | 2 => ("StolenHolidays$Seen", "nights", "[I", true)
  | _ => ("StolenHolidays$Seen", "opens", "[Z", true)
def tyX6 : Nat → FieldType := fun k => match k with
  | 0 => .int
  | 1 => .array .int
  | 2 => .array .int
  | _ => .array .boolean
abbrev wsX60 : List Cond := u_ws RX6 TX6 4
theorem nmX6 : ∀ a, a < 4 → ∀ b, b < 4 → a ≠ b → (TX6 a).2.1 ≠ (TX6 b).2.1 := by decide +kernel
theorem tyX6_ok : ∀ k, k < 4 → parseFieldDescriptor (TX6 k).2.2.1 = some (tyX6 k) := by decide +kernel
def RX7 : String := "StolenHolidays$Spree"
def TX7 : u_T := fun k => match k with
  | 0 => ("StolenHolidays$Spree", "left", "[I", true)
  | 1 => ("StolenHolidays$Spree", "guard", "[I", true)
  | 2 => ("StolenHolidays$Spree", "skill", "I", false)
  | 3 => ("StolenHolidays$Spree", "sack", "I", false)
  | 4 => ("StolenHolidays$Spree", "nights", "I", false)
  | 5 => ("StolenHolidays$Spree", "most", "I", false)
  | _ => ("StolenHolidays$Spree", "first", "I", false)
def tyX7 : Nat → FieldType := fun k => match k with
  | 0 => .array .int
  | 1 => .array .int
  | 2 => .int
  | 3 => .int
  | 4 => .int
  | 5 => .int
  | _ => .int
abbrev wsX70 : List Cond := u_ws RX7 TX7 7
theorem nmX7 : ∀ a, a < 7 → ∀ b, b < 7 → a ≠ b → (TX7 a).2.1 ≠ (TX7 b).2.1 := by decide +kernel
theorem tyX7_ok : ∀ k, k < 7 → parseFieldDescriptor (TX7 k).2.2.1 = some (tyX7 k) := by decide +kernel
def RX8 : String := "StolenHolidays$State"
def TX8 : u_T := fun k => match k with
  | _ => ("StolenHolidays$State", "cells", "[I", true)
def tyX8 : Nat → FieldType := fun k => match k with
  | _ => .array .int
abbrev wsX80 : List Cond := u_ws RX8 TX8 1
theorem nmX8 : ∀ a, a < 1 → ∀ b, b < 1 → a ≠ b → (TX8 a).2.1 ≠ (TX8 b).2.1 := by decide +kernel
theorem tyX8_ok : ∀ k, k < 1 → parseFieldDescriptor (TX8 k).2.2.1 = some (tyX8 k) := by decide +kernel
def RX9 : String := "StolenHolidays$Tape"
def TX9 : u_T := fun k => match k with
  | 0 => ("StolenHolidays$Tape", "signs", "[B", true)
  | 1 => ("StolenHolidays$Tape", "length", "I", false)
  | 2 => ("StolenHolidays$Tape", "kind", "I", false)
  | 3 => ("StolenHolidays$Tape", "place", "I", false)
  | 4 => ("StolenHolidays$Tape", "behind", "I", false)
  | 5 => ("StolenHolidays$Tape", "word", "J", false)
  | _ => ("StolenHolidays$Tape", "number", "I", false)
def tyX9 : Nat → FieldType := fun k => match k with
  | 0 => .array .byte
  | 1 => .int
  | 2 => .int
  | 3 => .int
  | 4 => .int
  | 5 => .long
  | _ => .int
abbrev wsX90 : List Cond := u_ws RX9 TX9 7
theorem nmX9 : ∀ a, a < 7 → ∀ b, b < 7 → a ≠ b → (TX9 a).2.1 ≠ (TX9 b).2.1 := by decide +kernel
theorem tyX9_ok : ∀ k, k < 7 → parseFieldDescriptor (TX9 k).2.2.1 = some (tyX9 k) := by decide +kernel
def RX10 : String := "StolenHolidays$Year"
def TX10 : u_T := fun k => match k with
  | 0 => ("StolenHolidays$Year", "lines", "I", false)
  | 1 => ("StolenHolidays$Year", "doings", "[I", true)
  | 2 => ("StolenHolidays$Year", "firsts", "[I", true)
  | _ => ("StolenHolidays$Year", "seconds", "[I", true)
def tyX10 : Nat → FieldType := fun k => match k with
  | 0 => .int
  | 1 => .array .int
  | 2 => .array .int
  | _ => .array .int
abbrev wsX100 : List Cond := u_ws RX10 TX10 4
theorem nmX10 : ∀ a, a < 4 → ∀ b, b < 4 → a ≠ b → (TX10 a).2.1 ≠ (TX10 b).2.1 := by decide +kernel
theorem tyX10_ok : ∀ k, k < 4 → parseFieldDescriptor (TX10 k).2.2.1 = some (tyX10 k) := by decide +kernel
def RX11 : String := "StolenHolidays"
def TX11 : u_T := fun k => match k with
  | 0 => ("StolenHolidays", "tape", "LStolenHolidays$Tape;", true)
  | 1 => ("StolenHolidays", "reader", "LStolenHolidays$Reader;", true)
  | 2 => ("StolenHolidays", "now", "LStolenHolidays$State;", true)
  | 3 => ("StolenHolidays", "trial", "LStolenHolidays$State;", true)
  | 4 => ("StolenHolidays", "past", "LStolenHolidays$Past;", true)
  | 5 => ("StolenHolidays", "seen", "LStolenHolidays$Seen;", true)
  | 6 => ("StolenHolidays", "gang", "LStolenHolidays$Gang;", true)
  | 7 => ("StolenHolidays", "spree", "LStolenHolidays$Spree;", true)
  | 8 => ("StolenHolidays", "marks", "[LStolenHolidays$Mark;", true)
  | 9 => ("StolenHolidays", "book", "LStolenHolidays$Almanac;", false)
  | 10 => ("StolenHolidays", "bookDraft", "LStolenHolidays$Almanac;", false)
  | 11 => ("StolenHolidays", "year", "LStolenHolidays$Year;", false)
  | _ => ("StolenHolidays", "yearDraft", "LStolenHolidays$Year;", false)
def tyX11 : Nat → FieldType := fun k => match k with
  | 0 => .object "StolenHolidays$Tape"
  | 1 => .object "StolenHolidays$Reader"
  | 2 => .object "StolenHolidays$State"
  | 3 => .object "StolenHolidays$State"
  | 4 => .object "StolenHolidays$Past"
  | 5 => .object "StolenHolidays$Seen"
  | 6 => .object "StolenHolidays$Gang"
  | 7 => .object "StolenHolidays$Spree"
  | 8 => .array (.object "StolenHolidays$Mark")
  | 9 => .object "StolenHolidays$Almanac"
  | 10 => .object "StolenHolidays$Almanac"
  | 11 => .object "StolenHolidays$Year"
  | _ => .object "StolenHolidays$Year"
abbrev wsX110 : List Cond := u_ws RX11 TX11 13
theorem nmX11 : ∀ a, a < 13 → ∀ b, b < 13 → a ≠ b → (TX11 a).2.1 ≠ (TX11 b).2.1 := by decide +kernel
theorem tyX11_ok : ∀ k, k < 13 → parseFieldDescriptor (TX11 k).2.2.1 = some (tyX11 k) := by decide +kernel
def RX12 : String := "StolenHolidaysModel"
def TX12 : u_T := fun k => match k with
  | 0 => ("StolenHolidaysModel", "thrown", "I", false)
  | 1 => ("StolenHolidaysModel", "taped", "I", false)
  | 2 => ("StolenHolidaysModel", "tape", "[I", true)
  | 3 => ("StolenHolidaysModel", "size", "I", false)
  | 4 => ("StolenHolidaysModel", "place", "I", false)
  | 5 => ("StolenHolidaysModel", "begin", "I", false)
  | 6 => ("StolenHolidaysModel", "token", "I", false)
  | 7 => ("StolenHolidaysModel", "word", "J", false)
  | 8 => ("StolenHolidaysModel", "told", "I", false)
  | 9 => ("StolenHolidaysModel", "wrong", "I", false)
  | 10 => ("StolenHolidaysModel", "almanac", "[I", true)
  | 11 => ("StolenHolidaysModel", "dayName", "[J", true)
  | 12 => ("StolenHolidaysModel", "thiefName", "[J", true)
  | 13 => ("StolenHolidaysModel", "kind", "[I", true)
  | 14 => ("StolenHolidaysModel", "worthTold", "[I", true)
  | 15 => ("StolenHolidaysModel", "guardTold", "[I", true)
  | 16 => ("StolenHolidaysModel", "skill", "[I", true)
  | 17 => ("StolenHolidaysModel", "sack", "[I", true)
  | 18 => ("StolenHolidaysModel", "lineFrom", "[I", true)
  | 19 => ("StolenHolidaysModel", "lineTo", "[I", true)
  | 20 => ("StolenHolidaysModel", "codes", "[I", true)
  | 21 => ("StolenHolidaysModel", "code", "I", false)
  | 22 => ("StolenHolidaysModel", "opened", "[I", true)
  | 23 => ("StolenHolidaysModel", "compared", "[Z", true)
  | 24 => ("StolenHolidaysModel", "kept", "[I", true)
  | 25 => ("StolenHolidaysModel", "keptBy", "[I", true)
  | 26 => ("StolenHolidaysModel", "ahead", "[I", true)
  | 27 => ("StolenHolidaysModel", "against", "[I", true)
  | 28 => ("StolenHolidaysModel", "sum", "[I", true)
  | 29 => ("StolenHolidaysModel", "sumBy", "[I", true)
  | 30 => ("StolenHolidaysModel", "term", "[I", true)
  | 31 => ("StolenHolidaysModel", "termBy", "[I", true)
  | 32 => ("StolenHolidaysModel", "byNot", "[I", true)
  | 33 => ("StolenHolidaysModel", "valueOf", "[I", true)
  | 34 => ("StolenHolidaysModel", "given", "I", false)
  | 35 => ("StolenHolidaysModel", "fresh", "J", false)
  | 36 => ("StolenHolidaysModel", "lines", "[I", true)
  | 37 => ("StolenHolidaysModel", "lineWhat", "[I", true)
  | 38 => ("StolenHolidaysModel", "lineA", "[I", true)
  | 39 => ("StolenHolidaysModel", "lineB", "[I", true)
  | 40 => ("StolenHolidaysModel", "seens", "[I", true)
  | 41 => ("StolenHolidaysModel", "seenAt", "[I", true)
  | 42 => ("StolenHolidaysModel", "seenIn", "[I", true)
  | 43 => ("StolenHolidaysModel", "seenOpen", "[Z", true)
  | 44 => ("StolenHolidaysModel", "s", "[I", true)
  | 45 => ("StolenHolidaysModel", "aside", "[I", true)
  | 46 => ("StolenHolidaysModel", "before", "[I", true)
  | 47 => ("StolenHolidaysModel", "tried", "[I", true)
  | 48 => ("StolenHolidaysModel", "marked", "[I", true)
  | 49 => ("StolenHolidaysModel", "undone", "[I", true)
  | 50 => ("StolenHolidaysModel", "isLaid", "[Z", true)
  | 51 => ("StolenHolidaysModel", "done", "I", false)
  | 52 => ("StolenHolidaysModel", "greatest", "I", false)
  | 53 => ("StolenHolidaysModel", "row", "[I", true)
  | 54 => ("StolenHolidaysModel", "bestRow", "[I", true)
  | 55 => ("StolenHolidaysModel", "bestMuch", "I", false)
  | 56 => ("StolenHolidaysModel", "spreeDay", "I", false)
  | 57 => ("StolenHolidaysModel", "openIn", "[I", true)
  | _ => ("StolenHolidaysModel", "g", "J", false)
def tyX12 : Nat → FieldType := fun k => match k with
  | 0 => .int
  | 1 => .int
  | 2 => .array .int
  | 3 => .int
  | 4 => .int
  | 5 => .int
  | 6 => .int
  | 7 => .long
  | 8 => .int
  | 9 => .int
  | 10 => .array .int
  | 11 => .array .long
  | 12 => .array .long
  | 13 => .array .int
  | 14 => .array .int
  | 15 => .array .int
  | 16 => .array .int
  | 17 => .array .int
  | 18 => .array .int
  | 19 => .array .int
  | 20 => .array .int
  | 21 => .int
  | 22 => .array .int
  | 23 => .array .boolean
  | 24 => .array .int
  | 25 => .array .int
  | 26 => .array .int
  | 27 => .array .int
  | 28 => .array .int
  | 29 => .array .int
  | 30 => .array .int
  | 31 => .array .int
  | 32 => .array .int
  | 33 => .array .int
  | 34 => .int
  | 35 => .long
  | 36 => .array .int
  | 37 => .array .int
  | 38 => .array .int
  | 39 => .array .int
  | 40 => .array .int
  | 41 => .array .int
  | 42 => .array .int
  | 43 => .array .boolean
  | 44 => .array .int
  | 45 => .array .int
  | 46 => .array .int
  | 47 => .array .int
  | 48 => .array .int
  | 49 => .array .int
  | 50 => .array .boolean
  | 51 => .int
  | 52 => .int
  | 53 => .array .int
  | 54 => .array .int
  | 55 => .int
  | 56 => .int
  | 57 => .array .int
  | _ => .long
abbrev wsX120 : List Cond := u_ws RX12 TX12 59
theorem nmX12 : ∀ a, a < 59 → ∀ b, b < 59 → a ≠ b → (TX12 a).2.1 ≠ (TX12 b).2.1 := by decide +kernel
theorem tyX12_ok : ∀ k, k < 59 → parseFieldDescriptor (TX12 k).2.2.1 = some (tyX12 k) := by decide +kernel
abbrev sh_cl : List vw_C := [(RX0, TX0, 11), (RX1, TX1, 3), (RX2, TX2, 3), (RX3, TX3, 4), (RX4, TX4, 3), (RX5, TX5, 3), (RX6, TX6, 4), (RX7, TX7, 7), (RX8, TX8, 1), (RX9, TX9, 7), (RX10, TX10, 4), (RX11, TX11, 13), (RX12, TX12, 59)]
/-- the kinds of the fields: 0 int, 1 long, 2 a reference that moves, 3 boolean, 6 the cell 2, 10 and more: the cell that lies so much less 10 behind the object -/
def sh_ftl : List (List Nat) := [[0, 0, 3, 11, 12, 13, 14, 15, 16, 17, 18], [11, 12, 0], [11, 12, 0], [3, 11, 13, 17], [11, 0, 0], [6, 0, 0], [0, 11, 12, 13], [11, 12, 0, 0, 0, 0, 0], [11], [11, 0, 0, 0, 0, 1, 0], [0, 11, 12, 13], [11, 13, 14, 16, 18, 20, 24, 27, 30, 2, 2, 2, 2], [0, 0, 11, 0, 0, 0, 0, 1, 0, 0, 12, 13, 14, 15, 16, 17, 18, 19, 20, 21, 22, 0, 23, 24, 25, 26, 27, 28, 29, 30, 31, 32, 33, 34, 0, 1, 35, 36, 37, 38, 39, 40, 41, 42, 43, 44, 45, 46, 47, 48, 49, 0, 0, 50, 51, 0, 0, 52, 1]]
/-- the cells, in the order in which they are made: an object (its class) or an array (0 int, 1 long, 2 Mark, 3 boolean, 4 byte; its length) -/
def sh_shl : List (Nat ⊕ (Nat × Nat)) := [.inl 11, .inl 9, .inr (4, 1000), .inl 5, .inl 8, .inr (0, 45), .inl 8, .inr (0, 45), .inl 4, .inr (0, 720), .inl 6, .inr (0, 8), .inr (0, 8), .inr (3, 8), .inl 1, .inr (0, 4), .inr (0, 4), .inl 7, .inr (0, 48), .inr (0, 48), .inr (2, 4), .inl 0, .inr (1, 8), .inr (0, 8), .inr (0, 8), .inr (0, 8), .inr (1, 4), .inr (0, 4), .inr (0, 4), .inl 2, .inr (0, 1000), .inr (0, 32), .inl 0, .inr (1, 8), .inr (0, 8), .inr (0, 8), .inr (0, 8), .inr (1, 4), .inr (0, 4), .inr (0, 4), .inl 2, .inr (0, 1000), .inr (0, 32), .inl 10, .inr (0, 40), .inr (0, 40), .inr (0, 40), .inl 10, .inr (0, 40), .inr (0, 40), .inr (0, 40), .inl 3, .inl 8, .inr (0, 45), .inl 10, .inr (0, 40), .inr (0, 40), .inr (0, 40), .inl 6, .inr (0, 8), .inr (0, 8), .inr (3, 8), .inl 3, .inl 8, .inr (0, 45), .inl 10, .inr (0, 40), .inr (0, 40), .inr (0, 40), .inl 6, .inr (0, 8), .inr (0, 8), .inr (3, 8), .inl 3, .inl 8, .inr (0, 45), .inl 10, .inr (0, 40), .inr (0, 40), .inr (0, 40), .inl 6, .inr (0, 8), .inr (0, 8), .inr (3, 8), .inl 3, .inl 8, .inr (0, 45), .inl 10, .inr (0, 40), .inr (0, 40), .inr (0, 40), .inl 6, .inr (0, 8), .inr (0, 8), .inr (3, 8), .inl 12, .inr (0, 1000), .inr (0, 4), .inr (1, 16), .inr (1, 8), .inr (0, 16), .inr (0, 16), .inr (0, 16), .inr (0, 8), .inr (0, 8), .inr (0, 2), .inr (0, 2), .inr (0, 2000), .inr (0, 7), .inr (3, 7), .inr (0, 7), .inr (0, 7), .inr (0, 7), .inr (0, 7), .inr (0, 7), .inr (0, 7), .inr (0, 7), .inr (0, 7), .inr (0, 7), .inr (0, 20), .inr (0, 6), .inr (0, 240), .inr (0, 240), .inr (0, 240), .inr (0, 5), .inr (0, 40), .inr (0, 40), .inr (3, 40), .inr (0, 45), .inr (0, 45), .inr (0, 45), .inr (0, 270), .inr (0, 180), .inr (0, 720), .inr (3, 4), .inr (0, 4), .inr (0, 4), .inr (0, 124)]
abbrev sh_nc : Nat := 138
end
section
/-! ===== THE ABSTRACT MACHINE: values, memory, the world of the cells ===== -/
/-- an int, a long, a reference (the number of a cell; 1000 + i: the i-th text, 2000 + i: its bytes). Numbers are whole numbers that stand for what is left of them. -/
abbrev sh_V : Type := Int ⊕ (Int ⊕ Nat)
abbrev sh_i (x : Int) : sh_V := .inl x
abbrev sh_l (x : Int) : sh_V := .inr (.inl x)
abbrev sh_r (a : Nat) : sh_V := .inr (.inr a)
abbrev sh_Mem : Type := Nat → Nat → Int
/-- launch, classes' numbers, the base, array classes, texts, their bytes -/
abbrev sh_G : Type := Launch × va_G × Nat × (Nat → ClassId) × (Nat → Nat) × (Nat → Nat)
abbrev sh_M : Type := MethodName × ByteArray × Nat × Option FieldType
def sh_ad (g : sh_G) (a : Nat) : Nat := if a < 1000 then g.2.2.1 + a else if a < 2000 then g.2.2.2.2.1 (a - 1000) else g.2.2.2.2.2 (a - 2000)
def sh_cv (g : sh_G) : sh_V → Value
  | .inl x => .int (Int32.ofInt x)
  | .inr (.inl x) => .long (Int64.ofInt x)
  | .inr (.inr a) => .ref (sh_ad g a)
def sh_shp (a : Nat) : Option (Nat ⊕ (Nat × Nat)) := if a = 0 then none else sh_shl[a - 1]?
def sh_nf (ci : Nat) : Nat := (sh_ftl.getD ci []).length
def sh_ft (ci k : Nat) : Nat := (sh_ftl.getD ci []).getD k 0
def sh_fv (g : sh_G) (a t : Nat) (x : Int) : Value :=
  if t = 1 then .long (Int64.ofInt x) else if t = 2 then .ref (sh_ad g x.toNat) else if t = 6 then .ref (sh_ad g 2) else if 10 ≤ t then .ref (sh_ad g (a + (t - 10))) else .int (Int32.ofInt x)
def sh_ac (g : sh_G) (t : Nat) (f : Nat → Int) : (Nat → Int32) ⊕ (Nat → Int64) ⊕ (Nat → UInt32) ⊕ (Nat → UInt64) ⊕ (Nat → Option Nat) :=
  if t = 1 then .inr (.inl fun j => Int64.ofInt (f j)) else if t = 2 then .inr (.inr (.inr (.inr fun j => if j < 4 then some (sh_ad g (52 + 11 * j)) else none))) else .inl fun j => Int32.ofInt (f j)
def sh_fs (g : sh_G) (ci a : Nat) (r : Nat → Int) : List Value := (List.range (sh_nf ci)).map fun k => sh_fv g a (sh_ft ci k) (r k)
def sh_cel (g : sh_G) (mem : sh_Mem) (a : Nat) : va_E := match sh_shp a with
  | some (.inl ci) => .inr (ci, sh_fs g ci a (mem a))
  | some (.inr q) => .inl (g.2.2.2.1 q.1, q.2, sh_ac g q.1 (mem a))
  | none => .inr (0, [])
def sh_tys (g : sh_G) : List (ClassId × FieldType) := [(g.2.2.2.1 0, .int), (g.2.2.2.1 1, .long), (g.2.2.2.1 2, .object "StolenHolidays$Mark"), (g.2.2.2.1 3, .boolean), (g.2.2.2.1 4, .byte)]
def sh_w (g : sh_G) (mem : sh_Mem) : va_W := (List.range sh_nc).map fun i => (sh_ad g (i + 1), sh_cel g mem (i + 1))
/-- the cells of the world -/
def sh_A (g : sh_G) (q : Nat) : Prop := g.2.2.1 < q ∧ q ≤ g.2.2.1 + sh_nc
/-- one cell's row is another -/
def ms (mem : sh_Mem) (a : Nat) (r : Nat → Int) : sh_Mem := fun b => if b = a then r else mem b
def ru (r : Nat → Int) (i : Nat) (x : Int) : Nat → Int := fun j => if j = i then x else r j
theorem ms_s (mem : sh_Mem) (a : Nat) (r : Nat → Int) : ms mem a r a = r := if_pos rfl
theorem ms_n (mem : sh_Mem) {a b : Nat} (r : Nat → Int) (h : b ≠ a) : ms mem a r b = mem b := if_neg h
theorem ms_ms (mem : sh_Mem) (a : Nat) (r r2 : Nat → Int) : ms (ms mem a r) a r2 = ms mem a r2 := by
  funext b; unfold ms; split <;> rfl
theorem ms_id (mem : sh_Mem) (a : Nat) : ms mem a (mem a) = mem := by
  funext b; unfold ms; split
  · rename_i h; rw [h]
  · rfl
theorem ms_sw (mem : sh_Mem) {a b : Nat} (r r2 : Nat → Int) (h : a ≠ b) : ms (ms mem a r) b r2 = ms (ms mem b r2) a r := by
  funext c; unfold ms
  by_cases h1 : c = b
  · subst h1; rw [if_pos rfl, if_neg (Ne.symm h), if_pos rfl]
  · rw [if_neg h1]; by_cases h2 : c = a
    · rw [if_pos h2, if_pos h2]
    · rw [if_neg h2, if_neg h2, if_neg h1]
theorem ru_s (r : Nat → Int) (i : Nat) (x : Int) : ru r i x i = x := if_pos rfl
theorem ru_n (r : Nat → Int) {i j : Nat} (x : Int) (h : j ≠ i) : ru r i x j = r j := if_neg h
theorem sh_shp_lt {a : Nat} {q} (h : sh_shp a = some q) : 1 ≤ a ∧ a ≤ sh_nc := by
  unfold sh_shp at h
  by_cases h0 : a = 0
  · rw [if_pos h0] at h; cases h
  · rw [if_neg h0] at h
    have h1 := (List.getElem?_eq_some_iff.mp h).1
    have h2 : sh_shl.length = 138 := by decide +kernel
    rw [h2] at h1
    exact ⟨by omega, by show a ≤ 138; omega⟩
theorem sh_w_get (g : sh_G) (mem : sh_Mem) {a : Nat} (h : 1 ≤ a) (h2 : a ≤ sh_nc) : (sh_w g mem)[a - 1]? = some (sh_ad g a, sh_cel g mem a) := by
  have e : a - 1 + 1 = a := by omega
  unfold sh_w
  rw [List.getElem?_map, List.getElem?_range (by omega)]
  simp only [Option.map_some, e]
theorem sh_w_set (g : sh_G) {mem mem' : sh_Mem} {a : Nat} {x : va_E} (h : 1 ≤ a) (hm : ∀ b, b ≠ a → mem' b = mem b) (hx : x = sh_cel g mem' a) : (sh_w g mem).set (a - 1) (sh_ad g a, x) = sh_w g mem' := by
  apply List.ext_getElem?
  intro i
  unfold sh_w
  by_cases hi : i < sh_nc
  · by_cases e : i = a - 1
    · subst e
      have e2 : a - 1 + 1 = a := by omega
      rw [List.getElem?_set_self (by simpa using hi), List.getElem?_map, List.getElem?_range hi, hx]
      simp only [Option.map_some, e2]
    · rw [List.getElem?_set_ne (Ne.symm e), List.getElem?_map, List.getElem?_map, List.getElem?_range hi]
      have e3 : mem' (i + 1) = mem (i + 1) := hm _ (by omega)
      simp only [Option.map_some, sh_cel, e3]
  · rw [List.getElem?_eq_none (by simpa using hi), List.getElem?_eq_none (by simpa using hi)]
theorem sh_ad_lo (g : sh_G) {a : Nat} (h : a ≤ sh_nc) : sh_ad g a = g.2.2.1 + a := if_pos (Nat.lt_of_le_of_lt h (by decide))
theorem sh_w_D (g : sh_G) (mem : sh_Mem) {A : Nat → Prop} (hA : ∀ q, sh_A g q → A q) : va_D A (sh_w g mem) := by
  have key : ∀ (k : Nat) (q : Nat × va_E), (sh_w g mem)[k]? = some q → k < sh_nc ∧ q.1 = g.2.2.1 + (k + 1) := by
    intro k q hk
    by_cases h : k < sh_nc
    · have h1 := sh_w_get g mem (a := k + 1) (by omega) (by omega)
      rw [Nat.add_sub_cancel] at h1
      rw [h1] at hk
      cases hk
      exact ⟨h, sh_ad_lo g (by omega)⟩
    · unfold sh_w at hk
      rw [List.getElem?_eq_none (by simpa using h)] at hk
      cases hk
  refine ⟨fun i j p q hi hj e => ?_, fun k q hk => hA _ ?_⟩
  · have h1 := (key i p hi).2
    have h2 := (key j q hj).2
    omega
  · obtain ⟨h1, h2⟩ := key k q hk
    rw [h2]
    exact ⟨by omega, by omega⟩
theorem sh_cel_o (g : sh_G) (mem : sh_Mem) {a ci : Nat} (h : sh_shp a = some (.inl ci)) : sh_cel g mem a = .inr (ci, sh_fs g ci a (mem a)) := by
  unfold sh_cel; rw [h]
theorem sh_cel_a (g : sh_G) (mem : sh_Mem) {a t n : Nat} (h : sh_shp a = some (.inr (t, n))) : sh_cel g mem a = .inl (g.2.2.2.1 t, n, sh_ac g t (mem a)) := by
  unfold sh_cel; rw [h]
theorem sh_fs_get (g : sh_G) {ci a k : Nat} (r : Nat → Int) (h : k < sh_nf ci) : (sh_fs g ci a r)[k]? = some (sh_fv g a (sh_ft ci k) (r k)) := by
  unfold sh_fs
  rw [List.getElem?_map, List.getElem?_range h]
  rfl
theorem sh_fs_set (g : sh_G) {ci a k : Nat} (r : Nat → Int) (x : Int) : (sh_fs g ci a r).set k (sh_fv g a (sh_ft ci k) x) = sh_fs g ci a (ru r k x) := by
  apply List.ext_getElem?
  intro i
  unfold sh_fs
  by_cases hi : i < sh_nf ci
  · by_cases e : i = k
    · subst e
      rw [List.getElem?_set_self (by simpa using hi), List.getElem?_map, List.getElem?_range hi, Option.map_some, ru_s]
    · rw [List.getElem?_set_ne (Ne.symm e), List.getElem?_map, List.getElem?_map, List.getElem?_range hi, Option.map_some, Option.map_some, ru_n _ _ e]
  · rw [List.getElem?_eq_none (by simpa using hi), List.getElem?_eq_none (by simpa using hi)]
end
