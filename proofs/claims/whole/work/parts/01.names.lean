-- ===== PART A: goes FIRST, ahead of the names: the tables' words, and 'selects' of the private methods out of them =====
/-- a private method of a class that the tables say can be made, by its rows of tables_1 -/
def lw_okq (q : MethodName × Nat) : Prop := (q.1.cls ≠ "java/lang/invoke/MethodHandle" ∧ q.1.cls ≠ "java/lang/invoke/VarHandle") ∧ Cond.instantiable q.1.cls q.2 ∈ tables_1 ∧ Cond.privateMethod q.1 ∈ tables_1 ∧ Cond.instanceMethod q.1 ∈ tables_1
theorem lw_p0 : lw_okq (⟨"StickRace", "keepBrook", "()I"⟩, 20) := ⟨⟨by decide +kernel, by decide +kernel⟩, List.mem_of_getElem? (i := 23) (by decide +kernel), List.mem_of_getElem? (i := 457) (by decide +kernel), List.mem_of_getElem? (i := 458) (by decide +kernel)⟩
theorem lw_p1 : lw_okq (⟨"StickRace", "keepStick", "()I"⟩, 20) := ⟨⟨by decide +kernel, by decide +kernel⟩, List.mem_of_getElem? (i := 23) (by decide +kernel), List.mem_of_getElem? (i := 468) (by decide +kernel), List.mem_of_getElem? (i := 469) (by decide +kernel)⟩
theorem lw_p2 : lw_okq (⟨"StickRace", "noBrook", "(I)Z"⟩, 20) := ⟨⟨by decide +kernel, by decide +kernel⟩, List.mem_of_getElem? (i := 23) (by decide +kernel), List.mem_of_getElem? (i := 477) (by decide +kernel), List.mem_of_getElem? (i := 478) (by decide +kernel)⟩
theorem lw_p3 : lw_okq (⟨"StickRace", "noStick", "(I)Z"⟩, 20) := ⟨⟨by decide +kernel, by decide +kernel⟩, List.mem_of_getElem? (i := 23) (by decide +kernel), List.mem_of_getElem? (i := 497) (by decide +kernel), List.mem_of_getElem? (i := 498) (by decide +kernel)⟩
theorem lw_p4 : lw_okq (⟨"StickRace$Race", "xOf", "(I)I"⟩, 10) := ⟨⟨by decide +kernel, by decide +kernel⟩, List.mem_of_getElem? (i := 93) (by decide +kernel), List.mem_of_getElem? (i := 582) (by decide +kernel), List.mem_of_getElem? (i := 583) (by decide +kernel)⟩
theorem lw_p5 : lw_okq (⟨"StickRace$Race", "sortByX", "()V"⟩, 10) := ⟨⟨by decide +kernel, by decide +kernel⟩, List.mem_of_getElem? (i := 93) (by decide +kernel), List.mem_of_getElem? (i := 599) (by decide +kernel), List.mem_of_getElem? (i := 600) (by decide +kernel)⟩
theorem lw_p6 : lw_okq (⟨"StickRace$Race", "move", "(LStickRace$Runner;LStickRace$Weather;)V"⟩, 10) := ⟨⟨by decide +kernel, by decide +kernel⟩, List.mem_of_getElem? (i := 93) (by decide +kernel), List.mem_of_getElem? (i := 603) (by decide +kernel), List.mem_of_getElem? (i := 604) (by decide +kernel)⟩
theorem lw_p7 : lw_okq (⟨"StickRace$Race", "drawOfTen", "()I"⟩, 10) := ⟨⟨by decide +kernel, by decide +kernel⟩, List.mem_of_getElem? (i := 93) (by decide +kernel), List.mem_of_getElem? (i := 611) (by decide +kernel), List.mem_of_getElem? (i := 612) (by decide +kernel)⟩
theorem lw_p8 : lw_okq (⟨"StickRace$Race", "onWave", "(LStickRace$Runner;)Z"⟩, 10) := ⟨⟨by decide +kernel, by decide +kernel⟩, List.mem_of_getElem? (i := 93) (by decide +kernel), List.mem_of_getElem? (i := 623) (by decide +kernel), List.mem_of_getElem? (i := 624) (by decide +kernel)⟩
theorem lw_p9 : lw_okq (⟨"StickRace$Race", "leave", "(LStickRace$Runner;)V"⟩, 10) := ⟨⟨by decide +kernel, by decide +kernel⟩, List.mem_of_getElem? (i := 93) (by decide +kernel), List.mem_of_getElem? (i := 627) (by decide +kernel), List.mem_of_getElem? (i := 628) (by decide +kernel)⟩
theorem lw_p10 : lw_okq (⟨"StickRace$Race", "strike", "(LStickRace$Runner;)V"⟩, 10) := ⟨⟨by decide +kernel, by decide +kernel⟩, List.mem_of_getElem? (i := 93) (by decide +kernel), List.mem_of_getElem? (i := 632) (by decide +kernel), List.mem_of_getElem? (i := 633) (by decide +kernel)⟩
theorem lw_p11 : lw_okq (⟨"StickRace$Race", "goAside", "(LStickRace$Runner;II)V"⟩, 10) := ⟨⟨by decide +kernel, by decide +kernel⟩, List.mem_of_getElem? (i := 93) (by decide +kernel), List.mem_of_getElem? (i := 639) (by decide +kernel), List.mem_of_getElem? (i := 640) (by decide +kernel)⟩
theorem lw_p12 : lw_okq (⟨"StickRace", "noRunner", "(I)Z"⟩, 20) := ⟨⟨by decide +kernel, by decide +kernel⟩, List.mem_of_getElem? (i := 23) (by decide +kernel), List.mem_of_getElem? (i := 647) (by decide +kernel), List.mem_of_getElem? (i := 648) (by decide +kernel)⟩
theorem lw_p13 : lw_okq (⟨"StickRace", "tallyTold", "(I)Z"⟩, 20) := ⟨⟨by decide +kernel, by decide +kernel⟩, List.mem_of_getElem? (i := 23) (by decide +kernel), List.mem_of_getElem? (i := 676) (by decide +kernel), List.mem_of_getElem? (i := 677) (by decide +kernel)⟩
theorem lw_p14 : lw_okq (⟨"StickRace", "turnRunners", "(I)V"⟩, 20) := ⟨⟨by decide +kernel, by decide +kernel⟩, List.mem_of_getElem? (i := 23) (by decide +kernel), List.mem_of_getElem? (i := 680) (by decide +kernel), List.mem_of_getElem? (i := 681) (by decide +kernel)⟩
theorem lw_p15 : lw_okq (⟨"StickRace", "tallySeeds", "(I)V"⟩, 20) := ⟨⟨by decide +kernel, by decide +kernel⟩, List.mem_of_getElem? (i := 23) (by decide +kernel), List.mem_of_getElem? (i := 689) (by decide +kernel), List.mem_of_getElem? (i := 690) (by decide +kernel)⟩
def lw_privs_1 : List (MethodName × Nat) := [(⟨"StickRace", "keepBrook", "()I"⟩, 20), (⟨"StickRace", "keepStick", "()I"⟩, 20), (⟨"StickRace", "noBrook", "(I)Z"⟩, 20), (⟨"StickRace", "noStick", "(I)Z"⟩, 20), (⟨"StickRace$Race", "xOf", "(I)I"⟩, 10), (⟨"StickRace$Race", "sortByX", "()V"⟩, 10), (⟨"StickRace$Race", "move", "(LStickRace$Runner;LStickRace$Weather;)V"⟩, 10), (⟨"StickRace$Race", "drawOfTen", "()I"⟩, 10), (⟨"StickRace$Race", "onWave", "(LStickRace$Runner;)Z"⟩, 10), (⟨"StickRace$Race", "leave", "(LStickRace$Runner;)V"⟩, 10), (⟨"StickRace$Race", "strike", "(LStickRace$Runner;)V"⟩, 10), (⟨"StickRace$Race", "goAside", "(LStickRace$Runner;II)V"⟩, 10), (⟨"StickRace", "noRunner", "(I)Z"⟩, 20), (⟨"StickRace", "tallyTold", "(I)Z"⟩, 20), (⟨"StickRace", "turnRunners", "(I)V"⟩, 20), (⟨"StickRace", "tallySeeds", "(I)V"⟩, 20)]
theorem lw_r1 : ∀ q ∈ lw_privs_1, lw_okq q := List.forall_mem_cons.mpr ⟨lw_p0, List.forall_mem_cons.mpr ⟨lw_p1, List.forall_mem_cons.mpr ⟨lw_p2, List.forall_mem_cons.mpr ⟨lw_p3, List.forall_mem_cons.mpr ⟨lw_p4, List.forall_mem_cons.mpr ⟨lw_p5, List.forall_mem_cons.mpr ⟨lw_p6, List.forall_mem_cons.mpr ⟨lw_p7, List.forall_mem_cons.mpr ⟨lw_p8, List.forall_mem_cons.mpr ⟨lw_p9, List.forall_mem_cons.mpr ⟨lw_p10, List.forall_mem_cons.mpr ⟨lw_p11, List.forall_mem_cons.mpr ⟨lw_p12, List.forall_mem_cons.mpr ⟨lw_p13, List.forall_mem_cons.mpr ⟨lw_p14, List.forall_mem_cons.mpr ⟨lw_p15, fun _ h => absurd h List.not_mem_nil⟩⟩⟩⟩⟩⟩⟩⟩⟩⟩⟩⟩⟩⟩⟩⟩
theorem lw_p16 : lw_okq (⟨"StickRace", "ticksAlone", "(LStickRace$Brook;LStickRace$Stick;IJ)I"⟩, 20) := ⟨⟨by decide +kernel, by decide +kernel⟩, List.mem_of_getElem? (i := 23) (by decide +kernel), List.mem_of_getElem? (i := 702) (by decide +kernel), List.mem_of_getElem? (i := 703) (by decide +kernel)⟩
theorem lw_p17 : lw_okq (⟨"StickRace", "placeOne", "(LStickRace$Brook;LStickRace$Stick;I)Z"⟩, 20) := ⟨⟨by decide +kernel, by decide +kernel⟩, List.mem_of_getElem? (i := 23) (by decide +kernel), List.mem_of_getElem? (i := 706) (by decide +kernel), List.mem_of_getElem? (i := 707) (by decide +kernel)⟩
theorem lw_p18 : lw_okq (⟨"StickRace", "spreadParts", "(III)V"⟩, 20) := ⟨⟨by decide +kernel, by decide +kernel⟩, List.mem_of_getElem? (i := 23) (by decide +kernel), List.mem_of_getElem? (i := 718) (by decide +kernel), List.mem_of_getElem? (i := 719) (by decide +kernel)⟩
theorem lw_p19 : lw_okq (⟨"StickRace", "timeAlone", "(LStickRace$Brook;LStickRace$Stick;II)I"⟩, 20) := ⟨⟨by decide +kernel, by decide +kernel⟩, List.mem_of_getElem? (i := 23) (by decide +kernel), List.mem_of_getElem? (i := 731) (by decide +kernel), List.mem_of_getElem? (i := 732) (by decide +kernel)⟩
theorem lw_p20 : lw_okq (⟨"StickRace", "placeTwo", "(LStickRace$Brook;LStickRace$Stick;ILStickRace$Stick;I)Z"⟩, 20) := ⟨⟨by decide +kernel, by decide +kernel⟩, List.mem_of_getElem? (i := 23) (by decide +kernel), List.mem_of_getElem? (i := 747) (by decide +kernel), List.mem_of_getElem? (i := 748) (by decide +kernel)⟩
theorem lw_p21 : lw_okq (⟨"StickRace", "leadOfFirst", "(I)I"⟩, 20) := ⟨⟨by decide +kernel, by decide +kernel⟩, List.mem_of_getElem? (i := 23) (by decide +kernel), List.mem_of_getElem? (i := 751) (by decide +kernel), List.mem_of_getElem? (i := 752) (by decide +kernel)⟩
theorem lw_p22 : lw_okq (⟨"StickRace", "placesWith", "(II)I"⟩, 20) := ⟨⟨by decide +kernel, by decide +kernel⟩, List.mem_of_getElem? (i := 23) (by decide +kernel), List.mem_of_getElem? (i := 759) (by decide +kernel), List.mem_of_getElem? (i := 760) (by decide +kernel)⟩
theorem lw_p23 : lw_okq (⟨"StickRace", "findTrials", "(II)Z"⟩, 20) := ⟨⟨by decide +kernel, by decide +kernel⟩, List.mem_of_getElem? (i := 23) (by decide +kernel), List.mem_of_getElem? (i := 771) (by decide +kernel), List.mem_of_getElem? (i := 772) (by decide +kernel)⟩
theorem lw_p24 : lw_okq (⟨"StickRace", "liesOnAll", "(ILStickRace$Stick;I)Z"⟩, 20) := ⟨⟨by decide +kernel, by decide +kernel⟩, List.mem_of_getElem? (i := 23) (by decide +kernel), List.mem_of_getElem? (i := 775) (by decide +kernel), List.mem_of_getElem? (i := 776) (by decide +kernel)⟩
theorem lw_p25 : lw_okq (⟨"StickRace", "partPairs", "(I)V"⟩, 20) := ⟨⟨by decide +kernel, by decide +kernel⟩, List.mem_of_getElem? (i := 23) (by decide +kernel), List.mem_of_getElem? (i := 787) (by decide +kernel), List.mem_of_getElem? (i := 788) (by decide +kernel)⟩
theorem lw_p26 : lw_okq (⟨"StickRace$TrialBook", "partedBy", "(I)I"⟩, 4) := ⟨⟨by decide +kernel, by decide +kernel⟩, List.mem_of_getElem? (i := 302) (by decide +kernel), List.mem_of_getElem? (i := 810) (by decide +kernel), List.mem_of_getElem? (i := 811) (by decide +kernel)⟩
theorem lw_p27 : lw_okq (⟨"StickRace", "agrees", "(LStickRace$Brook;)Z"⟩, 20) := ⟨⟨by decide +kernel, by decide +kernel⟩, List.mem_of_getElem? (i := 23) (by decide +kernel), List.mem_of_getElem? (i := 830) (by decide +kernel), List.mem_of_getElem? (i := 831) (by decide +kernel)⟩
theorem lw_p28 : lw_okq (⟨"StickRace", "gapOf", "(II)I"⟩, 20) := ⟨⟨by decide +kernel, by decide +kernel⟩, List.mem_of_getElem? (i := 23) (by decide +kernel), List.mem_of_getElem? (i := 844) (by decide +kernel), List.mem_of_getElem? (i := 845) (by decide +kernel)⟩
theorem lw_p29 : lw_okq (⟨"StickRace", "noTick", "(I)Z"⟩, 20) := ⟨⟨by decide +kernel, by decide +kernel⟩, List.mem_of_getElem? (i := 23) (by decide +kernel), List.mem_of_getElem? (i := 878) (by decide +kernel), List.mem_of_getElem? (i := 879) (by decide +kernel)⟩
theorem lw_p30 : lw_okq (⟨"StickRace", "leastSum", "(LStickRace$Brook;LStickRace$Stick;I)I"⟩, 20) := ⟨⟨by decide +kernel, by decide +kernel⟩, List.mem_of_getElem? (i := 23) (by decide +kernel), List.mem_of_getElem? (i := 937) (by decide +kernel), List.mem_of_getElem? (i := 938) (by decide +kernel)⟩
theorem lw_p31 : lw_okq (⟨"java/lang/Throwable", "fillInStackTrace", "(I)Ljava/lang/Throwable;"⟩, 6) := ⟨⟨by decide +kernel, by decide +kernel⟩, List.mem_of_getElem? (i := 997) (by decide +kernel), List.mem_of_getElem? (i := 995) (by decide +kernel), List.mem_of_getElem? (i := 996) (by decide +kernel)⟩
def lw_privs_2 : List (MethodName × Nat) := [(⟨"StickRace", "ticksAlone", "(LStickRace$Brook;LStickRace$Stick;IJ)I"⟩, 20), (⟨"StickRace", "placeOne", "(LStickRace$Brook;LStickRace$Stick;I)Z"⟩, 20), (⟨"StickRace", "spreadParts", "(III)V"⟩, 20), (⟨"StickRace", "timeAlone", "(LStickRace$Brook;LStickRace$Stick;II)I"⟩, 20), (⟨"StickRace", "placeTwo", "(LStickRace$Brook;LStickRace$Stick;ILStickRace$Stick;I)Z"⟩, 20), (⟨"StickRace", "leadOfFirst", "(I)I"⟩, 20), (⟨"StickRace", "placesWith", "(II)I"⟩, 20), (⟨"StickRace", "findTrials", "(II)Z"⟩, 20), (⟨"StickRace", "liesOnAll", "(ILStickRace$Stick;I)Z"⟩, 20), (⟨"StickRace", "partPairs", "(I)V"⟩, 20), (⟨"StickRace$TrialBook", "partedBy", "(I)I"⟩, 4), (⟨"StickRace", "agrees", "(LStickRace$Brook;)Z"⟩, 20), (⟨"StickRace", "gapOf", "(II)I"⟩, 20), (⟨"StickRace", "noTick", "(I)Z"⟩, 20), (⟨"StickRace", "leastSum", "(LStickRace$Brook;LStickRace$Stick;I)I"⟩, 20), (⟨"java/lang/Throwable", "fillInStackTrace", "(I)Ljava/lang/Throwable;"⟩, 6)]
theorem lw_r2 : ∀ q ∈ lw_privs_2, lw_okq q := List.forall_mem_cons.mpr ⟨lw_p16, List.forall_mem_cons.mpr ⟨lw_p17, List.forall_mem_cons.mpr ⟨lw_p18, List.forall_mem_cons.mpr ⟨lw_p19, List.forall_mem_cons.mpr ⟨lw_p20, List.forall_mem_cons.mpr ⟨lw_p21, List.forall_mem_cons.mpr ⟨lw_p22, List.forall_mem_cons.mpr ⟨lw_p23, List.forall_mem_cons.mpr ⟨lw_p24, List.forall_mem_cons.mpr ⟨lw_p25, List.forall_mem_cons.mpr ⟨lw_p26, List.forall_mem_cons.mpr ⟨lw_p27, List.forall_mem_cons.mpr ⟨lw_p28, List.forall_mem_cons.mpr ⟨lw_p29, List.forall_mem_cons.mpr ⟨lw_p30, List.forall_mem_cons.mpr ⟨lw_p31, fun _ h => absurd h List.not_mem_nil⟩⟩⟩⟩⟩⟩⟩⟩⟩⟩⟩⟩⟩⟩⟩⟩
theorem lw_p32 : lw_okq (⟨"StickRaceModel", "put", "(I)V"⟩, 60) := ⟨⟨by decide +kernel, by decide +kernel⟩, List.mem_of_getElem? (i := 1031) (by decide +kernel), List.mem_of_getElem? (i := 1231) (by decide +kernel), List.mem_of_getElem? (i := 1232) (by decide +kernel)⟩
theorem lw_p33 : lw_okq (⟨"StickRaceModel", "readBrook", "(I)V"⟩, 60) := ⟨⟨by decide +kernel, by decide +kernel⟩, List.mem_of_getElem? (i := 1031) (by decide +kernel), List.mem_of_getElem? (i := 1246) (by decide +kernel), List.mem_of_getElem? (i := 1247) (by decide +kernel)⟩
theorem lw_p34 : lw_okq (⟨"StickRaceModel", "begin", "()V"⟩, 60) := ⟨⟨by decide +kernel, by decide +kernel⟩, List.mem_of_getElem? (i := 1031) (by decide +kernel), List.mem_of_getElem? (i := 1250) (by decide +kernel), List.mem_of_getElem? (i := 1251) (by decide +kernel)⟩
theorem lw_p35 : lw_okq (⟨"StickRaceModel", "look", "()I"⟩, 60) := ⟨⟨by decide +kernel, by decide +kernel⟩, List.mem_of_getElem? (i := 1031) (by decide +kernel), List.mem_of_getElem? (i := 1254) (by decide +kernel), List.mem_of_getElem? (i := 1255) (by decide +kernel)⟩
theorem lw_p36 : lw_okq (⟨"StickRaceModel", "here", "()I"⟩, 60) := ⟨⟨by decide +kernel, by decide +kernel⟩, List.mem_of_getElem? (i := 1031) (by decide +kernel), List.mem_of_getElem? (i := 1258) (by decide +kernel), List.mem_of_getElem? (i := 1259) (by decide +kernel)⟩
theorem lw_p37 : lw_okq (⟨"StickRaceModel", "fails", "()V"⟩, 60) := ⟨⟨by decide +kernel, by decide +kernel⟩, List.mem_of_getElem? (i := 1031) (by decide +kernel), List.mem_of_getElem? (i := 1262) (by decide +kernel), List.mem_of_getElem? (i := 1263) (by decide +kernel)⟩
theorem lw_p38 : lw_okq (⟨"StickRaceModel", "readStick", "(I)V"⟩, 60) := ⟨⟨by decide +kernel, by decide +kernel⟩, List.mem_of_getElem? (i := 1031) (by decide +kernel), List.mem_of_getElem? (i := 1269) (by decide +kernel), List.mem_of_getElem? (i := 1270) (by decide +kernel)⟩
theorem lw_p39 : lw_okq (⟨"StickRaceModel", "number", "(II)I"⟩, 60) := ⟨⟨by decide +kernel, by decide +kernel⟩, List.mem_of_getElem? (i := 1031) (by decide +kernel), List.mem_of_getElem? (i := 1276) (by decide +kernel), List.mem_of_getElem? (i := 1277) (by decide +kernel)⟩
theorem lw_p40 : lw_okq (⟨"StickRaceModel", "isDigit", "()Z"⟩, 60) := ⟨⟨by decide +kernel, by decide +kernel⟩, List.mem_of_getElem? (i := 1031) (by decide +kernel), List.mem_of_getElem? (i := 1280) (by decide +kernel), List.mem_of_getElem? (i := 1281) (by decide +kernel)⟩
theorem lw_p41 : lw_okq (⟨"StickRaceModel", "isBrook", "(I)Z"⟩, 60) := ⟨⟨by decide +kernel, by decide +kernel⟩, List.mem_of_getElem? (i := 1031) (by decide +kernel), List.mem_of_getElem? (i := 1293) (by decide +kernel), List.mem_of_getElem? (i := 1294) (by decide +kernel)⟩
theorem lw_p42 : lw_okq (⟨"StickRaceModel", "signsOf", "(II)I"⟩, 60) := ⟨⟨by decide +kernel, by decide +kernel⟩, List.mem_of_getElem? (i := 1031) (by decide +kernel), List.mem_of_getElem? (i := 1297) (by decide +kernel), List.mem_of_getElem? (i := 1298) (by decide +kernel)⟩
theorem lw_p43 : lw_okq (⟨"StickRaceModel", "sign", "(III)I"⟩, 60) := ⟨⟨by decide +kernel, by decide +kernel⟩, List.mem_of_getElem? (i := 1031) (by decide +kernel), List.mem_of_getElem? (i := 1301) (by decide +kernel), List.mem_of_getElem? (i := 1302) (by decide +kernel)⟩
theorem lw_p44 : lw_okq (⟨"StickRaceModel", "isCell", "(III)Z"⟩, 60) := ⟨⟨by decide +kernel, by decide +kernel⟩, List.mem_of_getElem? (i := 1031) (by decide +kernel), List.mem_of_getElem? (i := 1309) (by decide +kernel), List.mem_of_getElem? (i := 1310) (by decide +kernel)⟩
theorem lw_p45 : lw_okq (⟨"StickRaceModel", "paceOf", "(III)I"⟩, 60) := ⟨⟨by decide +kernel, by decide +kernel⟩, List.mem_of_getElem? (i := 1031) (by decide +kernel), List.mem_of_getElem? (i := 1313) (by decide +kernel), List.mem_of_getElem? (i := 1314) (by decide +kernel)⟩
theorem lw_p46 : lw_okq (⟨"StickRaceModel", "isStick", "(I)Z"⟩, 60) := ⟨⟨by decide +kernel, by decide +kernel⟩, List.mem_of_getElem? (i := 1031) (by decide +kernel), List.mem_of_getElem? (i := 1321) (by decide +kernel), List.mem_of_getElem? (i := 1322) (by decide +kernel)⟩
theorem lw_p47 : lw_okq (⟨"StickRaceModel", "canLie", "(IIII)Z"⟩, 60) := ⟨⟨by decide +kernel, by decide +kernel⟩, List.mem_of_getElem? (i := 1031) (by decide +kernel), List.mem_of_getElem? (i := 1333) (by decide +kernel), List.mem_of_getElem? (i := 1334) (by decide +kernel)⟩
def lw_privs_3 : List (MethodName × Nat) := [(⟨"StickRaceModel", "put", "(I)V"⟩, 60), (⟨"StickRaceModel", "readBrook", "(I)V"⟩, 60), (⟨"StickRaceModel", "begin", "()V"⟩, 60), (⟨"StickRaceModel", "look", "()I"⟩, 60), (⟨"StickRaceModel", "here", "()I"⟩, 60), (⟨"StickRaceModel", "fails", "()V"⟩, 60), (⟨"StickRaceModel", "readStick", "(I)V"⟩, 60), (⟨"StickRaceModel", "number", "(II)I"⟩, 60), (⟨"StickRaceModel", "isDigit", "()Z"⟩, 60), (⟨"StickRaceModel", "isBrook", "(I)Z"⟩, 60), (⟨"StickRaceModel", "signsOf", "(II)I"⟩, 60), (⟨"StickRaceModel", "sign", "(III)I"⟩, 60), (⟨"StickRaceModel", "isCell", "(III)Z"⟩, 60), (⟨"StickRaceModel", "paceOf", "(III)I"⟩, 60), (⟨"StickRaceModel", "isStick", "(I)Z"⟩, 60), (⟨"StickRaceModel", "canLie", "(IIII)Z"⟩, 60)]
theorem lw_r3 : ∀ q ∈ lw_privs_3, lw_okq q := List.forall_mem_cons.mpr ⟨lw_p32, List.forall_mem_cons.mpr ⟨lw_p33, List.forall_mem_cons.mpr ⟨lw_p34, List.forall_mem_cons.mpr ⟨lw_p35, List.forall_mem_cons.mpr ⟨lw_p36, List.forall_mem_cons.mpr ⟨lw_p37, List.forall_mem_cons.mpr ⟨lw_p38, List.forall_mem_cons.mpr ⟨lw_p39, List.forall_mem_cons.mpr ⟨lw_p40, List.forall_mem_cons.mpr ⟨lw_p41, List.forall_mem_cons.mpr ⟨lw_p42, List.forall_mem_cons.mpr ⟨lw_p43, List.forall_mem_cons.mpr ⟨lw_p44, List.forall_mem_cons.mpr ⟨lw_p45, List.forall_mem_cons.mpr ⟨lw_p46, List.forall_mem_cons.mpr ⟨lw_p47, fun _ h => absurd h List.not_mem_nil⟩⟩⟩⟩⟩⟩⟩⟩⟩⟩⟩⟩⟩⟩⟩⟩
theorem lw_p48 : lw_okq (⟨"StickRaceModel", "bars", "(III)Z"⟩, 60) := ⟨⟨by decide +kernel, by decide +kernel⟩, List.mem_of_getElem? (i := 1031) (by decide +kernel), List.mem_of_getElem? (i := 1337) (by decide +kernel), List.mem_of_getElem? (i := 1338) (by decide +kernel)⟩
theorem lw_p49 : lw_okq (⟨"StickRaceModel", "isFree", "(IIII)Z"⟩, 60) := ⟨⟨by decide +kernel, by decide +kernel⟩, List.mem_of_getElem? (i := 1031) (by decide +kernel), List.mem_of_getElem? (i := 1349) (by decide +kernel), List.mem_of_getElem? (i := 1350) (by decide +kernel)⟩
theorem lw_p50 : lw_okq (⟨"StickRaceModel", "whoIs", "(III)I"⟩, 60) := ⟨⟨by decide +kernel, by decide +kernel⟩, List.mem_of_getElem? (i := 1031) (by decide +kernel), List.mem_of_getElem? (i := 1353) (by decide +kernel), List.mem_of_getElem? (i := 1354) (by decide +kernel)⟩
theorem lw_p51 : lw_okq (⟨"StickRaceModel", "isOut", "(I)Z"⟩, 60) := ⟨⟨by decide +kernel, by decide +kernel⟩, List.mem_of_getElem? (i := 1031) (by decide +kernel), List.mem_of_getElem? (i := 1357) (by decide +kernel), List.mem_of_getElem? (i := 1358) (by decide +kernel)⟩
theorem lw_p52 : lw_okq (⟨"StickRaceModel", "of", "(II)I"⟩, 60) := ⟨⟨by decide +kernel, by decide +kernel⟩, List.mem_of_getElem? (i := 1031) (by decide +kernel), List.mem_of_getElem? (i := 1361) (by decide +kernel), List.mem_of_getElem? (i := 1362) (by decide +kernel)⟩
theorem lw_p53 : lw_okq (⟨"StickRaceModel", "join", "(IIII)V"⟩, 60) := ⟨⟨by decide +kernel, by decide +kernel⟩, List.mem_of_getElem? (i := 1031) (by decide +kernel), List.mem_of_getElem? (i := 1365) (by decide +kernel), List.mem_of_getElem? (i := 1366) (by decide +kernel)⟩
theorem lw_p54 : lw_okq (⟨"StickRaceModel", "set", "(III)V"⟩, 60) := ⟨⟨by decide +kernel, by decide +kernel⟩, List.mem_of_getElem? (i := 1031) (by decide +kernel), List.mem_of_getElem? (i := 1369) (by decide +kernel), List.mem_of_getElem? (i := 1370) (by decide +kernel)⟩
theorem lw_p55 : lw_okq (⟨"StickRaceModel", "place", "(I)V"⟩, 60) := ⟨⟨by decide +kernel, by decide +kernel⟩, List.mem_of_getElem? (i := 1031) (by decide +kernel), List.mem_of_getElem? (i := 1373) (by decide +kernel), List.mem_of_getElem? (i := 1374) (by decide +kernel)⟩
theorem lw_p56 : lw_okq (⟨"StickRaceModel", "canStart", "()Z"⟩, 60) := ⟨⟨by decide +kernel, by decide +kernel⟩, List.mem_of_getElem? (i := 1031) (by decide +kernel), List.mem_of_getElem? (i := 1381) (by decide +kernel), List.mem_of_getElem? (i := 1382) (by decide +kernel)⟩
theorem lw_p57 : lw_okq (⟨"StickRaceModel", "begin", "(J)V"⟩, 60) := ⟨⟨by decide +kernel, by decide +kernel⟩, List.mem_of_getElem? (i := 1031) (by decide +kernel), List.mem_of_getElem? (i := 1385) (by decide +kernel), List.mem_of_getElem? (i := 1386) (by decide +kernel)⟩
theorem lw_p58 : lw_okq (⟨"StickRaceModel", "record", "()V"⟩, 60) := ⟨⟨by decide +kernel, by decide +kernel⟩, List.mem_of_getElem? (i := 1031) (by decide +kernel), List.mem_of_getElem? (i := 1389) (by decide +kernel), List.mem_of_getElem? (i := 1390) (by decide +kernel)⟩
theorem lw_p59 : lw_okq (⟨"StickRaceModel", "leaderNow", "()I"⟩, 60) := ⟨⟨by decide +kernel, by decide +kernel⟩, List.mem_of_getElem? (i := 1031) (by decide +kernel), List.mem_of_getElem? (i := 1393) (by decide +kernel), List.mem_of_getElem? (i := 1394) (by decide +kernel)⟩
theorem lw_p60 : lw_okq (⟨"StickRaceModel", "goesOn", "()Z"⟩, 60) := ⟨⟨by decide +kernel, by decide +kernel⟩, List.mem_of_getElem? (i := 1031) (by decide +kernel), List.mem_of_getElem? (i := 1401) (by decide +kernel), List.mem_of_getElem? (i := 1402) (by decide +kernel)⟩
theorem lw_p61 : lw_okq (⟨"StickRaceModel", "goTick", "()V"⟩, 60) := ⟨⟨by decide +kernel, by decide +kernel⟩, List.mem_of_getElem? (i := 1031) (by decide +kernel), List.mem_of_getElem? (i := 1405) (by decide +kernel), List.mem_of_getElem? (i := 1406) (by decide +kernel)⟩
theorem lw_p62 : lw_okq (⟨"StickRaceModel", "go", "(I)V"⟩, 60) := ⟨⟨by decide +kernel, by decide +kernel⟩, List.mem_of_getElem? (i := 1031) (by decide +kernel), List.mem_of_getElem? (i := 1409) (by decide +kernel), List.mem_of_getElem? (i := 1410) (by decide +kernel)⟩
theorem lw_p63 : lw_okq (⟨"StickRaceModel", "isInEddy", "(I)Z"⟩, 60) := ⟨⟨by decide +kernel, by decide +kernel⟩, List.mem_of_getElem? (i := 1031) (by decide +kernel), List.mem_of_getElem? (i := 1413) (by decide +kernel), List.mem_of_getElem? (i := 1414) (by decide +kernel)⟩
def lw_privs_4 : List (MethodName × Nat) := [(⟨"StickRaceModel", "bars", "(III)Z"⟩, 60), (⟨"StickRaceModel", "isFree", "(IIII)Z"⟩, 60), (⟨"StickRaceModel", "whoIs", "(III)I"⟩, 60), (⟨"StickRaceModel", "isOut", "(I)Z"⟩, 60), (⟨"StickRaceModel", "of", "(II)I"⟩, 60), (⟨"StickRaceModel", "join", "(IIII)V"⟩, 60), (⟨"StickRaceModel", "set", "(III)V"⟩, 60), (⟨"StickRaceModel", "place", "(I)V"⟩, 60), (⟨"StickRaceModel", "canStart", "()Z"⟩, 60), (⟨"StickRaceModel", "begin", "(J)V"⟩, 60), (⟨"StickRaceModel", "record", "()V"⟩, 60), (⟨"StickRaceModel", "leaderNow", "()I"⟩, 60), (⟨"StickRaceModel", "goesOn", "()Z"⟩, 60), (⟨"StickRaceModel", "goTick", "()V"⟩, 60), (⟨"StickRaceModel", "go", "(I)V"⟩, 60), (⟨"StickRaceModel", "isInEddy", "(I)Z"⟩, 60)]
theorem lw_r4 : ∀ q ∈ lw_privs_4, lw_okq q := List.forall_mem_cons.mpr ⟨lw_p48, List.forall_mem_cons.mpr ⟨lw_p49, List.forall_mem_cons.mpr ⟨lw_p50, List.forall_mem_cons.mpr ⟨lw_p51, List.forall_mem_cons.mpr ⟨lw_p52, List.forall_mem_cons.mpr ⟨lw_p53, List.forall_mem_cons.mpr ⟨lw_p54, List.forall_mem_cons.mpr ⟨lw_p55, List.forall_mem_cons.mpr ⟨lw_p56, List.forall_mem_cons.mpr ⟨lw_p57, List.forall_mem_cons.mpr ⟨lw_p58, List.forall_mem_cons.mpr ⟨lw_p59, List.forall_mem_cons.mpr ⟨lw_p60, List.forall_mem_cons.mpr ⟨lw_p61, List.forall_mem_cons.mpr ⟨lw_p62, List.forall_mem_cons.mpr ⟨lw_p63, fun _ h => absurd h List.not_mem_nil⟩⟩⟩⟩⟩⟩⟩⟩⟩⟩⟩⟩⟩⟩⟩⟩
theorem lw_p64 : lw_okq (⟨"StickRaceModel", "draw", "()I"⟩, 60) := ⟨⟨by decide +kernel, by decide +kernel⟩, List.mem_of_getElem? (i := 1031) (by decide +kernel), List.mem_of_getElem? (i := 1417) (by decide +kernel), List.mem_of_getElem? (i := 1418) (by decide +kernel)⟩
theorem lw_p65 : lw_okq (⟨"StickRaceModel", "pullOf", "(I)I"⟩, 60) := ⟨⟨by decide +kernel, by decide +kernel⟩, List.mem_of_getElem? (i := 1031) (by decide +kernel), List.mem_of_getElem? (i := 1424) (by decide +kernel), List.mem_of_getElem? (i := 1425) (by decide +kernel)⟩
theorem lw_p66 : lw_okq (⟨"StickRaceModel", "hasWave", "(I)Z"⟩, 60) := ⟨⟨by decide +kernel, by decide +kernel⟩, List.mem_of_getElem? (i := 1031) (by decide +kernel), List.mem_of_getElem? (i := 1431) (by decide +kernel), List.mem_of_getElem? (i := 1432) (by decide +kernel)⟩
theorem lw_p67 : lw_okq (⟨"StickRaceModel", "strike", "(I)V"⟩, 60) := ⟨⟨by decide +kernel, by decide +kernel⟩, List.mem_of_getElem? (i := 1031) (by decide +kernel), List.mem_of_getElem? (i := 1435) (by decide +kernel), List.mem_of_getElem? (i := 1436) (by decide +kernel)⟩
theorem lw_p68 : lw_okq (⟨"StickRaceModel", "goAside", "(II)V"⟩, 60) := ⟨⟨by decide +kernel, by decide +kernel⟩, List.mem_of_getElem? (i := 1031) (by decide +kernel), List.mem_of_getElem? (i := 1439) (by decide +kernel), List.mem_of_getElem? (i := 1440) (by decide +kernel)⟩
theorem lw_p69 : lw_okq (⟨"StickRaceModel", "isRunner", "(I)Z"⟩, 60) := ⟨⟨by decide +kernel, by decide +kernel⟩, List.mem_of_getElem? (i := 1031) (by decide +kernel), List.mem_of_getElem? (i := 1450) (by decide +kernel), List.mem_of_getElem? (i := 1451) (by decide +kernel)⟩
theorem lw_p70 : lw_okq (⟨"StickRaceModel", "placeOf", "(I)I"⟩, 60) := ⟨⟨by decide +kernel, by decide +kernel⟩, List.mem_of_getElem? (i := 1031) (by decide +kernel), List.mem_of_getElem? (i := 1454) (by decide +kernel), List.mem_of_getElem? (i := 1455) (by decide +kernel)⟩
theorem lw_p71 : lw_okq (⟨"StickRaceModel", "areOdds", "(II)Z"⟩, 60) := ⟨⟨by decide +kernel, by decide +kernel⟩, List.mem_of_getElem? (i := 1031) (by decide +kernel), List.mem_of_getElem? (i := 1470) (by decide +kernel), List.mem_of_getElem? (i := 1471) (by decide +kernel)⟩
theorem lw_p72 : lw_okq (⟨"StickRaceModel", "oddsOf", "(IIZ)I"⟩, 60) := ⟨⟨by decide +kernel, by decide +kernel⟩, List.mem_of_getElem? (i := 1031) (by decide +kernel), List.mem_of_getElem? (i := 1474) (by decide +kernel), List.mem_of_getElem? (i := 1475) (by decide +kernel)⟩
theorem lw_p73 : lw_okq (⟨"StickRaceModel", "keepRace", "()V"⟩, 60) := ⟨⟨by decide +kernel, by decide +kernel⟩, List.mem_of_getElem? (i := 1031) (by decide +kernel), List.mem_of_getElem? (i := 1478) (by decide +kernel), List.mem_of_getElem? (i := 1479) (by decide +kernel)⟩
theorem lw_p74 : lw_okq (⟨"StickRaceModel", "sumOf", "(IIZ)I"⟩, 60) := ⟨⟨by decide +kernel, by decide +kernel⟩, List.mem_of_getElem? (i := 1031) (by decide +kernel), List.mem_of_getElem? (i := 1482) (by decide +kernel), List.mem_of_getElem? (i := 1483) (by decide +kernel)⟩
theorem lw_p75 : lw_okq (⟨"StickRaceModel", "goRace", "(J)V"⟩, 60) := ⟨⟨by decide +kernel, by decide +kernel⟩, List.mem_of_getElem? (i := 1031) (by decide +kernel), List.mem_of_getElem? (i := 1486) (by decide +kernel), List.mem_of_getElem? (i := 1487) (by decide +kernel)⟩
theorem lw_p76 : lw_okq (⟨"StickRaceModel", "putBack", "()V"⟩, 60) := ⟨⟨by decide +kernel, by decide +kernel⟩, List.mem_of_getElem? (i := 1031) (by decide +kernel), List.mem_of_getElem? (i := 1490) (by decide +kernel), List.mem_of_getElem? (i := 1491) (by decide +kernel)⟩
theorem lw_p77 : lw_okq (⟨"StickRaceModel", "canBegin", "(III)Z"⟩, 60) := ⟨⟨by decide +kernel, by decide +kernel⟩, List.mem_of_getElem? (i := 1031) (by decide +kernel), List.mem_of_getElem? (i := 1498) (by decide +kernel), List.mem_of_getElem? (i := 1499) (by decide +kernel)⟩
theorem lw_p78 : lw_okq (⟨"StickRaceModel", "aloneBy", "(IIIJ)I"⟩, 60) := ⟨⟨by decide +kernel, by decide +kernel⟩, List.mem_of_getElem? (i := 1031) (by decide +kernel), List.mem_of_getElem? (i := 1502) (by decide +kernel), List.mem_of_getElem? (i := 1503) (by decide +kernel)⟩
theorem lw_p79 : lw_okq (⟨"StickRaceModel", "aloneOf", "(IIIIIJ)I"⟩, 60) := ⟨⟨by decide +kernel, by decide +kernel⟩, List.mem_of_getElem? (i := 1031) (by decide +kernel), List.mem_of_getElem? (i := 1506) (by decide +kernel), List.mem_of_getElem? (i := 1507) (by decide +kernel)⟩
def lw_privs_5 : List (MethodName × Nat) := [(⟨"StickRaceModel", "draw", "()I"⟩, 60), (⟨"StickRaceModel", "pullOf", "(I)I"⟩, 60), (⟨"StickRaceModel", "hasWave", "(I)Z"⟩, 60), (⟨"StickRaceModel", "strike", "(I)V"⟩, 60), (⟨"StickRaceModel", "goAside", "(II)V"⟩, 60), (⟨"StickRaceModel", "isRunner", "(I)Z"⟩, 60), (⟨"StickRaceModel", "placeOf", "(I)I"⟩, 60), (⟨"StickRaceModel", "areOdds", "(II)Z"⟩, 60), (⟨"StickRaceModel", "oddsOf", "(IIZ)I"⟩, 60), (⟨"StickRaceModel", "keepRace", "()V"⟩, 60), (⟨"StickRaceModel", "sumOf", "(IIZ)I"⟩, 60), (⟨"StickRaceModel", "goRace", "(J)V"⟩, 60), (⟨"StickRaceModel", "putBack", "()V"⟩, 60), (⟨"StickRaceModel", "canBegin", "(III)Z"⟩, 60), (⟨"StickRaceModel", "aloneBy", "(IIIJ)I"⟩, 60), (⟨"StickRaceModel", "aloneOf", "(IIIIIJ)I"⟩, 60)]
theorem lw_r5 : ∀ q ∈ lw_privs_5, lw_okq q := List.forall_mem_cons.mpr ⟨lw_p64, List.forall_mem_cons.mpr ⟨lw_p65, List.forall_mem_cons.mpr ⟨lw_p66, List.forall_mem_cons.mpr ⟨lw_p67, List.forall_mem_cons.mpr ⟨lw_p68, List.forall_mem_cons.mpr ⟨lw_p69, List.forall_mem_cons.mpr ⟨lw_p70, List.forall_mem_cons.mpr ⟨lw_p71, List.forall_mem_cons.mpr ⟨lw_p72, List.forall_mem_cons.mpr ⟨lw_p73, List.forall_mem_cons.mpr ⟨lw_p74, List.forall_mem_cons.mpr ⟨lw_p75, List.forall_mem_cons.mpr ⟨lw_p76, List.forall_mem_cons.mpr ⟨lw_p77, List.forall_mem_cons.mpr ⟨lw_p78, List.forall_mem_cons.mpr ⟨lw_p79, fun _ h => absurd h List.not_mem_nil⟩⟩⟩⟩⟩⟩⟩⟩⟩⟩⟩⟩⟩⟩⟩⟩
theorem lw_p80 : lw_okq (⟨"StickRaceModel", "areSticks", "(I)Z"⟩, 60) := ⟨⟨by decide +kernel, by decide +kernel⟩, List.mem_of_getElem? (i := 1031) (by decide +kernel), List.mem_of_getElem? (i := 1519) (by decide +kernel), List.mem_of_getElem? (i := 1520) (by decide +kernel)⟩
theorem lw_p81 : lw_okq (⟨"StickRaceModel", "gameOf", "(IIIIII)I"⟩, 60) := ⟨⟨by decide +kernel, by decide +kernel⟩, List.mem_of_getElem? (i := 1031) (by decide +kernel), List.mem_of_getElem? (i := 1530) (by decide +kernel), List.mem_of_getElem? (i := 1531) (by decide +kernel)⟩
theorem lw_p82 : lw_okq (⟨"StickRaceModel", "canStartWith", "(I)Z"⟩, 60) := ⟨⟨by decide +kernel, by decide +kernel⟩, List.mem_of_getElem? (i := 1031) (by decide +kernel), List.mem_of_getElem? (i := 1538) (by decide +kernel), List.mem_of_getElem? (i := 1539) (by decide +kernel)⟩
theorem lw_p83 : lw_okq (⟨"StickRaceModel", "raceWith", "(II)V"⟩, 60) := ⟨⟨by decide +kernel, by decide +kernel⟩, List.mem_of_getElem? (i := 1031) (by decide +kernel), List.mem_of_getElem? (i := 1542) (by decide +kernel), List.mem_of_getElem? (i := 1543) (by decide +kernel)⟩
theorem lw_p84 : lw_okq (⟨"StickRaceModel", "areTrials", "(II)Z"⟩, 60) := ⟨⟨by decide +kernel, by decide +kernel⟩, List.mem_of_getElem? (i := 1031) (by decide +kernel), List.mem_of_getElem? (i := 1554) (by decide +kernel), List.mem_of_getElem? (i := 1555) (by decide +kernel)⟩
theorem lw_p85 : lw_okq (⟨"StickRaceModel", "areBrooks", "(I)Z"⟩, 60) := ⟨⟨by decide +kernel, by decide +kernel⟩, List.mem_of_getElem? (i := 1031) (by decide +kernel), List.mem_of_getElem? (i := 1558) (by decide +kernel), List.mem_of_getElem? (i := 1559) (by decide +kernel)⟩
theorem lw_p86 : lw_okq (⟨"StickRaceModel", "layTrials", "(II)Z"⟩, 60) := ⟨⟨by decide +kernel, by decide +kernel⟩, List.mem_of_getElem? (i := 1031) (by decide +kernel), List.mem_of_getElem? (i := 1562) (by decide +kernel), List.mem_of_getElem? (i := 1563) (by decide +kernel)⟩
theorem lw_p87 : lw_okq (⟨"StickRaceModel", "partsOf", "(II)I"⟩, 60) := ⟨⟨by decide +kernel, by decide +kernel⟩, List.mem_of_getElem? (i := 1031) (by decide +kernel), List.mem_of_getElem? (i := 1570) (by decide +kernel), List.mem_of_getElem? (i := 1571) (by decide +kernel)⟩
theorem lw_p88 : lw_okq (⟨"StickRaceModel", "parts", "(III)Z"⟩, 60) := ⟨⟨by decide +kernel, by decide +kernel⟩, List.mem_of_getElem? (i := 1031) (by decide +kernel), List.mem_of_getElem? (i := 1574) (by decide +kernel), List.mem_of_getElem? (i := 1575) (by decide +kernel)⟩
theorem lw_p89 : lw_okq (⟨"StickRaceModel", "agrees", "(I)Z"⟩, 60) := ⟨⟨by decide +kernel, by decide +kernel⟩, List.mem_of_getElem? (i := 1031) (by decide +kernel), List.mem_of_getElem? (i := 1594) (by decide +kernel), List.mem_of_getElem? (i := 1595) (by decide +kernel)⟩
theorem lw_p90 : lw_okq (⟨"StickRaceModel", "layWorths", "(II)I"⟩, 60) := ⟨⟨by decide +kernel, by decide +kernel⟩, List.mem_of_getElem? (i := 1031) (by decide +kernel), List.mem_of_getElem? (i := 1606) (by decide +kernel), List.mem_of_getElem? (i := 1607) (by decide +kernel)⟩
theorem lw_p91 : lw_okq (⟨"StickRaceModel", "differenceOf", "(II)I"⟩, 60) := ⟨⟨by decide +kernel, by decide +kernel⟩, List.mem_of_getElem? (i := 1031) (by decide +kernel), List.mem_of_getElem? (i := 1610) (by decide +kernel), List.mem_of_getElem? (i := 1611) (by decide +kernel)⟩
theorem lw_p92 : lw_okq (⟨"StickRaceModel", "isTick", "(I)Z"⟩, 60) := ⟨⟨by decide +kernel, by decide +kernel⟩, List.mem_of_getElem? (i := 1031) (by decide +kernel), List.mem_of_getElem? (i := 1629) (by decide +kernel), List.mem_of_getElem? (i := 1630) (by decide +kernel)⟩
theorem lw_p93 : lw_okq (⟨"StickRaceModel", "turns", "(I)Z"⟩, 60) := ⟨⟨by decide +kernel, by decide +kernel⟩, List.mem_of_getElem? (i := 1031) (by decide +kernel), List.mem_of_getElem? (i := 1653) (by decide +kernel), List.mem_of_getElem? (i := 1654) (by decide +kernel)⟩
theorem lw_p94 : lw_okq (⟨"StickRaceModel", "leastSum", "(III)I"⟩, 60) := ⟨⟨by decide +kernel, by decide +kernel⟩, List.mem_of_getElem? (i := 1031) (by decide +kernel), List.mem_of_getElem? (i := 1665) (by decide +kernel), List.mem_of_getElem? (i := 1666) (by decide +kernel)⟩
theorem lw_p95 : lw_okq (⟨"StickRaceModel", "outOf", "(I)I"⟩, 60) := ⟨⟨by decide +kernel, by decide +kernel⟩, List.mem_of_getElem? (i := 1031) (by decide +kernel), List.mem_of_getElem? (i := 1680) (by decide +kernel), List.mem_of_getElem? (i := 1681) (by decide +kernel)⟩
def lw_privs_6 : List (MethodName × Nat) := [(⟨"StickRaceModel", "areSticks", "(I)Z"⟩, 60), (⟨"StickRaceModel", "gameOf", "(IIIIII)I"⟩, 60), (⟨"StickRaceModel", "canStartWith", "(I)Z"⟩, 60), (⟨"StickRaceModel", "raceWith", "(II)V"⟩, 60), (⟨"StickRaceModel", "areTrials", "(II)Z"⟩, 60), (⟨"StickRaceModel", "areBrooks", "(I)Z"⟩, 60), (⟨"StickRaceModel", "layTrials", "(II)Z"⟩, 60), (⟨"StickRaceModel", "partsOf", "(II)I"⟩, 60), (⟨"StickRaceModel", "parts", "(III)Z"⟩, 60), (⟨"StickRaceModel", "agrees", "(I)Z"⟩, 60), (⟨"StickRaceModel", "layWorths", "(II)I"⟩, 60), (⟨"StickRaceModel", "differenceOf", "(II)I"⟩, 60), (⟨"StickRaceModel", "isTick", "(I)Z"⟩, 60), (⟨"StickRaceModel", "turns", "(I)Z"⟩, 60), (⟨"StickRaceModel", "leastSum", "(III)I"⟩, 60), (⟨"StickRaceModel", "outOf", "(I)I"⟩, 60)]
theorem lw_r6 : ∀ q ∈ lw_privs_6, lw_okq q := List.forall_mem_cons.mpr ⟨lw_p80, List.forall_mem_cons.mpr ⟨lw_p81, List.forall_mem_cons.mpr ⟨lw_p82, List.forall_mem_cons.mpr ⟨lw_p83, List.forall_mem_cons.mpr ⟨lw_p84, List.forall_mem_cons.mpr ⟨lw_p85, List.forall_mem_cons.mpr ⟨lw_p86, List.forall_mem_cons.mpr ⟨lw_p87, List.forall_mem_cons.mpr ⟨lw_p88, List.forall_mem_cons.mpr ⟨lw_p89, List.forall_mem_cons.mpr ⟨lw_p90, List.forall_mem_cons.mpr ⟨lw_p91, List.forall_mem_cons.mpr ⟨lw_p92, List.forall_mem_cons.mpr ⟨lw_p93, List.forall_mem_cons.mpr ⟨lw_p94, List.forall_mem_cons.mpr ⟨lw_p95, fun _ h => absurd h List.not_mem_nil⟩⟩⟩⟩⟩⟩⟩⟩⟩⟩⟩⟩⟩⟩⟩⟩
def lw_privs : List (MethodName × Nat) := lw_privs_1 ++ (lw_privs_2 ++ (lw_privs_3 ++ (lw_privs_4 ++ (lw_privs_5 ++ (lw_privs_6)))))
def lw_tbl : List Cond := k2_sels lw_privs ++ tables_1
theorem lw_privs_ok : ∀ q ∈ lw_privs, lw_okq q := by
  show ∀ q ∈ lw_privs_1 ++ (lw_privs_2 ++ (lw_privs_3 ++ (lw_privs_4 ++ (lw_privs_5 ++ (lw_privs_6))))), lw_okq q
  exact List.forall_mem_append.mpr ⟨lw_r1, List.forall_mem_append.mpr ⟨lw_r2, List.forall_mem_append.mpr ⟨lw_r3, List.forall_mem_append.mpr ⟨lw_r4, List.forall_mem_append.mpr ⟨lw_r5, lw_r6⟩⟩⟩⟩⟩
def RX0 : String := "StickRace$Brook"
def TX0 : u_T := fun k => match k with
  | 0 => ("StickRace$Brook", "signs", "[I", true)
  | 1 => ("StickRace$Brook", "stones", "[I", true)
  | 2 => ("StickRace$Brook", "eddies", "[I", true)
  | 3 => ("StickRace$Brook", "lanes", "I", false)
  | _ => ("StickRace$Brook", "cells", "I", false)
def tyX0 : Nat → FieldType := fun k => match k with
  | 0 => .array .int
  | 1 => .array .int
  | 2 => .array .int
  | 3 => .int
  | _ => .int
abbrev wsX00 : List Cond := u_ws RX0 TX0 5
theorem nmX0 : ∀ a, a < 5 → ∀ b, b < 5 → a ≠ b → (TX0 a).2.1 ≠ (TX0 b).2.1 := by decide +kernel
theorem tyX0_ok : ∀ k, k < 5 → parseFieldDescriptor (TX0 k).2.2.1 = some (tyX0 k) := by decide +kernel
abbrev cX0_init : ByteArray := prog_2_method_1_code
def yX0_init : MethodName := ⟨RX0, "<init>", "()V"⟩
abbrev cX0_clear : ByteArray := prog_2_method_2_code
def yX0_clear : MethodName := ⟨RX0, "clear", "()V"⟩
abbrev cX0_copyFrom : ByteArray := prog_2_method_3_code
def yX0_copyFrom : MethodName := ⟨RX0, "copyFrom", "(LStickRace$Brook;)V"⟩
abbrev cX0_put : ByteArray := prog_2_method_4_code
def yX0_put : MethodName := ⟨RX0, "put", "(III)V"⟩
abbrev cX0_has : ByteArray := prog_2_method_5_code
def yX0_has : MethodName := ⟨RX0, "has", "(II)Z"⟩
abbrev cX0_signAt : ByteArray := prog_2_method_6_code
def yX0_signAt : MethodName := ⟨RX0, "signAt", "(II)I"⟩
abbrev cX0_paceAt : ByteArray := prog_2_method_7_code
def yX0_paceAt : MethodName := ⟨RX0, "paceAt", "(III)I"⟩
abbrev cX0_stonesAt : ByteArray := prog_2_method_8_code
def yX0_stonesAt : MethodName := ⟨RX0, "stonesAt", "(I)I"⟩
abbrev cX0_eddiesAt : ByteArray := prog_2_method_9_code
def yX0_eddiesAt : MethodName := ⟨RX0, "eddiesAt", "(I)I"⟩
abbrev cX0_stonesInAll : ByteArray := prog_2_method_10_code
def yX0_stonesInAll : MethodName := ⟨RX0, "stonesInAll", "()I"⟩
abbrev cX0_eddiesInAll : ByteArray := prog_2_method_11_code
def yX0_eddiesInAll : MethodName := ⟨RX0, "eddiesInAll", "()I"⟩
abbrev cX0_stonesBar : ByteArray := prog_2_method_12_code
def yX0_stonesBar : MethodName := ⟨RX0, "stonesBar", "(I)Z"⟩
abbrev cX0_holds : ByteArray := prog_2_method_13_code
def yX0_holds : MethodName := ⟨RX0, "holds", "(LStickRace$Stick;III)Z"⟩
def RX1 : String := "StickRace$Log"
def TX1 : u_T := fun k => match k with
  | 0 => ("StickRace$Log", "xs", "[I", true)
  | 1 => ("StickRace$Log", "ys", "[I", true)
  | _ => ("StickRace$Log", "leaders", "[I", true)
def tyX1 : Nat → FieldType := fun k => match k with
  | 0 => .array .int
  | 1 => .array .int
  | _ => .array .int
abbrev wsX10 : List Cond := u_ws RX1 TX1 3
theorem nmX1 : ∀ a, a < 3 → ∀ b, b < 3 → a ≠ b → (TX1 a).2.1 ≠ (TX1 b).2.1 := by decide +kernel
theorem tyX1_ok : ∀ k, k < 3 → parseFieldDescriptor (TX1 k).2.2.1 = some (tyX1 k) := by decide +kernel
abbrev cX1_init : ByteArray := prog_3_method_1_code
def yX1_init : MethodName := ⟨RX1, "<init>", "()V"⟩
abbrev cX1_note : ByteArray := prog_3_method_2_code
def yX1_note : MethodName := ⟨RX1, "note", "(LStickRace$Race;)V"⟩
abbrev cX1_noEntry : ByteArray := prog_3_method_3_code
def yX1_noEntry : MethodName := ⟨RX1, "noEntry", "(II)Z"⟩
abbrev cX1_xAt : ByteArray := prog_3_method_4_code
def yX1_xAt : MethodName := ⟨RX1, "xAt", "(II)I"⟩
abbrev cX1_yAt : ByteArray := prog_3_method_5_code
def yX1_yAt : MethodName := ⟨RX1, "yAt", "(II)I"⟩
abbrev cX1_leaderAt : ByteArray := prog_3_method_6_code
def yX1_leaderAt : MethodName := ⟨RX1, "leaderAt", "(I)I"⟩
abbrev cX1_ticksLed : ByteArray := prog_3_method_7_code
def yX1_ticksLed : MethodName := ⟨RX1, "ticksLed", "(II)I"⟩
abbrev cX1_changes : ByteArray := prog_3_method_8_code
def yX1_changes : MethodName := ⟨RX1, "changes", "(I)I"⟩
abbrev cX1_copyFrom : ByteArray := prog_3_method_9_code
def yX1_copyFrom : MethodName := ⟨RX1, "copyFrom", "(LStickRace$Log;)V"⟩
def RX2 : String := "StickRace$Race"
def TX2 : u_T := fun k => match k with
  | 0 => ("StickRace$Race", "runners", "[LStickRace$Runner;", true)
  | 1 => ("StickRace$Race", "order", "[I", true)
  | 2 => ("StickRace$Race", "strikesAt", "[I", true)
  | 3 => ("StickRace$Race", "brook", "LStickRace$Brook;", false)
  | 4 => ("StickRace$Race", "size", "I", false)
  | 5 => ("StickRace$Race", "ticks", "I", false)
  | 6 => ("StickRace$Race", "out", "I", false)
  | 7 => ("StickRace$Race", "draws", "J", false)
  | 8 => ("StickRace$Race", "drew", "Z", false)
  | _ => ("StickRace$Race", "started", "Z", false)
def tyX2 : Nat → FieldType := fun k => match k with
  | 0 => .array (.object "StickRace$Runner")
  | 1 => .array .int
  | 2 => .array .int
  | 3 => .object "StickRace$Brook"
  | 4 => .int
  | 5 => .int
  | 6 => .int
  | 7 => .long
  | 8 => .boolean
  | _ => .boolean
abbrev wsX20 : List Cond := u_ws RX2 TX2 10
theorem nmX2 : ∀ a, a < 10 → ∀ b, b < 10 → a ≠ b → (TX2 a).2.1 ≠ (TX2 b).2.1 := by decide +kernel
theorem tyX2_ok : ∀ k, k < 10 → parseFieldDescriptor (TX2 k).2.2.1 = some (tyX2 k) := by decide +kernel
abbrev cX2_init : ByteArray := prog_4_method_1_code
def yX2_init : MethodName := ⟨RX2, "<init>", "()V"⟩
abbrev cX2_clear : ByteArray := prog_4_method_2_code
def yX2_clear : MethodName := ⟨RX2, "clear", "(LStickRace$Brook;)V"⟩
abbrev cX2_add : ByteArray := prog_4_method_3_code
def yX2_add : MethodName := ⟨RX2, "add", "(LStickRace$Stick;I)V"⟩
abbrev cX2_fits : ByteArray := prog_4_method_4_code
def yX2_fits : MethodName := ⟨RX2, "fits", "(I)Z"⟩
abbrev cX2_begin : ByteArray := prog_4_method_5_code
def yX2_begin : MethodName := ⟨RX2, "begin", "(J)V"⟩
abbrev cX2_goesOn : ByteArray := prog_4_method_6_code
def yX2_goesOn : MethodName := ⟨RX2, "goesOn", "()Z"⟩
abbrev cX2_run : ByteArray := prog_4_method_7_code
def yX2_run : MethodName := ⟨RX2, "run", "(ILStickRace$Weather;)V"⟩
abbrev cX2_sortByX : ByteArray := prog_4_method_8_code
def yX2_sortByX : MethodName := ⟨RX2, "sortByX", "()V"⟩
abbrev cX2_xOf : ByteArray := prog_4_method_9_code
def yX2_xOf : MethodName := ⟨RX2, "xOf", "(I)I"⟩
abbrev cX2_drawOfTen : ByteArray := prog_4_method_10_code
def yX2_drawOfTen : MethodName := ⟨RX2, "drawOfTen", "()I"⟩
abbrev cX2_move : ByteArray := prog_4_method_11_code
def yX2_move : MethodName := ⟨RX2, "move", "(LStickRace$Runner;LStickRace$Weather;)V"⟩
abbrev cX2_pullOf : ByteArray := prog_4_method_12_code
def yX2_pullOf : MethodName := ⟨RX2, "pullOf", "(LStickRace$Runner;I)I"⟩
abbrev cX2_onWave : ByteArray := prog_4_method_13_code
def yX2_onWave : MethodName := ⟨RX2, "onWave", "(LStickRace$Runner;)Z"⟩
abbrev cX2_leave : ByteArray := prog_4_method_14_code
def yX2_leave : MethodName := ⟨RX2, "leave", "(LStickRace$Runner;)V"⟩
abbrev cX2_strike : ByteArray := prog_4_method_15_code
def yX2_strike : MethodName := ⟨RX2, "strike", "(LStickRace$Runner;)V"⟩
abbrev cX2_awayFrom : ByteArray := prog_4_method_16_code
def yX2_awayFrom : MethodName := ⟨RX2, "awayFrom", "(ILStickRace$Runner;)I"⟩
abbrev cX2_goAside : ByteArray := prog_4_method_17_code
def yX2_goAside : MethodName := ⟨RX2, "goAside", "(LStickRace$Runner;II)V"⟩
abbrev cX2_barredAt : ByteArray := prog_4_method_18_code
def yX2_barredAt : MethodName := ⟨RX2, "barredAt", "(ILStickRace$Runner;I)I"⟩
abbrev cX2_placeOf : ByteArray := prog_4_method_19_code
def yX2_placeOf : MethodName := ⟨RX2, "placeOf", "(I)I"⟩
abbrev cX2_ticksOfFirst : ByteArray := prog_4_method_20_code
def yX2_ticksOfFirst : MethodName := ⟨RX2, "ticksOfFirst", "()I"⟩
abbrev cX2_foremost : ByteArray := prog_4_method_21_code
def yX2_foremost : MethodName := ⟨RX2, "foremost", "()I"⟩
abbrev cX2_narrow : ByteArray := prog_4_method_22_code
def yX2_narrow : MethodName := ⟨RX2, "narrow", "()I"⟩
abbrev cX2_copyFrom : ByteArray := prog_4_method_23_code
def yX2_copyFrom : MethodName := ⟨RX2, "copyFrom", "(LStickRace$Race;)V"⟩
def RX3 : String := "StickRace$Row"
def TX3 : u_T := fun k => match k with
  | 0 => ("StickRace$Row", "values", "[I", true)
  | 1 => ("StickRace$Row", "size", "I", false)
  | _ => ("StickRace$Row", "sum", "I", false)
def tyX3 : Nat → FieldType := fun k => match k with
  | 0 => .array .int
  | 1 => .int
  | _ => .int
abbrev wsX30 : List Cond := u_ws RX3 TX3 3
theorem nmX3 : ∀ a, a < 3 → ∀ b, b < 3 → a ≠ b → (TX3 a).2.1 ≠ (TX3 b).2.1 := by decide +kernel
theorem tyX3_ok : ∀ k, k < 3 → parseFieldDescriptor (TX3 k).2.2.1 = some (tyX3 k) := by decide +kernel
abbrev cX3_init : ByteArray := prog_5_method_1_code
def yX3_init : MethodName := ⟨RX3, "<init>", "()V"⟩
abbrev cX3_clear : ByteArray := prog_5_method_2_code
def yX3_clear : MethodName := ⟨RX3, "clear", "()V"⟩
abbrev cX3_add : ByteArray := prog_5_method_3_code
def yX3_add : MethodName := ⟨RX3, "add", "(I)V"⟩
abbrev cX3_at : ByteArray := prog_5_method_4_code
def yX3_at : MethodName := ⟨RX3, "at", "(I)I"⟩
def RX4 : String := "StickRace$Runner"
def TX4 : u_T := fun k => match k with
  | 0 => ("StickRace$Runner", "stick", "LStickRace$Stick;", false)
  | 1 => ("StickRace$Runner", "startY", "I", false)
  | 2 => ("StickRace$Runner", "x", "I", false)
  | 3 => ("StickRace$Runner", "y", "I", false)
  | 4 => ("StickRace$Runner", "rest", "I", false)
  | 5 => ("StickRace$Runner", "outTick", "I", false)
  | 6 => ("StickRace$Runner", "place", "I", false)
  | 7 => ("StickRace$Runner", "held", "I", false)
  | _ => ("StickRace$Runner", "strikes", "I", false)
def tyX4 : Nat → FieldType := fun k => match k with
  | 0 => .object "StickRace$Stick"
  | 1 => .int
  | 2 => .int
  | 3 => .int
  | 4 => .int
  | 5 => .int
  | 6 => .int
  | 7 => .int
  | _ => .int
abbrev wsX40 : List Cond := u_ws RX4 TX4 9
theorem nmX4 : ∀ a, a < 9 → ∀ b, b < 9 → a ≠ b → (TX4 a).2.1 ≠ (TX4 b).2.1 := by decide +kernel
theorem tyX4_ok : ∀ k, k < 9 → parseFieldDescriptor (TX4 k).2.2.1 = some (tyX4 k) := by decide +kernel
abbrev cX4_init : ByteArray := prog_6_method_1_code
def yX4_init : MethodName := ⟨RX4, "<init>", "()V"⟩
abbrev cX4_begin : ByteArray := prog_6_method_2_code
def yX4_begin : MethodName := ⟨RX4, "begin", "()V"⟩
abbrev cX4_isOut : ByteArray := prog_6_method_3_code
def yX4_isOut : MethodName := ⟨RX4, "isOut", "()Z"⟩
abbrev cX4_lanes : ByteArray := prog_6_method_4_code
def yX4_lanes : MethodName := ⟨RX4, "lanes", "()I"⟩
abbrev cX4_copyFrom : ByteArray := prog_6_method_5_code
def yX4_copyFrom : MethodName := ⟨RX4, "copyFrom", "(LStickRace$Runner;)V"⟩
def RX5 : String := "StickRace$Sights"
def TX5 : u_T := fun k => match k with
  | 0 => ("StickRace$Sights", "sticks", "[I", true)
  | 1 => ("StickRace$Sights", "ys", "[I", true)
  | 2 => ("StickRace$Sights", "ticks", "[I", true)
  | _ => ("StickRace$Sights", "size", "I", false)
def tyX5 : Nat → FieldType := fun k => match k with
  | 0 => .array .int
  | 1 => .array .int
  | 2 => .array .int
  | _ => .int
abbrev wsX50 : List Cond := u_ws RX5 TX5 4
theorem nmX5 : ∀ a, a < 4 → ∀ b, b < 4 → a ≠ b → (TX5 a).2.1 ≠ (TX5 b).2.1 := by decide +kernel
theorem tyX5_ok : ∀ k, k < 4 → parseFieldDescriptor (TX5 k).2.2.1 = some (tyX5 k) := by decide +kernel
abbrev cX5_init : ByteArray := prog_7_method_1_code
def yX5_init : MethodName := ⟨RX5, "<init>", "()V"⟩
abbrev cX5_add : ByteArray := prog_7_method_2_code
def yX5_add : MethodName := ⟨RX5, "add", "(III)I"⟩
def RX6 : String := "StickRace$Stick"
def TX6 : u_T := fun k => match k with
  | 0 => ("StickRace$Stick", "length", "I", false)
  | 1 => ("StickRace$Stick", "heavy", "I", false)
  | _ => ("StickRace$Stick", "feather", "I", false)
def tyX6 : Nat → FieldType := fun k => match k with
  | 0 => .int
  | 1 => .int
  | _ => .int
abbrev wsX60 : List Cond := u_ws RX6 TX6 3
theorem nmX6 : ∀ a, a < 3 → ∀ b, b < 3 → a ≠ b → (TX6 a).2.1 ≠ (TX6 b).2.1 := by decide +kernel
theorem tyX6_ok : ∀ k, k < 3 → parseFieldDescriptor (TX6 k).2.2.1 = some (tyX6 k) := by decide +kernel
abbrev cX6_init : ByteArray := prog_8_method_1_code
def yX6_init : MethodName := ⟨RX6, "<init>", "()V"⟩
abbrev cX6_shape : ByteArray := prog_8_method_2_code
def yX6_shape : MethodName := ⟨RX6, "shape", "(III)V"⟩
abbrev cX6_put : ByteArray := prog_8_method_3_code
def yX6_put : MethodName := ⟨RX6, "put", "(II)Z"⟩
abbrev cX6_lanesFrom : ByteArray := prog_8_method_4_code
def yX6_lanesFrom : MethodName := ⟨RX6, "lanesFrom", "(I)I"⟩
def RX7 : String := "StickRace$Tally"
def TX7 : u_T := fun k => match k with
  | 0 => ("StickRace$Tally", "wins", "[I", true)
  | 1 => ("StickRace$Tally", "sums", "[I", true)
  | _ => ("StickRace$Tally", "ties", "I", false)
def tyX7 : Nat → FieldType := fun k => match k with
  | 0 => .array .int
  | 1 => .array .int
  | _ => .int
abbrev wsX70 : List Cond := u_ws RX7 TX7 3
theorem nmX7 : ∀ a, a < 3 → ∀ b, b < 3 → a ≠ b → (TX7 a).2.1 ≠ (TX7 b).2.1 := by decide +kernel
theorem tyX7_ok : ∀ k, k < 3 → parseFieldDescriptor (TX7 k).2.2.1 = some (tyX7 k) := by decide +kernel
abbrev cX7_init : ByteArray := prog_9_method_1_code
def yX7_init : MethodName := ⟨RX7, "<init>", "()V"⟩
abbrev cX7_clear : ByteArray := prog_9_method_2_code
def yX7_clear : MethodName := ⟨RX7, "clear", "()V"⟩
abbrev cX7_add : ByteArray := prog_9_method_3_code
def yX7_add : MethodName := ⟨RX7, "add", "(LStickRace$Race;)V"⟩
def RX8 : String := "StickRace$Tape"
def TX8 : u_T := fun k => match k with
  | 0 => ("StickRace$Tape", "bytes", "[I", true)
  | _ => ("StickRace$Tape", "length", "I", false)
def tyX8 : Nat → FieldType := fun k => match k with
  | 0 => .array .int
  | _ => .int
abbrev wsX80 : List Cond := u_ws RX8 TX8 2
theorem nmX8 : ∀ a, a < 2 → ∀ b, b < 2 → a ≠ b → (TX8 a).2.1 ≠ (TX8 b).2.1 := by decide +kernel
theorem tyX8_ok : ∀ k, k < 2 → parseFieldDescriptor (TX8 k).2.2.1 = some (tyX8 k) := by decide +kernel
abbrev cX8_init : ByteArray := prog_10_method_1_code
def yX8_init : MethodName := ⟨RX8, "<init>", "()V"⟩
abbrev cX8_bytesIn : ByteArray := prog_10_method_2_code
def yX8_bytesIn : MethodName := ⟨RX8, "bytesIn", "(I)I"⟩
abbrev cX8_append : ByteArray := prog_10_method_3_code
def yX8_append : MethodName := ⟨RX8, "append", "(I)V"⟩
abbrev cX8_byteAt : ByteArray := prog_10_method_4_code
def yX8_byteAt : MethodName := ⟨RX8, "byteAt", "(I)I"⟩
abbrev cX8_isCell : ByteArray := prog_10_method_5_code
def yX8_isCell : MethodName := ⟨RX8, "isCell", "(I)Z"⟩
abbrev cX8_readBrook : ByteArray := prog_10_method_6_code
def yX8_readBrook : MethodName := ⟨RX8, "readBrook", "(LStickRace$Brook;)I"⟩
abbrev cX8_readStick : ByteArray := prog_10_method_7_code
def yX8_readStick : MethodName := ⟨RX8, "readStick", "(LStickRace$Stick;)I"⟩
abbrev cX8_letterOf : ByteArray := prog_10_method_8_code
def yX8_letterOf : MethodName := ⟨RX8, "letterOf", "(I)I"⟩
abbrev cX8_skipBlanks : ByteArray := prog_10_method_9_code
def yX8_skipBlanks : MethodName := ⟨RX8, "skipBlanks", "(I)I"⟩
abbrev cX8_digitsFrom : ByteArray := prog_10_method_10_code
def yX8_digitsFrom : MethodName := ⟨RX8, "digitsFrom", "(I)I"⟩
def RX9 : String := "StickRace$TrialBook"
def TX9 : u_T := fun k => match k with
  | 0 => ("StickRace$TrialBook", "codes", "[I", true)
  | 1 => ("StickRace$TrialBook", "parted", "[I", true)
  | 2 => ("StickRace$TrialBook", "seen", "[I", true)
  | _ => ("StickRace$TrialBook", "size", "I", false)
def tyX9 : Nat → FieldType := fun k => match k with
  | 0 => .array .int
  | 1 => .array .int
  | 2 => .array .int
  | _ => .int
abbrev wsX90 : List Cond := u_ws RX9 TX9 4
theorem nmX9 : ∀ a, a < 4 → ∀ b, b < 4 → a ≠ b → (TX9 a).2.1 ≠ (TX9 b).2.1 := by decide +kernel
theorem tyX9_ok : ∀ k, k < 4 → parseFieldDescriptor (TX9 k).2.2.1 = some (tyX9 k) := by decide +kernel
abbrev cX9_init : ByteArray := prog_11_method_1_code
def yX9_init : MethodName := ⟨RX9, "<init>", "()V"⟩
abbrev cX9_add : ByteArray := prog_11_method_2_code
def yX9_add : MethodName := ⟨RX9, "add", "(I)Z"⟩
abbrev cX9_partPairs : ByteArray := prog_11_method_3_code
def yX9_partPairs : MethodName := ⟨RX9, "partPairs", "(II)V"⟩
abbrev cX9_leastSet : ByteArray := prog_11_method_4_code
def yX9_leastSet : MethodName := ⟨RX9, "leastSet", "()I"⟩
abbrev cX9_lowerFirst : ByteArray := prog_11_method_5_code
def yX9_lowerFirst : MethodName := ⟨RX9, "lowerFirst", "(II)Z"⟩
abbrev cX9_partedBy : ByteArray := prog_11_method_6_code
def yX9_partedBy : MethodName := ⟨RX9, "partedBy", "(I)I"⟩
def RX10 : String := "StickRace$Weather"
def TX10 : u_T := fun k => match k with
  | 0 => ("StickRace$Weather", "wind", "I", false)
  | 1 => ("StickRace$Weather", "high", "I", false)
  | _ => ("StickRace$Weather", "hold", "I", false)
def tyX10 : Nat → FieldType := fun k => match k with
  | 0 => .int
  | 1 => .int
  | _ => .int
abbrev wsX100 : List Cond := u_ws RX10 TX10 3
theorem nmX10 : ∀ a, a < 3 → ∀ b, b < 3 → a ≠ b → (TX10 a).2.1 ≠ (TX10 b).2.1 := by decide +kernel
theorem tyX10_ok : ∀ k, k < 3 → parseFieldDescriptor (TX10 k).2.2.1 = some (tyX10 k) := by decide +kernel
abbrev cX10_init : ByteArray := prog_12_method_1_code
def yX10_init : MethodName := ⟨RX10, "<init>", "()V"⟩
def RX11 : String := "StickRace"
def TX11 : u_T := fun k => match k with
  | 0 => ("StickRace", "tape", "LStickRace$Tape;", true)
  | 1 => ("StickRace", "brookList", "[LStickRace$Brook;", true)
  | 2 => ("StickRace", "brookCount", "I", false)
  | 3 => ("StickRace", "stickList", "[LStickRace$Stick;", true)
  | 4 => ("StickRace", "stickCount", "I", false)
  | 5 => ("StickRace", "sights", "LStickRace$Sights;", true)
  | 6 => ("StickRace", "sky", "LStickRace$Weather;", true)
  | 7 => ("StickRace", "flood", "LStickRace$Weather;", true)
  | 8 => ("StickRace", "race", "LStickRace$Race;", true)
  | 9 => ("StickRace", "log", "LStickRace$Log;", true)
  | 10 => ("StickRace", "keptRace", "LStickRace$Race;", true)
  | 11 => ("StickRace", "keptLog", "LStickRace$Log;", true)
  | 12 => ("StickRace", "scratch", "LStickRace$Race;", true)
  | 13 => ("StickRace", "tally", "LStickRace$Tally;", true)
  | 14 => ("StickRace", "times", "LStickRace$Row;", true)
  | 15 => ("StickRace", "rungs", "LStickRace$Row;", true)
  | 16 => ("StickRace", "book", "LStickRace$TrialBook;", true)
  | 17 => ("StickRace", "mould", "LStickRace$Brook;", true)
  | 18 => ("StickRace", "draft", "LStickRace$Stick;", true)
  | _ => ("StickRace", "parts", "[I", true)
def tyX11 : Nat → FieldType := fun k => match k with
  | 0 => .object "StickRace$Tape"
  | 1 => .array (.object "StickRace$Brook")
  | 2 => .int
  | 3 => .array (.object "StickRace$Stick")
  | 4 => .int
  | 5 => .object "StickRace$Sights"
  | 6 => .object "StickRace$Weather"
  | 7 => .object "StickRace$Weather"
  | 8 => .object "StickRace$Race"
  | 9 => .object "StickRace$Log"
  | 10 => .object "StickRace$Race"
  | 11 => .object "StickRace$Log"
  | 12 => .object "StickRace$Race"
  | 13 => .object "StickRace$Tally"
  | 14 => .object "StickRace$Row"
  | 15 => .object "StickRace$Row"
  | 16 => .object "StickRace$TrialBook"
  | 17 => .object "StickRace$Brook"
  | 18 => .object "StickRace$Stick"
  | _ => .array .int
abbrev wsX110 : List Cond := u_ws RX11 TX11 20
theorem nmX11 : ∀ a, a < 20 → ∀ b, b < 20 → a ≠ b → (TX11 a).2.1 ≠ (TX11 b).2.1 := by decide +kernel
theorem tyX11_ok : ∀ k, k < 20 → parseFieldDescriptor (TX11 k).2.2.1 = some (tyX11 k) := by decide +kernel
abbrev cX11_init : ByteArray := prog_1_method_1_code
def yX11_init : MethodName := ⟨RX11, "<init>", "()V"⟩
abbrev cX11_feed : ByteArray := prog_1_method_2_code
def yX11_feed : MethodName := ⟨RX11, "feed", "(IIIII)I"⟩
abbrev cX11_end : ByteArray := prog_1_method_3_code
def yX11_end : MethodName := ⟨RX11, "end", "(I)Z"⟩
abbrev cX11_fault : ByteArray := prog_1_method_4_code
def yX11_fault : MethodName := ⟨RX11, "fault", "(I)I"⟩
abbrev cX11_text : ByteArray := prog_1_method_5_code
def yX11_text : MethodName := ⟨RX11, "text", "(I)I"⟩
abbrev cX11_keepBrook : ByteArray := prog_1_method_6_code
def yX11_keepBrook : MethodName := ⟨RX11, "keepBrook", "()I"⟩
abbrev cX11_keepStick : ByteArray := prog_1_method_7_code
def yX11_keepStick : MethodName := ⟨RX11, "keepStick", "()I"⟩
abbrev cX11_brook : ByteArray := prog_1_method_8_code
def yX11_brook : MethodName := ⟨RX11, "brook", "(II)I"⟩
abbrev cX11_pace : ByteArray := prog_1_method_9_code
def yX11_pace : MethodName := ⟨RX11, "pace", "(III)I"⟩
abbrev cX11_stick : ByteArray := prog_1_method_10_code
def yX11_stick : MethodName := ⟨RX11, "stick", "(II)I"⟩
abbrev cX11_weather : ByteArray := prog_1_method_11_code
def yX11_weather : MethodName := ⟨RX11, "weather", "(II)Z"⟩
abbrev cX11_can : ByteArray := prog_1_method_12_code
def yX11_can : MethodName := ⟨RX11, "can", "(IIII)I"⟩
abbrev cX11_noBrook : ByteArray := prog_1_method_13_code
def yX11_noBrook : MethodName := ⟨RX11, "noBrook", "(I)Z"⟩
abbrev cX11_noStick : ByteArray := prog_1_method_14_code
def yX11_noStick : MethodName := ⟨RX11, "noStick", "(I)Z"⟩
abbrev cX11_noRunner : ByteArray := prog_1_method_15_code
def yX11_noRunner : MethodName := ⟨RX11, "noRunner", "(I)Z"⟩
abbrev cX11_noSeeds : ByteArray := prog_1_method_16_code
def yX11_noSeeds : MethodName := ⟨RX11, "noSeeds", "(I)Z"⟩
abbrev cX11_noBits : ByteArray := prog_1_method_17_code
def yX11_noBits : MethodName := ⟨RX11, "noBits", "(II)Z"⟩
abbrev cX11_hasBit : ByteArray := prog_1_method_18_code
def yX11_hasBit : MethodName := ⟨RX11, "hasBit", "(II)Z"⟩
abbrev cX11_on : ByteArray := prog_1_method_19_code
def yX11_on : MethodName := ⟨RX11, "on", "(I)Z"⟩
abbrev cX11_runner : ByteArray := prog_1_method_20_code
def yX11_runner : MethodName := ⟨RX11, "runner", "(II)I"⟩
abbrev cX11_start : ByteArray := prog_1_method_21_code
def yX11_start : MethodName := ⟨RX11, "start", "(J)Z"⟩
abbrev cX11_tick : ByteArray := prog_1_method_22_code
def yX11_tick : MethodName := ⟨RX11, "tick", "(I)I"⟩
abbrev cX11_look : ByteArray := prog_1_method_23_code
def yX11_look : MethodName := ⟨RX11, "look", "(II)I"⟩
abbrev cX11_pull : ByteArray := prog_1_method_24_code
def yX11_pull : MethodName := ⟨RX11, "pull", "(I)I"⟩
abbrev cX11_lies : ByteArray := prog_1_method_25_code
def yX11_lies : MethodName := ⟨RX11, "lies", "(II)I"⟩
abbrev cX11_odds : ByteArray := prog_1_method_26_code
def yX11_odds : MethodName := ⟨RX11, "odds", "(III)I"⟩
abbrev cX11_alone : ByteArray := prog_1_method_27_code
def yX11_alone : MethodName := ⟨RX11, "alone", "(IIIJ)I"⟩
abbrev cX11_luck : ByteArray := prog_1_method_28_code
def yX11_luck : MethodName := ⟨RX11, "luck", "(IIII)I"⟩
abbrev cX11_spreadParts : ByteArray := prog_1_method_29_code
def yX11_spreadParts : MethodName := ⟨RX11, "spreadParts", "(III)V"⟩
abbrev cX11_best : ByteArray := prog_1_method_30_code
def yX11_best : MethodName := ⟨RX11, "best", "(IIII)I"⟩
abbrev cX11_choice : ByteArray := prog_1_method_31_code
def yX11_choice : MethodName := ⟨RX11, "choice", "(IIIII)I"⟩
abbrev cX11_same : ByteArray := prog_1_method_32_code
def yX11_same : MethodName := ⟨RX11, "same", "(III)I"⟩
abbrev cX11_placesWith : ByteArray := prog_1_method_33_code
def yX11_placesWith : MethodName := ⟨RX11, "placesWith", "(II)I"⟩
abbrev cX11_carved : ByteArray := prog_1_method_34_code
def yX11_carved : MethodName := ⟨RX11, "carved", "(IIII)I"⟩
abbrev cX11_turnRunners : ByteArray := prog_1_method_35_code
def yX11_turnRunners : MethodName := ⟨RX11, "turnRunners", "(I)V"⟩
abbrev cX11_tallyTold : ByteArray := prog_1_method_36_code
def yX11_tallyTold : MethodName := ⟨RX11, "tallyTold", "(I)Z"⟩
abbrev cX11_tallySeeds : ByteArray := prog_1_method_37_code
def yX11_tallySeeds : MethodName := ⟨RX11, "tallySeeds", "(I)V"⟩
abbrev cX11_placeTwo : ByteArray := prog_1_method_38_code
def yX11_placeTwo : MethodName := ⟨RX11, "placeTwo", "(LStickRace$Brook;LStickRace$Stick;ILStickRace$Stick;I)Z"⟩
abbrev cX11_leadOfFirst : ByteArray := prog_1_method_39_code
def yX11_leadOfFirst : MethodName := ⟨RX11, "leadOfFirst", "(I)I"⟩
abbrev cX11_placeOne : ByteArray := prog_1_method_40_code
def yX11_placeOne : MethodName := ⟨RX11, "placeOne", "(LStickRace$Brook;LStickRace$Stick;I)Z"⟩
abbrev cX11_ticksAlone : ByteArray := prog_1_method_41_code
def yX11_ticksAlone : MethodName := ⟨RX11, "ticksAlone", "(LStickRace$Brook;LStickRace$Stick;IJ)I"⟩
abbrev cX11_timeAlone : ByteArray := prog_1_method_42_code
def yX11_timeAlone : MethodName := ⟨RX11, "timeAlone", "(LStickRace$Brook;LStickRace$Stick;II)I"⟩
abbrev cX11_trials : ByteArray := prog_1_method_43_code
def yX11_trials : MethodName := ⟨RX11, "trials", "(III)I"⟩
abbrev cX11_plan : ByteArray := prog_1_method_44_code
def yX11_plan : MethodName := ⟨RX11, "plan", "(III)I"⟩
abbrev cX11_fewest : ByteArray := prog_1_method_45_code
def yX11_fewest : MethodName := ⟨RX11, "fewest", "(II)I"⟩
abbrev cX11_findTrials : ByteArray := prog_1_method_46_code
def yX11_findTrials : MethodName := ⟨RX11, "findTrials", "(II)Z"⟩
abbrev cX11_liesOnAll : ByteArray := prog_1_method_47_code
def yX11_liesOnAll : MethodName := ⟨RX11, "liesOnAll", "(ILStickRace$Stick;I)Z"⟩
abbrev cX11_partPairs : ByteArray := prog_1_method_48_code
def yX11_partPairs : MethodName := ⟨RX11, "partPairs", "(I)V"⟩
abbrev cX11_sight : ByteArray := prog_1_method_49_code
def yX11_sight : MethodName := ⟨RX11, "sight", "(III)I"⟩
abbrev cX11_agree : ByteArray := prog_1_method_50_code
def yX11_agree : MethodName := ⟨RX11, "agree", "()I"⟩
abbrev cX11_agrees : ByteArray := prog_1_method_51_code
def yX11_agrees : MethodName := ⟨RX11, "agrees", "(LStickRace$Brook;)Z"⟩
abbrev cX11_stoned : ByteArray := prog_1_method_52_code
def yX11_stoned : MethodName := ⟨RX11, "stoned", "(II)I"⟩
abbrev cX11_fair : ByteArray := prog_1_method_53_code
def yX11_fair : MethodName := ⟨RX11, "fair", "(IIII)I"⟩
abbrev cX11_gapOf : ByteArray := prog_1_method_54_code
def yX11_gapOf : MethodName := ⟨RX11, "gapOf", "(II)I"⟩
abbrev cX11_image : ByteArray := prog_1_method_55_code
def yX11_image : MethodName := ⟨RX11, "image", "()I"⟩
abbrev cX11_back : ByteArray := prog_1_method_56_code
def yX11_back : MethodName := ⟨RX11, "back", "()I"⟩
abbrev cX11_was : ByteArray := prog_1_method_57_code
def yX11_was : MethodName := ⟨RX11, "was", "(III)I"⟩
abbrev cX11_noTick : ByteArray := prog_1_method_58_code
def yX11_noTick : MethodName := ⟨RX11, "noTick", "(I)Z"⟩
abbrev cX11_passed : ByteArray := prog_1_method_59_code
def yX11_passed : MethodName := ⟨RX11, "passed", "(II)I"⟩
abbrev cX11_leader : ByteArray := prog_1_method_60_code
def yX11_leader : MethodName := ⟨RX11, "leader", "(I)I"⟩
abbrev cX11_led : ByteArray := prog_1_method_61_code
def yX11_led : MethodName := ⟨RX11, "led", "(I)I"⟩
abbrev cX11_struck : ByteArray := prog_1_method_62_code
def yX11_struck : MethodName := ⟨RX11, "struck", "(I)I"⟩
abbrev cX11_rounds : ByteArray := prog_1_method_63_code
def yX11_rounds : MethodName := ⟨RX11, "rounds", "(III)I"⟩
abbrev cX11_duel : ByteArray := prog_1_method_64_code
def yX11_duel : MethodName := ⟨RX11, "duel", "(IIII)I"⟩
abbrev cX11_ladder : ByteArray := prog_1_method_65_code
def yX11_ladder : MethodName := ⟨RX11, "ladder", "(IIII)I"⟩
abbrev cX11_leastSum : ByteArray := prog_1_method_66_code
def yX11_leastSum : MethodName := ⟨RX11, "leastSum", "(LStickRace$Brook;LStickRace$Stick;I)I"⟩
abbrev cX11_reach : ByteArray := prog_1_method_67_code
def yX11_reach : MethodName := ⟨RX11, "reach", "(IIIII)I"⟩
abbrev cX11_close : ByteArray := prog_1_method_68_code
def yX11_close : MethodName := ⟨RX11, "close", "(I)I"⟩
abbrev cX11_count : ByteArray := prog_1_method_69_code
def yX11_count : MethodName := ⟨RX11, "count", "(I)I"⟩
def RX12 : String := "StickRaceModel"
def TX12 : u_T := fun k => match k with
  | 0 => ("StickRaceModel", "thrown", "I", false)
  | 1 => ("StickRaceModel", "tape", "[B", true)
  | 2 => ("StickRaceModel", "length", "I", false)
  | 3 => ("StickRaceModel", "at", "I", false)
  | 4 => ("StickRaceModel", "fault", "I", false)
  | 5 => ("StickRaceModel", "signs", "[I", true)
  | 6 => ("StickRaceModel", "lanes", "[I", true)
  | 7 => ("StickRaceModel", "wide", "[I", true)
  | 8 => ("StickRaceModel", "sizes", "[I", true)
  | 9 => ("StickRaceModel", "heavies", "[I", true)
  | 10 => ("StickRaceModel", "feathers", "[I", true)
  | 11 => ("StickRaceModel", "brooks", "I", false)
  | 12 => ("StickRaceModel", "sticks", "I", false)
  | 13 => ("StickRaceModel", "wind", "I", false)
  | 14 => ("StickRaceModel", "high", "I", false)
  | 15 => ("StickRaceModel", "hold", "I", false)
  | 16 => ("StickRaceModel", "race", "[I", true)
  | 17 => ("StickRaceModel", "kept", "[I", true)
  | 18 => ("StickRaceModel", "image", "[I", true)
  | 19 => ("StickRaceModel", "on", "I", false)
  | 20 => ("StickRaceModel", "many", "I", false)
  | 21 => ("StickRaceModel", "ticks", "I", false)
  | 22 => ("StickRaceModel", "outs", "I", false)
  | 23 => ("StickRaceModel", "keptOn", "I", false)
  | 24 => ("StickRaceModel", "keptMany", "I", false)
  | 25 => ("StickRaceModel", "keptTicks", "I", false)
  | 26 => ("StickRaceModel", "keptOuts", "I", false)
  | 27 => ("StickRaceModel", "imageOn", "I", false)
  | 28 => ("StickRaceModel", "imageMany", "I", false)
  | 29 => ("StickRaceModel", "imageTicks", "I", false)
  | 30 => ("StickRaceModel", "imageOuts", "I", false)
  | 31 => ("StickRaceModel", "draws", "J", false)
  | 32 => ("StickRaceModel", "keptDraws", "J", false)
  | 33 => ("StickRaceModel", "imageDraws", "J", false)
  | 34 => ("StickRaceModel", "hasImage", "Z", false)
  | 35 => ("StickRaceModel", "wasAt", "[I", true)
  | 36 => ("StickRaceModel", "wasLane", "[I", true)
  | 37 => ("StickRaceModel", "leaders", "[I", true)
  | 38 => ("StickRaceModel", "strikes", "[I", true)
  | 39 => ("StickRaceModel", "imageAt", "[I", true)
  | 40 => ("StickRaceModel", "imageLane", "[I", true)
  | 41 => ("StickRaceModel", "imageLeaders", "[I", true)
  | 42 => ("StickRaceModel", "imageStrikes", "[I", true)
  | 43 => ("StickRaceModel", "records", "Z", false)
  | 44 => ("StickRaceModel", "begun", "[I", true)
  | 45 => ("StickRaceModel", "isDone", "[Z", true)
  | 46 => ("StickRaceModel", "parts", "[I", true)
  | 47 => ("StickRaceModel", "places", "[I", true)
  | 48 => ("StickRaceModel", "trial", "[I", true)
  | 49 => ("StickRaceModel", "seen", "[I", true)
  | 50 => ("StickRaceModel", "trialMany", "I", false)
  | 51 => ("StickRaceModel", "sightStick", "[I", true)
  | 52 => ("StickRaceModel", "sightLane", "[I", true)
  | 53 => ("StickRaceModel", "sightTicks", "[I", true)
  | 54 => ("StickRaceModel", "sights", "I", false)
  | 55 => ("StickRaceModel", "worths", "[I", true)
  | 56 => ("StickRaceModel", "starts", "[I", true)
  | 57 => ("StickRaceModel", "rungs", "[I", true)
  | 58 => ("StickRaceModel", "rungSums", "[I", true)
  | _ => ("StickRaceModel", "span", "[I", true)
def tyX12 : Nat → FieldType := fun k => match k with
  | 0 => .int
  | 1 => .array .byte
  | 2 => .int
  | 3 => .int
  | 4 => .int
  | 5 => .array .int
  | 6 => .array .int
  | 7 => .array .int
  | 8 => .array .int
  | 9 => .array .int
  | 10 => .array .int
  | 11 => .int
  | 12 => .int
  | 13 => .int
  | 14 => .int
  | 15 => .int
  | 16 => .array .int
  | 17 => .array .int
  | 18 => .array .int
  | 19 => .int
  | 20 => .int
  | 21 => .int
  | 22 => .int
  | 23 => .int
  | 24 => .int
  | 25 => .int
  | 26 => .int
  | 27 => .int
  | 28 => .int
  | 29 => .int
  | 30 => .int
  | 31 => .long
  | 32 => .long
  | 33 => .long
  | 34 => .boolean
  | 35 => .array .int
  | 36 => .array .int
  | 37 => .array .int
  | 38 => .array .int
  | 39 => .array .int
  | 40 => .array .int
  | 41 => .array .int
  | 42 => .array .int
  | 43 => .boolean
  | 44 => .array .int
  | 45 => .array .boolean
  | 46 => .array .int
  | 47 => .array .int
  | 48 => .array .int
  | 49 => .array .int
  | 50 => .int
  | 51 => .array .int
  | 52 => .array .int
  | 53 => .array .int
  | 54 => .int
  | 55 => .array .int
  | 56 => .array .int
  | 57 => .array .int
  | 58 => .array .int
  | _ => .array .int
abbrev wsX120 : List Cond := u_ws RX12 TX12 60
theorem nmX12 : ∀ a, a < 60 → ∀ b, b < 60 → a ≠ b → (TX12 a).2.1 ≠ (TX12 b).2.1 := by decide +kernel
theorem tyX12_ok : ∀ k, k < 60 → parseFieldDescriptor (TX12 k).2.2.1 = some (tyX12 k) := by decide +kernel
abbrev cX12_init : ByteArray := prog_14_method_1_code
def yX12_init : MethodName := ⟨RX12, "<init>", "()V"⟩
abbrev cX12_thrown : ByteArray := prog_14_method_2_code
def yX12_thrown : MethodName := ⟨RX12, "thrown", "()I"⟩
abbrev cX12_isIn : ByteArray := prog_14_method_3_code
def yX12_isIn : MethodName := ⟨RX12, "isIn", "(III)Z"⟩
abbrev cX12_has : ByteArray := prog_14_method_4_code
def yX12_has : MethodName := ⟨RX12, "has", "(II)Z"⟩
abbrev cX12_isBefore : ByteArray := prog_14_method_5_code
def yX12_isBefore : MethodName := ⟨RX12, "isBefore", "(II)Z"⟩
abbrev cX12_bytesIn : ByteArray := prog_14_method_6_code
def yX12_bytesIn : MethodName := ⟨RX12, "bytesIn", "(I)I"⟩
abbrev cX12_put : ByteArray := prog_14_method_7_code
def yX12_put : MethodName := ⟨RX12, "put", "(I)V"⟩
abbrev cX12_feed : ByteArray := prog_14_method_8_code
def yX12_feed : MethodName := ⟨RX12, "feed", "(IIIII)I"⟩
abbrev cX12_end : ByteArray := prog_14_method_9_code
def yX12_end : MethodName := ⟨RX12, "end", "(I)Z"⟩
abbrev cX12_here : ByteArray := prog_14_method_10_code
def yX12_here : MethodName := ⟨RX12, "here", "()I"⟩
abbrev cX12_look : ByteArray := prog_14_method_11_code
def yX12_look : MethodName := ⟨RX12, "look", "()I"⟩
abbrev cX12_fails : ByteArray := prog_14_method_12_code
def yX12_fails : MethodName := ⟨RX12, "fails", "()V"⟩
abbrev cX12_begin : ByteArray := prog_14_method_13_code
def yX12_begin : MethodName := ⟨RX12, "begin", "()V"⟩
abbrev cX12_signOf : ByteArray := prog_14_method_14_code
def yX12_signOf : MethodName := ⟨RX12, "signOf", "(I)I"⟩
abbrev cX12_readBrook : ByteArray := prog_14_method_15_code
def yX12_readBrook : MethodName := ⟨RX12, "readBrook", "(I)V"⟩
abbrev cX12_isDigit : ByteArray := prog_14_method_16_code
def yX12_isDigit : MethodName := ⟨RX12, "isDigit", "()Z"⟩
abbrev cX12_number : ByteArray := prog_14_method_17_code
def yX12_number : MethodName := ⟨RX12, "number", "(II)I"⟩
abbrev cX12_readStick : ByteArray := prog_14_method_18_code
def yX12_readStick : MethodName := ⟨RX12, "readStick", "(I)V"⟩
abbrev cX12_fault : ByteArray := prog_14_method_19_code
def yX12_fault : MethodName := ⟨RX12, "fault", "(I)I"⟩
abbrev cX12_text : ByteArray := prog_14_method_20_code
def yX12_text : MethodName := ⟨RX12, "text", "(I)I"⟩
abbrev cX12_isBrook : ByteArray := prog_14_method_21_code
def yX12_isBrook : MethodName := ⟨RX12, "isBrook", "(I)Z"⟩
abbrev cX12_isStick : ByteArray := prog_14_method_22_code
def yX12_isStick : MethodName := ⟨RX12, "isStick", "(I)Z"⟩
abbrev cX12_sign : ByteArray := prog_14_method_23_code
def yX12_sign : MethodName := ⟨RX12, "sign", "(III)I"⟩
abbrev cX12_signsOf : ByteArray := prog_14_method_24_code
def yX12_signsOf : MethodName := ⟨RX12, "signsOf", "(II)I"⟩
abbrev cX12_brook : ByteArray := prog_14_method_25_code
def yX12_brook : MethodName := ⟨RX12, "brook", "(II)I"⟩
abbrev cX12_isCell : ByteArray := prog_14_method_26_code
def yX12_isCell : MethodName := ⟨RX12, "isCell", "(III)Z"⟩
abbrev cX12_paceOf : ByteArray := prog_14_method_27_code
def yX12_paceOf : MethodName := ⟨RX12, "paceOf", "(III)I"⟩
abbrev cX12_pace : ByteArray := prog_14_method_28_code
def yX12_pace : MethodName := ⟨RX12, "pace", "(III)I"⟩
abbrev cX12_stick : ByteArray := prog_14_method_29_code
def yX12_stick : MethodName := ⟨RX12, "stick", "(II)I"⟩
abbrev cX12_weather : ByteArray := prog_14_method_30_code
def yX12_weather : MethodName := ⟨RX12, "weather", "(II)Z"⟩
abbrev cX12_bars : ByteArray := prog_14_method_31_code
def yX12_bars : MethodName := ⟨RX12, "bars", "(III)Z"⟩
abbrev cX12_canLie : ByteArray := prog_14_method_32_code
def yX12_canLie : MethodName := ⟨RX12, "canLie", "(IIII)Z"⟩
abbrev cX12_can : ByteArray := prog_14_method_33_code
def yX12_can : MethodName := ⟨RX12, "can", "(IIII)I"⟩
abbrev cX12_of : ByteArray := prog_14_method_34_code
def yX12_of : MethodName := ⟨RX12, "of", "(II)I"⟩
abbrev cX12_set : ByteArray := prog_14_method_35_code
def yX12_set : MethodName := ⟨RX12, "set", "(III)V"⟩
abbrev cX12_isRunner : ByteArray := prog_14_method_36_code
def yX12_isRunner : MethodName := ⟨RX12, "isRunner", "(I)Z"⟩
abbrev cX12_on : ByteArray := prog_14_method_37_code
def yX12_on : MethodName := ⟨RX12, "on", "(I)Z"⟩
abbrev cX12_place : ByteArray := prog_14_method_38_code
def yX12_place : MethodName := ⟨RX12, "place", "(I)V"⟩
abbrev cX12_join : ByteArray := prog_14_method_39_code
def yX12_join : MethodName := ⟨RX12, "join", "(IIII)V"⟩
abbrev cX12_isOut : ByteArray := prog_14_method_40_code
def yX12_isOut : MethodName := ⟨RX12, "isOut", "(I)Z"⟩
abbrev cX12_whoIs : ByteArray := prog_14_method_41_code
def yX12_whoIs : MethodName := ⟨RX12, "whoIs", "(III)I"⟩
abbrev cX12_isFree : ByteArray := prog_14_method_42_code
def yX12_isFree : MethodName := ⟨RX12, "isFree", "(IIII)Z"⟩
abbrev cX12_runner : ByteArray := prog_14_method_43_code
def yX12_runner : MethodName := ⟨RX12, "runner", "(II)I"⟩
abbrev cX12_canStart : ByteArray := prog_14_method_44_code
def yX12_canStart : MethodName := ⟨RX12, "canStart", "()Z"⟩
abbrev cX12_begin_ : ByteArray := prog_14_method_45_code
def yX12_begin_ : MethodName := ⟨RX12, "begin", "(J)V"⟩
abbrev cX12_start : ByteArray := prog_14_method_46_code
def yX12_start : MethodName := ⟨RX12, "start", "(J)Z"⟩
abbrev cX12_leaderNow : ByteArray := prog_14_method_47_code
def yX12_leaderNow : MethodName := ⟨RX12, "leaderNow", "()I"⟩
abbrev cX12_record : ByteArray := prog_14_method_48_code
def yX12_record : MethodName := ⟨RX12, "record", "()V"⟩
abbrev cX12_draw : ByteArray := prog_14_method_49_code
def yX12_draw : MethodName := ⟨RX12, "draw", "()I"⟩
abbrev cX12_pullOf : ByteArray := prog_14_method_50_code
def yX12_pullOf : MethodName := ⟨RX12, "pullOf", "(I)I"⟩
abbrev cX12_isInEddy : ByteArray := prog_14_method_51_code
def yX12_isInEddy : MethodName := ⟨RX12, "isInEddy", "(I)Z"⟩
abbrev cX12_hasWave : ByteArray := prog_14_method_52_code
def yX12_hasWave : MethodName := ⟨RX12, "hasWave", "(I)Z"⟩
abbrev cX12_goAside : ByteArray := prog_14_method_53_code
def yX12_goAside : MethodName := ⟨RX12, "goAside", "(II)V"⟩
abbrev cX12_strike : ByteArray := prog_14_method_54_code
def yX12_strike : MethodName := ⟨RX12, "strike", "(I)V"⟩
abbrev cX12_go : ByteArray := prog_14_method_55_code
def yX12_go : MethodName := ⟨RX12, "go", "(I)V"⟩
abbrev cX12_goTick : ByteArray := prog_14_method_56_code
def yX12_goTick : MethodName := ⟨RX12, "goTick", "()V"⟩
abbrev cX12_goesOn : ByteArray := prog_14_method_57_code
def yX12_goesOn : MethodName := ⟨RX12, "goesOn", "()Z"⟩
abbrev cX12_tick : ByteArray := prog_14_method_58_code
def yX12_tick : MethodName := ⟨RX12, "tick", "(I)I"⟩
abbrev cX12_placeOf : ByteArray := prog_14_method_59_code
def yX12_placeOf : MethodName := ⟨RX12, "placeOf", "(I)I"⟩
abbrev cX12_look_ : ByteArray := prog_14_method_60_code
def yX12_look_ : MethodName := ⟨RX12, "look", "(II)I"⟩
abbrev cX12_pull : ByteArray := prog_14_method_61_code
def yX12_pull : MethodName := ⟨RX12, "pull", "(I)I"⟩
abbrev cX12_lies : ByteArray := prog_14_method_62_code
def yX12_lies : MethodName := ⟨RX12, "lies", "(II)I"⟩
abbrev cX12_keepRace : ByteArray := prog_14_method_63_code
def yX12_keepRace : MethodName := ⟨RX12, "keepRace", "()V"⟩
abbrev cX12_putBack : ByteArray := prog_14_method_64_code
def yX12_putBack : MethodName := ⟨RX12, "putBack", "()V"⟩
abbrev cX12_goRace : ByteArray := prog_14_method_65_code
def yX12_goRace : MethodName := ⟨RX12, "goRace", "(J)V"⟩
abbrev cX12_sumOf : ByteArray := prog_14_method_66_code
def yX12_sumOf : MethodName := ⟨RX12, "sumOf", "(IIZ)I"⟩
abbrev cX12_areOdds : ByteArray := prog_14_method_67_code
def yX12_areOdds : MethodName := ⟨RX12, "areOdds", "(II)Z"⟩
abbrev cX12_oddsOf : ByteArray := prog_14_method_68_code
def yX12_oddsOf : MethodName := ⟨RX12, "oddsOf", "(IIZ)I"⟩
abbrev cX12_odds : ByteArray := prog_14_method_69_code
def yX12_odds : MethodName := ⟨RX12, "odds", "(III)I"⟩
abbrev cX12_aloneOf : ByteArray := prog_14_method_70_code
def yX12_aloneOf : MethodName := ⟨RX12, "aloneOf", "(IIIIIJ)I"⟩
abbrev cX12_aloneBy : ByteArray := prog_14_method_71_code
def yX12_aloneBy : MethodName := ⟨RX12, "aloneBy", "(IIIJ)I"⟩
abbrev cX12_canBegin : ByteArray := prog_14_method_72_code
def yX12_canBegin : MethodName := ⟨RX12, "canBegin", "(III)Z"⟩
abbrev cX12_alone : ByteArray := prog_14_method_73_code
def yX12_alone : MethodName := ⟨RX12, "alone", "(IIIJ)I"⟩
abbrev cX12_luck : ByteArray := prog_14_method_74_code
def yX12_luck : MethodName := ⟨RX12, "luck", "(IIII)I"⟩
abbrev cX12_areSticks : ByteArray := prog_14_method_75_code
def yX12_areSticks : MethodName := ⟨RX12, "areSticks", "(I)Z"⟩
abbrev cX12_areBrooks : ByteArray := prog_14_method_76_code
def yX12_areBrooks : MethodName := ⟨RX12, "areBrooks", "(I)Z"⟩
abbrev cX12_best : ByteArray := prog_14_method_77_code
def yX12_best : MethodName := ⟨RX12, "best", "(IIII)I"⟩
abbrev cX12_gameOf : ByteArray := prog_14_method_78_code
def yX12_gameOf : MethodName := ⟨RX12, "gameOf", "(IIIIII)I"⟩
abbrev cX12_areApart : ByteArray := prog_14_method_79_code
def yX12_areApart : MethodName := ⟨RX12, "areApart", "(IIII)Z"⟩
abbrev cX12_choice : ByteArray := prog_14_method_80_code
def yX12_choice : MethodName := ⟨RX12, "choice", "(IIIII)I"⟩
abbrev cX12_canStartWith : ByteArray := prog_14_method_81_code
def yX12_canStartWith : MethodName := ⟨RX12, "canStartWith", "(I)Z"⟩
abbrev cX12_raceWith : ByteArray := prog_14_method_82_code
def yX12_raceWith : MethodName := ⟨RX12, "raceWith", "(II)V"⟩
abbrev cX12_same : ByteArray := prog_14_method_83_code
def yX12_same : MethodName := ⟨RX12, "same", "(III)I"⟩
abbrev cX12_carved : ByteArray := prog_14_method_84_code
def yX12_carved : MethodName := ⟨RX12, "carved", "(IIII)I"⟩
abbrev cX12_layTrials : ByteArray := prog_14_method_85_code
def yX12_layTrials : MethodName := ⟨RX12, "layTrials", "(II)Z"⟩
abbrev cX12_areTrials : ByteArray := prog_14_method_86_code
def yX12_areTrials : MethodName := ⟨RX12, "areTrials", "(II)Z"⟩
abbrev cX12_trials : ByteArray := prog_14_method_87_code
def yX12_trials : MethodName := ⟨RX12, "trials", "(III)I"⟩
abbrev cX12_parts : ByteArray := prog_14_method_88_code
def yX12_parts : MethodName := ⟨RX12, "parts", "(III)Z"⟩
abbrev cX12_partsOf : ByteArray := prog_14_method_89_code
def yX12_partsOf : MethodName := ⟨RX12, "partsOf", "(II)I"⟩
abbrev cX12_plan : ByteArray := prog_14_method_90_code
def yX12_plan : MethodName := ⟨RX12, "plan", "(III)I"⟩
abbrev cX12_fewest : ByteArray := prog_14_method_91_code
def yX12_fewest : MethodName := ⟨RX12, "fewest", "(II)I"⟩
abbrev cX12_sight : ByteArray := prog_14_method_92_code
def yX12_sight : MethodName := ⟨RX12, "sight", "(III)I"⟩
abbrev cX12_agrees : ByteArray := prog_14_method_93_code
def yX12_agrees : MethodName := ⟨RX12, "agrees", "(I)Z"⟩
abbrev cX12_agree : ByteArray := prog_14_method_94_code
def yX12_agree : MethodName := ⟨RX12, "agree", "()I"⟩
abbrev cX12_stoned : ByteArray := prog_14_method_95_code
def yX12_stoned : MethodName := ⟨RX12, "stoned", "(II)I"⟩
abbrev cX12_layWorths : ByteArray := prog_14_method_96_code
def yX12_layWorths : MethodName := ⟨RX12, "layWorths", "(II)I"⟩
abbrev cX12_differenceOf : ByteArray := prog_14_method_97_code
def yX12_differenceOf : MethodName := ⟨RX12, "differenceOf", "(II)I"⟩
abbrev cX12_fair : ByteArray := prog_14_method_98_code
def yX12_fair : MethodName := ⟨RX12, "fair", "(IIII)I"⟩
abbrev cX12_copy : ByteArray := prog_14_method_99_code
def yX12_copy : MethodName := ⟨RX12, "copy", "([I[I)V"⟩
abbrev cX12_image : ByteArray := prog_14_method_100_code
def yX12_image : MethodName := ⟨RX12, "image", "()I"⟩
abbrev cX12_back : ByteArray := prog_14_method_101_code
def yX12_back : MethodName := ⟨RX12, "back", "()I"⟩
abbrev cX12_isTick : ByteArray := prog_14_method_102_code
def yX12_isTick : MethodName := ⟨RX12, "isTick", "(I)Z"⟩
abbrev cX12_was : ByteArray := prog_14_method_103_code
def yX12_was : MethodName := ⟨RX12, "was", "(III)I"⟩
abbrev cX12_passed : ByteArray := prog_14_method_104_code
def yX12_passed : MethodName := ⟨RX12, "passed", "(II)I"⟩
abbrev cX12_leader : ByteArray := prog_14_method_105_code
def yX12_leader : MethodName := ⟨RX12, "leader", "(I)I"⟩
abbrev cX12_led : ByteArray := prog_14_method_106_code
def yX12_led : MethodName := ⟨RX12, "led", "(I)I"⟩
abbrev cX12_struck : ByteArray := prog_14_method_107_code
def yX12_struck : MethodName := ⟨RX12, "struck", "(I)I"⟩
abbrev cX12_turns : ByteArray := prog_14_method_108_code
def yX12_turns : MethodName := ⟨RX12, "turns", "(I)Z"⟩
abbrev cX12_rounds : ByteArray := prog_14_method_109_code
def yX12_rounds : MethodName := ⟨RX12, "rounds", "(III)I"⟩
abbrev cX12_duel : ByteArray := prog_14_method_110_code
def yX12_duel : MethodName := ⟨RX12, "duel", "(IIII)I"⟩
abbrev cX12_leastSum : ByteArray := prog_14_method_111_code
def yX12_leastSum : MethodName := ⟨RX12, "leastSum", "(III)I"⟩
abbrev cX12_ladder : ByteArray := prog_14_method_112_code
def yX12_ladder : MethodName := ⟨RX12, "ladder", "(IIII)I"⟩
abbrev cX12_reach : ByteArray := prog_14_method_113_code
def yX12_reach : MethodName := ⟨RX12, "reach", "(IIIII)I"⟩
abbrev cX12_outOf : ByteArray := prog_14_method_114_code
def yX12_outOf : MethodName := ⟨RX12, "outOf", "(I)I"⟩
abbrev cX12_close : ByteArray := prog_14_method_115_code
def yX12_close : MethodName := ⟨RX12, "close", "(I)I"⟩
abbrev cX12_count : ByteArray := prog_14_method_116_code
def yX12_count : MethodName := ⟨RX12, "count", "(I)I"⟩
def RJ6 : String := "java/lang/Integer"
abbrev cJ6_bitCount_0f7a4 : ByteArray := prog_17_method_49_code
def yJ6_bitCount_0f7a4 : MethodName := ⟨RJ6, "bitCount", "(I)I"⟩
def RJ9 : String := "java/lang/Math"
abbrev cJ9_abs_0f7a4 : ByteArray := prog_18_method_59_code
def yJ9_abs_0f7a4 : MethodName := ⟨RJ9, "abs", "(I)I"⟩
abbrev cJ9_max_7cf53 : ByteArray := prog_18_method_65_code
def yJ9_max_7cf53 : MethodName := ⟨RJ9, "max", "(II)I"⟩
abbrev cJ9_min_7cf53 : ByteArray := prog_18_method_69_code
def yJ9_min_7cf53 : MethodName := ⟨RJ9, "min", "(II)I"⟩
def RJ10 : String := "java/lang/System"
def RJ7 : String := "java/util/Arrays"
abbrev cJ7_fill_53178 : ByteArray := prog_22_method_103_code
def yJ7_fill_53178 : MethodName := ⟨RJ7, "fill", "([II)V"⟩
def RL : String := "StickRaceLaw"
abbrev cL_brook : ByteArray := method_3_code
def yL_brook : MethodName := ⟨RL, "brook", "(LStickRace;II[J)I"⟩
abbrev cL_law : ByteArray := code
def yL_law : MethodName := ⟨RL, "law", "([I)Z"⟩
abbrev vwCl : List vw_C := [(RX0, TX0, 5), (RX1, TX1, 3), (RX2, TX2, 10), (RX3, TX3, 3), (RX4, TX4, 9), (RX5, TX5, 4), (RX6, TX6, 3), (RX7, TX7, 3), (RX8, TX8, 2), (RX9, TX9, 4), (RX10, TX10, 3), (RX11, TX11, 20), (RX12, TX12, 60)]
