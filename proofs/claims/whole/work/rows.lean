section
-- ===== PART A: goes FIRST, ahead of the names: the tables' words, and 'selects' of the private methods out of them =====
/-- a private method of a class that the tables say can be made, by its rows of tables_1 -/
def lw_okq (q : MethodName × Nat) : Prop := (q.1.cls ≠ "java/lang/invoke/MethodHandle" ∧ q.1.cls ≠ "java/lang/invoke/VarHandle") ∧ Cond.instantiable q.1.cls q.2 ∈ tables_1 ∧ Cond.privateMethod q.1 ∈ tables_1 ∧ Cond.instanceMethod q.1 ∈ tables_1
theorem lw_p0 : lw_okq (⟨"CrateTour$CommandText", "skipSpaces", "()V"⟩, 6) := ⟨⟨by decide +kernel, by decide +kernel⟩, List.mem_of_getElem? (i := 372) (by decide +kernel), List.mem_of_getElem? (i := 449) (by decide +kernel), List.mem_of_getElem? (i := 450) (by decide +kernel)⟩
theorem lw_p1 : lw_okq (⟨"CrateTour$CommandText", "readWord", "()Z"⟩, 6) := ⟨⟨by decide +kernel, by decide +kernel⟩, List.mem_of_getElem? (i := 372) (by decide +kernel), List.mem_of_getElem? (i := 453) (by decide +kernel), List.mem_of_getElem? (i := 454) (by decide +kernel)⟩
theorem lw_p2 : lw_okq (⟨"CrateTour$CommandText", "isWordAt", "(Ljava/lang/String;I)Z"⟩, 6) := ⟨⟨by decide +kernel, by decide +kernel⟩, List.mem_of_getElem? (i := 372) (by decide +kernel), List.mem_of_getElem? (i := 459) (by decide +kernel), List.mem_of_getElem? (i := 460) (by decide +kernel)⟩
theorem lw_p3 : lw_okq (⟨"CrateTour$CommandText", "failAt", "(I)Z"⟩, 6) := ⟨⟨by decide +kernel, by decide +kernel⟩, List.mem_of_getElem? (i := 372) (by decide +kernel), List.mem_of_getElem? (i := 511) (by decide +kernel), List.mem_of_getElem? (i := 512) (by decide +kernel)⟩
theorem lw_p4 : lw_okq (⟨"CrateTour$CommandText", "readNumbers", "()Z"⟩, 6) := ⟨⟨by decide +kernel, by decide +kernel⟩, List.mem_of_getElem? (i := 372) (by decide +kernel), List.mem_of_getElem? (i := 515) (by decide +kernel), List.mem_of_getElem? (i := 516) (by decide +kernel)⟩
theorem lw_p5 : lw_okq (⟨"CrateTour$CommandText", "readNumber", "(I)Z"⟩, 6) := ⟨⟨by decide +kernel, by decide +kernel⟩, List.mem_of_getElem? (i := 372) (by decide +kernel), List.mem_of_getElem? (i := 519) (by decide +kernel), List.mem_of_getElem? (i := 520) (by decide +kernel)⟩
theorem lw_p6 : lw_okq (⟨"CrateTour$CommandText", "isAtDigit", "()Z"⟩, 6) := ⟨⟨by decide +kernel, by decide +kernel⟩, List.mem_of_getElem? (i := 372) (by decide +kernel), List.mem_of_getElem? (i := 523) (by decide +kernel), List.mem_of_getElem? (i := 524) (by decide +kernel)⟩
theorem lw_p7 : lw_okq (⟨"CrateTour$CommandText", "readSemicolon", "()Z"⟩, 6) := ⟨⟨by decide +kernel, by decide +kernel⟩, List.mem_of_getElem? (i := 372) (by decide +kernel), List.mem_of_getElem? (i := 527) (by decide +kernel), List.mem_of_getElem? (i := 528) (by decide +kernel)⟩
theorem lw_p8 : lw_okq (⟨"CrateTour$UndoStack", "dropOldest", "()V"⟩, 2) := ⟨⟨by decide +kernel, by decide +kernel⟩, List.mem_of_getElem? (i := 355) (by decide +kernel), List.mem_of_getElem? (i := 535) (by decide +kernel), List.mem_of_getElem? (i := 536) (by decide +kernel)⟩
theorem lw_p9 : lw_okq (⟨"CrateTour", "wrongWith", "(LCrateTour$Word;[I)I"⟩, 7) := ⟨⟨by decide +kernel, by decide +kernel⟩, List.mem_of_getElem? (i := 29) (by decide +kernel), List.mem_of_getElem? (i := 562) (by decide +kernel), List.mem_of_getElem? (i := 563) (by decide +kernel)⟩
theorem lw_p10 : lw_okq (⟨"CrateTour$Checks", "mayBeOpened", "(I)Z"⟩, 1) := ⟨⟨by decide +kernel, by decide +kernel⟩, List.mem_of_getElem? (i := 309) (by decide +kernel), List.mem_of_getElem? (i := 582) (by decide +kernel), List.mem_of_getElem? (i := 583) (by decide +kernel)⟩
theorem lw_p11 : lw_okq (⟨"CrateTour$Checks", "holdsOpenCrate", "(I)Z"⟩, 1) := ⟨⟨by decide +kernel, by decide +kernel⟩, List.mem_of_getElem? (i := 309) (by decide +kernel), List.mem_of_getElem? (i := 618) (by decide +kernel), List.mem_of_getElem? (i := 619) (by decide +kernel)⟩
theorem lw_p12 : lw_okq (⟨"CrateTour$Checks", "mayBeNested", "(II)Z"⟩, 1) := ⟨⟨by decide +kernel, by decide +kernel⟩, List.mem_of_getElem? (i := 309) (by decide +kernel), List.mem_of_getElem? (i := 626) (by decide +kernel), List.mem_of_getElem? (i := 627) (by decide +kernel)⟩
theorem lw_p13 : lw_okq (⟨"CrateTour$Checks", "reasonOfCrate", "(II)I"⟩, 1) := ⟨⟨by decide +kernel, by decide +kernel⟩, List.mem_of_getElem? (i := 309) (by decide +kernel), List.mem_of_getElem? (i := 670) (by decide +kernel), List.mem_of_getElem? (i := 671) (by decide +kernel)⟩
theorem lw_p14 : lw_okq (⟨"CrateTour$Checks", "reasonOfWorks", "(II)I"⟩, 1) := ⟨⟨by decide +kernel, by decide +kernel⟩, List.mem_of_getElem? (i := 309) (by decide +kernel), List.mem_of_getElem? (i := 678) (by decide +kernel), List.mem_of_getElem? (i := 679) (by decide +kernel)⟩
theorem lw_p15 : lw_okq (⟨"CrateTour$Checks", "isAboveCap", "(II)Z"⟩, 1) := ⟨⟨by decide +kernel, by decide +kernel⟩, List.mem_of_getElem? (i := 309) (by decide +kernel), List.mem_of_getElem? (i := 692) (by decide +kernel), List.mem_of_getElem? (i := 693) (by decide +kernel)⟩
def lw_privs_1 : List (MethodName × Nat) := [(⟨"CrateTour$CommandText", "skipSpaces", "()V"⟩, 6), (⟨"CrateTour$CommandText", "readWord", "()Z"⟩, 6), (⟨"CrateTour$CommandText", "isWordAt", "(Ljava/lang/String;I)Z"⟩, 6), (⟨"CrateTour$CommandText", "failAt", "(I)Z"⟩, 6), (⟨"CrateTour$CommandText", "readNumbers", "()Z"⟩, 6), (⟨"CrateTour$CommandText", "readNumber", "(I)Z"⟩, 6), (⟨"CrateTour$CommandText", "isAtDigit", "()Z"⟩, 6), (⟨"CrateTour$CommandText", "readSemicolon", "()Z"⟩, 6), (⟨"CrateTour$UndoStack", "dropOldest", "()V"⟩, 2), (⟨"CrateTour", "wrongWith", "(LCrateTour$Word;[I)I"⟩, 7), (⟨"CrateTour$Checks", "mayBeOpened", "(I)Z"⟩, 1), (⟨"CrateTour$Checks", "holdsOpenCrate", "(I)Z"⟩, 1), (⟨"CrateTour$Checks", "mayBeNested", "(II)Z"⟩, 1), (⟨"CrateTour$Checks", "reasonOfCrate", "(II)I"⟩, 1), (⟨"CrateTour$Checks", "reasonOfWorks", "(II)I"⟩, 1), (⟨"CrateTour$Checks", "isAboveCap", "(II)Z"⟩, 1)]
theorem lw_r1 : ∀ q ∈ lw_privs_1, lw_okq q := List.forall_mem_cons.mpr ⟨lw_p0, List.forall_mem_cons.mpr ⟨lw_p1, List.forall_mem_cons.mpr ⟨lw_p2, List.forall_mem_cons.mpr ⟨lw_p3, List.forall_mem_cons.mpr ⟨lw_p4, List.forall_mem_cons.mpr ⟨lw_p5, List.forall_mem_cons.mpr ⟨lw_p6, List.forall_mem_cons.mpr ⟨lw_p7, List.forall_mem_cons.mpr ⟨lw_p8, List.forall_mem_cons.mpr ⟨lw_p9, List.forall_mem_cons.mpr ⟨lw_p10, List.forall_mem_cons.mpr ⟨lw_p11, List.forall_mem_cons.mpr ⟨lw_p12, List.forall_mem_cons.mpr ⟨lw_p13, List.forall_mem_cons.mpr ⟨lw_p14, List.forall_mem_cons.mpr ⟨lw_p15, fun _ h => absurd h List.not_mem_nil⟩⟩⟩⟩⟩⟩⟩⟩⟩⟩⟩⟩⟩⟩⟩⟩
theorem lw_p16 : lw_okq (⟨"CrateTour$Checks", "reasonOfCourier", "(II)I"⟩, 1) := ⟨⟨by decide +kernel, by decide +kernel⟩, List.mem_of_getElem? (i := 309) (by decide +kernel), List.mem_of_getElem? (i := 717) (by decide +kernel), List.mem_of_getElem? (i := 718) (by decide +kernel)⟩
theorem lw_p17 : lw_okq (⟨"CrateTour$Checks", "needsCourier", "(I)Z"⟩, 1) := ⟨⟨by decide +kernel, by decide +kernel⟩, List.mem_of_getElem? (i := 309) (by decide +kernel), List.mem_of_getElem? (i := 722) (by decide +kernel), List.mem_of_getElem? (i := 723) (by decide +kernel)⟩
theorem lw_p18 : lw_okq (⟨"CrateTour", "perform", "(LCrateTour$Word;[I)I"⟩, 7) := ⟨⟨by decide +kernel, by decide +kernel⟩, List.mem_of_getElem? (i := 29) (by decide +kernel), List.mem_of_getElem? (i := 733) (by decide +kernel), List.mem_of_getElem? (i := 734) (by decide +kernel)⟩
theorem lw_p19 : lw_okq (⟨"CrateTour$Deeds", "passHour", "()V"⟩, 1) := ⟨⟨by decide +kernel, by decide +kernel⟩, List.mem_of_getElem? (i := 319) (by decide +kernel), List.mem_of_getElem? (i := 790) (by decide +kernel), List.mem_of_getElem? (i := 791) (by decide +kernel)⟩
theorem lw_p20 : lw_okq (⟨"CrateTour$Deeds", "arrive", "(I)V"⟩, 1) := ⟨⟨by decide +kernel, by decide +kernel⟩, List.mem_of_getElem? (i := 319) (by decide +kernel), List.mem_of_getElem? (i := 794) (by decide +kernel), List.mem_of_getElem? (i := 795) (by decide +kernel)⟩
theorem lw_p21 : lw_okq (⟨"CrateTour$Deeds", "endDay", "()V"⟩, 1) := ⟨⟨by decide +kernel, by decide +kernel⟩, List.mem_of_getElem? (i := 319) (by decide +kernel), List.mem_of_getElem? (i := 799) (by decide +kernel), List.mem_of_getElem? (i := 800) (by decide +kernel)⟩
theorem lw_p22 : lw_okq (⟨"CrateTour$Values", "worksOnTheirWay", "()I"⟩, 1) := ⟨⟨by decide +kernel, by decide +kernel⟩, List.mem_of_getElem? (i := 329) (by decide +kernel), List.mem_of_getElem? (i := 827) (by decide +kernel), List.mem_of_getElem? (i := 828) (by decide +kernel)⟩
theorem lw_p23 : lw_okq (⟨"CrateTour$Values", "openCrates", "()I"⟩, 1) := ⟨⟨by decide +kernel, by decide +kernel⟩, List.mem_of_getElem? (i := 329) (by decide +kernel), List.mem_of_getElem? (i := 832) (by decide +kernel), List.mem_of_getElem? (i := 833) (by decide +kernel)⟩
theorem lw_p24 : lw_okq (⟨"CrateTour", "withVenues", "(J)J"⟩, 7) := ⟨⟨by decide +kernel, by decide +kernel⟩, List.mem_of_getElem? (i := 29) (by decide +kernel), List.mem_of_getElem? (i := 836) (by decide +kernel), List.mem_of_getElem? (i := 837) (by decide +kernel)⟩
theorem lw_p25 : lw_okq (⟨"CrateTour$Values", "cratesAt", "(I)I"⟩, 1) := ⟨⟨by decide +kernel, by decide +kernel⟩, List.mem_of_getElem? (i := 329) (by decide +kernel), List.mem_of_getElem? (i := 846) (by decide +kernel), List.mem_of_getElem? (i := 847) (by decide +kernel)⟩
theorem lw_p26 : lw_okq (⟨"CrateTour$Values", "couriersAt", "(I)I"⟩, 1) := ⟨⟨by decide +kernel, by decide +kernel⟩, List.mem_of_getElem? (i := 329) (by decide +kernel), List.mem_of_getElem? (i := 850) (by decide +kernel), List.mem_of_getElem? (i := 851) (by decide +kernel)⟩
theorem lw_p27 : lw_okq (⟨"CrateTour", "withCrates", "(J)J"⟩, 7) := ⟨⟨by decide +kernel, by decide +kernel⟩, List.mem_of_getElem? (i := 29) (by decide +kernel), List.mem_of_getElem? (i := 854) (by decide +kernel), List.mem_of_getElem? (i := 855) (by decide +kernel)⟩
theorem lw_p28 : lw_okq (⟨"CrateTour$Values", "temperatureIn", "(LCrateTour$Crate;I)I"⟩, 1) := ⟨⟨by decide +kernel, by decide +kernel⟩, List.mem_of_getElem? (i := 329) (by decide +kernel), List.mem_of_getElem? (i := 866) (by decide +kernel), List.mem_of_getElem? (i := 867) (by decide +kernel)⟩
theorem lw_p29 : lw_okq (⟨"CrateTour$Values", "humidityIn", "(LCrateTour$Crate;I)I"⟩, 1) := ⟨⟨by decide +kernel, by decide +kernel⟩, List.mem_of_getElem? (i := 329) (by decide +kernel), List.mem_of_getElem? (i := 871) (by decide +kernel), List.mem_of_getElem? (i := 872) (by decide +kernel)⟩
theorem lw_p30 : lw_okq (⟨"CrateTour$Values", "hoursNeeded", "(LCrateTour$Crate;I)I"⟩, 1) := ⟨⟨by decide +kernel, by decide +kernel⟩, List.mem_of_getElem? (i := 329) (by decide +kernel), List.mem_of_getElem? (i := 875) (by decide +kernel), List.mem_of_getElem? (i := 876) (by decide +kernel)⟩
theorem lw_p31 : lw_okq (⟨"CrateTour$Forecast", "timeThrough", "(III)I"⟩, 3) := ⟨⟨by decide +kernel, by decide +kernel⟩, List.mem_of_getElem? (i := 339) (by decide +kernel), List.mem_of_getElem? (i := 898) (by decide +kernel), List.mem_of_getElem? (i := 899) (by decide +kernel)⟩
def lw_privs_2 : List (MethodName × Nat) := [(⟨"CrateTour$Checks", "reasonOfCourier", "(II)I"⟩, 1), (⟨"CrateTour$Checks", "needsCourier", "(I)Z"⟩, 1), (⟨"CrateTour", "perform", "(LCrateTour$Word;[I)I"⟩, 7), (⟨"CrateTour$Deeds", "passHour", "()V"⟩, 1), (⟨"CrateTour$Deeds", "arrive", "(I)V"⟩, 1), (⟨"CrateTour$Deeds", "endDay", "()V"⟩, 1), (⟨"CrateTour$Values", "worksOnTheirWay", "()I"⟩, 1), (⟨"CrateTour$Values", "openCrates", "()I"⟩, 1), (⟨"CrateTour", "withVenues", "(J)J"⟩, 7), (⟨"CrateTour$Values", "cratesAt", "(I)I"⟩, 1), (⟨"CrateTour$Values", "couriersAt", "(I)I"⟩, 1), (⟨"CrateTour", "withCrates", "(J)J"⟩, 7), (⟨"CrateTour$Values", "temperatureIn", "(LCrateTour$Crate;I)I"⟩, 1), (⟨"CrateTour$Values", "humidityIn", "(LCrateTour$Crate;I)I"⟩, 1), (⟨"CrateTour$Values", "hoursNeeded", "(LCrateTour$Crate;I)I"⟩, 1), (⟨"CrateTour$Forecast", "timeThrough", "(III)I"⟩, 3)]
theorem lw_r2 : ∀ q ∈ lw_privs_2, lw_okq q := List.forall_mem_cons.mpr ⟨lw_p16, List.forall_mem_cons.mpr ⟨lw_p17, List.forall_mem_cons.mpr ⟨lw_p18, List.forall_mem_cons.mpr ⟨lw_p19, List.forall_mem_cons.mpr ⟨lw_p20, List.forall_mem_cons.mpr ⟨lw_p21, List.forall_mem_cons.mpr ⟨lw_p22, List.forall_mem_cons.mpr ⟨lw_p23, List.forall_mem_cons.mpr ⟨lw_p24, List.forall_mem_cons.mpr ⟨lw_p25, List.forall_mem_cons.mpr ⟨lw_p26, List.forall_mem_cons.mpr ⟨lw_p27, List.forall_mem_cons.mpr ⟨lw_p28, List.forall_mem_cons.mpr ⟨lw_p29, List.forall_mem_cons.mpr ⟨lw_p30, List.forall_mem_cons.mpr ⟨lw_p31, fun _ h => absurd h List.not_mem_nil⟩⟩⟩⟩⟩⟩⟩⟩⟩⟩⟩⟩⟩⟩⟩⟩
theorem lw_p32 : lw_okq (⟨"CrateTour$Forecast", "listAround", "(I)I"⟩, 3) := ⟨⟨by decide +kernel, by decide +kernel⟩, List.mem_of_getElem? (i := 339) (by decide +kernel), List.mem_of_getElem? (i := 903) (by decide +kernel), List.mem_of_getElem? (i := 904) (by decide +kernel)⟩
theorem lw_p33 : lw_okq (⟨"CrateTour", "withWorks", "(J)J"⟩, 7) := ⟨⟨by decide +kernel, by decide +kernel⟩, List.mem_of_getElem? (i := 29) (by decide +kernel), List.mem_of_getElem? (i := 911) (by decide +kernel), List.mem_of_getElem? (i := 912) (by decide +kernel)⟩
theorem lw_p34 : lw_okq (⟨"java/lang/Throwable", "fillInStackTrace", "(I)Ljava/lang/Throwable;"⟩, 6) := ⟨⟨by decide +kernel, by decide +kernel⟩, List.mem_of_getElem? (i := 987) (by decide +kernel), List.mem_of_getElem? (i := 985) (by decide +kernel), List.mem_of_getElem? (i := 986) (by decide +kernel)⟩
theorem lw_p35 : lw_okq (⟨"CrateTour$Forecast", "timeIfSent", "(II)I"⟩, 3) := ⟨⟨by decide +kernel, by decide +kernel⟩, List.mem_of_getElem? (i := 339) (by decide +kernel), List.mem_of_getElem? (i := 1309) (by decide +kernel), List.mem_of_getElem? (i := 1310) (by decide +kernel)⟩
theorem lw_p36 : lw_okq (⟨"CrateTourModel", "keep", "()V"⟩, 11) := ⟨⟨by decide +kernel, by decide +kernel⟩, List.mem_of_getElem? (i := 1340) (by decide +kernel), List.mem_of_getElem? (i := 1395) (by decide +kernel), List.mem_of_getElem? (i := 1396) (by decide +kernel)⟩
theorem lw_p37 : lw_okq (⟨"CrateTourModel", "isVenue", "(I)Z"⟩, 11) := ⟨⟨by decide +kernel, by decide +kernel⟩, List.mem_of_getElem? (i := 1340) (by decide +kernel), List.mem_of_getElem? (i := 1403) (by decide +kernel), List.mem_of_getElem? (i := 1404) (by decide +kernel)⟩
theorem lw_p38 : lw_okq (⟨"CrateTourModel", "ofVenue", "(II)I"⟩, 11) := ⟨⟨by decide +kernel, by decide +kernel⟩, List.mem_of_getElem? (i := 1340) (by decide +kernel), List.mem_of_getElem? (i := 1411) (by decide +kernel), List.mem_of_getElem? (i := 1412) (by decide +kernel)⟩
theorem lw_p39 : lw_okq (⟨"CrateTourModel", "put", "(III)V"⟩, 11) := ⟨⟨by decide +kernel, by decide +kernel⟩, List.mem_of_getElem? (i := 1340) (by decide +kernel), List.mem_of_getElem? (i := 1434) (by decide +kernel), List.mem_of_getElem? (i := 1435) (by decide +kernel)⟩
theorem lw_p40 : lw_okq (⟨"CrateTourModel", "putWork", "(III)V"⟩, 11) := ⟨⟨by decide +kernel, by decide +kernel⟩, List.mem_of_getElem? (i := 1340) (by decide +kernel), List.mem_of_getElem? (i := 1443) (by decide +kernel), List.mem_of_getElem? (i := 1444) (by decide +kernel)⟩
theorem lw_p41 : lw_okq (⟨"CrateTourModel", "notOpen", "(I)I"⟩, 11) := ⟨⟨by decide +kernel, by decide +kernel⟩, List.mem_of_getElem? (i := 1340) (by decide +kernel), List.mem_of_getElem? (i := 1451) (by decide +kernel), List.mem_of_getElem? (i := 1452) (by decide +kernel)⟩
theorem lw_p42 : lw_okq (⟨"CrateTourModel", "isCrate", "(I)Z"⟩, 11) := ⟨⟨by decide +kernel, by decide +kernel⟩, List.mem_of_getElem? (i := 1340) (by decide +kernel), List.mem_of_getElem? (i := 1455) (by decide +kernel), List.mem_of_getElem? (i := 1456) (by decide +kernel)⟩
theorem lw_p43 : lw_okq (⟨"CrateTourModel", "isOpen", "(I)Z"⟩, 11) := ⟨⟨by decide +kernel, by decide +kernel⟩, List.mem_of_getElem? (i := 1340) (by decide +kernel), List.mem_of_getElem? (i := 1459) (by decide +kernel), List.mem_of_getElem? (i := 1460) (by decide +kernel)⟩
theorem lw_p44 : lw_okq (⟨"CrateTourModel", "of", "(II)I"⟩, 11) := ⟨⟨by decide +kernel, by decide +kernel⟩, List.mem_of_getElem? (i := 1340) (by decide +kernel), List.mem_of_getElem? (i := 1463) (by decide +kernel), List.mem_of_getElem? (i := 1464) (by decide +kernel)⟩
theorem lw_p45 : lw_okq (⟨"CrateTourModel", "isReached", "(I)Z"⟩, 11) := ⟨⟨by decide +kernel, by decide +kernel⟩, List.mem_of_getElem? (i := 1340) (by decide +kernel), List.mem_of_getElem? (i := 1467) (by decide +kernel), List.mem_of_getElem? (i := 1468) (by decide +kernel)⟩
theorem lw_p46 : lw_okq (⟨"CrateTourModel", "venueOf", "(I)I"⟩, 11) := ⟨⟨by decide +kernel, by decide +kernel⟩, List.mem_of_getElem? (i := 1340) (by decide +kernel), List.mem_of_getElem? (i := 1471) (by decide +kernel), List.mem_of_getElem? (i := 1472) (by decide +kernel)⟩
theorem lw_p47 : lw_okq (⟨"CrateTourModel", "outermost", "(I)I"⟩, 11) := ⟨⟨by decide +kernel, by decide +kernel⟩, List.mem_of_getElem? (i := 1340) (by decide +kernel), List.mem_of_getElem? (i := 1475) (by decide +kernel), List.mem_of_getElem? (i := 1476) (by decide +kernel)⟩
def lw_privs_3 : List (MethodName × Nat) := [(⟨"CrateTour$Forecast", "listAround", "(I)I"⟩, 3), (⟨"CrateTour", "withWorks", "(J)J"⟩, 7), (⟨"java/lang/Throwable", "fillInStackTrace", "(I)Ljava/lang/Throwable;"⟩, 6), (⟨"CrateTour$Forecast", "timeIfSent", "(II)I"⟩, 3), (⟨"CrateTourModel", "keep", "()V"⟩, 11), (⟨"CrateTourModel", "isVenue", "(I)Z"⟩, 11), (⟨"CrateTourModel", "ofVenue", "(II)I"⟩, 11), (⟨"CrateTourModel", "put", "(III)V"⟩, 11), (⟨"CrateTourModel", "putWork", "(III)V"⟩, 11), (⟨"CrateTourModel", "notOpen", "(I)I"⟩, 11), (⟨"CrateTourModel", "isCrate", "(I)Z"⟩, 11), (⟨"CrateTourModel", "isOpen", "(I)Z"⟩, 11), (⟨"CrateTourModel", "of", "(II)I"⟩, 11), (⟨"CrateTourModel", "isReached", "(I)Z"⟩, 11), (⟨"CrateTourModel", "venueOf", "(I)I"⟩, 11), (⟨"CrateTourModel", "outermost", "(I)I"⟩, 11)]
theorem lw_r3 : ∀ q ∈ lw_privs_3, lw_okq q := List.forall_mem_cons.mpr ⟨lw_p32, List.forall_mem_cons.mpr ⟨lw_p33, List.forall_mem_cons.mpr ⟨lw_p34, List.forall_mem_cons.mpr ⟨lw_p35, List.forall_mem_cons.mpr ⟨lw_p36, List.forall_mem_cons.mpr ⟨lw_p37, List.forall_mem_cons.mpr ⟨lw_p38, List.forall_mem_cons.mpr ⟨lw_p39, List.forall_mem_cons.mpr ⟨lw_p40, List.forall_mem_cons.mpr ⟨lw_p41, List.forall_mem_cons.mpr ⟨lw_p42, List.forall_mem_cons.mpr ⟨lw_p43, List.forall_mem_cons.mpr ⟨lw_p44, List.forall_mem_cons.mpr ⟨lw_p45, List.forall_mem_cons.mpr ⟨lw_p46, List.forall_mem_cons.mpr ⟨lw_p47, fun _ h => absurd h List.not_mem_nil⟩⟩⟩⟩⟩⟩⟩⟩⟩⟩⟩⟩⟩⟩⟩⟩
theorem lw_p48 : lw_okq (⟨"CrateTourModel", "needs", "(II)I"⟩, 11) := ⟨⟨by decide +kernel, by decide +kernel⟩, List.mem_of_getElem? (i := 1340) (by decide +kernel), List.mem_of_getElem? (i := 1479) (by decide +kernel), List.mem_of_getElem? (i := 1480) (by decide +kernel)⟩
theorem lw_p49 : lw_okq (⟨"CrateTourModel", "opens", "(I)I"⟩, 11) := ⟨⟨by decide +kernel, by decide +kernel⟩, List.mem_of_getElem? (i := 1340) (by decide +kernel), List.mem_of_getElem? (i := 1486) (by decide +kernel), List.mem_of_getElem? (i := 1487) (by decide +kernel)⟩
theorem lw_p50 : lw_okq (⟨"CrateTourModel", "directWorks", "(I)I"⟩, 11) := ⟨⟨by decide +kernel, by decide +kernel⟩, List.mem_of_getElem? (i := 1340) (by decide +kernel), List.mem_of_getElem? (i := 1490) (by decide +kernel), List.mem_of_getElem? (i := 1491) (by decide +kernel)⟩
theorem lw_p51 : lw_okq (⟨"CrateTourModel", "ofWork", "(II)I"⟩, 11) := ⟨⟨by decide +kernel, by decide +kernel⟩, List.mem_of_getElem? (i := 1340) (by decide +kernel), List.mem_of_getElem? (i := 1494) (by decide +kernel), List.mem_of_getElem? (i := 1495) (by decide +kernel)⟩
theorem lw_p52 : lw_okq (⟨"CrateTourModel", "notClose", "(I)I"⟩, 11) := ⟨⟨by decide +kernel, by decide +kernel⟩, List.mem_of_getElem? (i := 1340) (by decide +kernel), List.mem_of_getElem? (i := 1502) (by decide +kernel), List.mem_of_getElem? (i := 1503) (by decide +kernel)⟩
theorem lw_p53 : lw_okq (⟨"CrateTourModel", "closes", "(I)I"⟩, 11) := ⟨⟨by decide +kernel, by decide +kernel⟩, List.mem_of_getElem? (i := 1340) (by decide +kernel), List.mem_of_getElem? (i := 1506) (by decide +kernel), List.mem_of_getElem? (i := 1507) (by decide +kernel)⟩
theorem lw_p54 : lw_okq (⟨"CrateTourModel", "worksIn", "(II)I"⟩, 11) := ⟨⟨by decide +kernel, by decide +kernel⟩, List.mem_of_getElem? (i := 1340) (by decide +kernel), List.mem_of_getElem? (i := 1510) (by decide +kernel), List.mem_of_getElem? (i := 1511) (by decide +kernel)⟩
theorem lw_p55 : lw_okq (⟨"CrateTourModel", "isWithin", "(II)Z"⟩, 11) := ⟨⟨by decide +kernel, by decide +kernel⟩, List.mem_of_getElem? (i := 1340) (by decide +kernel), List.mem_of_getElem? (i := 1514) (by decide +kernel), List.mem_of_getElem? (i := 1515) (by decide +kernel)⟩
theorem lw_p56 : lw_okq (⟨"CrateTourModel", "notNest", "(II)I"⟩, 11) := ⟨⟨by decide +kernel, by decide +kernel⟩, List.mem_of_getElem? (i := 1340) (by decide +kernel), List.mem_of_getElem? (i := 1522) (by decide +kernel), List.mem_of_getElem? (i := 1523) (by decide +kernel)⟩
theorem lw_p57 : lw_okq (⟨"CrateTourModel", "isForUse", "(II)Z"⟩, 11) := ⟨⟨by decide +kernel, by decide +kernel⟩, List.mem_of_getElem? (i := 1340) (by decide +kernel), List.mem_of_getElem? (i := 1526) (by decide +kernel), List.mem_of_getElem? (i := 1527) (by decide +kernel)⟩
theorem lw_p58 : lw_okq (⟨"CrateTourModel", "nests", "(II)I"⟩, 11) := ⟨⟨by decide +kernel, by decide +kernel⟩, List.mem_of_getElem? (i := 1340) (by decide +kernel), List.mem_of_getElem? (i := 1530) (by decide +kernel), List.mem_of_getElem? (i := 1531) (by decide +kernel)⟩
theorem lw_p59 : lw_okq (⟨"CrateTourModel", "directCrates", "(I)I"⟩, 11) := ⟨⟨by decide +kernel, by decide +kernel⟩, List.mem_of_getElem? (i := 1340) (by decide +kernel), List.mem_of_getElem? (i := 1534) (by decide +kernel), List.mem_of_getElem? (i := 1535) (by decide +kernel)⟩
theorem lw_p60 : lw_okq (⟨"CrateTourModel", "notTakeOut", "(I)I"⟩, 11) := ⟨⟨by decide +kernel, by decide +kernel⟩, List.mem_of_getElem? (i := 1340) (by decide +kernel), List.mem_of_getElem? (i := 1542) (by decide +kernel), List.mem_of_getElem? (i := 1543) (by decide +kernel)⟩
theorem lw_p61 : lw_okq (⟨"CrateTourModel", "takesOut", "(I)I"⟩, 11) := ⟨⟨by decide +kernel, by decide +kernel⟩, List.mem_of_getElem? (i := 1340) (by decide +kernel), List.mem_of_getElem? (i := 1546) (by decide +kernel), List.mem_of_getElem? (i := 1547) (by decide +kernel)⟩
theorem lw_p62 : lw_okq (⟨"CrateTourModel", "notPack", "(II)I"⟩, 11) := ⟨⟨by decide +kernel, by decide +kernel⟩, List.mem_of_getElem? (i := 1340) (by decide +kernel), List.mem_of_getElem? (i := 1554) (by decide +kernel), List.mem_of_getElem? (i := 1555) (by decide +kernel)⟩
theorem lw_p63 : lw_okq (⟨"CrateTourModel", "isWork", "(I)Z"⟩, 11) := ⟨⟨by decide +kernel, by decide +kernel⟩, List.mem_of_getElem? (i := 1340) (by decide +kernel), List.mem_of_getElem? (i := 1558) (by decide +kernel), List.mem_of_getElem? (i := 1559) (by decide +kernel)⟩
def lw_privs_4 : List (MethodName × Nat) := [(⟨"CrateTourModel", "needs", "(II)I"⟩, 11), (⟨"CrateTourModel", "opens", "(I)I"⟩, 11), (⟨"CrateTourModel", "directWorks", "(I)I"⟩, 11), (⟨"CrateTourModel", "ofWork", "(II)I"⟩, 11), (⟨"CrateTourModel", "notClose", "(I)I"⟩, 11), (⟨"CrateTourModel", "closes", "(I)I"⟩, 11), (⟨"CrateTourModel", "worksIn", "(II)I"⟩, 11), (⟨"CrateTourModel", "isWithin", "(II)Z"⟩, 11), (⟨"CrateTourModel", "notNest", "(II)I"⟩, 11), (⟨"CrateTourModel", "isForUse", "(II)Z"⟩, 11), (⟨"CrateTourModel", "nests", "(II)I"⟩, 11), (⟨"CrateTourModel", "directCrates", "(I)I"⟩, 11), (⟨"CrateTourModel", "notTakeOut", "(I)I"⟩, 11), (⟨"CrateTourModel", "takesOut", "(I)I"⟩, 11), (⟨"CrateTourModel", "notPack", "(II)I"⟩, 11), (⟨"CrateTourModel", "isWork", "(I)Z"⟩, 11)]
theorem lw_r4 : ∀ q ∈ lw_privs_4, lw_okq q := List.forall_mem_cons.mpr ⟨lw_p48, List.forall_mem_cons.mpr ⟨lw_p49, List.forall_mem_cons.mpr ⟨lw_p50, List.forall_mem_cons.mpr ⟨lw_p51, List.forall_mem_cons.mpr ⟨lw_p52, List.forall_mem_cons.mpr ⟨lw_p53, List.forall_mem_cons.mpr ⟨lw_p54, List.forall_mem_cons.mpr ⟨lw_p55, List.forall_mem_cons.mpr ⟨lw_p56, List.forall_mem_cons.mpr ⟨lw_p57, List.forall_mem_cons.mpr ⟨lw_p58, List.forall_mem_cons.mpr ⟨lw_p59, List.forall_mem_cons.mpr ⟨lw_p60, List.forall_mem_cons.mpr ⟨lw_p61, List.forall_mem_cons.mpr ⟨lw_p62, List.forall_mem_cons.mpr ⟨lw_p63, fun _ h => absurd h List.not_mem_nil⟩⟩⟩⟩⟩⟩⟩⟩⟩⟩⟩⟩⟩⟩⟩⟩
theorem lw_p64 : lw_okq (⟨"CrateTourModel", "packs", "(II)I"⟩, 11) := ⟨⟨by decide +kernel, by decide +kernel⟩, List.mem_of_getElem? (i := 1340) (by decide +kernel), List.mem_of_getElem? (i := 1562) (by decide +kernel), List.mem_of_getElem? (i := 1563) (by decide +kernel)⟩
theorem lw_p65 : lw_okq (⟨"CrateTourModel", "notUnpack", "(I)I"⟩, 11) := ⟨⟨by decide +kernel, by decide +kernel⟩, List.mem_of_getElem? (i := 1340) (by decide +kernel), List.mem_of_getElem? (i := 1570) (by decide +kernel), List.mem_of_getElem? (i := 1571) (by decide +kernel)⟩
theorem lw_p66 : lw_okq (⟨"CrateTourModel", "unpacks", "(I)I"⟩, 11) := ⟨⟨by decide +kernel, by decide +kernel⟩, List.mem_of_getElem? (i := 1340) (by decide +kernel), List.mem_of_getElem? (i := 1574) (by decide +kernel), List.mem_of_getElem? (i := 1575) (by decide +kernel)⟩
theorem lw_p67 : lw_okq (⟨"CrateTourModel", "notSend", "(III)I"⟩, 11) := ⟨⟨by decide +kernel, by decide +kernel⟩, List.mem_of_getElem? (i := 1340) (by decide +kernel), List.mem_of_getElem? (i := 1582) (by decide +kernel), List.mem_of_getElem? (i := 1583) (by decide +kernel)⟩
theorem lw_p68 : lw_okq (⟨"CrateTourModel", "isSending", "(III)Z"⟩, 11) := ⟨⟨by decide +kernel, by decide +kernel⟩, List.mem_of_getElem? (i := 1340) (by decide +kernel), List.mem_of_getElem? (i := 1586) (by decide +kernel), List.mem_of_getElem? (i := 1587) (by decide +kernel)⟩
theorem lw_p69 : lw_okq (⟨"CrateTourModel", "isCourier", "(I)Z"⟩, 11) := ⟨⟨by decide +kernel, by decide +kernel⟩, List.mem_of_getElem? (i := 1340) (by decide +kernel), List.mem_of_getElem? (i := 1590) (by decide +kernel), List.mem_of_getElem? (i := 1591) (by decide +kernel)⟩
theorem lw_p70 : lw_okq (⟨"CrateTourModel", "reason", "(III)I"⟩, 11) := ⟨⟨by decide +kernel, by decide +kernel⟩, List.mem_of_getElem? (i := 1340) (by decide +kernel), List.mem_of_getElem? (i := 1594) (by decide +kernel), List.mem_of_getElem? (i := 1595) (by decide +kernel)⟩
theorem lw_p71 : lw_okq (⟨"CrateTourModel", "worksRefuse", "(II)I"⟩, 11) := ⟨⟨by decide +kernel, by decide +kernel⟩, List.mem_of_getElem? (i := 1340) (by decide +kernel), List.mem_of_getElem? (i := 1598) (by decide +kernel), List.mem_of_getElem? (i := 1599) (by decide +kernel)⟩
theorem lw_p72 : lw_okq (⟨"CrateTourModel", "lenderRefuses", "(II)I"⟩, 11) := ⟨⟨by decide +kernel, by decide +kernel⟩, List.mem_of_getElem? (i := 1340) (by decide +kernel), List.mem_of_getElem? (i := 1602) (by decide +kernel), List.mem_of_getElem? (i := 1603) (by decide +kernel)⟩
theorem lw_p73 : lw_okq (⟨"CrateTourModel", "valuesFor", "(II)J"⟩, 11) := ⟨⟨by decide +kernel, by decide +kernel⟩, List.mem_of_getElem? (i := 1340) (by decide +kernel), List.mem_of_getElem? (i := 1606) (by decide +kernel), List.mem_of_getElem? (i := 1607) (by decide +kernel)⟩
theorem lw_p74 : lw_okq (⟨"CrateTourModel", "standsIn", "(I)I"⟩, 11) := ⟨⟨by decide +kernel, by decide +kernel⟩, List.mem_of_getElem? (i := 1340) (by decide +kernel), List.mem_of_getElem? (i := 1610) (by decide +kernel), List.mem_of_getElem? (i := 1611) (by decide +kernel)⟩
theorem lw_p75 : lw_okq (⟨"CrateTourModel", "goesTo", "(I)I"⟩, 11) := ⟨⟨by decide +kernel, by decide +kernel⟩, List.mem_of_getElem? (i := 1340) (by decide +kernel), List.mem_of_getElem? (i := 1614) (by decide +kernel), List.mem_of_getElem? (i := 1615) (by decide +kernel)⟩
theorem lw_p76 : lw_okq (⟨"CrateTourModel", "isEscorted", "(I)Z"⟩, 11) := ⟨⟨by decide +kernel, by decide +kernel⟩, List.mem_of_getElem? (i := 1340) (by decide +kernel), List.mem_of_getElem? (i := 1618) (by decide +kernel), List.mem_of_getElem? (i := 1619) (by decide +kernel)⟩
theorem lw_p77 : lw_okq (⟨"CrateTourModel", "sends", "(III)I"⟩, 11) := ⟨⟨by decide +kernel, by decide +kernel⟩, List.mem_of_getElem? (i := 1340) (by decide +kernel), List.mem_of_getElem? (i := 1622) (by decide +kernel), List.mem_of_getElem? (i := 1623) (by decide +kernel)⟩
theorem lw_p78 : lw_okq (⟨"CrateTourModel", "advances", "(I)I"⟩, 11) := ⟨⟨by decide +kernel, by decide +kernel⟩, List.mem_of_getElem? (i := 1340) (by decide +kernel), List.mem_of_getElem? (i := 1633) (by decide +kernel), List.mem_of_getElem? (i := 1634) (by decide +kernel)⟩
theorem lw_p79 : lw_okq (⟨"CrateTourModel", "hour", "()I"⟩, 11) := ⟨⟨by decide +kernel, by decide +kernel⟩, List.mem_of_getElem? (i := 1340) (by decide +kernel), List.mem_of_getElem? (i := 1637) (by decide +kernel), List.mem_of_getElem? (i := 1638) (by decide +kernel)⟩
def lw_privs_5 : List (MethodName × Nat) := [(⟨"CrateTourModel", "packs", "(II)I"⟩, 11), (⟨"CrateTourModel", "notUnpack", "(I)I"⟩, 11), (⟨"CrateTourModel", "unpacks", "(I)I"⟩, 11), (⟨"CrateTourModel", "notSend", "(III)I"⟩, 11), (⟨"CrateTourModel", "isSending", "(III)Z"⟩, 11), (⟨"CrateTourModel", "isCourier", "(I)Z"⟩, 11), (⟨"CrateTourModel", "reason", "(III)I"⟩, 11), (⟨"CrateTourModel", "worksRefuse", "(II)I"⟩, 11), (⟨"CrateTourModel", "lenderRefuses", "(II)I"⟩, 11), (⟨"CrateTourModel", "valuesFor", "(II)J"⟩, 11), (⟨"CrateTourModel", "standsIn", "(I)I"⟩, 11), (⟨"CrateTourModel", "goesTo", "(I)I"⟩, 11), (⟨"CrateTourModel", "isEscorted", "(I)Z"⟩, 11), (⟨"CrateTourModel", "sends", "(III)I"⟩, 11), (⟨"CrateTourModel", "advances", "(I)I"⟩, 11), (⟨"CrateTourModel", "hour", "()I"⟩, 11)]
theorem lw_r5 : ∀ q ∈ lw_privs_5, lw_okq q := List.forall_mem_cons.mpr ⟨lw_p64, List.forall_mem_cons.mpr ⟨lw_p65, List.forall_mem_cons.mpr ⟨lw_p66, List.forall_mem_cons.mpr ⟨lw_p67, List.forall_mem_cons.mpr ⟨lw_p68, List.forall_mem_cons.mpr ⟨lw_p69, List.forall_mem_cons.mpr ⟨lw_p70, List.forall_mem_cons.mpr ⟨lw_p71, List.forall_mem_cons.mpr ⟨lw_p72, List.forall_mem_cons.mpr ⟨lw_p73, List.forall_mem_cons.mpr ⟨lw_p74, List.forall_mem_cons.mpr ⟨lw_p75, List.forall_mem_cons.mpr ⟨lw_p76, List.forall_mem_cons.mpr ⟨lw_p77, List.forall_mem_cons.mpr ⟨lw_p78, List.forall_mem_cons.mpr ⟨lw_p79, fun _ h => absurd h List.not_mem_nil⟩⟩⟩⟩⟩⟩⟩⟩⟩⟩⟩⟩⟩⟩⟩⟩
theorem lw_p80 : lw_okq (⟨"CrateTourModel", "arrives", "(I)V"⟩, 11) := ⟨⟨by decide +kernel, by decide +kernel⟩, List.mem_of_getElem? (i := 1340) (by decide +kernel), List.mem_of_getElem? (i := 1641) (by decide +kernel), List.mem_of_getElem? (i := 1642) (by decide +kernel)⟩
theorem lw_p81 : lw_okq (⟨"CrateTourModel", "pays", "(I)V"⟩, 11) := ⟨⟨by decide +kernel, by decide +kernel⟩, List.mem_of_getElem? (i := 1340) (by decide +kernel), List.mem_of_getElem? (i := 1645) (by decide +kernel), List.mem_of_getElem? (i := 1646) (by decide +kernel)⟩
theorem lw_p82 : lw_okq (⟨"CrateTourModel", "note", "(II)V"⟩, 11) := ⟨⟨by decide +kernel, by decide +kernel⟩, List.mem_of_getElem? (i := 1340) (by decide +kernel), List.mem_of_getElem? (i := 1650) (by decide +kernel), List.mem_of_getElem? (i := 1651) (by decide +kernel)⟩
theorem lw_p83 : lw_okq (⟨"CrateTourModel", "crateOf", "(II)I"⟩, 11) := ⟨⟨by decide +kernel, by decide +kernel⟩, List.mem_of_getElem? (i := 1340) (by decide +kernel), List.mem_of_getElem? (i := 1662) (by decide +kernel), List.mem_of_getElem? (i := 1663) (by decide +kernel)⟩
theorem lw_p84 : lw_okq (⟨"CrateTourModel", "cratesBelow", "(I)I"⟩, 11) := ⟨⟨by decide +kernel, by decide +kernel⟩, List.mem_of_getElem? (i := 1340) (by decide +kernel), List.mem_of_getElem? (i := 1666) (by decide +kernel), List.mem_of_getElem? (i := 1667) (by decide +kernel)⟩
theorem lw_p85 : lw_okq (⟨"CrateTourModel", "workOf", "(II)I"⟩, 11) := ⟨⟨by decide +kernel, by decide +kernel⟩, List.mem_of_getElem? (i := 1340) (by decide +kernel), List.mem_of_getElem? (i := 1674) (by decide +kernel), List.mem_of_getElem? (i := 1675) (by decide +kernel)⟩
theorem lw_p86 : lw_okq (⟨"CrateTourModel", "around", "(I)I"⟩, 11) := ⟨⟨by decide +kernel, by decide +kernel⟩, List.mem_of_getElem? (i := 1340) (by decide +kernel), List.mem_of_getElem? (i := 1678) (by decide +kernel), List.mem_of_getElem? (i := 1679) (by decide +kernel)⟩
theorem lw_p87 : lw_okq (⟨"CrateTourModel", "notedOf", "(II)I"⟩, 11) := ⟨⟨by decide +kernel, by decide +kernel⟩, List.mem_of_getElem? (i := 1340) (by decide +kernel), List.mem_of_getElem? (i := 1686) (by decide +kernel), List.mem_of_getElem? (i := 1687) (by decide +kernel)⟩
theorem lw_p88 : lw_okq (⟨"CrateTourModel", "venueOfWhat", "(II)I"⟩, 11) := ⟨⟨by decide +kernel, by decide +kernel⟩, List.mem_of_getElem? (i := 1340) (by decide +kernel), List.mem_of_getElem? (i := 1694) (by decide +kernel), List.mem_of_getElem? (i := 1695) (by decide +kernel)⟩
theorem lw_p89 : lw_okq (⟨"CrateTourModel", "valuesAt", "(IZ)I"⟩, 11) := ⟨⟨by decide +kernel, by decide +kernel⟩, List.mem_of_getElem? (i := 1340) (by decide +kernel), List.mem_of_getElem? (i := 1698) (by decide +kernel), List.mem_of_getElem? (i := 1699) (by decide +kernel)⟩
theorem lw_p90 : lw_okq (⟨"CrateTourModel", "cratesAt", "(I)I"⟩, 11) := ⟨⟨by decide +kernel, by decide +kernel⟩, List.mem_of_getElem? (i := 1340) (by decide +kernel), List.mem_of_getElem? (i := 1702) (by decide +kernel), List.mem_of_getElem? (i := 1703) (by decide +kernel)⟩
theorem lw_p91 : lw_okq (⟨"CrateTourModel", "couriersAt", "(I)I"⟩, 11) := ⟨⟨by decide +kernel, by decide +kernel⟩, List.mem_of_getElem? (i := 1340) (by decide +kernel), List.mem_of_getElem? (i := 1706) (by decide +kernel), List.mem_of_getElem? (i := 1707) (by decide +kernel)⟩
theorem lw_p92 : lw_okq (⟨"CrateTourModel", "wholeOf", "(I)I"⟩, 11) := ⟨⟨by decide +kernel, by decide +kernel⟩, List.mem_of_getElem? (i := 1340) (by decide +kernel), List.mem_of_getElem? (i := 1718) (by decide +kernel), List.mem_of_getElem? (i := 1719) (by decide +kernel)⟩
theorem lw_p93 : lw_okq (⟨"CrateTourModel", "onTheirWay", "()I"⟩, 11) := ⟨⟨by decide +kernel, by decide +kernel⟩, List.mem_of_getElem? (i := 1340) (by decide +kernel), List.mem_of_getElem? (i := 1722) (by decide +kernel), List.mem_of_getElem? (i := 1723) (by decide +kernel)⟩
theorem lw_p94 : lw_okq (⟨"CrateTourModel", "openCrates", "()I"⟩, 11) := ⟨⟨by decide +kernel, by decide +kernel⟩, List.mem_of_getElem? (i := 1340) (by decide +kernel), List.mem_of_getElem? (i := 1726) (by decide +kernel), List.mem_of_getElem? (i := 1727) (by decide +kernel)⟩
theorem lw_p95 : lw_okq (⟨"CrateTourModel", "ready", "(I)I"⟩, 11) := ⟨⟨by decide +kernel, by decide +kernel⟩, List.mem_of_getElem? (i := 1340) (by decide +kernel), List.mem_of_getElem? (i := 1734) (by decide +kernel), List.mem_of_getElem? (i := 1735) (by decide +kernel)⟩
def lw_privs_6 : List (MethodName × Nat) := [(⟨"CrateTourModel", "arrives", "(I)V"⟩, 11), (⟨"CrateTourModel", "pays", "(I)V"⟩, 11), (⟨"CrateTourModel", "note", "(II)V"⟩, 11), (⟨"CrateTourModel", "crateOf", "(II)I"⟩, 11), (⟨"CrateTourModel", "cratesBelow", "(I)I"⟩, 11), (⟨"CrateTourModel", "workOf", "(II)I"⟩, 11), (⟨"CrateTourModel", "around", "(I)I"⟩, 11), (⟨"CrateTourModel", "notedOf", "(II)I"⟩, 11), (⟨"CrateTourModel", "venueOfWhat", "(II)I"⟩, 11), (⟨"CrateTourModel", "valuesAt", "(IZ)I"⟩, 11), (⟨"CrateTourModel", "cratesAt", "(I)I"⟩, 11), (⟨"CrateTourModel", "couriersAt", "(I)I"⟩, 11), (⟨"CrateTourModel", "wholeOf", "(I)I"⟩, 11), (⟨"CrateTourModel", "onTheirWay", "()I"⟩, 11), (⟨"CrateTourModel", "openCrates", "()I"⟩, 11), (⟨"CrateTourModel", "ready", "(I)I"⟩, 11)]
theorem lw_r6 : ∀ q ∈ lw_privs_6, lw_okq q := List.forall_mem_cons.mpr ⟨lw_p80, List.forall_mem_cons.mpr ⟨lw_p81, List.forall_mem_cons.mpr ⟨lw_p82, List.forall_mem_cons.mpr ⟨lw_p83, List.forall_mem_cons.mpr ⟨lw_p84, List.forall_mem_cons.mpr ⟨lw_p85, List.forall_mem_cons.mpr ⟨lw_p86, List.forall_mem_cons.mpr ⟨lw_p87, List.forall_mem_cons.mpr ⟨lw_p88, List.forall_mem_cons.mpr ⟨lw_p89, List.forall_mem_cons.mpr ⟨lw_p90, List.forall_mem_cons.mpr ⟨lw_p91, List.forall_mem_cons.mpr ⟨lw_p92, List.forall_mem_cons.mpr ⟨lw_p93, List.forall_mem_cons.mpr ⟨lw_p94, List.forall_mem_cons.mpr ⟨lw_p95, fun _ h => absurd h List.not_mem_nil⟩⟩⟩⟩⟩⟩⟩⟩⟩⟩⟩⟩⟩⟩⟩⟩
theorem lw_p96 : lw_okq (⟨"CrateTourModel", "allReady", "(I)I"⟩, 11) := ⟨⟨by decide +kernel, by decide +kernel⟩, List.mem_of_getElem? (i := 1340) (by decide +kernel), List.mem_of_getElem? (i := 1745) (by decide +kernel), List.mem_of_getElem? (i := 1746) (by decide +kernel)⟩
theorem lw_p97 : lw_okq (⟨"CrateTourModel", "readyBy", "(II)I"⟩, 11) := ⟨⟨by decide +kernel, by decide +kernel⟩, List.mem_of_getElem? (i := 1340) (by decide +kernel), List.mem_of_getElem? (i := 1753) (by decide +kernel), List.mem_of_getElem? (i := 1754) (by decide +kernel)⟩
theorem lw_p98 : lw_okq (⟨"CrateTourModel", "isGood", "()Z"⟩, 11) := ⟨⟨by decide +kernel, by decide +kernel⟩, List.mem_of_getElem? (i := 1340) (by decide +kernel), List.mem_of_getElem? (i := 1769) (by decide +kernel), List.mem_of_getElem? (i := 1770) (by decide +kernel)⟩
theorem lw_p99 : lw_okq (⟨"CrateTourModel", "skips", "()Z"⟩, 11) := ⟨⟨by decide +kernel, by decide +kernel⟩, List.mem_of_getElem? (i := 1340) (by decide +kernel), List.mem_of_getElem? (i := 1773) (by decide +kernel), List.mem_of_getElem? (i := 1774) (by decide +kernel)⟩
theorem lw_p100 : lw_okq (⟨"CrateTourModel", "here", "()I"⟩, 11) := ⟨⟨by decide +kernel, by decide +kernel⟩, List.mem_of_getElem? (i := 1340) (by decide +kernel), List.mem_of_getElem? (i := 1777) (by decide +kernel), List.mem_of_getElem? (i := 1778) (by decide +kernel)⟩
theorem lw_p101 : lw_okq (⟨"CrateTourModel", "readCommand", "()Z"⟩, 11) := ⟨⟨by decide +kernel, by decide +kernel⟩, List.mem_of_getElem? (i := 1340) (by decide +kernel), List.mem_of_getElem? (i := 1781) (by decide +kernel), List.mem_of_getElem? (i := 1782) (by decide +kernel)⟩
theorem lw_p102 : lw_okq (⟨"CrateTourModel", "readWord", "()Z"⟩, 11) := ⟨⟨by decide +kernel, by decide +kernel⟩, List.mem_of_getElem? (i := 1340) (by decide +kernel), List.mem_of_getElem? (i := 1785) (by decide +kernel), List.mem_of_getElem? (i := 1786) (by decide +kernel)⟩
theorem lw_p103 : lw_okq (⟨"CrateTourModel", "manyFor", "()I"⟩, 11) := ⟨⟨by decide +kernel, by decide +kernel⟩, List.mem_of_getElem? (i := 1340) (by decide +kernel), List.mem_of_getElem? (i := 1804) (by decide +kernel), List.mem_of_getElem? (i := 1805) (by decide +kernel)⟩
theorem lw_p104 : lw_okq (⟨"CrateTourModel", "readNumber", "(I)Z"⟩, 11) := ⟨⟨by decide +kernel, by decide +kernel⟩, List.mem_of_getElem? (i := 1340) (by decide +kernel), List.mem_of_getElem? (i := 1808) (by decide +kernel), List.mem_of_getElem? (i := 1809) (by decide +kernel)⟩
theorem lw_p105 : lw_okq (⟨"CrateTourModel", "whyNot", "()I"⟩, 11) := ⟨⟨by decide +kernel, by decide +kernel⟩, List.mem_of_getElem? (i := 1340) (by decide +kernel), List.mem_of_getElem? (i := 1812) (by decide +kernel), List.mem_of_getElem? (i := 1813) (by decide +kernel)⟩
theorem lw_p106 : lw_okq (⟨"CrateTourModel", "carryOut", "()I"⟩, 11) := ⟨⟨by decide +kernel, by decide +kernel⟩, List.mem_of_getElem? (i := 1340) (by decide +kernel), List.mem_of_getElem? (i := 1816) (by decide +kernel), List.mem_of_getElem? (i := 1817) (by decide +kernel)⟩
theorem lw_p107 : lw_okq (⟨"CrateTourModel", "mix", "(J)V"⟩, 11) := ⟨⟨by decide +kernel, by decide +kernel⟩, List.mem_of_getElem? (i := 1340) (by decide +kernel), List.mem_of_getElem? (i := 1829) (by decide +kernel), List.mem_of_getElem? (i := 1830) (by decide +kernel)⟩
theorem lw_p108 : lw_okq (⟨"CrateTourModel", "mixWork", "(I)V"⟩, 11) := ⟨⟨by decide +kernel, by decide +kernel⟩, List.mem_of_getElem? (i := 1340) (by decide +kernel), List.mem_of_getElem? (i := 1834) (by decide +kernel), List.mem_of_getElem? (i := 1835) (by decide +kernel)⟩
def lw_privs_7 : List (MethodName × Nat) := [(⟨"CrateTourModel", "allReady", "(I)I"⟩, 11), (⟨"CrateTourModel", "readyBy", "(II)I"⟩, 11), (⟨"CrateTourModel", "isGood", "()Z"⟩, 11), (⟨"CrateTourModel", "skips", "()Z"⟩, 11), (⟨"CrateTourModel", "here", "()I"⟩, 11), (⟨"CrateTourModel", "readCommand", "()Z"⟩, 11), (⟨"CrateTourModel", "readWord", "()Z"⟩, 11), (⟨"CrateTourModel", "manyFor", "()I"⟩, 11), (⟨"CrateTourModel", "readNumber", "(I)Z"⟩, 11), (⟨"CrateTourModel", "whyNot", "()I"⟩, 11), (⟨"CrateTourModel", "carryOut", "()I"⟩, 11), (⟨"CrateTourModel", "mix", "(J)V"⟩, 11), (⟨"CrateTourModel", "mixWork", "(I)V"⟩, 11)]
theorem lw_r7 : ∀ q ∈ lw_privs_7, lw_okq q := List.forall_mem_cons.mpr ⟨lw_p96, List.forall_mem_cons.mpr ⟨lw_p97, List.forall_mem_cons.mpr ⟨lw_p98, List.forall_mem_cons.mpr ⟨lw_p99, List.forall_mem_cons.mpr ⟨lw_p100, List.forall_mem_cons.mpr ⟨lw_p101, List.forall_mem_cons.mpr ⟨lw_p102, List.forall_mem_cons.mpr ⟨lw_p103, List.forall_mem_cons.mpr ⟨lw_p104, List.forall_mem_cons.mpr ⟨lw_p105, List.forall_mem_cons.mpr ⟨lw_p106, List.forall_mem_cons.mpr ⟨lw_p107, List.forall_mem_cons.mpr ⟨lw_p108, fun _ h => absurd h List.not_mem_nil⟩⟩⟩⟩⟩⟩⟩⟩⟩⟩⟩⟩⟩
def lw_privs : List (MethodName × Nat) := lw_privs_1 ++ (lw_privs_2 ++ (lw_privs_3 ++ (lw_privs_4 ++ (lw_privs_5 ++ (lw_privs_6 ++ (lw_privs_7))))))
def lw_tbl : List Cond := k2_sels lw_privs ++ tables_1
theorem lw_privs_ok : ∀ q ∈ lw_privs, lw_okq q := by
  show ∀ q ∈ lw_privs_1 ++ (lw_privs_2 ++ (lw_privs_3 ++ (lw_privs_4 ++ (lw_privs_5 ++ (lw_privs_6 ++ (lw_privs_7)))))), lw_okq q
  exact List.forall_mem_append.mpr ⟨lw_r1, List.forall_mem_append.mpr ⟨lw_r2, List.forall_mem_append.mpr ⟨lw_r3, List.forall_mem_append.mpr ⟨lw_r4, List.forall_mem_append.mpr ⟨lw_r5, List.forall_mem_append.mpr ⟨lw_r6, lw_r7⟩⟩⟩⟩⟩⟩
-- ===== end of PART A; then your names; then what follows =====
end
section
def va_AOA (ty : FieldType) (U : State) : Prop := (Cond.arrayOver (.array ty)).before #[] U = true
theorem va_AOA.use {ty : FieldType} {A : Array Value} {U : State} (h : va_AOA ty U) : (Cond.arrayOver (.array ty)).before A U = true := h
/-! ===== BEGIN words of one list among another's, by their places ===== -/
theorem goodIn_r {big : List Cond} (ws : List Cond) (ps : List Nat) (hp : ws = ps.filterMap (fun i => big[i]?)) (h : ws.all goodWord = true) : GoodIn big ws := by
  intro w hw
  have h1 := List.all_eq_true.mp h w hw
  rw [hp] at hw
  obtain ⟨i, -, hi⟩ := List.mem_filterMap.mp hw
  have hm : w ∈ big := by first | exact List.mem_of_getElem? hi | exact List.getElem?_mem hi
  exact ⟨hm, good_of_word h1⟩
theorem goodIn_app {big a b : List Cond} (ha : GoodIn big a) (hb : GoodIn big b) : GoodIn big (a ++ b) := fun w h => (List.mem_append.mp h).elim (ha w) (hb w)
theorem goodIn_ca {big a b : List Cond} {c : Cond} (ha : GoodIn big (c :: a)) (hb : GoodIn big b) : GoodIn big (c :: (a ++ b)) := fun w h => (List.mem_cons.mp h).elim (fun e => ha w (List.mem_cons.mpr (Or.inl e))) (fun h => (List.mem_append.mp h).elim (fun h => ha w (List.mem_cons.mpr (Or.inr h))) (hb w))
theorem goodIn_sub {big ws : List Cond} (hm : ∀ w ∈ ws, w ∈ big) (h : ws.all goodWord = true) : GoodIn big ws := fun w hw => ⟨hm w hw, good_of_word (List.all_eq_true.mp h w hw)⟩
/-! ===== END ===== -/

/-! ===== BEGIN new T[n][m]: the outer array a place, the inner ones among the pooled ===== -/
/-- f, but v at every address of l -/
def vr_up {α : Type} (f : Nat → α) (l : List Nat) (v : α) : Nat → α := fun a => if a ∈ l then v else f a
theorem vr_up_in {α : Type} {f : Nat → α} {l : List Nat} {v : α} {a : Nat} (h : a ∈ l) : vr_up f l v a = v := if_pos h
theorem vr_up_ne {α : Type} {f : Nat → α} {l : List Nat} {v : α} {a : Nat} (h : a ∉ l) : vr_up f l v a = f a := if_neg h
theorem vr_rows {L l : List Nat} {f : Nat → va_E} {e : va_E} (h : ∀ a, a ∈ l → a ∉ L) : va_pl L f ++ l.map (fun a => (a, e)) = va_pl (L ++ l) (vr_up f l e) := by
  unfold va_pl
  rw [List.map_append]
  congr 1
  · apply List.map_congr_left
    intro a ha
    rw [vr_up_ne (fun q => h a q ha)]
  · apply List.map_congr_left
    intro a ha
    rw [vr_up_in ha]
theorem vr_lay {X rows : va_W} {x : Nat × va_E} {pl : va_W} {D : va_G} {cl : List vw_C} {H : Heap} (hP : va_P D cl (((X ++ pl) ++ [x]) ++ rows) H) : va_P D cl ((X ++ [x]) ++ (pl ++ rows)) H := by
  rw [List.append_assoc (X ++ pl)] at hP
  have h := va_P.swap hP
  rw [← List.append_assoc X] at h
  have h2 := va_P.swap h
  rw [List.append_assoc (X ++ [x])] at h2
  exact h2
theorem vr_layD {X rows : va_W} {x : Nat × va_E} {pl : va_W} {A : Nat → Prop} (hD : va_D A (((X ++ pl) ++ [x]) ++ rows)) : va_D A ((X ++ [x]) ++ (pl ++ rows)) := by
  rw [List.append_assoc (X ++ pl)] at hD
  have h := va_D.swap hD
  rw [← List.append_assoc X] at h
  have h2 := va_D.swap h
  rw [List.append_assoc (X ++ [x])] at h2
  exact h2
theorem vr_outer (c : ClassId) (N h0 : Nat) : ∀ i : Nat, Jvm.Free.Multi.outerC c N h0 i = arrV c N (fun j => va_rf (if j < i then some (h0 + 1 + j) else none))
  | 0 => by
    show ({ cls := c, slots := Array.replicate N .null, vm := .none } : Cell) = _
    rw [arrV_new]
    refine congrArg (arrV c N) (funext fun j => ?_)
    simp [va_rf]
  | i + 1 => by
    show (Jvm.Free.Multi.outerC c N h0 i).setSlot i (.ref (h0 + 1 + i)) = _
    rw [vr_outer c N h0 i, arrV_store]
    refine congrArg (arrV c N) (funext fun j => ?_)
    by_cases e : j = i
    · subst e
      simp [updV, va_rf]
    · by_cases h : j < i
      · simp [updV, e, h, Nat.lt_succ_of_lt h]
      · simp [updV, e, h, show ¬ j < i + 1 by omega]
section VGM
variable {p : Program} {l : Launch} {e : Env} {R : Room} {s : State} {m : MethodId} {args : Array Value} {below : List Frame} {meth : Method} {c : Code} {H : Heap} {locs : List Loc} {cells slots : Nat} {Q : State → Prop}
variable {cc : ByteArray} {pc : Nat} {ls : Array Slot} {rest : List Value} {D : va_G} {cl : List vw_C} {A : Nat → Prop} {a : Nat} {tys : List (ClassId × FieldType)} {ws : va_W} {H0 : Heap}
theorem va_mna {X : va_W} {L : List Nat} {f : Nat → va_E} {cc : ByteArray} (hexec : p.tables.exec = Jvm.exec) (hb : c.code = cc) {own : String} {index : Nat} {ty : FieldType} {cy : ClassId} (hown : s.vm.findClass own = some m.cls) (hclink : (Cond.classLink own index ("[" ++ (FieldType.array ty).toString)).before args s = true) (hover : va_AOA ty s) (harr : (Cond.arrayClass ty).before args s = true) (hcy : s.vm.findClass (FieldType.array ty).toString = some cy)
    (hK : va_K D cl tys s) (hP : va_P D cl (X ++ va_pl L f) H) (hD : va_D A (X ++ va_pl L f)) (hS : va_S A H0 H locs) (hA : ∀ q, H0.size ≤ q → A q) {n k : Int32} {N' K' : Nat} {z : vp_A} (hn : ¬ n < 0) (hk : ¬ k < 0) (hN : n.toNatClampNeg = N') (hM : k.toNatClampNeg = K')
    (hb1 : N' * 4 ≤ 536870912) (hb2 : K' * componentBytes ty ≤ 536870912) (hb3 : K' ≤ 536870912) (hdf : fits ty (defaultValue ty) = true) (hdd : (defaultValue ty).isDefault = true) (hcells : cells + (1 + N') ≤ R.cells) (hslots : slots + (N' + N' * K') ≤ R.slots) (hz : ∀ c : ClassId, Jvm.Free.Multi.innerC c K' (defaultValue ty) = vp_cell c z) (hdg : decode cc pc = .ok (.multianewarray index 2, 4))
    (kk : ∀ (q : Nat) (r : Nat → Nat) (cA : ClassId) (H1 : Heap), (∀ i j : Nat, i < N' → j < N' → r i = r j → i = j) → (∀ i : Nat, i < N' → r i ∉ L) → va_K D cl (tys ++ [(cA, .array ty)]) s →
      va_P D cl ((X ++ [(q, .inl (cA, N', .inr (.inr (.inr (.inr (fun i => if i < N' then some (r i) else none))))))]) ++ va_pl (L ++ (List.range N').map r) (vr_up f ((List.range N').map r) (.inl (cy, z)))) H1 → va_D A ((X ++ [(q, .inl (cA, N', .inr (.inr (.inr (.inr (fun i => if i < N' then some (r i) else none))))))]) ++ va_pl (L ++ (List.range N').map r) (vr_up f ((List.range N').map r) (.inl (cy, z)))) → va_S A H0 H1 locs →
      W p l e R s m args below meth c H1 locs (cells + 1 + N') (slots + N' + N' * K') Q (F0 m (pc + 4) ls (.ref q :: rest))) : W p l e R s m args below meth c H locs cells slots Q (F0 m pc ls (.int k :: .int n :: rest)) := by
  subst hN
  subst hM
  intro T hT Xs
  obtain ⟨vm₁, cA, comp, -, fA, fC, hO, -, X', step⟩ := Xs.multianewarray2F hexec hown hclink (va_AOA.use hover) harr (g := F0 m pc ls (.int k :: .int n :: rest)) rfl (by rw [hb]; exact hdg) rfl hn hk hb1 hb2 hb3 hdf hdd hcells hslots
  have ec : some cy = some comp := hcy.symm.trans fC
  cases ec
  generalize hF : Jvm.Free.Multi.fill (T.setVm vm₁) cA cy n.toNatClampNeg k.toNatClampNeg (defaultValue ty) n.toNatClampNeg = F at X' step
  have hTh : (T.setVm vm₁).heap = H := hT
  obtain ⟨f1, f2, -, -⟩ := Jvm.Free.Multi.fill_facts (T.setVm vm₁) cA cy n.toNatClampNeg k.toNatClampNeg (defaultValue ty) n.toNatClampNeg
  rw [hF, hTh] at f1 f2
  have hold : ∀ x : Nat, x < H.size → F.heap[x]? = H[x]? := fun x hx => by
    have := Jvm.Free.Multi.fill_old (T.setVm vm₁) cA cy n.toNatClampNeg k.toNatClampNeg (defaultValue ty) (a := x) (by rw [hTh]; exact hx) n.toNatClampNeg
    rw [hF, hTh] at this
    exact this
  have hrow : ∀ j : Nat, j < n.toNatClampNeg → F.heap[H.size + 1 + j]? = some (vp_cell cy z) := fun j hj => by
    have := Jvm.Free.Multi.fill_inner (T.setVm vm₁) cA cy n.toNatClampNeg k.toNatClampNeg (defaultValue ty) n.toNatClampNeg j hj
    rw [hF, hTh, hz] at this
    exact this
  have hout : Jvm.Free.Multi.outerC cA n.toNatClampNeg H.size n.toNatClampNeg = vp_cell cA (n.toNatClampNeg, .inr (.inr (.inr (.inr (fun i => if i < n.toNatClampNeg then some (H.size + 1 + i) else none))))) := by
    rw [vp_cell_q]
    exact vr_outer cA n.toNatClampNeg H.size n.toNatClampNeg
  rw [hout] at f2
  have hlt : ∀ a, a ∈ L → a < H.size := fun a ha => by
    obtain ⟨k9, hk9⟩ := va_pl_get (X := X) (f := f) ha
    exact (hP k9 _ hk9).lt
  have hnl : ∀ i : Nat, i < n.toNatClampNeg → H.size + 1 + i ∉ L := fun i _ h => by
    have := hlt _ h
    omega
  have hnm : ∀ a, a ∈ (List.range n.toNatClampNeg).map (fun i => H.size + 1 + i) → a ∉ L := fun a ha h => by
    obtain ⟨i, -, rfl⟩ := List.mem_map.mp ha
    have := hlt _ h
    omega
  have hP0 : va_P D cl (X ++ va_pl L f) F.heap := hP.kept (fun k9 x hx => hold x.1 ((hP k9 x hx).lt))
  have hP1 : va_P D cl ((X ++ va_pl L f) ++ [(H.size, .inl (cA, n.toNatClampNeg, .inr (.inr (.inr (.inr (fun i => if i < n.toNatClampNeg then some (H.size + 1 + i) else none))))))]) F.heap := hP0.app (fun k9 x hx => by
    have h0 : k9 < 1 := (List.getElem?_eq_some_iff.mp hx).1
    rw [show k9 = 0 by omega] at hx
    cases hx
    exact f2)
  have hP2 : va_P D cl (((X ++ va_pl L f) ++ [(H.size, .inl (cA, n.toNatClampNeg, .inr (.inr (.inr (.inr (fun i => if i < n.toNatClampNeg then some (H.size + 1 + i) else none))))))]) ++ ((List.range n.toNatClampNeg).map (fun i => H.size + 1 + i)).map (fun a => (a, .inl (cy, z)))) F.heap := hP1.app (fun k9 x hx => by
    obtain ⟨a, ha, rfl⟩ := List.mem_map.mp (List.mem_of_getElem? hx)
    obtain ⟨i, hi, rfl⟩ := List.mem_map.mp ha
    exact hrow i (List.mem_range.mp hi))
  have hD2 : va_D A (((X ++ va_pl L f) ++ [(H.size, .inl (cA, n.toNatClampNeg, .inr (.inr (.inr (.inr (fun i => if i < n.toNatClampNeg then some (H.size + 1 + i) else none))))))]) ++ ((List.range n.toNatClampNeg).map (fun i => H.size + 1 + i)).map (fun a => (a, .inl (cy, z)))) := by
    have hD1 := hD.push (e := .inl (cA, n.toNatClampNeg, .inr (.inr (.inr (.inr (fun i => if i < n.toNatClampNeg then some (H.size + 1 + i) else none)))))) hP rfl (hA _ hS.1)
    generalize hW1 : (X ++ va_pl L f) ++ [(H.size, .inl (cA, n.toNatClampNeg, .inr (.inr (.inr (.inr (fun i => if i < n.toNatClampNeg then some (H.size + 1 + i) else none))))))] = W1 at hD1 hP1 ⊢
    have hle : ∀ (k9 : Nat) (x : Nat × va_E), W1[k9]? = some x → x.1 ≤ H.size := fun k9 x hx => by
      rw [← hW1] at hx
      by_cases hl : k9 < (X ++ va_pl L f).length
      · rw [List.getElem?_append_left hl] at hx
        exact Nat.le_of_lt ((hP k9 x hx).lt)
      · rw [List.getElem?_append_right (by omega)] at hx
        have h0 : k9 - (X ++ va_pl L f).length < 1 := (List.getElem?_eq_some_iff.mp hx).1
        rw [show k9 - (X ++ va_pl L f).length = 0 by omega] at hx
        cases hx
        exact Nat.le_refl _
    have hr : ∀ (k9 : Nat) (x : Nat × va_E), (((List.range n.toNatClampNeg).map (fun i => H.size + 1 + i)).map (fun a => ((a, .inl (cy, z)) : Nat × va_E)))[k9]? = some x → x.1 = H.size + 1 + k9 := fun k9 x hx => by
      rw [List.getElem?_map, List.getElem?_map] at hx
      by_cases h9 : k9 < n.toNatClampNeg
      · rw [List.getElem?_range h9] at hx
        cases hx
        rfl
      · have hn0 : (List.range n.toNatClampNeg)[k9]? = none := List.getElem?_eq_none (by rw [List.length_range]; omega)
        rw [hn0] at hx
        cases hx
    refine ⟨fun i j x y hi hj hxy => ?_, fun k9 x hx => ?_⟩
    · by_cases h1 : i < W1.length <;> by_cases h2 : j < W1.length
      · rw [List.getElem?_append_left h1] at hi
        rw [List.getElem?_append_left h2] at hj
        exact hD1.1 i j x y hi hj hxy
      · rw [List.getElem?_append_left h1] at hi
        rw [List.getElem?_append_right (by omega)] at hj
        have := hle _ _ hi
        have := hr _ _ hj
        omega
      · rw [List.getElem?_append_right (by omega)] at hi
        rw [List.getElem?_append_left h2] at hj
        have := hle _ _ hj
        have := hr _ _ hi
        omega
      · rw [List.getElem?_append_right (by omega)] at hi hj
        have := hr _ _ hi
        have := hr _ _ hj
        omega
    · by_cases h1 : k9 < W1.length
      · rw [List.getElem?_append_left h1] at hx
        exact hD1.2 k9 x hx
      · rw [List.getElem?_append_right (by omega)] at hx
        have := hr _ _ hx
        exact hA _ (by have := hS.1; omega)
  have hAr : ArrOfT s cA (.array ty) := fun N9 z9 => by
    obtain ⟨-, k9, hk9, cm9, hkk9⟩ := (hO 0 0 0).1
    exact ⟨(fun q hq => by cases hq), k9, hk9, cm9, hkk9⟩
  have hK2 : va_K D cl (tys ++ [(cA, .array ty)]) s := ⟨hK.1, fun k9 x hx => by
    by_cases hl : k9 < tys.length
    · rw [List.getElem?_append_left hl] at hx
      exact hK.2 k9 x hx
    · rw [List.getElem?_append_right (by omega)] at hx
      have h0 : k9 - tys.length < 1 := (List.getElem?_eq_some_iff.mp hx).1
      rw [show k9 - tys.length = 0 by omega] at hx
      cases hx
      exact ⟨hAr, fA⟩⟩
  obtain ⟨t, a1, b1⟩ := kk H.size (fun i => H.size + 1 + i) cA F.heap (fun i j _ _ h => by have h9 : H.size + 1 + i = H.size + 1 + j := h; omega) hnl hK2 (by rw [← vr_rows hnm]; exact vr_lay hP2) (by rw [← vr_rows hnm]; exact vr_layD hD2) ⟨by rw [f1]; have := hS.1; omega, fun x h1 h2 => (hold x (Nat.lt_of_lt_of_le h1 hS.1)).trans (hS.2.1 x h1 h2), hS.2.2⟩ F rfl X'
  refine ⟨t, step t ?_, b1⟩
  have e : T.heap.size = H.size := by rw [hT]
  rw [e]
  exact a1
end VGM
/-! ===== END ===== -/

/-! ===== BEGIN exceptions that leave a method, and their catching by the caller (launches without stack traces) ===== -/
section VXA
/-! The laws vx_back, vx_callV, vx_callS, vx_callSW, vx_throw0, vx_throwS follow proofs of the library, with one case more: JvmDerived/Free/Laws.lean (Back.of_free), Shelf42/LK1.lean (callV, callS), Shelf/KitTraced.lean (throwNew0V, throwNewS). -/
/-- where a method has thrown q: the class by its name, the cell, what was written, the world -/
def vx_T (XC : String → State → State → Prop) (st : State) (q : Addr) (t : State) (mc ms : Nat) (free : Addr → Prop) : Prop :=
  ∃ (E : String) (ce : Cell) (L : List Loc), XC E st t ∧ t.heap[q]? = some ce ∧ ce.vm = .none ∧ st.vm.findClass E = some ce.cls ∧ st.WarmedH t.vm ∧ st.sameButNew ({ t with vm := st.vm } : State) L mc ms ∧ ∀ z ∈ L, free z.base
def vx_Q (Qc : Array Value → State → Outcome → State → Prop) (XC : String → State → State → Prop) (mc ms : Nat) (free : Addr → Prop) : Array Value → State → Outcome → State → Prop := fun a st o t =>
  (Qc a st o t ∧ ∃ L, FrameEnd st o t L mc ms ∧ ∀ q ∈ L, free q.base) ∨ ∃ q, o = .threw q ∧ vx_T XC st q t mc ms free
/-- a callee that returns or throws -/
def vx_Met (l : Launch) (y : MethodName) (ws : List Cond) (rm : Room) (Pc : Array Value → State → Prop) (Qc : Array Value → State → Outcome → State → Prop) (XC : String → State → State → Prop) (mc ms : Nat) (free : Addr → Prop) : Prop :=
  MetFree l y (headSpec ws rm) Pc (fun _ _ _ _ _ => True) (vx_Q Qc XC mc ms free)
def vx_Post (XC : String → State → State → Prop) (mc ms : Nat) (free : Addr → Prop) : Pt → Array Value → Addr → Pt → Prop := fun A a q B =>
  ∃ (g : JFrame) (mk : MethodId) (t : State) (L : List Loc) (E : String) (ce : Cell), B.U.heap = t.heap ∧ B.U.vm = t.vm ∧ XC E (A.U.calling g mk a) t ∧ t.heap[q]? = some ce ∧ ce.vm = .none ∧ A.U.vm.findClass E = some ce.cls ∧ B.locs = A.locs ++ L ∧ (∀ z ∈ L, free z.base) ∧ B.cells = A.cells + mc ∧ B.slots = A.slots + ms
def vx_Back (l : Launch) (R : Room) (p : Program) (e : Env) (below : List Frame) (s : State) (sargs : Array Value) (y : MethodName) (len W9 : Nat)
    (Pre : Pt → Array Value → Prop) (Post : Pt → Array Value → Option Value → Pt → Prop) (PostX : Pt → Array Value → Addr → Pt → Prop) : Prop :=
  ∀ (m : MethodId) (meth : Method) (c : Code) (A : Pt) (g : JFrame) (ig : Instr) (mk : MethodId) (a : Array Value),
    Stand p l e R s m sargs below meth c A.U A.locs A.cells A.slots → g.method = m → g.locals.size = c.maxLocals → decode c.code g.pc = .ok (ig, len) →
    2 * g.monitorRoom + (g.stack.map fun v => v.category).sum ≤ W9 → A.U.methodNamed? y = some mk → Pre A a →
    (∃ (v : Option Value) (B : Pt), Stand p l e R s m sargs below meth c B.U B.locs B.cells B.slots ∧ Post A a v B ∧
      Steps p.tables e below (doInvoke e (A.U.setTop g) [] mk a).1 (B.U.setTop { g with pc := g.pc + len, stack := v.toList ++ g.stack })) ∨
    (∃ (q : Addr) (B : Pt), Stand p l e R s m sargs below meth c B.U B.locs B.cells B.slots ∧ PostX A a q B ∧
      Steps p.tables e below (doInvoke e (A.U.setTop g) [] mk a).1 ((B.U.setTop g).pushFrame (.throwing q)))
section Payer
variable {l : Launch} {R : Room} {p : Program} {e : Env} {below : List Frame} {s : State} {sargs : Array Value} {y : MethodName} {len W9 : Nat}
theorem vx_back {ws : List Cond} {rm : Room} {Pc : Array Value → State → Prop} {Qc : Array Value → State → Outcome → State → Prop} {XC : String → State → State → Prop} {mc ms : Nat} {free : Addr → Prop} {bytes : ByteArray} {maxL : Nat} {ret : Option FieldType}
    (hM : vx_Met l y ws rm Pc Qc XC mc ms free) (hblind : FrameBlind Pc) (hrc : rm.cells = mc) (hrs : rm.slots = ms)
    (hframes : rm.frames + 1 ≤ R.frames) (hlocals : W9 + (maxL + 11) + rm.locals ≤ R.locals)
    (hws : ∀ w ∈ ws, ∀ a' U, s.WarmedH U.vm → w.before a' U = true) (hcode : Cond.code y bytes maxL ret ∈ ws) (hinit : ∀ a' U, s.WarmedH U.vm → (Cond.initialized y.cls).before a' U = true) :
    vx_Back l R p e below s sargs y len W9 (PreOf R mc ms Pc) (PostOf Qc mc ms free) (vx_Post XC mc ms free) := by
  intro m meth c A g ig mk a X hg hsize hdg hW hn hp
  have h1 : (headSpec ws rm).pre.before a A.U = true := atoms_intro fun w hw => hws w hw _ _ X.warmed
  have h2 : (Cond.code y bytes maxL ret).before a A.U = true := hws _ hcode _ _ X.warmed
  have h3 : (Cond.initialized y.cls).before a A.U = true := hinit _ _ X.warmed
  have h4 : A.cells + (headSpec ws rm).room.cells ≤ R.cells := by rw [show (headSpec ws rm).room.cells = mc from hrc]; exact hp.1
  have h5 : A.slots + (headSpec ws rm).room.slots ≤ R.slots := by rw [show (headSpec ws rm).room.slots = ms from hrs]; exact hp.2.1
  have hPc : Pc a (A.U.calling g mk a) := hblind _ _ _ _ hp.2.2
  obtain ⟨U, Ls, c0, s0⟩ := A
  dsimp only [Pt.U, Pt.locs, Pt.cells, Pt.slots] at h1 h2 h3 h4 h5 X hn hPc ⊢
  obtain ⟨methY, cY, hmY, hcY, -, hlY, -, -, -, -⟩ := Cond.code_spec hn h2
  obtain ⟨kY, hkY, -⟩ := className_of_methodNamed hn
  have hinitY : kY.init = .initialized := Cond.initialized_spec (findClass_of_methodNamed hn) hkY h3
  have h : At U g.method c below := by rw [hg]; exact X.here
  have hlocals9 : W9 + (maxL + 11) + (headSpec ws rm).room.locals ≤ R.locals := hlocals
  have happ : (headSpec ws rm).appliesLoose y e.platform (U.calling g mk a) = true :=
    Spec.appliesLoose_calling (g := g) h hdg hn hkY hinitY
      (X.room_calling (g := g) (R' := (headSpec ws rm).room) hsize hmY hcY hframes (by rw [hlY]; omega) h4 h5) h1
  obtain ⟨mid, hmid⟩ := h.above
  have hfr : (U.setTop g).frames = (.java g :: mid) ++ below := by rw [State.frames_setTop' g h.top, hmid]; rfl
  obtain ⟨o, s₂, hsteps, -, hend, hq⟩ := Steps.callFree hM p X.admits X.cas X.clock (acts := []) hfr happ hPc trivial
  have hq' : vx_Q Qc XC mc ms free a (U.calling g mk a) o s₂ := hq
  rw [State.frames_setTop' g h.top] at hend
  obtain ⟨g₀, hg0⟩ := Option.isSome_iff_exists.mp h.top
  obtain ⟨r, hr⟩ := State.topJava?_eq_some.mp hg0
  have hr' : (({ U with heap := s₂.heap, slotsUsed := s₂.slotsUsed } : State).setVm s₂.vm).frames = .java g₀ :: r := hr
  rcases hq' with ⟨hqc, L, hfe, hL⟩ | ⟨q, rfl, E, ce, L, hx, hce, hcv, hcl, hW₂, hsm, hL⟩
  · obtain ⟨⟨v, rfl⟩, hW₂, e2, q2, q3, q4, q5, q6⟩ := id hfe
    have e3 : s₂ = ({ (U.calling g mk a).setFrames s₂.frames with heap := s₂.heap, slotsUsed := s₂.slotsUsed } : State).setVm s₂.vm := by
      have : s₂ = ({ s₂ with vm := (U.calling g mk a).vm } : State).setVm s₂.vm := rfl
      rw [e2] at this
      exact this
    obtain ⟨c₂, i₂, len₂, hc₂, hd₂, hf₂⟩ := hend
    have hW' : U.WarmedH s₂.vm := hW₂
    have hcc : c₂ = c := by
      have h1 : s₂.code? g.method = U.code? g.method := by
        rw [State.code?_eq, State.code?_eq, hW'.alike.method?]
      exact Option.some.inj (hc₂.symm.trans (h1.trans h.code))
    subst hcc
    have hlen : len₂ = len := by rw [hdg] at hd₂; cases hd₂; rfl
    subst hlen
    have hs₂ : s₂ = (({ U with heap := s₂.heap, slotsUsed := s₂.slotsUsed } : State).setVm s₂.vm).setTop { g with pc := g.pc + len₂, stack := v.toList ++ g.stack } := by
      refine e3.trans ?_
      rw [hf₂, State.calling_eq h.top, State.setFrames_setFrames, State.setTop_of_frames _ hr', hr]
      rfl
    have hsame : U.sameButNew ({ U with heap := s₂.heap, slotsUsed := s₂.slotsUsed } : State) L mc ms := by
      refine ⟨?_, q2, q3, q4, q5, q6⟩
      obtain ⟨t, ht, -⟩ := State.frames_cons hr
      show ({ U with heap := s₂.heap, slotsUsed := s₂.slotsUsed } : State) = { U.setFrames U.frames with heap := s₂.heap, slotsUsed := s₂.slotsUsed }
      rw [State.setFrames_self ht]
    subst hg
    refine Or.inl ⟨v, ⟨(({ U with heap := s₂.heap, slotsUsed := s₂.slotsUsed } : State).setVm s₂.vm), Ls ++ L, c0 + mc, s0 + ms⟩,
      ⟨X.admits, X.cas, X.clock, X.frames, X.room, X.hears, X.method, X.code, (X.here.setHeapUsed s₂.heap s₂.slotsUsed).setVm hW'.alike, X.tail, State.WarmedH.trans X.warmed hW', X.limits, X.bytes, X.same.trans (hsame.setVm s.vm)⟩,
      ⟨g, mk, s₂, L, rfl, rfl, hqc, rfl, hL, rfl, rfl⟩, ?_⟩
    show Steps p.tables e below _ ((({ U with heap := s₂.heap, slotsUsed := s₂.slotsUsed } : State).setVm s₂.vm).setTop { g with pc := g.pc + len₂, stack := v.toList ++ g.stack })
    rw [← hs₂]
    exact hsteps
  · obtain ⟨e2, q2, q3, q4, q5, q6⟩ := id hsm
    have e3 : s₂ = ({ (U.calling g mk a).setFrames s₂.frames with heap := s₂.heap, slotsUsed := s₂.slotsUsed } : State).setVm s₂.vm := by
      have : s₂ = ({ s₂ with vm := (U.calling g mk a).vm } : State).setVm s₂.vm := rfl
      rw [e2] at this
      exact this
    have hf₂ : s₂.frames = .throwing q :: .java g :: U.frames.tail := hend
    have hW' : U.WarmedH s₂.vm := hW₂
    have hs₂ : s₂ = ((({ U with heap := s₂.heap, slotsUsed := s₂.slotsUsed } : State).setVm s₂.vm).setTop g).pushFrame (.throwing q) := by
      refine e3.trans ?_
      rw [hf₂, State.calling_eq h.top, State.setFrames_setFrames, State.pushFrame, State.frames_setTop _ hr', State.setTop_of_frames _ hr', State.setFrames_setFrames, hr]
      rfl
    have hsame : U.sameButNew ({ U with heap := s₂.heap, slotsUsed := s₂.slotsUsed } : State) L mc ms := by
      refine ⟨?_, q2, q3, q4, q5, q6⟩
      obtain ⟨t, ht, -⟩ := State.frames_cons hr
      show ({ U with heap := s₂.heap, slotsUsed := s₂.slotsUsed } : State) = { U.setFrames U.frames with heap := s₂.heap, slotsUsed := s₂.slotsUsed }
      rw [State.setFrames_self ht]
    subst hg
    refine Or.inr ⟨q, ⟨(({ U with heap := s₂.heap, slotsUsed := s₂.slotsUsed } : State).setVm s₂.vm), Ls ++ L, c0 + mc, s0 + ms⟩,
      ⟨X.admits, X.cas, X.clock, X.frames, X.room, X.hears, X.method, X.code, (X.here.setHeapUsed s₂.heap s₂.slotsUsed).setVm hW'.alike, X.tail, State.WarmedH.trans X.warmed hW', X.limits, X.bytes, X.same.trans (hsame.setVm s.vm)⟩,
      ⟨g, mk, s₂, L, E, ce, rfl, rfl, hx, hce, hcv, hcl, rfl, hL, rfl, rfl⟩, ?_⟩
    show Steps p.tables e below _ (((({ U with heap := s₂.heap, slotsUsed := s₂.slotsUsed } : State).setVm s₂.vm).setTop g).pushFrame (.throwing q))
    rw [← hs₂]
    exact hsteps
end Payer
section Calls
variable {p : Program} {l : Launch} {e : Env} {R : Room} {s : State} {m : MethodId} {args : Array Value} {below : List Frame} {meth : Method} {c : Code} {T : State} {locs : List Loc} {cells slots : Nat}
theorem vx_callV (X : Stand p l e R s m args below meth c T locs cells slots) (hexec : p.tables.exec = Jvm.exec) {own C : String} {index : Nat} {y : MethodName} {bytes : ByteArray} {maxL : Nat} {ret : Option FieldType}
    (hown : s.vm.findClass own = some m.cls) (hlink : (Cond.methodLink own index y).before args s = true) (hinst : (Cond.instanceMethod y).before args s = true) (hsel : (Cond.selects C y y).before args s = true)
    (hcode : (Cond.code y bytes maxL ret).before args s = true) (hy : y.cls ≠ "java/lang/invoke/MethodHandle" ∧ y.cls ≠ "java/lang/invoke/VarHandle")
    {W9 : Nat} {Pre : Pt → Array Value → Prop} {Post : Pt → Array Value → Option Value → Pt → Prop} {PostX : Pt → Array Value → Addr → Pt → Prop} (hK : vx_Back l R p e below s args y 3 W9 Pre Post PostX)
    {b : Addr} {cellB : Cell} (hcell : T.heap[b]? = some cellB) (hobj : cellB.vm.isStatics = false) (hcls : s.vm.findClass C = some cellB.cls)
    {g : JFrame} (hg : g.method = m) (hsize : g.locals.size = c.maxLocals) {argsL rest : List Value} (hlen : ∀ sig, parseMethodDescriptor y.desc = some sig → argsL.length = sig.parameters.length)
    (hstack : g.stack = argsL.reverse ++ .ref b :: rest) (hW : 2 * g.monitorRoom + (rest.map fun v => v.category).sum ≤ W9) (hdg : decode c.code g.pc = .ok (.invokevirtual index, 3))
    (hpre : ∀ vm₁, s.WarmedH vm₁ → Pre ⟨T.setVm vm₁, locs, cells, slots⟩ (Value.ref b :: argsL).toArray) :
    (∃ (v : Option Value) (vm₁ : Vm) (B : Pt), s.WarmedH vm₁ ∧ Stand p l e R s m args below meth c B.U B.locs B.cells B.slots ∧ Post ⟨T.setVm vm₁, locs, cells, slots⟩ (Value.ref b :: argsL).toArray v B ∧
      ∀ target, Steps p.tables e below (B.U.setTop { g with pc := g.pc + 3, stack := v.toList ++ rest }) target → Steps p.tables e below (T.setTop g) target) ∨
    (∃ (q : Addr) (vm₁ : Vm) (B : Pt), s.WarmedH vm₁ ∧ Stand p l e R s m args below meth c B.U B.locs B.cells B.slots ∧ PostX ⟨T.setVm vm₁, locs, cells, slots⟩ (Value.ref b :: argsL).toArray q B ∧
      Steps p.tables e below (T.setTop g) ((B.U.setTop { g with stack := rest }).pushFrame (.throwing q))) := by
  obtain ⟨mk, methM, hnamed, hmethM, hstM, habM⟩ := Cond.instanceMethod_spec hinst
  obtain ⟨methM', cM, hmethM', -, -, -, -, -, -, hsigM⟩ := Cond.code_spec hnamed hcode
  cases hmethM.symm.trans hmethM'
  obtain ⟨c2, r2, m2, q1, q2, q3, q4, kP, hkP, hkPi⟩ := Cond.selects_spec hsel
  cases hcls.symm.trans q1
  cases (State.methodFound?_of_named hnamed hy).symm.trans q2
  cases hnamed.symm.trans q3
  have hselP : selectMethod e.platform s.vm cellB.cls mk = .method mk := by rw [Launch.admits_selectMethod X.admits]; exact q4
  obtain ⟨vm₁, X₁, hstep₁⟩ := X.invokevirtual hexec hown hlink hnamed hmethM hstM hkP hkPi hy (a := b) (cell := cellB) hcell
    (fun z h => by rw [h] at hobj; cases hobj) hselP hmethM habM hkP hkPi (g := g) hg (argsL := argsL) (rest := rest) (hlen _ hsigM) hstack hdg
  rcases hK m meth c ⟨T.setVm vm₁, locs, cells, slots⟩ { g with stack := rest } (.invokevirtual index) mk (Value.ref b :: argsL).toArray X₁ hg hsize hdg hW (X₁.named hnamed) (hpre vm₁ X₁.warmed) with ⟨v, B, X', hpost, hsteps⟩ | ⟨q, B, X', hpost, hsteps⟩
  · exact Or.inl ⟨v, vm₁, B, X₁.warmed, X', hpost, fun target h => hstep₁ _ fun acts => by rw [doInvoke_state]; exact hsteps.trans h⟩
  · exact Or.inr ⟨q, vm₁, B, X₁.warmed, X', hpost, hstep₁ _ fun acts => by rw [doInvoke_state]; exact hsteps⟩
theorem vx_callS (X : Stand p l e R s m args below meth c T locs cells slots) (hexec : p.tables.exec = Jvm.exec) {own : String} {index : Nat} {y : MethodName} {bytes : ByteArray} {maxL : Nat} {ret : Option FieldType}
    (hown : s.vm.findClass own = some m.cls) (hlink : (Cond.methodLink own index y).before args s = true) (hstat : (Cond.static y).before args s = true) (hinit : (Cond.initialized y.cls).before args s = true)
    (hcode : (Cond.code y bytes maxL ret).before args s = true) (hy : y.cls ≠ "java/lang/invoke/MethodHandle" ∧ y.cls ≠ "java/lang/invoke/VarHandle")
    {W9 : Nat} {Pre : Pt → Array Value → Prop} {Post : Pt → Array Value → Option Value → Pt → Prop} {PostX : Pt → Array Value → Addr → Pt → Prop} (hK : vx_Back l R p e below s args y 3 W9 Pre Post PostX)
    {g : JFrame} (hg : g.method = m) (hsize : g.locals.size = c.maxLocals) {argsL rest : List Value} (hlen : ∀ sig, parseMethodDescriptor y.desc = some sig → argsL.length = sig.parameters.length)
    (hstack : g.stack = argsL.reverse ++ rest) (hW : 2 * g.monitorRoom + (rest.map fun v => v.category).sum ≤ W9) (hdg : decode c.code g.pc = .ok (.invokestatic index, 3))
    (hpre : ∀ vm₁, s.WarmedH vm₁ → Pre ⟨T.setVm vm₁, locs, cells, slots⟩ argsL.toArray) :
    (∃ (v : Option Value) (vm₁ : Vm) (B : Pt), s.WarmedH vm₁ ∧ Stand p l e R s m args below meth c B.U B.locs B.cells B.slots ∧ Post ⟨T.setVm vm₁, locs, cells, slots⟩ argsL.toArray v B ∧
      ∀ target, Steps p.tables e below (B.U.setTop { g with pc := g.pc + 3, stack := v.toList ++ rest }) target → Steps p.tables e below (T.setTop g) target) ∨
    (∃ (q : Addr) (vm₁ : Vm) (B : Pt), s.WarmedH vm₁ ∧ Stand p l e R s m args below meth c B.U B.locs B.cells B.slots ∧ PostX ⟨T.setVm vm₁, locs, cells, slots⟩ argsL.toArray q B ∧
      Steps p.tables e below (T.setTop g) ((B.U.setTop { g with stack := rest }).pushFrame (.throwing q))) := by
  obtain ⟨mk, hnamed⟩ := Cond.code_named hcode
  obtain ⟨methM, cM, hmethM, -, -, -, -, -, -, hsigM⟩ := Cond.code_spec hnamed hcode
  have hstatic : methM.isStatic = true := Cond.static_spec hnamed hmethM hstat
  obtain ⟨kP, hkP, -⟩ := className_of_methodNamed hnamed
  have hinitP : kP.init = .initialized := Cond.initialized_spec (findClass_of_methodNamed hnamed) hkP hinit
  obtain ⟨vm₁, X₁, hstep₁⟩ := X.invokestatic hexec hown hlink hnamed hmethM hstatic hkP hinitP hy (g := g) hg (argsL := argsL) (rest := rest) (hlen _ hsigM) hstack hdg
  rcases hK m meth c ⟨T.setVm vm₁, locs, cells, slots⟩ { g with stack := rest } (.invokestatic index) mk argsL.toArray X₁ hg hsize hdg hW (X₁.named hnamed) (hpre vm₁ X₁.warmed) with ⟨v, B, X', hpost, hsteps⟩ | ⟨q, B, X', hpost, hsteps⟩
  · exact Or.inl ⟨v, vm₁, B, X₁.warmed, X', hpost, fun target h => hstep₁ _ fun acts => by rw [doInvoke_state]; exact hsteps.trans h⟩
  · exact Or.inr ⟨q, vm₁, B, X₁.warmed, X', hpost, hstep₁ _ fun acts => by rw [doInvoke_state]; exact hsteps⟩
end Calls
theorem vx_cls {s : State} {T : State} {vm₁ : Vm} {E : String} {k : ClassId} (hW : s.WarmedH vm₁) (h : (T.setVm vm₁).vm.findClass E = some k) : s.vm.findClass E = some k := by
  have h1 : vm₁.findClass E = some k := h
  rw [hW.alike.findClass] at h1
  exact h1
/-- the method's frame g, with q thrown over it -/
def vx_W (p : Program) (l : Launch) (e : Env) (R : Room) (s : State) (m : MethodId) (args : Array Value) (below : List Frame) (meth : Method) (c : Code) (H : Heap) (locs : List Loc) (cells slots : Nat) (Q : State → Prop) (g : JFrame) (q : Addr) : Prop :=
  ∀ T : State, T.heap = H → Stand p l e R s m args below meth c T locs cells slots → ∃ t, Steps p.tables e below ((T.setTop g).pushFrame (.throwing q)) t ∧ Q t
def vx_Run (p : Program) (l : Launch) (e : Env) (R : Room) (s : State) (m : MethodId) (args : Array Value) (below : List Frame) (meth : Method) (c : Code) (H : Heap) (locs : List Loc) (cells slots mc ms : Nat) (g : JFrame) (rest : List Value) (Qa : State → Outcome → State → Prop) (XC : String → State → State → Prop) (free : Addr → Prop) : Prop :=
  ∀ T : State, T.heap = H → Stand p l e R s m args below meth c T locs cells slots →
    (∃ (v : Option Value) (st₀ t T' : State) (L : List Loc), st₀.heap = H ∧ Stand p l e R s m args below meth c T' (locs ++ L) (cells + mc) (slots + ms) ∧ (∀ q ∈ L, free q.base) ∧ T'.heap = t.heap ∧ T'.vm = t.vm ∧ Qa st₀ (.returned v) t ∧
      Goes p e below T g T' { g with pc := g.pc + 3, stack := v.toList ++ rest }) ∨
    (∃ (q : Addr) (st₀ t T' : State) (L : List Loc) (E : String) (ce : Cell), st₀.heap = H ∧ Stand p l e R s m args below meth c T' (locs ++ L) (cells + mc) (slots + ms) ∧ (∀ z ∈ L, free z.base) ∧ T'.heap = t.heap ∧ T'.vm = t.vm ∧ XC E st₀ t ∧ t.heap[q]? = some ce ∧ ce.vm = .none ∧ s.vm.findClass E = some ce.cls ∧
      Steps p.tables e below (T.setTop g) ((T'.setTop { g with stack := rest }).pushFrame (.throwing q)))
def vx_X {S : Type} (px : S → Prop) (B : String → S → State → Prop) (A : Nat → Prop) : String → State → State → Prop := fun E st t => ∃ u : S, px u ∧ B E u t ∧ va_F A st t
section Runs
variable {p : Program} {l : Launch} {e : Env} {R : Room} {s : State} {m : MethodId} {args : Array Value} {below : List Frame} {meth : Method} {c : Code} {H : Heap} {locs : List Loc} {cells slots : Nat}
variable {y : MethodName} {bytes cc : ByteArray} {maxL nL mc ms n index : Nat} {ret : Option FieldType} {ws : List Cond} {rm : Room} {Pc : Array Value → State → Prop} {Qc : Array Value → State → Outcome → State → Prop} {XC : String → State → State → Prop} {free : Addr → Prop} {Ts : List Cond} {own C : String} {b : Addr} {As rest : List Value} {g : JFrame}
theorem vx_callBack (cb : CallB R s args own index y bytes maxL ret ws rm mc ms n) (hM : vx_Met l y ws rm Pc Qc XC mc ms free) (hbl : FrameBlind Pc) : vx_Back l R p e below s args y 3 8 (PreOf R mc ms Pc) (PostOf Qc mc ms free) (vx_Post XC mc ms free) := by
  obtain ⟨hrc, hrs, hfr, hlo, hws, hcw, -, hini, -⟩ := cb
  exact vx_back (bytes := bytes) (maxL := maxL) (ret := ret) hM hbl hrc hrs hfr hlo hws hcw (fun a' U hW => word_at hW (Or.inl (by first | rfl | simp [Cond.onTables, Cond.keeps, Cond.steady])) hini)
theorem vx_runV (S : CallFix p m c cc nL s args Ts own) (hM : vx_Met l y ws rm Pc Qc XC mc ms free) (cw : CallW R s args own C index y bytes maxL ret ws rm mc ms n) (hp : PreV s H C b Pc As)
    (hg : g.method = m) (hn : As.length = n) (hsize : g.locals.size = nL) (hstack : g.stack = As.reverse ++ .ref b :: rest) (hW : 2 * g.monitorRoom + (rest.map fun v => v.category).sum ≤ 8) (hdg : decode cc g.pc = .ok (.invokevirtual index, 3)) (hf : cells + mc ≤ R.cells ∧ slots + ms ≤ R.slots) :
    vx_Run p l e R s m args below meth c H locs cells slots mc ms g rest (Qc (Value.ref b :: As).toArray) XC free := by
  have hK : vx_Back l R p e below s args y 3 8 (PreOf R mc ms Pc) (PostOf Qc mc ms free) (vx_Post XC mc ms free) := vx_callBack cw.1 hM hp.1
  obtain ⟨⟨-, -, -, -, -, -, hcode, -, hy, hlen, hl⟩, hin, hse⟩ := cw
  obtain ⟨hx, hb, hml, ho, -⟩ := S
  obtain ⟨-, ⟨cellB, hcB, hoB, hclB⟩, hPc⟩ := hp
  intro T hT X
  rcases vx_callV X hx (C := C) (bytes := bytes) (maxL := maxL) (ret := ret) ho hl hin hse hcode hy hK (by rw [hT]; exact hcB) hoB hclB hg (hsize.trans hml.symm) (argsL := As) (rest := rest) (fun sig h => hn.trans (hlen sig h)) hstack hW (by rw [hb]; exact hdg)
    (fun vm₁ hW₁ => ⟨hf.1, hf.2, hPc (T.setVm vm₁) hT hW₁⟩) with ⟨v, vm₁, ⟨U', l2, c2, s2⟩, hW₁, X', ⟨g', mk, t, L, e1, e2, hq, h1, hL, h2, h3⟩, st⟩ | ⟨q, vm₁, ⟨U', l2, c2, s2⟩, hW₁, X', ⟨g', mk, t, L, E, ce, e1, e2, hq, hce, hcv, hcl, h1, hL, h2, h3⟩, st⟩
  · dsimp only [Pt.U, Pt.locs, Pt.cells, Pt.slots] at X' e1 e2 h1 h2 h3 st
    subst h1; subst h2; subst h3
    exact Or.inl ⟨v, (T.setVm vm₁).calling g' mk (Value.ref b :: As).toArray, t, U', L, hT, X', hL, e1, e2, hq, st⟩
  · dsimp only [Pt.U, Pt.locs, Pt.cells, Pt.slots] at X' e1 e2 h1 h2 h3 st hcl
    subst h1; subst h2; subst h3
    exact Or.inr ⟨q, (T.setVm vm₁).calling g' mk (Value.ref b :: As).toArray, t, U', L, E, ce, hT, X', hL, e1, e2, hq, hce, hcv, vx_cls hW₁ hcl, st⟩
theorem vx_runS (S : CallFix p m c cc nL s args Ts own) (hM : vx_Met l y ws rm Pc Qc XC mc ms free) (cw : CallB R s args own index y bytes maxL ret ws rm mc ms n ∧ (Cond.static y).before args s = true) (hp : PreS s H Pc As)
    (hg : g.method = m) (hn : As.length = n) (hsize : g.locals.size = nL) (hstack : g.stack = As.reverse ++ rest) (hW : 2 * g.monitorRoom + (rest.map fun v => v.category).sum ≤ 8) (hdg : decode cc g.pc = .ok (.invokestatic index, 3)) (hf : cells + mc ≤ R.cells ∧ slots + ms ≤ R.slots) :
    vx_Run p l e R s m args below meth c H locs cells slots mc ms g rest (Qc As.toArray) XC free := by
  have hK : vx_Back l R p e below s args y 3 8 (PreOf R mc ms Pc) (PostOf Qc mc ms free) (vx_Post XC mc ms free) := vx_callBack cw.1 hM hp.1
  obtain ⟨⟨-, -, -, -, -, -, hcode, hini, hy, hlen, hl⟩, hstt⟩ := cw
  obtain ⟨hx, hb, hml, ho, -⟩ := S
  intro T hT X
  rcases vx_callS X hx (bytes := bytes) (maxL := maxL) (ret := ret) ho hl hstt hini hcode hy hK hg (hsize.trans hml.symm) (argsL := As) (rest := rest) (fun sig h => hn.trans (hlen sig h)) hstack hW (by rw [hb]; exact hdg)
    (fun vm₁ hW₁ => ⟨hf.1, hf.2, hp.2 (T.setVm vm₁) hT hW₁⟩) with ⟨v, vm₁, ⟨U', l2, c2, s2⟩, hW₁, X', ⟨g', mk, t, L, e1, e2, hq, h1, hL, h2, h3⟩, st⟩ | ⟨q, vm₁, ⟨U', l2, c2, s2⟩, hW₁, X', ⟨g', mk, t, L, E, ce, e1, e2, hq, hce, hcv, hcl, h1, hL, h2, h3⟩, st⟩
  · dsimp only [Pt.U, Pt.locs, Pt.cells, Pt.slots] at X' e1 e2 h1 h2 h3 st
    subst h1; subst h2; subst h3
    exact Or.inl ⟨v, (T.setVm vm₁).calling g' mk As.toArray, t, U', L, hT, X', hL, e1, e2, hq, st⟩
  · dsimp only [Pt.U, Pt.locs, Pt.cells, Pt.slots] at X' e1 e2 h1 h2 h3 st hcl
    subst h1; subst h2; subst h3
    exact Or.inr ⟨q, (T.setVm vm₁).calling g' mk As.toArray, t, U', L, E, ce, hT, X', hL, e1, e2, hq, hce, hcv, vx_cls hW₁ hcl, st⟩
end Runs
section Rows
variable {p : Program} {l : Launch} {e : Env} {R : Room} {s : State} {m : MethodId} {args : Array Value} {below : List Frame} {meth : Method} {c : Code} {H : Heap} {locs : List Loc} {cells slots : Nat} {Q : State → Prop}
variable {mc ms : Nat} {free : Addr → Prop} {A0 A1 : Nat → Prop} {H0 : Heap} {a : Array Value} {pc : Nat} {ls : Array Slot} {st0 rest : List Value}
theorem vx_keep {st₀ t T' : State} {L : List Loc} (h0 : st₀.heap = H) (e1 : T'.heap = t.heap) (hS : va_S A0 H0 H locs) (hA : ∀ q, q < H.size → A1 q → A0 q) (hf : ∀ q, free q → A0 q) (hL : ∀ q ∈ L, free q.base) (hF : va_F A1 st₀ t) :
    H.size ≤ T'.heap.size ∧ (∀ q : Nat, q < H.size → ¬ A1 q → T'.heap[q]? = H[q]?) ∧ va_S A0 H0 T'.heap (locs ++ L) := by
  obtain ⟨hz, hk⟩ := hF
  rw [h0] at hz hk
  exact ⟨by rw [e1]; exact hz, fun q h1 h2 => by rw [e1]; exact hk q h1 h2,
    ⟨Nat.le_trans hS.1 (by rw [e1]; exact hz), fun q h1 h2 => by rw [e1, hk q (Nat.lt_of_lt_of_le h1 hS.1) (fun z => h2 (hA q (Nat.lt_of_lt_of_le h1 hS.1) z))]; exact hS.2.1 q h1 h2, fun q hq => by
      rcases List.mem_append.mp hq with h | h
      · exact hS.2.2 q h
      · exact hf _ (hL q h)⟩⟩
theorem vx_calli {S SX : Type} {post : Int32 → S → Prop} {px : SX → Prop} {B : S → State → Prop} {BX : String → SX → State → Prop} {AX : Nat → Prop} (hr : vx_Run p l e R s m args below meth c H locs cells slots mc ms (F0 m pc ls st0) rest (va_Qi post B A1 a) (vx_X px BX AX) free) (hS : va_S A0 H0 H locs) (hA : ∀ q, q < H.size → A1 q → A0 q) (hf : ∀ q, free q → A0 q) (hAX : ∀ q, q < H.size → AX q → A0 q)
    (kx : ∀ (E : String) (ce : Cell) (q9 : Addr) (u : SX) (t : State) (H1 : Heap) (locs1 : List Loc), t.heap = H1 → s.vm.Alike t.vm → px u → BX E u t → H.size ≤ H1.size → (∀ q : Nat, q < H.size → ¬ AX q → H1[q]? = H[q]?) → va_S A0 H0 H1 locs1 → H1[q9]? = some ce → ce.vm = .none → s.vm.findClass E = some ce.cls → vx_W p l e R s m args below meth c H1 locs1 (cells + mc) (slots + ms) Q (F0 m pc ls rest) q9)
    (kk : ∀ (r : Int32) (u : S) (t : State) (H1 : Heap) (locs1 : List Loc), t.heap = H1 → s.vm.Alike t.vm → post r u → B u t → H.size ≤ H1.size → (∀ q : Nat, q < H.size → ¬ A1 q → H1[q]? = H[q]?) → va_S A0 H0 H1 locs1 → W p l e R s m args below meth c H1 locs1 (cells + mc) (slots + ms) Q (F0 m (pc + 3) ls (.int r :: rest))) : W p l e R s m args below meth c H locs cells slots Q (F0 m pc ls st0) := by
  intro T hT X
  rcases hr T hT X with ⟨v, st₀, t, T', L, h0, X', hL, e1, e2, ⟨⟨r, u, hv, hp, hb⟩, hF⟩, st⟩ | ⟨q, st₀, t, T', L, E, ce, h0, X', hL, e1, e2, ⟨u, hp, hb, hF⟩, hce, hcv, hcl, st⟩
  · cases hv
    obtain ⟨k1, k2, k3⟩ := vx_keep h0 e1 hS hA hf hL hF
    obtain ⟨t2, a1, b1⟩ := kk r u t T'.heap (locs ++ L) e1.symm (by rw [← e2]; exact X'.warmed.alike) hp hb k1 k2 k3 T' rfl X'
    exact ⟨t2, st t2 a1, b1⟩
  · obtain ⟨k1, k2, k3⟩ := vx_keep h0 e1 hS hAX hf hL hF
    obtain ⟨t2, a1, b1⟩ := kx E ce q u t T'.heap (locs ++ L) e1.symm (by rw [← e2]; exact X'.warmed.alike) hp hb k1 k2 k3 (by rw [e1]; exact hce) hcv hcl T' rfl X'
    exact ⟨t2, st.trans a1, b1⟩
theorem vx_calll {S SX : Type} {post : Int64 → S → Prop} {px : SX → Prop} {B : S → State → Prop} {BX : String → SX → State → Prop} {AX : Nat → Prop} (hr : vx_Run p l e R s m args below meth c H locs cells slots mc ms (F0 m pc ls st0) rest (va_Ql post B A1 a) (vx_X px BX AX) free) (hS : va_S A0 H0 H locs) (hA : ∀ q, q < H.size → A1 q → A0 q) (hf : ∀ q, free q → A0 q) (hAX : ∀ q, q < H.size → AX q → A0 q)
    (kx : ∀ (E : String) (ce : Cell) (q9 : Addr) (u : SX) (t : State) (H1 : Heap) (locs1 : List Loc), t.heap = H1 → s.vm.Alike t.vm → px u → BX E u t → H.size ≤ H1.size → (∀ q : Nat, q < H.size → ¬ AX q → H1[q]? = H[q]?) → va_S A0 H0 H1 locs1 → H1[q9]? = some ce → ce.vm = .none → s.vm.findClass E = some ce.cls → vx_W p l e R s m args below meth c H1 locs1 (cells + mc) (slots + ms) Q (F0 m pc ls rest) q9)
    (kk : ∀ (r : Int64) (u : S) (t : State) (H1 : Heap) (locs1 : List Loc), t.heap = H1 → s.vm.Alike t.vm → post r u → B u t → H.size ≤ H1.size → (∀ q : Nat, q < H.size → ¬ A1 q → H1[q]? = H[q]?) → va_S A0 H0 H1 locs1 → W p l e R s m args below meth c H1 locs1 (cells + mc) (slots + ms) Q (F0 m (pc + 3) ls (.long r :: rest))) : W p l e R s m args below meth c H locs cells slots Q (F0 m pc ls st0) := by
  intro T hT X
  rcases hr T hT X with ⟨v, st₀, t, T', L, h0, X', hL, e1, e2, ⟨⟨r, u, hv, hp, hb⟩, hF⟩, st⟩ | ⟨q, st₀, t, T', L, E, ce, h0, X', hL, e1, e2, ⟨u, hp, hb, hF⟩, hce, hcv, hcl, st⟩
  · cases hv
    obtain ⟨k1, k2, k3⟩ := vx_keep h0 e1 hS hA hf hL hF
    obtain ⟨t2, a1, b1⟩ := kk r u t T'.heap (locs ++ L) e1.symm (by rw [← e2]; exact X'.warmed.alike) hp hb k1 k2 k3 T' rfl X'
    exact ⟨t2, st t2 a1, b1⟩
  · obtain ⟨k1, k2, k3⟩ := vx_keep h0 e1 hS hAX hf hL hF
    obtain ⟨t2, a1, b1⟩ := kx E ce q u t T'.heap (locs ++ L) e1.symm (by rw [← e2]; exact X'.warmed.alike) hp hb k1 k2 k3 (by rw [e1]; exact hce) hcv hcl T' rfl X'
    exact ⟨t2, st.trans a1, b1⟩
theorem vx_callf {S SX : Type} {post : UInt32 → S → Prop} {px : SX → Prop} {B : S → State → Prop} {BX : String → SX → State → Prop} {AX : Nat → Prop} (hr : vx_Run p l e R s m args below meth c H locs cells slots mc ms (F0 m pc ls st0) rest (va_Qf post B A1 a) (vx_X px BX AX) free) (hS : va_S A0 H0 H locs) (hA : ∀ q, q < H.size → A1 q → A0 q) (hf : ∀ q, free q → A0 q) (hAX : ∀ q, q < H.size → AX q → A0 q)
    (kx : ∀ (E : String) (ce : Cell) (q9 : Addr) (u : SX) (t : State) (H1 : Heap) (locs1 : List Loc), t.heap = H1 → s.vm.Alike t.vm → px u → BX E u t → H.size ≤ H1.size → (∀ q : Nat, q < H.size → ¬ AX q → H1[q]? = H[q]?) → va_S A0 H0 H1 locs1 → H1[q9]? = some ce → ce.vm = .none → s.vm.findClass E = some ce.cls → vx_W p l e R s m args below meth c H1 locs1 (cells + mc) (slots + ms) Q (F0 m pc ls rest) q9)
    (kk : ∀ (r : UInt32) (u : S) (t : State) (H1 : Heap) (locs1 : List Loc), t.heap = H1 → s.vm.Alike t.vm → post r u → B u t → H.size ≤ H1.size → (∀ q : Nat, q < H.size → ¬ A1 q → H1[q]? = H[q]?) → va_S A0 H0 H1 locs1 → W p l e R s m args below meth c H1 locs1 (cells + mc) (slots + ms) Q (F0 m (pc + 3) ls (.float r :: rest))) : W p l e R s m args below meth c H locs cells slots Q (F0 m pc ls st0) := by
  intro T hT X
  rcases hr T hT X with ⟨v, st₀, t, T', L, h0, X', hL, e1, e2, ⟨⟨r, u, hv, hp, hb⟩, hF⟩, st⟩ | ⟨q, st₀, t, T', L, E, ce, h0, X', hL, e1, e2, ⟨u, hp, hb, hF⟩, hce, hcv, hcl, st⟩
  · cases hv
    obtain ⟨k1, k2, k3⟩ := vx_keep h0 e1 hS hA hf hL hF
    obtain ⟨t2, a1, b1⟩ := kk r u t T'.heap (locs ++ L) e1.symm (by rw [← e2]; exact X'.warmed.alike) hp hb k1 k2 k3 T' rfl X'
    exact ⟨t2, st t2 a1, b1⟩
  · obtain ⟨k1, k2, k3⟩ := vx_keep h0 e1 hS hAX hf hL hF
    obtain ⟨t2, a1, b1⟩ := kx E ce q u t T'.heap (locs ++ L) e1.symm (by rw [← e2]; exact X'.warmed.alike) hp hb k1 k2 k3 (by rw [e1]; exact hce) hcv hcl T' rfl X'
    exact ⟨t2, st.trans a1, b1⟩
theorem vx_calld {S SX : Type} {post : UInt64 → S → Prop} {px : SX → Prop} {B : S → State → Prop} {BX : String → SX → State → Prop} {AX : Nat → Prop} (hr : vx_Run p l e R s m args below meth c H locs cells slots mc ms (F0 m pc ls st0) rest (va_Qd post B A1 a) (vx_X px BX AX) free) (hS : va_S A0 H0 H locs) (hA : ∀ q, q < H.size → A1 q → A0 q) (hf : ∀ q, free q → A0 q) (hAX : ∀ q, q < H.size → AX q → A0 q)
    (kx : ∀ (E : String) (ce : Cell) (q9 : Addr) (u : SX) (t : State) (H1 : Heap) (locs1 : List Loc), t.heap = H1 → s.vm.Alike t.vm → px u → BX E u t → H.size ≤ H1.size → (∀ q : Nat, q < H.size → ¬ AX q → H1[q]? = H[q]?) → va_S A0 H0 H1 locs1 → H1[q9]? = some ce → ce.vm = .none → s.vm.findClass E = some ce.cls → vx_W p l e R s m args below meth c H1 locs1 (cells + mc) (slots + ms) Q (F0 m pc ls rest) q9)
    (kk : ∀ (r : UInt64) (u : S) (t : State) (H1 : Heap) (locs1 : List Loc), t.heap = H1 → s.vm.Alike t.vm → post r u → B u t → H.size ≤ H1.size → (∀ q : Nat, q < H.size → ¬ A1 q → H1[q]? = H[q]?) → va_S A0 H0 H1 locs1 → W p l e R s m args below meth c H1 locs1 (cells + mc) (slots + ms) Q (F0 m (pc + 3) ls (.double r :: rest))) : W p l e R s m args below meth c H locs cells slots Q (F0 m pc ls st0) := by
  intro T hT X
  rcases hr T hT X with ⟨v, st₀, t, T', L, h0, X', hL, e1, e2, ⟨⟨r, u, hv, hp, hb⟩, hF⟩, st⟩ | ⟨q, st₀, t, T', L, E, ce, h0, X', hL, e1, e2, ⟨u, hp, hb, hF⟩, hce, hcv, hcl, st⟩
  · cases hv
    obtain ⟨k1, k2, k3⟩ := vx_keep h0 e1 hS hA hf hL hF
    obtain ⟨t2, a1, b1⟩ := kk r u t T'.heap (locs ++ L) e1.symm (by rw [← e2]; exact X'.warmed.alike) hp hb k1 k2 k3 T' rfl X'
    exact ⟨t2, st t2 a1, b1⟩
  · obtain ⟨k1, k2, k3⟩ := vx_keep h0 e1 hS hAX hf hL hF
    obtain ⟨t2, a1, b1⟩ := kx E ce q u t T'.heap (locs ++ L) e1.symm (by rw [← e2]; exact X'.warmed.alike) hp hb k1 k2 k3 (by rw [e1]; exact hce) hcv hcl T' rfl X'
    exact ⟨t2, st.trans a1, b1⟩
theorem vx_callv {S SX : Type} {post : S → Prop} {px : SX → Prop} {B : S → State → Prop} {BX : String → SX → State → Prop} {AX : Nat → Prop} (hr : vx_Run p l e R s m args below meth c H locs cells slots mc ms (F0 m pc ls st0) rest (va_Qv post B A1 a) (vx_X px BX AX) free) (hS : va_S A0 H0 H locs) (hA : ∀ q, q < H.size → A1 q → A0 q) (hf : ∀ q, free q → A0 q) (hAX : ∀ q, q < H.size → AX q → A0 q)
    (kx : ∀ (E : String) (ce : Cell) (q9 : Addr) (u : SX) (t : State) (H1 : Heap) (locs1 : List Loc), t.heap = H1 → s.vm.Alike t.vm → px u → BX E u t → H.size ≤ H1.size → (∀ q : Nat, q < H.size → ¬ AX q → H1[q]? = H[q]?) → va_S A0 H0 H1 locs1 → H1[q9]? = some ce → ce.vm = .none → s.vm.findClass E = some ce.cls → vx_W p l e R s m args below meth c H1 locs1 (cells + mc) (slots + ms) Q (F0 m pc ls rest) q9)
    (kk : ∀ (u : S) (t : State) (H1 : Heap) (locs1 : List Loc), t.heap = H1 → s.vm.Alike t.vm → post u → B u t → H.size ≤ H1.size → (∀ q : Nat, q < H.size → ¬ A1 q → H1[q]? = H[q]?) → va_S A0 H0 H1 locs1 → W p l e R s m args below meth c H1 locs1 (cells + mc) (slots + ms) Q (F0 m (pc + 3) ls (rest))) : W p l e R s m args below meth c H locs cells slots Q (F0 m pc ls st0) := by
  intro T hT X
  rcases hr T hT X with ⟨v, st₀, t, T', L, h0, X', hL, e1, e2, ⟨⟨u, hv, hp, hb⟩, hF⟩, st⟩ | ⟨q, st₀, t, T', L, E, ce, h0, X', hL, e1, e2, ⟨u, hp, hb, hF⟩, hce, hcv, hcl, st⟩
  · cases hv
    obtain ⟨k1, k2, k3⟩ := vx_keep h0 e1 hS hA hf hL hF
    obtain ⟨t2, a1, b1⟩ := kk u t T'.heap (locs ++ L) e1.symm (by rw [← e2]; exact X'.warmed.alike) hp hb k1 k2 k3 T' rfl X'
    exact ⟨t2, st t2 a1, b1⟩
  · obtain ⟨k1, k2, k3⟩ := vx_keep h0 e1 hS hAX hf hL hF
    obtain ⟨t2, a1, b1⟩ := kx E ce q u t T'.heap (locs ++ L) e1.symm (by rw [← e2]; exact X'.warmed.alike) hp hb k1 k2 k3 (by rw [e1]; exact hce) hcv hcl T' rfl X'
    exact ⟨t2, st.trans a1, b1⟩
/-- caught by the row x of this method's table; the rows ahead don't take it -/
theorem vx_catch {own name : String} {E : String} {ce : Cell} {q : Addr} (hown : s.vm.findClass own = some m.cls) (pre : List ExceptionTableEntry) (x : ExceptionTableEntry) (suf : List ExceptionTableEntry) (hsplit : c.exceptionTable.toList = pre ++ x :: suf)
    (hpass : ∀ z ∈ pre, covers z pc = false ∨ (z.catchType ≠ 0 ∧ ∃ nm : String, (Cond.classLink own z.catchType nm).before args s = true ∧ va_Nc E nm s)) (hx : covers x pc = true) (h0 : x.catchType ≠ 0)
    (hlink : (Cond.classLink own x.catchType name).before args s = true) (hcast : (Cond.castable E name).before args s = true) (hcell : H[q]? = some ce) (hv : ce.vm = .none) (hcl : s.vm.findClass E = some ce.cls)
    (kk : W p l e R s m args below meth c H locs cells slots Q (F0 m x.handlerPc ls [.ref q])) : vx_W p l e R s m args below meth c H locs cells slots Q (F0 m pc ls rest) q := by
  intro T hT X
  have hpl : e.platform.magicAccessors = ({} : Platform).magicAccessors := by rw [X.admits.platform]
  obtain ⟨c3, c4, hc3, hc4, hasg⟩ := Cond.castable_spec hcast
  cases Option.some.inj (hc3.symm.trans hcl)
  obtain ⟨c5, hc5, hcl5⟩ := Cond.classLink_spec hown hlink e.platform hpl
  cases Option.some.inj (hc4.symm.trans hc5)
  obtain ⟨vm', X', st⟩ := X.thenCaughtThrough q (g := F0 m pc ls rest) rfl (Steps.refl _) (by rw [hT]; exact hcell) (by rw [hv]; rfl) (by obtain ⟨k9, h9, -⟩ := Vm.findClass_spec hcl; exact ⟨k9, h9⟩) pre x suf hsplit
    (fun z hz => by
      rcases hpass z hz with h | ⟨hz0, nm, hl1, hn1⟩
      · exact Or.inl h
      · obtain ⟨c6, hc6, hcl6⟩ := Cond.classLink_spec hown hl1 e.platform hpl
        obtain ⟨a8, b8, h1, h2, h3⟩ := hn1
        cases Option.some.inj (h1.symm.trans hcl)
        cases Option.some.inj (h2.symm.trans hc6)
        exact Or.inr ⟨hz0, _, hcl6, h3⟩) hx (Or.inr ⟨h0, c4, hcl5, hasg⟩)
  obtain ⟨t, a1, b1⟩ := kk (T.setVm vm') hT X'
  exact ⟨t, st.trans a1, b1⟩
end Rows
section Ends
variable {p : Program} {l : Launch} {e : Env} {R : Room} {s : State} {m : MethodId} {args : Array Value} {below : List Frame} {meth : Method} {c : Code} {H : Heap} {locs : List Loc} {cells slots : Nat} {Q : State → Prop}
variable {mc ms : Nat} {free : Addr → Prop} {A0 A1 : Nat → Prop} {H0 : Heap} {a : Array Value} {ls : Array Slot} {st0 rest : List Value}
variable {Qc : Array Value → State → Outcome → State → Prop} {XC : String → State → State → Prop}
/-- what a body that may throw owes at its end -/
def vx_MQ (below : List Frame) (Qc : Array Value → State → Outcome → State → Prop) (XC : String → State → State → Prop) (a : Array Value) (s : State) (mc ms : Nat) (free : Addr → Prop) : State → Prop := fun t =>
  ∃ o, t.status = .running ∧ Ended t below o ∧ vx_Q Qc XC mc ms free a s o t
theorem vx_ret {g : JFrame} {mc ms : Nat} (k : W p l e R s m args below meth c H locs cells slots (MQ below Qc args s mc ms free) g) : W p l e R s m args below meth c H locs cells slots (vx_MQ below Qc XC args s mc ms free) g := by
  intro T hT X
  obtain ⟨t, a1, o, b1, b2, b3, b4⟩ := k T hT X
  exact ⟨t, a1, o, b1, b2, Or.inl ⟨b3, b4⟩⟩
/-- not caught here: it goes on to the caller -/
theorem vx_widen {g : JFrame} {q : Addr} {k n : Nat} (h1 : cells ≤ k) (h2 : slots ≤ n) (kk : vx_W p l e R s m args below meth c H locs k n Q g q) : vx_W p l e R s m args below meth c H locs cells slots Q g q := fun T hT X => kk T hT (stand_widen X h1 h2)
theorem vx_out {pc : Nat} {E : String} {ce : Cell} {q : Addr} {mc ms : Nat} (hout : ∀ x ∈ c.exceptionTable.toList, covers x pc = false) (hlocks : meth.locks = false) (hcell : H[q]? = some ce) (hv : ce.vm = .none) (hcl : s.vm.findClass E = some ce.cls)
    (hx : ∀ t : State, t.heap = H → s.vm.Alike t.vm → XC E s t) (hf : ∀ z ∈ locs, free z.base) (hc : cells ≤ mc) (hs : slots ≤ ms) :
    vx_W p l e R s m args below meth c H locs cells slots (vx_MQ below Qc XC args s mc ms free) (F0 m pc ls rest) q := by
  intro T hT X
  obtain ⟨st1, hrun, hend, hW, hsm⟩ := X.leaveThrown q (g := F0 m pc ls rest) rfl rfl rfl hout hlocks
  have hcell9 : (T.setFrames (.throwing q :: below)).heap[q]? = some ce := by
    show T.heap[q]? = some ce
    rw [hT]; exact hcell
  exact ⟨_, st1, .threw q, hrun, hend, Or.inr ⟨q, rfl, E, ce, locs, hx _ hT hW.alike, hcell9, hv, hcl, hW, hsm.mono hc hs, hf⟩⟩
theorem vx_frame {U : State} {k n : Nat} (h : s.sameButNew ({ U with vm := s.vm } : State) locs k n) : s.heap.size ≤ U.heap.size ∧ ∀ q : Nat, q < s.heap.size → (∀ z ∈ locs, z.base ≠ q) → U.heap[q]? = s.heap[q]? := by
  obtain ⟨-, h2, -, -, -, h6⟩ := h
  refine ⟨h2, fun q hq hz => ?_⟩
  obtain ⟨c9, e1, e2, e3, e4⟩ := h6 q _ (Array.getElem?_eq_getElem hq)
  have hs : c9.slots = (s.heap[q]).slots := Array.ext_getElem? fun i => e4 i fun hm => hz _ hm rfl
  have h9 : c9 = s.heap[q] := by
    rw [hs] at e2
    exact e2
  have e5 : U.heap[q]? = some c9 := e1
  rw [e5, h9, Array.getElem?_eq_getElem hq]
/-- the words of a throw but the four that speak of the heap -/
def vx_no (w : Cond) : Bool := decide (w ≠ .isRef (.static Bundle.tN "UNASSIGNED_STACK" Bundle.steD)) && decide (w ≠ .isRef (.static Bundle.tN "SUPPRESSED_SENTINEL" Bundle.listD)) && decide (w ≠ .laysStatic Bundle.tN "UNASSIGNED_STACK" Bundle.steD) && decide (w ≠ .laysStatic Bundle.tN "SUPPRESSED_SENTINEL" Bundle.listD)
def vx_at0 (own : String) (ic : Nat) (X : String) (names : List String) : List Cond := (Bundle.ownAtoms0 own ic X names).filter vx_no
def vx_atS (own : String) (ic : Nat) (X : String) (names : List String) : List Cond := (Bundle.ownAtoms own ic X names).filter vx_no
/-- a word that the tables alone decide, or a good one -/
def vx_ot (w : Cond) : Bool := w.onTables || goodWord w
theorem vx_ot_at {args a' : Array Value} {s U : State} {w : Cond} (hW : s.WarmedH U.vm) (hvm : s.vm = U.vm) (hg : vx_ot w = true) (h : w.before args s = true) : w.before a' U = true := by
  simp only [vx_ot, Bool.or_eq_true] at hg
  rcases hg with hg | hg
  · exact va_tabs hg hvm h
  · exact word_at hW (good_of_word hg) h
/-- a list's words: the good ones out of the method's own list, the others by premises of their own -/
theorem vx_hat {args : Array Value} {s : State} {L B : List Cond} (h1 : ∀ w ∈ L.filter goodWord, w.before args s = true) (h2 : ∀ w ∈ L.filter (fun w => !goodWord w), w ∈ B) (h3 : ∀ w ∈ B, w.before args s = true) : ∀ w ∈ L, w.before args s = true := by
  intro w hw
  by_cases g : goodWord w = true
  · exact h1 w (List.mem_filter.mpr ⟨hw, g⟩)
  · refine h3 w (h2 w (List.mem_filter.mpr ⟨hw, ?_⟩))
    show (!goodWord w) = true
    cases hgw : goodWord w
    · rfl
    · exact absurd hgw g
theorem vx_c {args : Array Value} {s : State} {w : Cond} {B : List Cond} (h : w.before args s = true) (t : ∀ w ∈ B, w.before args s = true) : ∀ w' ∈ w :: B, w'.before args s = true := fun w' h' => (List.mem_cons.mp h').elim (fun e => by rw [e]; exact h) (t w')
theorem vx_n {args : Array Value} {s : State} : ∀ w ∈ ([] : List Cond), w.before args s = true := fun _ h => nomatch h
theorem vx_own {args : Array Value} {s : State} {L : List Cond} (h1 : ∀ w ∈ L.filter vx_no, w.before args s = true)
    (hU : (Cond.isRef (.static Bundle.tN "UNASSIGNED_STACK" Bundle.steD)).before args s = true) (hN : (Cond.isRef (.static Bundle.tN "SUPPRESSED_SENTINEL" Bundle.listD)).before args s = true)
    (lU : (Cond.laysStatic Bundle.tN "UNASSIGNED_STACK" Bundle.steD).before args s = true) (lN : (Cond.laysStatic Bundle.tN "SUPPRESSED_SENTINEL" Bundle.listD).before args s = true) : ∀ w ∈ L, w.before args s = true := by
  intro w hw
  by_cases e1 : w = .isRef (.static Bundle.tN "UNASSIGNED_STACK" Bundle.steD)
  · rw [e1]; exact hU
  · by_cases e2 : w = .isRef (.static Bundle.tN "SUPPRESSED_SENTINEL" Bundle.listD)
    · rw [e2]; exact hN
    · by_cases e3 : w = .laysStatic Bundle.tN "UNASSIGNED_STACK" Bundle.steD
      · rw [e3]; exact lU
      · by_cases e4 : w = .laysStatic Bundle.tN "SUPPRESSED_SENTINEL" Bundle.listD
        · rw [e4]; exact lN
        · exact h1 w (List.mem_filter.mpr ⟨hw, by unfold vx_no; rw [decide_eq_true e1, decide_eq_true e2, decide_eq_true e3, decide_eq_true e4]; rfl⟩)
/-- where a static field lies, its class's statics cell in H -/
def vx_L (C n d : String) (A : Nat → Prop) (U : State) (H : Heap) : Prop := ∃ (c : ClassId) (k : Class) (i : Nat) (f : Field) (a : Nat) (cell : Cell), U.vm.findClass C = some c ∧ U.fieldFound? C n d = some (c, k, i, f) ∧ f.isStatic = true ∧ k.statics = some a ∧ H[a]? = some cell ∧ cell.vm.isStatics = true ∧ cell.cls = c ∧ f.slot < cell.slots.size ∧ k.staticTypes[f.slot]? = some f.type ∧ ¬ A a
theorem vx_L.moved {C n d : String} {A : Nat → Prop} {u U : State} {H : Heap} (hvm : u.vm.Alike U.vm) (h : vx_L C n d A u H) : vx_L C n d A U H := by
  obtain ⟨c, k, i, f, a, cell, h1, h2, h3, h4, h5, h6, h7, h8, h9, h10⟩ := h
  obtain ⟨k', hi', he⟩ := State.fieldFound?_setVm hvm h2
  exact ⟨c, k', i, f, a, cell, by rw [hvm.findClass]; exact h1, hi', h3, by rw [he]; exact h4, h5, h6, h7, h8, by rw [he]; exact h9, h10⟩
theorem vx_L.kept {C n d : String} {A : Nat → Prop} {U : State} {H H1 : Heap} (h : vx_L C n d A U H) (hq : ∀ a : Nat, a < H.size → ¬ A a → H1[a]? = H[a]?) : vx_L C n d A U H1 := by
  obtain ⟨c, k, i, f, a, cell, h1, h2, h3, h4, h5, h6, h7, h8, h9, h10⟩ := h
  exact ⟨c, k, i, f, a, cell, h1, h2, h3, h4, by rw [hq a (Array.getElem?_eq_some_iff.mp h5).1 h10]; exact h5, h6, h7, h8, h9, h10⟩
theorem vx_L.narrow {C n d : String} {A B : Nat → Prop} {U : State} {H : Heap} (h : vx_L C n d A U H) (hAB : ∀ q, B q → A q) : vx_L C n d B U H := by
  obtain ⟨c, k, i, f, a, cell, h1, h2, h3, h4, h5, h6, h7, h8, h9, h10⟩ := h
  exact ⟨c, k, i, f, a, cell, h1, h2, h3, h4, h5, h6, h7, h8, h9, fun z => h10 (hAB _ z)⟩
theorem vx_L.word {C n d : String} {A : Nat → Prop} {s : State} {args : Array Value} (h : vx_L C n d A s s.heap) : (Cond.laysStatic C n d).before args s = true := by
  obtain ⟨c, k, i, f, a, cell, h1, h2, h3, h4, h5, h6, h7, h8, h9, -⟩ := h
  show (Cond.laysStatic C n d).holds args s none s [] = true
  exact Cond.laysStatic_of h1 h2 h3 h4 h5 h6 h7 h8 h9
/-- .. and what it holds: null or some reference -/
def vx_Zq (C n d : String) (A : Nat → Prop) (U : State) (H : Heap) : Prop := va_Zq C n d A U H ∧ vx_L C n d A U H
theorem vx_Zq.moved {C n d : String} {A : Nat → Prop} {u U : State} {H : Heap} (hvm : u.vm.Alike U.vm) (h : vx_Zq C n d A u H) : vx_Zq C n d A U H := ⟨va_Zq.moved hvm h.1, vx_L.moved hvm h.2⟩
theorem vx_Zq.kept {C n d : String} {A : Nat → Prop} {U : State} {H H1 : Heap} (h : vx_Zq C n d A U H) (hq : ∀ a : Nat, a < H.size → ¬ A a → H1[a]? = H[a]?) : vx_Zq C n d A U H1 := ⟨va_Zq.kept h.1 hq, vx_L.kept h.2 hq⟩
theorem vx_Zq.narrow {C n d : String} {A B : Nat → Prop} {U : State} {H : Heap} (h : vx_Zq C n d A U H) (hAB : ∀ q, B q → A q) : vx_Zq C n d B U H := ⟨va_Zq.narrow h.1 hAB, vx_L.narrow h.2 hAB⟩
theorem vx_Zqof {args : Array Value} {s : State} {C n d : String} {A : Nat → Prop} (hl : (Cond.laysStatic C n d).before args s = true) (hini : (Cond.initialized C).before args s = true) (h : (Cond.isRef (.static C n d)).before args s = true) (hA : ∀ a : Nat, a < s.heap.size → ¬ A a) : vx_Zq C n d A s s.heap := by
  refine ⟨va_Zqof hl hini h hA, ?_⟩
  obtain ⟨c, k, i, f, a, cell, h1, h2, h3, h4, h5, h6, h7, h8, h9⟩ := Cond.laysStatic_spec hl
  exact ⟨c, k, i, f, a, cell, h1, h2, h3, h4, h5, h6, h7, h8, h9, hA a (Array.getElem?_eq_some_iff.mp h5).1⟩
theorem vx_isRef {C n d : String} {v : Value} {A : Nat → Prop} {s : State} {args : Array Value} (h : va_Z C n d v A s s.heap) (hv : v.isRef = true) : (Cond.isRef (.static C n d)).before args s = true := by
  obtain ⟨cf, kf, fi, f, a, cell, h1, h2, h3, h4, h5, h6, h7, -⟩ := h
  have he : (Term.static C n d).eval args s none [] s = some v := by
    simp [Term.eval, State.fieldNamed?, h1, h2, h4, h5, h6, h7]
  simp only [Cond.before, Cond.holds, Cond.value, he]
  cases v <;> simp_all [Value.isRef]
theorem vx_isRefq {C n d : String} {A : Nat → Prop} {s : State} {args : Array Value} (h : va_Zq C n d A s s.heap) : (Cond.isRef (.static C n d)).before args s = true := by
  rcases h with h | ⟨t, h⟩
  · exact vx_isRef h rfl
  · exact vx_isRef h rfl
/-- the same frame, seen from here: as if the method were called anew in this heap -/
theorem vx_rebase {T : State} (X : Stand p l e R s m args below meth c T locs cells slots) {R' : Room} (hf : R'.frames ≤ R.frames) (hl : R'.locals ≤ R.locals) (hc : cells + R'.cells ≤ R.cells) (hs : slots + R'.slots ≤ R.slots) :
    Stand p l e R' ((T.setVm s.vm).setFrames (.invoking m args :: below)) m args below meth c T [] 0 0 := by
  have htop : (T.setVm s.vm).topJava?.isSome := X.here.top
  have hF : ((T.setVm s.vm).setFrames (.invoking m args :: below)).frames = .invoking m args :: below := State.frames_setFrames _ (State.cur_lt_of_top htop)
  obtain ⟨g₀, hg0⟩ := Option.isSome_iff_exists.mp htop
  obtain ⟨r, hr⟩ := State.topJava?_eq_some.mp hg0
  have hl9 : e.platform.stackLimits (T.setVm s.vm).me = e.platform.stackLimits s.me := X.limits
  have hb9 : (T.setVm s.vm).me.stackBytes = s.me.stackBytes := X.bytes
  refine ⟨X.admits, X.cas, X.clock, hF, ?_, X.hears, X.method, X.code, X.here, X.tail, X.warmed, ?_, ?_, ?_⟩
  · have h := X.room
    have hU : ((T.setVm s.vm).setFrames (.invoking m args :: below)).localsInUse = s.localsInUse := by
      rw [State.localsInUse_invoking hF (meth := meth) (c := c) X.method X.code, State.localsInUse_invoking X.frames X.method X.code]
    simp only [State.hasRoom, Bool.and_eq_true, decide_eq_true_eq] at h ⊢
    obtain ⟨⟨⟨⟨h1, h2, h3, h4, h5, h6⟩, h7⟩, h8⟩, h9⟩ := h
    rw [X.frames, List.length_cons] at h2 h3
    have q1 := X.heapSize
    have q2 := X.used
    simp only [hF, hU, List.length_cons, State.stackLimits_setFrames, State.stackBytes_setFrames, hl9, hb9]
    refine ⟨⟨⟨⟨by omega, by omega, by omega, by omega, by omega, h6⟩, ?_⟩, ?_⟩, X.book⟩
    · show T.heap.size + R'.cells ≤ e.platform.maxCells
      omega
    · show T.slotsUsed + R'.slots ≤ e.platform.maxSlots
      omega
  · rw [State.stackLimits_setFrames]; rfl
  · rw [State.stackBytes_setFrames]; rfl
  · refine ⟨?_, Nat.le_refl _, Nat.le_refl _, ?_, ?_, fun a c9 h9 => ⟨c9, h9, rfl, rfl, fun _ _ => rfl⟩⟩
    · obtain ⟨t, ht, -⟩ := State.frames_cons hr
      show T.setVm s.vm = { ((T.setVm s.vm).setFrames (.invoking m args :: below)).setFrames (T.setVm s.vm).frames with heap := T.heap, slotsUsed := T.slotsUsed }
      rw [State.setFrames_setFrames, State.setFrames_self ht]
      rfl
    · show T.slotsUsed = T.slotsUsed + ((T.heap.toList.drop T.heap.size).map (·.slots.size)).sum
      rw [List.drop_eq_nil_of_le (Nat.le_of_eq Array.length_toList)]
      rfl
    · show ((T.heap.toList.drop T.heap.size).map (·.slots.size)).sum ≤ 0
      rw [List.drop_eq_nil_of_le (Nat.le_of_eq Array.length_toList)]
      exact Nat.le_refl _
/-- 'throw new E()': new; dup; invokespecial; athrow -/
theorem vx_throw0 {cc : ByteArray} {pc : Nat} (hexec : p.tables.exec = Jvm.exec) (hb : c.code = cc) (hl : l.stackTraces = false) {own cls : String} {names : List String} {ik ic mc ms : Nat} {A : Nat → Prop}
    (hown : s.vm.findClass own = some m.cls) (hcls : Bundle.fit cls = true) (hnames : ∀ n ∈ names, Bundle.fit n = true)
    (hk : (Cond.classLink own ik cls).before args s = true) (hini : (Cond.initialized cls).before args s = true) (hat : ∀ w ∈ vx_at0 own ic cls names, w.before args s = true)
    (hgood : ∀ w ∈ Cond.classLink own ik cls :: Cond.initialized cls :: vx_at0 own ic cls names, vx_ot w = true)
    (hU : vx_Zq Bundle.tN "UNASSIGNED_STACK" Bundle.steD A s s.heap) (hN : vx_Zq Bundle.tN "SUPPRESSED_SENTINEL" Bundle.listD A s s.heap) (hS : va_S A s.heap H locs) (hsize : ls.size = c.maxLocals)
    (d0 : decode cc pc = .ok (.new ik, 3)) (d3 : decode cc (pc + 3) = .ok (.dup, 1)) (d4 : decode cc (pc + 4) = .ok (.invokespecial ic, 3)) (d7 : decode cc (pc + 7) = .ok (.athrow, 1))
    (hout : ∀ x ∈ c.exceptionTable.toList, covers x (pc + 7) = false)
    (hRframes : names.length + 3 < R.frames) (hRlocals : (rest.map fun v => v.category).sum + (13 * (names.length + 1) + 42) ≤ R.locals) (hRcells : cells + 1 ≤ R.cells) (hRslots : slots + 6 ≤ R.slots) (hlocks : meth.locks = false)
    (hx : ∀ t : State, s.vm.Alike t.vm → H.size ≤ t.heap.size → (∀ q : Nat, q < H.size → t.heap[q]? = H[q]?) → XC cls s t)
    (hf : ∀ z ∈ locs, free z.base) (hc : cells + 1 ≤ mc) (hs : slots + 6 ≤ ms) :
    W p l e R s m args below meth c H locs cells slots (vx_MQ below Qc XC args s mc ms free) (F0 m pc ls rest) := by
  intro T hT X
  have htr : e.platform.stackTraces = false := (show e.platform.stackTraces = l.stackTraces by rw [X.admits.platform]).trans hl
  have Y := vx_rebase X (R' := { frames := R.frames, locals := R.locals, cells := 1, slots := 6 }) (Nat.le_refl _) (Nat.le_refl _) hRcells hRslots
  obtain ⟨s', hA⟩ : ∃ z, z = (T.setVm s.vm).setFrames (.invoking m args :: below) := ⟨_, rfl⟩
  rw [← hA] at Y
  have hvm : s'.vm = s.vm := by rw [hA]; rfl
  have hhp : s'.heap = H := by rw [hA]; exact hT
  have hW0 : s.WarmedH s'.vm := by rw [hvm]; exact State.WarmedH.refl s
  have hat' : ∀ w ∈ vx_at0 own ic cls names, w.before args s' = true := fun w hw => vx_ot_at hW0 hvm.symm (hgood w (List.mem_cons_of_mem _ (List.mem_cons_of_mem _ hw))) (hat w hw)
  have hk' : (Cond.classLink own ik cls).before args s' = true := vx_ot_at hW0 hvm.symm (hgood _ List.mem_cons_self) hk
  have hini' : (Cond.initialized cls).before args s' = true := vx_ot_at hW0 hvm.symm (hgood _ (List.mem_cons_of_mem _ List.mem_cons_self)) hini
  have hU' : vx_Zq Bundle.tN "UNASSIGNED_STACK" Bundle.steD A s' s'.heap := by rw [hhp]; exact vx_Zq.moved hW0.alike (hU.kept hS.2.1)
  have hN' : vx_Zq Bundle.tN "SUPPRESSED_SENTINEL" Bundle.listD A s' s'.heap := by rw [hhp]; exact vx_Zq.moved hW0.alike (hN.kept hS.2.1)
  have h : ∀ w ∈ Bundle.ownAtoms0 own ic cls names, w.before args s' = true := vx_own hat' (vx_isRefq hU'.1) (vx_isRefq hN'.1) hU'.2.word hN'.2.word
  have hown' : s'.vm.findClass own = some m.cls := by rw [hvm]; exact hown
  have hins : (Cond.instantiable cls 6).before args s' = true := h _ (by simp [Bundle.ownAtoms0])
  obtain ⟨vm₁, cX, kX, hfX, hkX, -, -, X₁, st1⟩ := Y.newCold hexec (own := own) (C := cls) (index := ik) (n := 6) hown' hk' hins hini'
    (g := F0 m pc ls rest) rfl (by rw [hb]; exact d0) (Nat.le_refl _) (Nat.le_refl _)
  generalize hT1 : (T.setVm vm₁).pushCell { cls := cX, slots := kX.instanceTypes.map defaultValue, vm := .none } = T1 at X₁ st1
  have hcat : (Value.ref T.heap.size).category = 1 := rfl
  have hcellA : T1.heap[T.heap.size]? = some (freshCell cX kX) := by rw [← hT1]; exact State.heap_pushCell_size _ _
  have d3' : decode c.code (pc + 3) = .ok (.dup, 1) := by rw [hb]; exact d3
  obtain ⟨U, hsteps, hrun, hend, hW, hsame, ce, hce, hO⟩ := X₁.ctorThrow0 hexec htr (own := own) (cls := cls) (names := names) (ic := ic) hown' hcls hnames h (fun x hx => nomatch hx) hfX hkX hcellA (by rw [hhp, hT]; exact Nat.le_refl _)
    (g := { method := m, pc := pc + 4, locals := ls, stack := .ref T.heap.size :: .ref T.heap.size :: rest, locked := none }) rfl hsize rfl rfl (rest := rest) rfl
    (by rw [hb]; exact d4) (by rw [hb]; exact d7) hout hRframes (by simp only [List.map_cons, List.sum_cons, hcat]; omega) hlocks
  obtain ⟨f1, f2⟩ := vx_frame hsame
  rw [hhp] at f1 f2
  have hWs : s.WarmedH U.vm := State.WarmedH.trans hW0 hW
  have hcl : s.vm.findClass cls = some ce.cls := by
    have h9 := hO.cls
    rw [hvm] at h9
    exact h9
  have hall : s.sameButNew ({ U with vm := s.vm } : State) locs mc ms := by
    subst hA
    obtain ⟨e1, e2⟩ := hsame
    rw [State.setFrames_setFrames] at e1
    have h2 : (T.setVm s.vm).sameButNew ({ U with vm := s.vm } : State) [] (0 + 1) (0 + 6) := ⟨e1, e2⟩
    have h3 := X.same.trans h2
    rw [List.append_nil] at h3
    exact h3.mono hc hs
  refine ⟨U, ?_, .threw T.heap.size, hrun, hend, Or.inr ⟨T.heap.size, rfl, cls, ce, locs, hx U hWs.alike f1 (fun q hq => f2 q hq (fun z hz => nomatch hz)), hce, hO.vm, hcl, hWs, hall, hf⟩⟩
  refine st1 _ ?_
  show Steps p.tables e below (T1.setTop { method := m, pc := pc + 3, locals := ls, stack := .ref T.heap.size :: rest, locked := none }) _
  jvm_step X₁.here [X₁.here.top, hexec, d3', Value.category]
  exact hsteps
/-- 'throw new E("text")': new; dup; ldc; invokespecial; athrow -/
theorem vx_throwS {cc : ByteArray} {pc : Nat} (hexec : p.tables.exec = Jvm.exec) (hb : c.code = cc) (hl : l.stackTraces = false) {own cls text : String} {names : List String} {ik is ic mc ms sa : Nat} {A : Nat → Prop}
    (hown : s.vm.findClass own = some m.cls) (hcls : Bundle.fit cls = true) (hnames : ∀ n ∈ names, Bundle.fit n = true)
    (hk : (Cond.classLink own ik cls).before args s = true) (hini : (Cond.initialized cls).before args s = true) (hstr : vk_R own is text sa s) (hat : ∀ w ∈ vx_atS own ic cls names, w.before args s = true)
    (hgood : ∀ w ∈ Cond.classLink own ik cls :: Cond.initialized cls :: vx_atS own ic cls names, vx_ot w = true)
    (hU : vx_Zq Bundle.tN "UNASSIGNED_STACK" Bundle.steD A s s.heap) (hN : vx_Zq Bundle.tN "SUPPRESSED_SENTINEL" Bundle.listD A s s.heap) (hS : va_S A s.heap H locs) (hsize : ls.size = c.maxLocals)
    (d0 : decode cc pc = .ok (.new ik, 3)) (d3 : decode cc (pc + 3) = .ok (.dup, 1)) (d4 : decode cc (pc + 4) = .ok (.ldc is, 2)) (d6 : decode cc (pc + 6) = .ok (.invokespecial ic, 3)) (d9 : decode cc (pc + 9) = .ok (.athrow, 1))
    (hout : ∀ x ∈ c.exceptionTable.toList, covers x (pc + 9) = false)
    (hRframes : names.length + 3 < R.frames) (hRlocals : (rest.map fun v => v.category).sum + (13 * (names.length + 1) + 43) ≤ R.locals) (hRcells : cells + 1 ≤ R.cells) (hRslots : slots + 6 ≤ R.slots) (hlocks : meth.locks = false)
    (hx : ∀ t : State, s.vm.Alike t.vm → H.size ≤ t.heap.size → (∀ q : Nat, q < H.size → t.heap[q]? = H[q]?) → XC cls s t)
    (hf : ∀ z ∈ locs, free z.base) (hc : cells + 1 ≤ mc) (hs : slots + 6 ≤ ms) :
    W p l e R s m args below meth c H locs cells slots (vx_MQ below Qc XC args s mc ms free) (F0 m pc ls rest) := by
  intro T hT X
  have htr : e.platform.stackTraces = false := (show e.platform.stackTraces = l.stackTraces by rw [X.admits.platform]).trans hl
  have Y := vx_rebase X (R' := { frames := R.frames, locals := R.locals, cells := 1, slots := 6 }) (Nat.le_refl _) (Nat.le_refl _) hRcells hRslots
  obtain ⟨s', hA⟩ : ∃ z, z = (T.setVm s.vm).setFrames (.invoking m args :: below) := ⟨_, rfl⟩
  rw [← hA] at Y
  have hvm : s'.vm = s.vm := by rw [hA]; rfl
  have hhp : s'.heap = H := by rw [hA]; exact hT
  have hW0 : s.WarmedH s'.vm := by rw [hvm]; exact State.WarmedH.refl s
  have hat' : ∀ w ∈ vx_atS own ic cls names, w.before args s' = true := fun w hw => vx_ot_at hW0 hvm.symm (hgood w (List.mem_cons_of_mem _ (List.mem_cons_of_mem _ hw))) (hat w hw)
  have hk' : (Cond.classLink own ik cls).before args s' = true := vx_ot_at hW0 hvm.symm (hgood _ List.mem_cons_self) hk
  have hini' : (Cond.initialized cls).before args s' = true := vx_ot_at hW0 hvm.symm (hgood _ (List.mem_cons_of_mem _ List.mem_cons_self)) hini
  have hU' : vx_Zq Bundle.tN "UNASSIGNED_STACK" Bundle.steD A s' s'.heap := by rw [hhp]; exact vx_Zq.moved hW0.alike (hU.kept hS.2.1)
  have hN' : vx_Zq Bundle.tN "SUPPRESSED_SENTINEL" Bundle.listD A s' s'.heap := by rw [hhp]; exact vx_Zq.moved hW0.alike (hN.kept hS.2.1)
  have h : ∀ w ∈ Bundle.ownAtoms own ic cls names, w.before args s' = true := vx_own hat' (vx_isRefq hU'.1) (vx_isRefq hN'.1) hU'.2.word hN'.2.word
  have hown' : s'.vm.findClass own = some m.cls := by rw [hvm]; exact hown
  have hins : (Cond.instantiable cls 6).before args s' = true := h _ (by simp [Bundle.ownAtoms])
  obtain ⟨vm₁, cX, kX, hfX, hkX, -, -, X₁, st1⟩ := Y.newCold hexec (own := own) (C := cls) (index := ik) (n := 6) hown' hk' hins hini'
    (g := F0 m pc ls rest) rfl (by rw [hb]; exact d0) (Nat.le_refl _) (Nat.le_refl _)
  generalize hT1 : (T.setVm vm₁).pushCell { cls := cX, slots := kX.instanceTypes.map defaultValue, vm := .none } = T1 at X₁ st1
  have hcat : (Value.ref T.heap.size).category = 1 := rfl
  have hcellA : T1.heap[T.heap.size]? = some (freshCell cX kX) := by rw [← hT1]; exact State.heap_pushCell_size _ _
  have d3' : decode c.code (pc + 3) = .ok (.dup, 1) := by rw [hb]; exact d3
  have d4' : decode c.code (pc + 4) = .ok (.ldc is, 2) := by rw [hb]; exact d4
  have hstr' : vk_R own is text sa s' := vk_R.warm hW0 hstr
  obtain ⟨U, hsteps, hrun, hend, hW, hsame, ce, hce, hO⟩ := X₁.ctorThrowS hexec htr (own := own) (cls := cls) (names := names) (ic := ic) hown' hcls hnames h (fun x hx => nomatch hx) hfX hkX hcellA (by rw [hhp, hT]; exact Nat.le_refl _) (msg := .ref sa) rfl
    (g := { method := m, pc := pc + 6, locals := ls, stack := .ref sa :: .ref T.heap.size :: .ref T.heap.size :: rest, locked := none }) rfl hsize rfl rfl (rest := rest) rfl
    (by rw [hb]; exact d6) (by rw [hb]; exact d9) hout hRframes (by simp only [List.map_cons, List.sum_cons, hcat]; omega) hlocks
  obtain ⟨f1, f2⟩ := vx_frame hsame
  rw [hhp] at f1 f2
  have hWs : s.WarmedH U.vm := State.WarmedH.trans hW0 hW
  have hcl : s.vm.findClass cls = some ce.cls := by
    have h9 := hO.cls
    rw [hvm] at h9
    exact h9
  have hall : s.sameButNew ({ U with vm := s.vm } : State) locs mc ms := by
    subst hA
    obtain ⟨e1, e2⟩ := hsame
    rw [State.setFrames_setFrames] at e1
    have h2 : (T.setVm s.vm).sameButNew ({ U with vm := s.vm } : State) [] (0 + 1) (0 + 6) := ⟨e1, e2⟩
    have h3 := X.same.trans h2
    rw [List.append_nil] at h3
    exact h3.mono hc hs
  refine ⟨U, ?_, .threw T.heap.size, hrun, hend, Or.inr ⟨T.heap.size, rfl, cls, ce, locs, hx U hWs.alike f1 (fun q hq => f2 q hq (fun z hz => nomatch hz)), hce, hO.vm, hcl, hWs, hall, hf⟩⟩
  refine st1 _ ?_
  show Steps p.tables e below (T1.setTop { method := m, pc := pc + 3, locals := ls, stack := .ref T.heap.size :: rest, locked := none }) _
  jvm_step X₁.here [X₁.here.top, hexec, d3', Value.category]
  exact X₁.ldcString hexec (own := own) (text := text) (index := is) (a := sa) hown' hstr'.1 hstr'.2
    (g := { method := m, pc := pc + 4, locals := ls, stack := .ref T.heap.size :: .ref T.heap.size :: rest, locked := none }) rfl d4' _ hsteps
/-- 'throw new E("text")', the text by a wide index -/
theorem vx_throwSW {cc : ByteArray} {pc : Nat} (hexec : p.tables.exec = Jvm.exec) (hb : c.code = cc) (hl : l.stackTraces = false) {own cls text : String} {names : List String} {ik is ic mc ms sa : Nat} {A : Nat → Prop}
    (hown : s.vm.findClass own = some m.cls) (hcls : Bundle.fit cls = true) (hnames : ∀ n ∈ names, Bundle.fit n = true)
    (hk : (Cond.classLink own ik cls).before args s = true) (hini : (Cond.initialized cls).before args s = true) (hstr : vk_R own is text sa s) (hat : ∀ w ∈ vx_atS own ic cls names, w.before args s = true)
    (hgood : ∀ w ∈ Cond.classLink own ik cls :: Cond.initialized cls :: vx_atS own ic cls names, vx_ot w = true)
    (hU : vx_Zq Bundle.tN "UNASSIGNED_STACK" Bundle.steD A s s.heap) (hN : vx_Zq Bundle.tN "SUPPRESSED_SENTINEL" Bundle.listD A s s.heap) (hS : va_S A s.heap H locs) (hsize : ls.size = c.maxLocals)
    (d0 : decode cc pc = .ok (.new ik, 3)) (d3 : decode cc (pc + 3) = .ok (.dup, 1)) (d4 : decode cc (pc + 4) = .ok (.ldc_w is, 3)) (d7 : decode cc (pc + 7) = .ok (.invokespecial ic, 3)) (d10 : decode cc (pc + 10) = .ok (.athrow, 1))
    (hout : ∀ x ∈ c.exceptionTable.toList, covers x (pc + 10) = false)
    (hRframes : names.length + 3 < R.frames) (hRlocals : (rest.map fun v => v.category).sum + (13 * (names.length + 1) + 43) ≤ R.locals) (hRcells : cells + 1 ≤ R.cells) (hRslots : slots + 6 ≤ R.slots) (hlocks : meth.locks = false)
    (hx : ∀ t : State, s.vm.Alike t.vm → H.size ≤ t.heap.size → (∀ q : Nat, q < H.size → t.heap[q]? = H[q]?) → XC cls s t)
    (hf : ∀ z ∈ locs, free z.base) (hc : cells + 1 ≤ mc) (hs : slots + 6 ≤ ms) :
    W p l e R s m args below meth c H locs cells slots (vx_MQ below Qc XC args s mc ms free) (F0 m pc ls rest) := by
  intro T hT X
  have htr : e.platform.stackTraces = false := (show e.platform.stackTraces = l.stackTraces by rw [X.admits.platform]).trans hl
  have Y := vx_rebase X (R' := { frames := R.frames, locals := R.locals, cells := 1, slots := 6 }) (Nat.le_refl _) (Nat.le_refl _) hRcells hRslots
  obtain ⟨s', hA⟩ : ∃ z, z = (T.setVm s.vm).setFrames (.invoking m args :: below) := ⟨_, rfl⟩
  rw [← hA] at Y
  have hvm : s'.vm = s.vm := by rw [hA]; rfl
  have hhp : s'.heap = H := by rw [hA]; exact hT
  have hW0 : s.WarmedH s'.vm := by rw [hvm]; exact State.WarmedH.refl s
  have hat' : ∀ w ∈ vx_atS own ic cls names, w.before args s' = true := fun w hw => vx_ot_at hW0 hvm.symm (hgood w (List.mem_cons_of_mem _ (List.mem_cons_of_mem _ hw))) (hat w hw)
  have hk' : (Cond.classLink own ik cls).before args s' = true := vx_ot_at hW0 hvm.symm (hgood _ List.mem_cons_self) hk
  have hini' : (Cond.initialized cls).before args s' = true := vx_ot_at hW0 hvm.symm (hgood _ (List.mem_cons_of_mem _ List.mem_cons_self)) hini
  have hU' : vx_Zq Bundle.tN "UNASSIGNED_STACK" Bundle.steD A s' s'.heap := by rw [hhp]; exact vx_Zq.moved hW0.alike (hU.kept hS.2.1)
  have hN' : vx_Zq Bundle.tN "SUPPRESSED_SENTINEL" Bundle.listD A s' s'.heap := by rw [hhp]; exact vx_Zq.moved hW0.alike (hN.kept hS.2.1)
  have h : ∀ w ∈ Bundle.ownAtoms own ic cls names, w.before args s' = true := vx_own hat' (vx_isRefq hU'.1) (vx_isRefq hN'.1) hU'.2.word hN'.2.word
  have hown' : s'.vm.findClass own = some m.cls := by rw [hvm]; exact hown
  have hins : (Cond.instantiable cls 6).before args s' = true := h _ (by simp [Bundle.ownAtoms])
  obtain ⟨vm₁, cX, kX, hfX, hkX, -, -, X₁, st1⟩ := Y.newCold hexec (own := own) (C := cls) (index := ik) (n := 6) hown' hk' hins hini'
    (g := F0 m pc ls rest) rfl (by rw [hb]; exact d0) (Nat.le_refl _) (Nat.le_refl _)
  generalize hT1 : (T.setVm vm₁).pushCell { cls := cX, slots := kX.instanceTypes.map defaultValue, vm := .none } = T1 at X₁ st1
  have hcat : (Value.ref T.heap.size).category = 1 := rfl
  have hcellA : T1.heap[T.heap.size]? = some (freshCell cX kX) := by rw [← hT1]; exact State.heap_pushCell_size _ _
  have d3' : decode c.code (pc + 3) = .ok (.dup, 1) := by rw [hb]; exact d3
  have d4' : decode c.code (pc + 4) = .ok (.ldc_w is, 3) := by rw [hb]; exact d4
  have hstr' : vk_R own is text sa s' := vk_R.warm hW0 hstr
  obtain ⟨U, hsteps, hrun, hend, hW, hsame, ce, hce, hO⟩ := X₁.ctorThrowS hexec htr (own := own) (cls := cls) (names := names) (ic := ic) hown' hcls hnames h (fun x hx => nomatch hx) hfX hkX hcellA (by rw [hhp, hT]; exact Nat.le_refl _) (msg := .ref sa) rfl
    (g := { method := m, pc := pc + 7, locals := ls, stack := .ref sa :: .ref T.heap.size :: .ref T.heap.size :: rest, locked := none }) rfl hsize rfl rfl (rest := rest) rfl
    (by rw [hb]; exact d7) (by rw [hb]; exact d10) hout hRframes (by simp only [List.map_cons, List.sum_cons, hcat]; omega) hlocks
  obtain ⟨f1, f2⟩ := vx_frame hsame
  rw [hhp] at f1 f2
  have hWs : s.WarmedH U.vm := State.WarmedH.trans hW0 hW
  have hcl : s.vm.findClass cls = some ce.cls := by
    have h9 := hO.cls
    rw [hvm] at h9
    exact h9
  have hall : s.sameButNew ({ U with vm := s.vm } : State) locs mc ms := by
    subst hA
    obtain ⟨e1, e2⟩ := hsame
    rw [State.setFrames_setFrames] at e1
    have h2 : (T.setVm s.vm).sameButNew ({ U with vm := s.vm } : State) [] (0 + 1) (0 + 6) := ⟨e1, e2⟩
    have h3 := X.same.trans h2
    rw [List.append_nil] at h3
    exact h3.mono hc hs
  refine ⟨U, ?_, .threw T.heap.size, hrun, hend, Or.inr ⟨T.heap.size, rfl, cls, ce, locs, hx U hWs.alike f1 (fun q hq => f2 q hq (fun z hz => nomatch hz)), hce, hO.vm, hcl, hWs, hall, hf⟩⟩
  refine st1 _ ?_
  show Steps p.tables e below (T1.setTop { method := m, pc := pc + 3, locals := ls, stack := .ref T.heap.size :: rest, locked := none }) _
  jvm_step X₁.here [X₁.here.top, hexec, d3', Value.category]
  exact X₁.ldcStringW hexec (own := own) (text := text) (index := is) (a := sa) hown' hstr'.1 hstr'.2
    (g := { method := m, pc := pc + 4, locals := ls, stack := .ref T.heap.size :: .ref T.heap.size :: rest, locked := none }) rfl d4' _ hsteps
end Ends
section Bodies
variable {l : Launch}
theorem vx_ofW {y : MethodName} {ws ws' : List Cond} {rm : Room} {Pc : Array Value → State → Prop} {Qc : Array Value → State → Outcome → State → Prop} {XC : String → State → State → Prop} {mc ms : Nat} {free : Addr → Prop} {cc : ByteArray} {maxL : Nat} {ret : Option FieldType}
    (hy : plainName y.cls = true) (hw : ws = Cond.code y cc maxL ret :: ws')
    (body : ∀ p e s m args below meth c s₁, BodyLoose p l y (headSpec ws rm) cc maxL ret e s m args below meth c s₁ → c.maxLocals = maxL → (∀ x ∈ c.exceptionTable.toList, False) → Pc args s →
      W p l e (headSpec ws rm).room s m args below meth c s.heap [] 0 0 (vx_MQ below Qc XC args s mc ms free) (entryFrame m args maxL)) : vx_Met l y ws rm Pc Qc XC mc ms free := by
  refine MetFree.of_bodyS (code := cc) (maxLocals := maxL) (ret := ret) hy ?_ ?_
  · intro args s m h hn
    obtain ⟨meth, c, h1, h2, h3, h4, h5, h6, -, -⟩ := Cond.code_spec hn (atoms_spec (ws := ws) h _ (by rw [hw]; exact List.mem_cons_self))
    exact ⟨meth, c, h1, h2, h3, h4, h5, h6⟩
  · intro p e s m args below meth c s₁ B hml hP _
    have hh0 : s₁.heap = s.heap := by rw [B.state]; rfl
    have ht : ∀ x ∈ c.exceptionTable.toList, False := by
      obtain ⟨meth9, c9, h1, h2, -, -, -, -, h7, -⟩ := Cond.code_spec B.named (atoms_spec (ws := ws) B.pre _ (by rw [hw]; exact List.mem_cons_self))
      cases Option.some.inj (h1.symm.trans B.method)
      cases Option.some.inj (h2.symm.trans (Stand.of_body B).code)
      intro x hx
      rw [Array.isEmpty_iff.mp h7] at hx
      cases hx
    obtain ⟨t, a1, o, b1, b2, b3⟩ := body p e s m args below meth c s₁ B hml ht hP s₁ hh0 (Stand.of_body B)
    exact ⟨t, o, a1, b1, b2, b3⟩
/-- the table of a body with handlers -/
theorem vx_table {p : Program} {x y : MethodName} {S : Spec} {cc bytes : ByteArray} {maxL maxL' : Nat} {ret ret' : Option FieldType} {e : Env} {s s₁ : State} {m : MethodId} {args : Array Value} {below : List Frame} {meth : Method} {c : Code} {hh : List (Nat × Nat × Nat × Nat)}
    (B : BodyLoose p l y S cc maxL ret e s m args below meth c s₁) (h : (Cond.codeWith y bytes maxL' ret' hh).before args s = true) : c.exceptionTable.toList = tableOf hh := by
  obtain ⟨m9, meth9, c9, hn9, h1, h2, -, -, h6, -⟩ := Cond.codeWith_spec h
  cases Option.some.inj (hn9.symm.trans B.named)
  cases Option.some.inj (h1.symm.trans B.method)
  cases Option.some.inj (h2.symm.trans (Stand.of_body B).code)
  rw [← h6, table_eq]
end Bodies
end VXA
/-! ===== END ===== -/
/-! ===== BEGIN a static call of a method with an exception table ===== -/
section VXS
variable {p : Program} {l : Launch} {e : Env} {R : Room} {s : State} {m : MethodId} {args : Array Value} {below : List Frame} {meth : Method} {c : Code} {T : State} {H : Heap} {locs : List Loc} {cells slots : Nat}
abbrev vx_CSW (R : Room) (s : State) (args : Array Value) (own : String) (index : Nat) (y : MethodName) (bytes : ByteArray) (maxL : Nat) (ret : Option FieldType) (hh : List (Nat × Nat × Nat × Nat)) (ws : List Cond) (rm : Room) (mc ms n : Nat) : Prop :=
  (rm.cells = mc ∧ rm.slots = ms ∧ rm.frames + 1 ≤ R.frames ∧ 8 + (maxL + 11) + rm.locals ≤ R.locals ∧ (∀ w ∈ ws, ∀ (a' : Array Value) (U : State), s.WarmedH U.vm → w.before a' U = true) ∧ Cond.codeWith y bytes maxL ret hh ∈ ws) ∧
  (Cond.codeWith y bytes maxL ret hh).before args s = true ∧ (Cond.initialized y.cls).before args s = true ∧ (y.cls ≠ "java/lang/invoke/MethodHandle" ∧ y.cls ≠ "java/lang/invoke/VarHandle") ∧
  (∀ sig, parseMethodDescriptor y.desc = some sig → n = sig.parameters.length) ∧ (Cond.methodLink own index y).before args s = true ∧ (Cond.static y).before args s = true
theorem vx_cwSW {own : String} {index maxL mc ms : Nat} {y : MethodName} {bytes : ByteArray} {ret : Option FieldType} {hh : List (Nat × Nat × Nat × Nat)} {Ts ws ws' : List Cond} {rm : Room} (n : Nat) (ht : ∀ w ∈ Ts, w.before args s = true) (hT : GoodIn Ts (va_wsS own index y ws)) (hw : ws = Cond.codeWith y bytes maxL ret hh :: ws') (hrc : rm.cells = mc) (hrs : rm.slots = ms)
    (hd : y.cls ≠ "java/lang/invoke/MethodHandle" ∧ y.cls ≠ "java/lang/invoke/VarHandle" ∧ (parseMethodDescriptor y.desc).map (fun d => d.parameters.length) = some n) (hR : rm.frames + 1 ≤ R.frames ∧ 8 + (maxL + 11) + rm.locals ≤ R.locals) :
    vx_CSW R s args own index y bytes maxL ret hh ws rm mc ms n := by
  have ok : ∀ w ∈ va_wsS own index y ws, w.before args s = true := fun w h => ht w (hT w h).1
  have hG : GoodIn Ts ws := fun w h => hT w (by unfold va_wsS; exact List.mem_append_right _ h)
  have hc : Cond.codeWith y bytes maxL ret hh ∈ ws := by rw [hw]; exact List.mem_cons_self
  refine ⟨⟨hrc, hrs, hR.1, hR.2, pay_in ht hG, hc⟩, ht _ (hG _ hc).1, ok _ (by simp [va_wsS]), ⟨hd.1, hd.2.1⟩, fun sig h => ?_, ok _ (by simp [va_wsS]), ok _ (by simp [va_wsS])⟩
  have h2 := hd.2.2
  rw [h] at h2
  exact (Option.some.inj h2).symm
theorem vx_callSW (X : Stand p l e R s m args below meth c T locs cells slots) (hexec : p.tables.exec = Jvm.exec) {own : String} {index : Nat} {y : MethodName} {bytes : ByteArray} {maxL : Nat} {ret : Option FieldType} {hh : List (Nat × Nat × Nat × Nat)}
    (hown : s.vm.findClass own = some m.cls) (hlink : (Cond.methodLink own index y).before args s = true) (hstat : (Cond.static y).before args s = true) (hinit : (Cond.initialized y.cls).before args s = true)
    (hcode : (Cond.codeWith y bytes maxL ret hh).before args s = true) (hy : y.cls ≠ "java/lang/invoke/MethodHandle" ∧ y.cls ≠ "java/lang/invoke/VarHandle")
    {W9 : Nat} {Pre : Pt → Array Value → Prop} {Post : Pt → Array Value → Option Value → Pt → Prop} (hK : Back l R p e below s args y 3 W9 Pre Post)
    {g : JFrame} (hg : g.method = m) (hsize : g.locals.size = c.maxLocals) {argsL rest : List Value} (hlen : ∀ sig, parseMethodDescriptor y.desc = some sig → argsL.length = sig.parameters.length)
    (hstack : g.stack = argsL.reverse ++ rest) (hW : 2 * g.monitorRoom + (rest.map fun v => v.category).sum ≤ W9) (hdg : decode c.code g.pc = .ok (.invokestatic index, 3))
    (hpre : ∀ vm₁, s.WarmedH vm₁ → Pre ⟨T.setVm vm₁, locs, cells, slots⟩ argsL.toArray) :
    ∃ (v : Option Value) (vm₁ : Vm) (B : Pt), s.WarmedH vm₁ ∧ Stand p l e R s m args below meth c B.U B.locs B.cells B.slots ∧ Post ⟨T.setVm vm₁, locs, cells, slots⟩ argsL.toArray v B ∧
      ∀ target, Steps p.tables e below (B.U.setTop { g with pc := g.pc + 3, stack := v.toList ++ rest }) target → Steps p.tables e below (T.setTop g) target := by
  obtain ⟨mk, methM, cM, hnamed, hmethM, -, -, -, -, -, -, hsigM⟩ := Cond.codeWith_spec hcode
  have hstatic : methM.isStatic = true := Cond.static_spec hnamed hmethM hstat
  obtain ⟨kP, hkP, -⟩ := className_of_methodNamed hnamed
  have hinitP : kP.init = .initialized := Cond.initialized_spec (findClass_of_methodNamed hnamed) hkP hinit
  obtain ⟨vm₁, X₁, hstep₁⟩ := X.invokestatic hexec hown hlink hnamed hmethM hstatic hkP hinitP hy (g := g) hg (argsL := argsL) (rest := rest) (hlen _ hsigM) hstack hdg
  obtain ⟨v, B, X', hpost, hsteps⟩ := hK m meth c ⟨T.setVm vm₁, locs, cells, slots⟩ { g with stack := rest } (.invokestatic index) mk argsL.toArray X₁ hg hsize hdg hW (X₁.named hnamed) (hpre vm₁ X₁.warmed)
  exact ⟨v, vm₁, B, X₁.warmed, X', hpost, fun target h => hstep₁ _ fun acts => by rw [doInvoke_state]; exact hsteps.trans h⟩
theorem vx_runSW {y : MethodName} {bytes cc : ByteArray} {maxL nL mc ms n index : Nat} {ret : Option FieldType} {hh : List (Nat × Nat × Nat × Nat)} {ws : List Cond} {rm : Room} {Pc : Array Value → State → Prop} {Qc : Array Value → State → Outcome → State → Prop} {free : Addr → Prop} {Ts : List Cond} {own : String} {As rest : List Value} {g : JFrame}
    (S : CallFix p m c cc nL s args Ts own) (hM : Met l y ws rm Pc Qc mc ms free) (cw : vx_CSW R s args own index y bytes maxL ret hh ws rm mc ms n) (hp : PreS s H Pc As)
    (hg : g.method = m) (hn : As.length = n) (hsize : g.locals.size = nL) (hstack : g.stack = As.reverse ++ rest) (hW : 2 * g.monitorRoom + (rest.map fun v => v.category).sum ≤ 8) (hdg : decode cc g.pc = .ok (.invokestatic index, 3)) (hf : cells + mc ≤ R.cells ∧ slots + ms ≤ R.slots) :
    va_Run p l e R s m args below meth c H locs cells slots mc ms g rest (Qc As.toArray) (free) := by
  obtain ⟨⟨hrc, hrs, hfr, hlo, hws, hcw⟩, hcode, hini, hy, hlen, hl, hstt⟩ := cw
  have hK : Back l R p e below s args y 3 8 (PreOf R mc ms Pc) (PostOf Qc mc ms free) := va_backW (hh := hh) (bytes := bytes) (maxL := maxL) (ret := ret) hM hp.1 hrc hrs hfr hlo hws hcw (fun a' U hW => word_at hW (Or.inl (by first | rfl | simp [Cond.onTables, Cond.keeps, Cond.steady])) hini)
  obtain ⟨hx, hb, hml, ho, -⟩ := S
  intro T hT X
  obtain ⟨v, vm₁, ⟨U', l2, c2, s2⟩, hW₁, X', ⟨g', mk, t, L, e1, e2, hq, h1, hL, h2, h3⟩, st⟩ := vx_callSW X hx (hh := hh) (bytes := bytes) (maxL := maxL) (ret := ret) ho hl hstt hini hcode hy hK hg (hsize.trans hml.symm) (argsL := As) (rest := rest) (fun sig h => hn.trans (hlen sig h)) hstack hW (by rw [hb]; exact hdg)
    (fun vm₁ hW₁ => ⟨hf.1, hf.2, hp.2 (T.setVm vm₁) hT hW₁⟩)
  dsimp only [Pt.U, Pt.locs, Pt.cells, Pt.slots] at X' e1 e2 h1 h2 h3 st
  subst h1; subst h2; subst h3
  exact ⟨v, (T.setVm vm₁).calling g' mk As.toArray, t, U', L, hT, X', hL, e1, e2, hq, st⟩
/-- not caught here, past rows that name other classes: it goes on to the caller -/
theorem vx_outP {p : Program} {l : Launch} {e : Env} {R : Room} {s : State} {m : MethodId} {args : Array Value} {below : List Frame} {meth : Method} {c : Code} {H : Heap} {locs : List Loc} {cells slots : Nat} {free : Addr → Prop} {ls : Array Slot} {rest : List Value} {Qc : Array Value → State → Outcome → State → Prop} {XC : String → State → State → Prop}
    {pc : Nat} {own E : String} {ce : Cell} {q : Addr} {mc ms : Nat} (hown : s.vm.findClass own = some m.cls) (hlocks : meth.locks = false)
    (hpass : ∀ z ∈ c.exceptionTable.toList, covers z pc = false ∨ (z.catchType ≠ 0 ∧ ∃ nm : String, (Cond.classLink own z.catchType nm).before args s = true ∧ va_Nc E nm s)) (hcell : H[q]? = some ce) (hv : ce.vm = .none) (hcl : s.vm.findClass E = some ce.cls)
    (hx : ∀ t : State, t.heap = H → s.vm.Alike t.vm → XC E s t) (hf : ∀ z ∈ locs, free z.base) (hc : cells ≤ mc) (hs : slots ≤ ms) :
    vx_W p l e R s m args below meth c H locs cells slots (vx_MQ below Qc XC args s mc ms free) (F0 m pc ls rest) q := by
  intro T hT X
  have hpl : e.platform.magicAccessors = ({} : Platform).magicAccessors := by rw [X.admits.platform]
  obtain ⟨vm', hW', X', st⟩ := X.outThrough hlocks q (g := F0 m pc ls rest) rfl rfl rfl (cell := ce) (by rw [hT]; exact hcell) (by rw [hv]; rfl)
    (by obtain ⟨k9, h9, -⟩ := Vm.findClass_spec hcl; exact ⟨k9, h9⟩) (fun z hz => by
      rcases hpass z hz with h | ⟨hz0, nm, hl1, hn1⟩
      · exact Or.inl h
      · obtain ⟨c6, hc6, hcl6⟩ := Cond.classLink_spec hown hl1 e.platform hpl
        obtain ⟨a8, b8, h1, h2, h3⟩ := hn1
        cases Option.some.inj (h1.symm.trans hcl)
        cases Option.some.inj (h2.symm.trans hc6)
        exact Or.inr ⟨hz0, _, hcl6, h3⟩)
  obtain ⟨g₀, hfr⟩ := X'.frames_eq
  have hcell9 : ((T.setVm vm').setFrames (.throwing q :: below)).heap[q]? = some ce := by
    show T.heap[q]? = some ce
    rw [hT]; exact hcell
  have hend : Ended ((T.setVm vm').setFrames (.throwing q :: below)) below (.threw q) := State.frames_setFrames _ (State.cur_lt_of_frames hfr)
  refine ⟨(T.setVm vm').setFrames (.throwing q :: below), ?_, .threw q, X'.here.running, hend, Or.inr ⟨q, rfl, E, ce, locs, hx _ hT (X'.ends _).1.alike, hcell9, hv, hcl, (X'.ends _).1, (X'.ends _).2.mono hc hs, hf⟩⟩
  rw [X.pushThrowing_eq]
  exact st
/-- a thing of a world lies in the heap -/
theorem vx_lt {D : va_G} {cl : List vw_C} {ws : va_W} {H1 : Heap} (h : va_P D cl ws H1) {k : Nat} {q : Nat × va_E} (hk : ws[k]? = some q) : q.1 < H1.size := (h k q hk).lt
end VXS
/-! ===== END ===== -/
/-! ===== BEGIN methods with a table of their own: called by a name, returning or throwing ===== -/
section VXH
/-! vx_backW, vx_callVX, vx_callSX, vx_callVW, vx_runVW, vx_runVX, vx_runSX, vx_ofWH follow the same proofs as their sisters above (Free/Laws.lean, Shelf42/LK1.lean); vx_outP calls Shelf42/NT130.lean (outThrough). -/
section
variable {l : Launch} {R : Room} {p : Program} {e : Env} {below : List Frame} {s : State} {sargs : Array Value} {y : MethodName} {len W9 : Nat}
theorem vx_backW {ws : List Cond} {rm : Room} {Pc : Array Value → State → Prop} {Qc : Array Value → State → Outcome → State → Prop} {XC : String → State → State → Prop} {mc ms : Nat} {free : Addr → Prop} {bytes : ByteArray} {maxL : Nat} {ret : Option FieldType} {hh : List (Nat × Nat × Nat × Nat)}
    (hM : vx_Met l y ws rm Pc Qc XC mc ms free) (hblind : FrameBlind Pc) (hrc : rm.cells = mc) (hrs : rm.slots = ms)
    (hframes : rm.frames + 1 ≤ R.frames) (hlocals : W9 + (maxL + 11) + rm.locals ≤ R.locals)
    (hws : ∀ w ∈ ws, ∀ a' U, s.WarmedH U.vm → w.before a' U = true) (hcode : Cond.codeWith y bytes maxL ret hh ∈ ws) (hinit : ∀ a' U, s.WarmedH U.vm → (Cond.initialized y.cls).before a' U = true) :
    vx_Back l R p e below s sargs y len W9 (PreOf R mc ms Pc) (PostOf Qc mc ms free) (vx_Post XC mc ms free) := by
  intro m meth c A g ig mk a X hg hsize hdg hW hn hp
  have h1 : (headSpec ws rm).pre.before a A.U = true := atoms_intro fun w hw => hws w hw _ _ X.warmed
  have h2 : (Cond.codeWith y bytes maxL ret hh).before a A.U = true := hws _ hcode _ _ X.warmed
  have h3 : (Cond.initialized y.cls).before a A.U = true := hinit _ _ X.warmed
  have h4 : A.cells + (headSpec ws rm).room.cells ≤ R.cells := by rw [show (headSpec ws rm).room.cells = mc from hrc]; exact hp.1
  have h5 : A.slots + (headSpec ws rm).room.slots ≤ R.slots := by rw [show (headSpec ws rm).room.slots = ms from hrs]; exact hp.2.1
  have hPc : Pc a (A.U.calling g mk a) := hblind _ _ _ _ hp.2.2
  obtain ⟨U, Ls, c0, s0⟩ := A
  dsimp only [Pt.U, Pt.locs, Pt.cells, Pt.slots] at h1 h2 h3 h4 h5 X hn hPc ⊢
  obtain ⟨m9, methY, cY, hn9, hmY, hcY, -, hlY, -⟩ := Cond.codeWith_spec h2
  cases Option.some.inj (hn9.symm.trans hn)
  obtain ⟨kY, hkY, -⟩ := className_of_methodNamed hn
  have hinitY : kY.init = .initialized := Cond.initialized_spec (findClass_of_methodNamed hn) hkY h3
  have h : At U g.method c below := by rw [hg]; exact X.here
  have hlocals9 : W9 + (maxL + 11) + (headSpec ws rm).room.locals ≤ R.locals := hlocals
  have happ : (headSpec ws rm).appliesLoose y e.platform (U.calling g mk a) = true :=
    Spec.appliesLoose_calling (g := g) h hdg hn hkY hinitY
      (X.room_calling (g := g) (R' := (headSpec ws rm).room) hsize hmY hcY hframes (by rw [hlY]; omega) h4 h5) h1
  obtain ⟨mid, hmid⟩ := h.above
  have hfr : (U.setTop g).frames = (.java g :: mid) ++ below := by rw [State.frames_setTop' g h.top, hmid]; rfl
  obtain ⟨o, s₂, hsteps, -, hend, hq⟩ := Steps.callFree hM p X.admits X.cas X.clock (acts := []) hfr happ hPc trivial
  have hq' : vx_Q Qc XC mc ms free a (U.calling g mk a) o s₂ := hq
  rw [State.frames_setTop' g h.top] at hend
  obtain ⟨g₀, hg0⟩ := Option.isSome_iff_exists.mp h.top
  obtain ⟨r, hr⟩ := State.topJava?_eq_some.mp hg0
  have hr' : (({ U with heap := s₂.heap, slotsUsed := s₂.slotsUsed } : State).setVm s₂.vm).frames = .java g₀ :: r := hr
  rcases hq' with ⟨hqc, L, hfe, hL⟩ | ⟨q, rfl, E, ce, L, hx, hce, hcv, hcl, hW₂, hsm, hL⟩
  · obtain ⟨⟨v, rfl⟩, hW₂, e2, q2, q3, q4, q5, q6⟩ := id hfe
    have e3 : s₂ = ({ (U.calling g mk a).setFrames s₂.frames with heap := s₂.heap, slotsUsed := s₂.slotsUsed } : State).setVm s₂.vm := by
      have : s₂ = ({ s₂ with vm := (U.calling g mk a).vm } : State).setVm s₂.vm := rfl
      rw [e2] at this
      exact this
    obtain ⟨c₂, i₂, len₂, hc₂, hd₂, hf₂⟩ := hend
    have hW' : U.WarmedH s₂.vm := hW₂
    have hcc : c₂ = c := by
      have h1 : s₂.code? g.method = U.code? g.method := by
        rw [State.code?_eq, State.code?_eq, hW'.alike.method?]
      exact Option.some.inj (hc₂.symm.trans (h1.trans h.code))
    subst hcc
    have hlen : len₂ = len := by rw [hdg] at hd₂; cases hd₂; rfl
    subst hlen
    have hs₂ : s₂ = (({ U with heap := s₂.heap, slotsUsed := s₂.slotsUsed } : State).setVm s₂.vm).setTop { g with pc := g.pc + len₂, stack := v.toList ++ g.stack } := by
      refine e3.trans ?_
      rw [hf₂, State.calling_eq h.top, State.setFrames_setFrames, State.setTop_of_frames _ hr', hr]
      rfl
    have hsame : U.sameButNew ({ U with heap := s₂.heap, slotsUsed := s₂.slotsUsed } : State) L mc ms := by
      refine ⟨?_, q2, q3, q4, q5, q6⟩
      obtain ⟨t, ht, -⟩ := State.frames_cons hr
      show ({ U with heap := s₂.heap, slotsUsed := s₂.slotsUsed } : State) = { U.setFrames U.frames with heap := s₂.heap, slotsUsed := s₂.slotsUsed }
      rw [State.setFrames_self ht]
    subst hg
    refine Or.inl ⟨v, ⟨(({ U with heap := s₂.heap, slotsUsed := s₂.slotsUsed } : State).setVm s₂.vm), Ls ++ L, c0 + mc, s0 + ms⟩,
      ⟨X.admits, X.cas, X.clock, X.frames, X.room, X.hears, X.method, X.code, (X.here.setHeapUsed s₂.heap s₂.slotsUsed).setVm hW'.alike, X.tail, State.WarmedH.trans X.warmed hW', X.limits, X.bytes, X.same.trans (hsame.setVm s.vm)⟩,
      ⟨g, mk, s₂, L, rfl, rfl, hqc, rfl, hL, rfl, rfl⟩, ?_⟩
    show Steps p.tables e below _ ((({ U with heap := s₂.heap, slotsUsed := s₂.slotsUsed } : State).setVm s₂.vm).setTop { g with pc := g.pc + len₂, stack := v.toList ++ g.stack })
    rw [← hs₂]
    exact hsteps
  · obtain ⟨e2, q2, q3, q4, q5, q6⟩ := id hsm
    have e3 : s₂ = ({ (U.calling g mk a).setFrames s₂.frames with heap := s₂.heap, slotsUsed := s₂.slotsUsed } : State).setVm s₂.vm := by
      have : s₂ = ({ s₂ with vm := (U.calling g mk a).vm } : State).setVm s₂.vm := rfl
      rw [e2] at this
      exact this
    have hf₂ : s₂.frames = .throwing q :: .java g :: U.frames.tail := hend
    have hW' : U.WarmedH s₂.vm := hW₂
    have hs₂ : s₂ = ((({ U with heap := s₂.heap, slotsUsed := s₂.slotsUsed } : State).setVm s₂.vm).setTop g).pushFrame (.throwing q) := by
      refine e3.trans ?_
      rw [hf₂, State.calling_eq h.top, State.setFrames_setFrames, State.pushFrame, State.frames_setTop _ hr', State.setTop_of_frames _ hr', State.setFrames_setFrames, hr]
      rfl
    have hsame : U.sameButNew ({ U with heap := s₂.heap, slotsUsed := s₂.slotsUsed } : State) L mc ms := by
      refine ⟨?_, q2, q3, q4, q5, q6⟩
      obtain ⟨t, ht, -⟩ := State.frames_cons hr
      show ({ U with heap := s₂.heap, slotsUsed := s₂.slotsUsed } : State) = { U.setFrames U.frames with heap := s₂.heap, slotsUsed := s₂.slotsUsed }
      rw [State.setFrames_self ht]
    subst hg
    refine Or.inr ⟨q, ⟨(({ U with heap := s₂.heap, slotsUsed := s₂.slotsUsed } : State).setVm s₂.vm), Ls ++ L, c0 + mc, s0 + ms⟩,
      ⟨X.admits, X.cas, X.clock, X.frames, X.room, X.hears, X.method, X.code, (X.here.setHeapUsed s₂.heap s₂.slotsUsed).setVm hW'.alike, X.tail, State.WarmedH.trans X.warmed hW', X.limits, X.bytes, X.same.trans (hsame.setVm s.vm)⟩,
      ⟨g, mk, s₂, L, E, ce, rfl, rfl, hx, hce, hcv, hcl, rfl, hL, rfl, rfl⟩, ?_⟩
    show Steps p.tables e below _ (((({ U with heap := s₂.heap, slotsUsed := s₂.slotsUsed } : State).setVm s₂.vm).setTop g).pushFrame (.throwing q))
    rw [← hs₂]
    exact hsteps
end
variable {p : Program} {l : Launch} {e : Env} {R : Room} {s : State} {m : MethodId} {args : Array Value} {below : List Frame} {meth : Method} {c : Code} {T : State} {H : Heap} {locs : List Loc} {cells slots : Nat}
theorem vx_callVX (X : Stand p l e R s m args below meth c T locs cells slots) (hexec : p.tables.exec = Jvm.exec) {own C : String} {index : Nat} {y : MethodName} {bytes : ByteArray} {maxL : Nat} {ret : Option FieldType} {hh : List (Nat × Nat × Nat × Nat)}
    (hown : s.vm.findClass own = some m.cls) (hlink : (Cond.methodLink own index y).before args s = true) (hinst : (Cond.instanceMethod y).before args s = true) (hsel : (Cond.selects C y y).before args s = true)
    (hcode : (Cond.codeWith y bytes maxL ret hh).before args s = true) (hy : y.cls ≠ "java/lang/invoke/MethodHandle" ∧ y.cls ≠ "java/lang/invoke/VarHandle")
    {W9 : Nat} {Pre : Pt → Array Value → Prop} {Post : Pt → Array Value → Option Value → Pt → Prop} {PostX : Pt → Array Value → Addr → Pt → Prop} (hK : vx_Back l R p e below s args y 3 W9 Pre Post PostX)
    {b : Addr} {cellB : Cell} (hcell : T.heap[b]? = some cellB) (hobj : cellB.vm.isStatics = false) (hcls : s.vm.findClass C = some cellB.cls)
    {g : JFrame} (hg : g.method = m) (hsize : g.locals.size = c.maxLocals) {argsL rest : List Value} (hlen : ∀ sig, parseMethodDescriptor y.desc = some sig → argsL.length = sig.parameters.length)
    (hstack : g.stack = argsL.reverse ++ .ref b :: rest) (hW : 2 * g.monitorRoom + (rest.map fun v => v.category).sum ≤ W9) (hdg : decode c.code g.pc = .ok (.invokevirtual index, 3))
    (hpre : ∀ vm₁, s.WarmedH vm₁ → Pre ⟨T.setVm vm₁, locs, cells, slots⟩ (Value.ref b :: argsL).toArray) :
    (∃ (v : Option Value) (vm₁ : Vm) (B : Pt), s.WarmedH vm₁ ∧ Stand p l e R s m args below meth c B.U B.locs B.cells B.slots ∧ Post ⟨T.setVm vm₁, locs, cells, slots⟩ (Value.ref b :: argsL).toArray v B ∧
      ∀ target, Steps p.tables e below (B.U.setTop { g with pc := g.pc + 3, stack := v.toList ++ rest }) target → Steps p.tables e below (T.setTop g) target) ∨
    (∃ (q : Addr) (vm₁ : Vm) (B : Pt), s.WarmedH vm₁ ∧ Stand p l e R s m args below meth c B.U B.locs B.cells B.slots ∧ PostX ⟨T.setVm vm₁, locs, cells, slots⟩ (Value.ref b :: argsL).toArray q B ∧
      Steps p.tables e below (T.setTop g) ((B.U.setTop { g with stack := rest }).pushFrame (.throwing q))) := by
  obtain ⟨mk, methM, hnamed, hmethM, hstM, habM⟩ := Cond.instanceMethod_spec hinst
  obtain ⟨m8, methM', cM, hn8, hmethM', -, -, -, -, -, -, hsigM⟩ := Cond.codeWith_spec hcode
  cases Option.some.inj (hn8.symm.trans hnamed)
  cases hmethM.symm.trans hmethM'
  obtain ⟨c2, r2, m2, q1, q2, q3, q4, kP, hkP, hkPi⟩ := Cond.selects_spec hsel
  cases hcls.symm.trans q1
  cases (State.methodFound?_of_named hnamed hy).symm.trans q2
  cases hnamed.symm.trans q3
  have hselP : selectMethod e.platform s.vm cellB.cls mk = .method mk := by rw [Launch.admits_selectMethod X.admits]; exact q4
  obtain ⟨vm₁, X₁, hstep₁⟩ := X.invokevirtual hexec hown hlink hnamed hmethM hstM hkP hkPi hy (a := b) (cell := cellB) hcell
    (fun z h => by rw [h] at hobj; cases hobj) hselP hmethM habM hkP hkPi (g := g) hg (argsL := argsL) (rest := rest) (hlen _ hsigM) hstack hdg
  rcases hK m meth c ⟨T.setVm vm₁, locs, cells, slots⟩ { g with stack := rest } (.invokevirtual index) mk (Value.ref b :: argsL).toArray X₁ hg hsize hdg hW (X₁.named hnamed) (hpre vm₁ X₁.warmed) with ⟨v, B, X', hpost, hsteps⟩ | ⟨q, B, X', hpost, hsteps⟩
  · exact Or.inl ⟨v, vm₁, B, X₁.warmed, X', hpost, fun target h => hstep₁ _ fun acts => by rw [doInvoke_state]; exact hsteps.trans h⟩
  · exact Or.inr ⟨q, vm₁, B, X₁.warmed, X', hpost, hstep₁ _ fun acts => by rw [doInvoke_state]; exact hsteps⟩
theorem vx_callSX (X : Stand p l e R s m args below meth c T locs cells slots) (hexec : p.tables.exec = Jvm.exec) {own : String} {index : Nat} {y : MethodName} {bytes : ByteArray} {maxL : Nat} {ret : Option FieldType} {hh : List (Nat × Nat × Nat × Nat)}
    (hown : s.vm.findClass own = some m.cls) (hlink : (Cond.methodLink own index y).before args s = true) (hstat : (Cond.static y).before args s = true) (hinit : (Cond.initialized y.cls).before args s = true)
    (hcode : (Cond.codeWith y bytes maxL ret hh).before args s = true) (hy : y.cls ≠ "java/lang/invoke/MethodHandle" ∧ y.cls ≠ "java/lang/invoke/VarHandle")
    {W9 : Nat} {Pre : Pt → Array Value → Prop} {Post : Pt → Array Value → Option Value → Pt → Prop} {PostX : Pt → Array Value → Addr → Pt → Prop} (hK : vx_Back l R p e below s args y 3 W9 Pre Post PostX)
    {g : JFrame} (hg : g.method = m) (hsize : g.locals.size = c.maxLocals) {argsL rest : List Value} (hlen : ∀ sig, parseMethodDescriptor y.desc = some sig → argsL.length = sig.parameters.length)
    (hstack : g.stack = argsL.reverse ++ rest) (hW : 2 * g.monitorRoom + (rest.map fun v => v.category).sum ≤ W9) (hdg : decode c.code g.pc = .ok (.invokestatic index, 3))
    (hpre : ∀ vm₁, s.WarmedH vm₁ → Pre ⟨T.setVm vm₁, locs, cells, slots⟩ argsL.toArray) :
    (∃ (v : Option Value) (vm₁ : Vm) (B : Pt), s.WarmedH vm₁ ∧ Stand p l e R s m args below meth c B.U B.locs B.cells B.slots ∧ Post ⟨T.setVm vm₁, locs, cells, slots⟩ argsL.toArray v B ∧
      ∀ target, Steps p.tables e below (B.U.setTop { g with pc := g.pc + 3, stack := v.toList ++ rest }) target → Steps p.tables e below (T.setTop g) target) ∨
    (∃ (q : Addr) (vm₁ : Vm) (B : Pt), s.WarmedH vm₁ ∧ Stand p l e R s m args below meth c B.U B.locs B.cells B.slots ∧ PostX ⟨T.setVm vm₁, locs, cells, slots⟩ argsL.toArray q B ∧
      Steps p.tables e below (T.setTop g) ((B.U.setTop { g with stack := rest }).pushFrame (.throwing q))) := by
  obtain ⟨mk, methM, cM, hnamed, hmethM, -, -, -, -, -, -, hsigM⟩ := Cond.codeWith_spec hcode
  have hstatic : methM.isStatic = true := Cond.static_spec hnamed hmethM hstat
  obtain ⟨kP, hkP, -⟩ := className_of_methodNamed hnamed
  have hinitP : kP.init = .initialized := Cond.initialized_spec (findClass_of_methodNamed hnamed) hkP hinit
  obtain ⟨vm₁, X₁, hstep₁⟩ := X.invokestatic hexec hown hlink hnamed hmethM hstatic hkP hinitP hy (g := g) hg (argsL := argsL) (rest := rest) (hlen _ hsigM) hstack hdg
  rcases hK m meth c ⟨T.setVm vm₁, locs, cells, slots⟩ { g with stack := rest } (.invokestatic index) mk argsL.toArray X₁ hg hsize hdg hW (X₁.named hnamed) (hpre vm₁ X₁.warmed) with ⟨v, B, X', hpost, hsteps⟩ | ⟨q, B, X', hpost, hsteps⟩
  · exact Or.inl ⟨v, vm₁, B, X₁.warmed, X', hpost, fun target h => hstep₁ _ fun acts => by rw [doInvoke_state]; exact hsteps.trans h⟩
  · exact Or.inr ⟨q, vm₁, B, X₁.warmed, X', hpost, hstep₁ _ fun acts => by rw [doInvoke_state]; exact hsteps⟩
theorem vx_callVW (X : Stand p l e R s m args below meth c T locs cells slots) (hexec : p.tables.exec = Jvm.exec) {own C : String} {index : Nat} {y : MethodName} {bytes : ByteArray} {maxL : Nat} {ret : Option FieldType} {hh : List (Nat × Nat × Nat × Nat)}
    (hown : s.vm.findClass own = some m.cls) (hlink : (Cond.methodLink own index y).before args s = true) (hinst : (Cond.instanceMethod y).before args s = true) (hsel : (Cond.selects C y y).before args s = true)
    (hcode : (Cond.codeWith y bytes maxL ret hh).before args s = true) (hy : y.cls ≠ "java/lang/invoke/MethodHandle" ∧ y.cls ≠ "java/lang/invoke/VarHandle")
    {W9 : Nat} {Pre : Pt → Array Value → Prop} {Post : Pt → Array Value → Option Value → Pt → Prop} (hK : Back l R p e below s args y 3 W9 Pre Post)
    {b : Addr} {cellB : Cell} (hcell : T.heap[b]? = some cellB) (hobj : cellB.vm.isStatics = false) (hcls : s.vm.findClass C = some cellB.cls)
    {g : JFrame} (hg : g.method = m) (hsize : g.locals.size = c.maxLocals) {argsL rest : List Value} (hlen : ∀ sig, parseMethodDescriptor y.desc = some sig → argsL.length = sig.parameters.length)
    (hstack : g.stack = argsL.reverse ++ .ref b :: rest) (hW : 2 * g.monitorRoom + (rest.map fun v => v.category).sum ≤ W9) (hdg : decode c.code g.pc = .ok (.invokevirtual index, 3))
    (hpre : ∀ vm₁, s.WarmedH vm₁ → Pre ⟨T.setVm vm₁, locs, cells, slots⟩ (Value.ref b :: argsL).toArray) :
    ∃ (v : Option Value) (vm₁ : Vm) (B : Pt), s.WarmedH vm₁ ∧ Stand p l e R s m args below meth c B.U B.locs B.cells B.slots ∧ Post ⟨T.setVm vm₁, locs, cells, slots⟩ (Value.ref b :: argsL).toArray v B ∧
      ∀ target, Steps p.tables e below (B.U.setTop { g with pc := g.pc + 3, stack := v.toList ++ rest }) target → Steps p.tables e below (T.setTop g) target := by
  obtain ⟨mk, methM, hnamed, hmethM, hstM, habM⟩ := Cond.instanceMethod_spec hinst
  obtain ⟨m8, methM', cM, hn8, hmethM', -, -, -, -, -, -, hsigM⟩ := Cond.codeWith_spec hcode
  cases Option.some.inj (hn8.symm.trans hnamed)
  cases hmethM.symm.trans hmethM'
  obtain ⟨c2, r2, m2, q1, q2, q3, q4, kP, hkP, hkPi⟩ := Cond.selects_spec hsel
  cases hcls.symm.trans q1
  cases (State.methodFound?_of_named hnamed hy).symm.trans q2
  cases hnamed.symm.trans q3
  have hselP : selectMethod e.platform s.vm cellB.cls mk = .method mk := by rw [Launch.admits_selectMethod X.admits]; exact q4
  obtain ⟨vm₁, X₁, hstep₁⟩ := X.invokevirtual hexec hown hlink hnamed hmethM hstM hkP hkPi hy (a := b) (cell := cellB) hcell
    (fun z h => by rw [h] at hobj; cases hobj) hselP hmethM habM hkP hkPi (g := g) hg (argsL := argsL) (rest := rest) (hlen _ hsigM) hstack hdg
  obtain ⟨v, B, X', hpost, hsteps⟩ := hK m meth c ⟨T.setVm vm₁, locs, cells, slots⟩ { g with stack := rest } (.invokevirtual index) mk (Value.ref b :: argsL).toArray X₁ hg hsize hdg hW (X₁.named hnamed) (hpre vm₁ X₁.warmed)
  exact ⟨v, vm₁, B, X₁.warmed, X', hpost, fun target h => hstep₁ _ fun acts => by rw [doInvoke_state]; exact hsteps.trans h⟩
abbrev vx_CVW (R : Room) (s : State) (args : Array Value) (own C : String) (index : Nat) (y : MethodName) (bytes : ByteArray) (maxL : Nat) (ret : Option FieldType) (hh : List (Nat × Nat × Nat × Nat)) (ws : List Cond) (rm : Room) (mc ms n : Nat) : Prop :=
  (rm.cells = mc ∧ rm.slots = ms ∧ rm.frames + 1 ≤ R.frames ∧ 8 + (maxL + 11) + rm.locals ≤ R.locals ∧ (∀ w ∈ ws, ∀ (a' : Array Value) (U : State), s.WarmedH U.vm → w.before a' U = true) ∧ Cond.codeWith y bytes maxL ret hh ∈ ws) ∧
  (Cond.codeWith y bytes maxL ret hh).before args s = true ∧ (Cond.initialized y.cls).before args s = true ∧ (y.cls ≠ "java/lang/invoke/MethodHandle" ∧ y.cls ≠ "java/lang/invoke/VarHandle") ∧
  (∀ sig, parseMethodDescriptor y.desc = some sig → n = sig.parameters.length) ∧ (Cond.methodLink own index y).before args s = true ∧ (Cond.instanceMethod y).before args s = true ∧ (Cond.selects C y y).before args s = true
theorem vx_cwVW {own C : String} {index maxL mc ms : Nat} {y : MethodName} {bytes : ByteArray} {ret : Option FieldType} {hh : List (Nat × Nat × Nat × Nat)} {Ts ws ws' : List Cond} {rm : Room} (n : Nat) (ht : ∀ w ∈ Ts, w.before args s = true) (hT : GoodIn Ts (wsV own index C y ws)) (hw : ws = Cond.codeWith y bytes maxL ret hh :: ws') (hrc : rm.cells = mc) (hrs : rm.slots = ms)
    (hd : y.cls = C ∧ y.cls ≠ "java/lang/invoke/MethodHandle" ∧ y.cls ≠ "java/lang/invoke/VarHandle" ∧ (parseMethodDescriptor y.desc).map (fun d => d.parameters.length) = some n) (hR : rm.frames + 1 ≤ R.frames ∧ 8 + (maxL + 11) + rm.locals ≤ R.locals) :
    vx_CVW R s args own C index y bytes maxL ret hh ws rm mc ms n := by
  obtain ⟨hC, hd⟩ := hd
  subst hC
  have ok : ∀ w ∈ wsV own index y.cls y ws, w.before args s = true := fun w h => ht w (hT w h).1
  have hG : GoodIn Ts ws := fun w h => hT w (by unfold wsV; exact List.mem_append_right _ h)
  have hc : Cond.codeWith y bytes maxL ret hh ∈ ws := by rw [hw]; exact List.mem_cons_self
  refine ⟨⟨hrc, hrs, hR.1, hR.2, pay_in ht hG, hc⟩, ht _ (hG _ hc).1, ok _ (by simp [wsV]), ⟨hd.1, hd.2.1⟩, fun sig h => ?_, ok _ (by simp [wsV]), ok _ (by simp [wsV]), ok _ (by simp [wsV])⟩
  have h2 := hd.2.2
  rw [h] at h2
  exact (Option.some.inj h2).symm
theorem vx_runVW {y : MethodName} {bytes cc : ByteArray} {maxL nL mc ms n index : Nat} {ret : Option FieldType} {hh : List (Nat × Nat × Nat × Nat)} {ws : List Cond} {rm : Room} {Pc : Array Value → State → Prop} {Qc : Array Value → State → Outcome → State → Prop} {free : Addr → Prop} {Ts : List Cond} {own C : String} {b : Addr} {As rest : List Value} {g : JFrame}
    (S : CallFix p m c cc nL s args Ts own) (hM : Met l y ws rm Pc Qc mc ms free) (cw : vx_CVW R s args own C index y bytes maxL ret hh ws rm mc ms n) (hp : PreV s H C b Pc As)
    (hg : g.method = m) (hn : As.length = n) (hsize : g.locals.size = nL) (hstack : g.stack = As.reverse ++ .ref b :: rest) (hW : 2 * g.monitorRoom + (rest.map fun v => v.category).sum ≤ 8) (hdg : decode cc g.pc = .ok (.invokevirtual index, 3)) (hf : cells + mc ≤ R.cells ∧ slots + ms ≤ R.slots) :
    va_Run p l e R s m args below meth c H locs cells slots mc ms g rest (Qc (Value.ref b :: As).toArray) free := by
  obtain ⟨⟨hrc, hrs, hfr, hlo, hws, hcw⟩, hcode, hini, hy, hlen, hl, hin, hse⟩ := cw
  have hK : Back l R p e below s args y 3 8 (PreOf R mc ms Pc) (PostOf Qc mc ms free) := va_backW (hh := hh) (bytes := bytes) (maxL := maxL) (ret := ret) hM hp.1 hrc hrs hfr hlo hws hcw (fun a' U hW => word_at hW (Or.inl (by first | rfl | simp [Cond.onTables, Cond.keeps, Cond.steady])) hini)
  obtain ⟨hx, hb, hml, ho, -⟩ := S
  obtain ⟨-, ⟨cellB, hcB, hoB, hclB⟩, hPc⟩ := hp
  intro T hT X
  obtain ⟨v, vm₁, ⟨U', l2, c2, s2⟩, hW₁, X', ⟨g', mk, t, L, e1, e2, hq, h1, hL, h2, h3⟩, st⟩ := vx_callVW X hx (C := C) (hh := hh) (bytes := bytes) (maxL := maxL) (ret := ret) ho hl hin hse hcode hy hK (by rw [hT]; exact hcB) hoB hclB hg (hsize.trans hml.symm) (argsL := As) (rest := rest) (fun sig h => hn.trans (hlen sig h)) hstack hW (by rw [hb]; exact hdg)
    (fun vm₁ hW₁ => ⟨hf.1, hf.2, hPc (T.setVm vm₁) hT hW₁⟩)
  dsimp only [Pt.U, Pt.locs, Pt.cells, Pt.slots] at X' e1 e2 h1 h2 h3 st
  subst h1; subst h2; subst h3
  exact ⟨v, (T.setVm vm₁).calling g' mk (Value.ref b :: As).toArray, t, U', L, hT, X', hL, e1, e2, hq, st⟩
section
variable {y : MethodName} {bytes cc : ByteArray} {maxL nL mc ms n index : Nat} {ret : Option FieldType} {ws : List Cond} {rm : Room} {Pc : Array Value → State → Prop} {Qc : Array Value → State → Outcome → State → Prop} {XC : String → State → State → Prop} {free : Addr → Prop} {Ts : List Cond} {own C : String} {b : Addr} {As rest : List Value} {g : JFrame}
theorem vx_runVX {hh : List (Nat × Nat × Nat × Nat)} (S : CallFix p m c cc nL s args Ts own) (hM : vx_Met l y ws rm Pc Qc XC mc ms free) (cw : vx_CVW R s args own C index y bytes maxL ret hh ws rm mc ms n) (hp : PreV s H C b Pc As)
    (hg : g.method = m) (hn : As.length = n) (hsize : g.locals.size = nL) (hstack : g.stack = As.reverse ++ .ref b :: rest) (hW : 2 * g.monitorRoom + (rest.map fun v => v.category).sum ≤ 8) (hdg : decode cc g.pc = .ok (.invokevirtual index, 3)) (hf : cells + mc ≤ R.cells ∧ slots + ms ≤ R.slots) :
    vx_Run p l e R s m args below meth c H locs cells slots mc ms g rest (Qc (Value.ref b :: As).toArray) XC free := by
  obtain ⟨⟨hrc, hrs, hfr, hlo, hws, hcw⟩, hcode, hini, hy, hlen, hl, hin, hse⟩ := cw
  have hK : vx_Back l R p e below s args y 3 8 (PreOf R mc ms Pc) (PostOf Qc mc ms free) (vx_Post XC mc ms free) := vx_backW (hh := hh) (bytes := bytes) (maxL := maxL) (ret := ret) hM hp.1 hrc hrs hfr hlo hws hcw (fun a' U hW => word_at hW (Or.inl (by first | rfl | simp [Cond.onTables, Cond.keeps, Cond.steady])) hini)
  obtain ⟨hx, hb, hml, ho, -⟩ := S
  obtain ⟨-, ⟨cellB, hcB, hoB, hclB⟩, hPc⟩ := hp
  intro T hT X
  rcases vx_callVX X hx (C := C) (hh := hh) (bytes := bytes) (maxL := maxL) (ret := ret) ho hl hin hse hcode hy hK (by rw [hT]; exact hcB) hoB hclB hg (hsize.trans hml.symm) (argsL := As) (rest := rest) (fun sig h => hn.trans (hlen sig h)) hstack hW (by rw [hb]; exact hdg)
    (fun vm₁ hW₁ => ⟨hf.1, hf.2, hPc (T.setVm vm₁) hT hW₁⟩) with ⟨v, vm₁, ⟨U', l2, c2, s2⟩, hW₁, X', ⟨g', mk, t, L, e1, e2, hq, h1, hL, h2, h3⟩, st⟩ | ⟨q, vm₁, ⟨U', l2, c2, s2⟩, hW₁, X', ⟨g', mk, t, L, E, ce, e1, e2, hq, hce, hcv, hcl, h1, hL, h2, h3⟩, st⟩
  · dsimp only [Pt.U, Pt.locs, Pt.cells, Pt.slots] at X' e1 e2 h1 h2 h3 st
    subst h1; subst h2; subst h3
    exact Or.inl ⟨v, (T.setVm vm₁).calling g' mk (Value.ref b :: As).toArray, t, U', L, hT, X', hL, e1, e2, hq, st⟩
  · dsimp only [Pt.U, Pt.locs, Pt.cells, Pt.slots] at X' e1 e2 h1 h2 h3 st hcl
    subst h1; subst h2; subst h3
    exact Or.inr ⟨q, (T.setVm vm₁).calling g' mk (Value.ref b :: As).toArray, t, U', L, E, ce, hT, X', hL, e1, e2, hq, hce, hcv, vx_cls hW₁ hcl, st⟩
theorem vx_runSX {hh : List (Nat × Nat × Nat × Nat)} (S : CallFix p m c cc nL s args Ts own) (hM : vx_Met l y ws rm Pc Qc XC mc ms free) (cw : vx_CSW R s args own index y bytes maxL ret hh ws rm mc ms n) (hp : PreS s H Pc As)
    (hg : g.method = m) (hn : As.length = n) (hsize : g.locals.size = nL) (hstack : g.stack = As.reverse ++ rest) (hW : 2 * g.monitorRoom + (rest.map fun v => v.category).sum ≤ 8) (hdg : decode cc g.pc = .ok (.invokestatic index, 3)) (hf : cells + mc ≤ R.cells ∧ slots + ms ≤ R.slots) :
    vx_Run p l e R s m args below meth c H locs cells slots mc ms g rest (Qc As.toArray) XC free := by
  obtain ⟨⟨hrc, hrs, hfr, hlo, hws, hcw⟩, hcode, hini, hy, hlen, hl, hstt⟩ := cw
  have hK : vx_Back l R p e below s args y 3 8 (PreOf R mc ms Pc) (PostOf Qc mc ms free) (vx_Post XC mc ms free) := vx_backW (hh := hh) (bytes := bytes) (maxL := maxL) (ret := ret) hM hp.1 hrc hrs hfr hlo hws hcw (fun a' U hW => word_at hW (Or.inl (by first | rfl | simp [Cond.onTables, Cond.keeps, Cond.steady])) hini)
  obtain ⟨hx, hb, hml, ho, -⟩ := S
  intro T hT X
  rcases vx_callSX X hx (hh := hh) (bytes := bytes) (maxL := maxL) (ret := ret) ho hl hstt hini hcode hy hK hg (hsize.trans hml.symm) (argsL := As) (rest := rest) (fun sig h => hn.trans (hlen sig h)) hstack hW (by rw [hb]; exact hdg)
    (fun vm₁ hW₁ => ⟨hf.1, hf.2, hp.2 (T.setVm vm₁) hT hW₁⟩) with ⟨v, vm₁, ⟨U', l2, c2, s2⟩, hW₁, X', ⟨g', mk, t, L, e1, e2, hq, h1, hL, h2, h3⟩, st⟩ | ⟨q, vm₁, ⟨U', l2, c2, s2⟩, hW₁, X', ⟨g', mk, t, L, E, ce, e1, e2, hq, hce, hcv, hcl, h1, hL, h2, h3⟩, st⟩
  · dsimp only [Pt.U, Pt.locs, Pt.cells, Pt.slots] at X' e1 e2 h1 h2 h3 st
    subst h1; subst h2; subst h3
    exact Or.inl ⟨v, (T.setVm vm₁).calling g' mk As.toArray, t, U', L, hT, X', hL, e1, e2, hq, st⟩
  · dsimp only [Pt.U, Pt.locs, Pt.cells, Pt.slots] at X' e1 e2 h1 h2 h3 st hcl
    subst h1; subst h2; subst h3
    exact Or.inr ⟨q, (T.setVm vm₁).calling g' mk As.toArray, t, U', L, E, ce, hT, X', hL, e1, e2, hq, hce, hcv, vx_cls hW₁ hcl, st⟩
end
end VXH
theorem vx_ofWH {l : Launch} {y : MethodName} {ws ws' : List Cond} {rm : Room} {Pc : Array Value → State → Prop} {Qc : Array Value → State → Outcome → State → Prop} {XC : String → State → State → Prop} {mc ms : Nat} {free : Addr → Prop} {cc : ByteArray} {maxL : Nat} {ret : Option FieldType} {hh : List (Nat × Nat × Nat × Nat)}
    (hy : plainName y.cls = true) (hw : ws = Cond.codeWith y cc maxL ret hh :: ws')
    (body : ∀ p e s m args below meth c s₁, BodyLoose p l y (headSpec ws rm) cc maxL ret e s m args below meth c s₁ → c.maxLocals = maxL → Pc args s →
      W p l e (headSpec ws rm).room s m args below meth c s.heap [] 0 0 (vx_MQ below Qc XC args s mc ms free) (entryFrame m args maxL)) : vx_Met l y ws rm Pc Qc XC mc ms free := by
  refine MetFree.of_bodyS (code := cc) (maxLocals := maxL) (ret := ret) hy ?_ ?_
  · intro args s m h hn
    obtain ⟨m9, meth, c, hn9, h1, h2, h3, h4, -, h5, h6, -⟩ := Cond.codeWith_spec (atoms_spec (ws := ws) h _ (by rw [hw]; exact List.mem_cons_self))
    cases hn.symm.trans hn9
    exact ⟨meth, c, h1, h2, h3, h4, h5, h6⟩
  · intro p e s m args below meth c s₁ B hml hP _
    have hh0 : s₁.heap = s.heap := by rw [B.state]; rfl
    obtain ⟨t, a1, o, b1, b2, b3⟩ := body p e s m args below meth c s₁ B hml hP s₁ hh0 (Stand.of_body B)
    exact ⟨t, o, a1, b1, b2, b3⟩
/-! ===== END ===== -/
end
section
def RX0 : String := "CrateTour$1"
def TX0 : u_T := fun k => match k with
  | _ => ("", "", "", false)
def tyX0 : Nat → FieldType := fun k => match k with
  | _ => .int
abbrev wsX00 : List Cond := u_ws RX0 TX0 0
theorem nmX0 : ∀ a, a < 0 → ∀ b, b < 0 → a ≠ b → (TX0 a).2.1 ≠ (TX0 b).2.1 := by decide +kernel
theorem tyX0_ok : ∀ k, k < 0 → parseFieldDescriptor (TX0 k).2.2.1 = some (tyX0 k) := by decide +kernel
def RX1 : String := "CrateTour$Checks"
def TX1 : u_T := fun k => match k with
  | _ => ("CrateTour$Checks", "state", "LCrateTour$State;", true)
def tyX1 : Nat → FieldType := fun k => match k with
  | _ => .object "CrateTour$State"
abbrev wsX10 : List Cond := u_ws RX1 TX1 1
theorem nmX1 : ∀ a, a < 1 → ∀ b, b < 1 → a ≠ b → (TX1 a).2.1 ≠ (TX1 b).2.1 := by decide +kernel
theorem tyX1_ok : ∀ k, k < 1 → parseFieldDescriptor (TX1 k).2.2.1 = some (tyX1 k) := by decide +kernel
abbrev cX1_init : ByteArray := prog_3_method_1_code
def yX1_init : MethodName := ⟨RX1, "<init>", "(LCrateTour$State;)V"⟩
abbrev cX1_ofNewVenue : ByteArray := prog_3_method_2_code
def yX1_ofNewVenue : MethodName := ⟨RX1, "ofNewVenue", "(IIII)I"⟩
abbrev cX1_ofClimate : ByteArray := prog_3_method_3_code
def yX1_ofClimate : MethodName := ⟨RX1, "ofClimate", "(III)I"⟩
abbrev cX1_ofWay : ByteArray := prog_3_method_4_code
def yX1_ofWay : MethodName := ⟨RX1, "ofWay", "(III)I"⟩
abbrev cX1_ofLenderValue : ByteArray := prog_3_method_5_code
def yX1_ofLenderValue : MethodName := ⟨RX1, "ofLenderValue", "(III)I"⟩
abbrev cX1_ofWayRate : ByteArray := prog_3_method_6_code
def yX1_ofWayRate : MethodName := ⟨RX1, "ofWayRate", "(I)I"⟩
abbrev cX1_ofNewCourier : ByteArray := prog_3_method_7_code
def yX1_ofNewCourier : MethodName := ⟨RX1, "ofNewCourier", "(I)I"⟩
abbrev cX1_ofNewCrate : ByteArray := prog_3_method_8_code
def yX1_ofNewCrate : MethodName := ⟨RX1, "ofNewCrate", "(II)I"⟩
abbrev cX1_ofNewWork : ByteArray := prog_3_method_9_code
def yX1_ofNewWork : MethodName := ⟨RX1, "ofNewWork", "(IIII)I"⟩
abbrev cX1_ofOpening : ByteArray := prog_3_method_10_code
def yX1_ofOpening : MethodName := ⟨RX1, "ofOpening", "(I)I"⟩
abbrev cX1_ofClosing : ByteArray := prog_3_method_11_code
def yX1_ofClosing : MethodName := ⟨RX1, "ofClosing", "(I)I"⟩
abbrev cX1_ofNesting : ByteArray := prog_3_method_12_code
def yX1_ofNesting : MethodName := ⟨RX1, "ofNesting", "(II)I"⟩
abbrev cX1_ofTakingOut : ByteArray := prog_3_method_13_code
def yX1_ofTakingOut : MethodName := ⟨RX1, "ofTakingOut", "(I)I"⟩
abbrev cX1_ofPacking : ByteArray := prog_3_method_14_code
def yX1_ofPacking : MethodName := ⟨RX1, "ofPacking", "(II)I"⟩
abbrev cX1_ofUnpacking : ByteArray := prog_3_method_15_code
def yX1_ofUnpacking : MethodName := ⟨RX1, "ofUnpacking", "(I)I"⟩
abbrev cX1_ofLeg : ByteArray := prog_3_method_16_code
def yX1_ofLeg : MethodName := ⟨RX1, "ofLeg", "(III)I"⟩
abbrev cX1_ofSending : ByteArray := prog_3_method_17_code
def yX1_ofSending : MethodName := ⟨RX1, "ofSending", "(III)I"⟩
abbrev cX1_ofWaiting : ByteArray := prog_3_method_18_code
def yX1_ofWaiting : MethodName := ⟨RX1, "ofWaiting", "(I)I"⟩
abbrev cX1_ofNumber : ByteArray := prog_3_method_19_code
def yX1_ofNumber : MethodName := ⟨RX1, "ofNumber", "(Z)I"⟩
abbrev cX1_ofValue : ByteArray := prog_3_method_20_code
def yX1_ofValue : MethodName := ⟨RX1, "ofValue", "(ZII)I"⟩
abbrev cX1_ofNoted : ByteArray := prog_3_method_21_code
def yX1_ofNoted : MethodName := ⟨RX1, "ofNoted", "(II)I"⟩
abbrev cX1_ofByte : ByteArray := prog_3_method_22_code
def yX1_ofByte : MethodName := ⟨RX1, "ofByte", "(II)I"⟩
abbrev cX1_reasonAgainst : ByteArray := prog_3_method_23_code
def yX1_reasonAgainst : MethodName := ⟨RX1, "reasonAgainst", "(III)I"⟩
abbrev cX1_reasonOfCrate : ByteArray := prog_3_method_24_code
def yX1_reasonOfCrate : MethodName := ⟨RX1, "reasonOfCrate", "(II)I"⟩
abbrev cX1_reasonOfWorks : ByteArray := prog_3_method_25_code
def yX1_reasonOfWorks : MethodName := ⟨RX1, "reasonOfWorks", "(II)I"⟩
abbrev cX1_isAboveCap : ByteArray := prog_3_method_26_code
def yX1_isAboveCap : MethodName := ⟨RX1, "isAboveCap", "(II)Z"⟩
abbrev cX1_reasonOfCourier : ByteArray := prog_3_method_27_code
def yX1_reasonOfCourier : MethodName := ⟨RX1, "reasonOfCourier", "(II)I"⟩
abbrev cX1_needsCourier : ByteArray := prog_3_method_28_code
def yX1_needsCourier : MethodName := ⟨RX1, "needsCourier", "(I)Z"⟩
abbrev cX1_bars : ByteArray := prog_3_method_29_code
def yX1_bars : MethodName := ⟨RX1, "bars", "([II)Z"⟩
abbrev cX1_suits : ByteArray := prog_3_method_30_code
def yX1_suits : MethodName := ⟨RX1, "suits", "([ILCrateTour$Venue;)Z"⟩
abbrev cX1_mayBeOpened : ByteArray := prog_3_method_31_code
def yX1_mayBeOpened : MethodName := ⟨RX1, "mayBeOpened", "(I)Z"⟩
abbrev cX1_holdsOpenCrate : ByteArray := prog_3_method_32_code
def yX1_holdsOpenCrate : MethodName := ⟨RX1, "holdsOpenCrate", "(I)Z"⟩
abbrev cX1_mayBeNested : ByteArray := prog_3_method_33_code
def yX1_mayBeNested : MethodName := ⟨RX1, "mayBeNested", "(II)Z"⟩
abbrev cX1_firstWrong : ByteArray := prog_3_method_34_code
def yX1_firstWrong : MethodName := ⟨RX1, "firstWrong", "(ZZZ)I"⟩
abbrev cX1_isIn : ByteArray := prog_3_method_35_code
def yX1_isIn : MethodName := ⟨RX1, "isIn", "(III)Z"⟩
abbrev cX1_isClimate : ByteArray := prog_3_method_36_code
def yX1_isClimate : MethodName := ⟨RX1, "isClimate", "(II)Z"⟩
abbrev cX1_isLenderValue : ByteArray := prog_3_method_37_code
def yX1_isLenderValue : MethodName := ⟨RX1, "isLenderValue", "(II)Z"⟩
def RX2 : String := "CrateTour$CommandText"
def TX2 : u_T := fun k => match k with
  | 0 => ("CrateTour$CommandText", "bytes", "[B", true)
  | 1 => ("CrateTour$CommandText", "length", "I", false)
  | 2 => ("CrateTour$CommandText", "position", "I", false)
  | 3 => ("CrateTour$CommandText", "fault", "I", false)
  | 4 => ("CrateTour$CommandText", "word", "LCrateTour$Word;", false)
  | _ => ("CrateTour$CommandText", "numbers", "[I", true)
def tyX2 : Nat → FieldType := fun k => match k with
  | 0 => .array .byte
  | 1 => .int
  | 2 => .int
  | 3 => .int
  | 4 => .object "CrateTour$Word"
  | _ => .array .int
abbrev wsX20 : List Cond := u_ws RX2 TX2 6
theorem nmX2 : ∀ a, a < 6 → ∀ b, b < 6 → a ≠ b → (TX2 a).2.1 ≠ (TX2 b).2.1 := by decide +kernel
theorem tyX2_ok : ∀ k, k < 6 → parseFieldDescriptor (TX2 k).2.2.1 = some (tyX2 k) := by decide +kernel
abbrev cX2_init : ByteArray := prog_4_method_1_code
def yX2_init : MethodName := ⟨RX2, "<init>", "()V"⟩
abbrev cX2_append : ByteArray := prog_4_method_2_code
def yX2_append : MethodName := ⟨RX2, "append", "(I)I"⟩
abbrev cX2_empty : ByteArray := prog_4_method_3_code
def yX2_empty : MethodName := ⟨RX2, "empty", "()I"⟩
abbrev cX2_findFault : ByteArray := prog_4_method_4_code
def yX2_findFault : MethodName := ⟨RX2, "findFault", "()I"⟩
abbrev cX2_rewind : ByteArray := prog_4_method_5_code
def yX2_rewind : MethodName := ⟨RX2, "rewind", "()V"⟩
abbrev cX2_readNext : ByteArray := prog_4_method_6_code
def yX2_readNext : MethodName := ⟨RX2, "readNext", "()Z"⟩
abbrev cX2_readWord : ByteArray := prog_4_method_7_code
def yX2_readWord : MethodName := ⟨RX2, "readWord", "()Z"⟩
abbrev cX2_isWordAt : ByteArray := prog_4_method_8_code
def yX2_isWordAt : MethodName := ⟨RX2, "isWordAt", "(Ljava/lang/String;I)Z"⟩
abbrev cX2_readNumbers : ByteArray := prog_4_method_9_code
def yX2_readNumbers : MethodName := ⟨RX2, "readNumbers", "()Z"⟩
abbrev cX2_readNumber : ByteArray := prog_4_method_10_code
def yX2_readNumber : MethodName := ⟨RX2, "readNumber", "(I)Z"⟩
abbrev cX2_readSemicolon : ByteArray := prog_4_method_11_code
def yX2_readSemicolon : MethodName := ⟨RX2, "readSemicolon", "()Z"⟩
abbrev cX2_skipSpaces : ByteArray := prog_4_method_12_code
def yX2_skipSpaces : MethodName := ⟨RX2, "skipSpaces", "()V"⟩
abbrev cX2_isAtDigit : ByteArray := prog_4_method_13_code
def yX2_isAtDigit : MethodName := ⟨RX2, "isAtDigit", "()Z"⟩
abbrev cX2_failAt : ByteArray := prog_4_method_14_code
def yX2_failAt : MethodName := ⟨RX2, "failAt", "(I)Z"⟩
def RX3 : String := "CrateTour$Crate"
def TX3 : u_T := fun k => match k with
  | 0 => ("CrateTour$Crate", "insulation", "I", false)
  | 1 => ("CrateTour$Crate", "isOpen", "Z", false)
  | 2 => ("CrateTour$Crate", "holder", "I", false)
  | 3 => ("CrateTour$Crate", "venue", "I", false)
  | 4 => ("CrateTour$Crate", "goal", "I", false)
  | 5 => ("CrateTour$Crate", "arrival", "I", false)
  | 6 => ("CrateTour$Crate", "companion", "I", false)
  | 7 => ("CrateTour$Crate", "temperature", "I", false)
  | 8 => ("CrateTour$Crate", "humidity", "I", false)
  | _ => ("CrateTour$Crate", "waitsSince", "I", false)
def tyX3 : Nat → FieldType := fun k => match k with
  | 0 => .int
  | 1 => .boolean
  | 2 => .int
  | 3 => .int
  | 4 => .int
  | 5 => .int
  | 6 => .int
  | 7 => .int
  | 8 => .int
  | _ => .int
abbrev wsX30 : List Cond := u_ws RX3 TX3 10
theorem nmX3 : ∀ a, a < 10 → ∀ b, b < 10 → a ≠ b → (TX3 a).2.1 ≠ (TX3 b).2.1 := by decide +kernel
theorem tyX3_ok : ∀ k, k < 10 → parseFieldDescriptor (TX3 k).2.2.1 = some (tyX3 k) := by decide +kernel
abbrev cX3_init : ByteArray := prog_5_method_1_code
def yX3_init : MethodName := ⟨RX3, "<init>", "()V"⟩
abbrev cX3_copyFrom : ByteArray := prog_5_method_2_code
def yX3_copyFrom : MethodName := ⟨RX3, "copyFrom", "(LCrateTour$Crate;)V"⟩
abbrev cX3_standAt : ByteArray := prog_5_method_3_code
def yX3_standAt : MethodName := ⟨RX3, "standAt", "(I)V"⟩
abbrev cX3_hoursNeededAt : ByteArray := prog_5_method_4_code
def yX3_hoursNeededAt : MethodName := ⟨RX3, "hoursNeededAt", "(LCrateTour$Venue;)I"⟩
def RX4 : String := "CrateTour$Deeds"
def TX4 : u_T := fun k => match k with
  | _ => ("CrateTour$Deeds", "state", "LCrateTour$State;", true)
def tyX4 : Nat → FieldType := fun k => match k with
  | _ => .object "CrateTour$State"
abbrev wsX40 : List Cond := u_ws RX4 TX4 1
theorem nmX4 : ∀ a, a < 1 → ∀ b, b < 1 → a ≠ b → (TX4 a).2.1 ≠ (TX4 b).2.1 := by decide +kernel
theorem tyX4_ok : ∀ k, k < 1 → parseFieldDescriptor (TX4 k).2.2.1 = some (tyX4 k) := by decide +kernel
abbrev cX4_init : ByteArray := prog_6_method_1_code
def yX4_init : MethodName := ⟨RX4, "<init>", "(LCrateTour$State;)V"⟩
abbrev cX4_makeVenue : ByteArray := prog_6_method_2_code
def yX4_makeVenue : MethodName := ⟨RX4, "makeVenue", "(IIII)I"⟩
abbrev cX4_changeClimate : ByteArray := prog_6_method_3_code
def yX4_changeClimate : MethodName := ⟨RX4, "changeClimate", "(III)I"⟩
abbrev cX4_changeWay : ByteArray := prog_6_method_4_code
def yX4_changeWay : MethodName := ⟨RX4, "changeWay", "(III)I"⟩
abbrev cX4_changeLender : ByteArray := prog_6_method_5_code
def yX4_changeLender : MethodName := ⟨RX4, "changeLender", "(III)I"⟩
abbrev cX4_changeWayRate : ByteArray := prog_6_method_6_code
def yX4_changeWayRate : MethodName := ⟨RX4, "changeWayRate", "(I)I"⟩
abbrev cX4_makeCourier : ByteArray := prog_6_method_7_code
def yX4_makeCourier : MethodName := ⟨RX4, "makeCourier", "(I)I"⟩
abbrev cX4_makeCrate : ByteArray := prog_6_method_8_code
def yX4_makeCrate : MethodName := ⟨RX4, "makeCrate", "(II)I"⟩
abbrev cX4_makeWork : ByteArray := prog_6_method_9_code
def yX4_makeWork : MethodName := ⟨RX4, "makeWork", "(IIIIZ)I"⟩
abbrev cX4_openCrate : ByteArray := prog_6_method_10_code
def yX4_openCrate : MethodName := ⟨RX4, "openCrate", "(I)I"⟩
abbrev cX4_closeCrate : ByteArray := prog_6_method_11_code
def yX4_closeCrate : MethodName := ⟨RX4, "closeCrate", "(I)I"⟩
abbrev cX4_putCrateInto : ByteArray := prog_6_method_12_code
def yX4_putCrateInto : MethodName := ⟨RX4, "putCrateInto", "(II)I"⟩
abbrev cX4_takeCrateOut : ByteArray := prog_6_method_13_code
def yX4_takeCrateOut : MethodName := ⟨RX4, "takeCrateOut", "(I)I"⟩
abbrev cX4_packWork : ByteArray := prog_6_method_14_code
def yX4_packWork : MethodName := ⟨RX4, "packWork", "(II)I"⟩
abbrev cX4_unpackWork : ByteArray := prog_6_method_15_code
def yX4_unpackWork : MethodName := ⟨RX4, "unpackWork", "(I)I"⟩
abbrev cX4_sendCrate : ByteArray := prog_6_method_16_code
def yX4_sendCrate : MethodName := ⟨RX4, "sendCrate", "(III)I"⟩
abbrev cX4_letHoursPass : ByteArray := prog_6_method_17_code
def yX4_letHoursPass : MethodName := ⟨RX4, "letHoursPass", "(I)I"⟩
abbrev cX4_passHour : ByteArray := prog_6_method_18_code
def yX4_passHour : MethodName := ⟨RX4, "passHour", "()V"⟩
abbrev cX4_arrive : ByteArray := prog_6_method_19_code
def yX4_arrive : MethodName := ⟨RX4, "arrive", "(I)V"⟩
abbrev cX4_endDay : ByteArray := prog_6_method_20_code
def yX4_endDay : MethodName := ⟨RX4, "endDay", "()V"⟩
abbrev cX4_premiumOf : ByteArray := prog_6_method_21_code
def yX4_premiumOf : MethodName := ⟨RX4, "premiumOf", "(II)I"⟩
def RX5 : String := "CrateTour$Forecast"
def TX5 : u_T := fun k => match k with
  | 0 => ("CrateTour$Forecast", "state", "LCrateTour$State;", true)
  | 1 => ("CrateTour$Forecast", "checks", "LCrateTour$Checks;", true)
  | _ => ("CrateTour$Forecast", "around", "[I", true)
def tyX5 : Nat → FieldType := fun k => match k with
  | 0 => .object "CrateTour$State"
  | 1 => .object "CrateTour$Checks"
  | _ => .array .int
abbrev wsX50 : List Cond := u_ws RX5 TX5 3
theorem nmX5 : ∀ a, a < 3 → ∀ b, b < 3 → a ≠ b → (TX5 a).2.1 ≠ (TX5 b).2.1 := by decide +kernel
theorem tyX5_ok : ∀ k, k < 3 → parseFieldDescriptor (TX5 k).2.2.1 = some (tyX5 k) := by decide +kernel
abbrev cX5_init : ByteArray := prog_7_method_1_code
def yX5_init : MethodName := ⟨RX5, "<init>", "(LCrateTour$State;LCrateTour$Checks;)V"⟩
abbrev cX5_timeOfWork : ByteArray := prog_7_method_2_code
def yX5_timeOfWork : MethodName := ⟨RX5, "timeOfWork", "(I)I"⟩
abbrev cX5_timeOfCrate : ByteArray := prog_7_method_3_code
def yX5_timeOfCrate : MethodName := ⟨RX5, "timeOfCrate", "(I)I"⟩
abbrev cX5_soonestVenue : ByteArray := prog_7_method_4_code
def yX5_soonestVenue : MethodName := ⟨RX5, "soonestVenue", "(II)I"⟩
abbrev cX5_timeIfSent : ByteArray := prog_7_method_5_code
def yX5_timeIfSent : MethodName := ⟨RX5, "timeIfSent", "(II)I"⟩
abbrev cX5_timeThrough : ByteArray := prog_7_method_6_code
def yX5_timeThrough : MethodName := ⟨RX5, "timeThrough", "(III)I"⟩
abbrev cX5_listAround : ByteArray := prog_7_method_7_code
def yX5_listAround : MethodName := ⟨RX5, "listAround", "(I)I"⟩
def RX6 : String := "CrateTour$State"
def TX6 : u_T := fun k => match k with
  | 0 => ("CrateTour$State", "time", "I", false)
  | 1 => ("CrateTour$State", "wayRate", "I", false)
  | 2 => ("CrateTour$State", "paid", "I", false)
  | 3 => ("CrateTour$State", "paidForWays", "I", false)
  | 4 => ("CrateTour$State", "arrived", "I", false)
  | 5 => ("CrateTour$State", "venueCount", "I", false)
  | 6 => ("CrateTour$State", "crateCount", "I", false)
  | 7 => ("CrateTour$State", "workCount", "I", false)
  | 8 => ("CrateTour$State", "courierCount", "I", false)
  | 9 => ("CrateTour$State", "venues", "[LCrateTour$Venue;", true)
  | 10 => ("CrateTour$State", "crates", "[LCrateTour$Crate;", true)
  | 11 => ("CrateTour$State", "works", "[LCrateTour$Work;", true)
  | 12 => ("CrateTour$State", "couriers", "[I", true)
  | _ => ("CrateTour$State", "lenders", "[[I", true)
def tyX6 : Nat → FieldType := fun k => match k with
  | 0 => .int
  | 1 => .int
  | 2 => .int
  | 3 => .int
  | 4 => .int
  | 5 => .int
  | 6 => .int
  | 7 => .int
  | 8 => .int
  | 9 => .array (.object "CrateTour$Venue")
  | 10 => .array (.object "CrateTour$Crate")
  | 11 => .array (.object "CrateTour$Work")
  | 12 => .array .int
  | _ => .array (.array .int)
abbrev wsX60 : List Cond := u_ws RX6 TX6 14
theorem nmX6 : ∀ a, a < 14 → ∀ b, b < 14 → a ≠ b → (TX6 a).2.1 ≠ (TX6 b).2.1 := by decide +kernel
theorem tyX6_ok : ∀ k, k < 14 → parseFieldDescriptor (TX6 k).2.2.1 = some (tyX6 k) := by decide +kernel
abbrev cX6_init : ByteArray := prog_8_method_1_code
def yX6_init : MethodName := ⟨RX6, "<init>", "()V"⟩
abbrev cX6_copyFrom : ByteArray := prog_8_method_2_code
def yX6_copyFrom : MethodName := ⟨RX6, "copyFrom", "(LCrateTour$State;)V"⟩
abbrev cX6_hasVenue : ByteArray := prog_8_method_3_code
def yX6_hasVenue : MethodName := ⟨RX6, "hasVenue", "(I)Z"⟩
abbrev cX6_hasCrate : ByteArray := prog_8_method_4_code
def yX6_hasCrate : MethodName := ⟨RX6, "hasCrate", "(I)Z"⟩
abbrev cX6_hasWork : ByteArray := prog_8_method_5_code
def yX6_hasWork : MethodName := ⟨RX6, "hasWork", "(I)Z"⟩
abbrev cX6_hasCourier : ByteArray := prog_8_method_6_code
def yX6_hasCourier : MethodName := ⟨RX6, "hasCourier", "(I)Z"⟩
abbrev cX6_isCourierOrNone : ByteArray := prog_8_method_7_code
def yX6_isCourierOrNone : MethodName := ⟨RX6, "isCourierOrNone", "(I)Z"⟩
abbrev cX6_hoursBetween : ByteArray := prog_8_method_8_code
def yX6_hoursBetween : MethodName := ⟨RX6, "hoursBetween", "(II)I"⟩
abbrev cX6_outermost : ByteArray := prog_8_method_9_code
def yX6_outermost : MethodName := ⟨RX6, "outermost", "(I)I"⟩
abbrev cX6_isInOrBelow : ByteArray := prog_8_method_10_code
def yX6_isInOrBelow : MethodName := ⟨RX6, "isInOrBelow", "(II)Z"⟩
abbrev cX6_isWithinReach : ByteArray := prog_8_method_11_code
def yX6_isWithinReach : MethodName := ⟨RX6, "isWithinReach", "(I)Z"⟩
abbrev cX6_cratesOutwards : ByteArray := prog_8_method_12_code
def yX6_cratesOutwards : MethodName := ⟨RX6, "cratesOutwards", "(I)I"⟩
abbrev cX6_venueOfCrate : ByteArray := prog_8_method_13_code
def yX6_venueOfCrate : MethodName := ⟨RX6, "venueOfCrate", "(I)I"⟩
abbrev cX6_venueOfWork : ByteArray := prog_8_method_14_code
def yX6_venueOfWork : MethodName := ⟨RX6, "venueOfWork", "(I)I"⟩
abbrev cX6_goalOfWork : ByteArray := prog_8_method_15_code
def yX6_goalOfWork : MethodName := ⟨RX6, "goalOfWork", "(I)I"⟩
abbrev cX6_worksDirectlyIn : ByteArray := prog_8_method_16_code
def yX6_worksDirectlyIn : MethodName := ⟨RX6, "worksDirectlyIn", "(I)I"⟩
abbrev cX6_cratesDirectlyIn : ByteArray := prog_8_method_17_code
def yX6_cratesDirectlyIn : MethodName := ⟨RX6, "cratesDirectlyIn", "(I)I"⟩
abbrev cX6_worksInOrBelow : ByteArray := prog_8_method_18_code
def yX6_worksInOrBelow : MethodName := ⟨RX6, "worksInOrBelow", "(I)I"⟩
abbrev cX6_cratesBelow : ByteArray := prog_8_method_19_code
def yX6_cratesBelow : MethodName := ⟨RX6, "cratesBelow", "(I)I"⟩
abbrev cX6_valueInOrBelow : ByteArray := prog_8_method_20_code
def yX6_valueInOrBelow : MethodName := ⟨RX6, "valueInOrBelow", "(I)I"⟩
abbrev cX6_valueAt : ByteArray := prog_8_method_21_code
def yX6_valueAt : MethodName := ⟨RX6, "valueAt", "(I)I"⟩
abbrev cX6_valueOnTheWayTo : ByteArray := prog_8_method_22_code
def yX6_valueOnTheWayTo : MethodName := ⟨RX6, "valueOnTheWayTo", "(I)I"⟩
def RX7 : String := "CrateTour$UndoStack"
def TX7 : u_T := fun k => match k with
  | 0 => ("CrateTour$UndoStack", "states", "[LCrateTour$State;", true)
  | _ => ("CrateTour$UndoStack", "count", "I", false)
def tyX7 : Nat → FieldType := fun k => match k with
  | 0 => .array (.object "CrateTour$State")
  | _ => .int
abbrev wsX70 : List Cond := u_ws RX7 TX7 2
theorem nmX7 : ∀ a, a < 2 → ∀ b, b < 2 → a ≠ b → (TX7 a).2.1 ≠ (TX7 b).2.1 := by decide +kernel
theorem tyX7_ok : ∀ k, k < 2 → parseFieldDescriptor (TX7 k).2.2.1 = some (tyX7 k) := by decide +kernel
abbrev cX7_init : ByteArray := prog_9_method_1_code
def yX7_init : MethodName := ⟨RX7, "<init>", "()V"⟩
abbrev cX7_keep : ByteArray := prog_9_method_2_code
def yX7_keep : MethodName := ⟨RX7, "keep", "(LCrateTour$State;)V"⟩
abbrev cX7_restore : ByteArray := prog_9_method_3_code
def yX7_restore : MethodName := ⟨RX7, "restore", "(LCrateTour$State;)I"⟩
abbrev cX7_dropOldest : ByteArray := prog_9_method_4_code
def yX7_dropOldest : MethodName := ⟨RX7, "dropOldest", "()V"⟩
def RX8 : String := "CrateTour$Values"
def TX8 : u_T := fun k => match k with
  | _ => ("CrateTour$Values", "state", "LCrateTour$State;", true)
def tyX8 : Nat → FieldType := fun k => match k with
  | _ => .object "CrateTour$State"
abbrev wsX80 : List Cond := u_ws RX8 TX8 1
theorem nmX8 : ∀ a, a < 1 → ∀ b, b < 1 → a ≠ b → (TX8 a).2.1 ≠ (TX8 b).2.1 := by decide +kernel
theorem tyX8_ok : ∀ k, k < 1 → parseFieldDescriptor (TX8 k).2.2.1 = some (tyX8 k) := by decide +kernel
abbrev cX8_init : ByteArray := prog_10_method_1_code
def yX8_init : MethodName := ⟨RX8, "<init>", "(LCrateTour$State;)V"⟩
abbrev cX8_ofCrate : ByteArray := prog_10_method_2_code
def yX8_ofCrate : MethodName := ⟨RX8, "ofCrate", "(II)I"⟩
abbrev cX8_ofWork : ByteArray := prog_10_method_3_code
def yX8_ofWork : MethodName := ⟨RX8, "ofWork", "(II)I"⟩
abbrev cX8_ofVenue : ByteArray := prog_10_method_4_code
def yX8_ofVenue : MethodName := ⟨RX8, "ofVenue", "(II)I"⟩
abbrev cX8_ofWhole : ByteArray := prog_10_method_5_code
def yX8_ofWhole : MethodName := ⟨RX8, "ofWhole", "(I)I"⟩
abbrev cX8_temperatureIn : ByteArray := prog_10_method_6_code
def yX8_temperatureIn : MethodName := ⟨RX8, "temperatureIn", "(LCrateTour$Crate;I)I"⟩
abbrev cX8_humidityIn : ByteArray := prog_10_method_7_code
def yX8_humidityIn : MethodName := ⟨RX8, "humidityIn", "(LCrateTour$Crate;I)I"⟩
abbrev cX8_hoursNeeded : ByteArray := prog_10_method_8_code
def yX8_hoursNeeded : MethodName := ⟨RX8, "hoursNeeded", "(LCrateTour$Crate;I)I"⟩
abbrev cX8_cratesAt : ByteArray := prog_10_method_9_code
def yX8_cratesAt : MethodName := ⟨RX8, "cratesAt", "(I)I"⟩
abbrev cX8_couriersAt : ByteArray := prog_10_method_10_code
def yX8_couriersAt : MethodName := ⟨RX8, "couriersAt", "(I)I"⟩
abbrev cX8_worksOnTheirWay : ByteArray := prog_10_method_11_code
def yX8_worksOnTheirWay : MethodName := ⟨RX8, "worksOnTheirWay", "()I"⟩
abbrev cX8_openCrates : ByteArray := prog_10_method_12_code
def yX8_openCrates : MethodName := ⟨RX8, "openCrates", "()I"⟩
abbrev cX8_asNumber : ByteArray := prog_10_method_13_code
def yX8_asNumber : MethodName := ⟨RX8, "asNumber", "(Z)I"⟩
def RX9 : String := "CrateTour$Venue"
def TX9 : u_T := fun k => match k with
  | 0 => ("CrateTour$Venue", "temperature", "I", false)
  | 1 => ("CrateTour$Venue", "humidity", "I", false)
  | 2 => ("CrateTour$Venue", "rate", "I", false)
  | 3 => ("CrateTour$Venue", "cap", "I", false)
  | 4 => ("CrateTour$Venue", "paid", "I", false)
  | _ => ("CrateTour$Venue", "hoursTo", "[I", true)
def tyX9 : Nat → FieldType := fun k => match k with
  | 0 => .int
  | 1 => .int
  | 2 => .int
  | 3 => .int
  | 4 => .int
  | _ => .array .int
abbrev wsX90 : List Cond := u_ws RX9 TX9 6
theorem nmX9 : ∀ a, a < 6 → ∀ b, b < 6 → a ≠ b → (TX9 a).2.1 ≠ (TX9 b).2.1 := by decide +kernel
theorem tyX9_ok : ∀ k, k < 6 → parseFieldDescriptor (TX9 k).2.2.1 = some (tyX9 k) := by decide +kernel
abbrev cX9_init : ByteArray := prog_11_method_1_code
def yX9_init : MethodName := ⟨RX9, "<init>", "()V"⟩
abbrev cX9_copyFrom : ByteArray := prog_11_method_2_code
def yX9_copyFrom : MethodName := ⟨RX9, "copyFrom", "(LCrateTour$Venue;)V"⟩
def RX10 : String := "CrateTour$Word"
def TX10 : u_T := fun k => match k with
  | _ => ("", "", "", false)
def tyX10 : Nat → FieldType := fun k => match k with
  | _ => .int
abbrev wsX100 : List Cond := u_ws RX10 TX10 0
theorem nmX10 : ∀ a, a < 0 → ∀ b, b < 0 → a ≠ b → (TX10 a).2.1 ≠ (TX10 b).2.1 := by decide +kernel
theorem tyX10_ok : ∀ k, k < 0 → parseFieldDescriptor (TX10 k).2.2.1 = some (tyX10 k) := by decide +kernel
def RX11 : String := "CrateTour$Work"
def TX11 : u_T := fun k => match k with
  | 0 => ("CrateTour$Work", "lender", "I", false)
  | 1 => ("CrateTour$Work", "value", "I", false)
  | 2 => ("CrateTour$Work", "legs", "I", false)
  | 3 => ("CrateTour$Work", "escorted", "Z", false)
  | 4 => ("CrateTour$Work", "crate", "I", false)
  | 5 => ("CrateTour$Work", "venue", "I", false)
  | 6 => ("CrateTour$Work", "paid", "I", false)
  | 7 => ("CrateTour$Work", "placesKept", "I", false)
  | _ => ("CrateTour$Work", "places", "[I", true)
def tyX11 : Nat → FieldType := fun k => match k with
  | 0 => .int
  | 1 => .int
  | 2 => .int
  | 3 => .boolean
  | 4 => .int
  | 5 => .int
  | 6 => .int
  | 7 => .int
  | _ => .array .int
abbrev wsX110 : List Cond := u_ws RX11 TX11 9
theorem nmX11 : ∀ a, a < 9 → ∀ b, b < 9 → a ≠ b → (TX11 a).2.1 ≠ (TX11 b).2.1 := by decide +kernel
theorem tyX11_ok : ∀ k, k < 9 → parseFieldDescriptor (TX11 k).2.2.1 = some (tyX11 k) := by decide +kernel
abbrev cX11_init : ByteArray := prog_13_method_1_code
def yX11_init : MethodName := ⟨RX11, "<init>", "()V"⟩
abbrev cX11_copyFrom : ByteArray := prog_13_method_2_code
def yX11_copyFrom : MethodName := ⟨RX11, "copyFrom", "(LCrateTour$Work;)V"⟩
abbrev cX11_notePlace : ByteArray := prog_13_method_3_code
def yX11_notePlace : MethodName := ⟨RX11, "notePlace", "(I)V"⟩
abbrev cX11_placeNoted : ByteArray := prog_13_method_4_code
def yX11_placeNoted : MethodName := ⟨RX11, "placeNoted", "(I)I"⟩
def RX12 : String := "CrateTour"
def TX12 : u_T := fun k => match k with
  | 0 => ("CrateTour", "state", "LCrateTour$State;", true)
  | 1 => ("CrateTour", "checks", "LCrateTour$Checks;", true)
  | 2 => ("CrateTour", "deeds", "LCrateTour$Deeds;", true)
  | 3 => ("CrateTour", "values", "LCrateTour$Values;", true)
  | 4 => ("CrateTour", "forecast", "LCrateTour$Forecast;", true)
  | 5 => ("CrateTour", "saved", "LCrateTour$UndoStack;", true)
  | _ => ("CrateTour", "commands", "LCrateTour$CommandText;", true)
def tyX12 : Nat → FieldType := fun k => match k with
  | 0 => .object "CrateTour$State"
  | 1 => .object "CrateTour$Checks"
  | 2 => .object "CrateTour$Deeds"
  | 3 => .object "CrateTour$Values"
  | 4 => .object "CrateTour$Forecast"
  | 5 => .object "CrateTour$UndoStack"
  | _ => .object "CrateTour$CommandText"
abbrev wsX120 : List Cond := u_ws RX12 TX12 7
theorem nmX12 : ∀ a, a < 7 → ∀ b, b < 7 → a ≠ b → (TX12 a).2.1 ≠ (TX12 b).2.1 := by decide +kernel
theorem tyX12_ok : ∀ k, k < 7 → parseFieldDescriptor (TX12 k).2.2.1 = some (tyX12 k) := by decide +kernel
abbrev cX12_init : ByteArray := prog_1_method_1_code
def yX12_init : MethodName := ⟨RX12, "<init>", "()V"⟩
abbrev cX12_addVenue : ByteArray := prog_1_method_2_code
def yX12_addVenue : MethodName := ⟨RX12, "addVenue", "(IIII)I"⟩
abbrev cX12_setClimate : ByteArray := prog_1_method_3_code
def yX12_setClimate : MethodName := ⟨RX12, "setClimate", "(III)I"⟩
abbrev cX12_setWay : ByteArray := prog_1_method_4_code
def yX12_setWay : MethodName := ⟨RX12, "setWay", "(III)I"⟩
abbrev cX12_setLender : ByteArray := prog_1_method_5_code
def yX12_setLender : MethodName := ⟨RX12, "setLender", "(III)I"⟩
abbrev cX12_setWayRate : ByteArray := prog_1_method_6_code
def yX12_setWayRate : MethodName := ⟨RX12, "setWayRate", "(I)I"⟩
abbrev cX12_addCourier : ByteArray := prog_1_method_7_code
def yX12_addCourier : MethodName := ⟨RX12, "addCourier", "(I)I"⟩
abbrev cX12_addCrate : ByteArray := prog_1_method_8_code
def yX12_addCrate : MethodName := ⟨RX12, "addCrate", "(II)I"⟩
abbrev cX12_addWork : ByteArray := prog_1_method_9_code
def yX12_addWork : MethodName := ⟨RX12, "addWork", "(IIIIZ)I"⟩
abbrev cX12_open : ByteArray := prog_1_method_10_code
def yX12_open : MethodName := ⟨RX12, "open", "(I)I"⟩
abbrev cX12_close : ByteArray := prog_1_method_11_code
def yX12_close : MethodName := ⟨RX12, "close", "(I)I"⟩
abbrev cX12_nest : ByteArray := prog_1_method_12_code
def yX12_nest : MethodName := ⟨RX12, "nest", "(II)I"⟩
abbrev cX12_takeOut : ByteArray := prog_1_method_13_code
def yX12_takeOut : MethodName := ⟨RX12, "takeOut", "(I)I"⟩
abbrev cX12_pack : ByteArray := prog_1_method_14_code
def yX12_pack : MethodName := ⟨RX12, "pack", "(II)I"⟩
abbrev cX12_unpack : ByteArray := prog_1_method_15_code
def yX12_unpack : MethodName := ⟨RX12, "unpack", "(I)I"⟩
abbrev cX12_send : ByteArray := prog_1_method_16_code
def yX12_send : MethodName := ⟨RX12, "send", "(III)I"⟩
abbrev cX12_advance : ByteArray := prog_1_method_17_code
def yX12_advance : MethodName := ⟨RX12, "advance", "(I)I"⟩
abbrev cX12_refusal : ByteArray := prog_1_method_18_code
def yX12_refusal : MethodName := ⟨RX12, "refusal", "(III)I"⟩
abbrev cX12_crate : ByteArray := prog_1_method_19_code
def yX12_crate : MethodName := ⟨RX12, "crate", "(II)I"⟩
abbrev cX12_work : ByteArray := prog_1_method_20_code
def yX12_work : MethodName := ⟨RX12, "work", "(II)I"⟩
abbrev cX12_noted : ByteArray := prog_1_method_21_code
def yX12_noted : MethodName := ⟨RX12, "noted", "(II)I"⟩
abbrev cX12_venue : ByteArray := prog_1_method_22_code
def yX12_venue : MethodName := ⟨RX12, "venue", "(II)I"⟩
abbrev cX12_courier : ByteArray := prog_1_method_23_code
def yX12_courier : MethodName := ⟨RX12, "courier", "(I)I"⟩
abbrev cX12_whole : ByteArray := prog_1_method_24_code
def yX12_whole : MethodName := ⟨RX12, "whole", "(I)I"⟩
abbrev cX12_readyAt : ByteArray := prog_1_method_25_code
def yX12_readyAt : MethodName := ⟨RX12, "readyAt", "(I)I"⟩
abbrev cX12_allReadyAt : ByteArray := prog_1_method_26_code
def yX12_allReadyAt : MethodName := ⟨RX12, "allReadyAt", "(I)I"⟩
abbrev cX12_bestVenue : ByteArray := prog_1_method_27_code
def yX12_bestVenue : MethodName := ⟨RX12, "bestVenue", "(II)I"⟩
abbrev cX12_type : ByteArray := prog_1_method_28_code
def yX12_type : MethodName := ⟨RX12, "type", "(I)I"⟩
abbrev cX12_clearCommands : ByteArray := prog_1_method_29_code
def yX12_clearCommands : MethodName := ⟨RX12, "clearCommands", "()I"⟩
abbrev cX12_runCommands : ByteArray := prog_1_method_30_code
def yX12_runCommands : MethodName := ⟨RX12, "runCommands", "()I"⟩
abbrev cX12_undo : ByteArray := prog_1_method_31_code
def yX12_undo : MethodName := ⟨RX12, "undo", "()I"⟩
abbrev cX12_digest : ByteArray := prog_1_method_32_code
def yX12_digest : MethodName := ⟨RX12, "digest", "()J"⟩
abbrev cX12_withVenues : ByteArray := prog_1_method_33_code
def yX12_withVenues : MethodName := ⟨RX12, "withVenues", "(J)J"⟩
abbrev cX12_withCrates : ByteArray := prog_1_method_34_code
def yX12_withCrates : MethodName := ⟨RX12, "withCrates", "(J)J"⟩
abbrev cX12_withWorks : ByteArray := prog_1_method_35_code
def yX12_withWorks : MethodName := ⟨RX12, "withWorks", "(J)J"⟩
abbrev cX12_mixed : ByteArray := prog_1_method_36_code
def yX12_mixed : MethodName := ⟨RX12, "mixed", "(JJ)J"⟩
abbrev cX12_throwIfWrong : ByteArray := prog_1_method_37_code
def yX12_throwIfWrong : MethodName := ⟨RX12, "throwIfWrong", "(I)V"⟩
abbrev cX12_wrongWith : ByteArray := prog_1_method_38_code
def yX12_wrongWith : MethodName := ⟨RX12, "wrongWith", "(LCrateTour$Word;[I)I"⟩
abbrev cX12_perform : ByteArray := prog_1_method_39_code
def yX12_perform : MethodName := ⟨RX12, "perform", "(LCrateTour$Word;[I)I"⟩
def RX13 : String := "CrateTourModel"
def TX13 : u_T := fun k => match k with
  | 0 => ("CrateTourModel", "m", "[I", true)
  | 1 => ("CrateTourModel", "saved", "[I", true)
  | 2 => ("CrateTourModel", "savedCount", "I", false)
  | 3 => ("CrateTourModel", "text", "[I", true)
  | 4 => ("CrateTourModel", "textLength", "I", false)
  | 5 => ("CrateTourModel", "code", "I", false)
  | 6 => ("CrateTourModel", "row", "[I", true)
  | 7 => ("CrateTourModel", "place", "I", false)
  | 8 => ("CrateTourModel", "command", "I", false)
  | 9 => ("CrateTourModel", "numbers", "[I", true)
  | _ => ("CrateTourModel", "hash", "J", false)
def tyX13 : Nat → FieldType := fun k => match k with
  | 0 => .array .int
  | 1 => .array .int
  | 2 => .int
  | 3 => .array .int
  | 4 => .int
  | 5 => .int
  | 6 => .array .int
  | 7 => .int
  | 8 => .int
  | 9 => .array .int
  | _ => .long
abbrev wsX130 : List Cond := u_ws RX13 TX13 11
theorem nmX13 : ∀ a, a < 11 → ∀ b, b < 11 → a ≠ b → (TX13 a).2.1 ≠ (TX13 b).2.1 := by decide +kernel
theorem tyX13_ok : ∀ k, k < 11 → parseFieldDescriptor (TX13 k).2.2.1 = some (tyX13 k) := by decide +kernel
abbrev cX13_init : ByteArray := prog_15_method_1_code
def yX13_init : MethodName := ⟨RX13, "<init>", "()V"⟩
abbrev cX13_thrown : ByteArray := prog_15_method_2_code
def yX13_thrown : MethodName := ⟨RX13, "thrown", "()I"⟩
abbrev cX13_in : ByteArray := prog_15_method_3_code
def yX13_in : MethodName := ⟨RX13, "in", "(III)Z"⟩
abbrev cX13_size : ByteArray := prog_15_method_4_code
def yX13_size : MethodName := ⟨RX13, "size", "(I)I"⟩
abbrev cX13_greater : ByteArray := prog_15_method_5_code
def yX13_greater : MethodName := ⟨RX13, "greater", "(II)I"⟩
abbrev cX13_keep : ByteArray := prog_15_method_6_code
def yX13_keep : MethodName := ⟨RX13, "keep", "()V"⟩
abbrev cX13_isVenue : ByteArray := prog_15_method_7_code
def yX13_isVenue : MethodName := ⟨RX13, "isVenue", "(I)Z"⟩
abbrev cX13_isCrate : ByteArray := prog_15_method_8_code
def yX13_isCrate : MethodName := ⟨RX13, "isCrate", "(I)Z"⟩
abbrev cX13_isWork : ByteArray := prog_15_method_9_code
def yX13_isWork : MethodName := ⟨RX13, "isWork", "(I)Z"⟩
abbrev cX13_isCourier : ByteArray := prog_15_method_10_code
def yX13_isCourier : MethodName := ⟨RX13, "isCourier", "(I)Z"⟩
abbrev cX13_ofVenue : ByteArray := prog_15_method_11_code
def yX13_ofVenue : MethodName := ⟨RX13, "ofVenue", "(II)I"⟩
abbrev cX13_of : ByteArray := prog_15_method_12_code
def yX13_of : MethodName := ⟨RX13, "of", "(II)I"⟩
abbrev cX13_put : ByteArray := prog_15_method_13_code
def yX13_put : MethodName := ⟨RX13, "put", "(III)V"⟩
abbrev cX13_ofWork : ByteArray := prog_15_method_14_code
def yX13_ofWork : MethodName := ⟨RX13, "ofWork", "(II)I"⟩
abbrev cX13_putWork : ByteArray := prog_15_method_15_code
def yX13_putWork : MethodName := ⟨RX13, "putWork", "(III)V"⟩
abbrev cX13_isOpen : ByteArray := prog_15_method_16_code
def yX13_isOpen : MethodName := ⟨RX13, "isOpen", "(I)Z"⟩
abbrev cX13_outermost : ByteArray := prog_15_method_17_code
def yX13_outermost : MethodName := ⟨RX13, "outermost", "(I)I"⟩
abbrev cX13_venueOf : ByteArray := prog_15_method_18_code
def yX13_venueOf : MethodName := ⟨RX13, "venueOf", "(I)I"⟩
abbrev cX13_isReached : ByteArray := prog_15_method_19_code
def yX13_isReached : MethodName := ⟨RX13, "isReached", "(I)Z"⟩
abbrev cX13_isWithin : ByteArray := prog_15_method_20_code
def yX13_isWithin : MethodName := ⟨RX13, "isWithin", "(II)Z"⟩
abbrev cX13_standsIn : ByteArray := prog_15_method_21_code
def yX13_standsIn : MethodName := ⟨RX13, "standsIn", "(I)I"⟩
abbrev cX13_goesTo : ByteArray := prog_15_method_22_code
def yX13_goesTo : MethodName := ⟨RX13, "goesTo", "(I)I"⟩
abbrev cX13_worksIn : ByteArray := prog_15_method_23_code
def yX13_worksIn : MethodName := ⟨RX13, "worksIn", "(II)I"⟩
abbrev cX13_directWorks : ByteArray := prog_15_method_24_code
def yX13_directWorks : MethodName := ⟨RX13, "directWorks", "(I)I"⟩
abbrev cX13_directCrates : ByteArray := prog_15_method_25_code
def yX13_directCrates : MethodName := ⟨RX13, "directCrates", "(I)I"⟩
abbrev cX13_isClimate : ByteArray := prog_15_method_26_code
def yX13_isClimate : MethodName := ⟨RX13, "isClimate", "(II)Z"⟩
abbrev cX13_addVenue : ByteArray := prog_15_method_27_code
def yX13_addVenue : MethodName := ⟨RX13, "addVenue", "(IIII)I"⟩
abbrev cX13_setClimate : ByteArray := prog_15_method_28_code
def yX13_setClimate : MethodName := ⟨RX13, "setClimate", "(III)I"⟩
abbrev cX13_setWay : ByteArray := prog_15_method_29_code
def yX13_setWay : MethodName := ⟨RX13, "setWay", "(III)I"⟩
abbrev cX13_isLent : ByteArray := prog_15_method_30_code
def yX13_isLent : MethodName := ⟨RX13, "isLent", "(II)Z"⟩
abbrev cX13_setLender : ByteArray := prog_15_method_31_code
def yX13_setLender : MethodName := ⟨RX13, "setLender", "(III)I"⟩
abbrev cX13_setWayRate : ByteArray := prog_15_method_32_code
def yX13_setWayRate : MethodName := ⟨RX13, "setWayRate", "(I)I"⟩
abbrev cX13_addCourier : ByteArray := prog_15_method_33_code
def yX13_addCourier : MethodName := ⟨RX13, "addCourier", "(I)I"⟩
abbrev cX13_addCrate : ByteArray := prog_15_method_34_code
def yX13_addCrate : MethodName := ⟨RX13, "addCrate", "(II)I"⟩
abbrev cX13_addWork : ByteArray := prog_15_method_35_code
def yX13_addWork : MethodName := ⟨RX13, "addWork", "(IIIIZ)I"⟩
abbrev cX13_needs : ByteArray := prog_15_method_36_code
def yX13_needs : MethodName := ⟨RX13, "needs", "(II)I"⟩
abbrev cX13_notOpen : ByteArray := prog_15_method_37_code
def yX13_notOpen : MethodName := ⟨RX13, "notOpen", "(I)I"⟩
abbrev cX13_opens : ByteArray := prog_15_method_38_code
def yX13_opens : MethodName := ⟨RX13, "opens", "(I)I"⟩
abbrev cX13_open : ByteArray := prog_15_method_39_code
def yX13_open : MethodName := ⟨RX13, "open", "(I)I"⟩
abbrev cX13_notClose : ByteArray := prog_15_method_40_code
def yX13_notClose : MethodName := ⟨RX13, "notClose", "(I)I"⟩
abbrev cX13_closes : ByteArray := prog_15_method_41_code
def yX13_closes : MethodName := ⟨RX13, "closes", "(I)I"⟩
abbrev cX13_close : ByteArray := prog_15_method_42_code
def yX13_close : MethodName := ⟨RX13, "close", "(I)I"⟩
abbrev cX13_isForUse : ByteArray := prog_15_method_43_code
def yX13_isForUse : MethodName := ⟨RX13, "isForUse", "(II)Z"⟩
abbrev cX13_notNest : ByteArray := prog_15_method_44_code
def yX13_notNest : MethodName := ⟨RX13, "notNest", "(II)I"⟩
abbrev cX13_nests : ByteArray := prog_15_method_45_code
def yX13_nests : MethodName := ⟨RX13, "nests", "(II)I"⟩
abbrev cX13_nest : ByteArray := prog_15_method_46_code
def yX13_nest : MethodName := ⟨RX13, "nest", "(II)I"⟩
abbrev cX13_notTakeOut : ByteArray := prog_15_method_47_code
def yX13_notTakeOut : MethodName := ⟨RX13, "notTakeOut", "(I)I"⟩
abbrev cX13_takesOut : ByteArray := prog_15_method_48_code
def yX13_takesOut : MethodName := ⟨RX13, "takesOut", "(I)I"⟩
abbrev cX13_takeOut : ByteArray := prog_15_method_49_code
def yX13_takeOut : MethodName := ⟨RX13, "takeOut", "(I)I"⟩
abbrev cX13_notPack : ByteArray := prog_15_method_50_code
def yX13_notPack : MethodName := ⟨RX13, "notPack", "(II)I"⟩
abbrev cX13_packs : ByteArray := prog_15_method_51_code
def yX13_packs : MethodName := ⟨RX13, "packs", "(II)I"⟩
abbrev cX13_pack : ByteArray := prog_15_method_52_code
def yX13_pack : MethodName := ⟨RX13, "pack", "(II)I"⟩
abbrev cX13_notUnpack : ByteArray := prog_15_method_53_code
def yX13_notUnpack : MethodName := ⟨RX13, "notUnpack", "(I)I"⟩
abbrev cX13_unpacks : ByteArray := prog_15_method_54_code
def yX13_unpacks : MethodName := ⟨RX13, "unpacks", "(I)I"⟩
abbrev cX13_unpack : ByteArray := prog_15_method_55_code
def yX13_unpack : MethodName := ⟨RX13, "unpack", "(I)I"⟩
abbrev cX13_lenderRefuses : ByteArray := prog_15_method_56_code
def yX13_lenderRefuses : MethodName := ⟨RX13, "lenderRefuses", "(II)I"⟩
abbrev cX13_valuesFor : ByteArray := prog_15_method_57_code
def yX13_valuesFor : MethodName := ⟨RX13, "valuesFor", "(II)J"⟩
abbrev cX13_worksRefuse : ByteArray := prog_15_method_58_code
def yX13_worksRefuse : MethodName := ⟨RX13, "worksRefuse", "(II)I"⟩
abbrev cX13_isEscorted : ByteArray := prog_15_method_59_code
def yX13_isEscorted : MethodName := ⟨RX13, "isEscorted", "(I)Z"⟩
abbrev cX13_reason : ByteArray := prog_15_method_60_code
def yX13_reason : MethodName := ⟨RX13, "reason", "(III)I"⟩
abbrev cX13_isSending : ByteArray := prog_15_method_61_code
def yX13_isSending : MethodName := ⟨RX13, "isSending", "(III)Z"⟩
abbrev cX13_notSend : ByteArray := prog_15_method_62_code
def yX13_notSend : MethodName := ⟨RX13, "notSend", "(III)I"⟩
abbrev cX13_sends : ByteArray := prog_15_method_63_code
def yX13_sends : MethodName := ⟨RX13, "sends", "(III)I"⟩
abbrev cX13_send : ByteArray := prog_15_method_64_code
def yX13_send : MethodName := ⟨RX13, "send", "(III)I"⟩
abbrev cX13_arrives : ByteArray := prog_15_method_65_code
def yX13_arrives : MethodName := ⟨RX13, "arrives", "(I)V"⟩
abbrev cX13_note : ByteArray := prog_15_method_66_code
def yX13_note : MethodName := ⟨RX13, "note", "(II)V"⟩
abbrev cX13_pays : ByteArray := prog_15_method_67_code
def yX13_pays : MethodName := ⟨RX13, "pays", "(I)V"⟩
abbrev cX13_hour : ByteArray := prog_15_method_68_code
def yX13_hour : MethodName := ⟨RX13, "hour", "()I"⟩
abbrev cX13_notAdvance : ByteArray := prog_15_method_69_code
def yX13_notAdvance : MethodName := ⟨RX13, "notAdvance", "(I)I"⟩
abbrev cX13_advances : ByteArray := prog_15_method_70_code
def yX13_advances : MethodName := ⟨RX13, "advances", "(I)I"⟩
abbrev cX13_advance : ByteArray := prog_15_method_71_code
def yX13_advance : MethodName := ⟨RX13, "advance", "(I)I"⟩
abbrev cX13_refusal : ByteArray := prog_15_method_72_code
def yX13_refusal : MethodName := ⟨RX13, "refusal", "(III)I"⟩
abbrev cX13_cratesBelow : ByteArray := prog_15_method_73_code
def yX13_cratesBelow : MethodName := ⟨RX13, "cratesBelow", "(I)I"⟩
abbrev cX13_crateOf : ByteArray := prog_15_method_74_code
def yX13_crateOf : MethodName := ⟨RX13, "crateOf", "(II)I"⟩
abbrev cX13_crate : ByteArray := prog_15_method_75_code
def yX13_crate : MethodName := ⟨RX13, "crate", "(II)I"⟩
abbrev cX13_around : ByteArray := prog_15_method_76_code
def yX13_around : MethodName := ⟨RX13, "around", "(I)I"⟩
abbrev cX13_workOf : ByteArray := prog_15_method_77_code
def yX13_workOf : MethodName := ⟨RX13, "workOf", "(II)I"⟩
abbrev cX13_work : ByteArray := prog_15_method_78_code
def yX13_work : MethodName := ⟨RX13, "work", "(II)I"⟩
abbrev cX13_notedOf : ByteArray := prog_15_method_79_code
def yX13_notedOf : MethodName := ⟨RX13, "notedOf", "(II)I"⟩
abbrev cX13_noted : ByteArray := prog_15_method_80_code
def yX13_noted : MethodName := ⟨RX13, "noted", "(II)I"⟩
abbrev cX13_valuesAt : ByteArray := prog_15_method_81_code
def yX13_valuesAt : MethodName := ⟨RX13, "valuesAt", "(IZ)I"⟩
abbrev cX13_cratesAt : ByteArray := prog_15_method_82_code
def yX13_cratesAt : MethodName := ⟨RX13, "cratesAt", "(I)I"⟩
abbrev cX13_couriersAt : ByteArray := prog_15_method_83_code
def yX13_couriersAt : MethodName := ⟨RX13, "couriersAt", "(I)I"⟩
abbrev cX13_venueOfWhat : ByteArray := prog_15_method_84_code
def yX13_venueOfWhat : MethodName := ⟨RX13, "venueOfWhat", "(II)I"⟩
abbrev cX13_venue : ByteArray := prog_15_method_85_code
def yX13_venue : MethodName := ⟨RX13, "venue", "(II)I"⟩
abbrev cX13_courier : ByteArray := prog_15_method_86_code
def yX13_courier : MethodName := ⟨RX13, "courier", "(I)I"⟩
abbrev cX13_onTheirWay : ByteArray := prog_15_method_87_code
def yX13_onTheirWay : MethodName := ⟨RX13, "onTheirWay", "()I"⟩
abbrev cX13_openCrates : ByteArray := prog_15_method_88_code
def yX13_openCrates : MethodName := ⟨RX13, "openCrates", "()I"⟩
abbrev cX13_wholeOf : ByteArray := prog_15_method_89_code
def yX13_wholeOf : MethodName := ⟨RX13, "wholeOf", "(I)I"⟩
abbrev cX13_whole : ByteArray := prog_15_method_90_code
def yX13_whole : MethodName := ⟨RX13, "whole", "(I)I"⟩
abbrev cX13_ready : ByteArray := prog_15_method_91_code
def yX13_ready : MethodName := ⟨RX13, "ready", "(I)I"⟩
abbrev cX13_readyAt : ByteArray := prog_15_method_92_code
def yX13_readyAt : MethodName := ⟨RX13, "readyAt", "(I)I"⟩
abbrev cX13_allReady : ByteArray := prog_15_method_93_code
def yX13_allReady : MethodName := ⟨RX13, "allReady", "(I)I"⟩
abbrev cX13_allReadyAt : ByteArray := prog_15_method_94_code
def yX13_allReadyAt : MethodName := ⟨RX13, "allReadyAt", "(I)I"⟩
abbrev cX13_readyBy : ByteArray := prog_15_method_95_code
def yX13_readyBy : MethodName := ⟨RX13, "readyBy", "(II)I"⟩
abbrev cX13_bestVenue : ByteArray := prog_15_method_96_code
def yX13_bestVenue : MethodName := ⟨RX13, "bestVenue", "(II)I"⟩
abbrev cX13_type : ByteArray := prog_15_method_97_code
def yX13_type : MethodName := ⟨RX13, "type", "(I)I"⟩
abbrev cX13_clearCommands : ByteArray := prog_15_method_98_code
def yX13_clearCommands : MethodName := ⟨RX13, "clearCommands", "()I"⟩
abbrev cX13_here : ByteArray := prog_15_method_99_code
def yX13_here : MethodName := ⟨RX13, "here", "()I"⟩
abbrev cX13_skips : ByteArray := prog_15_method_100_code
def yX13_skips : MethodName := ⟨RX13, "skips", "()Z"⟩
abbrev cX13_commandOf : ByteArray := prog_15_method_101_code
def yX13_commandOf : MethodName := ⟨RX13, "commandOf", "(J)I"⟩
abbrev cX13_readWord : ByteArray := prog_15_method_102_code
def yX13_readWord : MethodName := ⟨RX13, "readWord", "()Z"⟩
abbrev cX13_readNumber : ByteArray := prog_15_method_103_code
def yX13_readNumber : MethodName := ⟨RX13, "readNumber", "(I)Z"⟩
abbrev cX13_manyFor : ByteArray := prog_15_method_104_code
def yX13_manyFor : MethodName := ⟨RX13, "manyFor", "()I"⟩
abbrev cX13_readCommand : ByteArray := prog_15_method_105_code
def yX13_readCommand : MethodName := ⟨RX13, "readCommand", "()Z"⟩
abbrev cX13_isGood : ByteArray := prog_15_method_106_code
def yX13_isGood : MethodName := ⟨RX13, "isGood", "()Z"⟩
abbrev cX13_whyNot : ByteArray := prog_15_method_107_code
def yX13_whyNot : MethodName := ⟨RX13, "whyNot", "()I"⟩
abbrev cX13_carryOut : ByteArray := prog_15_method_108_code
def yX13_carryOut : MethodName := ⟨RX13, "carryOut", "()I"⟩
abbrev cX13_runCommands : ByteArray := prog_15_method_109_code
def yX13_runCommands : MethodName := ⟨RX13, "runCommands", "()I"⟩
abbrev cX13_undo : ByteArray := prog_15_method_110_code
def yX13_undo : MethodName := ⟨RX13, "undo", "()I"⟩
abbrev cX13_mix : ByteArray := prog_15_method_111_code
def yX13_mix : MethodName := ⟨RX13, "mix", "(J)V"⟩
abbrev cX13_mixWork : ByteArray := prog_15_method_112_code
def yX13_mixWork : MethodName := ⟨RX13, "mixWork", "(I)V"⟩
abbrev cX13_digest : ByteArray := prog_15_method_113_code
def yX13_digest : MethodName := ⟨RX13, "digest", "()J"⟩
def RJx29ce0 : String := "java/lang/Enum"
def TJx29ce0 : u_T := fun k => match k with
  | _ => ("", "", "", false)
def tyJx29ce0 : Nat → FieldType := fun k => match k with
  | _ => .int
abbrev wsJx29ce00 : List Cond := u_ws RJx29ce0 TJx29ce0 0
theorem nmJx29ce0 : ∀ a, a < 0 → ∀ b, b < 0 → a ≠ b → (TJx29ce0 a).2.1 ≠ (TJx29ce0 b).2.1 := by decide +kernel
theorem tyJx29ce0_ok : ∀ k, k < 0 → parseFieldDescriptor (TJx29ce0 k).2.2.1 = some (tyJx29ce0 k) := by decide +kernel
abbrev cJx29ce0_ordinal_8abf5 : ByteArray := prog_16_method_2_code
def yJx29ce0_ordinal_8abf5 : MethodName := ⟨RJx29ce0, "ordinal", "()I"⟩
def RJ9 : String := "java/lang/Math"
def TJ9 : u_T := fun k => match k with
  | _ => ("", "", "", false)
def tyJ9 : Nat → FieldType := fun k => match k with
  | _ => .int
abbrev wsJ90 : List Cond := u_ws RJ9 TJ9 0
theorem nmJ9 : ∀ a, a < 0 → ∀ b, b < 0 → a ≠ b → (TJ9 a).2.1 ≠ (TJ9 b).2.1 := by decide +kernel
theorem tyJ9_ok : ∀ k, k < 0 → parseFieldDescriptor (TJ9 k).2.2.1 = some (tyJ9 k) := by decide +kernel
abbrev cJ9_abs_0f7a4 : ByteArray := prog_21_method_59_code
def yJ9_abs_0f7a4 : MethodName := ⟨RJ9, "abs", "(I)I"⟩
abbrev cJ9_max_7cf53 : ByteArray := prog_21_method_65_code
def yJ9_max_7cf53 : MethodName := ⟨RJ9, "max", "(II)I"⟩
abbrev cJ9_min_7cf53 : ByteArray := prog_21_method_69_code
def yJ9_min_7cf53 : MethodName := ⟨RJ9, "min", "(II)I"⟩
def RJ0 : String := "java/lang/String"
def TJ0 : u_T := fun k => match k with
  | _ => ("", "", "", false)
def tyJ0 : Nat → FieldType := fun k => match k with
  | _ => .int
abbrev wsJ00 : List Cond := u_ws RJ0 TJ0 0
theorem nmJ0 : ∀ a, a < 0 → ∀ b, b < 0 → a ≠ b → (TJ0 a).2.1 ≠ (TJ0 b).2.1 := by decide +kernel
theorem tyJ0_ok : ∀ k, k < 0 → parseFieldDescriptor (TJ0 k).2.2.1 = some (tyJ0 k) := by decide +kernel
abbrev cJ0_length_8abf5 : ByteArray := prog_23_method_54_code
def yJ0_length_8abf5 : MethodName := ⟨RJ0, "length", "()I"⟩
abbrev cJ0_charAt_5068e : ByteArray := prog_23_method_56_code
def yJ0_charAt_5068e : MethodName := ⟨RJ0, "charAt", "(I)C"⟩
abbrev cJ0_coder_7d493 : ByteArray := prog_23_method_152_code
def yJ0_coder_7d493 : MethodName := ⟨RJ0, "coder", "()B"⟩
abbrev cJ0_isLatin1_aae02 : ByteArray := prog_23_method_154_code
def yJ0_isLatin1_aae02 : MethodName := ⟨RJ0, "isLatin1", "()Z"⟩
abbrev cJ0_checkIndex_df160 : ByteArray := prog_23_method_155_code
def yJ0_checkIndex_df160 : MethodName := ⟨RJ0, "checkIndex", "(II)V"⟩
def RJ1 : String := "java/lang/StringLatin1"
def TJ1 : u_T := fun k => match k with
  | _ => ("", "", "", false)
def tyJ1 : Nat → FieldType := fun k => match k with
  | _ => .int
abbrev wsJ10 : List Cond := u_ws RJ1 TJ1 0
theorem nmJ1 : ∀ a, a < 0 → ∀ b, b < 0 → a ≠ b → (TJ1 a).2.1 ≠ (TJ1 b).2.1 := by decide +kernel
theorem tyJ1_ok : ∀ k, k < 0 → parseFieldDescriptor (TJ1 k).2.2.1 = some (tyJ1 k) := by decide +kernel
abbrev cJ1_charAt_3b067 : ByteArray := prog_24_method_2_code
def yJ1_charAt_3b067 : MethodName := ⟨RJ1, "charAt", "([BI)C"⟩
def RJ2 : String := "java/lang/StringUTF16"
def TJ2 : u_T := fun k => match k with
  | _ => ("", "", "", false)
def tyJ2 : Nat → FieldType := fun k => match k with
  | _ => .int
abbrev wsJ20 : List Cond := u_ws RJ2 TJ2 0
theorem nmJ2 : ∀ a, a < 0 → ∀ b, b < 0 → a ≠ b → (TJ2 a).2.1 ≠ (TJ2 b).2.1 := by decide +kernel
theorem tyJ2_ok : ∀ k, k < 0 → parseFieldDescriptor (TJ2 k).2.2.1 = some (tyJ2 k) := by decide +kernel
abbrev cJ2_getChar_3b067 : ByteArray := prog_25_method_5_code
def yJ2_getChar_3b067 : MethodName := ⟨RJ2, "getChar", "([BI)C"⟩
abbrev cJ2_length_9d52b : ByteArray := prog_25_method_6_code
def yJ2_length_9d52b : MethodName := ⟨RJ2, "length", "([B)I"⟩
abbrev cJ2_charAt_3b067 : ByteArray := prog_25_method_83_code
def yJ2_charAt_3b067 : MethodName := ⟨RJ2, "charAt", "([BI)C"⟩
abbrev cJ2_checkIndex_2214a : ByteArray := prog_25_method_91_code
def yJ2_checkIndex_2214a : MethodName := ⟨RJ2, "checkIndex", "(I[B)V"⟩
def RJ10 : String := "java/lang/System"
def TJ10 : u_T := fun k => match k with
  | _ => ("", "", "", false)
def tyJ10 : Nat → FieldType := fun k => match k with
  | _ => .int
abbrev wsJ100 : List Cond := u_ws RJ10 TJ10 0
theorem nmJ10 : ∀ a, a < 0 → ∀ b, b < 0 → a ≠ b → (TJ10 a).2.1 ≠ (TJ10 b).2.1 := by decide +kernel
theorem tyJ10_ok : ∀ k, k < 0 → parseFieldDescriptor (TJ10 k).2.2.1 = some (tyJ10 k) := by decide +kernel
def RJ3 : String := "jdk/internal/util/Preconditions"
def TJ3 : u_T := fun k => match k with
  | _ => ("", "", "", false)
def tyJ3 : Nat → FieldType := fun k => match k with
  | _ => .int
abbrev wsJ30 : List Cond := u_ws RJ3 TJ3 0
theorem nmJ3 : ∀ a, a < 0 → ∀ b, b < 0 → a ≠ b → (TJ3 a).2.1 ≠ (TJ3 b).2.1 := by decide +kernel
theorem tyJ3_ok : ∀ k, k < 0 → parseFieldDescriptor (TJ3 k).2.2.1 = some (tyJ3 k) := by decide +kernel
abbrev cJ3_checkIndex_8e157 : ByteArray := prog_28_method_11_code
def yJ3_checkIndex_8e157 : MethodName := ⟨RJ3, "checkIndex", "(IILjava/util/function/BiFunction;)I"⟩
def RL : String := "CrateTourLaw"
abbrev cL_addVenue : ByteArray := method_3_code
def yL_addVenue : MethodName := ⟨RL, "addVenue", "(LCrateTour;IIII[J)I"⟩
abbrev cL_setClimate : ByteArray := method_4_code
def yL_setClimate : MethodName := ⟨RL, "setClimate", "(LCrateTour;III[J)I"⟩
abbrev cL_setWay : ByteArray := method_5_code
def yL_setWay : MethodName := ⟨RL, "setWay", "(LCrateTour;III[J)I"⟩
abbrev cL_setLender : ByteArray := method_6_code
def yL_setLender : MethodName := ⟨RL, "setLender", "(LCrateTour;III[J)I"⟩
abbrev cL_setWayRate : ByteArray := method_7_code
def yL_setWayRate : MethodName := ⟨RL, "setWayRate", "(LCrateTour;I[J)I"⟩
abbrev cL_addCourier : ByteArray := method_8_code
def yL_addCourier : MethodName := ⟨RL, "addCourier", "(LCrateTour;I[J)I"⟩
abbrev cL_addCrate : ByteArray := method_9_code
def yL_addCrate : MethodName := ⟨RL, "addCrate", "(LCrateTour;II[J)I"⟩
abbrev cL_addWork : ByteArray := method_10_code
def yL_addWork : MethodName := ⟨RL, "addWork", "(LCrateTour;IIIIZ[J)I"⟩
abbrev cL_open : ByteArray := method_11_code
def yL_open : MethodName := ⟨RL, "open", "(LCrateTour;I[J)I"⟩
abbrev cL_close : ByteArray := method_12_code
def yL_close : MethodName := ⟨RL, "close", "(LCrateTour;I[J)I"⟩
abbrev cL_nest : ByteArray := method_13_code
def yL_nest : MethodName := ⟨RL, "nest", "(LCrateTour;II[J)I"⟩
abbrev cL_takeOut : ByteArray := method_14_code
def yL_takeOut : MethodName := ⟨RL, "takeOut", "(LCrateTour;I[J)I"⟩
abbrev cL_pack : ByteArray := method_15_code
def yL_pack : MethodName := ⟨RL, "pack", "(LCrateTour;II[J)I"⟩
abbrev cL_unpack : ByteArray := method_16_code
def yL_unpack : MethodName := ⟨RL, "unpack", "(LCrateTour;I[J)I"⟩
abbrev cL_send : ByteArray := method_17_code
def yL_send : MethodName := ⟨RL, "send", "(LCrateTour;III[J)I"⟩
abbrev cL_advance : ByteArray := method_18_code
def yL_advance : MethodName := ⟨RL, "advance", "(LCrateTour;I[J)I"⟩
abbrev cL_refusal : ByteArray := method_19_code
def yL_refusal : MethodName := ⟨RL, "refusal", "(LCrateTour;III[J)I"⟩
abbrev cL_crate : ByteArray := method_20_code
def yL_crate : MethodName := ⟨RL, "crate", "(LCrateTour;II[J)I"⟩
abbrev cL_work : ByteArray := method_21_code
def yL_work : MethodName := ⟨RL, "work", "(LCrateTour;II[J)I"⟩
abbrev cL_noted : ByteArray := method_22_code
def yL_noted : MethodName := ⟨RL, "noted", "(LCrateTour;II[J)I"⟩
abbrev cL_venue : ByteArray := method_23_code
def yL_venue : MethodName := ⟨RL, "venue", "(LCrateTour;II[J)I"⟩
abbrev cL_courier : ByteArray := method_24_code
def yL_courier : MethodName := ⟨RL, "courier", "(LCrateTour;I[J)I"⟩
abbrev cL_whole : ByteArray := method_25_code
def yL_whole : MethodName := ⟨RL, "whole", "(LCrateTour;I[J)I"⟩
abbrev cL_readyAt : ByteArray := method_26_code
def yL_readyAt : MethodName := ⟨RL, "readyAt", "(LCrateTour;I[J)I"⟩
abbrev cL_allReadyAt : ByteArray := method_27_code
def yL_allReadyAt : MethodName := ⟨RL, "allReadyAt", "(LCrateTour;I[J)I"⟩
abbrev cL_bestVenue : ByteArray := method_28_code
def yL_bestVenue : MethodName := ⟨RL, "bestVenue", "(LCrateTour;II[J)I"⟩
abbrev cL_type : ByteArray := method_29_code
def yL_type : MethodName := ⟨RL, "type", "(LCrateTour;I[J)I"⟩
abbrev cL_undo : ByteArray := method_30_code
def yL_undo : MethodName := ⟨RL, "undo", "(LCrateTour;[J)I"⟩
abbrev cL_law : ByteArray := code
def yL_law : MethodName := ⟨RL, "law", "([I)Z"⟩
abbrev vwCl : List vw_C := [(RX1, TX1, 1), (RX2, TX2, 6), (RX3, TX3, 10), (RX4, TX4, 1), (RX5, TX5, 3), (RX6, TX6, 14), (RX7, TX7, 2), (RX8, TX8, 1), (RX9, TX9, 6), (RX11, TX11, 9), (RX12, TX12, 7), (RX13, TX13, 11)]
end
section
/-! THE LOGIC: contracts over one heap G (a partial map from addresses to what lies there), and a judgement J, a row an instruction. -/
/-- the fixed data of a run: class numbers, array classes, the heap at the law's start, what is known of constants -/
abbrev Gl : Type := va_G × (Nat → ClassId) × Heap × (State → Prop)
abbrev Gf : Type := Nat → Option va_E
def gTys (c : Nat → ClassId) : List (ClassId × FieldType) := [(c 0, .byte), (c 1, .int), (c 2, .long), (c 3, .object "CrateTour$Crate"), (c 4, .object "CrateTour$State"), (c 5, .object "CrateTour$Venue"), (c 6, .object "CrateTour$Work"), (c 7, .array .int)]
def aA (Γ : Gl) : Nat → Prop := fun q => Γ.2.2.1.size ≤ q
def Rp (Γ : Gl) (G : Gf) (H : Heap) : Prop := ∀ (a : Nat) (e : va_E), G a = some e → va_at Γ.1 vwCl (a, e) H ∧ aA Γ a
def Hp (Γ : Gl) (G : Gf) (sz : Nat) (H : Heap) : Prop := H.size = sz ∧ Γ.2.2.1.size ≤ H.size ∧ (∀ q : Nat, q < Γ.2.2.1.size → H[q]? = Γ.2.2.1[q]?) ∧ Rp Γ G H
def Clo (Γ : Gl) : Prop := (∀ s U : State, s.WarmedH U.vm → Γ.2.2.2 s → Γ.2.2.2 U) ∧ ∀ (U : State) (g : JFrame) (mk : MethodId) (a : Array Value), Γ.2.2.2 U → Γ.2.2.2 (U.calling g mk a)
def KV (Γ : Gl) (U : State) : Prop := va_K Γ.1 vwCl (gTys Γ.2.1) U ∧ Γ.2.2.2 U ∧ Clo Γ
def WT : List Cond := lw_tbl.filter goodWord
def wy (y : MethodName) (cc : ByteArray) (nL : Nat) (ret : Option FieldType) : List Cond := .code y cc nL ret :: WT
def rmL (t mc ms : Nat) : Room := { frames := t, cells := mc, slots := ms, locals := 30 * t }
def QcO (Γ : Gl) (Ψ : Option Value → Gf → Nat → Prop) : Array Value → State → Outcome → State → Prop := fun _ _ o t => ∃ (r : Option Value) (G' : Gf) (sz' : Nat), o = .returned r ∧ Ψ r G' sz' ∧ Hp Γ G' sz' t.heap
/-- a contract: from the heap G, of size sz, the method y called with av returns, with Ψ (answer, heap, size); t: how deep its own calls go -/
def Ct (l : Launch) (Γ : Gl) (y : MethodName) (cc : ByteArray) (nL : Nat) (ret : Option FieldType) (t : Nat) (av : List Value) (G : Gf) (sz : Nat) (Ψ : Option Value → Gf → Nat → Prop) (mc ms : Nat) : Prop :=
  Met l y (wy y cc nL ret) (rmL t mc ms) (va_Pc av (fun U => KV Γ U ∧ Hp Γ G sz U.heap)) (QcO Γ Ψ) mc ms (aA Γ)
def updG (G : Gf) (a : Nat) (e : va_E) : Gf := fun b => if b = a then some e else G b
theorem updG_self {G : Gf} {a : Nat} {e : va_E} : updG G a e a = some e := if_pos rfl
theorem updG_ne {G : Gf} {a b : Nat} {e : va_E} (h : b ≠ a) : updG G a e b = G b := if_neg h
/-- the frame that a method's body stands in -/
abbrev Cx : Type := Program × Launch × Env × Room × State × MethodId × Array Value × List Frame × Method × Code × (State → Prop) × Gl
abbrev xp (X : Cx) : Program := X.1
abbrev xl (X : Cx) : Launch := X.2.1
abbrev xe (X : Cx) : Env := X.2.2.1
abbrev xR (X : Cx) : Room := X.2.2.2.1
abbrev xs (X : Cx) : State := X.2.2.2.2.1
abbrev xm (X : Cx) : MethodId := X.2.2.2.2.2.1
abbrev xa (X : Cx) : Array Value := X.2.2.2.2.2.2.1
abbrev xb (X : Cx) : List Frame := X.2.2.2.2.2.2.2.1
abbrev xM (X : Cx) : Method := X.2.2.2.2.2.2.2.2.1
abbrev xc (X : Cx) : Code := X.2.2.2.2.2.2.2.2.2.1
abbrev xQ (X : Cx) : State → Prop := X.2.2.2.2.2.2.2.2.2.2.1
abbrev xΓ (X : Cx) : Gl := X.2.2.2.2.2.2.2.2.2.2.2
abbrev xW (X : Cx) (H : Heap) (locs : List Loc) (k n : Nat) (g : JFrame) : Prop := W (xp X) (xl X) (xe X) (xR X) (xs X) (xm X) (xa X) (xb X) (xM X) (xc X) H locs k n (xQ X) g
def lvO (lsA : Array Slot) (nL : Nat) (ls : List (Option Value)) : Prop := lsA.size = nL ∧ lv_wf lsA ∧ ∀ (i : Nat) (v : Value), ls[i]? = some (some v) → lsA[i]? = some (.val v)
def lo_l (ls : List (Option Value)) : List (Nat × Value) := (List.range ls.length).filterMap fun i => (ls[i]?).join.map fun v => (i, v)
theorem lo_mem {ls : List (Option Value)} {q : Nat × Value} : q ∈ lo_l ls ↔ ls[q.1]? = some (some q.2) := by
  unfold lo_l
  rw [List.mem_filterMap]
  constructor
  · rintro ⟨i, -, h⟩
    rw [Option.map_eq_some_iff] at h
    obtain ⟨v, h1, h2⟩ := h
    subst h2
    exact Option.join_eq_some_iff.mp h1
  · intro h
    refine ⟨q.1, List.mem_range.mpr (List.getElem?_eq_some_iff.mp h).1, ?_⟩
    rw [h]
    rfl
theorem lvO_has {lsA : Array Slot} {nL : Nat} {ls : List (Option Value)} (h : lvO lsA nL ls) : lv_has lsA nL (lo_l ls) := ⟨h.1, h.2.1, fun q hq => h.2.2 q.1 q.2 (lo_mem.mp hq)⟩
theorem lvO_st1 {ls' : Array Slot} {nL i : Nat} {v : Value} {ls : List (Option Value)} (h : lv_has ls' nL ((i, v) :: (lo_l ls).filter (fun q => !(q.1 == i) && !(q.1 + 1 == i && q.2.category == 2)))) (hc : ∀ w : Value, i ≠ 0 → ls[i - 1]? = some (some w) → w.category = 1) : lvO ls' nL (ls.set i (some v)) := by
  refine ⟨h.1, h.2.1, fun j w hj => ?_⟩
  by_cases e : j = i
  · subst e
    have hl : j < ls.length := by
      have := (List.getElem?_eq_some_iff.mp hj).1
      simpa using this
    rw [List.getElem?_set_self hl] at hj
    cases hj
    exact h.2.2 (j, v) List.mem_cons_self
  · rw [List.getElem?_set_ne (Ne.symm e)] at hj
    refine h.2.2 (j, w) (List.mem_cons_of_mem _ (List.mem_filter.mpr ⟨lo_mem.mpr hj, ?_⟩))
    simp only [Bool.and_eq_true, Bool.not_eq_true', beq_eq_false_iff_ne, ne_eq, Bool.and_eq_false_iff]
    refine ⟨e, ?_⟩
    by_cases e2 : j + 1 = i
    · right
      have hw := hc w (by omega) (by rw [show i - 1 = j by omega]; exact hj)
      rw [hw]; decide
    · exact Or.inl e2
theorem lvO_st2 {ls' : Array Slot} {nL i : Nat} {v : Value} {ls : List (Option Value)} (h : lv_has ls' nL ((i, v) :: (lo_l ls).filter (fun q => !(q.1 == i) && (!(q.1 == i + 1) && !(q.1 + 1 == i && q.2.category == 2))))) (hc : ∀ w : Value, i ≠ 0 → ls[i - 1]? = some (some w) → w.category = 1) : lvO ls' nL ((ls.set i (some v)).set (i + 1) none) := by
  refine ⟨h.1, h.2.1, fun j w hj => ?_⟩
  by_cases e1 : j = i + 1
  · subst e1
    by_cases hl : i + 1 < (ls.set i (some v)).length
    · rw [List.getElem?_set_self hl] at hj; cases hj
    · rw [List.getElem?_eq_none (by simpa using hl)] at hj; cases hj
  rw [List.getElem?_set_ne (Ne.symm e1)] at hj
  by_cases e : j = i
  · subst e
    have hl : j < ls.length := by
      have := (List.getElem?_eq_some_iff.mp hj).1
      simpa using this
    rw [List.getElem?_set_self hl] at hj
    cases hj
    exact h.2.2 (j, v) List.mem_cons_self
  · rw [List.getElem?_set_ne (Ne.symm e)] at hj
    refine h.2.2 (j, w) (List.mem_cons_of_mem _ (List.mem_filter.mpr ⟨lo_mem.mpr hj, ?_⟩))
    simp only [Bool.and_eq_true, Bool.not_eq_true', beq_eq_false_iff_ne, ne_eq, Bool.and_eq_false_iff]
    refine ⟨e, e1, ?_⟩
    by_cases e2 : j + 1 = i
    · right
      have hw := hc w (by omega) (by rw [show i - 1 = j by omega]; exact hj)
      rw [hw]; decide
    · exact Or.inl e2
def J (X : Cx) (nL : Nat) (G : Gf) (sz k n pc : Nat) (ls : List (Option Value)) (st : List Value) : Prop :=
  ∀ (H : Heap) (locs : List Loc) (lsA : Array Slot), Hp (xΓ X) G sz H → (∀ q ∈ locs, aA (xΓ X) q.base) → lvO lsA nL ls → xW X H locs k n (F0 (xm X) pc lsA st)
def Fx (X : Cx) (cc : ByteArray) (nL : Nat) (own : String) (t mc ms : Nat) : Prop :=
  (xp X).tables.exec = Jvm.exec ∧ (xc X).code = cc ∧ (xc X).maxLocals = nL ∧ (xs X).vm.findClass own = some (xm X).cls ∧ (∀ w ∈ WT, w.before (xa X) (xs X) = true) ∧ KV (xΓ X) (xs X) ∧ xR X = rmL t mc ms ∧ (xM X).locks = false
/-- how a method's body may end: what holds behind a return -/
def Rt (X : Cx) (ret : Option FieldType) (mc ms : Nat) (Ψ : Option Value → Gf → Nat → Prop) : Prop :=
  (xM X).sig.returnType = ret ∧ ∀ (H : Heap) (locs : List Loc) (g : JFrame), W (xp X) (xl X) (xe X) (xR X) (xs X) (xm X) (xa X) (xb X) (xM X) (xc X) H locs mc ms (MQ (xb X) (QcO (xΓ X) Ψ) (xa X) (xs X) mc ms (aA (xΓ X))) g → xW X H locs mc ms g
section JR
variable {X : Cx} {cc : ByteArray} {nL : Nat} {own : String} {t mc ms : Nat} {G : Gf} {sz k n pc : Nat} {ls : List (Option Value)} {st : List Value}
theorem J_iconst (hx : Fx X cc nL own t mc ms) {i : Int} (v : Int32) (hd : decode cc pc = .ok (.iconst i, 1)) (hv : Int32.ofInt i = v) (kk : J X nL G sz k n (pc + 1) ls (.int v :: st)) : J X nL G sz k n pc ls st :=
  fun H locs lsA hH hl hv2 => lv_iconst hx.1 hx.2.1 hd hv (kk H locs lsA hH hl hv2)
theorem J_bipush (hx : Fx X cc nL own t mc ms) {i : Int} (v : Int32) (hd : decode cc pc = .ok (.bipush i, 2)) (hv : (Int8.ofInt i).toInt32 = v) (kk : J X nL G sz k n (pc + 2) ls (.int v :: st)) : J X nL G sz k n pc ls st :=
  fun H locs lsA hH hl hv2 => lv_bipush hx.1 hx.2.1 hd hv (kk H locs lsA hH hl hv2)
theorem J_sipush (hx : Fx X cc nL own t mc ms) {i : Int} (v : Int32) (hd : decode cc pc = .ok (.sipush i, 3)) (hv : (Int16.ofInt i).toInt32 = v) (kk : J X nL G sz k n (pc + 3) ls (.int v :: st)) : J X nL G sz k n pc ls st :=
  fun H locs lsA hH hl hv2 => lv_sipush hx.1 hx.2.1 hd hv (kk H locs lsA hH hl hv2)
theorem J_lconst (hx : Fx X cc nL own t mc ms) {i : Fin 2} (v : Int64) (hd : decode cc pc = .ok (.lconst i, 1)) (hv : Int64.ofNat (i : Nat) = v) (kk : J X nL G sz k n (pc + 1) ls (.long v :: st)) : J X nL G sz k n pc ls st :=
  fun H locs lsA hH hl hv2 => lv_lconst hx.1 hx.2.1 hd hv (kk H locs lsA hH hl hv2)
theorem J_ldc (hx : Fx X cc nL own t mc ms) {i : Nat} {v : Int32} (hc : Cond.constant own i v ∈ WT) (hd : decode cc pc = .ok (.ldc i, 2)) (kk : J X nL G sz k n (pc + 2) ls (.int v :: st)) : J X nL G sz k n pc ls st :=
  fun H locs lsA hH hl hv2 => lv_ldc hx.1 hx.2.1 hx.2.2.2.1 (hx.2.2.2.2.1 _ hc) hd (kk H locs lsA hH hl hv2)
theorem J_ldcw (hx : Fx X cc nL own t mc ms) {i : Nat} {v : Int32} (hc : Cond.constant own i v ∈ WT) (hd : decode cc pc = .ok (.ldc_w i, 3)) (kk : J X nL G sz k n (pc + 3) ls (.int v :: st)) : J X nL G sz k n pc ls st :=
  fun H locs lsA hH hl hv2 => lv_ldcw hx.1 hx.2.1 hx.2.2.2.1 (hx.2.2.2.2.1 _ hc) hd (kk H locs lsA hH hl hv2)
theorem J_ldc2 (hx : Fx X cc nL own t mc ms) {i : Nat} {v : Int64} (hc : Cond.constantLong own i v ∈ WT) (hd : decode cc pc = .ok (.ldc2_w i, 3)) (kk : J X nL G sz k n (pc + 3) ls (.long v :: st)) : J X nL G sz k n pc ls st :=
  fun H locs lsA hH hl hv2 => lv_ldc2 hx.1 hx.2.1 hx.2.2.2.1 (hx.2.2.2.2.1 _ hc) hd (kk H locs lsA hH hl hv2)
-- locals, by their places
theorem J_il4 (hx : Fx X cc nL own t mc ms) {q : Fin 4} {i : Nat} {v : Int32} (hi : (q : Nat) = i) (hg : ls[i]? = some (some (.int v))) (hd : decode cc pc = .ok (.iload_n q, 1)) (kk : J X nL G sz k n (pc + 1) ls (.int v :: st)) : J X nL G sz k n pc ls st :=
  fun H locs lsA hH hl hv2 => lv_iload_n hx.1 hx.2.1 hd hi (hv2.2.2 _ _ hg) (kk H locs lsA hH hl hv2)
theorem J_il (hx : Fx X cc nL own t mc ms) {i : Nat} {v : Int32} (hg : ls[i]? = some (some (.int v))) (hd : decode cc pc = .ok (.iload i, 2)) (kk : J X nL G sz k n (pc + 2) ls (.int v :: st)) : J X nL G sz k n pc ls st :=
  fun H locs lsA hH hl hv2 => lv_iload hx.1 hx.2.1 hd (hv2.2.2 _ _ hg) (kk H locs lsA hH hl hv2)
theorem J_ll4 (hx : Fx X cc nL own t mc ms) {q : Fin 4} {i : Nat} {v : Int64} (hi : (q : Nat) = i) (hg : ls[i]? = some (some (.long v))) (hd : decode cc pc = .ok (.lload_n q, 1)) (kk : J X nL G sz k n (pc + 1) ls (.long v :: st)) : J X nL G sz k n pc ls st :=
  fun H locs lsA hH hl hv2 => lv_lload_n hx.1 hx.2.1 hd hi (hv2.2.2 _ _ hg) (kk H locs lsA hH hl hv2)
theorem J_ll (hx : Fx X cc nL own t mc ms) {i : Nat} {v : Int64} (hg : ls[i]? = some (some (.long v))) (hd : decode cc pc = .ok (.lload i, 2)) (kk : J X nL G sz k n (pc + 2) ls (.long v :: st)) : J X nL G sz k n pc ls st :=
  fun H locs lsA hH hl hv2 => lv_lload hx.1 hx.2.1 hd (hv2.2.2 _ _ hg) (kk H locs lsA hH hl hv2)
theorem J_al4 (hx : Fx X cc nL own t mc ms) {q : Fin 4} {i : Nat} {v : Nat} (hi : (q : Nat) = i) (hg : ls[i]? = some (some (.ref v))) (hd : decode cc pc = .ok (.aload_n q, 1)) (kk : J X nL G sz k n (pc + 1) ls (.ref v :: st)) : J X nL G sz k n pc ls st :=
  fun H locs lsA hH hl hv2 => lv_aload_n hx.1 hx.2.1 hd hi (hv2.2.2 _ _ hg) (kk H locs lsA hH hl hv2)
theorem J_al (hx : Fx X cc nL own t mc ms) {i : Nat} {v : Nat} (hg : ls[i]? = some (some (.ref v))) (hd : decode cc pc = .ok (.aload i, 2)) (kk : J X nL G sz k n (pc + 2) ls (.ref v :: st)) : J X nL G sz k n pc ls st :=
  fun H locs lsA hH hl hv2 => lv_aload hx.1 hx.2.1 hd (hv2.2.2 _ _ hg) (kk H locs lsA hH hl hv2)
theorem J_is4 (hx : Fx X cc nL own t mc ms) {q : Fin 4} {i : Nat} {v : Int32} {ls' : List (Option Value)} (hi : (q : Nat) = i) (hn : i < nL) (hc : ∀ w : Value, i ≠ 0 → ls[i - 1]? = some (some w) → w.category = 1) (e : ls.set i (some (.int v)) = ls') (hd : decode cc pc = .ok (.istore_n q, 1)) (kk : J X nL G sz k n (pc + 1) ls' st) : J X nL G sz k n pc ls (.int v :: st) :=
  fun H locs lsA hH hl hv2 => lv_istore_n hx.1 hx.2.1 hd hi (lvO_has hv2) hn rfl (fun ls2 h2 => kk H locs ls2 hH hl (e ▸ lvO_st1 h2 hc))
theorem J_is (hx : Fx X cc nL own t mc ms) {i : Nat} {v : Int32} {ls' : List (Option Value)} (hn : i < nL) (hc : ∀ w : Value, i ≠ 0 → ls[i - 1]? = some (some w) → w.category = 1) (e : ls.set i (some (.int v)) = ls') (hd : decode cc pc = .ok (.istore i, 2)) (kk : J X nL G sz k n (pc + 2) ls' st) : J X nL G sz k n pc ls (.int v :: st) :=
  fun H locs lsA hH hl hv2 => lv_istore hx.1 hx.2.1 hd (lvO_has hv2) hn rfl (fun ls2 h2 => kk H locs ls2 hH hl (e ▸ lvO_st1 h2 hc))
theorem J_as4 (hx : Fx X cc nL own t mc ms) {q : Fin 4} {i : Nat} {v : Nat} {ls' : List (Option Value)} (hi : (q : Nat) = i) (hn : i < nL) (hc : ∀ w : Value, i ≠ 0 → ls[i - 1]? = some (some w) → w.category = 1) (e : ls.set i (some (.ref v)) = ls') (hd : decode cc pc = .ok (.astore_n q, 1)) (kk : J X nL G sz k n (pc + 1) ls' st) : J X nL G sz k n pc ls (.ref v :: st) :=
  fun H locs lsA hH hl hv2 => lv_astore_n hx.1 hx.2.1 hd hi (lvO_has hv2) hn rfl (fun ls2 h2 => kk H locs ls2 hH hl (e ▸ lvO_st1 h2 hc))
theorem J_as (hx : Fx X cc nL own t mc ms) {i : Nat} {v : Nat} {ls' : List (Option Value)} (hn : i < nL) (hc : ∀ w : Value, i ≠ 0 → ls[i - 1]? = some (some w) → w.category = 1) (e : ls.set i (some (.ref v)) = ls') (hd : decode cc pc = .ok (.astore i, 2)) (kk : J X nL G sz k n (pc + 2) ls' st) : J X nL G sz k n pc ls (.ref v :: st) :=
  fun H locs lsA hH hl hv2 => lv_astore hx.1 hx.2.1 hd (lvO_has hv2) hn rfl (fun ls2 h2 => kk H locs ls2 hH hl (e ▸ lvO_st1 h2 hc))
theorem J_ls4 (hx : Fx X cc nL own t mc ms) {q : Fin 4} {i : Nat} {v : Int64} {ls' : List (Option Value)} (hi : (q : Nat) = i) (hn : i + 1 < nL) (hc : ∀ w : Value, i ≠ 0 → ls[i - 1]? = some (some w) → w.category = 1) (e : (ls.set i (some (.long v))).set (i + 1) none = ls') (hd : decode cc pc = .ok (.lstore_n q, 1)) (kk : J X nL G sz k n (pc + 1) ls' st) : J X nL G sz k n pc ls (.long v :: st) :=
  fun H locs lsA hH hl hv2 => lv_lstore_n hx.1 hx.2.1 hd hi (lvO_has hv2) hn rfl (fun ls2 h2 => kk H locs ls2 hH hl (e ▸ lvO_st2 h2 hc))
theorem J_iinc (hx : Fx X cc nL own t mc ms) {i : Nat} {d : Int} {v v' : Int32} {ls' : List (Option Value)} (hg : ls[i]? = some (some (.int v))) (hv' : v + Int32.ofInt d = v') (hn : i < nL) (hc : ∀ w : Value, i ≠ 0 → ls[i - 1]? = some (some w) → w.category = 1) (e : ls.set i (some (.int v')) = ls') (hd : decode cc pc = .ok (.iinc i d, 3)) (kk : J X nL G sz k n (pc + 3) ls' st) : J X nL G sz k n pc ls st := fun H locs lsA hH hl hv2 => by
  obtain ⟨kq, hkq⟩ := List.getElem?_of_mem (lo_mem.mpr hg : (i, Value.int v) ∈ lo_l ls)
  exact lv_iinc hx.1 hx.2.1 hd (lvO_has hv2) hkq hv' hn rfl (fun ls2 h2 => kk H locs ls2 hH hl (e ▸ lvO_st1 h2 hc))
-- arithmetic
theorem J_iadd (hx : Fx X cc nL own t mc ms) {x y : Int32} (hd : decode cc pc = .ok (.iadd, 1)) (kk : J X nL G sz k n (pc + 1) ls (.int (x + y) :: st)) : J X nL G sz k n pc ls (.int y :: .int x :: st) :=
  fun H locs lsA hH hl hv2 => lv_iadd hx.1 hx.2.1 hd (kk H locs lsA hH hl hv2)
theorem J_isub (hx : Fx X cc nL own t mc ms) {x y : Int32} (hd : decode cc pc = .ok (.isub, 1)) (kk : J X nL G sz k n (pc + 1) ls (.int (x - y) :: st)) : J X nL G sz k n pc ls (.int y :: .int x :: st) :=
  fun H locs lsA hH hl hv2 => lv_isub hx.1 hx.2.1 hd (kk H locs lsA hH hl hv2)
theorem J_imul (hx : Fx X cc nL own t mc ms) {x y : Int32} (hd : decode cc pc = .ok (.imul, 1)) (kk : J X nL G sz k n (pc + 1) ls (.int (x * y) :: st)) : J X nL G sz k n pc ls (.int y :: .int x :: st) :=
  fun H locs lsA hH hl hv2 => lv_imul hx.1 hx.2.1 hd (kk H locs lsA hH hl hv2)
theorem J_iand (hx : Fx X cc nL own t mc ms) {x y : Int32} (hd : decode cc pc = .ok (.iand, 1)) (kk : J X nL G sz k n (pc + 1) ls (.int (x &&& y) :: st)) : J X nL G sz k n pc ls (.int y :: .int x :: st) :=
  fun H locs lsA hH hl hv2 => lv_iand hx.1 hx.2.1 hd (kk H locs lsA hH hl hv2)
theorem J_idiv (hx : Fx X cc nL own t mc ms) {x y : Int32} (hne : ¬ y = 0) (hd : decode cc pc = .ok (.idiv, 1)) (kk : J X nL G sz k n (pc + 1) ls (.int (x / y) :: st)) : J X nL G sz k n pc ls (.int y :: .int x :: st) :=
  fun H locs lsA hH hl hv2 => lv_idiv hx.1 hx.2.1 hd hne (kk H locs lsA hH hl hv2)
theorem J_irem (hx : Fx X cc nL own t mc ms) {x y : Int32} (hne : ¬ y = 0) (hd : decode cc pc = .ok (.irem, 1)) (kk : J X nL G sz k n (pc + 1) ls (.int (x - (x / y) * y) :: st)) : J X nL G sz k n pc ls (.int y :: .int x :: st) :=
  fun H locs lsA hH hl hv2 => lv_irem hx.1 hx.2.1 hd hne (kk H locs lsA hH hl hv2)
theorem J_ineg (hx : Fx X cc nL own t mc ms) {x : Int32} (hd : decode cc pc = .ok (.ineg, 1)) (kk : J X nL G sz k n (pc + 1) ls (.int (-x) :: st)) : J X nL G sz k n pc ls (.int x :: st) :=
  fun H locs lsA hH hl hv2 => lv_ineg hx.1 hx.2.1 hd (kk H locs lsA hH hl hv2)
theorem J_ishr (hx : Fx X cc nL own t mc ms) {x y : Int32} (hd : decode cc pc = .ok (.ishr, 1)) (kk : J X nL G sz k n (pc + 1) ls (.int (x >>> (y &&& 31)) :: st)) : J X nL G sz k n pc ls (.int y :: .int x :: st) :=
  fun H locs lsA hH hl hv2 => lv_ishr hx.1 hx.2.1 hd (kk H locs lsA hH hl hv2)
theorem J_ladd (hx : Fx X cc nL own t mc ms) {x y : Int64} (hd : decode cc pc = .ok (.ladd, 1)) (kk : J X nL G sz k n (pc + 1) ls (.long (x + y) :: st)) : J X nL G sz k n pc ls (.long y :: .long x :: st) :=
  fun H locs lsA hH hl hv2 => lv_ladd hx.1 hx.2.1 hd (kk H locs lsA hH hl hv2)
theorem J_lsub (hx : Fx X cc nL own t mc ms) {x y : Int64} (hd : decode cc pc = .ok (.lsub, 1)) (kk : J X nL G sz k n (pc + 1) ls (.long (x - y) :: st)) : J X nL G sz k n pc ls (.long y :: .long x :: st) :=
  fun H locs lsA hH hl hv2 => lv_lsub hx.1 hx.2.1 hd (kk H locs lsA hH hl hv2)
theorem J_lmul (hx : Fx X cc nL own t mc ms) {x y : Int64} (hd : decode cc pc = .ok (.lmul, 1)) (kk : J X nL G sz k n (pc + 1) ls (.long (x * y) :: st)) : J X nL G sz k n pc ls (.long y :: .long x :: st) :=
  fun H locs lsA hH hl hv2 => lv_lmul hx.1 hx.2.1 hd (kk H locs lsA hH hl hv2)
theorem J_ldiv (hx : Fx X cc nL own t mc ms) {x y : Int64} (hne : ¬ y = 0) (hd : decode cc pc = .ok (.ldiv, 1)) (kk : J X nL G sz k n (pc + 1) ls (.long (x / y) :: st)) : J X nL G sz k n pc ls (.long y :: .long x :: st) :=
  fun H locs lsA hH hl hv2 => lv_ldiv hx.1 hx.2.1 hd hne (kk H locs lsA hH hl hv2)
theorem J_lcmp (hx : Fx X cc nL own t mc ms) {x y : Int64} (hd : decode cc pc = .ok (.lcmp, 1)) (kk : J X nL G sz k n (pc + 1) ls (.int (lg_cmp x y) :: st)) : J X nL G sz k n pc ls (.long y :: .long x :: st) :=
  fun H locs lsA hH hl hv2 => W.lcmp hx.1 hx.2.1 hd (kk H locs lsA hH hl hv2)
theorem J_i2l (hx : Fx X cc nL own t mc ms) {x : Int32} (hd : decode cc pc = .ok (.i2l, 1)) (kk : J X nL G sz k n (pc + 1) ls (.long x.toInt64 :: st)) : J X nL G sz k n pc ls (.int x :: st) :=
  fun H locs lsA hH hl hv2 => lv_i2l hx.1 hx.2.1 hd rfl (kk H locs lsA hH hl hv2)
theorem J_l2i (hx : Fx X cc nL own t mc ms) {x : Int64} (hd : decode cc pc = .ok (.l2i, 1)) (kk : J X nL G sz k n (pc + 1) ls (.int x.toInt32 :: st)) : J X nL G sz k n pc ls (.long x :: st) :=
  fun H locs lsA hH hl hv2 => lv_l2i hx.1 hx.2.1 hd rfl (kk H locs lsA hH hl hv2)
theorem J_i2b (hx : Fx X cc nL own t mc ms) {x : Int32} (hd : decode cc pc = .ok (.i2b, 1)) (kk : J X nL G sz k n (pc + 1) ls (.int x.toInt8.toInt32 :: st)) : J X nL G sz k n pc ls (.int x :: st) :=
  fun H locs lsA hH hl hv2 => lv_i2b hx.1 hx.2.1 hd rfl (kk H locs lsA hH hl hv2)
theorem J_dup (hx : Fx X cc nL own t mc ms) {v : Value} (hd : decode cc pc = .ok (.dup, 1)) (kk : J X nL G sz k n (pc + 1) ls (v :: v :: st)) (hc : v.category = 1 := by rfl) : J X nL G sz k n pc ls (v :: st) :=
  fun H locs lsA hH hl hv2 => lv_dup hx.1 hx.2.1 hd hc (kk H locs lsA hH hl hv2)
theorem J_pop (hx : Fx X cc nL own t mc ms) {v : Value} (hd : decode cc pc = .ok (.pop, 1)) (kk : J X nL G sz k n (pc + 1) ls st) (hc : v.category = 1 := by rfl) : J X nL G sz k n pc ls (v :: st) :=
  fun H locs lsA hH hl hv2 => lv_pop hx.1 hx.2.1 hd hc (kk H locs lsA hH hl hv2)
theorem J_dup2 (hx : Fx X cc nL own t mc ms) {v w : Value} (hd : decode cc pc = .ok (.dup2, 1)) (kk : J X nL G sz k n (pc + 1) ls (v :: w :: v :: w :: st)) (hc : v.category = 1 := by rfl) (hc2 : w.category = 1 := by rfl) : J X nL G sz k n pc ls (v :: w :: st) :=
  fun H locs lsA hH hl hv2 => lv_dup2_11 hx.1 hx.2.1 hd hc hc2 (kk H locs lsA hH hl hv2)
theorem J_goto (hx : Fx X cc nL own t mc ms) {off : Int} (tgt : Nat) (hd : decode cc pc = .ok (.goto off, 3)) (ht : (pc : Int) + off = (tgt : Int)) (kk : J X nL G sz k n tgt ls st) : J X nL G sz k n pc ls st :=
  fun H locs lsA hH hl hv2 => lv_goto hx.1 hx.2.1 hd ht (kk H locs lsA hH hl hv2)
theorem J_if_eq (hx : Fx X cc nL own t mc ms) {x : Int32} {off : Int} (tgt : Nat) (hd : decode cc pc = .ok (.ifCond .eq off, 3)) (ht : (pc : Int) + off = (tgt : Int)) (kt : x = 0 → J X nL G sz k n tgt ls st) (kf : ¬ x = 0 → J X nL G sz k n (pc + 3) ls st) : J X nL G sz k n pc ls (.int x :: st) :=
  fun H locs lsA hH hl hv2 => lv_if_eq hx.1 hx.2.1 hd ht (fun h => kt h H locs lsA hH hl hv2) (fun h => kf h H locs lsA hH hl hv2)
theorem J_icmp_eq (hx : Fx X cc nL own t mc ms) {x y : Int32} {off : Int} (tgt : Nat) (hd : decode cc pc = .ok (.if_icmp .eq off, 3)) (ht : (pc : Int) + off = (tgt : Int)) (kt : x = y → J X nL G sz k n tgt ls st) (kf : ¬ x = y → J X nL G sz k n (pc + 3) ls st) : J X nL G sz k n pc ls (.int y :: .int x :: st) :=
  fun H locs lsA hH hl hv2 => lv_icmp_eq hx.1 hx.2.1 hd ht (fun h => kt h H locs lsA hH hl hv2) (fun h => kf h H locs lsA hH hl hv2)
theorem J_if_ne (hx : Fx X cc nL own t mc ms) {x : Int32} {off : Int} (tgt : Nat) (hd : decode cc pc = .ok (.ifCond .ne off, 3)) (ht : (pc : Int) + off = (tgt : Int)) (kt : ¬ x = 0 → J X nL G sz k n tgt ls st) (kf : x = 0 → J X nL G sz k n (pc + 3) ls st) : J X nL G sz k n pc ls (.int x :: st) :=
  fun H locs lsA hH hl hv2 => lv_if_ne hx.1 hx.2.1 hd ht (fun h => kt h H locs lsA hH hl hv2) (fun h => kf h H locs lsA hH hl hv2)
theorem J_icmp_ne (hx : Fx X cc nL own t mc ms) {x y : Int32} {off : Int} (tgt : Nat) (hd : decode cc pc = .ok (.if_icmp .ne off, 3)) (ht : (pc : Int) + off = (tgt : Int)) (kt : ¬ x = y → J X nL G sz k n tgt ls st) (kf : x = y → J X nL G sz k n (pc + 3) ls st) : J X nL G sz k n pc ls (.int y :: .int x :: st) :=
  fun H locs lsA hH hl hv2 => lv_icmp_ne hx.1 hx.2.1 hd ht (fun h => kt h H locs lsA hH hl hv2) (fun h => kf h H locs lsA hH hl hv2)
theorem J_if_lt (hx : Fx X cc nL own t mc ms) {x : Int32} {off : Int} (tgt : Nat) (hd : decode cc pc = .ok (.ifCond .lt off, 3)) (ht : (pc : Int) + off = (tgt : Int)) (kt : x < 0 → J X nL G sz k n tgt ls st) (kf : ¬ x < 0 → J X nL G sz k n (pc + 3) ls st) : J X nL G sz k n pc ls (.int x :: st) :=
  fun H locs lsA hH hl hv2 => lv_if_lt hx.1 hx.2.1 hd ht (fun h => kt h H locs lsA hH hl hv2) (fun h => kf h H locs lsA hH hl hv2)
theorem J_icmp_lt (hx : Fx X cc nL own t mc ms) {x y : Int32} {off : Int} (tgt : Nat) (hd : decode cc pc = .ok (.if_icmp .lt off, 3)) (ht : (pc : Int) + off = (tgt : Int)) (kt : x < y → J X nL G sz k n tgt ls st) (kf : ¬ x < y → J X nL G sz k n (pc + 3) ls st) : J X nL G sz k n pc ls (.int y :: .int x :: st) :=
  fun H locs lsA hH hl hv2 => lv_icmp_lt hx.1 hx.2.1 hd ht (fun h => kt h H locs lsA hH hl hv2) (fun h => kf h H locs lsA hH hl hv2)
theorem J_if_ge (hx : Fx X cc nL own t mc ms) {x : Int32} {off : Int} (tgt : Nat) (hd : decode cc pc = .ok (.ifCond .ge off, 3)) (ht : (pc : Int) + off = (tgt : Int)) (kt : 0 ≤ x → J X nL G sz k n tgt ls st) (kf : ¬ 0 ≤ x → J X nL G sz k n (pc + 3) ls st) : J X nL G sz k n pc ls (.int x :: st) :=
  fun H locs lsA hH hl hv2 => lv_if_ge hx.1 hx.2.1 hd ht (fun h => kt h H locs lsA hH hl hv2) (fun h => kf h H locs lsA hH hl hv2)
theorem J_icmp_ge (hx : Fx X cc nL own t mc ms) {x y : Int32} {off : Int} (tgt : Nat) (hd : decode cc pc = .ok (.if_icmp .ge off, 3)) (ht : (pc : Int) + off = (tgt : Int)) (kt : y ≤ x → J X nL G sz k n tgt ls st) (kf : ¬ y ≤ x → J X nL G sz k n (pc + 3) ls st) : J X nL G sz k n pc ls (.int y :: .int x :: st) :=
  fun H locs lsA hH hl hv2 => lv_icmp_ge hx.1 hx.2.1 hd ht (fun h => kt h H locs lsA hH hl hv2) (fun h => kf h H locs lsA hH hl hv2)
theorem J_if_gt (hx : Fx X cc nL own t mc ms) {x : Int32} {off : Int} (tgt : Nat) (hd : decode cc pc = .ok (.ifCond .gt off, 3)) (ht : (pc : Int) + off = (tgt : Int)) (kt : 0 < x → J X nL G sz k n tgt ls st) (kf : ¬ 0 < x → J X nL G sz k n (pc + 3) ls st) : J X nL G sz k n pc ls (.int x :: st) :=
  fun H locs lsA hH hl hv2 => lv_if_gt hx.1 hx.2.1 hd ht (fun h => kt h H locs lsA hH hl hv2) (fun h => kf h H locs lsA hH hl hv2)
theorem J_icmp_gt (hx : Fx X cc nL own t mc ms) {x y : Int32} {off : Int} (tgt : Nat) (hd : decode cc pc = .ok (.if_icmp .gt off, 3)) (ht : (pc : Int) + off = (tgt : Int)) (kt : y < x → J X nL G sz k n tgt ls st) (kf : ¬ y < x → J X nL G sz k n (pc + 3) ls st) : J X nL G sz k n pc ls (.int y :: .int x :: st) :=
  fun H locs lsA hH hl hv2 => lv_icmp_gt hx.1 hx.2.1 hd ht (fun h => kt h H locs lsA hH hl hv2) (fun h => kf h H locs lsA hH hl hv2)
theorem J_if_le (hx : Fx X cc nL own t mc ms) {x : Int32} {off : Int} (tgt : Nat) (hd : decode cc pc = .ok (.ifCond .le off, 3)) (ht : (pc : Int) + off = (tgt : Int)) (kt : x ≤ 0 → J X nL G sz k n tgt ls st) (kf : ¬ x ≤ 0 → J X nL G sz k n (pc + 3) ls st) : J X nL G sz k n pc ls (.int x :: st) :=
  fun H locs lsA hH hl hv2 => lv_if_le hx.1 hx.2.1 hd ht (fun h => kt h H locs lsA hH hl hv2) (fun h => kf h H locs lsA hH hl hv2)
theorem J_icmp_le (hx : Fx X cc nL own t mc ms) {x y : Int32} {off : Int} (tgt : Nat) (hd : decode cc pc = .ok (.if_icmp .le off, 3)) (ht : (pc : Int) + off = (tgt : Int)) (kt : x ≤ y → J X nL G sz k n tgt ls st) (kf : ¬ x ≤ y → J X nL G sz k n (pc + 3) ls st) : J X nL G sz k n pc ls (.int y :: .int x :: st) :=
  fun H locs lsA hH hl hv2 => lv_icmp_le hx.1 hx.2.1 hd ht (fun h => kt h H locs lsA hH hl hv2) (fun h => kf h H locs lsA hH hl hv2)
theorem J_swOut (hx : Fx X cc nL own t mc ms) {dflt lo hi : Int} {offs : Array Int} {len : Nat} {x : Int32} (tgt : Nat) (hd : decode cc pc = .ok (.tableswitch dflt lo hi offs, len)) (h : x.toInt < lo ∨ hi < x.toInt) (ht : (pc : Int) + dflt = (tgt : Int)) (kk : J X nL G sz k n tgt ls st) : J X nL G sz k n pc ls (.int x :: st) :=
  fun H locs lsA hH hl hv2 => lv_tableOut hx.1 hx.2.1 hd h ht (kk H locs lsA hH hl hv2)
theorem J_swIn (hx : Fx X cc nL own t mc ms) {dflt lo hi : Int} {offs : Array Int} {len : Nat} {x : Int32} {off : Int} (tgt : Nat) (hd : decode cc pc = .ok (.tableswitch dflt lo hi offs, len)) (h1 : ¬ x.toInt < lo) (h2 : ¬ hi < x.toInt) (ho : offs[(x.toInt - lo).toNat]? = some off) (ht : (pc : Int) + off = (tgt : Int)) (kk : J X nL G sz k n tgt ls st) : J X nL G sz k n pc ls (.int x :: st) :=
  fun H locs lsA hH hl hv2 => lv_tableIn hx.1 hx.2.1 hd h1 h2 ho ht (kk H locs lsA hH hl hv2)
-- ends
theorem J_iret (hx : Fx X cc nL own t mc ms) {Ψ : Option Value → Gf → Nat → Prop} (hr : Rt X (some .int) mc ms Ψ) {v : Int32} (hd : decode cc pc = .ok (.ireturn, 1)) (hk : k ≤ mc) (hn : n ≤ ms) (hq : Ψ (some (.int v)) G sz) : J X nL G sz k n pc ls [.int v] :=
  fun H locs lsA hH hl hv2 => W.widen hk hn (hr.2 _ _ _ (W.iret hx.1 hx.2.1 hr.1 (fun u hu _ => ⟨_, G, sz, rfl, hq, hu ▸ hH⟩) hl hd hx.2.2.2.2.2.2.2))
theorem J_zret (hx : Fx X cc nL own t mc ms) {Ψ : Option Value → Gf → Nat → Prop} (hr : Rt X (some .boolean) mc ms Ψ) {v : Int32} (hd : decode cc pc = .ok (.ireturn, 1)) (hv : narrow .boolean (.int v) = .int v) (hk : k ≤ mc) (hn : n ≤ ms) (hq : Ψ (some (.int v)) G sz) : J X nL G sz k n pc ls [.int v] :=
  fun H locs lsA hH hl hv2 => W.widen hk hn (hr.2 _ _ _ (W.zret hx.1 hx.2.1 hr.1 hv (fun u hu _ => ⟨_, G, sz, rfl, hq, hu ▸ hH⟩) hl hd hx.2.2.2.2.2.2.2))
theorem J_vret (hx : Fx X cc nL own t mc ms) {Ψ : Option Value → Gf → Nat → Prop} (hr : Rt X none mc ms Ψ) (hd : decode cc pc = .ok (.return_, 1)) (hk : k ≤ mc) (hn : n ≤ ms) (hq : Ψ none G sz) : J X nL G sz k n pc ls [] :=
  fun H locs lsA hH hl hv2 => W.widen hk hn (hr.2 _ _ _ (W.vret hx.1 hx.2.1 hr.1 (fun u hu _ => ⟨_, G, sz, rfl, hq, hu ▸ hH⟩) hl hd hx.2.2.2.2.2.2.2))
end JR
/-- the locals at a method's entry -/
def initO : List Value → Nat → List (Option Value)
  | [], nL => List.replicate nL none
  | v :: vs, nL => if v.category = 2 then some v :: none :: initO vs (nL - 2) else some v :: initO vs (nL - 1)
theorem initO_get : ∀ (vs : List Value) (nL i b : Nat) (v : Value), (initO vs nL)[i]? = some (some v) → (b + i, v) ∈ lv_args b vs
  | [], nL, i, b, v, h => by
    simp only [initO] at h
    rw [List.getElem?_replicate] at h
    split at h <;> cases h
  | w :: vs, nL, i, b, v, h => by
    simp only [initO] at h
    simp only [lv_args]
    split at h
    next hc =>
      rw [if_pos hc]
      match i, h with
      | 0, h => cases h; exact List.mem_cons_self
      | 1, h => cases h
      | i + 2, h =>
        have := initO_get vs (nL - 2) i (b + 2) v h
        rw [show b + (i + 2) = b + 2 + i by omega]
        exact List.mem_cons_of_mem _ this
    next hc =>
      rw [if_neg hc]
      match i, h with
      | 0, h => cases h; exact List.mem_cons_self
      | i + 1, h =>
        have := initO_get vs (nL - 1) i (b + 1) v h
        rw [show b + (i + 1) = b + 1 + i by omega]
        exact List.mem_cons_of_mem _ this
theorem wy_WT {y : MethodName} {cc : ByteArray} {nL : Nat} {ret : Option FieldType} {args : Array Value} {s : State} (h : ∀ w ∈ wy y cc nL ret, w.before args s = true) : ∀ w ∈ WT, w.before args s = true := fun w hw => h w (List.mem_cons_of_mem _ hw)
/-- A CONTRACT OUT OF THE BODY'S WALK -/
theorem Ct.of {l : Launch} {Γ : Gl} {y : MethodName} {cc : ByteArray} {nL : Nat} {ret : Option FieldType} {t : Nat} {av : List Value} {G : Gf} {sz : Nat} {Ψ : Option Value → Gf → Nat → Prop} {mc ms : Nat} (hy : plainName y.cls = true) (hlen : (lg_sl av).length ≤ nL)
    (body : ∀ X : Cx, Fx X cc nL y.cls t mc ms → Rt X ret mc ms Ψ → xl X = l → xΓ X = Γ → (xM X).name = y.name → J X nL G sz 0 0 0 (initO av nL) []) : Ct l Γ y cc nL ret t av G sz Ψ mc ms := by
  refine Met.ofW (cc := cc) (maxL := nL) (ret := ret) hy rfl ?_
  intro p e s m args below meth c s₁ B hml hv
  obtain ⟨rfl, hK, hH⟩ := hv
  have hts := atoms_spec (ws := wy y cc nL ret) B.pre
  have hown : s.vm.findClass y.cls = some m.cls := findClass_of_methodNamed B.named
  have hin : meth.name = y.name := (name_of_methodNamed B.named B.method).1
  have hl := lv_entry av (n := nL) hlen
  have key := body (p, l, e, rmL t mc ms, s, m, av.toArray, below, meth, c, MQ below (QcO Γ Ψ) av.toArray s mc ms (aA Γ), Γ) ⟨B.exec, B.bytes, hml, hown, wy_WT hts, hK, rfl, B.notSynchronized⟩ ⟨B.returns, fun H locs g h => h⟩ rfl rfl hin s.heap [] _ hH (fun q hq => nomatch hq) ⟨hl.1, hl.2.1, fun i v h => hl.2.2 (i, v) (by have := initO_get av nL i 0 v h; rwa [Nat.zero_add] at this)⟩
  rw [lg_entry_eq]
  exact key
end
section
/-! THE LOGIC, heap and calls -/
def ClOk (ci : Nat) (C : String) (T : u_T) (N : Nat) (ty : Nat → FieldType) : Prop := vwCl[ci]? = some (C, T, N) ∧ (∀ w ∈ u_ws C T N, w ∈ WT) ∧ (∀ k, k < N → parseFieldDescriptor (T k).2.2.1 = some (ty k)) ∧ ∀ a, a < N → ∀ b, b < N → a ≠ b → (T a).2.1 ≠ (T b).2.1
theorem va_P1 {D : va_G} {cl : List vw_C} {a : Nat} {e : va_E} {H : Heap} (h : va_at D cl (a, e) H) : va_P D cl [(a, e)] H := fun k q hk => by
  match k, hk with
  | 0, hk => cases hk; exact h
  | k + 1, hk => simp at hk
theorem Rp.lt {Γ : Gl} {G : Gf} {H : Heap} (h : Rp Γ G H) {a : Nat} {e : va_E} (he : G a = some e) : a < H.size := va_at.lt (h a e he).1
theorem Hp.put {Γ : Gl} {G : Gf} {sz : Nat} {H H1 : Heap} (h : Hp Γ G sz H) {a : Nat} {e0 e : va_E} (hG : G a = some e0) (he : va_at Γ.1 vwCl (a, e) H1) (z : H1.size = H.size) (oq : ∀ q : Nat, q ≠ a → H1[q]? = H[q]?) : Hp Γ (updG G a e) sz H1 := by
  obtain ⟨h1, h2, h3, h4⟩ := h
  have ha := (h4 a e0 hG).2
  refine ⟨z.trans h1, by rw [z]; exact h2, fun q hq => ?_, fun b e' hb => ?_⟩
  · rw [oq q (fun e => by subst e; exact absurd hq (Nat.not_lt.mpr ha))]
    exact h3 q hq
  · by_cases hba : b = a
    · subst hba
      rw [updG_self] at hb
      cases hb
      exact ⟨he, ha⟩
    · rw [updG_ne hba] at hb
      exact ⟨(h4 b e' hb).1.kept (oq b hba), (h4 b e' hb).2⟩
theorem Hp.push {Γ : Gl} {G : Gf} {sz : Nat} {H H1 : Heap} (h : Hp Γ G sz H) {e : va_E} (he : va_at Γ.1 vwCl (sz, e) H1) (z : H1.size = sz + 1) (oq : ∀ q : Nat, q < sz → H1[q]? = H[q]?) : Hp Γ (updG G sz e) (sz + 1) H1 := by
  obtain ⟨h1, h2, h3, h4⟩ := h
  subst h1
  refine ⟨z, by omega, fun q hq => (oq q (Nat.lt_of_lt_of_le hq h2)).trans (h3 q hq), fun b e' hb => ?_⟩
  by_cases hba : b = H.size
  · subst hba
    rw [updG_self] at hb
    cases hb
    exact ⟨he, h2⟩
  · rw [updG_ne hba] at hb
    have hlt := h4.lt hb
    exact ⟨(h4 b e' hb).1.kept (oq b hlt), (h4 b e' hb).2⟩
theorem Hp.fresh {Γ : Gl} {G : Gf} {sz : Nat} {H : Heap} (h : Hp Γ G sz H) {a : Nat} (ha : sz ≤ a) : G a = none := by
  cases hg : G a with
  | none => rfl
  | some e =>
    have := h.2.2.2.lt hg
    have := h.1
    omega
section JH
variable {X : Cx} {cc : ByteArray} {nL : Nat} {own : String} {t mc ms : Nat} {G : Gf} {sz k n pc : Nat} {ls : List (Option Value)} {st : List Value}
theorem J_get (hx : Fx X cc nL own t mc ms) {ci : Nat} {C : String} {T : u_T} {N : Nat} {ty : Nat → FieldType} (hC : ClOk ci C T N ty) (kf : Nat) (hk : kf < N) {idx : Nat} (hl : Cond.fieldLink own idx (T kf).1 (T kf).2.1 (T kf).2.2.1 ∈ WT) {a : Nat} {fs : List Value} (hG : G a = some (.inr (ci, fs))) {v : Value} (hv : fs[kf]? = some v) (hd : decode cc pc = .ok (.getfield idx, 3)) (kk : J X nL G sz k n (pc + 3) ls (v :: st)) : J X nL G sz k n pc ls (.ref a :: st) :=
  fun H locs lsA hH hlc hv2 => va_get hx.1 hx.2.1 (ws := [(a, .inr (ci, fs))]) hx.2.2.2.2.1 hC.2.1 hx.2.2.2.1 hx.2.2.2.2.2.1.1 (va_P1 (hH.2.2.2 a _ hG).1) 0 rfl hC.1 kf hk (hx.2.2.2.2.1 _ hl) (fun _ h => h) hv hd (kk H locs lsA hH hlc hv2)
theorem locs_put {Γ : Gl} {locs : List Loc} {a i : Nat} (hl : ∀ q ∈ locs, aA Γ q.base) (ha : aA Γ a) : ∀ q ∈ locs ++ [(⟨a, i⟩ : Loc)], aA Γ q.base := fun q hq => by
  rcases List.mem_append.mp hq with h | h
  · exact hl q h
  · rw [List.mem_singleton.mp h]; exact ha
theorem J_put (hx : Fx X cc nL own t mc ms) {ci : Nat} {C : String} {T : u_T} {N : Nat} {ty : Nat → FieldType} (hC : ClOk ci C T N ty) (kf : Nat) (hk : kf < N) {idx : Nat} (hl : Cond.fieldLink own idx (T kf).1 (T kf).2.1 (T kf).2.2.1 ∈ WT) (hfin : (T kf).2.2.2 = false) {a : Nat} {fs : List Value} (hG : G a = some (.inr (ci, fs))) (hlen : kf < fs.length) {v : Value} (hn : narrow (ty kf) v = v) (hfit : fits (ty kf) v = true) (hd : decode cc pc = .ok (.putfield idx, 3)) (kk : J X nL (updG G a (.inr (ci, fs.set kf v))) sz k n (pc + 3) ls st) : J X nL G sz k n pc ls (v :: .ref a :: st) := fun H locs lsA hH hlc hv2 => by
  have hts := hx.2.2.2.2.1
  have hK := hx.2.2.2.2.2.1.1
  have hap := va_apart (own := own) hts hC.2.1 ty hC.2.2.1 hC.2.2.2 hK hC.1
  obtain ⟨hat, hAa⟩ := hH.2.2.2 a _ hG
  obtain ⟨r, h1, cell, q1, q2, q3, q4⟩ := id hat
  have hr : r = (C, T, N) := Option.some.inj (h1.symm.trans hC.1)
  subst hr
  obtain ⟨hS, hfc, kC, hkC, hkind⟩ := hK.1 ci _ hC.1
  obtain ⟨cf, kf2, fi, f, hi, hsl⟩ := hS kf hk
  have hlay := hts _ (hC.2.1 _ (u_in_lay hk))
  unfold u_lay at hlay
  rw [if_neg (by rw [hfin]; decide)] at hlay
  have hst := (u_facts hfc hkC (u_lays hts hC.2.1 hk) hi).1
  have h6 := u_store hfc hkC hkind hlay hi (hC.2.2.1 kf hk) hn hfit
  refine W.putK hx.1 hx.2.1 (f := f) ⟨hx.2.2.2.1, hts _ hl, ⟨_, _, _, hi⟩, hst⟩ (by rw [q2]; exact h6) q1 q3 (by rw [hsl]; exact k2_hasslot (q4 kf hk)) rfl rfl hd fun H' e1 e2 e3 => ?_
  rw [hsl] at e1 ⊢
  exact kk H' _ lsA (hH.put hG ⟨_, hC.1, t_OB.to (V := updV (vp_V fs) kf v) ⟨_, e1, q2, q3, t_set q4 hap hk v⟩ (fun j _ => vp_updV_set hlen v j)⟩ e2 e3) (locs_put hlc hAa) hv2
theorem J_putF (hx : Fx X cc nL own t mc ms) {ci : Nat} {C : String} {T : u_T} {N : Nat} {ty : Nat → FieldType} (hC : ClOk ci C T N ty) (hin2 : (xM X).name = "<init>") (kf : Nat) (hk : kf < N) {idx : Nat} (hl : Cond.fieldLink own idx (T kf).1 (T kf).2.1 (T kf).2.2.1 ∈ WT) (hfin : (T kf).2.2.2 = true) (hdecl : (T kf).1 = own) {a : Nat} {fs : List Value} (hG : G a = some (.inr (ci, fs))) (hlen : kf < fs.length) {v : Value} (hn : narrow (ty kf) v = v) (hfit : fits (ty kf) v = true) (hd : decode cc pc = .ok (.putfield idx, 3)) (kk : J X nL (updG G a (.inr (ci, fs.set kf v))) sz k n (pc + 3) ls st) : J X nL G sz k n pc ls (v :: .ref a :: st) := fun H locs lsA hH hlc hv2 => by
  have hts := hx.2.2.2.2.1
  have hK := hx.2.2.2.2.2.1.1
  have hown := hx.2.2.2.1
  have hap := va_apart (own := own) hts hC.2.1 ty hC.2.2.1 hC.2.2.2 hK hC.1
  obtain ⟨hat, hAa⟩ := hH.2.2.2 a _ hG
  obtain ⟨r, h1, cell, q1, q2, q3, q4⟩ := id hat
  have hr : r = (C, T, N) := Option.some.inj (h1.symm.trans hC.1)
  subst hr
  obtain ⟨hS, hfc, kC, hkC, hkind⟩ := hK.1 ci _ hC.1
  obtain ⟨cf, kf2, fi, f, hi, hsl⟩ := hS kf hk
  have hlay := hts _ (hC.2.1 _ (u_in_lay hk))
  unfold u_lay at hlay
  rw [if_pos hfin] at hlay
  have hst := (u_facts hfc hkC (u_lays hts hC.2.1 hk) hi).1
  have hcf : (xm X).cls = cf := by
    obtain ⟨_, _, c', _, _, _, -, -, hf', -, -, -, hown2, -⟩ := Cond.laysFinal_spec hlay
    have e1 : c' = cf := by have := hi.symm.trans hf'; simp at this; exact this.1.symm
    rw [hdecl] at hown2
    rw [← e1]; exact Option.some.inj (hown.symm.trans hown2)
  have h6 := u_fits hfc hkC hkind (Or.inr hlay) hi (hC.2.2.1 kf hk) hn hfit
  refine W.putFinK hx.1 hx.2.1 hown (hts _ hl) hi hst hcf hin2 (by rw [q2]; exact h6) q1 q3 (by rw [hsl]; exact k2_hasslot (q4 kf hk)) rfl rfl hd fun H' e1 e2 e3 => ?_
  rw [hsl] at e1 ⊢
  exact kk H' _ lsA (hH.put hG ⟨_, hC.1, t_OB.to (V := updV (vp_V fs) kf v) ⟨_, e1, q2, q3, t_set q4 hap hk v⟩ (fun j _ => vp_updV_set hlen v j)⟩ e2 e3) (locs_put hlc hAa) hv2
-- arrays
theorem J_iald (hx : Fx X cc nL own t mc ms) {a N : Nat} {f : Nat → Int32} {i : Int32} (hG : G a = some (.inl ((xΓ X).2.1 1, N, .inl f))) (hin : vp_in i N) (hd : decode cc pc = .ok (.iaload, 1)) (kk : J X nL G sz k n (pc + 1) ls (.int (f i.toNatClampNeg) :: st)) : J X nL G sz k n pc ls (.int i :: .ref a :: st) :=
  fun H locs lsA hH hlc hv2 => va_iald hx.1 hx.2.1 hx.2.2.2.2.2.1.1 (va_P1 (hH.2.2.2 a _ hG).1) 0 1 rfl rfl hin hd (kk H locs lsA hH hlc hv2)
theorem J_bald (hx : Fx X cc nL own t mc ms) {a N : Nat} {f : Nat → Int32} {i : Int32} (hG : G a = some (.inl ((xΓ X).2.1 0, N, .inl f))) (hin : vp_in i N) (hd : decode cc pc = .ok (.baload, 1)) (kk : J X nL G sz k n (pc + 1) ls (.int (f i.toNatClampNeg) :: st)) : J X nL G sz k n pc ls (.int i :: .ref a :: st) :=
  fun H locs lsA hH hlc hv2 => va_bald hx.1 hx.2.1 hx.2.2.2.2.2.1.1 (va_P1 (hH.2.2.2 a _ hG).1) 0 0 rfl rfl hin hd (kk H locs lsA hH hlc hv2)
theorem J_lald (hx : Fx X cc nL own t mc ms) {a N : Nat} {f : Nat → Int64} {i : Int32} (hG : G a = some (.inl ((xΓ X).2.1 2, N, .inr (.inl f)))) (hin : vp_in i N) (hd : decode cc pc = .ok (.laload, 1)) (kk : J X nL G sz k n (pc + 1) ls (.long (f i.toNatClampNeg) :: st)) : J X nL G sz k n pc ls (.int i :: .ref a :: st) :=
  fun H locs lsA hH hlc hv2 => va_lald hx.1 hx.2.1 hx.2.2.2.2.2.1.1 (va_P1 (hH.2.2.2 a _ hG).1) 0 2 rfl rfl hin hd (kk H locs lsA hH hlc hv2)
theorem J_aald (hx : Fx X cc nL own t mc ms) (ti : Nat) {ty : FieldType} (ht : (gTys (xΓ X).2.1)[ti]? = some ((xΓ X).2.1 ti, ty)) (href : ty.isReference = true) {a N b : Nat} {f : Nat → Option Nat} {i : Int32} (hG : G a = some (.inl ((xΓ X).2.1 ti, N, .inr (.inr (.inr (.inr f)))))) (hin : vp_in i N) (hb : f i.toNatClampNeg = some b) (hd : decode cc pc = .ok (.aaload, 1)) (kk : J X nL G sz k n (pc + 1) ls (.ref b :: st)) : J X nL G sz k n pc ls (.int i :: .ref a :: st) := fun H locs lsA hH hlc hv2 => by
  have hlt : i.toNatClampNeg < N := Nat.not_le.mp fun q => hin (Or.inr q)
  exact W.aald (v := .ref b) (ty := ty) hx.1 hx.2.1 (hH.2.2.2 a _ hG).1 ((hx.2.2.2.2.2.1.1.2 ti _ ht).1 N (fun j => va_rf (f j))) href (fun q => by cases q) (by show ¬ (i < 0 ∨ (arrV _ _ _).slots.size ≤ _); rw [arrV_size]; exact hin) (by show (arrV _ _ _).slots[_]? = _; rw [arrV_read _ _ hlt, hb]; rfl) rfl rfl hd (kk H locs lsA hH hlc hv2)
theorem J_alen (hx : Fx X cc nL own t mc ms) (ti : Nat) {ty : FieldType} (ht : (gTys (xΓ X).2.1)[ti]? = some ((xΓ X).2.1 ti, ty)) {a : Nat} {x : vp_A} (hG : G a = some (.inl ((xΓ X).2.1 ti, x))) {v : Int32} (hv : Int32.ofNat x.1 = v) (hd : decode cc pc = .ok (.arraylength, 1)) (kk : J X nL G sz k n (pc + 1) ls (.int v :: st)) : J X nL G sz k n pc ls (.ref a :: st) :=
  fun H locs lsA hH hlc hv2 => va_alen hx.1 hx.2.1 hx.2.2.2.2.2.1.1 (va_P1 (hH.2.2.2 a _ hG).1) 0 ti rfl ht hv hd (kk H locs lsA hH hlc hv2)
theorem J_iast (hx : Fx X cc nL own t mc ms) {a N : Nat} {f : Nat → Int32} {i x : Int32} (hG : G a = some (.inl ((xΓ X).2.1 1, N, .inl f))) (hin : vp_in i N) (hd : decode cc pc = .ok (.iastore, 1)) (kk : J X nL (updG G a (.inl ((xΓ X).2.1 1, N, .inl (upd f i.toNatClampNeg x)))) sz k n (pc + 1) ls st) : J X nL G sz k n pc ls (.int x :: .int i :: .ref a :: st) := fun H locs lsA hH hlc hv2 => by
  obtain ⟨hat, hAa⟩ := hH.2.2.2 a _ hG
  refine W.iast hx.1 hx.2.1 hat ((hx.2.2.2.2.2.1.1.2 1 _ rfl).1 N (fun j => .int (f j))) (fun q => by cases q) (by show ¬ (i < 0 ∨ (arrV _ _ _).slots.size ≤ _); rw [arrV_size]; exact hin) rfl rfl hd fun H1 e z oq => ?_
  refine kk H1 _ lsA (hH.put hG ?_ z oq) (locs_put hlc hAa) hv2
  show H1[a]? = some (vp_cell _ _)
  rw [e]
  show some ((vp_cell _ _).setSlot _ _) = _
  rw [vp_cell_i, vp_cell_i, arrV_store]
  congr 2
  funext q
  by_cases hq : q = i.toNatClampNeg
  · subst hq
    simp [updV, upd]
  · simp [updV, upd, hq]
theorem J_bast (hx : Fx X cc nL own t mc ms) {a N : Nat} {f : Nat → Int32} {i x : Int32} (hG : G a = some (.inl ((xΓ X).2.1 0, N, .inl f))) (hin : vp_in i N) (hd : decode cc pc = .ok (.bastore, 1)) (kk : J X nL (updG G a (.inl ((xΓ X).2.1 0, N, .inl (upd f i.toNatClampNeg (vp_nar .byte x))))) sz k n (pc + 1) ls st) : J X nL G sz k n pc ls (.int x :: .int i :: .ref a :: st) := fun H locs lsA hH hlc hv2 => by
  obtain ⟨hat, hAa⟩ := hH.2.2.2 a _ hG
  refine W.bast hx.1 hx.2.1 hat ((hx.2.2.2.2.2.1.1.2 0 _ rfl).1 N (fun j => .int (f j))) (fun q => by cases q) (by show ¬ (i < 0 ∨ (arrV _ _ _).slots.size ≤ _); rw [arrV_size]; exact hin) rfl rfl hd fun H1 e z oq => ?_
  refine kk H1 _ lsA (hH.put hG ?_ z oq) (locs_put hlc hAa) hv2
  show H1[a]? = some (vp_cell _ _)
  rw [e]
  show some ((vp_cell _ _).setSlot _ _) = _
  rw [vp_cell_i, vp_cell_i, arrV_store]
  congr 2
  funext q
  by_cases hq : q = i.toNatClampNeg
  · subst hq
    simp [updV, upd, vp_nar]
    try rfl
  · simp [updV, upd, hq]
theorem J_last (hx : Fx X cc nL own t mc ms) {a N : Nat} {f : Nat → Int64} {i : Int32} {x : Int64} (hG : G a = some (.inl ((xΓ X).2.1 2, N, .inr (.inl f)))) (hin : vp_in i N) (hd : decode cc pc = .ok (.lastore, 1)) (kk : J X nL (updG G a (.inl ((xΓ X).2.1 2, N, .inr (.inl (vp_updL f i.toNatClampNeg x))))) sz k n (pc + 1) ls st) : J X nL G sz k n pc ls (.long x :: .int i :: .ref a :: st) := fun H locs lsA hH hlc hv2 => by
  obtain ⟨hat, hAa⟩ := hH.2.2.2 a _ hG
  refine W.last hx.1 hx.2.1 hat ((hx.2.2.2.2.2.1.1.2 2 _ rfl).1 N (fun j => .long (f j))) (fun q => by cases q) (by show ¬ (i < 0 ∨ (arrV _ _ _).slots.size ≤ _); rw [arrV_size]; exact hin) rfl rfl hd fun H1 e z oq => ?_
  refine kk H1 _ lsA (hH.put hG ?_ z oq) (locs_put hlc hAa) hv2
  show H1[a]? = some (vp_cell _ _)
  rw [e]
  show some ((vp_cell _ _).setSlot _ _) = _
  rw [vp_cell_l, vp_cell_l, arrV_store]
  congr 2
  funext q
  by_cases hq : q = i.toNatClampNeg
  · subst hq
    simp [updV, vp_updL]
  · simp [updV, vp_updL, hq]
theorem J_aast (hx : Fx X cc nL own t mc ms) (ti ci : Nat) {r : vw_C} (ht : (gTys (xΓ X).2.1)[ti]? = some ((xΓ X).2.1 ti, .object r.1)) (hc : vwCl[ci]? = some r) {a N v : Nat} {vs : List Value} {f : Nat → Option Nat} {i : Int32} (hG : G a = some (.inl ((xΓ X).2.1 ti, N, .inr (.inr (.inr (.inr f)))))) (hGv : G v = some (.inr (ci, vs))) (hin : vp_in i N) (hd : decode cc pc = .ok (.aastore, 1)) (kk : J X nL (updG G a (.inl ((xΓ X).2.1 ti, N, .inr (.inr (.inr (.inr (va_up f i.toNatClampNeg (some v)))))))) sz k n (pc + 1) ls st) : J X nL G sz k n pc ls (.ref v :: .int i :: .ref a :: st) := fun H locs lsA hH hlc hv2 => by
  have hlt : i.toNatClampNeg < N := Nat.not_le.mp fun q => hin (Or.inr q)
  have h0 : ¬ i < 0 := fun q => hin (Or.inl q)
  have hK := hx.2.2.2.2.2.1.1
  obtain ⟨hat, hAa⟩ := hH.2.2.2 a _ hG
  obtain ⟨r', hr', cellV, g1, g2, g3, -⟩ := (hH.2.2.2 v _ hGv).1
  have hcls := (hK.1 ci r hc).2
  obtain ⟨kA, comp, k1, k2, k3, -⟩ := (hK.2 ti _ ht).2
  have hcomp : comp = (xΓ X).1.1 ci := Option.some.inj (k3.symm.trans hcls.1)
  subst hcomp
  obtain ⟨kC, hkC, -⟩ := hcls.2
  refine W.aast hx.1 hx.2.1 hat (fun q h => by cases h) (fun h => by cases h) k1 k2 rfl hkC ⟨h0, by show _ < (arrV _ _ _).slots.size; rw [arrV_size]; exact hlt⟩ g1 (fun q h => by rw [g3] at h; cases h) (by rw [g2]; exact hkC) (by rw [g2]; exact va_assign hcls) rfl rfl hd fun H1 e z oq => ?_
  refine kk H1 _ lsA (hH.put hG ?_ z oq) (locs_put hlc hAa) hv2
  show H1[a]? = some (vp_cell _ _)
  rw [e]
  show some ((vp_cell _ _).setSlot _ _) = _
  rw [vp_cell_q, vp_cell_q, arrV_store]
  congr 2
  funext q
  by_cases hq : q = i.toNatClampNeg
  · subst hq
    simp [updV, va_up, va_rf]
  · simp [updV, va_up, hq]
-- makings
theorem J_new (hx : Fx X cc nL own t mc ms) {ci : Nat} {C : String} {T : u_T} {N : Nat} {ty : Nat → FieldType} (hC : ClOk ci C T N ty) {idx : Nat} (hcl : Cond.classLink own idx C ∈ WT) (hins : Cond.instantiable C N ∈ WT) (hini : Cond.initialized C ∈ WT) (fs : List Value) (hfs : ∀ j, j < N → defaultValue (ty j) = vp_V fs j) (hk : k + 1 ≤ mc) (hn : n + N ≤ ms) (hd : decode cc pc = .ok (.new idx, 3)) (kk : G sz = none → J X nL (updG G sz (.inr (ci, fs))) (sz + 1) (k + 1) (n + N) (pc + 3) ls (.ref sz :: st)) : J X nL G sz k n pc ls st := fun H locs lsA hH hlc hv2 => by
  have hts := hx.2.2.2.2.1
  have hKn := hx.2.2.2.2.2.1.1.1 ci _ hC.1
  have hR := hx.2.2.2.2.2.2.1
  refine W.newcK hx.1 hx.2.1 hx.2.2.2.1 (hts _ hcl) (hts _ hins) (hts _ hini) rfl hd (by rw [hR]; exact hk) (by rw [hR]; exact hn) hKn.2.1 hH.1 fun H1 kC hkC e1 z1 o1 => ?_
  exact kk (hH.fresh (Nat.le_refl _)) H1 locs lsA (hH.push ⟨_, hC.1, (u_born ty hts hC.2.1 hKn hkC e1 hC.2.2.1).to hfs⟩ z1 o1) hlc hv2
theorem J_newa (hx : Fx X cc nL own t mc ms) (ti : Nat) {at' : ArrayType} {ty : FieldType} (hty : newarray.typeOf at' = ty) (hpr : ∀ (s : State) (c : ClassId), va_RA s c ty → s.vm.findClass ("[" ++ ty.toString) = some c) (ht : (gTys (xΓ X).2.1)[ti]? = some ((xΓ X).2.1 ti, ty)) (harr : Cond.arrayClass ty ∈ WT) {c : Int32} (N : Nat) (a0 : (Nat → Int32) ⊕ (Nat → Int64) ⊕ (Nat → UInt32) ⊕ (Nat → UInt64) ⊕ (Nat → Option Nat)) (ha : ∀ cA : ClassId, vp_cell cA (N, a0) = arrV cA N (fun _ => defaultValue ty)) (h0 : ¬ c < 0) (hN : c.toNatClampNeg = N) (hby : N * componentBytes ty ≤ 536870912) (hk : k + 1 ≤ mc) (hn : n + N ≤ ms) (hd : decode cc pc = .ok (.newarray at', 2)) (kk : G sz = none → J X nL (updG G sz (.inl ((xΓ X).2.1 ti, N, a0))) (sz + 1) (k + 1) (n + N) (pc + 2) ls (.ref sz :: st)) : J X nL G sz k n pc ls (.int c :: st) := fun H locs lsA hH hlc hv2 => by
  subst hty
  have hR := hx.2.2.2.2.2.2.1
  refine va_newaK hx.1 hx.2.1 (hx.2.2.2.2.1 _ harr) rfl hd rfl h0 hN hby (by rw [hR]; exact hk) (by rw [hR]; exact hn) hH.1 fun H1 cA e1 z1 o1 hAr hNm => ?_
  have hc : cA = (xΓ X).2.1 ti := Option.some.inj (hNm.symm.trans (hpr _ _ (hx.2.2.2.2.2.1.1.2 ti _ ht).2))
  subst hc
  refine kk (hH.fresh (Nat.le_refl _)) H1 locs lsA (hH.push ?_ z1 o1) hlc hv2
  show H1[sz]? = some (vp_cell _ _)
  rw [ha]
  exact e1
theorem J_anew (hx : Fx X cc nL own t mc ms) (ti : Nat) {C : String} (ht : (gTys (xΓ X).2.1)[ti]? = some ((xΓ X).2.1 ti, .object C)) {idx : Nat} (hcl : Cond.classLink own idx C ∈ WT) (hover : va_AO C (xs X)) {c : Int32} (N : Nat) (h0 : ¬ c < 0) (hN : c.toNatClampNeg = N) (hby : N * 4 ≤ 536870912) (hk : k + 1 ≤ mc) (hn : n + N ≤ ms) (hd : decode cc pc = .ok (.anewarray idx, 3)) (kk : G sz = none → J X nL (updG G sz (.inl ((xΓ X).2.1 ti, N, .inr (.inr (.inr (.inr (fun _ => none))))))) (sz + 1) (k + 1) (n + N) (pc + 3) ls (.ref sz :: st)) : J X nL G sz k n pc ls (.int c :: st) := fun H locs lsA hH hlc hv2 => by
  subst hN
  have hR := hx.2.2.2.2.2.2.1
  have hsz := hH.1
  refine W.anew hx.1 hx.2.1 hx.2.2.2.1 (hx.2.2.2.2.1 _ hcl) (va_AO.use hover) rfl hd rfl h0 hby (by rw [hR]; exact hk) (by rw [hR]; exact hn) fun cA kA comp f1 f2 f3 f4 => ?_
  obtain ⟨kA', comp', -, -, -, hNm⟩ := (hx.2.2.2.2.2.1.1.2 ti _ ht).2
  have hc : cA = (xΓ X).2.1 ti := Option.some.inj (f1.symm.trans hNm)
  subst hc
  generalize hH1 : H.push ({ cls := (xΓ X).2.1 ti, slots := Array.replicate c.toNatClampNeg .null, vm := .none } : Cell) = H1
  have z1 : H1.size = sz + 1 := by rw [← hH1, Array.size_push, hsz]
  have e1 : H1[sz]? = some (arrV ((xΓ X).2.1 ti) c.toNatClampNeg (fun _ => .null)) := by rw [← hH1, ← hsz, Array.getElem?_push_size, ← arrV_new]
  have o1 : ∀ q : Nat, q < sz → H1[q]? = H[q]? := fun q hq => by rw [← hH1, Array.getElem?_push, if_neg (Nat.ne_of_lt (by omega))]
  rw [hsz]
  refine kk (hH.fresh (Nat.le_refl _)) H1 locs lsA (hH.push ?_ z1 o1) hlc hv2
  show H1[sz]? = some (vp_cell _ _)
  rw [vp_cell_q]
  exact e1
/-- what lies at an address, told otherwise -/
theorem J_conv {a : Nat} {e e' : va_E} (hG : G a = some e) (he : ∀ H : Heap, va_at (xΓ X).1 vwCl (a, e) H → va_at (xΓ X).1 vwCl (a, e') H) (kk : J X nL (updG G a e') sz k n pc ls st) : J X nL G sz k n pc ls st := fun H locs lsA hH hlc hv2 =>
  kk H locs lsA (hH.put hG (he H (hH.2.2.2 a _ hG).1) rfl (fun _ _ => rfl)) hlc hv2
-- a member of java.lang.Math, Object's constructor, arraycopy
theorem J_objInit (hx : Fx X cc nL own t mc ms) {idx : Nat} (hl : Cond.methodLink own idx objectInit ∈ WT) (hi : Cond.instanceMethod objectInit ∈ WT) (hc : Cond.code objectInit ⟨#[0xb1]⟩ 1 none ∈ WT) {a : Nat} (ht : 1 ≤ t) (hw : (st.map fun v => v.category).sum + 12 ≤ 30 * t) (hd : decode cc pc = .ok (.invokespecial idx, 3)) (kk : J X nL G sz k n (pc + 3) ls st) : J X nL G sz k n pc ls (.ref a :: st) := fun H locs lsA hH hlc hv2 => by
  have hts := hx.2.2.2.2.1
  have hR := hx.2.2.2.2.2.2.1
  exact W.objInit hx.1 hx.2.1 hx.2.2.2.1 (hts _ hl) (hts _ hi) (hts _ hc) rfl (hv2.1.trans hx.2.2.1.symm) rfl hd (by rw [hR]; exact ht) (by rw [hR]; show 2 * 0 + _ + 12 ≤ 30 * t; omega) (kk H locs lsA hH hlc hv2)
theorem J_max (hx : Fx X cc nL own t mc ms) {idx : Nat} (hl : Cond.methodLink own idx Lib.Math.max.name ∈ WT) (hw4 : Cond.static Lib.Math.max.name ∈ WT ∧ Cond.initialized "java/lang/Math" ∈ WT ∧ Cond.code Lib.Math.max.name Lib.Math.max.code 2 (some .int) ∈ WT) {x y : Int32} (ht : 1 ≤ t) (hw : (st.map fun v => v.category).sum + 13 ≤ 30 * t) (hk : k ≤ mc) (hn : n ≤ ms) (hd : decode cc pc = .ok (.invokestatic idx, 3)) (kk : J X nL G sz k n (pc + 3) ls (.int (if x < y then y else x) :: st)) : J X nL G sz k n pc ls (.int y :: .int x :: st) := fun H locs lsA hH hlc hv2 => by
  have hts := hx.2.2.2.2.1
  have hR := hx.2.2.2.2.2.2.1
  exact va_mmax hx.1 hx.2.1 (hx.2.2.1.trans hv2.1.symm) hx.2.2.2.1 (hts _ hl) (hts _ hw4.1) (hts _ hw4.2.1) (hts _ hw4.2.2) (by rw [hR]; exact ht) (by rw [hR]; exact hw) (by rw [hR]; exact hk) (by rw [hR]; exact hn) hd (kk H locs lsA hH hlc hv2)
theorem J_min (hx : Fx X cc nL own t mc ms) {idx : Nat} (hl : Cond.methodLink own idx Lib.Math.min.name ∈ WT) (hw4 : Cond.static Lib.Math.min.name ∈ WT ∧ Cond.initialized "java/lang/Math" ∈ WT ∧ Cond.code Lib.Math.min.name Lib.Math.min.code 2 (some .int) ∈ WT) {x y : Int32} (ht : 1 ≤ t) (hw : (st.map fun v => v.category).sum + 13 ≤ 30 * t) (hk : k ≤ mc) (hn : n ≤ ms) (hd : decode cc pc = .ok (.invokestatic idx, 3)) (kk : J X nL G sz k n (pc + 3) ls (.int (if y < x then y else x) :: st)) : J X nL G sz k n pc ls (.int y :: .int x :: st) := fun H locs lsA hH hlc hv2 => by
  have hts := hx.2.2.2.2.1
  have hR := hx.2.2.2.2.2.2.1
  exact va_mmin hx.1 hx.2.1 (hx.2.2.1.trans hv2.1.symm) hx.2.2.2.1 (hts _ hl) (hts _ hw4.1) (hts _ hw4.2.1) (hts _ hw4.2.2) (by rw [hR]; exact ht) (by rw [hR]; exact hw) (by rw [hR]; exact hk) (by rw [hR]; exact hn) hd (kk H locs lsA hH hlc hv2)
theorem J_abs (hx : Fx X cc nL own t mc ms) {idx : Nat} (hl : Cond.methodLink own idx Lib.Math.abs.name ∈ WT) (hw4 : Cond.static Lib.Math.abs.name ∈ WT ∧ Cond.initialized "java/lang/Math" ∈ WT ∧ Cond.code Lib.Math.abs.name Lib.Math.abs.code 1 (some .int) ∈ WT) {x : Int32} (ht : 1 ≤ t) (hw : (st.map fun v => v.category).sum + 13 ≤ 30 * t) (hk : k ≤ mc) (hn : n ≤ ms) (hd : decode cc pc = .ok (.invokestatic idx, 3)) (kk : J X nL G sz k n (pc + 3) ls (.int (if 0 ≤ x then x else 0 - x) :: st)) : J X nL G sz k n pc ls (.int x :: st) := fun H locs lsA hH hlc hv2 => by
  have hts := hx.2.2.2.2.1
  have hR := hx.2.2.2.2.2.2.1
  exact va_mabs hx.1 hx.2.1 (hx.2.2.1.trans hv2.1.symm) hx.2.2.2.1 (hts _ hl) (hts _ hw4.1) (hts _ hw4.2.1) (hts _ hw4.2.2) (by rw [hR]; exact ht) (by rw [hR]; exact hw) (by rw [hR]; exact hk) (by rw [hR]; exact hn) hd (kk H locs lsA hH hlc hv2)
theorem J_copy (hx : Fx X cc nL own t mc ms) {idx : Nat} (hl : Cond.methodLink own idx arraycopyName ∈ WT) (hw4 : Cond.native arraycopyName ∈ WT ∧ Cond.static arraycopyName ∈ WT ∧ Cond.initialized "java/lang/System" ∈ WT) {a0 a n0 n1 : Nat} {f g : Nat → Int32} {sp dp nn : Int32} (ha0 : G a0 = some (.inl ((xΓ X).2.1 1, n0, .inl f))) (ha1 : G a = some (.inl ((xΓ X).2.1 1, n1, .inl g))) (h1 : ¬ sp < 0) (h2 : ¬ dp < 0) (h3 : ¬ nn < 0) (h4 : sp.toNatClampNeg + nn.toNatClampNeg ≤ n0) (h5 : dp.toNatClampNeg + nn.toNatClampNeg ≤ n1) (ht : 1 ≤ t) (hw : (st.map fun v => v.category).sum + (nativeFrameWords "java/lang/System" "arraycopy" 5 + 11) ≤ 30 * t) (hd : decode cc pc = .ok (.invokestatic idx, 3))
    (kk : J X nL (updG G a (.inl ((xΓ X).2.1 1, n1, .inl (va_cpy f g sp.toNatClampNeg dp.toNatClampNeg nn.toNatClampNeg)))) sz k n (pc + 3) ls st) : J X nL G sz k n pc ls (.int nn :: .int dp :: .ref a :: .int sp :: .ref a0 :: st) := fun H locs lsA hH hlc hv2 => by
  have hts := hx.2.2.2.2.1
  have hR := hx.2.2.2.2.2.2.1
  have hK := hx.2.2.2.2.2.1.1
  have np : ∀ z : Int32, ¬ z < 0 → z.toInt = (z.toNatClampNeg : Int) := by
    intro z hz
    have hz0 : (0 : Int) ≤ z.toInt := by
      have := Int32.not_lt.mp hz
      simpa using Int32.le_iff_toInt_le.mp this
    show z.toInt = ((z.toInt.toNat : Nat) : Int)
    omega
  obtain ⟨hat1, hAa⟩ := hH.2.2.2 a _ ha1
  have hc0 : H[a0]? = some (vp_cell ((xΓ X).2.1 1) (n0, .inl f)) := (hH.2.2.2 a0 _ ha0).1
  have hc1 : H[a]? = some (vp_cell ((xΓ X).2.1 1) (n1, .inl g)) := hat1
  intro T hT Xs
  obtain ⟨-, k0, hk0, cm0, hkk0⟩ := (hK.2 1 _ rfl).1 n0 (fun j => .int (f j))
  obtain ⟨-, k1, hk1, cm1, hkk1⟩ := (hK.2 1 _ rfl).1 n1 (fun j => .int (g j))
  obtain ⟨vm', X', step⟩ := Xs.arraycopy hx.1 hx.2.2.2.1 (hts _ hl) (hts _ hw4.1) (hts _ hw4.2.1) (hts _ hw4.2.2) (src := a0) (dst := a) (cs := vp_cell ((xΓ X).2.1 1) (n0, .inl f)) (cd := vp_cell ((xΓ X).2.1 1) (n1, .inl g)) (srcPos := sp) (destPos := dp) (n := nn) (by rw [hT]; exact hc0) (by rw [hT]; exact hc1)
    (fun _ h => by cases h) (fun _ h => by cases h) (fun h => by cases h) (fun h => by cases h) hk0 hk1 hkk0 hkk1 (by simp [refKind]) h1 h2 h3
    (by rw [np sp h1, np nn h3]; show ¬ _ > ((arrV ((xΓ X).2.1 1) n0 (fun j => .int (f j))).slots.size : Int); rw [arrV_size]; omega)
    (by rw [np dp h2, np nn h3]; show ¬ _ > ((arrV ((xΓ X).2.1 1) n1 (fun j => .int (g j))).slots.size : Int); rw [arrV_size]; omega)
    (fun vm₁ _ i hi => by
      have e : (vp_cell ((xΓ X).2.1 1) (n0, .inl f)).slots.getD (sp.toNatClampNeg + i) .null = .int (f (sp.toNatClampNeg + i)) := by
        show (arrV ((xΓ X).2.1 1) n0 (fun j => .int (f j))).slots.getD _ _ = _
        rw [Array.getD_eq_getD_getElem?, arrV_read _ _ (by omega)]
        rfl
      refine ⟨?_, ?_⟩
      · rw [e]
        rfl
      · rw [e]
        exact trivial)
    (g := F0 (xm X) pc lsA (.int nn :: .int dp :: .ref a :: .int sp :: .ref a0 :: st)) rfl (by rw [hx.2.2.1]; exact hv2.1) (rest := st) rfl (by rw [hx.2.1]; exact hd) (by rw [hR]; exact ht) (by rw [hR]; show 2 * 0 + _ + _ ≤ 30 * t; omega)
  have e1 : copied (vp_cell ((xΓ X).2.1 1) (n0, .inl f)) (vp_cell ((xΓ X).2.1 1) (n1, .inl g)) sp dp nn = vp_cell ((xΓ X).2.1 1) (n1, .inl (va_cpy f g sp.toNatClampNeg dp.toNatClampNeg nn.toNatClampNeg)) := va_copied (fun z => .int z) _ _ f g h4
  rw [e1] at X' step
  have hlt : a < H.size := (Array.getElem?_eq_some_iff.mp hc1).1
  have hheap : ((T.setVm vm').setCell a (vp_cell ((xΓ X).2.1 1) (n1, .inl (va_cpy f g sp.toNatClampNeg dp.toNatClampNeg nn.toNatClampNeg)))).heap = H.setIfInBounds a (vp_cell ((xΓ X).2.1 1) (n1, .inl (va_cpy f g sp.toNatClampNeg dp.toNatClampNeg nn.toNatClampNeg))) := by rw [← hT]; rfl
  have oq : ∀ q : Nat, q ≠ a → (H.setIfInBounds a (vp_cell ((xΓ X).2.1 1) (n1, .inl (va_cpy f g sp.toNatClampNeg dp.toNatClampNeg nn.toNatClampNeg))))[q]? = H[q]? := fun q hq => by simp [Array.getElem?_setIfInBounds, Ne.symm hq]
  obtain ⟨t9, a1, b1⟩ := kk _ _ lsA (hH.put ha1 (show (H.setIfInBounds a _)[a]? = some _ by simp [Array.getElem?_setIfInBounds, hlt]) (by simp) oq) (fun q hq => by
      rcases List.mem_append.mp hq with h | h
      · exact hlc q h
      · obtain ⟨z, -, hz⟩ := List.mem_map.mp h
        rw [← hz]
        exact hAa) hv2 _ hheap X'
  exact ⟨t9, step t9 a1, b1⟩
end JH
end
section
/-! THE LOGIC, calls -/
def lsOk (ls : List (Option Value)) : Nat → Bool
  | 0 => true
  | i + 1 => match ls[i]? with
    | some (some v) => v.category == 1
    | _ => true
theorem hc_of {ls : List (Option Value)} {i : Nat} (h : lsOk ls i = true) : ∀ w : Value, i ≠ 0 → ls[i - 1]? = some (some w) → w.category = 1 := by
  intro w h0 hw
  match i, h0 with
  | i + 1, _ =>
    rw [Nat.add_sub_cancel] at hw
    simp only [lsOk, hw] at h
    simpa using h
theorem WT_good {w : Cond} (h : w ∈ WT) : (w.onTables && w.keeps) = true ∨ ∃ ty, w = .arrayClass ty := good_of_word (List.mem_filter.mp h).2
theorem wy_in {y : MethodName} {cc : ByteArray} {nL : Nat} {ret : Option FieldType} (h : Cond.code y cc nL ret ∈ WT) : GoodIn WT (wy y cc nL ret) := fun w hw => by
  have : w ∈ WT := by
    rcases List.mem_cons.mp hw with e | e
    · rw [e]; exact h
    · exact e
  exact ⟨this, WT_good this⟩
theorem KV.warm {Γ : Gl} {s U : State} (hW : s.WarmedH U.vm) (h : KV Γ s) : KV Γ U := ⟨h.1.moved hW.alike, h.2.2.1 s U hW h.2.1, h.2.2⟩
theorem KV.calling {Γ : Gl} {U : State} {g : JFrame} {mk : MethodId} {a : Array Value} (h : KV Γ U) : KV Γ (U.calling g mk a) := ⟨h.1.moved (by show U.vm.Alike U.vm; exact Vm.Alike.refl _), h.2.2.2 U g mk a h.2.1, h.2.2⟩
/-- what the tables say of a method: 1 of all, 2 of an instance's, 3 of a static one, 4 of a constructor -/
def Lk (y : MethodName) (cc : ByteArray) (nL : Nat) (ret : Option FieldType) (n : Nat) : Prop := Cond.code y cc nL ret ∈ WT ∧ Cond.initialized y.cls ∈ WT ∧ y.cls ≠ "java/lang/invoke/MethodHandle" ∧ y.cls ≠ "java/lang/invoke/VarHandle" ∧ (parseMethodDescriptor y.desc).map (fun d => d.parameters.length) = some n
def LkV (y : MethodName) (cc : ByteArray) (nL : Nat) (ret : Option FieldType) (n : Nat) : Prop := Lk y cc nL ret n ∧ Cond.instanceMethod y ∈ WT ∧ Cond.selects y.cls y y ∈ WT
def LkS (y : MethodName) (cc : ByteArray) (nL : Nat) (ret : Option FieldType) (n : Nat) : Prop := Lk y cc nL ret n ∧ Cond.static y ∈ WT
def LkI (y : MethodName) (cc : ByteArray) (nL : Nat) (n : Nat) : Prop := Lk y cc nL none n ∧ Cond.instanceMethod y ∈ WT ∧ y.name = "<init>"
theorem Pc_blind {Γ : Gl} {av : List Value} {G : Gf} {sz : Nat} : FrameBlind (va_Pc av (fun U => KV Γ U ∧ Hp Γ G sz U.heap)) := fun a U g mk h => ⟨h.1, h.2.1.calling, h.2.2⟩
section JC
variable {X : Cx} {cc : ByteArray} {nL : Nat} {own : String} {t mc ms : Nat} {G : Gf} {sz k n pc : Nat} {ls : List (Option Value)} {st : List Value}
theorem fix_of (hx : Fx X cc nL own t mc ms) : CallFix (xp X) (xm X) (xc X) cc nL (xs X) (xa X) WT own := ⟨hx.1, hx.2.1, hx.2.2.1, hx.2.2.2.1, hx.2.2.2.2.1⟩
theorem callB_J (hx : Fx X cc nL own t mc ms) {idx : Nat} {y : MethodName} {bytes : ByteArray} {maxL : Nat} {ret : Option FieldType} {nA t' mc' ms' : Nat} (hml : Cond.methodLink own idx y ∈ WT) (hm : Lk y bytes maxL ret nA) (ht : t' + 1 ≤ t) (hlo : 19 + maxL + 30 * t' ≤ 30 * t) :
    CallB (xR X) (xs X) (xa X) own idx y bytes maxL ret (wy y bytes maxL ret) (rmL t' mc' ms') mc' ms' nA := by
  have hts := hx.2.2.2.2.1
  have hR := hx.2.2.2.2.2.2.1
  refine callB_of nA hts (wy_in hm.1) rfl rfl rfl (hts _ hm.2.1) (hts _ hml) ⟨hm.2.2.1, hm.2.2.2.1, hm.2.2.2.2⟩ ?_
  rw [hR]
  exact ⟨ht, by show 8 + (maxL + 11) + 30 * t' ≤ 30 * t; omega⟩
/-- behind a call -/
theorem J_back (av : Array Value) {mc' ms' : Nat} {rest : List Value} {Ψ : Option Value → Gf → Nat → Prop}
    (hr : ∀ (H : Heap) (locs : List Loc) (lsA : Array Slot), Hp (xΓ X) G sz H → (∀ q ∈ locs, aA (xΓ X) q.base) → lvO lsA nL ls → va_Run (xp X) (xl X) (xe X) (xR X) (xs X) (xm X) (xa X) (xb X) (xM X) (xc X) H locs k n mc' ms' (F0 (xm X) pc lsA st) rest (QcO (xΓ X) Ψ av) (aA (xΓ X)))
    (kk : ∀ (r : Option Value) (G' : Gf) (sz' : Nat), Ψ r G' sz' → J X nL G' sz' (k + mc') (n + ms') (pc + 3) ls (r.toList ++ rest)) : J X nL G sz k n pc ls st := fun H locs lsA hH hlc hv2 => by
  intro T hT Xs
  obtain ⟨v, st₀, t, T', L, h0, X', hL, e1, e2, ⟨r, G', sz', hv, hΨ, hH'⟩, stp⟩ := hr H locs lsA hH hlc hv2 T hT Xs
  cases hv
  obtain ⟨t2, a1, b1⟩ := kk _ G' sz' hΨ T'.heap (locs ++ L) lsA (by rw [e1]; exact hH') (fun q hq => by
      rcases List.mem_append.mp hq with h | h
      · exact hlc q h
      · exact hL q h) hv2 T' rfl X'
  exact ⟨t2, stp t2 a1, b1⟩
theorem J_callV (hx : Fx X cc nL own t mc ms) {idx : Nat} {y : MethodName} {bytes : ByteArray} {maxL : Nat} {ret : Option FieldType} {nA t' mc' ms' b : Nat} {As rest : List Value} {Ψ : Option Value → Gf → Nat → Prop} {ci : Nat} {T : u_T} {N : Nat} {fs : List Value}
    (ct : Ct (xl X) (xΓ X) y bytes maxL ret t' (.ref b :: As) G sz Ψ mc' ms') (hml : Cond.methodLink own idx y ∈ WT) (hm : LkV y bytes maxL ret nA) (hC : vwCl[ci]? = some (y.cls, T, N)) (hG : G b = some (.inr (ci, fs)))
    (hst : st = As.reverse ++ .ref b :: rest) (hn : As.length = nA) (ht : t' + 1 ≤ t) (hlo : 19 + maxL + 30 * t' ≤ 30 * t) (hw : (rest.map fun v => v.category).sum ≤ 8) (hk : k + mc' ≤ mc) (hs : n + ms' ≤ ms) (hd : decode cc pc = .ok (.invokevirtual idx, 3))
    (kk : ∀ (r : Option Value) (G' : Gf) (sz' : Nat), Ψ r G' sz' → J X nL G' sz' (k + mc') (n + ms') (pc + 3) ls (r.toList ++ rest)) : J X nL G sz k n pc ls st := by
  have hts := hx.2.2.2.2.1
  have hK := hx.2.2.2.2.2.1
  have hR := hx.2.2.2.2.2.2.1
  refine J_back (Value.ref b :: As).toArray (fun H locs lsA hH hlc hv2 => ?_) kk
  refine va_runV (C := y.cls) (b := b) (As := As) (fix_of hx) ct ⟨callB_J hx hml hm.1 ht hlo, hts _ hm.2.1, hts _ hm.2.2⟩ ⟨Pc_blind, ?_, fun U hU hW => ⟨rfl, hK.warm hW, by rw [hU]; exact hH⟩⟩ rfl hn hv2.1 hst (by show 2 * 0 + _ ≤ 8; omega) hd (by rw [hR]; exact ⟨hk, hs⟩)
  obtain ⟨r, h1, cell, q1, q2, q3, -⟩ := (hH.2.2.2 b _ hG).1
  have hr : r = (y.cls, T, N) := Option.some.inj (h1.symm.trans hC)
  subst hr
  refine ⟨cell, q1, by rw [q3]; rfl, ?_⟩
  rw [q2]
  exact (hK.1.1 ci _ hC).2.1
theorem J_callS (hx : Fx X cc nL own t mc ms) {idx : Nat} {y : MethodName} {bytes : ByteArray} {maxL : Nat} {ret : Option FieldType} {nA t' mc' ms' : Nat} {As rest : List Value} {Ψ : Option Value → Gf → Nat → Prop}
    (ct : Ct (xl X) (xΓ X) y bytes maxL ret t' As G sz Ψ mc' ms') (hml : Cond.methodLink own idx y ∈ WT) (hm : LkS y bytes maxL ret nA)
    (hst : st = As.reverse ++ rest) (hn : As.length = nA) (ht : t' + 1 ≤ t) (hlo : 19 + maxL + 30 * t' ≤ 30 * t) (hw : (rest.map fun v => v.category).sum ≤ 8) (hk : k + mc' ≤ mc) (hs : n + ms' ≤ ms) (hd : decode cc pc = .ok (.invokestatic idx, 3))
    (kk : ∀ (r : Option Value) (G' : Gf) (sz' : Nat), Ψ r G' sz' → J X nL G' sz' (k + mc') (n + ms') (pc + 3) ls (r.toList ++ rest)) : J X nL G sz k n pc ls st := by
  have hts := hx.2.2.2.2.1
  have hK := hx.2.2.2.2.2.1
  have hR := hx.2.2.2.2.2.2.1
  refine J_back As.toArray (fun H locs lsA hH hlc hv2 => ?_) kk
  exact va_runS (As := As) (fix_of hx) ct ⟨callB_J hx hml hm.1 ht hlo, hts _ hm.2⟩ ⟨Pc_blind, fun U hU hW => ⟨rfl, hK.warm hW, by rw [hU]; exact hH⟩⟩ rfl hn hv2.1 hst (by show 2 * 0 + _ ≤ 8; omega) hd (by rw [hR]; exact ⟨hk, hs⟩)
theorem J_callI (hx : Fx X cc nL own t mc ms) {idx : Nat} {y : MethodName} {bytes : ByteArray} {maxL : Nat} {nA t' mc' ms' b : Nat} {As rest : List Value} {Ψ : Option Value → Gf → Nat → Prop}
    (ct : Ct (xl X) (xΓ X) y bytes maxL none t' (.ref b :: As) G sz Ψ mc' ms') (hml : Cond.methodLink own idx y ∈ WT) (hm : LkI y bytes maxL nA)
    (hst : st = As.reverse ++ .ref b :: rest) (hn : As.length = nA) (ht : t' + 1 ≤ t) (hlo : 19 + maxL + 30 * t' ≤ 30 * t) (hw : (rest.map fun v => v.category).sum ≤ 8) (hk : k + mc' ≤ mc) (hs : n + ms' ≤ ms) (hd : decode cc pc = .ok (.invokespecial idx, 3))
    (kk : ∀ (r : Option Value) (G' : Gf) (sz' : Nat), Ψ r G' sz' → J X nL G' sz' (k + mc') (n + ms') (pc + 3) ls (r.toList ++ rest)) : J X nL G sz k n pc ls st := by
  have hts := hx.2.2.2.2.1
  have hK := hx.2.2.2.2.2.1
  have hR := hx.2.2.2.2.2.2.1
  refine J_back (Value.ref b :: As).toArray (fun H locs lsA hH hlc hv2 => ?_) kk
  exact va_runI (b := b) (As := As) (fix_of hx) ct ⟨callB_J hx hml hm.1 ht hlo, hm.2.2, hts _ hm.2.1⟩ ⟨Pc_blind, fun U hU hW => ⟨rfl, hK.warm hW, by rw [hU]; exact hH⟩⟩ rfl hn hv2.1 hst (by show 2 * 0 + _ ≤ 8; omega) hd (by rw [hR]; exact ⟨hk, hs⟩)
theorem J_callIN (hx : Fx X cc nL own t mc ms) {idx : Nat} {y : MethodName} {bytes : ByteArray} {maxL : Nat} {nA t' mc' ms' b : Nat} {As rest : List Value} {Ψ : Option Value → Gf → Nat → Prop} {host : String}
    (ct : Ct (xl X) (xΓ X) y bytes maxL none t' (.ref b :: As) G sz Ψ mc' ms') (hnw : va_Nw (.methodLinkNest own idx y host) (xs X)) (hm : LkI y bytes maxL nA)
    (hst : st = As.reverse ++ .ref b :: rest) (hn : As.length = nA) (ht : t' + 1 ≤ t) (hlo : 19 + maxL + 30 * t' ≤ 30 * t) (hw : (rest.map fun v => v.category).sum ≤ 8) (hk : k + mc' ≤ mc) (hs : n + ms' ≤ ms) (hd : decode cc pc = .ok (.invokespecial idx, 3))
    (kk : ∀ (r : Option Value) (G' : Gf) (sz' : Nat), Ψ r G' sz' → J X nL G' sz' (k + mc') (n + ms') (pc + 3) ls (r.toList ++ rest)) : J X nL G sz k n pc ls st := by
  have hts := hx.2.2.2.2.1
  have hK := hx.2.2.2.2.2.1
  have hR := hx.2.2.2.2.2.2.1
  refine J_back (Value.ref b :: As).toArray (fun H locs lsA hH hlc hv2 => ?_) kk
  exact va_runIN (b := b) (As := As) (fix_of hx) ct ⟨va_cnB (ws' := WT) nA hts (wy_in hm.1.1) rfl rfl rfl hnw (hts _ hm.1.2.1) ⟨hm.1.2.2.1, hm.1.2.2.2.1, hm.1.2.2.2.2⟩ (by rw [hR]; exact ⟨ht, by show 8 + (maxL + 11) + 30 * t' ≤ 30 * t; omega⟩), hm.2.2, hts _ hm.2.1⟩ ⟨Pc_blind, fun U hU hW => ⟨rfl, hK.warm hW, by rw [hU]; exact hH⟩⟩ rfl hn hv2.1 hst (by show 2 * 0 + _ ≤ 8; omega) hd (by rw [hR]; exact ⟨hk, hs⟩)
end JC
/-- a contract of one that only reads -/
def RdΨ (v : Value) (G : Gf) (sz : Nat) : Option Value → Gf → Nat → Prop := fun r G' sz' => r = some v ∧ G' = G ∧ sz' = sz
abbrev CtR (l : Launch) (Γ : Gl) (y : MethodName) (cc : ByteArray) (nL : Nat) (ret : Option FieldType) (t : Nat) (av : List Value) (G : Gf) (sz : Nat) (v : Value) : Prop := Ct l Γ y cc nL ret t av G sz (RdΨ v G sz) 0 0
section JCR
variable {X : Cx} {cc : ByteArray} {nL : Nat} {own : String} {t mc ms : Nat} {G : Gf} {sz k n pc : Nat} {ls : List (Option Value)} {st : List Value}
theorem J_rdV (hx : Fx X cc nL own t mc ms) {idx : Nat} {y : MethodName} {bytes : ByteArray} {maxL : Nat} {ret : Option FieldType} {nA t' b : Nat} {As rest : List Value} {v : Value} {ci : Nat} {T : u_T} {N : Nat} {fs : List Value}
    (ct : CtR (xl X) (xΓ X) y bytes maxL ret t' (.ref b :: As) G sz v) (hml : Cond.methodLink own idx y ∈ WT) (hm : LkV y bytes maxL ret nA) (hC : vwCl[ci]? = some (y.cls, T, N)) (hG : G b = some (.inr (ci, fs)))
    (hst : st = As.reverse ++ .ref b :: rest) (hn : As.length = nA) (ht : t' + 1 ≤ t) (hlo : 19 + maxL + 30 * t' ≤ 30 * t) (hw : (rest.map fun v => v.category).sum ≤ 8) (hk : k ≤ mc) (hs : n ≤ ms) (hd : decode cc pc = .ok (.invokevirtual idx, 3))
    (kk : J X nL G sz k n (pc + 3) ls (v :: rest)) : J X nL G sz k n pc ls st :=
  J_callV hx ct hml hm hC hG hst hn ht hlo hw hk hs hd (fun r G' sz' h => by obtain ⟨rfl, rfl, rfl⟩ := h; exact kk)
theorem J_rdS (hx : Fx X cc nL own t mc ms) {idx : Nat} {y : MethodName} {bytes : ByteArray} {maxL : Nat} {ret : Option FieldType} {nA t' : Nat} {As rest : List Value} {v : Value}
    (ct : CtR (xl X) (xΓ X) y bytes maxL ret t' As G sz v) (hml : Cond.methodLink own idx y ∈ WT) (hm : LkS y bytes maxL ret nA)
    (hst : st = As.reverse ++ rest) (hn : As.length = nA) (ht : t' + 1 ≤ t) (hlo : 19 + maxL + 30 * t' ≤ 30 * t) (hw : (rest.map fun v => v.category).sum ≤ 8) (hk : k ≤ mc) (hs : n ≤ ms) (hd : decode cc pc = .ok (.invokestatic idx, 3))
    (kk : J X nL G sz k n (pc + 3) ls (v :: rest)) : J X nL G sz k n pc ls st :=
  J_callS hx ct hml hm hst hn ht hlo hw hk hs hd (fun r G' sz' h => by obtain ⟨rfl, rfl, rfl⟩ := h; exact kk)
/-- an end of one that only reads -/
theorem J_iretR (hx : Fx X cc nL own t mc ms) {v w : Int32} (hr : Rt X (some .int) mc ms (RdΨ (.int w) G sz)) (hd : decode cc pc = .ok (.ireturn, 1)) (hk : k ≤ mc) (hn : n ≤ ms) (e : v = w) : J X nL G sz k n pc ls [.int v] :=
  J_iret hx hr hd hk hn ⟨by rw [e], rfl, rfl⟩
/-- a truth as an int -/
def bI (b : Bool) : Int32 := if b = true then 1 else 0
theorem bI_nar (b : Bool) : narrow .boolean (.int (bI b)) = .int (bI b) := by cases b <;> rfl
theorem bI0 {b : Bool} : bI b = 0 ↔ b = false := by cases b <;> decide
theorem bI1 {b : Bool} : ¬ bI b = 0 ↔ b = true := by cases b <;> decide
theorem bI_t : bI true = 1 := rfl
theorem bI_f : bI false = 0 := rfl
theorem bI_d (p : Prop) [Decidable p] : bI (decide p) = if p then 1 else 0 := by unfold bI; by_cases h : p <;> simp [h]
theorem J_zretR (hx : Fx X cc nL own t mc ms) {v : Int32} {b : Bool} (hr : Rt X (some .boolean) mc ms (RdΨ (.int (bI b)) G sz)) (hd : decode cc pc = .ok (.ireturn, 1)) (hk : k ≤ mc) (hn : n ≤ ms) (e : v = bI b) : J X nL G sz k n pc ls [.int v] := by
  subst e
  exact J_zret hx hr hd (bI_nar b) hk hn ⟨rfl, rfl, rfl⟩
theorem J_bif_eq (hx : Fx X cc nL own t mc ms) {b : Bool} {off : Int} (tgt : Nat) (hd : decode cc pc = .ok (.ifCond .eq off, 3)) (ht : (pc : Int) + off = (tgt : Int)) (kt : b = false → J X nL G sz k n tgt ls st) (kf : b = true → J X nL G sz k n (pc + 3) ls st) : J X nL G sz k n pc ls (.int (bI b) :: st) :=
  J_if_eq hx tgt hd ht (fun h => kt (bI0.mp h)) (fun h => kf (bI1.mp h))
theorem J_bif_ne (hx : Fx X cc nL own t mc ms) {b : Bool} {off : Int} (tgt : Nat) (hd : decode cc pc = .ok (.ifCond .ne off, 3)) (ht : (pc : Int) + off = (tgt : Int)) (kt : b = true → J X nL G sz k n tgt ls st) (kf : b = false → J X nL G sz k n (pc + 3) ls st) : J X nL G sz k n pc ls (.int (bI b) :: st) :=
  J_if_ne hx tgt hd ht (fun h => kt (bI1.mp h)) (fun h => kf (bI0.mp h))
/-- a value told otherwise -/
theorem J_val {v w : Int32} (e : v = w) (kk : J X nL G sz k n pc ls (.int w :: st)) : J X nL G sz k n pc ls (.int v :: st) := by rw [e]; exact kk
end JCR
end
section
/-! The words of the tables that the walks name: written by wip/whole/gen_facts.py -/
theorem wtm_1 {w : Cond} (i : Nat) (h : tables_1_1[i]? = some w) (g : goodWord w = true) : w ∈ WT := List.mem_filter.mpr ⟨List.mem_append_right _ (List.mem_append_left _ (List.mem_of_getElem? h)), g⟩
theorem wtm_2 {w : Cond} (i : Nat) (h : tables_1_2[i]? = some w) (g : goodWord w = true) : w ∈ WT := List.mem_filter.mpr ⟨List.mem_append_right _ (List.mem_append_right _ (List.mem_append_left _ (List.mem_of_getElem? h))), g⟩
theorem wtm_3 {w : Cond} (i : Nat) (h : tables_1_3[i]? = some w) (g : goodWord w = true) : w ∈ WT := List.mem_filter.mpr ⟨List.mem_append_right _ (List.mem_append_right _ (List.mem_append_right _ (List.mem_append_left _ (List.mem_of_getElem? h)))), g⟩
theorem wtm_4 {w : Cond} (i : Nat) (h : tables_1_4[i]? = some w) (g : goodWord w = true) : w ∈ WT := List.mem_filter.mpr ⟨List.mem_append_right _ (List.mem_append_right _ (List.mem_append_right _ (List.mem_append_right _ (List.mem_append_left _ (List.mem_of_getElem? h))))), g⟩
theorem wtm_5 {w : Cond} (i : Nat) (h : tables_1_5[i]? = some w) (g : goodWord w = true) : w ∈ WT := List.mem_filter.mpr ⟨List.mem_append_right _ (List.mem_append_right _ (List.mem_append_right _ (List.mem_append_right _ (List.mem_append_right _ (List.mem_append_left _ (List.mem_of_getElem? h)))))), g⟩
theorem wtm_6 {w : Cond} (i : Nat) (h : tables_1_6[i]? = some w) (g : goodWord w = true) : w ∈ WT := List.mem_filter.mpr ⟨List.mem_append_right _ (List.mem_append_right _ (List.mem_append_right _ (List.mem_append_right _ (List.mem_append_right _ (List.mem_append_right _ (List.mem_append_left _ (List.mem_of_getElem? h))))))), g⟩
theorem wtm_7 {w : Cond} (i : Nat) (h : tables_1_7[i]? = some w) (g : goodWord w = true) : w ∈ WT := List.mem_filter.mpr ⟨List.mem_append_right _ (List.mem_append_right _ (List.mem_append_right _ (List.mem_append_right _ (List.mem_append_right _ (List.mem_append_right _ (List.mem_append_right _ (List.mem_append_left _ (List.mem_of_getElem? h)))))))), g⟩
theorem wtm_8 {w : Cond} (i : Nat) (h : tables_1_8[i]? = some w) (g : goodWord w = true) : w ∈ WT := List.mem_filter.mpr ⟨List.mem_append_right _ (List.mem_append_right _ (List.mem_append_right _ (List.mem_append_right _ (List.mem_append_right _ (List.mem_append_right _ (List.mem_append_right _ (List.mem_append_right _ (List.mem_of_getElem? h)))))))), g⟩
theorem wtp {y : MethodName} {q : Nat} (i : Nat) (h : lw_privs[i]? = some (y, q)) : Cond.selects y.cls y y ∈ WT := List.mem_filter.mpr ⟨List.mem_append_left _ (List.mem_map.mpr ⟨_, List.mem_of_getElem? h, rfl⟩), rfl⟩
theorem ml_L_105 : Cond.methodLink RL 105 yX12_init ∈ WT := (wtm_1 30 (by decide +kernel) (by decide +kernel))
theorem ml_X12_1 : Cond.methodLink RX12 1 objectInit ∈ WT := (wtm_1 33 (by decide +kernel) (by decide +kernel))
theorem ml_X12_9 : Cond.methodLink RX12 9 yX6_init ∈ WT := (wtm_1 38 (by decide +kernel) (by decide +kernel))
theorem ml_X6_3 : Cond.methodLink RX6 3 objectInit ∈ WT := (wtm_1 41 (by decide +kernel) (by decide +kernel))
theorem ml_X9_3 : Cond.methodLink RX9 3 objectInit ∈ WT := (wtm_1 54 (by decide +kernel) (by decide +kernel))
theorem ml_X3_3 : Cond.methodLink RX3 3 objectInit ∈ WT := (wtm_1 96 (by decide +kernel) (by decide +kernel))
theorem ml_X11_3 : Cond.methodLink RX11 3 objectInit ∈ WT := (wtm_1 166 (by decide +kernel) (by decide +kernel))
theorem ml_X12_18 : Cond.methodLink RX12 18 yX1_init ∈ WT := (wtm_2 70 (by decide +kernel) (by decide +kernel))
theorem ml_X1_3 : Cond.methodLink RX1 3 objectInit ∈ WT := (wtm_2 73 (by decide +kernel) (by decide +kernel))
theorem ml_X12_27 : Cond.methodLink RX12 27 yX4_init ∈ WT := (wtm_2 80 (by decide +kernel) (by decide +kernel))
theorem ml_X4_3 : Cond.methodLink RX4 3 objectInit ∈ WT := (wtm_2 83 (by decide +kernel) (by decide +kernel))
theorem ml_X12_34 : Cond.methodLink RX12 34 yX8_init ∈ WT := (wtm_2 90 (by decide +kernel) (by decide +kernel))
theorem ml_X8_3 : Cond.methodLink RX8 3 objectInit ∈ WT := (wtm_2 93 (by decide +kernel) (by decide +kernel))
theorem ml_X12_41 : Cond.methodLink RX12 41 yX5_init ∈ WT := (wtm_2 100 (by decide +kernel) (by decide +kernel))
theorem ml_X5_3 : Cond.methodLink RX5 3 objectInit ∈ WT := (wtm_2 103 (by decide +kernel) (by decide +kernel))
theorem ml_X12_50 : Cond.methodLink RX12 50 yX7_init ∈ WT := (wtm_2 116 (by decide +kernel) (by decide +kernel))
theorem ml_X7_3 : Cond.methodLink RX7 3 objectInit ∈ WT := (wtm_2 119 (by decide +kernel) (by decide +kernel))
theorem ml_X7_17 : Cond.methodLink RX7 17 yX6_init ∈ WT := (wtm_2 122 (by decide +kernel) (by decide +kernel))
theorem ml_X2_3 : Cond.methodLink RX2 3 objectInit ∈ WT := (wtm_2 136 (by decide +kernel) (by decide +kernel))
theorem ml_L_200 : Cond.methodLink RL 200 yX12_clearCommands ∈ WT := (wtm_2 184 (by decide +kernel) (by decide +kernel))
theorem ml_X12_247 : Cond.methodLink RX12 247 yX2_empty ∈ WT := (wtm_2 188 (by decide +kernel) (by decide +kernel))
theorem ml_L_204 : Cond.methodLink RL 204 yX12_runCommands ∈ WT := (wtm_2 192 (by decide +kernel) (by decide +kernel))
theorem ml_X12_251 : Cond.methodLink RX12 251 yX2_findFault ∈ WT := (wtm_2 196 (by decide +kernel) (by decide +kernel))
theorem ml_X2_35 : Cond.methodLink RX2 35 yX2_rewind ∈ WT := (wtm_2 200 (by decide +kernel) (by decide +kernel))
theorem ml_X2_38 : Cond.methodLink RX2 38 yX2_readNext ∈ WT := (wtm_2 204 (by decide +kernel) (by decide +kernel))
theorem ml_X2_45 : Cond.methodLink RX2 45 yX2_skipSpaces ∈ WT := (wtm_2 208 (by decide +kernel) (by decide +kernel))
theorem ml_X2_48 : Cond.methodLink RX2 48 yX2_readWord ∈ WT := (wtm_2 212 (by decide +kernel) (by decide +kernel))
theorem ml_X2_65 : Cond.methodLink RX2 65 yX2_isWordAt ∈ WT := (wtm_2 218 (by decide +kernel) (by decide +kernel))
theorem ml_X2_73 : Cond.methodLink RX2 73 yJ0_length_8abf5 ∈ WT := (wtm_2 222 (by decide +kernel) (by decide +kernel))
theorem ml_J0_335 : Cond.methodLink RJ0 335 yJ0_coder_7d493 ∈ WT := (wtm_2 226 (by decide +kernel) (by decide +kernel))
theorem ml_X2_78 : Cond.methodLink RX2 78 yJ0_charAt_5068e ∈ WT := (wtm_2 232 (by decide +kernel) (by decide +kernel))
theorem ml_J0_492 : Cond.methodLink RJ0 492 yJ0_isLatin1_aae02 ∈ WT := (wtm_2 236 (by decide +kernel) (by decide +kernel))
theorem ml_J0_495 : Cond.methodLink RJ0 495 yJ1_charAt_3b067 ∈ WT := (wtm_3 0 (by decide +kernel) (by decide +kernel))
theorem ml_J1_9 : Cond.methodLink RJ1 9 yJ0_checkIndex_df160 ∈ WT := (wtm_3 3 (by decide +kernel) (by decide +kernel))
theorem ml_J0_1059 : Cond.methodLink RJ0 1059 yJ3_checkIndex_8e157 ∈ WT := (wtm_3 8 (by decide +kernel) (by decide +kernel))
theorem ml_J0_498 : Cond.methodLink RJ0 498 yJ2_charAt_3b067 ∈ WT := (wtm_3 11 (by decide +kernel) (by decide +kernel))
theorem ml_J2_67 : Cond.methodLink RJ2 67 yJ2_checkIndex_2214a ∈ WT := (wtm_3 14 (by decide +kernel) (by decide +kernel))
theorem ml_J2_48 : Cond.methodLink RJ2 48 yJ2_length_9d52b ∈ WT := (wtm_3 17 (by decide +kernel) (by decide +kernel))
theorem ml_J2_414 : Cond.methodLink RJ2 414 yJ0_checkIndex_df160 ∈ WT := (wtm_3 20 (by decide +kernel) (by decide +kernel))
theorem ml_J2_71 : Cond.methodLink RJ2 71 yJ2_getChar_3b067 ∈ WT := (wtm_3 21 (by decide +kernel) (by decide +kernel))
theorem ml_X2_69 : Cond.methodLink RX2 69 yX2_failAt ∈ WT := (wtm_3 30 (by decide +kernel) (by decide +kernel))
theorem ml_X2_51 : Cond.methodLink RX2 51 yX2_readNumbers ∈ WT := (wtm_3 34 (by decide +kernel) (by decide +kernel))
theorem ml_X2_85 : Cond.methodLink RX2 85 yX2_readNumber ∈ WT := (wtm_3 38 (by decide +kernel) (by decide +kernel))
theorem ml_X2_88 : Cond.methodLink RX2 88 yX2_isAtDigit ∈ WT := (wtm_3 42 (by decide +kernel) (by decide +kernel))
theorem ml_X2_54 : Cond.methodLink RX2 54 yX2_readSemicolon ∈ WT := (wtm_3 46 (by decide +kernel) (by decide +kernel))
theorem ml_X12_70 : Cond.methodLink RX12 70 yX7_keep ∈ WT := (wtm_3 50 (by decide +kernel) (by decide +kernel))
theorem ml_X7_22 : Cond.methodLink RX7 22 yX7_dropOldest ∈ WT := (wtm_3 54 (by decide +kernel) (by decide +kernel))
theorem ml_X7_25 : Cond.methodLink RX7 25 yX6_copyFrom ∈ WT := (wtm_3 58 (by decide +kernel) (by decide +kernel))
theorem ml_X6_69 : Cond.methodLink RX6 69 yX9_copyFrom ∈ WT := (wtm_3 62 (by decide +kernel) (by decide +kernel))
theorem ml_X9_31 : Cond.methodLink RX9 31 arraycopyName ∈ WT := (wtm_3 66 (by decide +kernel) (by decide +kernel))
theorem ml_X6_73 : Cond.methodLink RX6 73 yX3_copyFrom ∈ WT := (wtm_3 69 (by decide +kernel) (by decide +kernel))
theorem ml_X6_76 : Cond.methodLink RX6 76 yX11_copyFrom ∈ WT := (wtm_3 73 (by decide +kernel) (by decide +kernel))
theorem ml_X11_41 : Cond.methodLink RX11 41 arraycopyName ∈ WT := (wtm_3 77 (by decide +kernel) (by decide +kernel))
theorem ml_X6_79 : Cond.methodLink RX6 79 arraycopyName ∈ WT := (wtm_3 78 (by decide +kernel) (by decide +kernel))
theorem ml_X12_254 : Cond.methodLink RX12 254 yX2_rewind ∈ WT := (wtm_3 79 (by decide +kernel) (by decide +kernel))
theorem ml_X12_257 : Cond.methodLink RX12 257 yX2_readNext ∈ WT := (wtm_3 80 (by decide +kernel) (by decide +kernel))
theorem ml_X12_268 : Cond.methodLink RX12 268 yX12_wrongWith ∈ WT := (wtm_3 81 (by decide +kernel) (by decide +kernel))
theorem ml_X12_122 : Cond.methodLink RX12 122 yX1_ofOpening ∈ WT := (wtm_3 93 (by decide +kernel) (by decide +kernel))
theorem ml_X1_51 : Cond.methodLink RX1 51 yX6_hasCrate ∈ WT := (wtm_3 97 (by decide +kernel) (by decide +kernel))
theorem ml_X1_54 : Cond.methodLink RX1 54 yX1_mayBeOpened ∈ WT := (wtm_3 101 (by decide +kernel) (by decide +kernel))
theorem ml_X1_67 : Cond.methodLink RX1 67 yX6_isWithinReach ∈ WT := (wtm_3 105 (by decide +kernel) (by decide +kernel))
theorem ml_X6_98 : Cond.methodLink RX6 98 yX6_hasCrate ∈ WT := (wtm_3 109 (by decide +kernel) (by decide +kernel))
theorem ml_X6_89 : Cond.methodLink RX6 89 yX6_hasVenue ∈ WT := (wtm_3 110 (by decide +kernel) (by decide +kernel))
theorem ml_X1_91 : Cond.methodLink RX1 91 yX6_venueOfCrate ∈ WT := (wtm_3 114 (by decide +kernel) (by decide +kernel))
theorem ml_X6_108 : Cond.methodLink RX6 108 yX6_outermost ∈ WT := (wtm_3 118 (by decide +kernel) (by decide +kernel))
theorem ml_X1_34 : Cond.methodLink RX1 34 yX6_hasVenue ∈ WT := (wtm_3 122 (by decide +kernel) (by decide +kernel))
theorem ml_X1_196 : Cond.methodLink RX1 196 yX3_hoursNeededAt ∈ WT := (wtm_3 123 (by decide +kernel) (by decide +kernel))
theorem ml_X3_46 : Cond.methodLink RX3 46 yJ9_abs_0f7a4 ∈ WT := (wtm_3 127 (by decide +kernel) (by decide +kernel))
theorem ml_X1_30 : Cond.methodLink RX1 30 yX1_firstWrong ∈ WT := (wtm_3 130 (by decide +kernel) (by decide +kernel))
theorem ml_X12_128 : Cond.methodLink RX12 128 yX1_ofClosing ∈ WT := (wtm_3 133 (by decide +kernel) (by decide +kernel))
theorem ml_X1_70 : Cond.methodLink RX1 70 yX1_holdsOpenCrate ∈ WT := (wtm_3 137 (by decide +kernel) (by decide +kernel))
theorem ml_X12_134 : Cond.methodLink RX12 134 yX1_ofNesting ∈ WT := (wtm_3 141 (by decide +kernel) (by decide +kernel))
theorem ml_X1_73 : Cond.methodLink RX1 73 yX1_mayBeNested ∈ WT := (wtm_3 145 (by decide +kernel) (by decide +kernel))
theorem ml_X12_140 : Cond.methodLink RX12 140 yX1_ofTakingOut ∈ WT := (wtm_3 149 (by decide +kernel) (by decide +kernel))
theorem ml_X12_146 : Cond.methodLink RX12 146 yX1_ofPacking ∈ WT := (wtm_3 153 (by decide +kernel) (by decide +kernel))
theorem ml_X1_79 : Cond.methodLink RX1 79 yX6_hasWork ∈ WT := (wtm_3 157 (by decide +kernel) (by decide +kernel))
theorem ml_X12_152 : Cond.methodLink RX12 152 yX1_ofUnpacking ∈ WT := (wtm_3 161 (by decide +kernel) (by decide +kernel))
theorem ml_X12_158 : Cond.methodLink RX12 158 yX1_ofSending ∈ WT := (wtm_3 165 (by decide +kernel) (by decide +kernel))
theorem ml_X1_105 : Cond.methodLink RX1 105 yX1_ofLeg ∈ WT := (wtm_3 169 (by decide +kernel) (by decide +kernel))
theorem ml_X1_98 : Cond.methodLink RX1 98 yX6_isCourierOrNone ∈ WT := (wtm_3 173 (by decide +kernel) (by decide +kernel))
theorem ml_X6_85 : Cond.methodLink RX6 85 yX6_hasCourier ∈ WT := (wtm_3 177 (by decide +kernel) (by decide +kernel))
theorem ml_X1_101 : Cond.methodLink RX1 101 yX1_ofNumber ∈ WT := (wtm_3 181 (by decide +kernel) (by decide +kernel))
theorem ml_X1_109 : Cond.methodLink RX1 109 yX1_reasonAgainst ∈ WT := (wtm_3 185 (by decide +kernel) (by decide +kernel))
theorem ml_X1_112 : Cond.methodLink RX1 112 yX1_reasonOfCrate ∈ WT := (wtm_3 189 (by decide +kernel) (by decide +kernel))
theorem ml_X1_129 : Cond.methodLink RX1 129 yX6_hoursBetween ∈ WT := (wtm_3 193 (by decide +kernel) (by decide +kernel))
theorem ml_X1_116 : Cond.methodLink RX1 116 yX1_reasonOfWorks ∈ WT := (wtm_3 197 (by decide +kernel) (by decide +kernel))
theorem ml_X1_132 : Cond.methodLink RX1 132 yX6_isInOrBelow ∈ WT := (wtm_3 201 (by decide +kernel) (by decide +kernel))
theorem ml_X1_145 : Cond.methodLink RX1 145 yX1_bars ∈ WT := (wtm_3 205 (by decide +kernel) (by decide +kernel))
theorem ml_X1_153 : Cond.methodLink RX1 153 yX1_suits ∈ WT := (wtm_3 208 (by decide +kernel) (by decide +kernel))
theorem ml_X1_119 : Cond.methodLink RX1 119 yX1_isAboveCap ∈ WT := (wtm_3 211 (by decide +kernel) (by decide +kernel))
theorem ml_X1_157 : Cond.methodLink RX1 157 yX6_valueInOrBelow ∈ WT := (wtm_3 215 (by decide +kernel) (by decide +kernel))
theorem ml_X6_119 : Cond.methodLink RX6 119 yX6_isInOrBelow ∈ WT := (wtm_3 219 (by decide +kernel) (by decide +kernel))
theorem ml_X1_160 : Cond.methodLink RX1 160 yX6_valueAt ∈ WT := (wtm_3 220 (by decide +kernel) (by decide +kernel))
theorem ml_X6_126 : Cond.methodLink RX6 126 yX6_venueOfWork ∈ WT := (wtm_3 224 (by decide +kernel) (by decide +kernel))
theorem ml_X1_163 : Cond.methodLink RX1 163 yX6_valueOnTheWayTo ∈ WT := (wtm_3 228 (by decide +kernel) (by decide +kernel))
theorem ml_X6_129 : Cond.methodLink RX6 129 yX6_goalOfWork ∈ WT := (wtm_3 232 (by decide +kernel) (by decide +kernel))
theorem ml_X1_122 : Cond.methodLink RX1 122 yX1_reasonOfCourier ∈ WT := (wtm_3 236 (by decide +kernel) (by decide +kernel))
theorem ml_X1_171 : Cond.methodLink RX1 171 yX6_hasCourier ∈ WT := (wtm_4 0 (by decide +kernel) (by decide +kernel))
theorem ml_X1_174 : Cond.methodLink RX1 174 yX1_needsCourier ∈ WT := (wtm_4 1 (by decide +kernel) (by decide +kernel))
theorem ml_X12_164 : Cond.methodLink RX12 164 yX1_ofWaiting ∈ WT := (wtm_4 5 (by decide +kernel) (by decide +kernel))
theorem ml_X1_19 : Cond.methodLink RX1 19 yX1_isIn ∈ WT := (wtm_4 9 (by decide +kernel) (by decide +kernel))
theorem ml_X12_272 : Cond.methodLink RX12 272 yX12_perform ∈ WT := (wtm_4 12 (by decide +kernel) (by decide +kernel))
theorem ml_X12_125 : Cond.methodLink RX12 125 yX4_openCrate ∈ WT := (wtm_4 16 (by decide +kernel) (by decide +kernel))
theorem ml_X4_112 : Cond.methodLink RX4 112 yX6_worksDirectlyIn ∈ WT := (wtm_4 20 (by decide +kernel) (by decide +kernel))
theorem ml_X12_131 : Cond.methodLink RX12 131 yX4_closeCrate ∈ WT := (wtm_4 24 (by decide +kernel) (by decide +kernel))
theorem ml_X4_116 : Cond.methodLink RX4 116 yX6_venueOfCrate ∈ WT := (wtm_4 28 (by decide +kernel) (by decide +kernel))
theorem ml_X4_119 : Cond.methodLink RX4 119 yX6_hasVenue ∈ WT := (wtm_4 29 (by decide +kernel) (by decide +kernel))
theorem ml_X4_125 : Cond.methodLink RX4 125 yX6_worksInOrBelow ∈ WT := (wtm_4 30 (by decide +kernel) (by decide +kernel))
theorem ml_X12_137 : Cond.methodLink RX12 137 yX4_putCrateInto ∈ WT := (wtm_4 34 (by decide +kernel) (by decide +kernel))
theorem ml_X4_72 : Cond.methodLink RX4 72 yX3_standAt ∈ WT := (wtm_4 38 (by decide +kernel) (by decide +kernel))
theorem ml_X4_128 : Cond.methodLink RX4 128 yX6_cratesDirectlyIn ∈ WT := (wtm_4 42 (by decide +kernel) (by decide +kernel))
theorem ml_X12_143 : Cond.methodLink RX12 143 yX4_takeCrateOut ∈ WT := (wtm_4 46 (by decide +kernel) (by decide +kernel))
theorem ml_X12_149 : Cond.methodLink RX12 149 yX4_packWork ∈ WT := (wtm_4 50 (by decide +kernel) (by decide +kernel))
theorem ml_X12_155 : Cond.methodLink RX12 155 yX4_unpackWork ∈ WT := (wtm_4 54 (by decide +kernel) (by decide +kernel))
theorem ml_X4_131 : Cond.methodLink RX4 131 yX6_venueOfWork ∈ WT := (wtm_4 58 (by decide +kernel) (by decide +kernel))
theorem ml_X12_161 : Cond.methodLink RX12 161 yX4_sendCrate ∈ WT := (wtm_4 59 (by decide +kernel) (by decide +kernel))
theorem ml_X4_135 : Cond.methodLink RX4 135 yX6_hoursBetween ∈ WT := (wtm_4 63 (by decide +kernel) (by decide +kernel))
theorem ml_X4_148 : Cond.methodLink RX4 148 yX6_hasCourier ∈ WT := (wtm_4 64 (by decide +kernel) (by decide +kernel))
theorem ml_X12_167 : Cond.methodLink RX12 167 yX4_letHoursPass ∈ WT := (wtm_4 65 (by decide +kernel) (by decide +kernel))
theorem ml_X4_154 : Cond.methodLink RX4 154 yX4_passHour ∈ WT := (wtm_4 69 (by decide +kernel) (by decide +kernel))
theorem ml_X4_157 : Cond.methodLink RX4 157 yX4_arrive ∈ WT := (wtm_4 73 (by decide +kernel) (by decide +kernel))
theorem ml_X4_163 : Cond.methodLink RX4 163 yX6_isInOrBelow ∈ WT := (wtm_4 77 (by decide +kernel) (by decide +kernel))
theorem ml_X4_160 : Cond.methodLink RX4 160 yX4_endDay ∈ WT := (wtm_4 78 (by decide +kernel) (by decide +kernel))
theorem ml_X4_167 : Cond.methodLink RX4 167 yX4_premiumOf ∈ WT := (wtm_4 82 (by decide +kernel) (by decide +kernel))
theorem ml_X4_173 : Cond.methodLink RX4 173 yX11_notePlace ∈ WT := (wtm_4 86 (by decide +kernel) (by decide +kernel))
theorem ml_X11_47 : Cond.methodLink RX11 47 yJ9_min_7cf53 ∈ WT := (wtm_4 90 (by decide +kernel) (by decide +kernel))
theorem ml_L_212 : Cond.methodLink RL 212 yX12_digest ∈ WT := (wtm_4 93 (by decide +kernel) (by decide +kernel))
theorem ml_X12_284 : Cond.methodLink RX12 284 yX12_mixed ∈ WT := (wtm_4 98 (by decide +kernel) (by decide +kernel))
theorem ml_X12_222 : Cond.methodLink RX12 222 yX8_ofWhole ∈ WT := (wtm_4 102 (by decide +kernel) (by decide +kernel))
theorem ml_X8_160 : Cond.methodLink RX8 160 yX8_worksOnTheirWay ∈ WT := (wtm_4 106 (by decide +kernel) (by decide +kernel))
theorem ml_X8_180 : Cond.methodLink RX8 180 yX6_goalOfWork ∈ WT := (wtm_4 110 (by decide +kernel) (by decide +kernel))
theorem ml_X8_164 : Cond.methodLink RX8 164 yX8_openCrates ∈ WT := (wtm_4 111 (by decide +kernel) (by decide +kernel))
theorem ml_X12_288 : Cond.methodLink RX12 288 yX12_withVenues ∈ WT := (wtm_4 115 (by decide +kernel) (by decide +kernel))
theorem ml_X12_208 : Cond.methodLink RX12 208 yX8_ofVenue ∈ WT := (wtm_4 119 (by decide +kernel) (by decide +kernel))
theorem ml_X8_125 : Cond.methodLink RX8 125 yX6_valueAt ∈ WT := (wtm_4 123 (by decide +kernel) (by decide +kernel))
theorem ml_X8_128 : Cond.methodLink RX8 128 yX6_valueOnTheWayTo ∈ WT := (wtm_4 124 (by decide +kernel) (by decide +kernel))
theorem ml_X8_131 : Cond.methodLink RX8 131 yX8_cratesAt ∈ WT := (wtm_4 125 (by decide +kernel) (by decide +kernel))
theorem ml_X8_134 : Cond.methodLink RX8 134 yX8_couriersAt ∈ WT := (wtm_4 129 (by decide +kernel) (by decide +kernel))
theorem ml_X12_292 : Cond.methodLink RX12 292 yX12_withCrates ∈ WT := (wtm_4 133 (by decide +kernel) (by decide +kernel))
theorem ml_X12_184 : Cond.methodLink RX12 184 yX8_ofCrate ∈ WT := (wtm_4 137 (by decide +kernel) (by decide +kernel))
theorem ml_X8_21 : Cond.methodLink RX8 21 yX6_outermost ∈ WT := (wtm_4 141 (by decide +kernel) (by decide +kernel))
theorem ml_X8_35 : Cond.methodLink RX8 35 yX8_asNumber ∈ WT := (wtm_4 142 (by decide +kernel) (by decide +kernel))
theorem ml_X8_51 : Cond.methodLink RX8 51 yX8_temperatureIn ∈ WT := (wtm_4 145 (by decide +kernel) (by decide +kernel))
theorem ml_X8_167 : Cond.methodLink RX8 167 yX6_hasVenue ∈ WT := (wtm_4 149 (by decide +kernel) (by decide +kernel))
theorem ml_X8_55 : Cond.methodLink RX8 55 yX8_humidityIn ∈ WT := (wtm_4 150 (by decide +kernel) (by decide +kernel))
theorem ml_X8_61 : Cond.methodLink RX8 61 yX8_hoursNeeded ∈ WT := (wtm_4 154 (by decide +kernel) (by decide +kernel))
theorem ml_X8_172 : Cond.methodLink RX8 172 yX3_hoursNeededAt ∈ WT := (wtm_4 158 (by decide +kernel) (by decide +kernel))
theorem ml_X8_64 : Cond.methodLink RX8 64 yX6_worksInOrBelow ∈ WT := (wtm_4 159 (by decide +kernel) (by decide +kernel))
theorem ml_X8_67 : Cond.methodLink RX8 67 yX6_cratesBelow ∈ WT := (wtm_4 160 (by decide +kernel) (by decide +kernel))
theorem ml_X8_70 : Cond.methodLink RX8 70 yX6_valueInOrBelow ∈ WT := (wtm_4 164 (by decide +kernel) (by decide +kernel))
theorem ml_X8_73 : Cond.methodLink RX8 73 yX6_isWithinReach ∈ WT := (wtm_4 165 (by decide +kernel) (by decide +kernel))
theorem ml_X12_228 : Cond.methodLink RX12 228 yX5_timeOfCrate ∈ WT := (wtm_4 166 (by decide +kernel) (by decide +kernel))
theorem ml_X5_68 : Cond.methodLink RX5 68 yX6_isInOrBelow ∈ WT := (wtm_4 170 (by decide +kernel) (by decide +kernel))
theorem ml_X5_72 : Cond.methodLink RX5 72 yX5_timeOfWork ∈ WT := (wtm_4 171 (by decide +kernel) (by decide +kernel))
theorem ml_X5_35 : Cond.methodLink RX5 35 yX6_hasCrate ∈ WT := (wtm_4 175 (by decide +kernel) (by decide +kernel))
theorem ml_X5_46 : Cond.methodLink RX5 46 yX6_outermost ∈ WT := (wtm_4 176 (by decide +kernel) (by decide +kernel))
theorem ml_X5_58 : Cond.methodLink RX5 58 yX5_timeThrough ∈ WT := (wtm_4 177 (by decide +kernel) (by decide +kernel))
theorem ml_X5_95 : Cond.methodLink RX5 95 yX6_hasVenue ∈ WT := (wtm_4 181 (by decide +kernel) (by decide +kernel))
theorem ml_X5_98 : Cond.methodLink RX5 98 yX5_listAround ∈ WT := (wtm_4 182 (by decide +kernel) (by decide +kernel))
theorem ml_X5_112 : Cond.methodLink RX5 112 yX3_hoursNeededAt ∈ WT := (wtm_4 186 (by decide +kernel) (by decide +kernel))
theorem ml_X5_75 : Cond.methodLink RX5 75 yJ9_max_7cf53 ∈ WT := (wtm_4 187 (by decide +kernel) (by decide +kernel))
theorem ml_X12_295 : Cond.methodLink RX12 295 yX12_withWorks ∈ WT := (wtm_4 190 (by decide +kernel) (by decide +kernel))
theorem ml_X12_190 : Cond.methodLink RX12 190 yX8_ofWork ∈ WT := (wtm_4 194 (by decide +kernel) (by decide +kernel))
theorem ml_X8_98 : Cond.methodLink RX8 98 yX6_venueOfWork ∈ WT := (wtm_4 198 (by decide +kernel) (by decide +kernel))
theorem ml_X8_101 : Cond.methodLink RX8 101 yX6_cratesOutwards ∈ WT := (wtm_4 199 (by decide +kernel) (by decide +kernel))
theorem ml_X12_200 : Cond.methodLink RX12 200 yX11_placeNoted ∈ WT := (wtm_4 203 (by decide +kernel) (by decide +kernel))
theorem ml_X12_225 : Cond.methodLink RX12 225 yX5_timeOfWork ∈ WT := (wtm_4 207 (by decide +kernel) (by decide +kernel))
theorem ml_L_109 : Cond.methodLink RL 109 yL_addVenue ∈ WT := (wtm_4 208 (by decide +kernel) (by decide +kernel))
theorem ml_L_7 : Cond.methodLink RL 7 yX12_addVenue ∈ WT := (wtm_4 213 (by decide +kernel) (by decide +kernel))
theorem ml_X12_62 : Cond.methodLink RX12 62 yX1_ofNewVenue ∈ WT := (wtm_4 217 (by decide +kernel) (by decide +kernel))
theorem ml_X1_15 : Cond.methodLink RX1 15 yX1_isClimate ∈ WT := (wtm_4 221 (by decide +kernel) (by decide +kernel))
theorem ml_X12_66 : Cond.methodLink RX12 66 yX12_throwIfWrong ∈ WT := (wtm_4 225 (by decide +kernel) (by decide +kernel))
theorem ml_X12_73 : Cond.methodLink RX12 73 yX4_makeVenue ∈ WT := (wtm_5 87 (by decide +kernel) (by decide +kernel))
theorem ml_L_118 : Cond.methodLink RL 118 yL_setClimate ∈ WT := (wtm_5 91 (by decide +kernel) (by decide +kernel))
theorem ml_L_17 : Cond.methodLink RL 17 yX12_setClimate ∈ WT := (wtm_5 95 (by decide +kernel) (by decide +kernel))
theorem ml_X12_76 : Cond.methodLink RX12 76 yX1_ofClimate ∈ WT := (wtm_5 99 (by decide +kernel) (by decide +kernel))
theorem ml_X12_80 : Cond.methodLink RX12 80 yX4_changeClimate ∈ WT := (wtm_5 103 (by decide +kernel) (by decide +kernel))
theorem ml_L_122 : Cond.methodLink RL 122 yL_setWay ∈ WT := (wtm_5 107 (by decide +kernel) (by decide +kernel))
theorem ml_L_23 : Cond.methodLink RL 23 yX12_setWay ∈ WT := (wtm_5 110 (by decide +kernel) (by decide +kernel))
theorem ml_X12_83 : Cond.methodLink RX12 83 yX1_ofWay ∈ WT := (wtm_5 114 (by decide +kernel) (by decide +kernel))
theorem ml_X12_86 : Cond.methodLink RX12 86 yX4_changeWay ∈ WT := (wtm_5 118 (by decide +kernel) (by decide +kernel))
theorem ml_L_125 : Cond.methodLink RL 125 yL_setLender ∈ WT := (wtm_5 122 (by decide +kernel) (by decide +kernel))
theorem ml_L_26 : Cond.methodLink RL 26 yX12_setLender ∈ WT := (wtm_5 125 (by decide +kernel) (by decide +kernel))
theorem ml_X12_89 : Cond.methodLink RX12 89 yX1_ofLenderValue ∈ WT := (wtm_5 129 (by decide +kernel) (by decide +kernel))
theorem ml_X1_38 : Cond.methodLink RX1 38 yX1_isLenderValue ∈ WT := (wtm_5 133 (by decide +kernel) (by decide +kernel))
theorem ml_X12_92 : Cond.methodLink RX12 92 yX4_changeLender ∈ WT := (wtm_5 136 (by decide +kernel) (by decide +kernel))
theorem ml_L_128 : Cond.methodLink RL 128 yL_setWayRate ∈ WT := (wtm_5 140 (by decide +kernel) (by decide +kernel))
theorem ml_L_29 : Cond.methodLink RL 29 yX12_setWayRate ∈ WT := (wtm_5 143 (by decide +kernel) (by decide +kernel))
theorem ml_X12_95 : Cond.methodLink RX12 95 yX1_ofWayRate ∈ WT := (wtm_5 147 (by decide +kernel) (by decide +kernel))
theorem ml_X12_99 : Cond.methodLink RX12 99 yX4_changeWayRate ∈ WT := (wtm_5 151 (by decide +kernel) (by decide +kernel))
theorem ml_L_132 : Cond.methodLink RL 132 yL_addCourier ∈ WT := (wtm_5 155 (by decide +kernel) (by decide +kernel))
theorem ml_L_33 : Cond.methodLink RL 33 yX12_addCourier ∈ WT := (wtm_5 158 (by decide +kernel) (by decide +kernel))
theorem ml_X12_102 : Cond.methodLink RX12 102 yX1_ofNewCourier ∈ WT := (wtm_5 162 (by decide +kernel) (by decide +kernel))
theorem ml_X12_105 : Cond.methodLink RX12 105 yX4_makeCourier ∈ WT := (wtm_5 166 (by decide +kernel) (by decide +kernel))
theorem ml_L_135 : Cond.methodLink RL 135 yL_addCrate ∈ WT := (wtm_5 170 (by decide +kernel) (by decide +kernel))
theorem ml_L_36 : Cond.methodLink RL 36 yX12_addCrate ∈ WT := (wtm_5 173 (by decide +kernel) (by decide +kernel))
theorem ml_X12_108 : Cond.methodLink RX12 108 yX1_ofNewCrate ∈ WT := (wtm_5 177 (by decide +kernel) (by decide +kernel))
theorem ml_X12_112 : Cond.methodLink RX12 112 yX4_makeCrate ∈ WT := (wtm_5 181 (by decide +kernel) (by decide +kernel))
theorem ml_L_139 : Cond.methodLink RL 139 yL_addWork ∈ WT := (wtm_5 185 (by decide +kernel) (by decide +kernel))
theorem ml_L_40 : Cond.methodLink RL 40 yX12_addWork ∈ WT := (wtm_5 188 (by decide +kernel) (by decide +kernel))
theorem ml_X12_115 : Cond.methodLink RX12 115 yX1_ofNewWork ∈ WT := (wtm_5 192 (by decide +kernel) (by decide +kernel))
theorem ml_X12_118 : Cond.methodLink RX12 118 yX4_makeWork ∈ WT := (wtm_5 197 (by decide +kernel) (by decide +kernel))
theorem ml_L_143 : Cond.methodLink RL 143 yL_open ∈ WT := (wtm_5 201 (by decide +kernel) (by decide +kernel))
theorem ml_L_44 : Cond.methodLink RL 44 yX12_open ∈ WT := (wtm_5 204 (by decide +kernel) (by decide +kernel))
theorem ml_L_146 : Cond.methodLink RL 146 yL_close ∈ WT := (wtm_5 208 (by decide +kernel) (by decide +kernel))
theorem ml_L_47 : Cond.methodLink RL 47 yX12_close ∈ WT := (wtm_5 211 (by decide +kernel) (by decide +kernel))
theorem ml_L_149 : Cond.methodLink RL 149 yL_nest ∈ WT := (wtm_5 215 (by decide +kernel) (by decide +kernel))
theorem ml_L_50 : Cond.methodLink RL 50 yX12_nest ∈ WT := (wtm_5 218 (by decide +kernel) (by decide +kernel))
theorem ml_L_152 : Cond.methodLink RL 152 yL_takeOut ∈ WT := (wtm_5 222 (by decide +kernel) (by decide +kernel))
theorem ml_L_53 : Cond.methodLink RL 53 yX12_takeOut ∈ WT := (wtm_5 225 (by decide +kernel) (by decide +kernel))
theorem ml_L_155 : Cond.methodLink RL 155 yL_pack ∈ WT := (wtm_5 229 (by decide +kernel) (by decide +kernel))
theorem ml_L_56 : Cond.methodLink RL 56 yX12_pack ∈ WT := (wtm_5 232 (by decide +kernel) (by decide +kernel))
theorem ml_L_158 : Cond.methodLink RL 158 yL_unpack ∈ WT := (wtm_5 236 (by decide +kernel) (by decide +kernel))
theorem ml_L_59 : Cond.methodLink RL 59 yX12_unpack ∈ WT := (wtm_5 239 (by decide +kernel) (by decide +kernel))
theorem ml_L_161 : Cond.methodLink RL 161 yL_send ∈ WT := (wtm_6 3 (by decide +kernel) (by decide +kernel))
theorem ml_L_62 : Cond.methodLink RL 62 yX12_send ∈ WT := (wtm_6 6 (by decide +kernel) (by decide +kernel))
theorem ml_L_164 : Cond.methodLink RL 164 yL_advance ∈ WT := (wtm_6 10 (by decide +kernel) (by decide +kernel))
theorem ml_L_65 : Cond.methodLink RL 65 yX12_advance ∈ WT := (wtm_6 13 (by decide +kernel) (by decide +kernel))
theorem ml_L_167 : Cond.methodLink RL 167 yL_refusal ∈ WT := (wtm_6 17 (by decide +kernel) (by decide +kernel))
theorem ml_L_68 : Cond.methodLink RL 68 yX12_refusal ∈ WT := (wtm_6 20 (by decide +kernel) (by decide +kernel))
theorem ml_X12_170 : Cond.methodLink RX12 170 yX1_ofLeg ∈ WT := (wtm_6 24 (by decide +kernel) (by decide +kernel))
theorem ml_X12_173 : Cond.methodLink RX12 173 yX1_reasonAgainst ∈ WT := (wtm_6 25 (by decide +kernel) (by decide +kernel))
theorem ml_L_170 : Cond.methodLink RL 170 yL_crate ∈ WT := (wtm_6 26 (by decide +kernel) (by decide +kernel))
theorem ml_L_71 : Cond.methodLink RL 71 yX12_crate ∈ WT := (wtm_6 29 (by decide +kernel) (by decide +kernel))
theorem ml_X12_176 : Cond.methodLink RX12 176 yX6_hasCrate ∈ WT := (wtm_6 33 (by decide +kernel) (by decide +kernel))
theorem ml_X12_180 : Cond.methodLink RX12 180 yX1_ofValue ∈ WT := (wtm_6 34 (by decide +kernel) (by decide +kernel))
theorem ml_L_173 : Cond.methodLink RL 173 yL_work ∈ WT := (wtm_6 38 (by decide +kernel) (by decide +kernel))
theorem ml_L_74 : Cond.methodLink RL 74 yX12_work ∈ WT := (wtm_6 41 (by decide +kernel) (by decide +kernel))
theorem ml_X12_187 : Cond.methodLink RX12 187 yX6_hasWork ∈ WT := (wtm_6 45 (by decide +kernel) (by decide +kernel))
theorem ml_L_176 : Cond.methodLink RL 176 yL_noted ∈ WT := (wtm_6 46 (by decide +kernel) (by decide +kernel))
theorem ml_L_77 : Cond.methodLink RL 77 yX12_noted ∈ WT := (wtm_6 49 (by decide +kernel) (by decide +kernel))
theorem ml_X12_193 : Cond.methodLink RX12 193 yX1_ofNoted ∈ WT := (wtm_6 53 (by decide +kernel) (by decide +kernel))
theorem ml_L_179 : Cond.methodLink RL 179 yL_venue ∈ WT := (wtm_6 57 (by decide +kernel) (by decide +kernel))
theorem ml_L_80 : Cond.methodLink RL 80 yX12_venue ∈ WT := (wtm_6 60 (by decide +kernel) (by decide +kernel))
theorem ml_X12_205 : Cond.methodLink RX12 205 yX6_hasVenue ∈ WT := (wtm_6 64 (by decide +kernel) (by decide +kernel))
theorem ml_L_182 : Cond.methodLink RL 182 yL_courier ∈ WT := (wtm_6 65 (by decide +kernel) (by decide +kernel))
theorem ml_L_83 : Cond.methodLink RL 83 yX12_courier ∈ WT := (wtm_6 68 (by decide +kernel) (by decide +kernel))
theorem ml_X12_211 : Cond.methodLink RX12 211 yX6_hasCourier ∈ WT := (wtm_6 72 (by decide +kernel) (by decide +kernel))
theorem ml_X12_214 : Cond.methodLink RX12 214 yX1_ofNumber ∈ WT := (wtm_6 73 (by decide +kernel) (by decide +kernel))
theorem ml_L_185 : Cond.methodLink RL 185 yL_whole ∈ WT := (wtm_6 74 (by decide +kernel) (by decide +kernel))
theorem ml_L_86 : Cond.methodLink RL 86 yX12_whole ∈ WT := (wtm_6 77 (by decide +kernel) (by decide +kernel))
theorem ml_L_188 : Cond.methodLink RL 188 yL_readyAt ∈ WT := (wtm_6 81 (by decide +kernel) (by decide +kernel))
theorem ml_L_89 : Cond.methodLink RL 89 yX12_readyAt ∈ WT := (wtm_6 84 (by decide +kernel) (by decide +kernel))
theorem ml_L_191 : Cond.methodLink RL 191 yL_allReadyAt ∈ WT := (wtm_6 88 (by decide +kernel) (by decide +kernel))
theorem ml_L_92 : Cond.methodLink RL 92 yX12_allReadyAt ∈ WT := (wtm_6 91 (by decide +kernel) (by decide +kernel))
theorem ml_L_194 : Cond.methodLink RL 194 yL_bestVenue ∈ WT := (wtm_6 95 (by decide +kernel) (by decide +kernel))
theorem ml_L_95 : Cond.methodLink RL 95 yX12_bestVenue ∈ WT := (wtm_6 98 (by decide +kernel) (by decide +kernel))
theorem ml_X12_231 : Cond.methodLink RX12 231 yX6_isCourierOrNone ∈ WT := (wtm_6 102 (by decide +kernel) (by decide +kernel))
theorem ml_X12_234 : Cond.methodLink RX12 234 yX5_soonestVenue ∈ WT := (wtm_6 103 (by decide +kernel) (by decide +kernel))
theorem ml_X5_84 : Cond.methodLink RX5 84 yX1_reasonAgainst ∈ WT := (wtm_6 107 (by decide +kernel) (by decide +kernel))
theorem ml_X5_89 : Cond.methodLink RX5 89 yX5_timeIfSent ∈ WT := (wtm_6 108 (by decide +kernel) (by decide +kernel))
theorem ml_X5_92 : Cond.methodLink RX5 92 yX6_hoursBetween ∈ WT := (wtm_6 112 (by decide +kernel) (by decide +kernel))
theorem ml_L_197 : Cond.methodLink RL 197 yL_type ∈ WT := (wtm_6 113 (by decide +kernel) (by decide +kernel))
theorem ml_L_98 : Cond.methodLink RL 98 yX12_type ∈ WT := (wtm_6 116 (by decide +kernel) (by decide +kernel))
theorem ml_X12_241 : Cond.methodLink RX12 241 yX1_ofByte ∈ WT := (wtm_6 120 (by decide +kernel) (by decide +kernel))
theorem ml_X12_244 : Cond.methodLink RX12 244 yX2_append ∈ WT := (wtm_6 124 (by decide +kernel) (by decide +kernel))
theorem ml_L_208 : Cond.methodLink RL 208 yL_undo ∈ WT := (wtm_6 128 (by decide +kernel) (by decide +kernel))
theorem ml_L_101 : Cond.methodLink RL 101 yX12_undo ∈ WT := (wtm_6 131 (by decide +kernel) (by decide +kernel))
theorem ml_X12_278 : Cond.methodLink RX12 278 yX7_restore ∈ WT := (wtm_6 135 (by decide +kernel) (by decide +kernel))
theorem ml_L_108 : Cond.methodLink RL 108 yX13_init ∈ WT := (wtm_6 141 (by decide +kernel) (by decide +kernel))
theorem ml_X13_1 : Cond.methodLink RX13 1 objectInit ∈ WT := (wtm_6 144 (by decide +kernel) (by decide +kernel))
theorem ml_L_115 : Cond.methodLink RL 115 yX13_thrown ∈ WT := (wtm_6 179 (by decide +kernel) (by decide +kernel))
theorem ml_L_114 : Cond.methodLink RL 114 yX13_addVenue ∈ WT := (wtm_6 183 (by decide +kernel) (by decide +kernel))
theorem ml_X13_58 : Cond.methodLink RX13 58 yX13_isClimate ∈ WT := (wtm_6 187 (by decide +kernel) (by decide +kernel))
theorem ml_X13_32 : Cond.methodLink RX13 32 yX13_in ∈ WT := (wtm_6 190 (by decide +kernel) (by decide +kernel))
theorem ml_X13_62 : Cond.methodLink RX13 62 yX13_keep ∈ WT := (wtm_6 194 (by decide +kernel) (by decide +kernel))
theorem ml_L_121 : Cond.methodLink RL 121 yX13_setClimate ∈ WT := (wtm_6 198 (by decide +kernel) (by decide +kernel))
theorem ml_X13_65 : Cond.methodLink RX13 65 yX13_isVenue ∈ WT := (wtm_6 202 (by decide +kernel) (by decide +kernel))
theorem ml_L_124 : Cond.methodLink RL 124 yX13_setWay ∈ WT := (wtm_6 206 (by decide +kernel) (by decide +kernel))
theorem ml_X13_68 : Cond.methodLink RX13 68 yX13_ofVenue ∈ WT := (wtm_6 210 (by decide +kernel) (by decide +kernel))
theorem ml_L_127 : Cond.methodLink RL 127 yX13_setLender ∈ WT := (wtm_6 214 (by decide +kernel) (by decide +kernel))
theorem ml_X13_71 : Cond.methodLink RX13 71 yX13_isLent ∈ WT := (wtm_6 218 (by decide +kernel) (by decide +kernel))
theorem ml_L_131 : Cond.methodLink RL 131 yX13_setWayRate ∈ WT := (wtm_6 221 (by decide +kernel) (by decide +kernel))
theorem ml_L_134 : Cond.methodLink RL 134 yX13_addCourier ∈ WT := (wtm_6 225 (by decide +kernel) (by decide +kernel))
theorem ml_L_138 : Cond.methodLink RL 138 yX13_addCrate ∈ WT := (wtm_6 229 (by decide +kernel) (by decide +kernel))
theorem ml_X13_74 : Cond.methodLink RX13 74 yX13_put ∈ WT := (wtm_6 233 (by decide +kernel) (by decide +kernel))
theorem ml_L_142 : Cond.methodLink RL 142 yX13_addWork ∈ WT := (wtm_6 237 (by decide +kernel) (by decide +kernel))
theorem ml_X13_79 : Cond.methodLink RX13 79 yX13_putWork ∈ WT := (wtm_7 2 (by decide +kernel) (by decide +kernel))
theorem ml_L_145 : Cond.methodLink RL 145 yX13_open ∈ WT := (wtm_7 6 (by decide +kernel) (by decide +kernel))
theorem ml_X13_97 : Cond.methodLink RX13 97 yX13_notOpen ∈ WT := (wtm_7 10 (by decide +kernel) (by decide +kernel))
theorem ml_X13_85 : Cond.methodLink RX13 85 yX13_isCrate ∈ WT := (wtm_7 14 (by decide +kernel) (by decide +kernel))
theorem ml_X13_47 : Cond.methodLink RX13 47 yX13_isOpen ∈ WT := (wtm_7 18 (by decide +kernel) (by decide +kernel))
theorem ml_X13_36 : Cond.methodLink RX13 36 yX13_of ∈ WT := (wtm_7 22 (by decide +kernel) (by decide +kernel))
theorem ml_X13_88 : Cond.methodLink RX13 88 yX13_isReached ∈ WT := (wtm_7 26 (by decide +kernel) (by decide +kernel))
theorem ml_X13_44 : Cond.methodLink RX13 44 yX13_venueOf ∈ WT := (wtm_7 30 (by decide +kernel) (by decide +kernel))
theorem ml_X13_40 : Cond.methodLink RX13 40 yX13_outermost ∈ WT := (wtm_7 34 (by decide +kernel) (by decide +kernel))
theorem ml_X13_91 : Cond.methodLink RX13 91 yX13_needs ∈ WT := (wtm_7 38 (by decide +kernel) (by decide +kernel))
theorem ml_X13_82 : Cond.methodLink RX13 82 yX13_size ∈ WT := (wtm_7 42 (by decide +kernel) (by decide +kernel))
theorem ml_X13_100 : Cond.methodLink RX13 100 yX13_opens ∈ WT := (wtm_7 45 (by decide +kernel) (by decide +kernel))
theorem ml_X13_94 : Cond.methodLink RX13 94 yX13_directWorks ∈ WT := (wtm_7 49 (by decide +kernel) (by decide +kernel))
theorem ml_X13_51 : Cond.methodLink RX13 51 yX13_ofWork ∈ WT := (wtm_7 53 (by decide +kernel) (by decide +kernel))
theorem ml_L_148 : Cond.methodLink RL 148 yX13_close ∈ WT := (wtm_7 57 (by decide +kernel) (by decide +kernel))
theorem ml_X13_106 : Cond.methodLink RX13 106 yX13_notClose ∈ WT := (wtm_7 61 (by decide +kernel) (by decide +kernel))
theorem ml_X13_109 : Cond.methodLink RX13 109 yX13_closes ∈ WT := (wtm_7 65 (by decide +kernel) (by decide +kernel))
theorem ml_X13_103 : Cond.methodLink RX13 103 yX13_worksIn ∈ WT := (wtm_7 69 (by decide +kernel) (by decide +kernel))
theorem ml_X13_54 : Cond.methodLink RX13 54 yX13_isWithin ∈ WT := (wtm_7 73 (by decide +kernel) (by decide +kernel))
theorem ml_L_151 : Cond.methodLink RL 151 yX13_nest ∈ WT := (wtm_7 77 (by decide +kernel) (by decide +kernel))
theorem ml_X13_118 : Cond.methodLink RX13 118 yX13_notNest ∈ WT := (wtm_7 81 (by decide +kernel) (by decide +kernel))
theorem ml_X13_112 : Cond.methodLink RX13 112 yX13_isForUse ∈ WT := (wtm_7 85 (by decide +kernel) (by decide +kernel))
theorem ml_X13_121 : Cond.methodLink RX13 121 yX13_nests ∈ WT := (wtm_7 89 (by decide +kernel) (by decide +kernel))
theorem ml_X13_115 : Cond.methodLink RX13 115 yX13_directCrates ∈ WT := (wtm_7 93 (by decide +kernel) (by decide +kernel))
theorem ml_L_154 : Cond.methodLink RL 154 yX13_takeOut ∈ WT := (wtm_7 97 (by decide +kernel) (by decide +kernel))
theorem ml_X13_124 : Cond.methodLink RX13 124 yX13_notTakeOut ∈ WT := (wtm_7 101 (by decide +kernel) (by decide +kernel))
theorem ml_X13_127 : Cond.methodLink RX13 127 yX13_takesOut ∈ WT := (wtm_7 105 (by decide +kernel) (by decide +kernel))
theorem ml_L_157 : Cond.methodLink RL 157 yX13_pack ∈ WT := (wtm_7 109 (by decide +kernel) (by decide +kernel))
theorem ml_X13_133 : Cond.methodLink RX13 133 yX13_notPack ∈ WT := (wtm_7 113 (by decide +kernel) (by decide +kernel))
theorem ml_X13_130 : Cond.methodLink RX13 130 yX13_isWork ∈ WT := (wtm_7 117 (by decide +kernel) (by decide +kernel))
theorem ml_X13_136 : Cond.methodLink RX13 136 yX13_packs ∈ WT := (wtm_7 121 (by decide +kernel) (by decide +kernel))
theorem ml_L_160 : Cond.methodLink RL 160 yX13_unpack ∈ WT := (wtm_7 125 (by decide +kernel) (by decide +kernel))
theorem ml_X13_139 : Cond.methodLink RX13 139 yX13_notUnpack ∈ WT := (wtm_7 129 (by decide +kernel) (by decide +kernel))
theorem ml_X13_142 : Cond.methodLink RX13 142 yX13_unpacks ∈ WT := (wtm_7 133 (by decide +kernel) (by decide +kernel))
theorem ml_L_163 : Cond.methodLink RL 163 yX13_send ∈ WT := (wtm_7 137 (by decide +kernel) (by decide +kernel))
theorem ml_X13_174 : Cond.methodLink RX13 174 yX13_notSend ∈ WT := (wtm_7 141 (by decide +kernel) (by decide +kernel))
theorem ml_X13_167 : Cond.methodLink RX13 167 yX13_isSending ∈ WT := (wtm_7 145 (by decide +kernel) (by decide +kernel))
theorem ml_X13_164 : Cond.methodLink RX13 164 yX13_isCourier ∈ WT := (wtm_7 149 (by decide +kernel) (by decide +kernel))
theorem ml_X13_170 : Cond.methodLink RX13 170 yX13_reason ∈ WT := (wtm_7 153 (by decide +kernel) (by decide +kernel))
theorem ml_X13_154 : Cond.methodLink RX13 154 yX13_worksRefuse ∈ WT := (wtm_7 157 (by decide +kernel) (by decide +kernel))
theorem ml_X13_151 : Cond.methodLink RX13 151 yX13_lenderRefuses ∈ WT := (wtm_7 161 (by decide +kernel) (by decide +kernel))
theorem ml_X13_157 : Cond.methodLink RX13 157 yX13_valuesFor ∈ WT := (wtm_7 165 (by decide +kernel) (by decide +kernel))
theorem ml_X13_145 : Cond.methodLink RX13 145 yX13_standsIn ∈ WT := (wtm_7 169 (by decide +kernel) (by decide +kernel))
theorem ml_X13_148 : Cond.methodLink RX13 148 yX13_goesTo ∈ WT := (wtm_7 173 (by decide +kernel) (by decide +kernel))
theorem ml_X13_161 : Cond.methodLink RX13 161 yX13_isEscorted ∈ WT := (wtm_7 177 (by decide +kernel) (by decide +kernel))
theorem ml_X13_177 : Cond.methodLink RX13 177 yX13_sends ∈ WT := (wtm_7 181 (by decide +kernel) (by decide +kernel))
theorem ml_L_166 : Cond.methodLink RL 166 yX13_advance ∈ WT := (wtm_7 185 (by decide +kernel) (by decide +kernel))
theorem ml_X13_197 : Cond.methodLink RX13 197 yX13_notAdvance ∈ WT := (wtm_7 189 (by decide +kernel) (by decide +kernel))
theorem ml_X13_200 : Cond.methodLink RX13 200 yX13_advances ∈ WT := (wtm_7 192 (by decide +kernel) (by decide +kernel))
theorem ml_X13_193 : Cond.methodLink RX13 193 yX13_hour ∈ WT := (wtm_7 196 (by decide +kernel) (by decide +kernel))
theorem ml_X13_186 : Cond.methodLink RX13 186 yX13_arrives ∈ WT := (wtm_7 200 (by decide +kernel) (by decide +kernel))
theorem ml_X13_190 : Cond.methodLink RX13 190 yX13_pays ∈ WT := (wtm_7 204 (by decide +kernel) (by decide +kernel))
theorem ml_X13_182 : Cond.methodLink RX13 182 yX13_note ∈ WT := (wtm_7 209 (by decide +kernel) (by decide +kernel))
theorem ml_L_169 : Cond.methodLink RL 169 yX13_refusal ∈ WT := (wtm_7 213 (by decide +kernel) (by decide +kernel))
theorem ml_L_172 : Cond.methodLink RL 172 yX13_crate ∈ WT := (wtm_7 217 (by decide +kernel) (by decide +kernel))
theorem ml_X13_206 : Cond.methodLink RX13 206 yX13_crateOf ∈ WT := (wtm_7 221 (by decide +kernel) (by decide +kernel))
theorem ml_X13_203 : Cond.methodLink RX13 203 yX13_cratesBelow ∈ WT := (wtm_7 225 (by decide +kernel) (by decide +kernel))
theorem ml_L_175 : Cond.methodLink RL 175 yX13_work ∈ WT := (wtm_7 229 (by decide +kernel) (by decide +kernel))
theorem ml_X13_212 : Cond.methodLink RX13 212 yX13_workOf ∈ WT := (wtm_7 233 (by decide +kernel) (by decide +kernel))
theorem ml_X13_209 : Cond.methodLink RX13 209 yX13_around ∈ WT := (wtm_7 237 (by decide +kernel) (by decide +kernel))
theorem ml_L_178 : Cond.methodLink RL 178 yX13_noted ∈ WT := (wtm_8 1 (by decide +kernel) (by decide +kernel))
theorem ml_X13_215 : Cond.methodLink RX13 215 yX13_notedOf ∈ WT := (wtm_8 5 (by decide +kernel) (by decide +kernel))
theorem ml_L_181 : Cond.methodLink RL 181 yX13_venue ∈ WT := (wtm_8 9 (by decide +kernel) (by decide +kernel))
theorem ml_X13_228 : Cond.methodLink RX13 228 yX13_venueOfWhat ∈ WT := (wtm_8 13 (by decide +kernel) (by decide +kernel))
theorem ml_X13_218 : Cond.methodLink RX13 218 yX13_valuesAt ∈ WT := (wtm_8 17 (by decide +kernel) (by decide +kernel))
theorem ml_X13_222 : Cond.methodLink RX13 222 yX13_cratesAt ∈ WT := (wtm_8 21 (by decide +kernel) (by decide +kernel))
theorem ml_X13_225 : Cond.methodLink RX13 225 yX13_couriersAt ∈ WT := (wtm_8 25 (by decide +kernel) (by decide +kernel))
theorem ml_L_184 : Cond.methodLink RL 184 yX13_courier ∈ WT := (wtm_8 29 (by decide +kernel) (by decide +kernel))
theorem ml_L_187 : Cond.methodLink RL 187 yX13_whole ∈ WT := (wtm_8 33 (by decide +kernel) (by decide +kernel))
theorem ml_X13_237 : Cond.methodLink RX13 237 yX13_wholeOf ∈ WT := (wtm_8 37 (by decide +kernel) (by decide +kernel))
theorem ml_X13_231 : Cond.methodLink RX13 231 yX13_onTheirWay ∈ WT := (wtm_8 41 (by decide +kernel) (by decide +kernel))
theorem ml_X13_234 : Cond.methodLink RX13 234 yX13_openCrates ∈ WT := (wtm_8 45 (by decide +kernel) (by decide +kernel))
theorem ml_L_190 : Cond.methodLink RL 190 yX13_readyAt ∈ WT := (wtm_8 49 (by decide +kernel) (by decide +kernel))
theorem ml_X13_243 : Cond.methodLink RX13 243 yX13_ready ∈ WT := (wtm_8 53 (by decide +kernel) (by decide +kernel))
theorem ml_X13_240 : Cond.methodLink RX13 240 yX13_greater ∈ WT := (wtm_8 57 (by decide +kernel) (by decide +kernel))
theorem ml_L_193 : Cond.methodLink RL 193 yX13_allReadyAt ∈ WT := (wtm_8 60 (by decide +kernel) (by decide +kernel))
theorem ml_X13_246 : Cond.methodLink RX13 246 yX13_allReady ∈ WT := (wtm_8 64 (by decide +kernel) (by decide +kernel))
theorem ml_L_196 : Cond.methodLink RL 196 yX13_bestVenue ∈ WT := (wtm_8 68 (by decide +kernel) (by decide +kernel))
theorem ml_X13_249 : Cond.methodLink RX13 249 yX13_readyBy ∈ WT := (wtm_8 72 (by decide +kernel) (by decide +kernel))
theorem ml_L_199 : Cond.methodLink RL 199 yX13_type ∈ WT := (wtm_8 76 (by decide +kernel) (by decide +kernel))
theorem ml_L_203 : Cond.methodLink RL 203 yX13_clearCommands ∈ WT := (wtm_8 80 (by decide +kernel) (by decide +kernel))
theorem ml_L_207 : Cond.methodLink RL 207 yX13_runCommands ∈ WT := (wtm_8 84 (by decide +kernel) (by decide +kernel))
theorem ml_X13_308 : Cond.methodLink RX13 308 yX13_isGood ∈ WT := (wtm_8 88 (by decide +kernel) (by decide +kernel))
theorem ml_X13_292 : Cond.methodLink RX13 292 yX13_skips ∈ WT := (wtm_8 92 (by decide +kernel) (by decide +kernel))
theorem ml_X13_258 : Cond.methodLink RX13 258 yX13_here ∈ WT := (wtm_8 96 (by decide +kernel) (by decide +kernel))
theorem ml_X13_305 : Cond.methodLink RX13 305 yX13_readCommand ∈ WT := (wtm_8 100 (by decide +kernel) (by decide +kernel))
theorem ml_X13_296 : Cond.methodLink RX13 296 yX13_readWord ∈ WT := (wtm_8 104 (by decide +kernel) (by decide +kernel))
theorem ml_X13_285 : Cond.methodLink RX13 285 yX13_commandOf ∈ WT := (wtm_8 111 (by decide +kernel) (by decide +kernel))
theorem ml_X13_299 : Cond.methodLink RX13 299 yX13_manyFor ∈ WT := (wtm_8 123 (by decide +kernel) (by decide +kernel))
theorem ml_X13_302 : Cond.methodLink RX13 302 yX13_readNumber ∈ WT := (wtm_8 127 (by decide +kernel) (by decide +kernel))
theorem ml_X13_311 : Cond.methodLink RX13 311 yX13_whyNot ∈ WT := (wtm_8 131 (by decide +kernel) (by decide +kernel))
theorem ml_X13_314 : Cond.methodLink RX13 314 yX13_carryOut ∈ WT := (wtm_8 135 (by decide +kernel) (by decide +kernel))
theorem ml_L_211 : Cond.methodLink RL 211 yX13_undo ∈ WT := (wtm_8 139 (by decide +kernel) (by decide +kernel))
theorem ml_L_216 : Cond.methodLink RL 216 yX13_digest ∈ WT := (wtm_8 143 (by decide +kernel) (by decide +kernel))
theorem ml_X13_323 : Cond.methodLink RX13 323 yX13_mix ∈ WT := (wtm_8 148 (by decide +kernel) (by decide +kernel))
theorem ml_X13_329 : Cond.methodLink RX13 329 yX13_mixWork ∈ WT := (wtm_8 153 (by decide +kernel) (by decide +kernel))
theorem fl_X9_15 : Cond.fieldLink RX9 15 "CrateTour$Venue" "temperature" "I" ∈ WT := (wtm_1 55 (by decide +kernel) (by decide +kernel))
theorem fl_X4_25 : Cond.fieldLink RX4 25 "CrateTour$Venue" "temperature" "I" ∈ WT := (wtm_1 56 (by decide +kernel) (by decide +kernel))
theorem fl_X3_43 : Cond.fieldLink RX3 43 "CrateTour$Venue" "temperature" "I" ∈ WT := (wtm_1 57 (by decide +kernel) (by decide +kernel))
theorem fl_X8_111 : Cond.fieldLink RX8 111 "CrateTour$Venue" "temperature" "I" ∈ WT := (wtm_1 58 (by decide +kernel) (by decide +kernel))
theorem fl_X1_184 : Cond.fieldLink RX1 184 "CrateTour$Venue" "temperature" "I" ∈ WT := (wtm_1 59 (by decide +kernel) (by decide +kernel))
theorem fl_X9_19 : Cond.fieldLink RX9 19 "CrateTour$Venue" "humidity" "I" ∈ WT := (wtm_1 60 (by decide +kernel) (by decide +kernel))
theorem fl_X4_30 : Cond.fieldLink RX4 30 "CrateTour$Venue" "humidity" "I" ∈ WT := (wtm_1 61 (by decide +kernel) (by decide +kernel))
theorem fl_X3_52 : Cond.fieldLink RX3 52 "CrateTour$Venue" "humidity" "I" ∈ WT := (wtm_1 62 (by decide +kernel) (by decide +kernel))
theorem fl_X8_116 : Cond.fieldLink RX8 116 "CrateTour$Venue" "humidity" "I" ∈ WT := (wtm_1 63 (by decide +kernel) (by decide +kernel))
theorem fl_X1_187 : Cond.fieldLink RX1 187 "CrateTour$Venue" "humidity" "I" ∈ WT := (wtm_1 64 (by decide +kernel) (by decide +kernel))
theorem fl_X9_22 : Cond.fieldLink RX9 22 "CrateTour$Venue" "rate" "I" ∈ WT := (wtm_1 65 (by decide +kernel) (by decide +kernel))
theorem fl_X4_33 : Cond.fieldLink RX4 33 "CrateTour$Venue" "rate" "I" ∈ WT := (wtm_1 66 (by decide +kernel) (by decide +kernel))
theorem fl_X8_119 : Cond.fieldLink RX8 119 "CrateTour$Venue" "rate" "I" ∈ WT := (wtm_1 67 (by decide +kernel) (by decide +kernel))
theorem fl_X9_25 : Cond.fieldLink RX9 25 "CrateTour$Venue" "cap" "I" ∈ WT := (wtm_1 68 (by decide +kernel) (by decide +kernel))
theorem fl_X4_36 : Cond.fieldLink RX4 36 "CrateTour$Venue" "cap" "I" ∈ WT := (wtm_1 69 (by decide +kernel) (by decide +kernel))
theorem fl_X8_122 : Cond.fieldLink RX8 122 "CrateTour$Venue" "cap" "I" ∈ WT := (wtm_1 70 (by decide +kernel) (by decide +kernel))
theorem fl_X1_166 : Cond.fieldLink RX1 166 "CrateTour$Venue" "cap" "I" ∈ WT := (wtm_1 71 (by decide +kernel) (by decide +kernel))
theorem fl_X9_28 : Cond.fieldLink RX9 28 "CrateTour$Venue" "paid" "I" ∈ WT := (wtm_1 72 (by decide +kernel) (by decide +kernel))
theorem fl_X8_137 : Cond.fieldLink RX8 137 "CrateTour$Venue" "paid" "I" ∈ WT := (wtm_1 73 (by decide +kernel) (by decide +kernel))
theorem fl_X4_170 : Cond.fieldLink RX4 170 "CrateTour$Venue" "paid" "I" ∈ WT := (wtm_1 74 (by decide +kernel) (by decide +kernel))
theorem fl_X9_9 : Cond.fieldLink RX9 9 "CrateTour$Venue" "hoursTo" "[I" ∈ WT := (wtm_1 75 (by decide +kernel) (by decide +kernel))
theorem fl_X4_39 : Cond.fieldLink RX4 39 "CrateTour$Venue" "hoursTo" "[I" ∈ WT := (wtm_1 76 (by decide +kernel) (by decide +kernel))
theorem fl_X6_92 : Cond.fieldLink RX6 92 "CrateTour$Venue" "hoursTo" "[I" ∈ WT := (wtm_1 77 (by decide +kernel) (by decide +kernel))
theorem fl_X3_9 : Cond.fieldLink RX3 9 "CrateTour$Crate" "insulation" "I" ∈ WT := (wtm_1 97 (by decide +kernel) (by decide +kernel))
theorem fl_X8_25 : Cond.fieldLink RX8 25 "CrateTour$Crate" "insulation" "I" ∈ WT := (wtm_1 98 (by decide +kernel) (by decide +kernel))
theorem fl_X4_63 : Cond.fieldLink RX4 63 "CrateTour$Crate" "insulation" "I" ∈ WT := (wtm_1 99 (by decide +kernel) (by decide +kernel))
theorem fl_X3_15 : Cond.fieldLink RX3 15 "CrateTour$Crate" "isOpen" "Z" ∈ WT := (wtm_1 100 (by decide +kernel) (by decide +kernel))
theorem fl_X8_31 : Cond.fieldLink RX8 31 "CrateTour$Crate" "isOpen" "Z" ∈ WT := (wtm_1 101 (by decide +kernel) (by decide +kernel))
theorem fl_X5_101 : Cond.fieldLink RX5 101 "CrateTour$Crate" "isOpen" "Z" ∈ WT := (wtm_1 102 (by decide +kernel) (by decide +kernel))
theorem fl_X4_68 : Cond.fieldLink RX4 68 "CrateTour$Crate" "isOpen" "Z" ∈ WT := (wtm_1 103 (by decide +kernel) (by decide +kernel))
theorem fl_X1_61 : Cond.fieldLink RX1 61 "CrateTour$Crate" "isOpen" "Z" ∈ WT := (wtm_1 104 (by decide +kernel) (by decide +kernel))
theorem fl_X6_104 : Cond.fieldLink RX6 104 "CrateTour$Crate" "isOpen" "Z" ∈ WT := (wtm_1 105 (by decide +kernel) (by decide +kernel))
theorem fl_X3_19 : Cond.fieldLink RX3 19 "CrateTour$Crate" "holder" "I" ∈ WT := (wtm_1 106 (by decide +kernel) (by decide +kernel))
theorem fl_X8_39 : Cond.fieldLink RX8 39 "CrateTour$Crate" "holder" "I" ∈ WT := (wtm_1 107 (by decide +kernel) (by decide +kernel))
theorem fl_X5_116 : Cond.fieldLink RX5 116 "CrateTour$Crate" "holder" "I" ∈ WT := (wtm_1 108 (by decide +kernel) (by decide +kernel))
theorem fl_X6_95 : Cond.fieldLink RX6 95 "CrateTour$Crate" "holder" "I" ∈ WT := (wtm_1 109 (by decide +kernel) (by decide +kernel))
theorem fl_X4_103 : Cond.fieldLink RX4 103 "CrateTour$Crate" "holder" "I" ∈ WT := (wtm_1 110 (by decide +kernel) (by decide +kernel))
theorem fl_X1_76 : Cond.fieldLink RX1 76 "CrateTour$Crate" "holder" "I" ∈ WT := (wtm_1 111 (by decide +kernel) (by decide +kernel))
theorem fl_X3_22 : Cond.fieldLink RX3 22 "CrateTour$Crate" "venue" "I" ∈ WT := (wtm_1 112 (by decide +kernel) (by decide +kernel))
theorem fl_X5_62 : Cond.fieldLink RX5 62 "CrateTour$Crate" "venue" "I" ∈ WT := (wtm_1 113 (by decide +kernel) (by decide +kernel))
theorem fl_X8_42 : Cond.fieldLink RX8 42 "CrateTour$Crate" "venue" "I" ∈ WT := (wtm_1 114 (by decide +kernel) (by decide +kernel))
theorem fl_X6_101 : Cond.fieldLink RX6 101 "CrateTour$Crate" "venue" "I" ∈ WT := (wtm_1 115 (by decide +kernel) (by decide +kernel))
theorem fl_X4_134 : Cond.fieldLink RX4 134 "CrateTour$Crate" "venue" "I" ∈ WT := (wtm_1 116 (by decide +kernel) (by decide +kernel))
theorem fl_X1_128 : Cond.fieldLink RX1 128 "CrateTour$Crate" "venue" "I" ∈ WT := (wtm_1 117 (by decide +kernel) (by decide +kernel))
theorem fl_X3_25 : Cond.fieldLink RX3 25 "CrateTour$Crate" "goal" "I" ∈ WT := (wtm_1 118 (by decide +kernel) (by decide +kernel))
theorem fl_X5_50 : Cond.fieldLink RX5 50 "CrateTour$Crate" "goal" "I" ∈ WT := (wtm_1 119 (by decide +kernel) (by decide +kernel))
theorem fl_X8_45 : Cond.fieldLink RX8 45 "CrateTour$Crate" "goal" "I" ∈ WT := (wtm_1 120 (by decide +kernel) (by decide +kernel))
theorem fl_X6_116 : Cond.fieldLink RX6 116 "CrateTour$Crate" "goal" "I" ∈ WT := (wtm_1 121 (by decide +kernel) (by decide +kernel))
theorem fl_X4_142 : Cond.fieldLink RX4 142 "CrateTour$Crate" "goal" "I" ∈ WT := (wtm_1 122 (by decide +kernel) (by decide +kernel))
theorem fl_X1_125 : Cond.fieldLink RX1 125 "CrateTour$Crate" "goal" "I" ∈ WT := (wtm_1 123 (by decide +kernel) (by decide +kernel))
theorem fl_X3_28 : Cond.fieldLink RX3 28 "CrateTour$Crate" "arrival" "I" ∈ WT := (wtm_1 124 (by decide +kernel) (by decide +kernel))
theorem fl_X5_55 : Cond.fieldLink RX5 55 "CrateTour$Crate" "arrival" "I" ∈ WT := (wtm_1 125 (by decide +kernel) (by decide +kernel))
theorem fl_X8_48 : Cond.fieldLink RX8 48 "CrateTour$Crate" "arrival" "I" ∈ WT := (wtm_1 126 (by decide +kernel) (by decide +kernel))
theorem fl_X4_139 : Cond.fieldLink RX4 139 "CrateTour$Crate" "arrival" "I" ∈ WT := (wtm_1 127 (by decide +kernel) (by decide +kernel))
theorem fl_X3_31 : Cond.fieldLink RX3 31 "CrateTour$Crate" "companion" "I" ∈ WT := (wtm_1 128 (by decide +kernel) (by decide +kernel))
theorem fl_X4_145 : Cond.fieldLink RX4 145 "CrateTour$Crate" "companion" "I" ∈ WT := (wtm_1 129 (by decide +kernel) (by decide +kernel))
theorem fl_X3_34 : Cond.fieldLink RX3 34 "CrateTour$Crate" "temperature" "I" ∈ WT := (wtm_1 130 (by decide +kernel) (by decide +kernel))
theorem fl_X8_170 : Cond.fieldLink RX8 170 "CrateTour$Crate" "temperature" "I" ∈ WT := (wtm_1 131 (by decide +kernel) (by decide +kernel))
theorem fl_X4_123 : Cond.fieldLink RX4 123 "CrateTour$Crate" "temperature" "I" ∈ WT := (wtm_1 132 (by decide +kernel) (by decide +kernel))
theorem fl_X3_37 : Cond.fieldLink RX3 37 "CrateTour$Crate" "humidity" "I" ∈ WT := (wtm_1 133 (by decide +kernel) (by decide +kernel))
theorem fl_X8_171 : Cond.fieldLink RX8 171 "CrateTour$Crate" "humidity" "I" ∈ WT := (wtm_1 134 (by decide +kernel) (by decide +kernel))
theorem fl_X4_124 : Cond.fieldLink RX4 124 "CrateTour$Crate" "humidity" "I" ∈ WT := (wtm_1 135 (by decide +kernel) (by decide +kernel))
theorem fl_X3_40 : Cond.fieldLink RX3 40 "CrateTour$Crate" "waitsSince" "I" ∈ WT := (wtm_1 136 (by decide +kernel) (by decide +kernel))
theorem fl_X8_58 : Cond.fieldLink RX8 58 "CrateTour$Crate" "waitsSince" "I" ∈ WT := (wtm_1 137 (by decide +kernel) (by decide +kernel))
theorem fl_X5_105 : Cond.fieldLink RX5 105 "CrateTour$Crate" "waitsSince" "I" ∈ WT := (wtm_1 138 (by decide +kernel) (by decide +kernel))
theorem fl_X4_109 : Cond.fieldLink RX4 109 "CrateTour$Crate" "waitsSince" "I" ∈ WT := (wtm_1 139 (by decide +kernel) (by decide +kernel))
theorem fl_X1_193 : Cond.fieldLink RX1 193 "CrateTour$Crate" "waitsSince" "I" ∈ WT := (wtm_1 140 (by decide +kernel) (by decide +kernel))
theorem fl_X11_15 : Cond.fieldLink RX11 15 "CrateTour$Work" "lender" "I" ∈ WT := (wtm_1 167 (by decide +kernel) (by decide +kernel))
theorem fl_X8_81 : Cond.fieldLink RX8 81 "CrateTour$Work" "lender" "I" ∈ WT := (wtm_1 168 (by decide +kernel) (by decide +kernel))
theorem fl_X4_83 : Cond.fieldLink RX4 83 "CrateTour$Work" "lender" "I" ∈ WT := (wtm_1 169 (by decide +kernel) (by decide +kernel))
theorem fl_X1_142 : Cond.fieldLink RX1 142 "CrateTour$Work" "lender" "I" ∈ WT := (wtm_1 170 (by decide +kernel) (by decide +kernel))
theorem fl_X11_19 : Cond.fieldLink RX11 19 "CrateTour$Work" "value" "I" ∈ WT := (wtm_1 171 (by decide +kernel) (by decide +kernel))
theorem fl_X8_86 : Cond.fieldLink RX8 86 "CrateTour$Work" "value" "I" ∈ WT := (wtm_1 172 (by decide +kernel) (by decide +kernel))
theorem fl_X4_88 : Cond.fieldLink RX4 88 "CrateTour$Work" "value" "I" ∈ WT := (wtm_1 173 (by decide +kernel) (by decide +kernel))
theorem fl_X6_123 : Cond.fieldLink RX6 123 "CrateTour$Work" "value" "I" ∈ WT := (wtm_1 174 (by decide +kernel) (by decide +kernel))
theorem fl_X11_22 : Cond.fieldLink RX11 22 "CrateTour$Work" "legs" "I" ∈ WT := (wtm_1 175 (by decide +kernel) (by decide +kernel))
theorem fl_X8_89 : Cond.fieldLink RX8 89 "CrateTour$Work" "legs" "I" ∈ WT := (wtm_1 176 (by decide +kernel) (by decide +kernel))
theorem fl_X4_91 : Cond.fieldLink RX4 91 "CrateTour$Work" "legs" "I" ∈ WT := (wtm_1 177 (by decide +kernel) (by decide +kernel))
theorem fl_X1_135 : Cond.fieldLink RX1 135 "CrateTour$Work" "legs" "I" ∈ WT := (wtm_1 178 (by decide +kernel) (by decide +kernel))
theorem fl_X11_25 : Cond.fieldLink RX11 25 "CrateTour$Work" "escorted" "Z" ∈ WT := (wtm_1 179 (by decide +kernel) (by decide +kernel))
theorem fl_X8_92 : Cond.fieldLink RX8 92 "CrateTour$Work" "escorted" "Z" ∈ WT := (wtm_1 180 (by decide +kernel) (by decide +kernel))
theorem fl_X4_94 : Cond.fieldLink RX4 94 "CrateTour$Work" "escorted" "Z" ∈ WT := (wtm_1 181 (by decide +kernel) (by decide +kernel))
theorem fl_X1_181 : Cond.fieldLink RX1 181 "CrateTour$Work" "escorted" "Z" ∈ WT := (wtm_1 182 (by decide +kernel) (by decide +kernel))
theorem fl_X5_29 : Cond.fieldLink RX5 29 "CrateTour$Work" "crate" "I" ∈ WT := (wtm_1 183 (by decide +kernel) (by decide +kernel))
theorem fl_X11_29 : Cond.fieldLink RX11 29 "CrateTour$Work" "crate" "I" ∈ WT := (wtm_1 184 (by decide +kernel) (by decide +kernel))
theorem fl_X8_95 : Cond.fieldLink RX8 95 "CrateTour$Work" "crate" "I" ∈ WT := (wtm_1 185 (by decide +kernel) (by decide +kernel))
theorem fl_X4_97 : Cond.fieldLink RX4 97 "CrateTour$Work" "crate" "I" ∈ WT := (wtm_1 186 (by decide +kernel) (by decide +kernel))
theorem fl_X6_112 : Cond.fieldLink RX6 112 "CrateTour$Work" "crate" "I" ∈ WT := (wtm_1 187 (by decide +kernel) (by decide +kernel))
theorem fl_X1_86 : Cond.fieldLink RX1 86 "CrateTour$Work" "crate" "I" ∈ WT := (wtm_1 188 (by decide +kernel) (by decide +kernel))
theorem fl_X11_32 : Cond.fieldLink RX11 32 "CrateTour$Work" "venue" "I" ∈ WT := (wtm_1 189 (by decide +kernel) (by decide +kernel))
theorem fl_X4_100 : Cond.fieldLink RX4 100 "CrateTour$Work" "venue" "I" ∈ WT := (wtm_1 190 (by decide +kernel) (by decide +kernel))
theorem fl_X6_115 : Cond.fieldLink RX6 115 "CrateTour$Work" "venue" "I" ∈ WT := (wtm_1 191 (by decide +kernel) (by decide +kernel))
theorem fl_X1_95 : Cond.fieldLink RX1 95 "CrateTour$Work" "venue" "I" ∈ WT := (wtm_1 192 (by decide +kernel) (by decide +kernel))
theorem fl_X11_35 : Cond.fieldLink RX11 35 "CrateTour$Work" "paid" "I" ∈ WT := (wtm_1 193 (by decide +kernel) (by decide +kernel))
theorem fl_X8_104 : Cond.fieldLink RX8 104 "CrateTour$Work" "paid" "I" ∈ WT := (wtm_1 194 (by decide +kernel) (by decide +kernel))
theorem fl_X4_179 : Cond.fieldLink RX4 179 "CrateTour$Work" "paid" "I" ∈ WT := (wtm_1 195 (by decide +kernel) (by decide +kernel))
theorem fl_X11_38 : Cond.fieldLink RX11 38 "CrateTour$Work" "placesKept" "I" ∈ WT := (wtm_1 196 (by decide +kernel) (by decide +kernel))
theorem fl_X11_9 : Cond.fieldLink RX11 9 "CrateTour$Work" "places" "[I" ∈ WT := (wtm_1 197 (by decide +kernel) (by decide +kernel))
theorem fl_X6_45 : Cond.fieldLink RX6 45 "CrateTour$State" "time" "I" ∈ WT := (wtm_1 217 (by decide +kernel) (by decide +kernel))
theorem fl_X5_39 : Cond.fieldLink RX5 39 "CrateTour$State" "time" "I" ∈ WT := (wtm_1 218 (by decide +kernel) (by decide +kernel))
theorem fl_X8_138 : Cond.fieldLink RX8 138 "CrateTour$State" "time" "I" ∈ WT := (wtm_1 219 (by decide +kernel) (by decide +kernel))
theorem fl_X4_106 : Cond.fieldLink RX4 106 "CrateTour$State" "time" "I" ∈ WT := (wtm_1 220 (by decide +kernel) (by decide +kernel))
theorem fl_X1_190 : Cond.fieldLink RX1 190 "CrateTour$State" "time" "I" ∈ WT := (wtm_1 221 (by decide +kernel) (by decide +kernel))
theorem fl_X6_9 : Cond.fieldLink RX6 9 "CrateTour$State" "wayRate" "I" ∈ WT := (wtm_1 222 (by decide +kernel) (by decide +kernel))
theorem fl_X4_47 : Cond.fieldLink RX4 47 "CrateTour$State" "wayRate" "I" ∈ WT := (wtm_1 223 (by decide +kernel) (by decide +kernel))
theorem fl_X6_48 : Cond.fieldLink RX6 48 "CrateTour$State" "paid" "I" ∈ WT := (wtm_1 224 (by decide +kernel) (by decide +kernel))
theorem fl_X8_153 : Cond.fieldLink RX8 153 "CrateTour$State" "paid" "I" ∈ WT := (wtm_1 225 (by decide +kernel) (by decide +kernel))
theorem fl_X4_180 : Cond.fieldLink RX4 180 "CrateTour$State" "paid" "I" ∈ WT := (wtm_1 226 (by decide +kernel) (by decide +kernel))
theorem fl_X6_51 : Cond.fieldLink RX6 51 "CrateTour$State" "paidForWays" "I" ∈ WT := (wtm_1 227 (by decide +kernel) (by decide +kernel))
theorem fl_X8_154 : Cond.fieldLink RX8 154 "CrateTour$State" "paidForWays" "I" ∈ WT := (wtm_1 228 (by decide +kernel) (by decide +kernel))
theorem fl_X4_176 : Cond.fieldLink RX4 176 "CrateTour$State" "paidForWays" "I" ∈ WT := (wtm_1 229 (by decide +kernel) (by decide +kernel))
theorem fl_X6_54 : Cond.fieldLink RX6 54 "CrateTour$State" "arrived" "I" ∈ WT := (wtm_1 230 (by decide +kernel) (by decide +kernel))
theorem fl_X8_157 : Cond.fieldLink RX8 157 "CrateTour$State" "arrived" "I" ∈ WT := (wtm_1 231 (by decide +kernel) (by decide +kernel))
theorem fl_X4_151 : Cond.fieldLink RX4 151 "CrateTour$State" "arrived" "I" ∈ WT := (wtm_1 232 (by decide +kernel) (by decide +kernel))
theorem fl_X4_15 : Cond.fieldLink RX4 15 "CrateTour$State" "venueCount" "I" ∈ WT := (wtm_1 233 (by decide +kernel) (by decide +kernel))
theorem fl_X6_57 : Cond.fieldLink RX6 57 "CrateTour$State" "venueCount" "I" ∈ WT := (wtm_1 234 (by decide +kernel) (by decide +kernel))
theorem fl_X1_24 : Cond.fieldLink RX1 24 "CrateTour$State" "venueCount" "I" ∈ WT := (wtm_1 235 (by decide +kernel) (by decide +kernel))
theorem fl_X5_81 : Cond.fieldLink RX5 81 "CrateTour$State" "venueCount" "I" ∈ WT := (wtm_1 236 (by decide +kernel) (by decide +kernel))
theorem fl_X8_141 : Cond.fieldLink RX8 141 "CrateTour$State" "venueCount" "I" ∈ WT := (wtm_1 237 (by decide +kernel) (by decide +kernel))
theorem fl_X12_301 : Cond.fieldLink RX12 301 "CrateTour$State" "venueCount" "I" ∈ WT := (wtm_1 238 (by decide +kernel) (by decide +kernel))
theorem fl_X6_60 : Cond.fieldLink RX6 60 "CrateTour$State" "crateCount" "I" ∈ WT := (wtm_1 239 (by decide +kernel) (by decide +kernel))
theorem fl_X8_144 : Cond.fieldLink RX8 144 "CrateTour$State" "crateCount" "I" ∈ WT := (wtm_2 0 (by decide +kernel) (by decide +kernel))
theorem fl_X4_56 : Cond.fieldLink RX4 56 "CrateTour$State" "crateCount" "I" ∈ WT := (wtm_2 1 (by decide +kernel) (by decide +kernel))
theorem fl_X1_44 : Cond.fieldLink RX1 44 "CrateTour$State" "crateCount" "I" ∈ WT := (wtm_2 2 (by decide +kernel) (by decide +kernel))
theorem fl_X12_304 : Cond.fieldLink RX12 304 "CrateTour$State" "crateCount" "I" ∈ WT := (wtm_2 3 (by decide +kernel) (by decide +kernel))
theorem fl_X6_63 : Cond.fieldLink RX6 63 "CrateTour$State" "workCount" "I" ∈ WT := (wtm_2 4 (by decide +kernel) (by decide +kernel))
theorem fl_X5_65 : Cond.fieldLink RX5 65 "CrateTour$State" "workCount" "I" ∈ WT := (wtm_2 5 (by decide +kernel) (by decide +kernel))
theorem fl_X8_147 : Cond.fieldLink RX8 147 "CrateTour$State" "workCount" "I" ∈ WT := (wtm_2 6 (by decide +kernel) (by decide +kernel))
theorem fl_X4_76 : Cond.fieldLink RX4 76 "CrateTour$State" "workCount" "I" ∈ WT := (wtm_2 7 (by decide +kernel) (by decide +kernel))
theorem fl_X1_48 : Cond.fieldLink RX1 48 "CrateTour$State" "workCount" "I" ∈ WT := (wtm_2 8 (by decide +kernel) (by decide +kernel))
theorem fl_X12_307 : Cond.fieldLink RX12 307 "CrateTour$State" "workCount" "I" ∈ WT := (wtm_2 9 (by decide +kernel) (by decide +kernel))
theorem fl_X6_66 : Cond.fieldLink RX6 66 "CrateTour$State" "courierCount" "I" ∈ WT := (wtm_2 10 (by decide +kernel) (by decide +kernel))
theorem fl_X8_150 : Cond.fieldLink RX8 150 "CrateTour$State" "courierCount" "I" ∈ WT := (wtm_2 11 (by decide +kernel) (by decide +kernel))
theorem fl_X4_50 : Cond.fieldLink RX4 50 "CrateTour$State" "courierCount" "I" ∈ WT := (wtm_2 12 (by decide +kernel) (by decide +kernel))
theorem fl_X1_41 : Cond.fieldLink RX1 41 "CrateTour$State" "courierCount" "I" ∈ WT := (wtm_2 13 (by decide +kernel) (by decide +kernel))
theorem fl_X12_298 : Cond.fieldLink RX12 298 "CrateTour$State" "courierCount" "I" ∈ WT := (wtm_2 14 (by decide +kernel) (by decide +kernel))
theorem fl_X6_17 : Cond.fieldLink RX6 17 "CrateTour$State" "venues" "[LCrateTour$Venue;" ∈ WT := (wtm_2 15 (by decide +kernel) (by decide +kernel))
theorem fl_X4_21 : Cond.fieldLink RX4 21 "CrateTour$State" "venues" "[LCrateTour$Venue;" ∈ WT := (wtm_2 16 (by decide +kernel) (by decide +kernel))
theorem fl_X8_107 : Cond.fieldLink RX8 107 "CrateTour$State" "venues" "[LCrateTour$Venue;" ∈ WT := (wtm_2 17 (by decide +kernel) (by decide +kernel))
theorem fl_X5_108 : Cond.fieldLink RX5 108 "CrateTour$State" "venues" "[LCrateTour$Venue;" ∈ WT := (wtm_2 18 (by decide +kernel) (by decide +kernel))
theorem fl_X1_149 : Cond.fieldLink RX1 149 "CrateTour$State" "venues" "[LCrateTour$Venue;" ∈ WT := (wtm_2 19 (by decide +kernel) (by decide +kernel))
theorem fl_X6_23 : Cond.fieldLink RX6 23 "CrateTour$State" "crates" "[LCrateTour$Crate;" ∈ WT := (wtm_2 20 (by decide +kernel) (by decide +kernel))
theorem fl_X8_15 : Cond.fieldLink RX8 15 "CrateTour$State" "crates" "[LCrateTour$Crate;" ∈ WT := (wtm_2 21 (by decide +kernel) (by decide +kernel))
theorem fl_X5_42 : Cond.fieldLink RX5 42 "CrateTour$State" "crates" "[LCrateTour$Crate;" ∈ WT := (wtm_2 22 (by decide +kernel) (by decide +kernel))
theorem fl_X4_59 : Cond.fieldLink RX4 59 "CrateTour$State" "crates" "[LCrateTour$Crate;" ∈ WT := (wtm_2 23 (by decide +kernel) (by decide +kernel))
theorem fl_X1_57 : Cond.fieldLink RX1 57 "CrateTour$State" "crates" "[LCrateTour$Crate;" ∈ WT := (wtm_2 24 (by decide +kernel) (by decide +kernel))
theorem fl_X6_29 : Cond.fieldLink RX6 29 "CrateTour$State" "works" "[LCrateTour$Work;" ∈ WT := (wtm_2 25 (by decide +kernel) (by decide +kernel))
theorem fl_X5_23 : Cond.fieldLink RX5 23 "CrateTour$State" "works" "[LCrateTour$Work;" ∈ WT := (wtm_2 26 (by decide +kernel) (by decide +kernel))
theorem fl_X8_77 : Cond.fieldLink RX8 77 "CrateTour$State" "works" "[LCrateTour$Work;" ∈ WT := (wtm_2 27 (by decide +kernel) (by decide +kernel))
theorem fl_X4_79 : Cond.fieldLink RX4 79 "CrateTour$State" "works" "[LCrateTour$Work;" ∈ WT := (wtm_2 28 (by decide +kernel) (by decide +kernel))
theorem fl_X1_82 : Cond.fieldLink RX1 82 "CrateTour$State" "works" "[LCrateTour$Work;" ∈ WT := (wtm_2 29 (by decide +kernel) (by decide +kernel))
theorem fl_X12_196 : Cond.fieldLink RX12 196 "CrateTour$State" "works" "[LCrateTour$Work;" ∈ WT := (wtm_2 30 (by decide +kernel) (by decide +kernel))
theorem fl_X6_33 : Cond.fieldLink RX6 33 "CrateTour$State" "couriers" "[I" ∈ WT := (wtm_2 31 (by decide +kernel) (by decide +kernel))
theorem fl_X4_53 : Cond.fieldLink RX4 53 "CrateTour$State" "couriers" "[I" ∈ WT := (wtm_2 32 (by decide +kernel) (by decide +kernel))
theorem fl_X8_176 : Cond.fieldLink RX8 176 "CrateTour$State" "couriers" "[I" ∈ WT := (wtm_2 33 (by decide +kernel) (by decide +kernel))
theorem fl_X12_218 : Cond.fieldLink RX12 218 "CrateTour$State" "couriers" "[I" ∈ WT := (wtm_2 34 (by decide +kernel) (by decide +kernel))
theorem fl_X1_177 : Cond.fieldLink RX1 177 "CrateTour$State" "couriers" "[I" ∈ WT := (wtm_2 35 (by decide +kernel) (by decide +kernel))
theorem fl_X6_39 : Cond.fieldLink RX6 39 "CrateTour$State" "lenders" "[[I" ∈ WT := (wtm_2 36 (by decide +kernel) (by decide +kernel))
theorem fl_X4_43 : Cond.fieldLink RX4 43 "CrateTour$State" "lenders" "[[I" ∈ WT := (wtm_2 37 (by decide +kernel) (by decide +kernel))
theorem fl_X1_138 : Cond.fieldLink RX1 138 "CrateTour$State" "lenders" "[[I" ∈ WT := (wtm_2 38 (by decide +kernel) (by decide +kernel))
theorem fl_X1_9 : Cond.fieldLink RX1 9 "CrateTour$Checks" "state" "LCrateTour$State;" ∈ WT := (wtm_2 74 (by decide +kernel) (by decide +kernel))
theorem fl_X4_9 : Cond.fieldLink RX4 9 "CrateTour$Deeds" "state" "LCrateTour$State;" ∈ WT := (wtm_2 84 (by decide +kernel) (by decide +kernel))
theorem fl_X8_9 : Cond.fieldLink RX8 9 "CrateTour$Values" "state" "LCrateTour$State;" ∈ WT := (wtm_2 94 (by decide +kernel) (by decide +kernel))
theorem fl_X5_15 : Cond.fieldLink RX5 15 "CrateTour$Forecast" "state" "LCrateTour$State;" ∈ WT := (wtm_2 104 (by decide +kernel) (by decide +kernel))
theorem fl_X5_19 : Cond.fieldLink RX5 19 "CrateTour$Forecast" "checks" "LCrateTour$Checks;" ∈ WT := (wtm_2 105 (by decide +kernel) (by decide +kernel))
theorem fl_X5_9 : Cond.fieldLink RX5 9 "CrateTour$Forecast" "around" "[I" ∈ WT := (wtm_2 106 (by decide +kernel) (by decide +kernel))
theorem fl_X7_11 : Cond.fieldLink RX7 11 "CrateTour$UndoStack" "states" "[LCrateTour$State;" ∈ WT := (wtm_2 123 (by decide +kernel) (by decide +kernel))
theorem fl_X7_18 : Cond.fieldLink RX7 18 "CrateTour$UndoStack" "count" "I" ∈ WT := (wtm_2 124 (by decide +kernel) (by decide +kernel))
theorem fl_X12_275 : Cond.fieldLink RX12 275 "CrateTour$UndoStack" "count" "I" ∈ WT := (wtm_2 125 (by decide +kernel) (by decide +kernel))
theorem fl_X2_19 : Cond.fieldLink RX2 19 "CrateTour$Word" "OPEN" "LCrateTour$Word;" ∈ WT := (wtm_2 137 (by decide +kernel) (by decide +kernel))
theorem fl_X2_9 : Cond.fieldLink RX2 9 "CrateTour$CommandText" "bytes" "[B" ∈ WT := (wtm_2 139 (by decide +kernel) (by decide +kernel))
theorem fl_X2_32 : Cond.fieldLink RX2 32 "CrateTour$CommandText" "length" "I" ∈ WT := (wtm_2 140 (by decide +kernel) (by decide +kernel))
theorem fl_X12_237 : Cond.fieldLink RX12 237 "CrateTour$CommandText" "length" "I" ∈ WT := (wtm_2 141 (by decide +kernel) (by decide +kernel))
theorem fl_X2_42 : Cond.fieldLink RX2 42 "CrateTour$CommandText" "position" "I" ∈ WT := (wtm_2 142 (by decide +kernel) (by decide +kernel))
theorem fl_X2_15 : Cond.fieldLink RX2 15 "CrateTour$CommandText" "fault" "I" ∈ WT := (wtm_2 143 (by decide +kernel) (by decide +kernel))
theorem fl_X2_25 : Cond.fieldLink RX2 25 "CrateTour$CommandText" "word" "LCrateTour$Word;" ∈ WT := (wtm_2 144 (by decide +kernel) (by decide +kernel))
theorem fl_X12_261 : Cond.fieldLink RX12 261 "CrateTour$CommandText" "word" "LCrateTour$Word;" ∈ WT := (wtm_2 145 (by decide +kernel) (by decide +kernel))
theorem fl_X2_28 : Cond.fieldLink RX2 28 "CrateTour$CommandText" "numbers" "[I" ∈ WT := (wtm_2 146 (by decide +kernel) (by decide +kernel))
theorem fl_X12_265 : Cond.fieldLink RX12 265 "CrateTour$CommandText" "numbers" "[I" ∈ WT := (wtm_2 147 (by decide +kernel) (by decide +kernel))
theorem fl_X12_10 : Cond.fieldLink RX12 10 "CrateTour" "state" "LCrateTour$State;" ∈ WT := (wtm_2 162 (by decide +kernel) (by decide +kernel))
theorem fl_X12_21 : Cond.fieldLink RX12 21 "CrateTour" "checks" "LCrateTour$Checks;" ∈ WT := (wtm_2 163 (by decide +kernel) (by decide +kernel))
theorem fl_X12_28 : Cond.fieldLink RX12 28 "CrateTour" "deeds" "LCrateTour$Deeds;" ∈ WT := (wtm_2 164 (by decide +kernel) (by decide +kernel))
theorem fl_X12_35 : Cond.fieldLink RX12 35 "CrateTour" "values" "LCrateTour$Values;" ∈ WT := (wtm_2 165 (by decide +kernel) (by decide +kernel))
theorem fl_X12_44 : Cond.fieldLink RX12 44 "CrateTour" "forecast" "LCrateTour$Forecast;" ∈ WT := (wtm_2 166 (by decide +kernel) (by decide +kernel))
theorem fl_X12_51 : Cond.fieldLink RX12 51 "CrateTour" "saved" "LCrateTour$UndoStack;" ∈ WT := (wtm_2 167 (by decide +kernel) (by decide +kernel))
theorem fl_X12_58 : Cond.fieldLink RX12 58 "CrateTour" "commands" "LCrateTour$CommandText;" ∈ WT := (wtm_2 168 (by decide +kernel) (by decide +kernel))
theorem fl_J0_38 : Cond.fieldLink RJ0 38 "java/lang/String" "COMPACT_STRINGS" "Z" ∈ WT := (wtm_2 230 (by decide +kernel) (by decide +kernel))
theorem fl_J0_1053 : Cond.fieldLink RJ0 1053 "jdk/internal/util/Preconditions" "SIOOBE_FORMATTER" "Ljava/util/function/BiFunction;" ∈ WT := (wtm_3 6 (by decide +kernel) (by decide +kernel))
theorem fl_J2_44 : Cond.fieldLink RJ2 44 "java/lang/StringUTF16" "$assertionsDisabled" "Z" ∈ WT := (wtm_3 24 (by decide +kernel) (by decide +kernel))
theorem fl_J2_59 : Cond.fieldLink RJ2 59 "java/lang/StringUTF16" "HI_BYTE_SHIFT" "I" ∈ WT := (wtm_3 26 (by decide +kernel) (by decide +kernel))
theorem fl_J2_63 : Cond.fieldLink RJ2 63 "java/lang/StringUTF16" "LO_BYTE_SHIFT" "I" ∈ WT := (wtm_3 28 (by decide +kernel) (by decide +kernel))
theorem fl_X12_329 : Cond.fieldLink RX12 329 "CrateTour$1" "$SwitchMap$CrateTour$Word" "[I" ∈ WT := (wtm_3 85 (by decide +kernel) (by decide +kernel))
theorem fl_X13_7 : Cond.fieldLink RX13 7 "CrateTourModel" "m" "[I" ∈ WT := (wtm_6 145 (by decide +kernel) (by decide +kernel))
theorem fl_X13_13 : Cond.fieldLink RX13 13 "CrateTourModel" "saved" "[I" ∈ WT := (wtm_6 146 (by decide +kernel) (by decide +kernel))
theorem fl_X13_29 : Cond.fieldLink RX13 29 "CrateTourModel" "savedCount" "I" ∈ WT := (wtm_6 147 (by decide +kernel) (by decide +kernel))
theorem fl_X13_16 : Cond.fieldLink RX13 16 "CrateTourModel" "text" "[I" ∈ WT := (wtm_6 148 (by decide +kernel) (by decide +kernel))
theorem fl_X13_252 : Cond.fieldLink RX13 252 "CrateTourModel" "textLength" "I" ∈ WT := (wtm_6 149 (by decide +kernel) (by decide +kernel))
theorem fl_X13_25 : Cond.fieldLink RX13 25 "CrateTourModel" "code" "I" ∈ WT := (wtm_6 150 (by decide +kernel) (by decide +kernel))
theorem fl_X13_19 : Cond.fieldLink RX13 19 "CrateTourModel" "row" "[I" ∈ WT := (wtm_6 151 (by decide +kernel) (by decide +kernel))
theorem fl_X13_255 : Cond.fieldLink RX13 255 "CrateTourModel" "place" "I" ∈ WT := (wtm_6 152 (by decide +kernel) (by decide +kernel))
theorem fl_X13_289 : Cond.fieldLink RX13 289 "CrateTourModel" "command" "I" ∈ WT := (wtm_6 153 (by decide +kernel) (by decide +kernel))
theorem fl_X13_22 : Cond.fieldLink RX13 22 "CrateTourModel" "numbers" "[I" ∈ WT := (wtm_6 154 (by decide +kernel) (by decide +kernel))
theorem fl_X13_319 : Cond.fieldLink RX13 319 "CrateTourModel" "hash" "J" ∈ WT := (wtm_6 155 (by decide +kernel) (by decide +kernel))
theorem fl_X2_61 : Cond.fieldLink RX2 61 "CrateTour$Word" "letters" "Ljava/lang/String;" ∈ WT := (wtm_8 159 (by decide +kernel) (by decide +kernel))
theorem fl_J0_9 : Cond.fieldLink RJ0 9 "java/lang/String" "value" "[B" ∈ WT := (wtm_8 160 (by decide +kernel) (by decide +kernel))
theorem fl_J0_15 : Cond.fieldLink RJ0 15 "java/lang/String" "coder" "B" ∈ WT := (wtm_8 161 (by decide +kernel) (by decide +kernel))
theorem fl_X2_82 : Cond.fieldLink RX2 82 "CrateTour$Word" "numberCount" "I" ∈ WT := (wtm_8 162 (by decide +kernel) (by decide +kernel))
theorem cl_L_8 : Cond.classLink RL 8 "CrateTour" ∈ WT := (wtm_1 28 (by decide +kernel) (by decide +kernel))
theorem cl_X12_7 : Cond.classLink RX12 7 "CrateTour$State" ∈ WT := (wtm_1 36 (by decide +kernel) (by decide +kernel))
theorem cl_X6_15 : Cond.classLink RX6 15 "CrateTour$Venue" ∈ WT := (wtm_1 42 (by decide +kernel) (by decide +kernel))
theorem cl_X6_21 : Cond.classLink RX6 21 "CrateTour$Crate" ∈ WT := (wtm_1 44 (by decide +kernel) (by decide +kernel))
theorem cl_X6_27 : Cond.classLink RX6 27 "CrateTour$Work" ∈ WT := (wtm_1 46 (by decide +kernel) (by decide +kernel))
theorem cl_X6_37 : Cond.classLink RX6 37 "[[I" ∈ WT := (wtm_1 48 (by decide +kernel) (by decide +kernel))
theorem cl_X12_16 : Cond.classLink RX12 16 "CrateTour$Checks" ∈ WT := (wtm_2 68 (by decide +kernel) (by decide +kernel))
theorem cl_X12_25 : Cond.classLink RX12 25 "CrateTour$Deeds" ∈ WT := (wtm_2 78 (by decide +kernel) (by decide +kernel))
theorem cl_X12_32 : Cond.classLink RX12 32 "CrateTour$Values" ∈ WT := (wtm_2 88 (by decide +kernel) (by decide +kernel))
theorem cl_X12_39 : Cond.classLink RX12 39 "CrateTour$Forecast" ∈ WT := (wtm_2 98 (by decide +kernel) (by decide +kernel))
theorem cl_X12_48 : Cond.classLink RX12 48 "CrateTour$UndoStack" ∈ WT := (wtm_2 114 (by decide +kernel) (by decide +kernel))
theorem cl_X7_9 : Cond.classLink RX7 9 "CrateTour$State" ∈ WT := (wtm_2 120 (by decide +kernel) (by decide +kernel))
theorem cl_X12_55 : Cond.classLink RX12 55 "CrateTour$CommandText" ∈ WT := (wtm_2 131 (by decide +kernel) (by decide +kernel))
theorem cl_L_13 : Cond.classLink RL 13 "java/lang/IllegalArgumentException" ∈ WT := (wtm_4 211 (by decide +kernel) (by decide +kernel))
theorem cl_L_15 : Cond.classLink RL 15 "java/lang/IllegalStateException" ∈ WT := (wtm_4 212 (by decide +kernel) (by decide +kernel))
theorem cl_X12_312 : Cond.classLink RX12 312 "java/lang/IndexOutOfBoundsException" ∈ WT := (wtm_4 228 (by decide +kernel) (by decide +kernel))
theorem cl_X12_319 : Cond.classLink RX12 319 "java/lang/IllegalArgumentException" ∈ WT := (wtm_5 55 (by decide +kernel) (by decide +kernel))
theorem cl_X12_324 : Cond.classLink RX12 324 "java/lang/IllegalStateException" ∈ WT := (wtm_5 71 (by decide +kernel) (by decide +kernel))
theorem cl_L_21 : Cond.classLink RL 21 "java/lang/IndexOutOfBoundsException" ∈ WT := (wtm_5 94 (by decide +kernel) (by decide +kernel))
theorem cl_L_106 : Cond.classLink RL 106 "CrateTourModel" ∈ WT := (wtm_6 139 (by decide +kernel) (by decide +kernel))
theorem cn_X1_23 : Cond.constant RX1 23 (10000000 : Int32) ∈ WT := (wtm_4 224 (by decide +kernel) (by decide +kernel))
theorem cn_X1_47 : Cond.constant RX1 47 (1000000 : Int32) ∈ WT := (wtm_5 196 (by decide +kernel) (by decide +kernel))
theorem cn_X13_61 : Cond.constant RX13 61 (10000000 : Int32) ∈ WT := (wtm_6 193 (by decide +kernel) (by decide +kernel))
theorem cn_X13_78 : Cond.constant RX13 78 (1000000 : Int32) ∈ WT := (wtm_7 1 (by decide +kernel) (by decide +kernel))
theorem cn_X4_181 : Cond.constantLong RX4 181 (10000 : Int64) ∈ WT := (wtm_4 85 (by decide +kernel) (by decide +kernel))
theorem cn_X12_282 : Cond.constantLong RX12 282 (43003 : Int64) ∈ WT := (wtm_4 97 (by decide +kernel) (by decide +kernel))
theorem cn_X12_310 : Cond.constantLong RX12 310 (31 : Int64) ∈ WT := (wtm_4 101 (by decide +kernel) (by decide +kernel))
theorem cn_X13_180 : Cond.constantLong RX13 180 (10000 : Int64) ∈ WT := (wtm_7 208 (by decide +kernel) (by decide +kernel))
theorem cn_X13_279 : Cond.constantLong RX13 279 (27 : Int64) ∈ WT := (wtm_8 108 (by decide +kernel) (by decide +kernel))
theorem cn_X13_281 : Cond.constantLong RX13 281 (96 : Int64) ∈ WT := (wtm_8 109 (by decide +kernel) (by decide +kernel))
theorem cn_X13_283 : Cond.constantLong RX13 283 (-1 : Int64) ∈ WT := (wtm_8 110 (by decide +kernel) (by decide +kernel))
theorem cn_X13_261 : Cond.constantLong RX13 261 (307058 : Int64) ∈ WT := (wtm_8 114 (by decide +kernel) (by decide +kernel))
theorem cn_X13_263 : Cond.constantLong RX13 263 (1841972 : Int64) ∈ WT := (wtm_8 115 (by decide +kernel) (by decide +kernel))
theorem cn_X13_265 : Cond.constantLong RX13 265 (279740 : Int64) ∈ WT := (wtm_8 116 (by decide +kernel) (by decide +kernel))
theorem cn_X13_267 : Cond.constantLong RX13 267 (11522 : Int64) ∈ WT := (wtm_8 117 (by decide +kernel) (by decide +kernel))
theorem cn_X13_269 : Cond.constantLong RX13 269 (315749 : Int64) ∈ WT := (wtm_8 118 (by decide +kernel) (by decide +kernel))
theorem cn_X13_271 : Cond.constantLong RX13 271 (309082970 : Int64) ∈ WT := (wtm_8 119 (by decide +kernel) (by decide +kernel))
theorem cn_X13_273 : Cond.constantLong RX13 273 (378004 : Int64) ∈ WT := (wtm_8 120 (by decide +kernel) (by decide +kernel))
theorem cn_X13_275 : Cond.constantLong RX13 275 (81912404 : Int64) ∈ WT := (wtm_8 121 (by decide +kernel) (by decide +kernel))
theorem cn_X13_277 : Cond.constantLong RX13 277 (453701 : Int64) ∈ WT := (wtm_8 122 (by decide +kernel) (by decide +kernel))
theorem cn_X13_327 : Cond.constantLong RX13 327 (43003 : Int64) ∈ WT := (wtm_8 147 (by decide +kernel) (by decide +kernel))
theorem cn_X13_317 : Cond.constantLong RX13 317 (31 : Int64) ∈ WT := (wtm_8 152 (by decide +kernel) (by decide +kernel))
theorem ini_L : Cond.initialized RL ∈ WT := (wtm_1 0 (by decide +kernel) (by decide +kernel))
theorem ini_X12 : Cond.initialized RX12 ∈ WT := (wtm_1 1 (by decide +kernel) (by decide +kernel))
theorem ini_X6 : Cond.initialized RX6 ∈ WT := (wtm_1 2 (by decide +kernel) (by decide +kernel))
theorem ini_X9 : Cond.initialized RX9 ∈ WT := (wtm_1 3 (by decide +kernel) (by decide +kernel))
theorem ini_X3 : Cond.initialized RX3 ∈ WT := (wtm_1 4 (by decide +kernel) (by decide +kernel))
theorem ini_X11 : Cond.initialized RX11 ∈ WT := (wtm_1 5 (by decide +kernel) (by decide +kernel))
theorem ini_X1 : Cond.initialized RX1 ∈ WT := (wtm_1 6 (by decide +kernel) (by decide +kernel))
theorem ini_X4 : Cond.initialized RX4 ∈ WT := (wtm_1 7 (by decide +kernel) (by decide +kernel))
theorem ini_X8 : Cond.initialized RX8 ∈ WT := (wtm_1 8 (by decide +kernel) (by decide +kernel))
theorem ini_X5 : Cond.initialized RX5 ∈ WT := (wtm_1 9 (by decide +kernel) (by decide +kernel))
theorem ini_X7 : Cond.initialized RX7 ∈ WT := (wtm_1 10 (by decide +kernel) (by decide +kernel))
theorem ini_X2 : Cond.initialized RX2 ∈ WT := (wtm_1 11 (by decide +kernel) (by decide +kernel))
theorem ini_X10 : Cond.initialized RX10 ∈ WT := (wtm_1 13 (by decide +kernel) (by decide +kernel))
theorem ini_X13 : Cond.initialized RX13 ∈ WT := (wtm_1 14 (by decide +kernel) (by decide +kernel))
theorem ini_J10 : Cond.initialized RJ10 ∈ WT := (wtm_1 21 (by decide +kernel) (by decide +kernel))
theorem ini_J9 : Cond.initialized RJ9 ∈ WT := (wtm_1 22 (by decide +kernel) (by decide +kernel))
theorem ini_J0 : Cond.initialized RJ0 ∈ WT := (wtm_1 23 (by decide +kernel) (by decide +kernel))
theorem ini_J1 : Cond.initialized RJ1 ∈ WT := (wtm_1 24 (by decide +kernel) (by decide +kernel))
theorem ini_J3 : Cond.initialized RJ3 ∈ WT := (wtm_1 25 (by decide +kernel) (by decide +kernel))
theorem ini_J2 : Cond.initialized RJ2 ∈ WT := (wtm_1 26 (by decide +kernel) (by decide +kernel))
theorem ini_X0 : Cond.initialized RX0 ∈ WT := (wtm_1 27 (by decide +kernel) (by decide +kernel))
theorem ins_X12 : Cond.instantiable RX12 7 ∈ WT := (wtm_1 29 (by decide +kernel) (by decide +kernel))
theorem ins_X6 : Cond.instantiable RX6 14 ∈ WT := (wtm_1 37 (by decide +kernel) (by decide +kernel))
theorem ins_X9 : Cond.instantiable RX9 6 ∈ WT := (wtm_1 50 (by decide +kernel) (by decide +kernel))
theorem ins_X3 : Cond.instantiable RX3 10 ∈ WT := (wtm_1 92 (by decide +kernel) (by decide +kernel))
theorem ins_X11 : Cond.instantiable RX11 9 ∈ WT := (wtm_1 162 (by decide +kernel) (by decide +kernel))
theorem ins_X1 : Cond.instantiable RX1 1 ∈ WT := (wtm_2 69 (by decide +kernel) (by decide +kernel))
theorem ins_X4 : Cond.instantiable RX4 1 ∈ WT := (wtm_2 79 (by decide +kernel) (by decide +kernel))
theorem ins_X8 : Cond.instantiable RX8 1 ∈ WT := (wtm_2 89 (by decide +kernel) (by decide +kernel))
theorem ins_X5 : Cond.instantiable RX5 3 ∈ WT := (wtm_2 99 (by decide +kernel) (by decide +kernel))
theorem ins_X7 : Cond.instantiable RX7 2 ∈ WT := (wtm_2 115 (by decide +kernel) (by decide +kernel))
theorem ins_X2 : Cond.instantiable RX2 6 ∈ WT := (wtm_2 132 (by decide +kernel) (by decide +kernel))
theorem ins_X13 : Cond.instantiable RX13 11 ∈ WT := (wtm_6 140 (by decide +kernel) (by decide +kernel))
theorem arrc_int : Cond.arrayClass FieldType.int ∈ WT := (wtm_1 91 (by decide +kernel) (by decide +kernel))
theorem arrc_byte : Cond.arrayClass FieldType.byte ∈ WT := (wtm_2 161 (by decide +kernel) (by decide +kernel))
theorem arrc_long : Cond.arrayClass FieldType.long ∈ WT := (wtm_8 157 (by decide +kernel) (by decide +kernel))
theorem lk_X1_init : LkI yX1_init cX1_init 2 1 := ⟨⟨(wtm_2 72 (by decide +kernel) (by decide +kernel)), ini_X1, by decide +kernel, by decide +kernel, by decide +kernel⟩, (wtm_2 71 (by decide +kernel) (by decide +kernel)), rfl⟩
theorem lk_X1_isIn : LkS yX1_isIn cX1_isIn 3 (some .boolean) 3 := ⟨⟨(wtm_4 11 (by decide +kernel) (by decide +kernel)), ini_X1, by decide +kernel, by decide +kernel, by decide +kernel⟩, (wtm_4 10 (by decide +kernel) (by decide +kernel))⟩
theorem lk_X1_isClimate : LkS yX1_isClimate cX1_isClimate 2 (some .boolean) 2 := ⟨⟨(wtm_4 223 (by decide +kernel) (by decide +kernel)), ini_X1, by decide +kernel, by decide +kernel, by decide +kernel⟩, (wtm_4 222 (by decide +kernel) (by decide +kernel))⟩
theorem lk_X1_firstWrong : LkS yX1_firstWrong cX1_firstWrong 3 (some .int) 3 := ⟨⟨(wtm_3 132 (by decide +kernel) (by decide +kernel)), ini_X1, by decide +kernel, by decide +kernel, by decide +kernel⟩, (wtm_3 131 (by decide +kernel) (by decide +kernel))⟩
theorem lk_X1_ofNewVenue : LkV yX1_ofNewVenue cX1_ofNewVenue 6 (some .int) 4 := ⟨⟨(wtm_4 220 (by decide +kernel) (by decide +kernel)), ini_X1, by decide +kernel, by decide +kernel, by decide +kernel⟩, (wtm_4 218 (by decide +kernel) (by decide +kernel)), (wtm_4 219 (by decide +kernel) (by decide +kernel))⟩
theorem lk_X6_hasVenue : LkV yX6_hasVenue cX6_hasVenue 2 (some .boolean) 1 := ⟨⟨(wtm_3 113 (by decide +kernel) (by decide +kernel)), ini_X6, by decide +kernel, by decide +kernel, by decide +kernel⟩, (wtm_3 111 (by decide +kernel) (by decide +kernel)), (wtm_3 112 (by decide +kernel) (by decide +kernel))⟩
theorem lk_X1_ofClimate : LkV yX1_ofClimate cX1_ofClimate 4 (some .int) 3 := ⟨⟨(wtm_5 102 (by decide +kernel) (by decide +kernel)), ini_X1, by decide +kernel, by decide +kernel, by decide +kernel⟩, (wtm_5 100 (by decide +kernel) (by decide +kernel)), (wtm_5 101 (by decide +kernel) (by decide +kernel))⟩
theorem lk_X1_ofWay : LkV yX1_ofWay cX1_ofWay 5 (some .int) 3 := ⟨⟨(wtm_5 117 (by decide +kernel) (by decide +kernel)), ini_X1, by decide +kernel, by decide +kernel, by decide +kernel⟩, (wtm_5 115 (by decide +kernel) (by decide +kernel)), (wtm_5 116 (by decide +kernel) (by decide +kernel))⟩
theorem lk_X1_isLenderValue : LkS yX1_isLenderValue cX1_isLenderValue 2 (some .boolean) 2 := ⟨⟨(wtm_5 135 (by decide +kernel) (by decide +kernel)), ini_X1, by decide +kernel, by decide +kernel, by decide +kernel⟩, (wtm_5 134 (by decide +kernel) (by decide +kernel))⟩
theorem lk_X1_ofLenderValue : LkV yX1_ofLenderValue cX1_ofLenderValue 5 (some .int) 3 := ⟨⟨(wtm_5 132 (by decide +kernel) (by decide +kernel)), ini_X1, by decide +kernel, by decide +kernel, by decide +kernel⟩, (wtm_5 130 (by decide +kernel) (by decide +kernel)), (wtm_5 131 (by decide +kernel) (by decide +kernel))⟩
theorem lk_X1_ofWayRate : LkV yX1_ofWayRate cX1_ofWayRate 2 (some .int) 1 := ⟨⟨(wtm_5 150 (by decide +kernel) (by decide +kernel)), ini_X1, by decide +kernel, by decide +kernel, by decide +kernel⟩, (wtm_5 148 (by decide +kernel) (by decide +kernel)), (wtm_5 149 (by decide +kernel) (by decide +kernel))⟩
theorem lk_X1_ofNewCourier : LkV yX1_ofNewCourier cX1_ofNewCourier 2 (some .int) 1 := ⟨⟨(wtm_5 165 (by decide +kernel) (by decide +kernel)), ini_X1, by decide +kernel, by decide +kernel, by decide +kernel⟩, (wtm_5 163 (by decide +kernel) (by decide +kernel)), (wtm_5 164 (by decide +kernel) (by decide +kernel))⟩
theorem lk_X1_ofNewCrate : LkV yX1_ofNewCrate cX1_ofNewCrate 3 (some .int) 2 := ⟨⟨(wtm_5 180 (by decide +kernel) (by decide +kernel)), ini_X1, by decide +kernel, by decide +kernel, by decide +kernel⟩, (wtm_5 178 (by decide +kernel) (by decide +kernel)), (wtm_5 179 (by decide +kernel) (by decide +kernel))⟩
theorem lk_X1_ofNewWork : LkV yX1_ofNewWork cX1_ofNewWork 6 (some .int) 4 := ⟨⟨(wtm_5 195 (by decide +kernel) (by decide +kernel)), ini_X1, by decide +kernel, by decide +kernel, by decide +kernel⟩, (wtm_5 193 (by decide +kernel) (by decide +kernel)), (wtm_5 194 (by decide +kernel) (by decide +kernel))⟩
theorem lk_X6_hasCrate : LkV yX6_hasCrate cX6_hasCrate 2 (some .boolean) 1 := ⟨⟨(wtm_3 100 (by decide +kernel) (by decide +kernel)), ini_X6, by decide +kernel, by decide +kernel, by decide +kernel⟩, (wtm_3 98 (by decide +kernel) (by decide +kernel)), (wtm_3 99 (by decide +kernel) (by decide +kernel))⟩
theorem lk_X6_isWithinReach : LkV yX6_isWithinReach cX6_isWithinReach 5 (some .boolean) 1 := ⟨⟨(wtm_3 108 (by decide +kernel) (by decide +kernel)), ini_X6, by decide +kernel, by decide +kernel, by decide +kernel⟩, (wtm_3 106 (by decide +kernel) (by decide +kernel)), (wtm_3 107 (by decide +kernel) (by decide +kernel))⟩
theorem lk_X6_outermost : LkV yX6_outermost cX6_outermost 5 (some .int) 1 := ⟨⟨(wtm_3 121 (by decide +kernel) (by decide +kernel)), ini_X6, by decide +kernel, by decide +kernel, by decide +kernel⟩, (wtm_3 119 (by decide +kernel) (by decide +kernel)), (wtm_3 120 (by decide +kernel) (by decide +kernel))⟩
theorem lk_X6_venueOfCrate : LkV yX6_venueOfCrate cX6_venueOfCrate 2 (some .int) 1 := ⟨⟨(wtm_3 117 (by decide +kernel) (by decide +kernel)), ini_X6, by decide +kernel, by decide +kernel, by decide +kernel⟩, (wtm_3 115 (by decide +kernel) (by decide +kernel)), (wtm_3 116 (by decide +kernel) (by decide +kernel))⟩
theorem lk_X3_hoursNeededAt : LkV yX3_hoursNeededAt cX3_hoursNeededAt 4 (some .int) 1 := ⟨⟨(wtm_3 126 (by decide +kernel) (by decide +kernel)), ini_X3, by decide +kernel, by decide +kernel, by decide +kernel⟩, (wtm_3 124 (by decide +kernel) (by decide +kernel)), (wtm_3 125 (by decide +kernel) (by decide +kernel))⟩
theorem lk_X1_mayBeOpened : LkV yX1_mayBeOpened cX1_mayBeOpened 4 (some .boolean) 1 := ⟨⟨(wtm_3 104 (by decide +kernel) (by decide +kernel)), ini_X1, by decide +kernel, by decide +kernel, by decide +kernel⟩, (wtm_3 103 (by decide +kernel) (by decide +kernel)), (wtp 10 (q := 1) (by decide +kernel))⟩
theorem lk_X1_ofOpening : LkV yX1_ofOpening cX1_ofOpening 3 (some .int) 1 := ⟨⟨(wtm_3 96 (by decide +kernel) (by decide +kernel)), ini_X1, by decide +kernel, by decide +kernel, by decide +kernel⟩, (wtm_3 94 (by decide +kernel) (by decide +kernel)), (wtm_3 95 (by decide +kernel) (by decide +kernel))⟩
theorem lk_X1_holdsOpenCrate : LkV yX1_holdsOpenCrate cX1_holdsOpenCrate 3 (some .boolean) 1 := ⟨⟨(wtm_3 140 (by decide +kernel) (by decide +kernel)), ini_X1, by decide +kernel, by decide +kernel, by decide +kernel⟩, (wtm_3 139 (by decide +kernel) (by decide +kernel)), (wtp 11 (q := 1) (by decide +kernel))⟩
theorem lk_X1_ofClosing : LkV yX1_ofClosing cX1_ofClosing 4 (some .int) 1 := ⟨⟨(wtm_3 136 (by decide +kernel) (by decide +kernel)), ini_X1, by decide +kernel, by decide +kernel, by decide +kernel⟩, (wtm_3 134 (by decide +kernel) (by decide +kernel)), (wtm_3 135 (by decide +kernel) (by decide +kernel))⟩
theorem lk_X1_mayBeNested : LkV yX1_mayBeNested cX1_mayBeNested 4 (some .boolean) 2 := ⟨⟨(wtm_3 148 (by decide +kernel) (by decide +kernel)), ini_X1, by decide +kernel, by decide +kernel, by decide +kernel⟩, (wtm_3 147 (by decide +kernel) (by decide +kernel)), (wtp 12 (q := 1) (by decide +kernel))⟩
theorem lk_X1_ofNesting : LkV yX1_ofNesting cX1_ofNesting 4 (some .int) 2 := ⟨⟨(wtm_3 144 (by decide +kernel) (by decide +kernel)), ini_X1, by decide +kernel, by decide +kernel, by decide +kernel⟩, (wtm_3 142 (by decide +kernel) (by decide +kernel)), (wtm_3 143 (by decide +kernel) (by decide +kernel))⟩
theorem lk_X1_ofTakingOut : LkV yX1_ofTakingOut cX1_ofTakingOut 4 (some .int) 1 := ⟨⟨(wtm_3 152 (by decide +kernel) (by decide +kernel)), ini_X1, by decide +kernel, by decide +kernel, by decide +kernel⟩, (wtm_3 150 (by decide +kernel) (by decide +kernel)), (wtm_3 151 (by decide +kernel) (by decide +kernel))⟩
theorem lk_X6_hasWork : LkV yX6_hasWork cX6_hasWork 2 (some .boolean) 1 := ⟨⟨(wtm_3 160 (by decide +kernel) (by decide +kernel)), ini_X6, by decide +kernel, by decide +kernel, by decide +kernel⟩, (wtm_3 158 (by decide +kernel) (by decide +kernel)), (wtm_3 159 (by decide +kernel) (by decide +kernel))⟩
theorem lk_X1_ofPacking : LkV yX1_ofPacking cX1_ofPacking 5 (some .int) 2 := ⟨⟨(wtm_3 156 (by decide +kernel) (by decide +kernel)), ini_X1, by decide +kernel, by decide +kernel, by decide +kernel⟩, (wtm_3 154 (by decide +kernel) (by decide +kernel)), (wtm_3 155 (by decide +kernel) (by decide +kernel))⟩
theorem lk_X1_ofUnpacking : LkV yX1_ofUnpacking cX1_ofUnpacking 5 (some .int) 1 := ⟨⟨(wtm_3 164 (by decide +kernel) (by decide +kernel)), ini_X1, by decide +kernel, by decide +kernel, by decide +kernel⟩, (wtm_3 162 (by decide +kernel) (by decide +kernel)), (wtm_3 163 (by decide +kernel) (by decide +kernel))⟩
theorem lk_X6_hasCourier : LkV yX6_hasCourier cX6_hasCourier 2 (some .boolean) 1 := ⟨⟨(wtm_3 180 (by decide +kernel) (by decide +kernel)), ini_X6, by decide +kernel, by decide +kernel, by decide +kernel⟩, (wtm_3 178 (by decide +kernel) (by decide +kernel)), (wtm_3 179 (by decide +kernel) (by decide +kernel))⟩
theorem lk_X6_isCourierOrNone : LkV yX6_isCourierOrNone cX6_isCourierOrNone 2 (some .boolean) 1 := ⟨⟨(wtm_3 176 (by decide +kernel) (by decide +kernel)), ini_X6, by decide +kernel, by decide +kernel, by decide +kernel⟩, (wtm_3 174 (by decide +kernel) (by decide +kernel)), (wtm_3 175 (by decide +kernel) (by decide +kernel))⟩
theorem lk_X1_ofNumber : LkV yX1_ofNumber cX1_ofNumber 2 (some .int) 1 := ⟨⟨(wtm_3 184 (by decide +kernel) (by decide +kernel)), ini_X1, by decide +kernel, by decide +kernel, by decide +kernel⟩, (wtm_3 182 (by decide +kernel) (by decide +kernel)), (wtm_3 183 (by decide +kernel) (by decide +kernel))⟩
theorem lk_X1_ofLeg : LkV yX1_ofLeg cX1_ofLeg 4 (some .int) 3 := ⟨⟨(wtm_3 172 (by decide +kernel) (by decide +kernel)), ini_X1, by decide +kernel, by decide +kernel, by decide +kernel⟩, (wtm_3 170 (by decide +kernel) (by decide +kernel)), (wtm_3 171 (by decide +kernel) (by decide +kernel))⟩
theorem lk_X6_hoursBetween : LkV yX6_hoursBetween cX6_hoursBetween 3 (some .int) 2 := ⟨⟨(wtm_3 196 (by decide +kernel) (by decide +kernel)), ini_X6, by decide +kernel, by decide +kernel, by decide +kernel⟩, (wtm_3 194 (by decide +kernel) (by decide +kernel)), (wtm_3 195 (by decide +kernel) (by decide +kernel))⟩
theorem lk_X1_reasonOfCrate : LkV yX1_reasonOfCrate cX1_reasonOfCrate 4 (some .int) 2 := ⟨⟨(wtm_3 192 (by decide +kernel) (by decide +kernel)), ini_X1, by decide +kernel, by decide +kernel, by decide +kernel⟩, (wtm_3 191 (by decide +kernel) (by decide +kernel)), (wtp 13 (q := 1) (by decide +kernel))⟩
theorem lk_X6_isInOrBelow : LkV yX6_isInOrBelow cX6_isInOrBelow 5 (some .boolean) 2 := ⟨⟨(wtm_3 204 (by decide +kernel) (by decide +kernel)), ini_X6, by decide +kernel, by decide +kernel, by decide +kernel⟩, (wtm_3 202 (by decide +kernel) (by decide +kernel)), (wtm_3 203 (by decide +kernel) (by decide +kernel))⟩
theorem lk_X1_bars : LkS yX1_bars cX1_bars 2 (some .boolean) 2 := ⟨⟨(wtm_3 207 (by decide +kernel) (by decide +kernel)), ini_X1, by decide +kernel, by decide +kernel, by decide +kernel⟩, (wtm_3 206 (by decide +kernel) (by decide +kernel))⟩
theorem lk_X1_suits : LkS yX1_suits cX1_suits 2 (some .boolean) 2 := ⟨⟨(wtm_3 210 (by decide +kernel) (by decide +kernel)), ini_X1, by decide +kernel, by decide +kernel, by decide +kernel⟩, (wtm_3 209 (by decide +kernel) (by decide +kernel))⟩
theorem lk_X1_reasonOfWorks : LkV yX1_reasonOfWorks cX1_reasonOfWorks 8 (some .int) 2 := ⟨⟨(wtm_3 200 (by decide +kernel) (by decide +kernel)), ini_X1, by decide +kernel, by decide +kernel, by decide +kernel⟩, (wtm_3 199 (by decide +kernel) (by decide +kernel)), (wtp 14 (q := 1) (by decide +kernel))⟩
theorem lk_X6_valueInOrBelow : LkV yX6_valueInOrBelow cX6_valueInOrBelow 4 (some .int) 1 := ⟨⟨(wtm_3 218 (by decide +kernel) (by decide +kernel)), ini_X6, by decide +kernel, by decide +kernel, by decide +kernel⟩, (wtm_3 216 (by decide +kernel) (by decide +kernel)), (wtm_3 217 (by decide +kernel) (by decide +kernel))⟩
theorem lk_X6_venueOfWork : LkV yX6_venueOfWork cX6_venueOfWork 3 (some .int) 1 := ⟨⟨(wtm_3 227 (by decide +kernel) (by decide +kernel)), ini_X6, by decide +kernel, by decide +kernel, by decide +kernel⟩, (wtm_3 225 (by decide +kernel) (by decide +kernel)), (wtm_3 226 (by decide +kernel) (by decide +kernel))⟩
theorem lk_X6_valueAt : LkV yX6_valueAt cX6_valueAt 4 (some .int) 1 := ⟨⟨(wtm_3 223 (by decide +kernel) (by decide +kernel)), ini_X6, by decide +kernel, by decide +kernel, by decide +kernel⟩, (wtm_3 221 (by decide +kernel) (by decide +kernel)), (wtm_3 222 (by decide +kernel) (by decide +kernel))⟩
theorem lk_X6_goalOfWork : LkV yX6_goalOfWork cX6_goalOfWork 3 (some .int) 1 := ⟨⟨(wtm_3 235 (by decide +kernel) (by decide +kernel)), ini_X6, by decide +kernel, by decide +kernel, by decide +kernel⟩, (wtm_3 233 (by decide +kernel) (by decide +kernel)), (wtm_3 234 (by decide +kernel) (by decide +kernel))⟩
theorem lk_X6_valueOnTheWayTo : LkV yX6_valueOnTheWayTo cX6_valueOnTheWayTo 4 (some .int) 1 := ⟨⟨(wtm_3 231 (by decide +kernel) (by decide +kernel)), ini_X6, by decide +kernel, by decide +kernel, by decide +kernel⟩, (wtm_3 229 (by decide +kernel) (by decide +kernel)), (wtm_3 230 (by decide +kernel) (by decide +kernel))⟩
theorem lk_X1_isAboveCap : LkV yX1_isAboveCap cX1_isAboveCap 4 (some .boolean) 2 := ⟨⟨(wtm_3 214 (by decide +kernel) (by decide +kernel)), ini_X1, by decide +kernel, by decide +kernel, by decide +kernel⟩, (wtm_3 213 (by decide +kernel) (by decide +kernel)), (wtp 15 (q := 1) (by decide +kernel))⟩
theorem lk_X1_needsCourier : LkV yX1_needsCourier cX1_needsCourier 3 (some .boolean) 1 := ⟨⟨(wtm_4 4 (by decide +kernel) (by decide +kernel)), ini_X1, by decide +kernel, by decide +kernel, by decide +kernel⟩, (wtm_4 3 (by decide +kernel) (by decide +kernel)), (wtp 17 (q := 1) (by decide +kernel))⟩
theorem lk_X1_reasonOfCourier : LkV yX1_reasonOfCourier cX1_reasonOfCourier 4 (some .int) 2 := ⟨⟨(wtm_3 239 (by decide +kernel) (by decide +kernel)), ini_X1, by decide +kernel, by decide +kernel, by decide +kernel⟩, (wtm_3 238 (by decide +kernel) (by decide +kernel)), (wtp 16 (q := 1) (by decide +kernel))⟩
theorem lk_X1_reasonAgainst : LkV yX1_reasonAgainst cX1_reasonAgainst 5 (some .int) 3 := ⟨⟨(wtm_3 188 (by decide +kernel) (by decide +kernel)), ini_X1, by decide +kernel, by decide +kernel, by decide +kernel⟩, (wtm_3 186 (by decide +kernel) (by decide +kernel)), (wtm_3 187 (by decide +kernel) (by decide +kernel))⟩
theorem lk_X1_ofSending : LkV yX1_ofSending cX1_ofSending 4 (some .int) 3 := ⟨⟨(wtm_3 168 (by decide +kernel) (by decide +kernel)), ini_X1, by decide +kernel, by decide +kernel, by decide +kernel⟩, (wtm_3 166 (by decide +kernel) (by decide +kernel)), (wtm_3 167 (by decide +kernel) (by decide +kernel))⟩
theorem lk_X1_ofWaiting : LkV yX1_ofWaiting cX1_ofWaiting 2 (some .int) 1 := ⟨⟨(wtm_4 8 (by decide +kernel) (by decide +kernel)), ini_X1, by decide +kernel, by decide +kernel, by decide +kernel⟩, (wtm_4 6 (by decide +kernel) (by decide +kernel)), (wtm_4 7 (by decide +kernel) (by decide +kernel))⟩
theorem lk_X1_ofValue : LkV yX1_ofValue cX1_ofValue 4 (some .int) 3 := ⟨⟨(wtm_6 37 (by decide +kernel) (by decide +kernel)), ini_X1, by decide +kernel, by decide +kernel, by decide +kernel⟩, (wtm_6 35 (by decide +kernel) (by decide +kernel)), (wtm_6 36 (by decide +kernel) (by decide +kernel))⟩
theorem lk_X1_ofNoted : LkV yX1_ofNoted cX1_ofNoted 3 (some .int) 2 := ⟨⟨(wtm_6 56 (by decide +kernel) (by decide +kernel)), ini_X1, by decide +kernel, by decide +kernel, by decide +kernel⟩, (wtm_6 54 (by decide +kernel) (by decide +kernel)), (wtm_6 55 (by decide +kernel) (by decide +kernel))⟩
theorem lk_X1_ofByte : LkV yX1_ofByte cX1_ofByte 3 (some .int) 2 := ⟨⟨(wtm_6 123 (by decide +kernel) (by decide +kernel)), ini_X1, by decide +kernel, by decide +kernel, by decide +kernel⟩, (wtm_6 121 (by decide +kernel) (by decide +kernel)), (wtm_6 122 (by decide +kernel) (by decide +kernel))⟩
theorem lk_X2_init : LkI yX2_init cX2_init 1 0 := ⟨⟨(wtm_2 135 (by decide +kernel) (by decide +kernel)), ini_X2, by decide +kernel, by decide +kernel, by decide +kernel⟩, (wtm_2 134 (by decide +kernel) (by decide +kernel)), rfl⟩
theorem lk_X2_append : LkV yX2_append cX2_append 2 (some .int) 1 := ⟨⟨(wtm_6 127 (by decide +kernel) (by decide +kernel)), ini_X2, by decide +kernel, by decide +kernel, by decide +kernel⟩, (wtm_6 125 (by decide +kernel) (by decide +kernel)), (wtm_6 126 (by decide +kernel) (by decide +kernel))⟩
theorem lk_X2_empty : LkV yX2_empty cX2_empty 2 (some .int) 0 := ⟨⟨(wtm_2 191 (by decide +kernel) (by decide +kernel)), ini_X2, by decide +kernel, by decide +kernel, by decide +kernel⟩, (wtm_2 189 (by decide +kernel) (by decide +kernel)), (wtm_2 190 (by decide +kernel) (by decide +kernel))⟩
theorem lk_X2_rewind : LkV yX2_rewind cX2_rewind 1 none 0 := ⟨⟨(wtm_2 203 (by decide +kernel) (by decide +kernel)), ini_X2, by decide +kernel, by decide +kernel, by decide +kernel⟩, (wtm_2 201 (by decide +kernel) (by decide +kernel)), (wtm_2 202 (by decide +kernel) (by decide +kernel))⟩
theorem lk_X2_skipSpaces : LkV yX2_skipSpaces cX2_skipSpaces 1 none 0 := ⟨⟨(wtm_2 211 (by decide +kernel) (by decide +kernel)), ini_X2, by decide +kernel, by decide +kernel, by decide +kernel⟩, (wtm_2 210 (by decide +kernel) (by decide +kernel)), (wtp 0 (q := 6) (by decide +kernel))⟩
theorem lk_X2_isWordAt : LkV yX2_isWordAt cX2_isWordAt 4 (some .boolean) 2 := ⟨⟨(wtm_2 221 (by decide +kernel) (by decide +kernel)), ini_X2, by decide +kernel, by decide +kernel, by decide +kernel⟩, (wtm_2 220 (by decide +kernel) (by decide +kernel)), (wtp 2 (q := 6) (by decide +kernel))⟩
theorem lk_X2_failAt : LkV yX2_failAt cX2_failAt 2 (some .boolean) 1 := ⟨⟨(wtm_3 33 (by decide +kernel) (by decide +kernel)), ini_X2, by decide +kernel, by decide +kernel, by decide +kernel⟩, (wtm_3 32 (by decide +kernel) (by decide +kernel)), (wtp 3 (q := 6) (by decide +kernel))⟩
theorem lk_X2_readWord : LkV yX2_readWord cX2_readWord 3 (some .boolean) 0 := ⟨⟨(wtm_2 215 (by decide +kernel) (by decide +kernel)), ini_X2, by decide +kernel, by decide +kernel, by decide +kernel⟩, (wtm_2 214 (by decide +kernel) (by decide +kernel)), (wtp 1 (q := 6) (by decide +kernel))⟩
theorem lk_X2_isAtDigit : LkV yX2_isAtDigit cX2_isAtDigit 1 (some .boolean) 0 := ⟨⟨(wtm_3 45 (by decide +kernel) (by decide +kernel)), ini_X2, by decide +kernel, by decide +kernel, by decide +kernel⟩, (wtm_3 44 (by decide +kernel) (by decide +kernel)), (wtp 6 (q := 6) (by decide +kernel))⟩
theorem lk_X2_readNumber : LkV yX2_readNumber cX2_readNumber 3 (some .boolean) 1 := ⟨⟨(wtm_3 41 (by decide +kernel) (by decide +kernel)), ini_X2, by decide +kernel, by decide +kernel, by decide +kernel⟩, (wtm_3 40 (by decide +kernel) (by decide +kernel)), (wtp 5 (q := 6) (by decide +kernel))⟩
theorem lk_X2_readNumbers : LkV yX2_readNumbers cX2_readNumbers 2 (some .boolean) 0 := ⟨⟨(wtm_3 37 (by decide +kernel) (by decide +kernel)), ini_X2, by decide +kernel, by decide +kernel, by decide +kernel⟩, (wtm_3 36 (by decide +kernel) (by decide +kernel)), (wtp 4 (q := 6) (by decide +kernel))⟩
theorem lk_X2_readSemicolon : LkV yX2_readSemicolon cX2_readSemicolon 1 (some .boolean) 0 := ⟨⟨(wtm_3 49 (by decide +kernel) (by decide +kernel)), ini_X2, by decide +kernel, by decide +kernel, by decide +kernel⟩, (wtm_3 48 (by decide +kernel) (by decide +kernel)), (wtp 7 (q := 6) (by decide +kernel))⟩
theorem lk_X2_readNext : LkV yX2_readNext cX2_readNext 1 (some .boolean) 0 := ⟨⟨(wtm_2 207 (by decide +kernel) (by decide +kernel)), ini_X2, by decide +kernel, by decide +kernel, by decide +kernel⟩, (wtm_2 205 (by decide +kernel) (by decide +kernel)), (wtm_2 206 (by decide +kernel) (by decide +kernel))⟩
theorem lk_X2_findFault : LkV yX2_findFault cX2_findFault 2 (some .int) 0 := ⟨⟨(wtm_2 199 (by decide +kernel) (by decide +kernel)), ini_X2, by decide +kernel, by decide +kernel, by decide +kernel⟩, (wtm_2 197 (by decide +kernel) (by decide +kernel)), (wtm_2 198 (by decide +kernel) (by decide +kernel))⟩
theorem lk_X3_init : LkI yX3_init cX3_init 1 0 := ⟨⟨(wtm_1 95 (by decide +kernel) (by decide +kernel)), ini_X3, by decide +kernel, by decide +kernel, by decide +kernel⟩, (wtm_1 94 (by decide +kernel) (by decide +kernel)), rfl⟩
theorem lk_X3_copyFrom : LkV yX3_copyFrom cX3_copyFrom 2 none 1 := ⟨⟨(wtm_3 72 (by decide +kernel) (by decide +kernel)), ini_X3, by decide +kernel, by decide +kernel, by decide +kernel⟩, (wtm_3 70 (by decide +kernel) (by decide +kernel)), (wtm_3 71 (by decide +kernel) (by decide +kernel))⟩
theorem lk_X3_standAt : LkV yX3_standAt cX3_standAt 2 none 1 := ⟨⟨(wtm_4 41 (by decide +kernel) (by decide +kernel)), ini_X3, by decide +kernel, by decide +kernel, by decide +kernel⟩, (wtm_4 39 (by decide +kernel) (by decide +kernel)), (wtm_4 40 (by decide +kernel) (by decide +kernel))⟩
theorem lk_X4_init : LkI yX4_init cX4_init 2 1 := ⟨⟨(wtm_2 82 (by decide +kernel) (by decide +kernel)), ini_X4, by decide +kernel, by decide +kernel, by decide +kernel⟩, (wtm_2 81 (by decide +kernel) (by decide +kernel)), rfl⟩
theorem lk_X4_makeVenue : LkV yX4_makeVenue cX4_makeVenue 7 (some .int) 4 := ⟨⟨(wtm_5 90 (by decide +kernel) (by decide +kernel)), ini_X4, by decide +kernel, by decide +kernel, by decide +kernel⟩, (wtm_5 88 (by decide +kernel) (by decide +kernel)), (wtm_5 89 (by decide +kernel) (by decide +kernel))⟩
theorem lk_X4_changeClimate : LkV yX4_changeClimate cX4_changeClimate 6 (some .int) 3 := ⟨⟨(wtm_5 106 (by decide +kernel) (by decide +kernel)), ini_X4, by decide +kernel, by decide +kernel, by decide +kernel⟩, (wtm_5 104 (by decide +kernel) (by decide +kernel)), (wtm_5 105 (by decide +kernel) (by decide +kernel))⟩
theorem lk_X4_changeWay : LkV yX4_changeWay cX4_changeWay 5 (some .int) 3 := ⟨⟨(wtm_5 121 (by decide +kernel) (by decide +kernel)), ini_X4, by decide +kernel, by decide +kernel, by decide +kernel⟩, (wtm_5 119 (by decide +kernel) (by decide +kernel)), (wtm_5 120 (by decide +kernel) (by decide +kernel))⟩
theorem lk_X4_changeLender : LkV yX4_changeLender cX4_changeLender 5 (some .int) 3 := ⟨⟨(wtm_5 139 (by decide +kernel) (by decide +kernel)), ini_X4, by decide +kernel, by decide +kernel, by decide +kernel⟩, (wtm_5 137 (by decide +kernel) (by decide +kernel)), (wtm_5 138 (by decide +kernel) (by decide +kernel))⟩
theorem lk_X4_changeWayRate : LkV yX4_changeWayRate cX4_changeWayRate 3 (some .int) 1 := ⟨⟨(wtm_5 154 (by decide +kernel) (by decide +kernel)), ini_X4, by decide +kernel, by decide +kernel, by decide +kernel⟩, (wtm_5 152 (by decide +kernel) (by decide +kernel)), (wtm_5 153 (by decide +kernel) (by decide +kernel))⟩
theorem lk_X4_makeCourier : LkV yX4_makeCourier cX4_makeCourier 3 (some .int) 1 := ⟨⟨(wtm_5 169 (by decide +kernel) (by decide +kernel)), ini_X4, by decide +kernel, by decide +kernel, by decide +kernel⟩, (wtm_5 167 (by decide +kernel) (by decide +kernel)), (wtm_5 168 (by decide +kernel) (by decide +kernel))⟩
theorem lk_X4_makeCrate : LkV yX4_makeCrate cX4_makeCrate 5 (some .int) 2 := ⟨⟨(wtm_5 184 (by decide +kernel) (by decide +kernel)), ini_X4, by decide +kernel, by decide +kernel, by decide +kernel⟩, (wtm_5 182 (by decide +kernel) (by decide +kernel)), (wtm_5 183 (by decide +kernel) (by decide +kernel))⟩
theorem lk_X4_makeWork : LkV yX4_makeWork cX4_makeWork 8 (some .int) 5 := ⟨⟨(wtm_5 200 (by decide +kernel) (by decide +kernel)), ini_X4, by decide +kernel, by decide +kernel, by decide +kernel⟩, (wtm_5 198 (by decide +kernel) (by decide +kernel)), (wtm_5 199 (by decide +kernel) (by decide +kernel))⟩
theorem lk_X6_worksDirectlyIn : LkV yX6_worksDirectlyIn cX6_worksDirectlyIn 4 (some .int) 1 := ⟨⟨(wtm_4 23 (by decide +kernel) (by decide +kernel)), ini_X6, by decide +kernel, by decide +kernel, by decide +kernel⟩, (wtm_4 21 (by decide +kernel) (by decide +kernel)), (wtm_4 22 (by decide +kernel) (by decide +kernel))⟩
theorem lk_X4_openCrate : LkV yX4_openCrate cX4_openCrate 4 (some .int) 1 := ⟨⟨(wtm_4 19 (by decide +kernel) (by decide +kernel)), ini_X4, by decide +kernel, by decide +kernel, by decide +kernel⟩, (wtm_4 17 (by decide +kernel) (by decide +kernel)), (wtm_4 18 (by decide +kernel) (by decide +kernel))⟩
theorem lk_X6_worksInOrBelow : LkV yX6_worksInOrBelow cX6_worksInOrBelow 4 (some .int) 1 := ⟨⟨(wtm_4 33 (by decide +kernel) (by decide +kernel)), ini_X6, by decide +kernel, by decide +kernel, by decide +kernel⟩, (wtm_4 31 (by decide +kernel) (by decide +kernel)), (wtm_4 32 (by decide +kernel) (by decide +kernel))⟩
theorem lk_X4_closeCrate : LkV yX4_closeCrate cX4_closeCrate 4 (some .int) 1 := ⟨⟨(wtm_4 27 (by decide +kernel) (by decide +kernel)), ini_X4, by decide +kernel, by decide +kernel, by decide +kernel⟩, (wtm_4 25 (by decide +kernel) (by decide +kernel)), (wtm_4 26 (by decide +kernel) (by decide +kernel))⟩
theorem lk_X6_cratesDirectlyIn : LkV yX6_cratesDirectlyIn cX6_cratesDirectlyIn 4 (some .int) 1 := ⟨⟨(wtm_4 45 (by decide +kernel) (by decide +kernel)), ini_X6, by decide +kernel, by decide +kernel, by decide +kernel⟩, (wtm_4 43 (by decide +kernel) (by decide +kernel)), (wtm_4 44 (by decide +kernel) (by decide +kernel))⟩
theorem lk_X4_putCrateInto : LkV yX4_putCrateInto cX4_putCrateInto 3 (some .int) 2 := ⟨⟨(wtm_4 37 (by decide +kernel) (by decide +kernel)), ini_X4, by decide +kernel, by decide +kernel, by decide +kernel⟩, (wtm_4 35 (by decide +kernel) (by decide +kernel)), (wtm_4 36 (by decide +kernel) (by decide +kernel))⟩
theorem lk_X4_takeCrateOut : LkV yX4_takeCrateOut cX4_takeCrateOut 3 (some .int) 1 := ⟨⟨(wtm_4 49 (by decide +kernel) (by decide +kernel)), ini_X4, by decide +kernel, by decide +kernel, by decide +kernel⟩, (wtm_4 47 (by decide +kernel) (by decide +kernel)), (wtm_4 48 (by decide +kernel) (by decide +kernel))⟩
theorem lk_X4_packWork : LkV yX4_packWork cX4_packWork 3 (some .int) 2 := ⟨⟨(wtm_4 53 (by decide +kernel) (by decide +kernel)), ini_X4, by decide +kernel, by decide +kernel, by decide +kernel⟩, (wtm_4 51 (by decide +kernel) (by decide +kernel)), (wtm_4 52 (by decide +kernel) (by decide +kernel))⟩
theorem lk_X4_unpackWork : LkV yX4_unpackWork cX4_unpackWork 3 (some .int) 1 := ⟨⟨(wtm_4 57 (by decide +kernel) (by decide +kernel)), ini_X4, by decide +kernel, by decide +kernel, by decide +kernel⟩, (wtm_4 55 (by decide +kernel) (by decide +kernel)), (wtm_4 56 (by decide +kernel) (by decide +kernel))⟩
theorem lk_X4_sendCrate : LkV yX4_sendCrate cX4_sendCrate 5 (some .int) 3 := ⟨⟨(wtm_4 62 (by decide +kernel) (by decide +kernel)), ini_X4, by decide +kernel, by decide +kernel, by decide +kernel⟩, (wtm_4 60 (by decide +kernel) (by decide +kernel)), (wtm_4 61 (by decide +kernel) (by decide +kernel))⟩
theorem lk_X4_arrive : LkV yX4_arrive cX4_arrive 4 none 1 := ⟨⟨(wtm_4 76 (by decide +kernel) (by decide +kernel)), ini_X4, by decide +kernel, by decide +kernel, by decide +kernel⟩, (wtm_4 75 (by decide +kernel) (by decide +kernel)), (wtp 20 (q := 1) (by decide +kernel))⟩
theorem lk_X4_premiumOf : LkS yX4_premiumOf cX4_premiumOf 2 (some .int) 2 := ⟨⟨(wtm_4 84 (by decide +kernel) (by decide +kernel)), ini_X4, by decide +kernel, by decide +kernel, by decide +kernel⟩, (wtm_4 83 (by decide +kernel) (by decide +kernel))⟩
theorem lk_X11_notePlace : LkV yX11_notePlace cX11_notePlace 2 none 1 := ⟨⟨(wtm_4 89 (by decide +kernel) (by decide +kernel)), ini_X11, by decide +kernel, by decide +kernel, by decide +kernel⟩, (wtm_4 87 (by decide +kernel) (by decide +kernel)), (wtm_4 88 (by decide +kernel) (by decide +kernel))⟩
theorem lk_X4_endDay : LkV yX4_endDay cX4_endDay 5 none 0 := ⟨⟨(wtm_4 81 (by decide +kernel) (by decide +kernel)), ini_X4, by decide +kernel, by decide +kernel, by decide +kernel⟩, (wtm_4 80 (by decide +kernel) (by decide +kernel)), (wtp 21 (q := 1) (by decide +kernel))⟩
theorem lk_X4_passHour : LkV yX4_passHour cX4_passHour 2 none 0 := ⟨⟨(wtm_4 72 (by decide +kernel) (by decide +kernel)), ini_X4, by decide +kernel, by decide +kernel, by decide +kernel⟩, (wtm_4 71 (by decide +kernel) (by decide +kernel)), (wtp 19 (q := 1) (by decide +kernel))⟩
theorem lk_X4_letHoursPass : LkV yX4_letHoursPass cX4_letHoursPass 4 (some .int) 1 := ⟨⟨(wtm_4 68 (by decide +kernel) (by decide +kernel)), ini_X4, by decide +kernel, by decide +kernel, by decide +kernel⟩, (wtm_4 66 (by decide +kernel) (by decide +kernel)), (wtm_4 67 (by decide +kernel) (by decide +kernel))⟩
theorem lk_X5_init : LkI yX5_init cX5_init 3 2 := ⟨⟨(wtm_2 102 (by decide +kernel) (by decide +kernel)), ini_X5, by decide +kernel, by decide +kernel, by decide +kernel⟩, (wtm_2 101 (by decide +kernel) (by decide +kernel)), rfl⟩
theorem lk_X5_listAround : LkV yX5_listAround cX5_listAround 4 (some .int) 1 := ⟨⟨(wtm_4 185 (by decide +kernel) (by decide +kernel)), ini_X5, by decide +kernel, by decide +kernel, by decide +kernel⟩, (wtm_4 184 (by decide +kernel) (by decide +kernel)), (wtp 32 (q := 3) (by decide +kernel))⟩
theorem lk_X5_timeThrough : LkV yX5_timeThrough cX5_timeThrough 10 (some .int) 3 := ⟨⟨(wtm_4 180 (by decide +kernel) (by decide +kernel)), ini_X5, by decide +kernel, by decide +kernel, by decide +kernel⟩, (wtm_4 179 (by decide +kernel) (by decide +kernel)), (wtp 31 (q := 3) (by decide +kernel))⟩
theorem lk_X5_timeOfWork : LkV yX5_timeOfWork cX5_timeOfWork 4 (some .int) 1 := ⟨⟨(wtm_4 174 (by decide +kernel) (by decide +kernel)), ini_X5, by decide +kernel, by decide +kernel, by decide +kernel⟩, (wtm_4 172 (by decide +kernel) (by decide +kernel)), (wtm_4 173 (by decide +kernel) (by decide +kernel))⟩
theorem lk_X5_timeOfCrate : LkV yX5_timeOfCrate cX5_timeOfCrate 4 (some .int) 1 := ⟨⟨(wtm_4 169 (by decide +kernel) (by decide +kernel)), ini_X5, by decide +kernel, by decide +kernel, by decide +kernel⟩, (wtm_4 167 (by decide +kernel) (by decide +kernel)), (wtm_4 168 (by decide +kernel) (by decide +kernel))⟩
theorem lk_X5_timeIfSent : LkV yX5_timeIfSent cX5_timeIfSent 7 (some .int) 2 := ⟨⟨(wtm_6 111 (by decide +kernel) (by decide +kernel)), ini_X5, by decide +kernel, by decide +kernel, by decide +kernel⟩, (wtm_6 110 (by decide +kernel) (by decide +kernel)), (wtp 35 (q := 3) (by decide +kernel))⟩
theorem lk_X5_soonestVenue : LkV yX5_soonestVenue cX5_soonestVenue 7 (some .int) 2 := ⟨⟨(wtm_6 106 (by decide +kernel) (by decide +kernel)), ini_X5, by decide +kernel, by decide +kernel, by decide +kernel⟩, (wtm_6 104 (by decide +kernel) (by decide +kernel)), (wtm_6 105 (by decide +kernel) (by decide +kernel))⟩
theorem lk_X9_init : LkI yX9_init cX9_init 1 0 := ⟨⟨(wtm_1 53 (by decide +kernel) (by decide +kernel)), ini_X9, by decide +kernel, by decide +kernel, by decide +kernel⟩, (wtm_1 52 (by decide +kernel) (by decide +kernel)), rfl⟩
theorem lk_X11_init : LkI yX11_init cX11_init 1 0 := ⟨⟨(wtm_1 165 (by decide +kernel) (by decide +kernel)), ini_X11, by decide +kernel, by decide +kernel, by decide +kernel⟩, (wtm_1 164 (by decide +kernel) (by decide +kernel)), rfl⟩
theorem lk_X6_init : LkI yX6_init cX6_init 2 0 := ⟨⟨(wtm_1 40 (by decide +kernel) (by decide +kernel)), ini_X6, by decide +kernel, by decide +kernel, by decide +kernel⟩, (wtm_1 39 (by decide +kernel) (by decide +kernel)), rfl⟩
theorem lk_X9_copyFrom : LkV yX9_copyFrom cX9_copyFrom 2 none 1 := ⟨⟨(wtm_3 65 (by decide +kernel) (by decide +kernel)), ini_X9, by decide +kernel, by decide +kernel, by decide +kernel⟩, (wtm_3 63 (by decide +kernel) (by decide +kernel)), (wtm_3 64 (by decide +kernel) (by decide +kernel))⟩
theorem lk_X11_copyFrom : LkV yX11_copyFrom cX11_copyFrom 2 none 1 := ⟨⟨(wtm_3 76 (by decide +kernel) (by decide +kernel)), ini_X11, by decide +kernel, by decide +kernel, by decide +kernel⟩, (wtm_3 74 (by decide +kernel) (by decide +kernel)), (wtm_3 75 (by decide +kernel) (by decide +kernel))⟩
theorem lk_X6_copyFrom : LkV yX6_copyFrom cX6_copyFrom 3 none 1 := ⟨⟨(wtm_3 61 (by decide +kernel) (by decide +kernel)), ini_X6, by decide +kernel, by decide +kernel, by decide +kernel⟩, (wtm_3 59 (by decide +kernel) (by decide +kernel)), (wtm_3 60 (by decide +kernel) (by decide +kernel))⟩
theorem lk_X6_cratesOutwards : LkV yX6_cratesOutwards cX6_cratesOutwards 4 (some .int) 1 := ⟨⟨(wtm_4 202 (by decide +kernel) (by decide +kernel)), ini_X6, by decide +kernel, by decide +kernel, by decide +kernel⟩, (wtm_4 200 (by decide +kernel) (by decide +kernel)), (wtm_4 201 (by decide +kernel) (by decide +kernel))⟩
theorem lk_X6_cratesBelow : LkV yX6_cratesBelow cX6_cratesBelow 4 (some .int) 1 := ⟨⟨(wtm_4 163 (by decide +kernel) (by decide +kernel)), ini_X6, by decide +kernel, by decide +kernel, by decide +kernel⟩, (wtm_4 161 (by decide +kernel) (by decide +kernel)), (wtm_4 162 (by decide +kernel) (by decide +kernel))⟩
theorem lk_X7_init : LkI yX7_init cX7_init 2 0 := ⟨⟨(wtm_2 118 (by decide +kernel) (by decide +kernel)), ini_X7, by decide +kernel, by decide +kernel, by decide +kernel⟩, (wtm_2 117 (by decide +kernel) (by decide +kernel)), rfl⟩
theorem lk_X7_dropOldest : LkV yX7_dropOldest cX7_dropOldest 3 none 0 := ⟨⟨(wtm_3 57 (by decide +kernel) (by decide +kernel)), ini_X7, by decide +kernel, by decide +kernel, by decide +kernel⟩, (wtm_3 56 (by decide +kernel) (by decide +kernel)), (wtp 8 (q := 2) (by decide +kernel))⟩
theorem lk_X7_keep : LkV yX7_keep cX7_keep 2 none 1 := ⟨⟨(wtm_3 53 (by decide +kernel) (by decide +kernel)), ini_X7, by decide +kernel, by decide +kernel, by decide +kernel⟩, (wtm_3 51 (by decide +kernel) (by decide +kernel)), (wtm_3 52 (by decide +kernel) (by decide +kernel))⟩
theorem lk_X7_restore : LkV yX7_restore cX7_restore 2 (some .int) 1 := ⟨⟨(wtm_6 138 (by decide +kernel) (by decide +kernel)), ini_X7, by decide +kernel, by decide +kernel, by decide +kernel⟩, (wtm_6 136 (by decide +kernel) (by decide +kernel)), (wtm_6 137 (by decide +kernel) (by decide +kernel))⟩
theorem lk_X8_init : LkI yX8_init cX8_init 2 1 := ⟨⟨(wtm_2 92 (by decide +kernel) (by decide +kernel)), ini_X8, by decide +kernel, by decide +kernel, by decide +kernel⟩, (wtm_2 91 (by decide +kernel) (by decide +kernel)), rfl⟩
theorem lk_X8_asNumber : LkS yX8_asNumber cX8_asNumber 1 (some .int) 1 := ⟨⟨(wtm_4 144 (by decide +kernel) (by decide +kernel)), ini_X8, by decide +kernel, by decide +kernel, by decide +kernel⟩, (wtm_4 143 (by decide +kernel) (by decide +kernel))⟩
theorem lk_X8_temperatureIn : LkV yX8_temperatureIn cX8_temperatureIn 4 (some .int) 2 := ⟨⟨(wtm_4 148 (by decide +kernel) (by decide +kernel)), ini_X8, by decide +kernel, by decide +kernel, by decide +kernel⟩, (wtm_4 147 (by decide +kernel) (by decide +kernel)), (wtp 28 (q := 1) (by decide +kernel))⟩
theorem lk_X8_humidityIn : LkV yX8_humidityIn cX8_humidityIn 4 (some .int) 2 := ⟨⟨(wtm_4 153 (by decide +kernel) (by decide +kernel)), ini_X8, by decide +kernel, by decide +kernel, by decide +kernel⟩, (wtm_4 152 (by decide +kernel) (by decide +kernel)), (wtp 29 (q := 1) (by decide +kernel))⟩
theorem lk_X8_hoursNeeded : LkV yX8_hoursNeeded cX8_hoursNeeded 4 (some .int) 2 := ⟨⟨(wtm_4 157 (by decide +kernel) (by decide +kernel)), ini_X8, by decide +kernel, by decide +kernel, by decide +kernel⟩, (wtm_4 156 (by decide +kernel) (by decide +kernel)), (wtp 30 (q := 1) (by decide +kernel))⟩
theorem lk_X8_ofCrate : LkV yX8_ofCrate cX8_ofCrate 5 (some .int) 2 := ⟨⟨(wtm_4 140 (by decide +kernel) (by decide +kernel)), ini_X8, by decide +kernel, by decide +kernel, by decide +kernel⟩, (wtm_4 138 (by decide +kernel) (by decide +kernel)), (wtm_4 139 (by decide +kernel) (by decide +kernel))⟩
theorem lk_X8_ofWork : LkV yX8_ofWork cX8_ofWork 4 (some .int) 2 := ⟨⟨(wtm_4 197 (by decide +kernel) (by decide +kernel)), ini_X8, by decide +kernel, by decide +kernel, by decide +kernel⟩, (wtm_4 195 (by decide +kernel) (by decide +kernel)), (wtm_4 196 (by decide +kernel) (by decide +kernel))⟩
theorem lk_X8_cratesAt : LkV yX8_cratesAt cX8_cratesAt 4 (some .int) 1 := ⟨⟨(wtm_4 128 (by decide +kernel) (by decide +kernel)), ini_X8, by decide +kernel, by decide +kernel, by decide +kernel⟩, (wtm_4 127 (by decide +kernel) (by decide +kernel)), (wtp 25 (q := 1) (by decide +kernel))⟩
theorem lk_X8_couriersAt : LkV yX8_couriersAt cX8_couriersAt 4 (some .int) 1 := ⟨⟨(wtm_4 132 (by decide +kernel) (by decide +kernel)), ini_X8, by decide +kernel, by decide +kernel, by decide +kernel⟩, (wtm_4 131 (by decide +kernel) (by decide +kernel)), (wtp 26 (q := 1) (by decide +kernel))⟩
theorem lk_X8_ofVenue : LkV yX8_ofVenue cX8_ofVenue 4 (some .int) 2 := ⟨⟨(wtm_4 122 (by decide +kernel) (by decide +kernel)), ini_X8, by decide +kernel, by decide +kernel, by decide +kernel⟩, (wtm_4 120 (by decide +kernel) (by decide +kernel)), (wtm_4 121 (by decide +kernel) (by decide +kernel))⟩
theorem lk_X8_worksOnTheirWay : LkV yX8_worksOnTheirWay cX8_worksOnTheirWay 3 (some .int) 0 := ⟨⟨(wtm_4 109 (by decide +kernel) (by decide +kernel)), ini_X8, by decide +kernel, by decide +kernel, by decide +kernel⟩, (wtm_4 108 (by decide +kernel) (by decide +kernel)), (wtp 22 (q := 1) (by decide +kernel))⟩
theorem lk_X8_openCrates : LkV yX8_openCrates cX8_openCrates 3 (some .int) 0 := ⟨⟨(wtm_4 114 (by decide +kernel) (by decide +kernel)), ini_X8, by decide +kernel, by decide +kernel, by decide +kernel⟩, (wtm_4 113 (by decide +kernel) (by decide +kernel)), (wtp 23 (q := 1) (by decide +kernel))⟩
theorem lk_X8_ofWhole : LkV yX8_ofWhole cX8_ofWhole 2 (some .int) 1 := ⟨⟨(wtm_4 105 (by decide +kernel) (by decide +kernel)), ini_X8, by decide +kernel, by decide +kernel, by decide +kernel⟩, (wtm_4 103 (by decide +kernel) (by decide +kernel)), (wtm_4 104 (by decide +kernel) (by decide +kernel))⟩
theorem lk_X11_placeNoted : LkV yX11_placeNoted cX11_placeNoted 2 (some .int) 1 := ⟨⟨(wtm_4 206 (by decide +kernel) (by decide +kernel)), ini_X11, by decide +kernel, by decide +kernel, by decide +kernel⟩, (wtm_4 204 (by decide +kernel) (by decide +kernel)), (wtm_4 205 (by decide +kernel) (by decide +kernel))⟩
theorem lk_X12_init : LkI yX12_init cX12_init 1 0 := ⟨⟨(wtm_1 32 (by decide +kernel) (by decide +kernel)), ini_X12, by decide +kernel, by decide +kernel, by decide +kernel⟩, (wtm_1 31 (by decide +kernel) (by decide +kernel)), rfl⟩
theorem lk_X12_throwIfWrong : LkS yX12_throwIfWrong cX12_throwIfWrong 1 none 1 := ⟨⟨(wtm_4 227 (by decide +kernel) (by decide +kernel)), ini_X12, by decide +kernel, by decide +kernel, by decide +kernel⟩, (wtm_4 226 (by decide +kernel) (by decide +kernel))⟩
theorem lk_X12_addVenue : LkV yX12_addVenue cX12_addVenue 5 (some .int) 4 := ⟨⟨(wtm_4 216 (by decide +kernel) (by decide +kernel)), ini_X12, by decide +kernel, by decide +kernel, by decide +kernel⟩, (wtm_4 214 (by decide +kernel) (by decide +kernel)), (wtm_4 215 (by decide +kernel) (by decide +kernel))⟩
theorem lk_X12_setClimate : LkV yX12_setClimate cX12_setClimate 4 (some .int) 3 := ⟨⟨(wtm_5 98 (by decide +kernel) (by decide +kernel)), ini_X12, by decide +kernel, by decide +kernel, by decide +kernel⟩, (wtm_5 96 (by decide +kernel) (by decide +kernel)), (wtm_5 97 (by decide +kernel) (by decide +kernel))⟩
theorem lk_X12_setWay : LkV yX12_setWay cX12_setWay 4 (some .int) 3 := ⟨⟨(wtm_5 113 (by decide +kernel) (by decide +kernel)), ini_X12, by decide +kernel, by decide +kernel, by decide +kernel⟩, (wtm_5 111 (by decide +kernel) (by decide +kernel)), (wtm_5 112 (by decide +kernel) (by decide +kernel))⟩
theorem lk_X12_setLender : LkV yX12_setLender cX12_setLender 4 (some .int) 3 := ⟨⟨(wtm_5 128 (by decide +kernel) (by decide +kernel)), ini_X12, by decide +kernel, by decide +kernel, by decide +kernel⟩, (wtm_5 126 (by decide +kernel) (by decide +kernel)), (wtm_5 127 (by decide +kernel) (by decide +kernel))⟩
theorem lk_X12_setWayRate : LkV yX12_setWayRate cX12_setWayRate 2 (some .int) 1 := ⟨⟨(wtm_5 146 (by decide +kernel) (by decide +kernel)), ini_X12, by decide +kernel, by decide +kernel, by decide +kernel⟩, (wtm_5 144 (by decide +kernel) (by decide +kernel)), (wtm_5 145 (by decide +kernel) (by decide +kernel))⟩
theorem lk_X12_addCourier : LkV yX12_addCourier cX12_addCourier 2 (some .int) 1 := ⟨⟨(wtm_5 161 (by decide +kernel) (by decide +kernel)), ini_X12, by decide +kernel, by decide +kernel, by decide +kernel⟩, (wtm_5 159 (by decide +kernel) (by decide +kernel)), (wtm_5 160 (by decide +kernel) (by decide +kernel))⟩
theorem lk_X12_addCrate : LkV yX12_addCrate cX12_addCrate 3 (some .int) 2 := ⟨⟨(wtm_5 176 (by decide +kernel) (by decide +kernel)), ini_X12, by decide +kernel, by decide +kernel, by decide +kernel⟩, (wtm_5 174 (by decide +kernel) (by decide +kernel)), (wtm_5 175 (by decide +kernel) (by decide +kernel))⟩
theorem lk_X12_addWork : LkV yX12_addWork cX12_addWork 6 (some .int) 5 := ⟨⟨(wtm_5 191 (by decide +kernel) (by decide +kernel)), ini_X12, by decide +kernel, by decide +kernel, by decide +kernel⟩, (wtm_5 189 (by decide +kernel) (by decide +kernel)), (wtm_5 190 (by decide +kernel) (by decide +kernel))⟩
theorem lk_X12_open : LkV yX12_open cX12_open 2 (some .int) 1 := ⟨⟨(wtm_5 207 (by decide +kernel) (by decide +kernel)), ini_X12, by decide +kernel, by decide +kernel, by decide +kernel⟩, (wtm_5 205 (by decide +kernel) (by decide +kernel)), (wtm_5 206 (by decide +kernel) (by decide +kernel))⟩
theorem lk_X12_close : LkV yX12_close cX12_close 2 (some .int) 1 := ⟨⟨(wtm_5 214 (by decide +kernel) (by decide +kernel)), ini_X12, by decide +kernel, by decide +kernel, by decide +kernel⟩, (wtm_5 212 (by decide +kernel) (by decide +kernel)), (wtm_5 213 (by decide +kernel) (by decide +kernel))⟩
theorem lk_X12_nest : LkV yX12_nest cX12_nest 3 (some .int) 2 := ⟨⟨(wtm_5 221 (by decide +kernel) (by decide +kernel)), ini_X12, by decide +kernel, by decide +kernel, by decide +kernel⟩, (wtm_5 219 (by decide +kernel) (by decide +kernel)), (wtm_5 220 (by decide +kernel) (by decide +kernel))⟩
theorem lk_X12_takeOut : LkV yX12_takeOut cX12_takeOut 2 (some .int) 1 := ⟨⟨(wtm_5 228 (by decide +kernel) (by decide +kernel)), ini_X12, by decide +kernel, by decide +kernel, by decide +kernel⟩, (wtm_5 226 (by decide +kernel) (by decide +kernel)), (wtm_5 227 (by decide +kernel) (by decide +kernel))⟩
theorem lk_X12_pack : LkV yX12_pack cX12_pack 3 (some .int) 2 := ⟨⟨(wtm_5 235 (by decide +kernel) (by decide +kernel)), ini_X12, by decide +kernel, by decide +kernel, by decide +kernel⟩, (wtm_5 233 (by decide +kernel) (by decide +kernel)), (wtm_5 234 (by decide +kernel) (by decide +kernel))⟩
theorem lk_X12_unpack : LkV yX12_unpack cX12_unpack 2 (some .int) 1 := ⟨⟨(wtm_6 2 (by decide +kernel) (by decide +kernel)), ini_X12, by decide +kernel, by decide +kernel, by decide +kernel⟩, (wtm_6 0 (by decide +kernel) (by decide +kernel)), (wtm_6 1 (by decide +kernel) (by decide +kernel))⟩
theorem lk_X12_send : LkV yX12_send cX12_send 4 (some .int) 3 := ⟨⟨(wtm_6 9 (by decide +kernel) (by decide +kernel)), ini_X12, by decide +kernel, by decide +kernel, by decide +kernel⟩, (wtm_6 7 (by decide +kernel) (by decide +kernel)), (wtm_6 8 (by decide +kernel) (by decide +kernel))⟩
theorem lk_X12_advance : LkV yX12_advance cX12_advance 2 (some .int) 1 := ⟨⟨(wtm_6 16 (by decide +kernel) (by decide +kernel)), ini_X12, by decide +kernel, by decide +kernel, by decide +kernel⟩, (wtm_6 14 (by decide +kernel) (by decide +kernel)), (wtm_6 15 (by decide +kernel) (by decide +kernel))⟩
theorem lk_X12_refusal : LkV yX12_refusal cX12_refusal 4 (some .int) 3 := ⟨⟨(wtm_6 23 (by decide +kernel) (by decide +kernel)), ini_X12, by decide +kernel, by decide +kernel, by decide +kernel⟩, (wtm_6 21 (by decide +kernel) (by decide +kernel)), (wtm_6 22 (by decide +kernel) (by decide +kernel))⟩
theorem lk_X12_crate : LkV yX12_crate cX12_crate 3 (some .int) 2 := ⟨⟨(wtm_6 32 (by decide +kernel) (by decide +kernel)), ini_X12, by decide +kernel, by decide +kernel, by decide +kernel⟩, (wtm_6 30 (by decide +kernel) (by decide +kernel)), (wtm_6 31 (by decide +kernel) (by decide +kernel))⟩
theorem lk_X12_work : LkV yX12_work cX12_work 3 (some .int) 2 := ⟨⟨(wtm_6 44 (by decide +kernel) (by decide +kernel)), ini_X12, by decide +kernel, by decide +kernel, by decide +kernel⟩, (wtm_6 42 (by decide +kernel) (by decide +kernel)), (wtm_6 43 (by decide +kernel) (by decide +kernel))⟩
theorem lk_X12_noted : LkV yX12_noted cX12_noted 3 (some .int) 2 := ⟨⟨(wtm_6 52 (by decide +kernel) (by decide +kernel)), ini_X12, by decide +kernel, by decide +kernel, by decide +kernel⟩, (wtm_6 50 (by decide +kernel) (by decide +kernel)), (wtm_6 51 (by decide +kernel) (by decide +kernel))⟩
theorem lk_X12_venue : LkV yX12_venue cX12_venue 3 (some .int) 2 := ⟨⟨(wtm_6 63 (by decide +kernel) (by decide +kernel)), ini_X12, by decide +kernel, by decide +kernel, by decide +kernel⟩, (wtm_6 61 (by decide +kernel) (by decide +kernel)), (wtm_6 62 (by decide +kernel) (by decide +kernel))⟩
theorem lk_X12_courier : LkV yX12_courier cX12_courier 2 (some .int) 1 := ⟨⟨(wtm_6 71 (by decide +kernel) (by decide +kernel)), ini_X12, by decide +kernel, by decide +kernel, by decide +kernel⟩, (wtm_6 69 (by decide +kernel) (by decide +kernel)), (wtm_6 70 (by decide +kernel) (by decide +kernel))⟩
theorem lk_X12_whole : LkV yX12_whole cX12_whole 2 (some .int) 1 := ⟨⟨(wtm_6 80 (by decide +kernel) (by decide +kernel)), ini_X12, by decide +kernel, by decide +kernel, by decide +kernel⟩, (wtm_6 78 (by decide +kernel) (by decide +kernel)), (wtm_6 79 (by decide +kernel) (by decide +kernel))⟩
theorem lk_X12_readyAt : LkV yX12_readyAt cX12_readyAt 2 (some .int) 1 := ⟨⟨(wtm_6 87 (by decide +kernel) (by decide +kernel)), ini_X12, by decide +kernel, by decide +kernel, by decide +kernel⟩, (wtm_6 85 (by decide +kernel) (by decide +kernel)), (wtm_6 86 (by decide +kernel) (by decide +kernel))⟩
theorem lk_X12_allReadyAt : LkV yX12_allReadyAt cX12_allReadyAt 2 (some .int) 1 := ⟨⟨(wtm_6 94 (by decide +kernel) (by decide +kernel)), ini_X12, by decide +kernel, by decide +kernel, by decide +kernel⟩, (wtm_6 92 (by decide +kernel) (by decide +kernel)), (wtm_6 93 (by decide +kernel) (by decide +kernel))⟩
theorem lk_X12_bestVenue : LkV yX12_bestVenue cX12_bestVenue 3 (some .int) 2 := ⟨⟨(wtm_6 101 (by decide +kernel) (by decide +kernel)), ini_X12, by decide +kernel, by decide +kernel, by decide +kernel⟩, (wtm_6 99 (by decide +kernel) (by decide +kernel)), (wtm_6 100 (by decide +kernel) (by decide +kernel))⟩
theorem lk_X12_type : LkV yX12_type cX12_type 2 (some .int) 1 := ⟨⟨(wtm_6 119 (by decide +kernel) (by decide +kernel)), ini_X12, by decide +kernel, by decide +kernel, by decide +kernel⟩, (wtm_6 117 (by decide +kernel) (by decide +kernel)), (wtm_6 118 (by decide +kernel) (by decide +kernel))⟩
theorem lk_X12_clearCommands : LkV yX12_clearCommands cX12_clearCommands 1 (some .int) 0 := ⟨⟨(wtm_2 187 (by decide +kernel) (by decide +kernel)), ini_X12, by decide +kernel, by decide +kernel, by decide +kernel⟩, (wtm_2 185 (by decide +kernel) (by decide +kernel)), (wtm_2 186 (by decide +kernel) (by decide +kernel))⟩
theorem lk_X12_wrongWith : LkV yX12_wrongWith cX12_wrongWith 3 (some .int) 2 := ⟨⟨(wtm_3 84 (by decide +kernel) (by decide +kernel)), ini_X12, by decide +kernel, by decide +kernel, by decide +kernel⟩, (wtm_3 83 (by decide +kernel) (by decide +kernel)), (wtp 9 (q := 7) (by decide +kernel))⟩
theorem lk_X12_perform : LkV yX12_perform cX12_perform 3 (some .int) 2 := ⟨⟨(wtm_4 15 (by decide +kernel) (by decide +kernel)), ini_X12, by decide +kernel, by decide +kernel, by decide +kernel⟩, (wtm_4 14 (by decide +kernel) (by decide +kernel)), (wtp 18 (q := 7) (by decide +kernel))⟩
theorem lk_X12_runCommands : LkV yX12_runCommands cX12_runCommands 3 (some .int) 0 := ⟨⟨(wtm_2 195 (by decide +kernel) (by decide +kernel)), ini_X12, by decide +kernel, by decide +kernel, by decide +kernel⟩, (wtm_2 193 (by decide +kernel) (by decide +kernel)), (wtm_2 194 (by decide +kernel) (by decide +kernel))⟩
theorem lk_X12_undo : LkV yX12_undo cX12_undo 1 (some .int) 0 := ⟨⟨(wtm_6 134 (by decide +kernel) (by decide +kernel)), ini_X12, by decide +kernel, by decide +kernel, by decide +kernel⟩, (wtm_6 132 (by decide +kernel) (by decide +kernel)), (wtm_6 133 (by decide +kernel) (by decide +kernel))⟩
theorem lk_X12_mixed : LkS yX12_mixed cX12_mixed 4 (some .long) 2 := ⟨⟨(wtm_4 100 (by decide +kernel) (by decide +kernel)), ini_X12, by decide +kernel, by decide +kernel, by decide +kernel⟩, (wtm_4 99 (by decide +kernel) (by decide +kernel))⟩
theorem lk_X12_withVenues : LkV yX12_withVenues cX12_withVenues 7 (some .long) 1 := ⟨⟨(wtm_4 118 (by decide +kernel) (by decide +kernel)), ini_X12, by decide +kernel, by decide +kernel, by decide +kernel⟩, (wtm_4 117 (by decide +kernel) (by decide +kernel)), (wtp 24 (q := 7) (by decide +kernel))⟩
theorem lk_X12_withCrates : LkV yX12_withCrates cX12_withCrates 7 (some .long) 1 := ⟨⟨(wtm_4 136 (by decide +kernel) (by decide +kernel)), ini_X12, by decide +kernel, by decide +kernel, by decide +kernel⟩, (wtm_4 135 (by decide +kernel) (by decide +kernel)), (wtp 27 (q := 7) (by decide +kernel))⟩
theorem lk_X12_withWorks : LkV yX12_withWorks cX12_withWorks 7 (some .long) 1 := ⟨⟨(wtm_4 193 (by decide +kernel) (by decide +kernel)), ini_X12, by decide +kernel, by decide +kernel, by decide +kernel⟩, (wtm_4 192 (by decide +kernel) (by decide +kernel)), (wtp 33 (q := 7) (by decide +kernel))⟩
theorem lk_X12_digest : LkV yX12_digest cX12_digest 4 (some .long) 0 := ⟨⟨(wtm_4 96 (by decide +kernel) (by decide +kernel)), ini_X12, by decide +kernel, by decide +kernel, by decide +kernel⟩, (wtm_4 94 (by decide +kernel) (by decide +kernel)), (wtm_4 95 (by decide +kernel) (by decide +kernel))⟩
theorem lk_X13_init : LkI yX13_init cX13_init 2 0 := ⟨⟨(wtm_6 143 (by decide +kernel) (by decide +kernel)), ini_X13, by decide +kernel, by decide +kernel, by decide +kernel⟩, (wtm_6 142 (by decide +kernel) (by decide +kernel)), rfl⟩
theorem lk_X13_thrown : LkV yX13_thrown cX13_thrown 1 (some .int) 0 := ⟨⟨(wtm_6 182 (by decide +kernel) (by decide +kernel)), ini_X13, by decide +kernel, by decide +kernel, by decide +kernel⟩, (wtm_6 180 (by decide +kernel) (by decide +kernel)), (wtm_6 181 (by decide +kernel) (by decide +kernel))⟩
theorem lk_X13_in : LkS yX13_in cX13_in 3 (some .boolean) 3 := ⟨⟨(wtm_6 192 (by decide +kernel) (by decide +kernel)), ini_X13, by decide +kernel, by decide +kernel, by decide +kernel⟩, (wtm_6 191 (by decide +kernel) (by decide +kernel))⟩
theorem lk_X13_size : LkS yX13_size cX13_size 1 (some .int) 1 := ⟨⟨(wtm_7 44 (by decide +kernel) (by decide +kernel)), ini_X13, by decide +kernel, by decide +kernel, by decide +kernel⟩, (wtm_7 43 (by decide +kernel) (by decide +kernel))⟩
theorem lk_X13_greater : LkS yX13_greater cX13_greater 2 (some .int) 2 := ⟨⟨(wtm_8 59 (by decide +kernel) (by decide +kernel)), ini_X13, by decide +kernel, by decide +kernel, by decide +kernel⟩, (wtm_8 58 (by decide +kernel) (by decide +kernel))⟩
theorem lk_X13_keep : LkV yX13_keep cX13_keep 2 none 0 := ⟨⟨(wtm_6 197 (by decide +kernel) (by decide +kernel)), ini_X13, by decide +kernel, by decide +kernel, by decide +kernel⟩, (wtm_6 196 (by decide +kernel) (by decide +kernel)), (wtp 36 (q := 11) (by decide +kernel))⟩
theorem lk_X13_isVenue : LkV yX13_isVenue cX13_isVenue 2 (some .boolean) 1 := ⟨⟨(wtm_6 205 (by decide +kernel) (by decide +kernel)), ini_X13, by decide +kernel, by decide +kernel, by decide +kernel⟩, (wtm_6 204 (by decide +kernel) (by decide +kernel)), (wtp 37 (q := 11) (by decide +kernel))⟩
theorem lk_X13_isCrate : LkV yX13_isCrate cX13_isCrate 2 (some .boolean) 1 := ⟨⟨(wtm_7 17 (by decide +kernel) (by decide +kernel)), ini_X13, by decide +kernel, by decide +kernel, by decide +kernel⟩, (wtm_7 16 (by decide +kernel) (by decide +kernel)), (wtp 42 (q := 11) (by decide +kernel))⟩
theorem lk_X13_isWork : LkV yX13_isWork cX13_isWork 2 (some .boolean) 1 := ⟨⟨(wtm_7 120 (by decide +kernel) (by decide +kernel)), ini_X13, by decide +kernel, by decide +kernel, by decide +kernel⟩, (wtm_7 119 (by decide +kernel) (by decide +kernel)), (wtp 63 (q := 11) (by decide +kernel))⟩
theorem lk_X13_isCourier : LkV yX13_isCourier cX13_isCourier 2 (some .boolean) 1 := ⟨⟨(wtm_7 152 (by decide +kernel) (by decide +kernel)), ini_X13, by decide +kernel, by decide +kernel, by decide +kernel⟩, (wtm_7 151 (by decide +kernel) (by decide +kernel)), (wtp 69 (q := 11) (by decide +kernel))⟩
theorem lk_X13_ofVenue : LkV yX13_ofVenue cX13_ofVenue 3 (some .int) 2 := ⟨⟨(wtm_6 213 (by decide +kernel) (by decide +kernel)), ini_X13, by decide +kernel, by decide +kernel, by decide +kernel⟩, (wtm_6 212 (by decide +kernel) (by decide +kernel)), (wtp 38 (q := 11) (by decide +kernel))⟩
theorem lk_X13_of : LkV yX13_of cX13_of 3 (some .int) 2 := ⟨⟨(wtm_7 25 (by decide +kernel) (by decide +kernel)), ini_X13, by decide +kernel, by decide +kernel, by decide +kernel⟩, (wtm_7 24 (by decide +kernel) (by decide +kernel)), (wtp 44 (q := 11) (by decide +kernel))⟩
theorem lk_X13_put : LkV yX13_put cX13_put 4 none 3 := ⟨⟨(wtm_6 236 (by decide +kernel) (by decide +kernel)), ini_X13, by decide +kernel, by decide +kernel, by decide +kernel⟩, (wtm_6 235 (by decide +kernel) (by decide +kernel)), (wtp 39 (q := 11) (by decide +kernel))⟩
theorem lk_X13_ofWork : LkV yX13_ofWork cX13_ofWork 3 (some .int) 2 := ⟨⟨(wtm_7 56 (by decide +kernel) (by decide +kernel)), ini_X13, by decide +kernel, by decide +kernel, by decide +kernel⟩, (wtm_7 55 (by decide +kernel) (by decide +kernel)), (wtp 51 (q := 11) (by decide +kernel))⟩
theorem lk_X13_putWork : LkV yX13_putWork cX13_putWork 4 none 3 := ⟨⟨(wtm_7 5 (by decide +kernel) (by decide +kernel)), ini_X13, by decide +kernel, by decide +kernel, by decide +kernel⟩, (wtm_7 4 (by decide +kernel) (by decide +kernel)), (wtp 40 (q := 11) (by decide +kernel))⟩
theorem lk_X13_isOpen : LkV yX13_isOpen cX13_isOpen 2 (some .boolean) 1 := ⟨⟨(wtm_7 21 (by decide +kernel) (by decide +kernel)), ini_X13, by decide +kernel, by decide +kernel, by decide +kernel⟩, (wtm_7 20 (by decide +kernel) (by decide +kernel)), (wtp 43 (q := 11) (by decide +kernel))⟩
theorem lk_X13_outermost : LkV yX13_outermost cX13_outermost 3 (some .int) 1 := ⟨⟨(wtm_7 37 (by decide +kernel) (by decide +kernel)), ini_X13, by decide +kernel, by decide +kernel, by decide +kernel⟩, (wtm_7 36 (by decide +kernel) (by decide +kernel)), (wtp 47 (q := 11) (by decide +kernel))⟩
theorem lk_X13_venueOf : LkV yX13_venueOf cX13_venueOf 2 (some .int) 1 := ⟨⟨(wtm_7 33 (by decide +kernel) (by decide +kernel)), ini_X13, by decide +kernel, by decide +kernel, by decide +kernel⟩, (wtm_7 32 (by decide +kernel) (by decide +kernel)), (wtp 46 (q := 11) (by decide +kernel))⟩
theorem lk_X13_isReached : LkV yX13_isReached cX13_isReached 4 (some .boolean) 1 := ⟨⟨(wtm_7 29 (by decide +kernel) (by decide +kernel)), ini_X13, by decide +kernel, by decide +kernel, by decide +kernel⟩, (wtm_7 28 (by decide +kernel) (by decide +kernel)), (wtp 45 (q := 11) (by decide +kernel))⟩
theorem lk_X13_isWithin : LkV yX13_isWithin cX13_isWithin 4 (some .boolean) 2 := ⟨⟨(wtm_7 76 (by decide +kernel) (by decide +kernel)), ini_X13, by decide +kernel, by decide +kernel, by decide +kernel⟩, (wtm_7 75 (by decide +kernel) (by decide +kernel)), (wtp 55 (q := 11) (by decide +kernel))⟩
theorem lk_X13_standsIn : LkV yX13_standsIn cX13_standsIn 2 (some .int) 1 := ⟨⟨(wtm_7 172 (by decide +kernel) (by decide +kernel)), ini_X13, by decide +kernel, by decide +kernel, by decide +kernel⟩, (wtm_7 171 (by decide +kernel) (by decide +kernel)), (wtp 74 (q := 11) (by decide +kernel))⟩
theorem lk_X13_goesTo : LkV yX13_goesTo cX13_goesTo 3 (some .int) 1 := ⟨⟨(wtm_7 176 (by decide +kernel) (by decide +kernel)), ini_X13, by decide +kernel, by decide +kernel, by decide +kernel⟩, (wtm_7 175 (by decide +kernel) (by decide +kernel)), (wtp 75 (q := 11) (by decide +kernel))⟩
theorem lk_X13_worksIn : LkV yX13_worksIn cX13_worksIn 5 (some .int) 2 := ⟨⟨(wtm_7 72 (by decide +kernel) (by decide +kernel)), ini_X13, by decide +kernel, by decide +kernel, by decide +kernel⟩, (wtm_7 71 (by decide +kernel) (by decide +kernel)), (wtp 54 (q := 11) (by decide +kernel))⟩
theorem lk_X13_directWorks : LkV yX13_directWorks cX13_directWorks 4 (some .int) 1 := ⟨⟨(wtm_7 52 (by decide +kernel) (by decide +kernel)), ini_X13, by decide +kernel, by decide +kernel, by decide +kernel⟩, (wtm_7 51 (by decide +kernel) (by decide +kernel)), (wtp 50 (q := 11) (by decide +kernel))⟩
theorem lk_X13_directCrates : LkV yX13_directCrates cX13_directCrates 4 (some .int) 1 := ⟨⟨(wtm_7 96 (by decide +kernel) (by decide +kernel)), ini_X13, by decide +kernel, by decide +kernel, by decide +kernel⟩, (wtm_7 95 (by decide +kernel) (by decide +kernel)), (wtp 59 (q := 11) (by decide +kernel))⟩
theorem lk_X13_isClimate : LkS yX13_isClimate cX13_isClimate 2 (some .boolean) 2 := ⟨⟨(wtm_6 189 (by decide +kernel) (by decide +kernel)), ini_X13, by decide +kernel, by decide +kernel, by decide +kernel⟩, (wtm_6 188 (by decide +kernel) (by decide +kernel))⟩
theorem lk_X13_addVenue : LkV yX13_addVenue cX13_addVenue 7 (some .int) 4 := ⟨⟨(wtm_6 186 (by decide +kernel) (by decide +kernel)), ini_X13, by decide +kernel, by decide +kernel, by decide +kernel⟩, (wtm_6 184 (by decide +kernel) (by decide +kernel)), (wtm_6 185 (by decide +kernel) (by decide +kernel))⟩
theorem lk_X13_setClimate : LkV yX13_setClimate cX13_setClimate 6 (some .int) 3 := ⟨⟨(wtm_6 201 (by decide +kernel) (by decide +kernel)), ini_X13, by decide +kernel, by decide +kernel, by decide +kernel⟩, (wtm_6 199 (by decide +kernel) (by decide +kernel)), (wtm_6 200 (by decide +kernel) (by decide +kernel))⟩
theorem lk_X13_setWay : LkV yX13_setWay cX13_setWay 5 (some .int) 3 := ⟨⟨(wtm_6 209 (by decide +kernel) (by decide +kernel)), ini_X13, by decide +kernel, by decide +kernel, by decide +kernel⟩, (wtm_6 207 (by decide +kernel) (by decide +kernel)), (wtm_6 208 (by decide +kernel) (by decide +kernel))⟩
theorem lk_X13_isLent : LkS yX13_isLent cX13_isLent 2 (some .boolean) 2 := ⟨⟨(wtm_6 220 (by decide +kernel) (by decide +kernel)), ini_X13, by decide +kernel, by decide +kernel, by decide +kernel⟩, (wtm_6 219 (by decide +kernel) (by decide +kernel))⟩
theorem lk_X13_setLender : LkV yX13_setLender cX13_setLender 5 (some .int) 3 := ⟨⟨(wtm_6 217 (by decide +kernel) (by decide +kernel)), ini_X13, by decide +kernel, by decide +kernel, by decide +kernel⟩, (wtm_6 215 (by decide +kernel) (by decide +kernel)), (wtm_6 216 (by decide +kernel) (by decide +kernel))⟩
theorem lk_X13_setWayRate : LkV yX13_setWayRate cX13_setWayRate 3 (some .int) 1 := ⟨⟨(wtm_6 224 (by decide +kernel) (by decide +kernel)), ini_X13, by decide +kernel, by decide +kernel, by decide +kernel⟩, (wtm_6 222 (by decide +kernel) (by decide +kernel)), (wtm_6 223 (by decide +kernel) (by decide +kernel))⟩
theorem lk_X13_addCourier : LkV yX13_addCourier cX13_addCourier 2 (some .int) 1 := ⟨⟨(wtm_6 228 (by decide +kernel) (by decide +kernel)), ini_X13, by decide +kernel, by decide +kernel, by decide +kernel⟩, (wtm_6 226 (by decide +kernel) (by decide +kernel)), (wtm_6 227 (by decide +kernel) (by decide +kernel))⟩
theorem lk_X13_addCrate : LkV yX13_addCrate cX13_addCrate 4 (some .int) 2 := ⟨⟨(wtm_6 232 (by decide +kernel) (by decide +kernel)), ini_X13, by decide +kernel, by decide +kernel, by decide +kernel⟩, (wtm_6 230 (by decide +kernel) (by decide +kernel)), (wtm_6 231 (by decide +kernel) (by decide +kernel))⟩
theorem lk_X13_addWork : LkV yX13_addWork cX13_addWork 8 (some .int) 5 := ⟨⟨(wtm_7 0 (by decide +kernel) (by decide +kernel)), ini_X13, by decide +kernel, by decide +kernel, by decide +kernel⟩, (wtm_6 238 (by decide +kernel) (by decide +kernel)), (wtm_6 239 (by decide +kernel) (by decide +kernel))⟩
theorem lk_X13_needs : LkV yX13_needs cX13_needs 4 (some .int) 2 := ⟨⟨(wtm_7 41 (by decide +kernel) (by decide +kernel)), ini_X13, by decide +kernel, by decide +kernel, by decide +kernel⟩, (wtm_7 40 (by decide +kernel) (by decide +kernel)), (wtp 48 (q := 11) (by decide +kernel))⟩
theorem lk_X13_notOpen : LkV yX13_notOpen cX13_notOpen 3 (some .int) 1 := ⟨⟨(wtm_7 13 (by decide +kernel) (by decide +kernel)), ini_X13, by decide +kernel, by decide +kernel, by decide +kernel⟩, (wtm_7 12 (by decide +kernel) (by decide +kernel)), (wtp 41 (q := 11) (by decide +kernel))⟩
theorem lk_X13_opens : LkV yX13_opens cX13_opens 3 (some .int) 1 := ⟨⟨(wtm_7 48 (by decide +kernel) (by decide +kernel)), ini_X13, by decide +kernel, by decide +kernel, by decide +kernel⟩, (wtm_7 47 (by decide +kernel) (by decide +kernel)), (wtp 49 (q := 11) (by decide +kernel))⟩
theorem lk_X13_open : LkV yX13_open cX13_open 2 (some .int) 1 := ⟨⟨(wtm_7 9 (by decide +kernel) (by decide +kernel)), ini_X13, by decide +kernel, by decide +kernel, by decide +kernel⟩, (wtm_7 7 (by decide +kernel) (by decide +kernel)), (wtm_7 8 (by decide +kernel) (by decide +kernel))⟩
theorem lk_X13_notClose : LkV yX13_notClose cX13_notClose 4 (some .int) 1 := ⟨⟨(wtm_7 64 (by decide +kernel) (by decide +kernel)), ini_X13, by decide +kernel, by decide +kernel, by decide +kernel⟩, (wtm_7 63 (by decide +kernel) (by decide +kernel)), (wtp 52 (q := 11) (by decide +kernel))⟩
theorem lk_X13_closes : LkV yX13_closes cX13_closes 2 (some .int) 1 := ⟨⟨(wtm_7 68 (by decide +kernel) (by decide +kernel)), ini_X13, by decide +kernel, by decide +kernel, by decide +kernel⟩, (wtm_7 67 (by decide +kernel) (by decide +kernel)), (wtp 53 (q := 11) (by decide +kernel))⟩
theorem lk_X13_close : LkV yX13_close cX13_close 2 (some .int) 1 := ⟨⟨(wtm_7 60 (by decide +kernel) (by decide +kernel)), ini_X13, by decide +kernel, by decide +kernel, by decide +kernel⟩, (wtm_7 58 (by decide +kernel) (by decide +kernel)), (wtm_7 59 (by decide +kernel) (by decide +kernel))⟩
theorem lk_X13_isForUse : LkV yX13_isForUse cX13_isForUse 3 (some .boolean) 2 := ⟨⟨(wtm_7 88 (by decide +kernel) (by decide +kernel)), ini_X13, by decide +kernel, by decide +kernel, by decide +kernel⟩, (wtm_7 87 (by decide +kernel) (by decide +kernel)), (wtp 57 (q := 11) (by decide +kernel))⟩
theorem lk_X13_notNest : LkV yX13_notNest cX13_notNest 4 (some .int) 2 := ⟨⟨(wtm_7 84 (by decide +kernel) (by decide +kernel)), ini_X13, by decide +kernel, by decide +kernel, by decide +kernel⟩, (wtm_7 83 (by decide +kernel) (by decide +kernel)), (wtp 56 (q := 11) (by decide +kernel))⟩
theorem lk_X13_nests : LkV yX13_nests cX13_nests 3 (some .int) 2 := ⟨⟨(wtm_7 92 (by decide +kernel) (by decide +kernel)), ini_X13, by decide +kernel, by decide +kernel, by decide +kernel⟩, (wtm_7 91 (by decide +kernel) (by decide +kernel)), (wtp 58 (q := 11) (by decide +kernel))⟩
theorem lk_X13_nest : LkV yX13_nest cX13_nest 3 (some .int) 2 := ⟨⟨(wtm_7 80 (by decide +kernel) (by decide +kernel)), ini_X13, by decide +kernel, by decide +kernel, by decide +kernel⟩, (wtm_7 78 (by decide +kernel) (by decide +kernel)), (wtm_7 79 (by decide +kernel) (by decide +kernel))⟩
theorem lk_X13_notTakeOut : LkV yX13_notTakeOut cX13_notTakeOut 2 (some .int) 1 := ⟨⟨(wtm_7 104 (by decide +kernel) (by decide +kernel)), ini_X13, by decide +kernel, by decide +kernel, by decide +kernel⟩, (wtm_7 103 (by decide +kernel) (by decide +kernel)), (wtp 60 (q := 11) (by decide +kernel))⟩
theorem lk_X13_takesOut : LkV yX13_takesOut cX13_takesOut 3 (some .int) 1 := ⟨⟨(wtm_7 108 (by decide +kernel) (by decide +kernel)), ini_X13, by decide +kernel, by decide +kernel, by decide +kernel⟩, (wtm_7 107 (by decide +kernel) (by decide +kernel)), (wtp 61 (q := 11) (by decide +kernel))⟩
theorem lk_X13_takeOut : LkV yX13_takeOut cX13_takeOut 2 (some .int) 1 := ⟨⟨(wtm_7 100 (by decide +kernel) (by decide +kernel)), ini_X13, by decide +kernel, by decide +kernel, by decide +kernel⟩, (wtm_7 98 (by decide +kernel) (by decide +kernel)), (wtm_7 99 (by decide +kernel) (by decide +kernel))⟩
theorem lk_X13_notPack : LkV yX13_notPack cX13_notPack 3 (some .int) 2 := ⟨⟨(wtm_7 116 (by decide +kernel) (by decide +kernel)), ini_X13, by decide +kernel, by decide +kernel, by decide +kernel⟩, (wtm_7 115 (by decide +kernel) (by decide +kernel)), (wtp 62 (q := 11) (by decide +kernel))⟩
theorem lk_X13_packs : LkV yX13_packs cX13_packs 3 (some .int) 2 := ⟨⟨(wtm_7 124 (by decide +kernel) (by decide +kernel)), ini_X13, by decide +kernel, by decide +kernel, by decide +kernel⟩, (wtm_7 123 (by decide +kernel) (by decide +kernel)), (wtp 64 (q := 11) (by decide +kernel))⟩
theorem lk_X13_pack : LkV yX13_pack cX13_pack 3 (some .int) 2 := ⟨⟨(wtm_7 112 (by decide +kernel) (by decide +kernel)), ini_X13, by decide +kernel, by decide +kernel, by decide +kernel⟩, (wtm_7 110 (by decide +kernel) (by decide +kernel)), (wtm_7 111 (by decide +kernel) (by decide +kernel))⟩
theorem lk_X13_notUnpack : LkV yX13_notUnpack cX13_notUnpack 3 (some .int) 1 := ⟨⟨(wtm_7 132 (by decide +kernel) (by decide +kernel)), ini_X13, by decide +kernel, by decide +kernel, by decide +kernel⟩, (wtm_7 131 (by decide +kernel) (by decide +kernel)), (wtp 65 (q := 11) (by decide +kernel))⟩
theorem lk_X13_unpacks : LkV yX13_unpacks cX13_unpacks 2 (some .int) 1 := ⟨⟨(wtm_7 136 (by decide +kernel) (by decide +kernel)), ini_X13, by decide +kernel, by decide +kernel, by decide +kernel⟩, (wtm_7 135 (by decide +kernel) (by decide +kernel)), (wtp 66 (q := 11) (by decide +kernel))⟩
theorem lk_X13_unpack : LkV yX13_unpack cX13_unpack 2 (some .int) 1 := ⟨⟨(wtm_7 128 (by decide +kernel) (by decide +kernel)), ini_X13, by decide +kernel, by decide +kernel, by decide +kernel⟩, (wtm_7 126 (by decide +kernel) (by decide +kernel)), (wtm_7 127 (by decide +kernel) (by decide +kernel))⟩
theorem lk_X13_lenderRefuses : LkV yX13_lenderRefuses cX13_lenderRefuses 5 (some .int) 2 := ⟨⟨(wtm_7 164 (by decide +kernel) (by decide +kernel)), ini_X13, by decide +kernel, by decide +kernel, by decide +kernel⟩, (wtm_7 163 (by decide +kernel) (by decide +kernel)), (wtp 72 (q := 11) (by decide +kernel))⟩
theorem lk_X13_valuesFor : LkV yX13_valuesFor cX13_valuesFor 7 (some .long) 2 := ⟨⟨(wtm_7 168 (by decide +kernel) (by decide +kernel)), ini_X13, by decide +kernel, by decide +kernel, by decide +kernel⟩, (wtm_7 167 (by decide +kernel) (by decide +kernel)), (wtp 73 (q := 11) (by decide +kernel))⟩
theorem lk_X13_worksRefuse : LkV yX13_worksRefuse cX13_worksRefuse 6 (some .int) 2 := ⟨⟨(wtm_7 160 (by decide +kernel) (by decide +kernel)), ini_X13, by decide +kernel, by decide +kernel, by decide +kernel⟩, (wtm_7 159 (by decide +kernel) (by decide +kernel)), (wtp 71 (q := 11) (by decide +kernel))⟩
theorem lk_X13_isEscorted : LkV yX13_isEscorted cX13_isEscorted 4 (some .boolean) 1 := ⟨⟨(wtm_7 180 (by decide +kernel) (by decide +kernel)), ini_X13, by decide +kernel, by decide +kernel, by decide +kernel⟩, (wtm_7 179 (by decide +kernel) (by decide +kernel)), (wtp 76 (q := 11) (by decide +kernel))⟩
theorem lk_X13_reason : LkV yX13_reason cX13_reason 5 (some .int) 3 := ⟨⟨(wtm_7 156 (by decide +kernel) (by decide +kernel)), ini_X13, by decide +kernel, by decide +kernel, by decide +kernel⟩, (wtm_7 155 (by decide +kernel) (by decide +kernel)), (wtp 70 (q := 11) (by decide +kernel))⟩
theorem lk_X13_isSending : LkV yX13_isSending cX13_isSending 4 (some .boolean) 3 := ⟨⟨(wtm_7 148 (by decide +kernel) (by decide +kernel)), ini_X13, by decide +kernel, by decide +kernel, by decide +kernel⟩, (wtm_7 147 (by decide +kernel) (by decide +kernel)), (wtp 68 (q := 11) (by decide +kernel))⟩
theorem lk_X13_notSend : LkV yX13_notSend cX13_notSend 4 (some .int) 3 := ⟨⟨(wtm_7 144 (by decide +kernel) (by decide +kernel)), ini_X13, by decide +kernel, by decide +kernel, by decide +kernel⟩, (wtm_7 143 (by decide +kernel) (by decide +kernel)), (wtp 67 (q := 11) (by decide +kernel))⟩
theorem lk_X13_sends : LkV yX13_sends cX13_sends 4 (some .int) 3 := ⟨⟨(wtm_7 184 (by decide +kernel) (by decide +kernel)), ini_X13, by decide +kernel, by decide +kernel, by decide +kernel⟩, (wtm_7 183 (by decide +kernel) (by decide +kernel)), (wtp 77 (q := 11) (by decide +kernel))⟩
theorem lk_X13_send : LkV yX13_send cX13_send 4 (some .int) 3 := ⟨⟨(wtm_7 140 (by decide +kernel) (by decide +kernel)), ini_X13, by decide +kernel, by decide +kernel, by decide +kernel⟩, (wtm_7 138 (by decide +kernel) (by decide +kernel)), (wtm_7 139 (by decide +kernel) (by decide +kernel))⟩
theorem lk_X13_arrives : LkV yX13_arrives cX13_arrives 3 none 1 := ⟨⟨(wtm_7 203 (by decide +kernel) (by decide +kernel)), ini_X13, by decide +kernel, by decide +kernel, by decide +kernel⟩, (wtm_7 202 (by decide +kernel) (by decide +kernel)), (wtp 80 (q := 11) (by decide +kernel))⟩
theorem lk_X13_note : LkV yX13_note cX13_note 5 none 2 := ⟨⟨(wtm_7 212 (by decide +kernel) (by decide +kernel)), ini_X13, by decide +kernel, by decide +kernel, by decide +kernel⟩, (wtm_7 211 (by decide +kernel) (by decide +kernel)), (wtp 82 (q := 11) (by decide +kernel))⟩
theorem lk_X13_pays : LkV yX13_pays cX13_pays 6 none 1 := ⟨⟨(wtm_7 207 (by decide +kernel) (by decide +kernel)), ini_X13, by decide +kernel, by decide +kernel, by decide +kernel⟩, (wtm_7 206 (by decide +kernel) (by decide +kernel)), (wtp 81 (q := 11) (by decide +kernel))⟩
theorem lk_X13_hour : LkV yX13_hour cX13_hour 3 (some .int) 0 := ⟨⟨(wtm_7 199 (by decide +kernel) (by decide +kernel)), ini_X13, by decide +kernel, by decide +kernel, by decide +kernel⟩, (wtm_7 198 (by decide +kernel) (by decide +kernel)), (wtp 79 (q := 11) (by decide +kernel))⟩
theorem lk_X13_notAdvance : LkS yX13_notAdvance cX13_notAdvance 1 (some .int) 1 := ⟨⟨(wtm_7 191 (by decide +kernel) (by decide +kernel)), ini_X13, by decide +kernel, by decide +kernel, by decide +kernel⟩, (wtm_7 190 (by decide +kernel) (by decide +kernel))⟩
theorem lk_X13_advances : LkV yX13_advances cX13_advances 4 (some .int) 1 := ⟨⟨(wtm_7 195 (by decide +kernel) (by decide +kernel)), ini_X13, by decide +kernel, by decide +kernel, by decide +kernel⟩, (wtm_7 194 (by decide +kernel) (by decide +kernel)), (wtp 78 (q := 11) (by decide +kernel))⟩
theorem lk_X13_advance : LkV yX13_advance cX13_advance 2 (some .int) 1 := ⟨⟨(wtm_7 188 (by decide +kernel) (by decide +kernel)), ini_X13, by decide +kernel, by decide +kernel, by decide +kernel⟩, (wtm_7 186 (by decide +kernel) (by decide +kernel)), (wtm_7 187 (by decide +kernel) (by decide +kernel))⟩
theorem lk_X13_refusal : LkV yX13_refusal cX13_refusal 4 (some .int) 3 := ⟨⟨(wtm_7 216 (by decide +kernel) (by decide +kernel)), ini_X13, by decide +kernel, by decide +kernel, by decide +kernel⟩, (wtm_7 214 (by decide +kernel) (by decide +kernel)), (wtm_7 215 (by decide +kernel) (by decide +kernel))⟩
theorem lk_X13_cratesBelow : LkV yX13_cratesBelow cX13_cratesBelow 4 (some .int) 1 := ⟨⟨(wtm_7 228 (by decide +kernel) (by decide +kernel)), ini_X13, by decide +kernel, by decide +kernel, by decide +kernel⟩, (wtm_7 227 (by decide +kernel) (by decide +kernel)), (wtp 84 (q := 11) (by decide +kernel))⟩
theorem lk_X13_crateOf : LkV yX13_crateOf cX13_crateOf 4 (some .int) 2 := ⟨⟨(wtm_7 224 (by decide +kernel) (by decide +kernel)), ini_X13, by decide +kernel, by decide +kernel, by decide +kernel⟩, (wtm_7 223 (by decide +kernel) (by decide +kernel)), (wtp 83 (q := 11) (by decide +kernel))⟩
theorem lk_X13_crate : LkV yX13_crate cX13_crate 3 (some .int) 2 := ⟨⟨(wtm_7 220 (by decide +kernel) (by decide +kernel)), ini_X13, by decide +kernel, by decide +kernel, by decide +kernel⟩, (wtm_7 218 (by decide +kernel) (by decide +kernel)), (wtm_7 219 (by decide +kernel) (by decide +kernel))⟩
theorem lk_X13_around : LkV yX13_around cX13_around 4 (some .int) 1 := ⟨⟨(wtm_8 0 (by decide +kernel) (by decide +kernel)), ini_X13, by decide +kernel, by decide +kernel, by decide +kernel⟩, (wtm_7 239 (by decide +kernel) (by decide +kernel)), (wtp 86 (q := 11) (by decide +kernel))⟩
theorem lk_X13_workOf : LkV yX13_workOf cX13_workOf 3 (some .int) 2 := ⟨⟨(wtm_7 236 (by decide +kernel) (by decide +kernel)), ini_X13, by decide +kernel, by decide +kernel, by decide +kernel⟩, (wtm_7 235 (by decide +kernel) (by decide +kernel)), (wtp 85 (q := 11) (by decide +kernel))⟩
theorem lk_X13_work : LkV yX13_work cX13_work 3 (some .int) 2 := ⟨⟨(wtm_7 232 (by decide +kernel) (by decide +kernel)), ini_X13, by decide +kernel, by decide +kernel, by decide +kernel⟩, (wtm_7 230 (by decide +kernel) (by decide +kernel)), (wtm_7 231 (by decide +kernel) (by decide +kernel))⟩
theorem lk_X13_notedOf : LkV yX13_notedOf cX13_notedOf 3 (some .int) 2 := ⟨⟨(wtm_8 8 (by decide +kernel) (by decide +kernel)), ini_X13, by decide +kernel, by decide +kernel, by decide +kernel⟩, (wtm_8 7 (by decide +kernel) (by decide +kernel)), (wtp 87 (q := 11) (by decide +kernel))⟩
theorem lk_X13_noted : LkV yX13_noted cX13_noted 3 (some .int) 2 := ⟨⟨(wtm_8 4 (by decide +kernel) (by decide +kernel)), ini_X13, by decide +kernel, by decide +kernel, by decide +kernel⟩, (wtm_8 2 (by decide +kernel) (by decide +kernel)), (wtm_8 3 (by decide +kernel) (by decide +kernel))⟩
theorem lk_X13_valuesAt : LkV yX13_valuesAt cX13_valuesAt 5 (some .int) 2 := ⟨⟨(wtm_8 20 (by decide +kernel) (by decide +kernel)), ini_X13, by decide +kernel, by decide +kernel, by decide +kernel⟩, (wtm_8 19 (by decide +kernel) (by decide +kernel)), (wtp 89 (q := 11) (by decide +kernel))⟩
theorem lk_X13_cratesAt : LkV yX13_cratesAt cX13_cratesAt 4 (some .int) 1 := ⟨⟨(wtm_8 24 (by decide +kernel) (by decide +kernel)), ini_X13, by decide +kernel, by decide +kernel, by decide +kernel⟩, (wtm_8 23 (by decide +kernel) (by decide +kernel)), (wtp 90 (q := 11) (by decide +kernel))⟩
theorem lk_X13_couriersAt : LkV yX13_couriersAt cX13_couriersAt 4 (some .int) 1 := ⟨⟨(wtm_8 28 (by decide +kernel) (by decide +kernel)), ini_X13, by decide +kernel, by decide +kernel, by decide +kernel⟩, (wtm_8 27 (by decide +kernel) (by decide +kernel)), (wtp 91 (q := 11) (by decide +kernel))⟩
theorem lk_X13_venueOfWhat : LkV yX13_venueOfWhat cX13_venueOfWhat 3 (some .int) 2 := ⟨⟨(wtm_8 16 (by decide +kernel) (by decide +kernel)), ini_X13, by decide +kernel, by decide +kernel, by decide +kernel⟩, (wtm_8 15 (by decide +kernel) (by decide +kernel)), (wtp 88 (q := 11) (by decide +kernel))⟩
theorem lk_X13_venue : LkV yX13_venue cX13_venue 3 (some .int) 2 := ⟨⟨(wtm_8 12 (by decide +kernel) (by decide +kernel)), ini_X13, by decide +kernel, by decide +kernel, by decide +kernel⟩, (wtm_8 10 (by decide +kernel) (by decide +kernel)), (wtm_8 11 (by decide +kernel) (by decide +kernel))⟩
theorem lk_X13_courier : LkV yX13_courier cX13_courier 2 (some .int) 1 := ⟨⟨(wtm_8 32 (by decide +kernel) (by decide +kernel)), ini_X13, by decide +kernel, by decide +kernel, by decide +kernel⟩, (wtm_8 30 (by decide +kernel) (by decide +kernel)), (wtm_8 31 (by decide +kernel) (by decide +kernel))⟩
theorem lk_X13_onTheirWay : LkV yX13_onTheirWay cX13_onTheirWay 3 (some .int) 0 := ⟨⟨(wtm_8 44 (by decide +kernel) (by decide +kernel)), ini_X13, by decide +kernel, by decide +kernel, by decide +kernel⟩, (wtm_8 43 (by decide +kernel) (by decide +kernel)), (wtp 93 (q := 11) (by decide +kernel))⟩
theorem lk_X13_openCrates : LkV yX13_openCrates cX13_openCrates 3 (some .int) 0 := ⟨⟨(wtm_8 48 (by decide +kernel) (by decide +kernel)), ini_X13, by decide +kernel, by decide +kernel, by decide +kernel⟩, (wtm_8 47 (by decide +kernel) (by decide +kernel)), (wtp 94 (q := 11) (by decide +kernel))⟩
theorem lk_X13_wholeOf : LkV yX13_wholeOf cX13_wholeOf 2 (some .int) 1 := ⟨⟨(wtm_8 40 (by decide +kernel) (by decide +kernel)), ini_X13, by decide +kernel, by decide +kernel, by decide +kernel⟩, (wtm_8 39 (by decide +kernel) (by decide +kernel)), (wtp 92 (q := 11) (by decide +kernel))⟩
theorem lk_X13_whole : LkV yX13_whole cX13_whole 2 (some .int) 1 := ⟨⟨(wtm_8 36 (by decide +kernel) (by decide +kernel)), ini_X13, by decide +kernel, by decide +kernel, by decide +kernel⟩, (wtm_8 34 (by decide +kernel) (by decide +kernel)), (wtm_8 35 (by decide +kernel) (by decide +kernel))⟩
theorem lk_X13_ready : LkV yX13_ready cX13_ready 12 (some .int) 1 := ⟨⟨(wtm_8 56 (by decide +kernel) (by decide +kernel)), ini_X13, by decide +kernel, by decide +kernel, by decide +kernel⟩, (wtm_8 55 (by decide +kernel) (by decide +kernel)), (wtp 95 (q := 11) (by decide +kernel))⟩
theorem lk_X13_readyAt : LkV yX13_readyAt cX13_readyAt 2 (some .int) 1 := ⟨⟨(wtm_8 52 (by decide +kernel) (by decide +kernel)), ini_X13, by decide +kernel, by decide +kernel, by decide +kernel⟩, (wtm_8 50 (by decide +kernel) (by decide +kernel)), (wtm_8 51 (by decide +kernel) (by decide +kernel))⟩
theorem lk_X13_allReady : LkV yX13_allReady cX13_allReady 4 (some .int) 1 := ⟨⟨(wtm_8 67 (by decide +kernel) (by decide +kernel)), ini_X13, by decide +kernel, by decide +kernel, by decide +kernel⟩, (wtm_8 66 (by decide +kernel) (by decide +kernel)), (wtp 96 (q := 11) (by decide +kernel))⟩
theorem lk_X13_allReadyAt : LkV yX13_allReadyAt cX13_allReadyAt 2 (some .int) 1 := ⟨⟨(wtm_8 63 (by decide +kernel) (by decide +kernel)), ini_X13, by decide +kernel, by decide +kernel, by decide +kernel⟩, (wtm_8 61 (by decide +kernel) (by decide +kernel)), (wtm_8 62 (by decide +kernel) (by decide +kernel))⟩
theorem lk_X13_readyBy : LkV yX13_readyBy cX13_readyBy 5 (some .int) 2 := ⟨⟨(wtm_8 75 (by decide +kernel) (by decide +kernel)), ini_X13, by decide +kernel, by decide +kernel, by decide +kernel⟩, (wtm_8 74 (by decide +kernel) (by decide +kernel)), (wtp 97 (q := 11) (by decide +kernel))⟩
theorem lk_X13_bestVenue : LkV yX13_bestVenue cX13_bestVenue 8 (some .int) 2 := ⟨⟨(wtm_8 71 (by decide +kernel) (by decide +kernel)), ini_X13, by decide +kernel, by decide +kernel, by decide +kernel⟩, (wtm_8 69 (by decide +kernel) (by decide +kernel)), (wtm_8 70 (by decide +kernel) (by decide +kernel))⟩
theorem lk_X13_type : LkV yX13_type cX13_type 2 (some .int) 1 := ⟨⟨(wtm_8 79 (by decide +kernel) (by decide +kernel)), ini_X13, by decide +kernel, by decide +kernel, by decide +kernel⟩, (wtm_8 77 (by decide +kernel) (by decide +kernel)), (wtm_8 78 (by decide +kernel) (by decide +kernel))⟩
theorem lk_X13_clearCommands : LkV yX13_clearCommands cX13_clearCommands 2 (some .int) 0 := ⟨⟨(wtm_8 83 (by decide +kernel) (by decide +kernel)), ini_X13, by decide +kernel, by decide +kernel, by decide +kernel⟩, (wtm_8 81 (by decide +kernel) (by decide +kernel)), (wtm_8 82 (by decide +kernel) (by decide +kernel))⟩
theorem lk_X13_here : LkV yX13_here cX13_here 1 (some .int) 0 := ⟨⟨(wtm_8 99 (by decide +kernel) (by decide +kernel)), ini_X13, by decide +kernel, by decide +kernel, by decide +kernel⟩, (wtm_8 98 (by decide +kernel) (by decide +kernel)), (wtp 100 (q := 11) (by decide +kernel))⟩
theorem lk_X13_skips : LkV yX13_skips cX13_skips 2 (some .boolean) 0 := ⟨⟨(wtm_8 95 (by decide +kernel) (by decide +kernel)), ini_X13, by decide +kernel, by decide +kernel, by decide +kernel⟩, (wtm_8 94 (by decide +kernel) (by decide +kernel)), (wtp 99 (q := 11) (by decide +kernel))⟩
theorem lk_X13_commandOf : LkS yX13_commandOf cX13_commandOf 2 (some .int) 1 := ⟨⟨(wtm_8 113 (by decide +kernel) (by decide +kernel)), ini_X13, by decide +kernel, by decide +kernel, by decide +kernel⟩, (wtm_8 112 (by decide +kernel) (by decide +kernel))⟩
theorem lk_X13_readWord : LkV yX13_readWord cX13_readWord 4 (some .boolean) 0 := ⟨⟨(wtm_8 107 (by decide +kernel) (by decide +kernel)), ini_X13, by decide +kernel, by decide +kernel, by decide +kernel⟩, (wtm_8 106 (by decide +kernel) (by decide +kernel)), (wtp 102 (q := 11) (by decide +kernel))⟩
theorem lk_X13_readNumber : LkV yX13_readNumber cX13_readNumber 4 (some .boolean) 1 := ⟨⟨(wtm_8 130 (by decide +kernel) (by decide +kernel)), ini_X13, by decide +kernel, by decide +kernel, by decide +kernel⟩, (wtm_8 129 (by decide +kernel) (by decide +kernel)), (wtp 104 (q := 11) (by decide +kernel))⟩
theorem lk_X13_manyFor : LkV yX13_manyFor cX13_manyFor 1 (some .int) 0 := ⟨⟨(wtm_8 126 (by decide +kernel) (by decide +kernel)), ini_X13, by decide +kernel, by decide +kernel, by decide +kernel⟩, (wtm_8 125 (by decide +kernel) (by decide +kernel)), (wtp 103 (q := 11) (by decide +kernel))⟩
theorem lk_X13_readCommand : LkV yX13_readCommand cX13_readCommand 2 (some .boolean) 0 := ⟨⟨(wtm_8 103 (by decide +kernel) (by decide +kernel)), ini_X13, by decide +kernel, by decide +kernel, by decide +kernel⟩, (wtm_8 102 (by decide +kernel) (by decide +kernel)), (wtp 101 (q := 11) (by decide +kernel))⟩
theorem lk_X13_isGood : LkV yX13_isGood cX13_isGood 3 (some .boolean) 0 := ⟨⟨(wtm_8 91 (by decide +kernel) (by decide +kernel)), ini_X13, by decide +kernel, by decide +kernel, by decide +kernel⟩, (wtm_8 90 (by decide +kernel) (by decide +kernel)), (wtp 98 (q := 11) (by decide +kernel))⟩
theorem lk_X13_whyNot : LkV yX13_whyNot cX13_whyNot 1 (some .int) 0 := ⟨⟨(wtm_8 134 (by decide +kernel) (by decide +kernel)), ini_X13, by decide +kernel, by decide +kernel, by decide +kernel⟩, (wtm_8 133 (by decide +kernel) (by decide +kernel)), (wtp 105 (q := 11) (by decide +kernel))⟩
theorem lk_X13_carryOut : LkV yX13_carryOut cX13_carryOut 1 (some .int) 0 := ⟨⟨(wtm_8 138 (by decide +kernel) (by decide +kernel)), ini_X13, by decide +kernel, by decide +kernel, by decide +kernel⟩, (wtm_8 137 (by decide +kernel) (by decide +kernel)), (wtp 106 (q := 11) (by decide +kernel))⟩
theorem lk_X13_runCommands : LkV yX13_runCommands cX13_runCommands 5 (some .int) 0 := ⟨⟨(wtm_8 87 (by decide +kernel) (by decide +kernel)), ini_X13, by decide +kernel, by decide +kernel, by decide +kernel⟩, (wtm_8 85 (by decide +kernel) (by decide +kernel)), (wtm_8 86 (by decide +kernel) (by decide +kernel))⟩
theorem lk_X13_undo : LkV yX13_undo cX13_undo 2 (some .int) 0 := ⟨⟨(wtm_8 142 (by decide +kernel) (by decide +kernel)), ini_X13, by decide +kernel, by decide +kernel, by decide +kernel⟩, (wtm_8 140 (by decide +kernel) (by decide +kernel)), (wtm_8 141 (by decide +kernel) (by decide +kernel))⟩
theorem lk_X13_mix : LkV yX13_mix cX13_mix 3 none 1 := ⟨⟨(wtm_8 151 (by decide +kernel) (by decide +kernel)), ini_X13, by decide +kernel, by decide +kernel, by decide +kernel⟩, (wtm_8 150 (by decide +kernel) (by decide +kernel)), (wtp 107 (q := 11) (by decide +kernel))⟩
theorem lk_X13_mixWork : LkV yX13_mixWork cX13_mixWork 3 none 1 := ⟨⟨(wtm_8 156 (by decide +kernel) (by decide +kernel)), ini_X13, by decide +kernel, by decide +kernel, by decide +kernel⟩, (wtm_8 155 (by decide +kernel) (by decide +kernel)), (wtp 108 (q := 11) (by decide +kernel))⟩
theorem lk_X13_digest : LkV yX13_digest cX13_digest 3 (some .long) 0 := ⟨⟨(wtm_8 146 (by decide +kernel) (by decide +kernel)), ini_X13, by decide +kernel, by decide +kernel, by decide +kernel⟩, (wtm_8 144 (by decide +kernel) (by decide +kernel)), (wtm_8 145 (by decide +kernel) (by decide +kernel))⟩
theorem uws_of {C : String} {T : u_T} {N : Nat} (h : ∀ k, k < N → u_lay C T k ∈ WT) : ∀ w ∈ u_ws C T N, w ∈ WT := fun w hw => by obtain ⟨k, hk, e⟩ := List.mem_map.mp hw; rw [← e]; exact h k (List.mem_range.mp hk)
theorem uws_X1 : ∀ w ∈ u_ws RX1 TX1 1, w ∈ WT := uws_of fun k hk => match k, hk with | 0, _ => (wtm_2 75 (by decide +kernel) (by decide +kernel))
theorem uws_X2 : ∀ w ∈ u_ws RX2 TX2 6, w ∈ WT := uws_of fun k hk => match k, hk with | 0, _ => (wtm_2 148 (by decide +kernel) (by decide +kernel)) | 1, _ => (wtm_2 150 (by decide +kernel) (by decide +kernel)) | 2, _ => (wtm_2 152 (by decide +kernel) (by decide +kernel)) | 3, _ => (wtm_2 154 (by decide +kernel) (by decide +kernel)) | 4, _ => (wtm_2 156 (by decide +kernel) (by decide +kernel)) | 5, _ => (wtm_2 158 (by decide +kernel) (by decide +kernel))
theorem uws_X3 : ∀ w ∈ u_ws RX3 TX3 10, w ∈ WT := uws_of fun k hk => match k, hk with | 0, _ => (wtm_1 141 (by decide +kernel) (by decide +kernel)) | 1, _ => (wtm_1 143 (by decide +kernel) (by decide +kernel)) | 2, _ => (wtm_1 145 (by decide +kernel) (by decide +kernel)) | 3, _ => (wtm_1 147 (by decide +kernel) (by decide +kernel)) | 4, _ => (wtm_1 149 (by decide +kernel) (by decide +kernel)) | 5, _ => (wtm_1 151 (by decide +kernel) (by decide +kernel)) | 6, _ => (wtm_1 153 (by decide +kernel) (by decide +kernel)) | 7, _ => (wtm_1 155 (by decide +kernel) (by decide +kernel)) | 8, _ => (wtm_1 157 (by decide +kernel) (by decide +kernel)) | 9, _ => (wtm_1 159 (by decide +kernel) (by decide +kernel))
theorem uws_X4 : ∀ w ∈ u_ws RX4 TX4 1, w ∈ WT := uws_of fun k hk => match k, hk with | 0, _ => (wtm_2 85 (by decide +kernel) (by decide +kernel))
theorem uws_X5 : ∀ w ∈ u_ws RX5 TX5 3, w ∈ WT := uws_of fun k hk => match k, hk with | 0, _ => (wtm_2 107 (by decide +kernel) (by decide +kernel)) | 1, _ => (wtm_2 109 (by decide +kernel) (by decide +kernel)) | 2, _ => (wtm_2 111 (by decide +kernel) (by decide +kernel))
theorem uws_X6 : ∀ w ∈ u_ws RX6 TX6 14, w ∈ WT := uws_of fun k hk => match k, hk with | 0, _ => (wtm_2 39 (by decide +kernel) (by decide +kernel)) | 1, _ => (wtm_2 41 (by decide +kernel) (by decide +kernel)) | 2, _ => (wtm_2 43 (by decide +kernel) (by decide +kernel)) | 3, _ => (wtm_2 45 (by decide +kernel) (by decide +kernel)) | 4, _ => (wtm_2 47 (by decide +kernel) (by decide +kernel)) | 5, _ => (wtm_2 49 (by decide +kernel) (by decide +kernel)) | 6, _ => (wtm_2 51 (by decide +kernel) (by decide +kernel)) | 7, _ => (wtm_2 53 (by decide +kernel) (by decide +kernel)) | 8, _ => (wtm_2 55 (by decide +kernel) (by decide +kernel)) | 9, _ => (wtm_2 57 (by decide +kernel) (by decide +kernel)) | 10, _ => (wtm_2 59 (by decide +kernel) (by decide +kernel)) | 11, _ => (wtm_2 61 (by decide +kernel) (by decide +kernel)) | 12, _ => (wtm_2 63 (by decide +kernel) (by decide +kernel)) | 13, _ => (wtm_2 65 (by decide +kernel) (by decide +kernel))
theorem uws_X7 : ∀ w ∈ u_ws RX7 TX7 2, w ∈ WT := uws_of fun k hk => match k, hk with | 0, _ => (wtm_2 126 (by decide +kernel) (by decide +kernel)) | 1, _ => (wtm_2 128 (by decide +kernel) (by decide +kernel))
theorem uws_X8 : ∀ w ∈ u_ws RX8 TX8 1, w ∈ WT := uws_of fun k hk => match k, hk with | 0, _ => (wtm_2 95 (by decide +kernel) (by decide +kernel))
theorem uws_X9 : ∀ w ∈ u_ws RX9 TX9 6, w ∈ WT := uws_of fun k hk => match k, hk with | 0, _ => (wtm_1 78 (by decide +kernel) (by decide +kernel)) | 1, _ => (wtm_1 80 (by decide +kernel) (by decide +kernel)) | 2, _ => (wtm_1 82 (by decide +kernel) (by decide +kernel)) | 3, _ => (wtm_1 84 (by decide +kernel) (by decide +kernel)) | 4, _ => (wtm_1 86 (by decide +kernel) (by decide +kernel)) | 5, _ => (wtm_1 88 (by decide +kernel) (by decide +kernel))
theorem uws_X11 : ∀ w ∈ u_ws RX11 TX11 9, w ∈ WT := uws_of fun k hk => match k, hk with | 0, _ => (wtm_1 198 (by decide +kernel) (by decide +kernel)) | 1, _ => (wtm_1 200 (by decide +kernel) (by decide +kernel)) | 2, _ => (wtm_1 202 (by decide +kernel) (by decide +kernel)) | 3, _ => (wtm_1 204 (by decide +kernel) (by decide +kernel)) | 4, _ => (wtm_1 206 (by decide +kernel) (by decide +kernel)) | 5, _ => (wtm_1 208 (by decide +kernel) (by decide +kernel)) | 6, _ => (wtm_1 210 (by decide +kernel) (by decide +kernel)) | 7, _ => (wtm_1 212 (by decide +kernel) (by decide +kernel)) | 8, _ => (wtm_1 214 (by decide +kernel) (by decide +kernel))
theorem uws_X12 : ∀ w ∈ u_ws RX12 TX12 7, w ∈ WT := uws_of fun k hk => match k, hk with | 0, _ => (wtm_2 169 (by decide +kernel) (by decide +kernel)) | 1, _ => (wtm_2 171 (by decide +kernel) (by decide +kernel)) | 2, _ => (wtm_2 173 (by decide +kernel) (by decide +kernel)) | 3, _ => (wtm_2 175 (by decide +kernel) (by decide +kernel)) | 4, _ => (wtm_2 177 (by decide +kernel) (by decide +kernel)) | 5, _ => (wtm_2 179 (by decide +kernel) (by decide +kernel)) | 6, _ => (wtm_2 181 (by decide +kernel) (by decide +kernel))
theorem uws_X13 : ∀ w ∈ u_ws RX13 TX13 11, w ∈ WT := uws_of fun k hk => match k, hk with | 0, _ => (wtm_6 156 (by decide +kernel) (by decide +kernel)) | 1, _ => (wtm_6 158 (by decide +kernel) (by decide +kernel)) | 2, _ => (wtm_6 160 (by decide +kernel) (by decide +kernel)) | 3, _ => (wtm_6 162 (by decide +kernel) (by decide +kernel)) | 4, _ => (wtm_6 164 (by decide +kernel) (by decide +kernel)) | 5, _ => (wtm_6 166 (by decide +kernel) (by decide +kernel)) | 6, _ => (wtm_6 168 (by decide +kernel) (by decide +kernel)) | 7, _ => (wtm_6 170 (by decide +kernel) (by decide +kernel)) | 8, _ => (wtm_6 172 (by decide +kernel) (by decide +kernel)) | 9, _ => (wtm_6 174 (by decide +kernel) (by decide +kernel)) | 10, _ => (wtm_6 176 (by decide +kernel) (by decide +kernel))
theorem clk_X1 : ClOk 0 RX1 TX1 1 tyX1 := ⟨rfl, uws_X1, tyX1_ok, nmX1⟩
theorem clk_X2 : ClOk 1 RX2 TX2 6 tyX2 := ⟨rfl, uws_X2, tyX2_ok, nmX2⟩
theorem clk_X3 : ClOk 2 RX3 TX3 10 tyX3 := ⟨rfl, uws_X3, tyX3_ok, nmX3⟩
theorem clk_X4 : ClOk 3 RX4 TX4 1 tyX4 := ⟨rfl, uws_X4, tyX4_ok, nmX4⟩
theorem clk_X5 : ClOk 4 RX5 TX5 3 tyX5 := ⟨rfl, uws_X5, tyX5_ok, nmX5⟩
theorem clk_X6 : ClOk 5 RX6 TX6 14 tyX6 := ⟨rfl, uws_X6, tyX6_ok, nmX6⟩
theorem clk_X7 : ClOk 6 RX7 TX7 2 tyX7 := ⟨rfl, uws_X7, tyX7_ok, nmX7⟩
theorem clk_X8 : ClOk 7 RX8 TX8 1 tyX8 := ⟨rfl, uws_X8, tyX8_ok, nmX8⟩
theorem clk_X9 : ClOk 8 RX9 TX9 6 tyX9 := ⟨rfl, uws_X9, tyX9_ok, nmX9⟩
theorem clk_X11 : ClOk 9 RX11 TX11 9 tyX11 := ⟨rfl, uws_X11, tyX11_ok, nmX11⟩
theorem clk_X12 : ClOk 10 RX12 TX12 7 tyX12 := ⟨rfl, uws_X12, tyX12_ok, nmX12⟩
theorem clk_X13 : ClOk 11 RX13 TX13 11 tyX13 := ⟨rfl, uws_X13, tyX13_ok, nmX13⟩
end
section
/-! THE WORLD: every object of the class and of the model lies at base + offset; w q j is the j-th int of the object at offset q. Written by wip/whole/gen_world.py -/
abbrev Wl : Type := Nat → Nat → Int32
/-- the base, and where the words' constants lie -/
abbrev Bs : Type := Nat × (Nat → Nat)
/-- what lies at place r of a state's block of 72 -/
def blk (r : Nat) : Nat := if r = 0 then 2 else if r = 1 then 3 else if r = 2 then 4 else if r = 3 then 5 else if r = 4 then 104 else if r = 5 then 7 else if r < 12 then 104 else if r < 28 then (if r % 2 = 0 then 8 else 108) else if r < 40 then 9 else if r % 2 = 0 then 10 else 110
/-- the kind of what lies at an offset; N + 100: an int array of N -/
def kd (q : Nat) : Nat := if q = 0 then 1 else if q < 73 then blk (q - 1) else if q = 73 then 11 else if q = 74 then 12 else if q = 75 then 13 else if q = 76 then 14 else if q = 77 then 112 else if q = 78 then 15 else if q = 79 then 16 else if q < 368 then blk ((q - 80) % 72) else if q = 368 then 17 else if q = 369 then 18 else if q = 370 then 103 else if q = 371 then 19 else if q = 372 then 641 else if q = 373 then 2264 else if q = 374 then 250 else if q = 375 then 112 else if q = 376 then 103 else if q = 377 then 20 else 0
def hiW (v : Int64) : Int32 := Int32.ofInt (v.toInt / 4294967296)
def loW (v : Int64) : Int32 := Int32.ofInt (v.toInt % 4294967296)
def lofW (h l : Int32) : Int64 := Int64.ofInt (h.toInt * 4294967296 + l.toInt % 4294967296)
theorem lofW_hl (v : Int64) : lofW (hiW v) (loW v) = v := by
  unfold lofW hiW loW
  have h1 := Int64.le_toInt v
  have h2 := Int64.toInt_lt v
  rw [Int32.toInt_ofInt, Int32.toInt_ofInt, ← Int64.toInt_inj, Int64.toInt_ofInt]
  simp only [Int32.size, Int64.size] at *
  have e1 : (v.toInt / 4294967296).bmod 4294967296 = v.toInt / 4294967296 := Int.bmod_eq_of_le (by omega) (by omega)
  have e2 : ((v.toInt % 4294967296).bmod 4294967296) % 4294967296 = v.toInt % 4294967296 := by
    rw [Int.bmod_def]
    split <;> omega
  rw [e1, e2, show v.toInt / 4294967296 * 4294967296 + v.toInt % 4294967296 = v.toInt by omega]
  exact Int.bmod_eq_of_le (by omega) (by omega)
def entO (Γ : Gl) (B : Bs) (k q : Nat) (x : Nat → Int32) : va_E := match k with
  | 1 => .inr (10, [.ref (B.1 + (0 + 1)), .ref (B.1 + (0 + 73)), .ref (B.1 + (0 + 74)), .ref (B.1 + (0 + 75)), .ref (B.1 + (0 + 76)), .ref (B.1 + (0 + 78)), .ref (B.1 + (0 + 368))])
  | 2 => .inr (5, [.int (x 0), .int (x 1), .int (x 2), .int (x 3), .int (x 4), .int (x 5), .int (x 6), .int (x 7), .int (x 8), .ref (B.1 + (q + 1)), .ref (B.1 + (q + 2)), .ref (B.1 + (q + 3)), .ref (B.1 + (q + 4)), .ref (B.1 + (q + 5))])
  | 3 => .inl (Γ.2.1 5, 8, .inr (.inr (.inr (.inr fun j => some (B.1 + (q + 11 + 2 * j))))))
  | 4 => .inl (Γ.2.1 3, 12, .inr (.inr (.inr (.inr fun j => some (B.1 + (q + 26 + j))))))
  | 5 => .inl (Γ.2.1 6, 16, .inr (.inr (.inr (.inr fun j => some (B.1 + (q + 37 + 2 * j))))))
  | 7 => .inl (Γ.2.1 7, 6, .inr (.inr (.inr (.inr fun j => some (B.1 + (q + 1 + j))))))
  | 8 => .inr (8, [.int (x 0), .int (x 1), .int (x 2), .int (x 3), .int (x 4), .ref (B.1 + (q + 1))])
  | 9 => .inr (2, [.int (x 0), .int (x 1), .int (x 2), .int (x 3), .int (x 4), .int (x 5), .int (x 6), .int (x 7), .int (x 8), .int (x 9)])
  | 10 => .inr (9, [.int (x 0), .int (x 1), .int (x 2), .int (x 3), .int (x 4), .int (x 5), .int (x 6), .int (x 7), .ref (B.1 + (q + 1))])
  | 11 => .inr (0, [.ref (B.1 + (0 + 1))])
  | 12 => .inr (3, [.ref (B.1 + (0 + 1))])
  | 13 => .inr (7, [.ref (B.1 + (0 + 1))])
  | 14 => .inr (4, [.ref (B.1 + (0 + 1)), .ref (B.1 + (0 + 73)), .ref (B.1 + (0 + 77))])
  | 15 => .inr (6, [.ref (B.1 + (0 + 79)), .int (x 1)])
  | 16 => .inl (Γ.2.1 4, 4, .inr (.inr (.inr (.inr fun j => some (B.1 + (80 + 72 * (x j).toNatClampNeg))))))
  | 17 => .inr (1, [.ref (B.1 + (0 + 369)), .int (x 1), .int (x 2), .int (x 3), .ref (B.2 (x 4).toNatClampNeg), .ref (B.1 + (0 + 370))])
  | 18 => .inl (Γ.2.1 0, 150, .inl x)
  | 19 => .inr (11, [.ref (B.1 + (0 + 372)), .ref (B.1 + (0 + 373)), .int (x 2), .ref (B.1 + (0 + 374)), .int (x 4), .int (x 5), .ref (B.1 + (0 + 375)), .int (x 7), .int (x 8), .ref (B.1 + (0 + 376)), .long (lofW (x 10) (x 11))])
  | 20 => .inl (Γ.2.1 2, 1, .inr (.inl fun _ => lofW (x 0) (x 1)))
  | _ => .inr (0, [])
def ent (Γ : Gl) (B : Bs) (k q : Nat) (x : Nat → Int32) : va_E := if 100 ≤ k then .inl (Γ.2.1 1, k - 100, .inl x) else entO Γ B k q x
theorem ent_O {Γ : Gl} {B : Bs} {k q : Nat} {x : Nat → Int32} (h : k < 100) : ent Γ B k q x = entO Γ B k q x := if_neg (Nat.not_le.mpr h)
theorem ent_I {Γ : Gl} {B : Bs} {N q : Nat} {x : Nat → Int32} : ent Γ B (N + 100) q x = .inl (Γ.2.1 1, N, .inl x) := by
  unfold ent
  rw [if_pos (Nat.le_add_left _ _), Nat.add_sub_cancel]
/-- the heap holds the world -/
def Wd (Γ : Gl) (B : Bs) (w : Wl) (G : Gf) : Prop := ∀ q, kd q ≠ 0 → G (B.1 + q) = some (ent Γ B (kd q) q (w q))
theorem Wd.obj {Γ : Gl} {B : Bs} {w : Wl} {G : Gf} (h : Wd Γ B w G) {q k : Nat} (hk : kd q = k) (h0 : k ≠ 0) (h1 : k < 100) : G (B.1 + q) = some (entO Γ B k q (w q)) := by
  have := h q (by rw [hk]; exact h0)
  rw [hk, ent_O h1] at this
  exact this
theorem Wd.arr {Γ : Gl} {B : Bs} {w : Wl} {G : Gf} (h : Wd Γ B w G) {q N : Nat} (hk : kd q = N + 100) : G (B.1 + q) = some (.inl (Γ.2.1 1, N, .inl (w q))) := by
  have := h q (by rw [hk]; omega)
  rw [hk, ent_I] at this
  exact this
/-- a row put in; one int put in -/
def wrow (w : Wl) (q : Nat) (f : Nat → Int32) : Wl := fun a => if a = q then f else w a
def wst (w : Wl) (q j : Nat) (v : Int32) : Wl := wrow w q (upd (w q) j v)
theorem wrow_same {w : Wl} {q : Nat} {f : Nat → Int32} : wrow w q f q = f := if_pos rfl
theorem wrow_ne {w : Wl} {q a : Nat} {f : Nat → Int32} (h : a ≠ q) : wrow w q f a = w a := if_neg h
theorem Wd.row {Γ : Gl} {B : Bs} {w : Wl} {G : Gf} (h : Wd Γ B w G) {q k : Nat} {f : Nat → Int32} {e : va_E} (hk : kd q = k) (he : ent Γ B k q f = e) : Wd Γ B (wrow w q f) (updG G (B.1 + q) e) := fun q' h0 => by
  by_cases hq : q' = q
  · subst hq
    rw [updG_self, wrow_same, hk, he]
  · rw [updG_ne (by omega), wrow_ne hq]
    exact h q' h0
/-- an index within bounds -/
def idx (i : Int32) (N : Nat) : Option Nat := if i < 0 ∨ N ≤ i.toNatClampNeg then none else some i.toNatClampNeg
theorem idx_in {i : Int32} {N c : Nat} (h : idx i N = some c) : vp_in i N := by
  unfold idx at h
  split at h
  · cases h
  · assumption
theorem idx_c {i : Int32} {N c : Nat} (h : idx i N = some c) : i.toNatClampNeg = c := by
  unfold idx at h
  split at h
  · cases h
  · exact Option.some.inj h
theorem idx_lt {i : Int32} {N c : Nat} (h : idx i N = some c) : c < N := by
  have h1 := idx_in h
  have h2 := idx_c h
  exact Nat.not_le.mp fun q => h1 (Or.inr (by rw [h2]; exact q))
theorem bnd {α β : Type} {x : Option α} {f : α → Option β} {b : β} (h : x.bind f = some b) : ∃ a, x = some a ∧ f a = some b := Option.bind_eq_some_iff.mp h
theorem pos {c : Prop} [Decidable c] {α : Type} {a b : α} {r : α} (h : ite c a b = r) (hc : c) : a = r := (if_pos hc).symm.trans h
theorem neg {c : Prop} [Decidable c] {α : Type} {a b : α} {r : α} (h : ite c a b = r) (hc : ¬ c) : b = r := (if_neg hc).symm.trans h
def FU : Nat := 4096
theorem kd_lt {q : Nat} (h : kd q ≠ 0) : q < 378 := by
  by_cases h1 : q < 378
  · exact h1
  · refine absurd ?_ h
    unfold kd
    simp only [show ¬ q = 0 by omega, show ¬ q < 73 by omega, show ¬ q = 73 by omega, show ¬ q = 74 by omega, show ¬ q = 75 by omega, show ¬ q = 76 by omega, show ¬ q = 77 by omega, show ¬ q = 78 by omega, show ¬ q = 79 by omega, show ¬ q < 368 by omega, show ¬ q = 368 by omega, show ¬ q = 369 by omega, show ¬ q = 370 by omega, show ¬ q = 371 by omega, show ¬ q = 372 by omega, show ¬ q = 373 by omega, show ¬ q = 374 by omega, show ¬ q = 375 by omega, show ¬ q = 376 by omega, show ¬ q = 377 by omega, if_false]
theorem kd2 {q : Nat} (h : kd q = 2) : kd (q + 1) = 3 ∧ kd (q + 2) = 4 ∧ kd (q + 3) = 5 ∧ kd (q + 4) = 104 ∧ kd (q + 5) = 7 :=
  (by decide +kernel : ∀ q, q < 378 → kd q = 2 → kd (q + 1) = 3 ∧ kd (q + 2) = 4 ∧ kd (q + 3) = 5 ∧ kd (q + 4) = 104 ∧ kd (q + 5) = 7) q (kd_lt (by rw [h]; decide)) h
theorem kd8 {q : Nat} (h : kd q = 8) : kd (q + 1) = 108 := (by decide +kernel : ∀ q, q < 378 → kd q = 8 → kd (q + 1) = 108) q (kd_lt (by rw [h]; decide)) h
theorem kd10 {q : Nat} (h : kd q = 10) : kd (q + 1) = 110 := (by decide +kernel : ∀ q, q < 378 → kd q = 10 → kd (q + 1) = 110) q (kd_lt (by rw [h]; decide)) h
theorem kd3 {q c : Nat} (h : kd q = 3) (hc : c < 8) : kd (q + 11 + 2 * c) = 8 := (by decide +kernel : ∀ q, q < 378 → kd q = 3 → ∀ c, c < 8 → kd (q + 11 + 2 * c) = 8) q (kd_lt (by rw [h]; decide)) h c hc
theorem kd4 {q c : Nat} (h : kd q = 4) (hc : c < 12) : kd (q + 26 + c) = 9 := (by decide +kernel : ∀ q, q < 378 → kd q = 4 → ∀ c, c < 12 → kd (q + 26 + c) = 9) q (kd_lt (by rw [h]; decide)) h c hc
theorem kd5 {q c : Nat} (h : kd q = 5) (hc : c < 16) : kd (q + 37 + 2 * c) = 10 := (by decide +kernel : ∀ q, q < 378 → kd q = 5 → ∀ c, c < 16 → kd (q + 37 + 2 * c) = 10) q (kd_lt (by rw [h]; decide)) h c hc
theorem kd7 {q c : Nat} (h : kd q = 7) (hc : c < 6) : kd (q + 1 + c) = 104 := (by decide +kernel : ∀ q, q < 378 → kd q = 7 → ∀ c, c < 6 → kd (q + 1 + c) = 104) q (kd_lt (by rw [h]; decide)) h c hc
theorem kd16 {c : Nat} (hc : c < 4) : kd (80 + 72 * c) = 2 := (by decide +kernel : ∀ c, c < 4 → kd (80 + 72 * c) = 2) c hc
/-- behind one that changes the world -/
def WΨ (Γ : Gl) (B : Bs) (v : Option Value) (w : Wl) (sz : Nat) : Option Value → Gf → Nat → Prop := fun r G' sz' => r = v ∧ Wd Γ B w G' ∧ sz' = sz
abbrev CtW (l : Launch) (Γ : Gl) (y : MethodName) (cc : ByteArray) (nL : Nat) (ret : Option FieldType) (t : Nat) (av : List Value) (G : Gf) (sz : Nat) (B : Bs) (v : Option Value) (w : Wl) : Prop := Ct l Γ y cc nL ret t av G sz (WΨ Γ B v w sz) 0 0
/-- fewer locals known -/
def lw : List (Option Value) → List (Option Value) → Prop
  | [], _ => True
  | none :: t', ls => lw t' ls.tail
  | some v :: t', ls => ls.head? = some (some v) ∧ lw t' ls.tail
theorem lw_get : ∀ {ls' ls : List (Option Value)}, lw ls' ls → ∀ (i : Nat) (v : Value), ls'[i]? = some (some v) → ls[i]? = some (some v)
  | [], _, _, i, v, h => by cases i <;> cases h
  | none :: t', ls, hw, 0, v, h => by cases h
  | none :: t', ls, hw, i + 1, v, h => by
    have := lw_get (ls' := t') (ls := ls.tail) hw i v h
    rw [List.getElem?_tail] at this
    exact this
  | some u :: t', ls, hw, 0, v, h => by
    cases h
    cases ls with
    | nil => cases hw.1
    | cons a ls => exact hw.1
  | some u :: t', ls, hw, i + 1, v, h => by
    have := lw_get (ls' := t') (ls := ls.tail) hw.2 i v h
    rw [List.getElem?_tail] at this
    exact this
section JW
variable {X : Cx} {cc : ByteArray} {nL : Nat} {own : String} {t mc ms : Nat} {G : Gf} {sz k n pc : Nat} {ls : List (Option Value)} {st : List Value} {B : Bs} {w : Wl}
theorem J_lw {ls' : List (Option Value)} (h : lw ls' ls) (kk : J X nL G sz k n pc ls' st) : J X nL G sz k n pc ls st :=
  fun H locs lsA hH hl hv2 => kk H locs lsA hH hl ⟨hv2.1, hv2.2.1, fun i v hi => hv2.2.2 i v (lw_get h i v hi)⟩
theorem J_iaW (hx : Fx X cc nL own t mc ms) (hW : Wd (xΓ X) B w G) {q N c : Nat} {i : Int32} (hk : kd q = N + 100) (hc : idx i N = some c) (hd : decode cc pc = .ok (.iaload, 1)) (kk : J X nL G sz k n (pc + 1) ls (.int (w q c) :: st)) : J X nL G sz k n pc ls (.int i :: .ref (B.1 + q) :: st) :=
  J_iald hx (hW.arr hk) (idx_in hc) hd (by rw [idx_c hc]; exact kk)
theorem J_iaS (hx : Fx X cc nL own t mc ms) (hW : Wd (xΓ X) B w G) {q N c : Nat} {i x : Int32} (hk : kd q = N + 100) (hc : idx i N = some c) (hd : decode cc pc = .ok (.iastore, 1)) (kk : ∀ G', Wd (xΓ X) B (wst w q c x) G' → J X nL G' sz k n (pc + 1) ls st) : J X nL G sz k n pc ls (.int x :: .int i :: .ref (B.1 + q) :: st) :=
  J_iast hx (hW.arr hk) (idx_in hc) hd (by rw [idx_c hc]; exact kk _ (hW.row hk ent_I))
theorem J_baW (hx : Fx X cc nL own t mc ms) (hW : Wd (xΓ X) B w G) {q c : Nat} {i : Int32} (hk : kd q = 18) (hc : idx i 150 = some c) (hd : decode cc pc = .ok (.baload, 1)) (kk : J X nL G sz k n (pc + 1) ls (.int (w q c) :: st)) : J X nL G sz k n pc ls (.int i :: .ref (B.1 + q) :: st) :=
  J_bald hx (hW.obj hk (by decide) (by decide)) (idx_in hc) hd (by rw [idx_c hc]; exact kk)
theorem J_baS (hx : Fx X cc nL own t mc ms) (hW : Wd (xΓ X) B w G) {q c : Nat} {i x : Int32} (hk : kd q = 18) (hc : idx i 150 = some c) (hd : decode cc pc = .ok (.bastore, 1)) (kk : ∀ G', Wd (xΓ X) B (wst w q c (vp_nar .byte x)) G' → J X nL G' sz k n (pc + 1) ls st) : J X nL G sz k n pc ls (.int x :: .int i :: .ref (B.1 + q) :: st) :=
  J_bast hx (hW.obj hk (by decide) (by decide)) (idx_in hc) hd (by rw [idx_c hc]; exact kk _ (hW.row hk (ent_O (by decide))))
theorem J_a3 (hx : Fx X cc nL own t mc ms) (hW : Wd (xΓ X) B w G) {q c : Nat} (q2 : Nat) {i : Int32} (hk : kd q = 3) (hc : idx i 8 = some c) (hq : q + 11 + 2 * c = q2) (hd : decode cc pc = .ok (.aaload, 1)) (kk : kd q2 = 8 → J X nL G sz k n (pc + 1) ls (.ref (B.1 + q2) :: st)) : J X nL G sz k n pc ls (.int i :: .ref (B.1 + q) :: st) := by
  subst hq
  exact J_aald hx 5 rfl rfl (hW.obj hk (by decide) (by decide)) (idx_in hc) rfl hd (by rw [idx_c hc]; exact kk (kd3 hk (idx_lt hc)))
theorem J_a4 (hx : Fx X cc nL own t mc ms) (hW : Wd (xΓ X) B w G) {q c : Nat} (q2 : Nat) {i : Int32} (hk : kd q = 4) (hc : idx i 12 = some c) (hq : q + 26 + c = q2) (hd : decode cc pc = .ok (.aaload, 1)) (kk : kd q2 = 9 → J X nL G sz k n (pc + 1) ls (.ref (B.1 + q2) :: st)) : J X nL G sz k n pc ls (.int i :: .ref (B.1 + q) :: st) := by
  subst hq
  exact J_aald hx 3 rfl rfl (hW.obj hk (by decide) (by decide)) (idx_in hc) rfl hd (by rw [idx_c hc]; exact kk (kd4 hk (idx_lt hc)))
theorem J_a5 (hx : Fx X cc nL own t mc ms) (hW : Wd (xΓ X) B w G) {q c : Nat} (q2 : Nat) {i : Int32} (hk : kd q = 5) (hc : idx i 16 = some c) (hq : q + 37 + 2 * c = q2) (hd : decode cc pc = .ok (.aaload, 1)) (kk : kd q2 = 10 → J X nL G sz k n (pc + 1) ls (.ref (B.1 + q2) :: st)) : J X nL G sz k n pc ls (.int i :: .ref (B.1 + q) :: st) := by
  subst hq
  exact J_aald hx 6 rfl rfl (hW.obj hk (by decide) (by decide)) (idx_in hc) rfl hd (by rw [idx_c hc]; exact kk (kd5 hk (idx_lt hc)))
theorem J_a7 (hx : Fx X cc nL own t mc ms) (hW : Wd (xΓ X) B w G) {q c : Nat} (q2 : Nat) {i : Int32} (hk : kd q = 7) (hc : idx i 6 = some c) (hq : q + 1 + c = q2) (hd : decode cc pc = .ok (.aaload, 1)) (kk : kd q2 = 104 → J X nL G sz k n (pc + 1) ls (.ref (B.1 + q2) :: st)) : J X nL G sz k n pc ls (.int i :: .ref (B.1 + q) :: st) := by
  subst hq
  exact J_aald hx 7 rfl rfl (hW.obj hk (by decide) (by decide)) (idx_in hc) rfl hd (by rw [idx_c hc]; exact kk (kd7 hk (idx_lt hc)))
theorem J_a16 (hx : Fx X cc nL own t mc ms) (hW : Wd (xΓ X) B w G) {q c d : Nat} (q2 : Nat) {i : Int32} (hk : kd q = 16) (hc : idx i 4 = some c) (hc2 : idx (w q c) 4 = some d) (hq : 80 + 72 * d = q2) (hd : decode cc pc = .ok (.aaload, 1)) (kk : kd q2 = 2 → J X nL G sz k n (pc + 1) ls (.ref (B.1 + q2) :: st)) : J X nL G sz k n pc ls (.int i :: .ref (B.1 + q) :: st) := by
  subst hq
  exact J_aald hx 4 rfl rfl (hW.obj hk (by decide) (by decide)) (idx_in hc) rfl hd (by rw [idx_c hc, idx_c hc2]; exact kk (kd16 (idx_lt hc2)))
theorem J_aS16 (hx : Fx X cc nL own t mc ms) (hW : Wd (xΓ X) B w G) {q c d : Nat} {i v : Int32} (hk : kd q = 16) (hc : idx i 4 = some c) (hv : idx v 4 = some d) (hd : decode cc pc = .ok (.aastore, 1)) (kk : ∀ G', Wd (xΓ X) B (wst w q c v) G' → J X nL G' sz k n (pc + 1) ls st) : J X nL G sz k n pc ls (.ref (B.1 + (80 + 72 * d)) :: .int i :: .ref (B.1 + q) :: st) := by
  refine J_aast hx 4 5 (r := (RX6, TX6, 14)) rfl rfl (hW.obj hk (by decide) (by decide)) (hW.obj (kd16 (idx_lt hv)) (by decide) (by decide)) (idx_in hc) hd ?_
  refine kk _ (hW.row hk ?_)
  rw [ent_O (by decide), idx_c hc]
  show (Sum.inl ((xΓ X).2.1 4, 4, Sum.inr (Sum.inr (Sum.inr (Sum.inr _)))) : va_E) = _
  congr 7
  funext j
  by_cases hj : j = c
  · subst hj
    simp [upd, va_up, idx_c hv]
  · simp [upd, va_up, hj]
theorem J_lret (hx : Fx X cc nL own t mc ms) {Ψ : Option Value → Gf → Nat → Prop} (hr : Rt X (some .long) mc ms Ψ) {v : Int64} (hd : decode cc pc = .ok (.lreturn, 1)) (hk : k ≤ mc) (hn : n ≤ ms) (hq : Ψ (some (.long v)) G sz) : J X nL G sz k n pc ls [.long v] :=
  fun H locs lsA hH hl hv2 => W.widen hk hn (hr.2 _ _ _ (W.lret hx.1 hx.2.1 hr.1 (fun u hu _ => ⟨_, G, sz, rfl, hq, hu ▸ hH⟩) hl hd hx.2.2.2.2.2.2.2))
theorem J_iretW (hx : Fx X cc nL own t mc ms) {v : Int32} (hr : Rt X (some .int) mc ms (WΨ (xΓ X) B (some (.int v)) w sz)) (hW : Wd (xΓ X) B w G) (hd : decode cc pc = .ok (.ireturn, 1)) (hk : k ≤ mc) (hn : n ≤ ms) : J X nL G sz k n pc ls [.int v] :=
  J_iret hx hr hd hk hn ⟨rfl, hW, rfl⟩
theorem J_zretW (hx : Fx X cc nL own t mc ms) {b : Bool} (hr : Rt X (some .boolean) mc ms (WΨ (xΓ X) B (some (.int (bI b))) w sz)) (hW : Wd (xΓ X) B w G) (hd : decode cc pc = .ok (.ireturn, 1)) (hk : k ≤ mc) (hn : n ≤ ms) : J X nL G sz k n pc ls [.int (bI b)] :=
  J_zret hx hr hd (bI_nar b) hk hn ⟨rfl, hW, rfl⟩
theorem J_lretR (hx : Fx X cc nL own t mc ms) {v : Int64} (hr : Rt X (some .long) mc ms (RdΨ (.long v) G sz)) (hd : decode cc pc = .ok (.lreturn, 1)) (hk : k ≤ mc) (hn : n ≤ ms) : J X nL G sz k n pc ls [.long v] :=
  J_lret hx hr hd hk hn ⟨rfl, rfl, rfl⟩
theorem J_lretW (hx : Fx X cc nL own t mc ms) {v : Int64} (hr : Rt X (some .long) mc ms (WΨ (xΓ X) B (some (.long v)) w sz)) (hW : Wd (xΓ X) B w G) (hd : decode cc pc = .ok (.lreturn, 1)) (hk : k ≤ mc) (hn : n ≤ ms) : J X nL G sz k n pc ls [.long v] :=
  J_lret hx hr hd hk hn ⟨rfl, hW, rfl⟩
theorem J_vretW (hx : Fx X cc nL own t mc ms) (hr : Rt X none mc ms (WΨ (xΓ X) B none w sz)) (hW : Wd (xΓ X) B w G) (hd : decode cc pc = .ok (.return_, 1)) (hk : k ≤ mc) (hn : n ≤ ms) : J X nL G sz k n pc ls [] :=
  J_vret hx hr hd hk hn ⟨rfl, hW, rfl⟩
theorem J_wrV (hx : Fx X cc nL own t mc ms) {idx : Nat} {y : MethodName} {bytes : ByteArray} {maxL : Nat} {ret : Option FieldType} {nA t' b : Nat} {As rest : List Value} {v : Option Value} {w' : Wl} {ci : Nat} {T : u_T} {N : Nat} {fs : List Value}
    (ct : CtW (xl X) (xΓ X) y bytes maxL ret t' (.ref b :: As) G sz B v w') (hml : Cond.methodLink own idx y ∈ WT) (hm : LkV y bytes maxL ret nA) (hC : vwCl[ci]? = some (y.cls, T, N)) (hG : G b = some (.inr (ci, fs)))
    (hst : st = As.reverse ++ .ref b :: rest) (hn : As.length = nA) (ht : t' + 1 ≤ t) (hlo : 19 + maxL + 30 * t' ≤ 30 * t) (hw : (rest.map fun v => v.category).sum ≤ 8) (hk : k ≤ mc) (hs : n ≤ ms) (hd : decode cc pc = .ok (.invokevirtual idx, 3))
    (kk : ∀ G', Wd (xΓ X) B w' G' → J X nL G' sz k n (pc + 3) ls (v.toList ++ rest)) : J X nL G sz k n pc ls st :=
  J_callV hx ct hml hm hC hG hst hn ht hlo hw hk hs hd (fun r G' sz' h => by obtain ⟨rfl, hW, rfl⟩ := h; exact kk G' hW)
theorem J_wrS (hx : Fx X cc nL own t mc ms) {idx : Nat} {y : MethodName} {bytes : ByteArray} {maxL : Nat} {ret : Option FieldType} {nA t' : Nat} {As rest : List Value} {v : Option Value} {w' : Wl}
    (ct : CtW (xl X) (xΓ X) y bytes maxL ret t' As G sz B v w') (hml : Cond.methodLink own idx y ∈ WT) (hm : LkS y bytes maxL ret nA)
    (hst : st = As.reverse ++ rest) (hn : As.length = nA) (ht : t' + 1 ≤ t) (hlo : 19 + maxL + 30 * t' ≤ 30 * t) (hw : (rest.map fun v => v.category).sum ≤ 8) (hk : k ≤ mc) (hs : n ≤ ms) (hd : decode cc pc = .ok (.invokestatic idx, 3))
    (kk : ∀ G', Wd (xΓ X) B w' G' → J X nL G' sz k n (pc + 3) ls (v.toList ++ rest)) : J X nL G sz k n pc ls st :=
  J_callS hx ct hml hm hst hn ht hlo hw hk hs hd (fun r G' sz' h => by obtain ⟨rfl, hW, rfl⟩ := h; exact kk G' hW)
/-- a field put in -/
theorem J_putW (hx : Fx X cc nL own t mc ms) (hW : Wd (xΓ X) B w G) {ci : Nat} {C : String} {T : u_T} {N : Nat} {ty : Nat → FieldType} (hC : ClOk ci C T N ty) (kf : Nat) (hk : kf < N) {idx : Nat} (hl : Cond.fieldLink own idx (T kf).1 (T kf).2.1 (T kf).2.2.1 ∈ WT) (hfin : (T kf).2.2.2 = false) {q kq : Nat} (hq : kd q = kq) {fs : List Value} (hG : G (B.1 + q) = some (.inr (ci, fs))) (hlen : kf < fs.length) {v : Value} (hn : narrow (ty kf) v = v) (hfit : fits (ty kf) v = true) {f : Nat → Int32} (he : ent (xΓ X) B kq q f = .inr (ci, fs.set kf v)) (hd : decode cc pc = .ok (.putfield idx, 3)) (kk : ∀ G', Wd (xΓ X) B (wrow w q f) G' → J X nL G' sz k n (pc + 3) ls st) : J X nL G sz k n pc ls (v :: .ref (B.1 + q) :: st) :=
  J_put hx hC kf hk hl hfin hG hlen hn hfit hd (kk _ (hW.row hq he))
theorem g12_0 (hx : Fx X cc nL own t mc ms) (hW : Wd (xΓ X) B w G) {q : Nat} (q2 : Nat) (hk : kd q = 1) {idx : Nat} (hl : Cond.fieldLink own idx (TX12 0).1 (TX12 0).2.1 (TX12 0).2.2.1 ∈ WT) (hq : 0 + 1 = q2) (hd : decode cc pc = .ok (.getfield idx, 3)) (kk : J X nL G sz k n (pc + 3) ls (.ref (B.1 + q2) :: st)) : J X nL G sz k n pc ls (.ref (B.1 + q) :: st) := by subst hq; exact J_get hx clk_X12 0 (by decide) hl (hW.obj hk (by decide) (by decide)) rfl hd kk
theorem g12_1 (hx : Fx X cc nL own t mc ms) (hW : Wd (xΓ X) B w G) {q : Nat} (q2 : Nat) (hk : kd q = 1) {idx : Nat} (hl : Cond.fieldLink own idx (TX12 1).1 (TX12 1).2.1 (TX12 1).2.2.1 ∈ WT) (hq : 0 + 73 = q2) (hd : decode cc pc = .ok (.getfield idx, 3)) (kk : J X nL G sz k n (pc + 3) ls (.ref (B.1 + q2) :: st)) : J X nL G sz k n pc ls (.ref (B.1 + q) :: st) := by subst hq; exact J_get hx clk_X12 1 (by decide) hl (hW.obj hk (by decide) (by decide)) rfl hd kk
theorem g12_2 (hx : Fx X cc nL own t mc ms) (hW : Wd (xΓ X) B w G) {q : Nat} (q2 : Nat) (hk : kd q = 1) {idx : Nat} (hl : Cond.fieldLink own idx (TX12 2).1 (TX12 2).2.1 (TX12 2).2.2.1 ∈ WT) (hq : 0 + 74 = q2) (hd : decode cc pc = .ok (.getfield idx, 3)) (kk : J X nL G sz k n (pc + 3) ls (.ref (B.1 + q2) :: st)) : J X nL G sz k n pc ls (.ref (B.1 + q) :: st) := by subst hq; exact J_get hx clk_X12 2 (by decide) hl (hW.obj hk (by decide) (by decide)) rfl hd kk
theorem g12_3 (hx : Fx X cc nL own t mc ms) (hW : Wd (xΓ X) B w G) {q : Nat} (q2 : Nat) (hk : kd q = 1) {idx : Nat} (hl : Cond.fieldLink own idx (TX12 3).1 (TX12 3).2.1 (TX12 3).2.2.1 ∈ WT) (hq : 0 + 75 = q2) (hd : decode cc pc = .ok (.getfield idx, 3)) (kk : J X nL G sz k n (pc + 3) ls (.ref (B.1 + q2) :: st)) : J X nL G sz k n pc ls (.ref (B.1 + q) :: st) := by subst hq; exact J_get hx clk_X12 3 (by decide) hl (hW.obj hk (by decide) (by decide)) rfl hd kk
theorem g12_4 (hx : Fx X cc nL own t mc ms) (hW : Wd (xΓ X) B w G) {q : Nat} (q2 : Nat) (hk : kd q = 1) {idx : Nat} (hl : Cond.fieldLink own idx (TX12 4).1 (TX12 4).2.1 (TX12 4).2.2.1 ∈ WT) (hq : 0 + 76 = q2) (hd : decode cc pc = .ok (.getfield idx, 3)) (kk : J X nL G sz k n (pc + 3) ls (.ref (B.1 + q2) :: st)) : J X nL G sz k n pc ls (.ref (B.1 + q) :: st) := by subst hq; exact J_get hx clk_X12 4 (by decide) hl (hW.obj hk (by decide) (by decide)) rfl hd kk
theorem g12_5 (hx : Fx X cc nL own t mc ms) (hW : Wd (xΓ X) B w G) {q : Nat} (q2 : Nat) (hk : kd q = 1) {idx : Nat} (hl : Cond.fieldLink own idx (TX12 5).1 (TX12 5).2.1 (TX12 5).2.2.1 ∈ WT) (hq : 0 + 78 = q2) (hd : decode cc pc = .ok (.getfield idx, 3)) (kk : J X nL G sz k n (pc + 3) ls (.ref (B.1 + q2) :: st)) : J X nL G sz k n pc ls (.ref (B.1 + q) :: st) := by subst hq; exact J_get hx clk_X12 5 (by decide) hl (hW.obj hk (by decide) (by decide)) rfl hd kk
theorem g12_6 (hx : Fx X cc nL own t mc ms) (hW : Wd (xΓ X) B w G) {q : Nat} (q2 : Nat) (hk : kd q = 1) {idx : Nat} (hl : Cond.fieldLink own idx (TX12 6).1 (TX12 6).2.1 (TX12 6).2.2.1 ∈ WT) (hq : 0 + 368 = q2) (hd : decode cc pc = .ok (.getfield idx, 3)) (kk : J X nL G sz k n (pc + 3) ls (.ref (B.1 + q2) :: st)) : J X nL G sz k n pc ls (.ref (B.1 + q) :: st) := by subst hq; exact J_get hx clk_X12 6 (by decide) hl (hW.obj hk (by decide) (by decide)) rfl hd kk
theorem g6_0 (hx : Fx X cc nL own t mc ms) (hW : Wd (xΓ X) B w G) {q : Nat} (hk : kd q = 2) {idx : Nat} (hl : Cond.fieldLink own idx (TX6 0).1 (TX6 0).2.1 (TX6 0).2.2.1 ∈ WT) (hd : decode cc pc = .ok (.getfield idx, 3)) (kk : J X nL G sz k n (pc + 3) ls (.int (w q 0) :: st)) : J X nL G sz k n pc ls (.ref (B.1 + q) :: st) := J_get hx clk_X6 0 (by decide) hl (hW.obj hk (by decide) (by decide)) rfl hd kk
theorem p6_0 (hx : Fx X cc nL own t mc ms) (hW : Wd (xΓ X) B w G) {q : Nat} {v : Int32} (hk : kd q = 2) {idx : Nat} (hl : Cond.fieldLink own idx (TX6 0).1 (TX6 0).2.1 (TX6 0).2.2.1 ∈ WT) (hd : decode cc pc = .ok (.putfield idx, 3)) (kk : ∀ G', Wd (xΓ X) B (wst w q 0 v) G' → J X nL G' sz k n (pc + 3) ls st) : J X nL G sz k n pc ls (.int v :: .ref (B.1 + q) :: st) := J_putW hx hW clk_X6 0 (by decide) hl rfl hk (hW.obj hk (by decide) (by decide)) (by decide : 0 < 14) rfl rfl (ent_O (by decide)) hd kk
theorem g6_1 (hx : Fx X cc nL own t mc ms) (hW : Wd (xΓ X) B w G) {q : Nat} (hk : kd q = 2) {idx : Nat} (hl : Cond.fieldLink own idx (TX6 1).1 (TX6 1).2.1 (TX6 1).2.2.1 ∈ WT) (hd : decode cc pc = .ok (.getfield idx, 3)) (kk : J X nL G sz k n (pc + 3) ls (.int (w q 1) :: st)) : J X nL G sz k n pc ls (.ref (B.1 + q) :: st) := J_get hx clk_X6 1 (by decide) hl (hW.obj hk (by decide) (by decide)) rfl hd kk
theorem p6_1 (hx : Fx X cc nL own t mc ms) (hW : Wd (xΓ X) B w G) {q : Nat} {v : Int32} (hk : kd q = 2) {idx : Nat} (hl : Cond.fieldLink own idx (TX6 1).1 (TX6 1).2.1 (TX6 1).2.2.1 ∈ WT) (hd : decode cc pc = .ok (.putfield idx, 3)) (kk : ∀ G', Wd (xΓ X) B (wst w q 1 v) G' → J X nL G' sz k n (pc + 3) ls st) : J X nL G sz k n pc ls (.int v :: .ref (B.1 + q) :: st) := J_putW hx hW clk_X6 1 (by decide) hl rfl hk (hW.obj hk (by decide) (by decide)) (by decide : 1 < 14) rfl rfl (ent_O (by decide)) hd kk
theorem g6_2 (hx : Fx X cc nL own t mc ms) (hW : Wd (xΓ X) B w G) {q : Nat} (hk : kd q = 2) {idx : Nat} (hl : Cond.fieldLink own idx (TX6 2).1 (TX6 2).2.1 (TX6 2).2.2.1 ∈ WT) (hd : decode cc pc = .ok (.getfield idx, 3)) (kk : J X nL G sz k n (pc + 3) ls (.int (w q 2) :: st)) : J X nL G sz k n pc ls (.ref (B.1 + q) :: st) := J_get hx clk_X6 2 (by decide) hl (hW.obj hk (by decide) (by decide)) rfl hd kk
theorem p6_2 (hx : Fx X cc nL own t mc ms) (hW : Wd (xΓ X) B w G) {q : Nat} {v : Int32} (hk : kd q = 2) {idx : Nat} (hl : Cond.fieldLink own idx (TX6 2).1 (TX6 2).2.1 (TX6 2).2.2.1 ∈ WT) (hd : decode cc pc = .ok (.putfield idx, 3)) (kk : ∀ G', Wd (xΓ X) B (wst w q 2 v) G' → J X nL G' sz k n (pc + 3) ls st) : J X nL G sz k n pc ls (.int v :: .ref (B.1 + q) :: st) := J_putW hx hW clk_X6 2 (by decide) hl rfl hk (hW.obj hk (by decide) (by decide)) (by decide : 2 < 14) rfl rfl (ent_O (by decide)) hd kk
theorem g6_3 (hx : Fx X cc nL own t mc ms) (hW : Wd (xΓ X) B w G) {q : Nat} (hk : kd q = 2) {idx : Nat} (hl : Cond.fieldLink own idx (TX6 3).1 (TX6 3).2.1 (TX6 3).2.2.1 ∈ WT) (hd : decode cc pc = .ok (.getfield idx, 3)) (kk : J X nL G sz k n (pc + 3) ls (.int (w q 3) :: st)) : J X nL G sz k n pc ls (.ref (B.1 + q) :: st) := J_get hx clk_X6 3 (by decide) hl (hW.obj hk (by decide) (by decide)) rfl hd kk
theorem p6_3 (hx : Fx X cc nL own t mc ms) (hW : Wd (xΓ X) B w G) {q : Nat} {v : Int32} (hk : kd q = 2) {idx : Nat} (hl : Cond.fieldLink own idx (TX6 3).1 (TX6 3).2.1 (TX6 3).2.2.1 ∈ WT) (hd : decode cc pc = .ok (.putfield idx, 3)) (kk : ∀ G', Wd (xΓ X) B (wst w q 3 v) G' → J X nL G' sz k n (pc + 3) ls st) : J X nL G sz k n pc ls (.int v :: .ref (B.1 + q) :: st) := J_putW hx hW clk_X6 3 (by decide) hl rfl hk (hW.obj hk (by decide) (by decide)) (by decide : 3 < 14) rfl rfl (ent_O (by decide)) hd kk
theorem g6_4 (hx : Fx X cc nL own t mc ms) (hW : Wd (xΓ X) B w G) {q : Nat} (hk : kd q = 2) {idx : Nat} (hl : Cond.fieldLink own idx (TX6 4).1 (TX6 4).2.1 (TX6 4).2.2.1 ∈ WT) (hd : decode cc pc = .ok (.getfield idx, 3)) (kk : J X nL G sz k n (pc + 3) ls (.int (w q 4) :: st)) : J X nL G sz k n pc ls (.ref (B.1 + q) :: st) := J_get hx clk_X6 4 (by decide) hl (hW.obj hk (by decide) (by decide)) rfl hd kk
theorem p6_4 (hx : Fx X cc nL own t mc ms) (hW : Wd (xΓ X) B w G) {q : Nat} {v : Int32} (hk : kd q = 2) {idx : Nat} (hl : Cond.fieldLink own idx (TX6 4).1 (TX6 4).2.1 (TX6 4).2.2.1 ∈ WT) (hd : decode cc pc = .ok (.putfield idx, 3)) (kk : ∀ G', Wd (xΓ X) B (wst w q 4 v) G' → J X nL G' sz k n (pc + 3) ls st) : J X nL G sz k n pc ls (.int v :: .ref (B.1 + q) :: st) := J_putW hx hW clk_X6 4 (by decide) hl rfl hk (hW.obj hk (by decide) (by decide)) (by decide : 4 < 14) rfl rfl (ent_O (by decide)) hd kk
theorem g6_5 (hx : Fx X cc nL own t mc ms) (hW : Wd (xΓ X) B w G) {q : Nat} (hk : kd q = 2) {idx : Nat} (hl : Cond.fieldLink own idx (TX6 5).1 (TX6 5).2.1 (TX6 5).2.2.1 ∈ WT) (hd : decode cc pc = .ok (.getfield idx, 3)) (kk : J X nL G sz k n (pc + 3) ls (.int (w q 5) :: st)) : J X nL G sz k n pc ls (.ref (B.1 + q) :: st) := J_get hx clk_X6 5 (by decide) hl (hW.obj hk (by decide) (by decide)) rfl hd kk
theorem p6_5 (hx : Fx X cc nL own t mc ms) (hW : Wd (xΓ X) B w G) {q : Nat} {v : Int32} (hk : kd q = 2) {idx : Nat} (hl : Cond.fieldLink own idx (TX6 5).1 (TX6 5).2.1 (TX6 5).2.2.1 ∈ WT) (hd : decode cc pc = .ok (.putfield idx, 3)) (kk : ∀ G', Wd (xΓ X) B (wst w q 5 v) G' → J X nL G' sz k n (pc + 3) ls st) : J X nL G sz k n pc ls (.int v :: .ref (B.1 + q) :: st) := J_putW hx hW clk_X6 5 (by decide) hl rfl hk (hW.obj hk (by decide) (by decide)) (by decide : 5 < 14) rfl rfl (ent_O (by decide)) hd kk
theorem g6_6 (hx : Fx X cc nL own t mc ms) (hW : Wd (xΓ X) B w G) {q : Nat} (hk : kd q = 2) {idx : Nat} (hl : Cond.fieldLink own idx (TX6 6).1 (TX6 6).2.1 (TX6 6).2.2.1 ∈ WT) (hd : decode cc pc = .ok (.getfield idx, 3)) (kk : J X nL G sz k n (pc + 3) ls (.int (w q 6) :: st)) : J X nL G sz k n pc ls (.ref (B.1 + q) :: st) := J_get hx clk_X6 6 (by decide) hl (hW.obj hk (by decide) (by decide)) rfl hd kk
theorem p6_6 (hx : Fx X cc nL own t mc ms) (hW : Wd (xΓ X) B w G) {q : Nat} {v : Int32} (hk : kd q = 2) {idx : Nat} (hl : Cond.fieldLink own idx (TX6 6).1 (TX6 6).2.1 (TX6 6).2.2.1 ∈ WT) (hd : decode cc pc = .ok (.putfield idx, 3)) (kk : ∀ G', Wd (xΓ X) B (wst w q 6 v) G' → J X nL G' sz k n (pc + 3) ls st) : J X nL G sz k n pc ls (.int v :: .ref (B.1 + q) :: st) := J_putW hx hW clk_X6 6 (by decide) hl rfl hk (hW.obj hk (by decide) (by decide)) (by decide : 6 < 14) rfl rfl (ent_O (by decide)) hd kk
theorem g6_7 (hx : Fx X cc nL own t mc ms) (hW : Wd (xΓ X) B w G) {q : Nat} (hk : kd q = 2) {idx : Nat} (hl : Cond.fieldLink own idx (TX6 7).1 (TX6 7).2.1 (TX6 7).2.2.1 ∈ WT) (hd : decode cc pc = .ok (.getfield idx, 3)) (kk : J X nL G sz k n (pc + 3) ls (.int (w q 7) :: st)) : J X nL G sz k n pc ls (.ref (B.1 + q) :: st) := J_get hx clk_X6 7 (by decide) hl (hW.obj hk (by decide) (by decide)) rfl hd kk
theorem p6_7 (hx : Fx X cc nL own t mc ms) (hW : Wd (xΓ X) B w G) {q : Nat} {v : Int32} (hk : kd q = 2) {idx : Nat} (hl : Cond.fieldLink own idx (TX6 7).1 (TX6 7).2.1 (TX6 7).2.2.1 ∈ WT) (hd : decode cc pc = .ok (.putfield idx, 3)) (kk : ∀ G', Wd (xΓ X) B (wst w q 7 v) G' → J X nL G' sz k n (pc + 3) ls st) : J X nL G sz k n pc ls (.int v :: .ref (B.1 + q) :: st) := J_putW hx hW clk_X6 7 (by decide) hl rfl hk (hW.obj hk (by decide) (by decide)) (by decide : 7 < 14) rfl rfl (ent_O (by decide)) hd kk
theorem g6_8 (hx : Fx X cc nL own t mc ms) (hW : Wd (xΓ X) B w G) {q : Nat} (hk : kd q = 2) {idx : Nat} (hl : Cond.fieldLink own idx (TX6 8).1 (TX6 8).2.1 (TX6 8).2.2.1 ∈ WT) (hd : decode cc pc = .ok (.getfield idx, 3)) (kk : J X nL G sz k n (pc + 3) ls (.int (w q 8) :: st)) : J X nL G sz k n pc ls (.ref (B.1 + q) :: st) := J_get hx clk_X6 8 (by decide) hl (hW.obj hk (by decide) (by decide)) rfl hd kk
theorem p6_8 (hx : Fx X cc nL own t mc ms) (hW : Wd (xΓ X) B w G) {q : Nat} {v : Int32} (hk : kd q = 2) {idx : Nat} (hl : Cond.fieldLink own idx (TX6 8).1 (TX6 8).2.1 (TX6 8).2.2.1 ∈ WT) (hd : decode cc pc = .ok (.putfield idx, 3)) (kk : ∀ G', Wd (xΓ X) B (wst w q 8 v) G' → J X nL G' sz k n (pc + 3) ls st) : J X nL G sz k n pc ls (.int v :: .ref (B.1 + q) :: st) := J_putW hx hW clk_X6 8 (by decide) hl rfl hk (hW.obj hk (by decide) (by decide)) (by decide : 8 < 14) rfl rfl (ent_O (by decide)) hd kk
theorem g6_9 (hx : Fx X cc nL own t mc ms) (hW : Wd (xΓ X) B w G) {q : Nat} (q2 : Nat) (hk : kd q = 2) {idx : Nat} (hl : Cond.fieldLink own idx (TX6 9).1 (TX6 9).2.1 (TX6 9).2.2.1 ∈ WT) (hq : q + 1 = q2) (hd : decode cc pc = .ok (.getfield idx, 3)) (kk : J X nL G sz k n (pc + 3) ls (.ref (B.1 + q2) :: st)) : J X nL G sz k n pc ls (.ref (B.1 + q) :: st) := by subst hq; exact J_get hx clk_X6 9 (by decide) hl (hW.obj hk (by decide) (by decide)) rfl hd kk
theorem g6_10 (hx : Fx X cc nL own t mc ms) (hW : Wd (xΓ X) B w G) {q : Nat} (q2 : Nat) (hk : kd q = 2) {idx : Nat} (hl : Cond.fieldLink own idx (TX6 10).1 (TX6 10).2.1 (TX6 10).2.2.1 ∈ WT) (hq : q + 2 = q2) (hd : decode cc pc = .ok (.getfield idx, 3)) (kk : J X nL G sz k n (pc + 3) ls (.ref (B.1 + q2) :: st)) : J X nL G sz k n pc ls (.ref (B.1 + q) :: st) := by subst hq; exact J_get hx clk_X6 10 (by decide) hl (hW.obj hk (by decide) (by decide)) rfl hd kk
theorem g6_11 (hx : Fx X cc nL own t mc ms) (hW : Wd (xΓ X) B w G) {q : Nat} (q2 : Nat) (hk : kd q = 2) {idx : Nat} (hl : Cond.fieldLink own idx (TX6 11).1 (TX6 11).2.1 (TX6 11).2.2.1 ∈ WT) (hq : q + 3 = q2) (hd : decode cc pc = .ok (.getfield idx, 3)) (kk : J X nL G sz k n (pc + 3) ls (.ref (B.1 + q2) :: st)) : J X nL G sz k n pc ls (.ref (B.1 + q) :: st) := by subst hq; exact J_get hx clk_X6 11 (by decide) hl (hW.obj hk (by decide) (by decide)) rfl hd kk
theorem g6_12 (hx : Fx X cc nL own t mc ms) (hW : Wd (xΓ X) B w G) {q : Nat} (q2 : Nat) (hk : kd q = 2) {idx : Nat} (hl : Cond.fieldLink own idx (TX6 12).1 (TX6 12).2.1 (TX6 12).2.2.1 ∈ WT) (hq : q + 4 = q2) (hd : decode cc pc = .ok (.getfield idx, 3)) (kk : J X nL G sz k n (pc + 3) ls (.ref (B.1 + q2) :: st)) : J X nL G sz k n pc ls (.ref (B.1 + q) :: st) := by subst hq; exact J_get hx clk_X6 12 (by decide) hl (hW.obj hk (by decide) (by decide)) rfl hd kk
theorem g6_13 (hx : Fx X cc nL own t mc ms) (hW : Wd (xΓ X) B w G) {q : Nat} (q2 : Nat) (hk : kd q = 2) {idx : Nat} (hl : Cond.fieldLink own idx (TX6 13).1 (TX6 13).2.1 (TX6 13).2.2.1 ∈ WT) (hq : q + 5 = q2) (hd : decode cc pc = .ok (.getfield idx, 3)) (kk : J X nL G sz k n (pc + 3) ls (.ref (B.1 + q2) :: st)) : J X nL G sz k n pc ls (.ref (B.1 + q) :: st) := by subst hq; exact J_get hx clk_X6 13 (by decide) hl (hW.obj hk (by decide) (by decide)) rfl hd kk
theorem g9_0 (hx : Fx X cc nL own t mc ms) (hW : Wd (xΓ X) B w G) {q : Nat} (hk : kd q = 8) {idx : Nat} (hl : Cond.fieldLink own idx (TX9 0).1 (TX9 0).2.1 (TX9 0).2.2.1 ∈ WT) (hd : decode cc pc = .ok (.getfield idx, 3)) (kk : J X nL G sz k n (pc + 3) ls (.int (w q 0) :: st)) : J X nL G sz k n pc ls (.ref (B.1 + q) :: st) := J_get hx clk_X9 0 (by decide) hl (hW.obj hk (by decide) (by decide)) rfl hd kk
theorem p9_0 (hx : Fx X cc nL own t mc ms) (hW : Wd (xΓ X) B w G) {q : Nat} {v : Int32} (hk : kd q = 8) {idx : Nat} (hl : Cond.fieldLink own idx (TX9 0).1 (TX9 0).2.1 (TX9 0).2.2.1 ∈ WT) (hd : decode cc pc = .ok (.putfield idx, 3)) (kk : ∀ G', Wd (xΓ X) B (wst w q 0 v) G' → J X nL G' sz k n (pc + 3) ls st) : J X nL G sz k n pc ls (.int v :: .ref (B.1 + q) :: st) := J_putW hx hW clk_X9 0 (by decide) hl rfl hk (hW.obj hk (by decide) (by decide)) (by decide : 0 < 6) rfl rfl (ent_O (by decide)) hd kk
theorem g9_1 (hx : Fx X cc nL own t mc ms) (hW : Wd (xΓ X) B w G) {q : Nat} (hk : kd q = 8) {idx : Nat} (hl : Cond.fieldLink own idx (TX9 1).1 (TX9 1).2.1 (TX9 1).2.2.1 ∈ WT) (hd : decode cc pc = .ok (.getfield idx, 3)) (kk : J X nL G sz k n (pc + 3) ls (.int (w q 1) :: st)) : J X nL G sz k n pc ls (.ref (B.1 + q) :: st) := J_get hx clk_X9 1 (by decide) hl (hW.obj hk (by decide) (by decide)) rfl hd kk
theorem p9_1 (hx : Fx X cc nL own t mc ms) (hW : Wd (xΓ X) B w G) {q : Nat} {v : Int32} (hk : kd q = 8) {idx : Nat} (hl : Cond.fieldLink own idx (TX9 1).1 (TX9 1).2.1 (TX9 1).2.2.1 ∈ WT) (hd : decode cc pc = .ok (.putfield idx, 3)) (kk : ∀ G', Wd (xΓ X) B (wst w q 1 v) G' → J X nL G' sz k n (pc + 3) ls st) : J X nL G sz k n pc ls (.int v :: .ref (B.1 + q) :: st) := J_putW hx hW clk_X9 1 (by decide) hl rfl hk (hW.obj hk (by decide) (by decide)) (by decide : 1 < 6) rfl rfl (ent_O (by decide)) hd kk
theorem g9_2 (hx : Fx X cc nL own t mc ms) (hW : Wd (xΓ X) B w G) {q : Nat} (hk : kd q = 8) {idx : Nat} (hl : Cond.fieldLink own idx (TX9 2).1 (TX9 2).2.1 (TX9 2).2.2.1 ∈ WT) (hd : decode cc pc = .ok (.getfield idx, 3)) (kk : J X nL G sz k n (pc + 3) ls (.int (w q 2) :: st)) : J X nL G sz k n pc ls (.ref (B.1 + q) :: st) := J_get hx clk_X9 2 (by decide) hl (hW.obj hk (by decide) (by decide)) rfl hd kk
theorem p9_2 (hx : Fx X cc nL own t mc ms) (hW : Wd (xΓ X) B w G) {q : Nat} {v : Int32} (hk : kd q = 8) {idx : Nat} (hl : Cond.fieldLink own idx (TX9 2).1 (TX9 2).2.1 (TX9 2).2.2.1 ∈ WT) (hd : decode cc pc = .ok (.putfield idx, 3)) (kk : ∀ G', Wd (xΓ X) B (wst w q 2 v) G' → J X nL G' sz k n (pc + 3) ls st) : J X nL G sz k n pc ls (.int v :: .ref (B.1 + q) :: st) := J_putW hx hW clk_X9 2 (by decide) hl rfl hk (hW.obj hk (by decide) (by decide)) (by decide : 2 < 6) rfl rfl (ent_O (by decide)) hd kk
theorem g9_3 (hx : Fx X cc nL own t mc ms) (hW : Wd (xΓ X) B w G) {q : Nat} (hk : kd q = 8) {idx : Nat} (hl : Cond.fieldLink own idx (TX9 3).1 (TX9 3).2.1 (TX9 3).2.2.1 ∈ WT) (hd : decode cc pc = .ok (.getfield idx, 3)) (kk : J X nL G sz k n (pc + 3) ls (.int (w q 3) :: st)) : J X nL G sz k n pc ls (.ref (B.1 + q) :: st) := J_get hx clk_X9 3 (by decide) hl (hW.obj hk (by decide) (by decide)) rfl hd kk
theorem p9_3 (hx : Fx X cc nL own t mc ms) (hW : Wd (xΓ X) B w G) {q : Nat} {v : Int32} (hk : kd q = 8) {idx : Nat} (hl : Cond.fieldLink own idx (TX9 3).1 (TX9 3).2.1 (TX9 3).2.2.1 ∈ WT) (hd : decode cc pc = .ok (.putfield idx, 3)) (kk : ∀ G', Wd (xΓ X) B (wst w q 3 v) G' → J X nL G' sz k n (pc + 3) ls st) : J X nL G sz k n pc ls (.int v :: .ref (B.1 + q) :: st) := J_putW hx hW clk_X9 3 (by decide) hl rfl hk (hW.obj hk (by decide) (by decide)) (by decide : 3 < 6) rfl rfl (ent_O (by decide)) hd kk
theorem g9_4 (hx : Fx X cc nL own t mc ms) (hW : Wd (xΓ X) B w G) {q : Nat} (hk : kd q = 8) {idx : Nat} (hl : Cond.fieldLink own idx (TX9 4).1 (TX9 4).2.1 (TX9 4).2.2.1 ∈ WT) (hd : decode cc pc = .ok (.getfield idx, 3)) (kk : J X nL G sz k n (pc + 3) ls (.int (w q 4) :: st)) : J X nL G sz k n pc ls (.ref (B.1 + q) :: st) := J_get hx clk_X9 4 (by decide) hl (hW.obj hk (by decide) (by decide)) rfl hd kk
theorem p9_4 (hx : Fx X cc nL own t mc ms) (hW : Wd (xΓ X) B w G) {q : Nat} {v : Int32} (hk : kd q = 8) {idx : Nat} (hl : Cond.fieldLink own idx (TX9 4).1 (TX9 4).2.1 (TX9 4).2.2.1 ∈ WT) (hd : decode cc pc = .ok (.putfield idx, 3)) (kk : ∀ G', Wd (xΓ X) B (wst w q 4 v) G' → J X nL G' sz k n (pc + 3) ls st) : J X nL G sz k n pc ls (.int v :: .ref (B.1 + q) :: st) := J_putW hx hW clk_X9 4 (by decide) hl rfl hk (hW.obj hk (by decide) (by decide)) (by decide : 4 < 6) rfl rfl (ent_O (by decide)) hd kk
theorem g9_5 (hx : Fx X cc nL own t mc ms) (hW : Wd (xΓ X) B w G) {q : Nat} (q2 : Nat) (hk : kd q = 8) {idx : Nat} (hl : Cond.fieldLink own idx (TX9 5).1 (TX9 5).2.1 (TX9 5).2.2.1 ∈ WT) (hq : q + 1 = q2) (hd : decode cc pc = .ok (.getfield idx, 3)) (kk : J X nL G sz k n (pc + 3) ls (.ref (B.1 + q2) :: st)) : J X nL G sz k n pc ls (.ref (B.1 + q) :: st) := by subst hq; exact J_get hx clk_X9 5 (by decide) hl (hW.obj hk (by decide) (by decide)) rfl hd kk
theorem g3_0 (hx : Fx X cc nL own t mc ms) (hW : Wd (xΓ X) B w G) {q : Nat} (hk : kd q = 9) {idx : Nat} (hl : Cond.fieldLink own idx (TX3 0).1 (TX3 0).2.1 (TX3 0).2.2.1 ∈ WT) (hd : decode cc pc = .ok (.getfield idx, 3)) (kk : J X nL G sz k n (pc + 3) ls (.int (w q 0) :: st)) : J X nL G sz k n pc ls (.ref (B.1 + q) :: st) := J_get hx clk_X3 0 (by decide) hl (hW.obj hk (by decide) (by decide)) rfl hd kk
theorem p3_0 (hx : Fx X cc nL own t mc ms) (hW : Wd (xΓ X) B w G) {q : Nat} {v : Int32} (hk : kd q = 9) {idx : Nat} (hl : Cond.fieldLink own idx (TX3 0).1 (TX3 0).2.1 (TX3 0).2.2.1 ∈ WT) (hd : decode cc pc = .ok (.putfield idx, 3)) (kk : ∀ G', Wd (xΓ X) B (wst w q 0 v) G' → J X nL G' sz k n (pc + 3) ls st) : J X nL G sz k n pc ls (.int v :: .ref (B.1 + q) :: st) := J_putW hx hW clk_X3 0 (by decide) hl rfl hk (hW.obj hk (by decide) (by decide)) (by decide : 0 < 10) rfl rfl (ent_O (by decide)) hd kk
theorem g3_1 (hx : Fx X cc nL own t mc ms) (hW : Wd (xΓ X) B w G) {q : Nat} (hk : kd q = 9) {idx : Nat} (hl : Cond.fieldLink own idx (TX3 1).1 (TX3 1).2.1 (TX3 1).2.2.1 ∈ WT) (hd : decode cc pc = .ok (.getfield idx, 3)) (kk : J X nL G sz k n (pc + 3) ls (.int (w q 1) :: st)) : J X nL G sz k n pc ls (.ref (B.1 + q) :: st) := J_get hx clk_X3 1 (by decide) hl (hW.obj hk (by decide) (by decide)) rfl hd kk
theorem p3_1 (hx : Fx X cc nL own t mc ms) (hW : Wd (xΓ X) B w G) {q : Nat} {v : Int32} (hk : kd q = 9) {idx : Nat} (hl : Cond.fieldLink own idx (TX3 1).1 (TX3 1).2.1 (TX3 1).2.2.1 ∈ WT) (hz : v = 0 ∨ v = 1) (hd : decode cc pc = .ok (.putfield idx, 3)) (kk : ∀ G', Wd (xΓ X) B (wst w q 1 v) G' → J X nL G' sz k n (pc + 3) ls st) : J X nL G sz k n pc ls (.int v :: .ref (B.1 + q) :: st) := J_putW hx hW clk_X3 1 (by decide) hl rfl hk (hW.obj hk (by decide) (by decide)) (by decide : 1 < 10) (by rcases hz with rfl | rfl <;> rfl) (by rcases hz with rfl | rfl <;> rfl) (ent_O (by decide)) hd kk
theorem g3_2 (hx : Fx X cc nL own t mc ms) (hW : Wd (xΓ X) B w G) {q : Nat} (hk : kd q = 9) {idx : Nat} (hl : Cond.fieldLink own idx (TX3 2).1 (TX3 2).2.1 (TX3 2).2.2.1 ∈ WT) (hd : decode cc pc = .ok (.getfield idx, 3)) (kk : J X nL G sz k n (pc + 3) ls (.int (w q 2) :: st)) : J X nL G sz k n pc ls (.ref (B.1 + q) :: st) := J_get hx clk_X3 2 (by decide) hl (hW.obj hk (by decide) (by decide)) rfl hd kk
theorem p3_2 (hx : Fx X cc nL own t mc ms) (hW : Wd (xΓ X) B w G) {q : Nat} {v : Int32} (hk : kd q = 9) {idx : Nat} (hl : Cond.fieldLink own idx (TX3 2).1 (TX3 2).2.1 (TX3 2).2.2.1 ∈ WT) (hd : decode cc pc = .ok (.putfield idx, 3)) (kk : ∀ G', Wd (xΓ X) B (wst w q 2 v) G' → J X nL G' sz k n (pc + 3) ls st) : J X nL G sz k n pc ls (.int v :: .ref (B.1 + q) :: st) := J_putW hx hW clk_X3 2 (by decide) hl rfl hk (hW.obj hk (by decide) (by decide)) (by decide : 2 < 10) rfl rfl (ent_O (by decide)) hd kk
theorem g3_3 (hx : Fx X cc nL own t mc ms) (hW : Wd (xΓ X) B w G) {q : Nat} (hk : kd q = 9) {idx : Nat} (hl : Cond.fieldLink own idx (TX3 3).1 (TX3 3).2.1 (TX3 3).2.2.1 ∈ WT) (hd : decode cc pc = .ok (.getfield idx, 3)) (kk : J X nL G sz k n (pc + 3) ls (.int (w q 3) :: st)) : J X nL G sz k n pc ls (.ref (B.1 + q) :: st) := J_get hx clk_X3 3 (by decide) hl (hW.obj hk (by decide) (by decide)) rfl hd kk
theorem p3_3 (hx : Fx X cc nL own t mc ms) (hW : Wd (xΓ X) B w G) {q : Nat} {v : Int32} (hk : kd q = 9) {idx : Nat} (hl : Cond.fieldLink own idx (TX3 3).1 (TX3 3).2.1 (TX3 3).2.2.1 ∈ WT) (hd : decode cc pc = .ok (.putfield idx, 3)) (kk : ∀ G', Wd (xΓ X) B (wst w q 3 v) G' → J X nL G' sz k n (pc + 3) ls st) : J X nL G sz k n pc ls (.int v :: .ref (B.1 + q) :: st) := J_putW hx hW clk_X3 3 (by decide) hl rfl hk (hW.obj hk (by decide) (by decide)) (by decide : 3 < 10) rfl rfl (ent_O (by decide)) hd kk
theorem g3_4 (hx : Fx X cc nL own t mc ms) (hW : Wd (xΓ X) B w G) {q : Nat} (hk : kd q = 9) {idx : Nat} (hl : Cond.fieldLink own idx (TX3 4).1 (TX3 4).2.1 (TX3 4).2.2.1 ∈ WT) (hd : decode cc pc = .ok (.getfield idx, 3)) (kk : J X nL G sz k n (pc + 3) ls (.int (w q 4) :: st)) : J X nL G sz k n pc ls (.ref (B.1 + q) :: st) := J_get hx clk_X3 4 (by decide) hl (hW.obj hk (by decide) (by decide)) rfl hd kk
theorem p3_4 (hx : Fx X cc nL own t mc ms) (hW : Wd (xΓ X) B w G) {q : Nat} {v : Int32} (hk : kd q = 9) {idx : Nat} (hl : Cond.fieldLink own idx (TX3 4).1 (TX3 4).2.1 (TX3 4).2.2.1 ∈ WT) (hd : decode cc pc = .ok (.putfield idx, 3)) (kk : ∀ G', Wd (xΓ X) B (wst w q 4 v) G' → J X nL G' sz k n (pc + 3) ls st) : J X nL G sz k n pc ls (.int v :: .ref (B.1 + q) :: st) := J_putW hx hW clk_X3 4 (by decide) hl rfl hk (hW.obj hk (by decide) (by decide)) (by decide : 4 < 10) rfl rfl (ent_O (by decide)) hd kk
theorem g3_5 (hx : Fx X cc nL own t mc ms) (hW : Wd (xΓ X) B w G) {q : Nat} (hk : kd q = 9) {idx : Nat} (hl : Cond.fieldLink own idx (TX3 5).1 (TX3 5).2.1 (TX3 5).2.2.1 ∈ WT) (hd : decode cc pc = .ok (.getfield idx, 3)) (kk : J X nL G sz k n (pc + 3) ls (.int (w q 5) :: st)) : J X nL G sz k n pc ls (.ref (B.1 + q) :: st) := J_get hx clk_X3 5 (by decide) hl (hW.obj hk (by decide) (by decide)) rfl hd kk
theorem p3_5 (hx : Fx X cc nL own t mc ms) (hW : Wd (xΓ X) B w G) {q : Nat} {v : Int32} (hk : kd q = 9) {idx : Nat} (hl : Cond.fieldLink own idx (TX3 5).1 (TX3 5).2.1 (TX3 5).2.2.1 ∈ WT) (hd : decode cc pc = .ok (.putfield idx, 3)) (kk : ∀ G', Wd (xΓ X) B (wst w q 5 v) G' → J X nL G' sz k n (pc + 3) ls st) : J X nL G sz k n pc ls (.int v :: .ref (B.1 + q) :: st) := J_putW hx hW clk_X3 5 (by decide) hl rfl hk (hW.obj hk (by decide) (by decide)) (by decide : 5 < 10) rfl rfl (ent_O (by decide)) hd kk
theorem g3_6 (hx : Fx X cc nL own t mc ms) (hW : Wd (xΓ X) B w G) {q : Nat} (hk : kd q = 9) {idx : Nat} (hl : Cond.fieldLink own idx (TX3 6).1 (TX3 6).2.1 (TX3 6).2.2.1 ∈ WT) (hd : decode cc pc = .ok (.getfield idx, 3)) (kk : J X nL G sz k n (pc + 3) ls (.int (w q 6) :: st)) : J X nL G sz k n pc ls (.ref (B.1 + q) :: st) := J_get hx clk_X3 6 (by decide) hl (hW.obj hk (by decide) (by decide)) rfl hd kk
theorem p3_6 (hx : Fx X cc nL own t mc ms) (hW : Wd (xΓ X) B w G) {q : Nat} {v : Int32} (hk : kd q = 9) {idx : Nat} (hl : Cond.fieldLink own idx (TX3 6).1 (TX3 6).2.1 (TX3 6).2.2.1 ∈ WT) (hd : decode cc pc = .ok (.putfield idx, 3)) (kk : ∀ G', Wd (xΓ X) B (wst w q 6 v) G' → J X nL G' sz k n (pc + 3) ls st) : J X nL G sz k n pc ls (.int v :: .ref (B.1 + q) :: st) := J_putW hx hW clk_X3 6 (by decide) hl rfl hk (hW.obj hk (by decide) (by decide)) (by decide : 6 < 10) rfl rfl (ent_O (by decide)) hd kk
theorem g3_7 (hx : Fx X cc nL own t mc ms) (hW : Wd (xΓ X) B w G) {q : Nat} (hk : kd q = 9) {idx : Nat} (hl : Cond.fieldLink own idx (TX3 7).1 (TX3 7).2.1 (TX3 7).2.2.1 ∈ WT) (hd : decode cc pc = .ok (.getfield idx, 3)) (kk : J X nL G sz k n (pc + 3) ls (.int (w q 7) :: st)) : J X nL G sz k n pc ls (.ref (B.1 + q) :: st) := J_get hx clk_X3 7 (by decide) hl (hW.obj hk (by decide) (by decide)) rfl hd kk
theorem p3_7 (hx : Fx X cc nL own t mc ms) (hW : Wd (xΓ X) B w G) {q : Nat} {v : Int32} (hk : kd q = 9) {idx : Nat} (hl : Cond.fieldLink own idx (TX3 7).1 (TX3 7).2.1 (TX3 7).2.2.1 ∈ WT) (hd : decode cc pc = .ok (.putfield idx, 3)) (kk : ∀ G', Wd (xΓ X) B (wst w q 7 v) G' → J X nL G' sz k n (pc + 3) ls st) : J X nL G sz k n pc ls (.int v :: .ref (B.1 + q) :: st) := J_putW hx hW clk_X3 7 (by decide) hl rfl hk (hW.obj hk (by decide) (by decide)) (by decide : 7 < 10) rfl rfl (ent_O (by decide)) hd kk
theorem g3_8 (hx : Fx X cc nL own t mc ms) (hW : Wd (xΓ X) B w G) {q : Nat} (hk : kd q = 9) {idx : Nat} (hl : Cond.fieldLink own idx (TX3 8).1 (TX3 8).2.1 (TX3 8).2.2.1 ∈ WT) (hd : decode cc pc = .ok (.getfield idx, 3)) (kk : J X nL G sz k n (pc + 3) ls (.int (w q 8) :: st)) : J X nL G sz k n pc ls (.ref (B.1 + q) :: st) := J_get hx clk_X3 8 (by decide) hl (hW.obj hk (by decide) (by decide)) rfl hd kk
theorem p3_8 (hx : Fx X cc nL own t mc ms) (hW : Wd (xΓ X) B w G) {q : Nat} {v : Int32} (hk : kd q = 9) {idx : Nat} (hl : Cond.fieldLink own idx (TX3 8).1 (TX3 8).2.1 (TX3 8).2.2.1 ∈ WT) (hd : decode cc pc = .ok (.putfield idx, 3)) (kk : ∀ G', Wd (xΓ X) B (wst w q 8 v) G' → J X nL G' sz k n (pc + 3) ls st) : J X nL G sz k n pc ls (.int v :: .ref (B.1 + q) :: st) := J_putW hx hW clk_X3 8 (by decide) hl rfl hk (hW.obj hk (by decide) (by decide)) (by decide : 8 < 10) rfl rfl (ent_O (by decide)) hd kk
theorem g3_9 (hx : Fx X cc nL own t mc ms) (hW : Wd (xΓ X) B w G) {q : Nat} (hk : kd q = 9) {idx : Nat} (hl : Cond.fieldLink own idx (TX3 9).1 (TX3 9).2.1 (TX3 9).2.2.1 ∈ WT) (hd : decode cc pc = .ok (.getfield idx, 3)) (kk : J X nL G sz k n (pc + 3) ls (.int (w q 9) :: st)) : J X nL G sz k n pc ls (.ref (B.1 + q) :: st) := J_get hx clk_X3 9 (by decide) hl (hW.obj hk (by decide) (by decide)) rfl hd kk
theorem p3_9 (hx : Fx X cc nL own t mc ms) (hW : Wd (xΓ X) B w G) {q : Nat} {v : Int32} (hk : kd q = 9) {idx : Nat} (hl : Cond.fieldLink own idx (TX3 9).1 (TX3 9).2.1 (TX3 9).2.2.1 ∈ WT) (hd : decode cc pc = .ok (.putfield idx, 3)) (kk : ∀ G', Wd (xΓ X) B (wst w q 9 v) G' → J X nL G' sz k n (pc + 3) ls st) : J X nL G sz k n pc ls (.int v :: .ref (B.1 + q) :: st) := J_putW hx hW clk_X3 9 (by decide) hl rfl hk (hW.obj hk (by decide) (by decide)) (by decide : 9 < 10) rfl rfl (ent_O (by decide)) hd kk
theorem g11_0 (hx : Fx X cc nL own t mc ms) (hW : Wd (xΓ X) B w G) {q : Nat} (hk : kd q = 10) {idx : Nat} (hl : Cond.fieldLink own idx (TX11 0).1 (TX11 0).2.1 (TX11 0).2.2.1 ∈ WT) (hd : decode cc pc = .ok (.getfield idx, 3)) (kk : J X nL G sz k n (pc + 3) ls (.int (w q 0) :: st)) : J X nL G sz k n pc ls (.ref (B.1 + q) :: st) := J_get hx clk_X11 0 (by decide) hl (hW.obj hk (by decide) (by decide)) rfl hd kk
theorem p11_0 (hx : Fx X cc nL own t mc ms) (hW : Wd (xΓ X) B w G) {q : Nat} {v : Int32} (hk : kd q = 10) {idx : Nat} (hl : Cond.fieldLink own idx (TX11 0).1 (TX11 0).2.1 (TX11 0).2.2.1 ∈ WT) (hd : decode cc pc = .ok (.putfield idx, 3)) (kk : ∀ G', Wd (xΓ X) B (wst w q 0 v) G' → J X nL G' sz k n (pc + 3) ls st) : J X nL G sz k n pc ls (.int v :: .ref (B.1 + q) :: st) := J_putW hx hW clk_X11 0 (by decide) hl rfl hk (hW.obj hk (by decide) (by decide)) (by decide : 0 < 9) rfl rfl (ent_O (by decide)) hd kk
theorem g11_1 (hx : Fx X cc nL own t mc ms) (hW : Wd (xΓ X) B w G) {q : Nat} (hk : kd q = 10) {idx : Nat} (hl : Cond.fieldLink own idx (TX11 1).1 (TX11 1).2.1 (TX11 1).2.2.1 ∈ WT) (hd : decode cc pc = .ok (.getfield idx, 3)) (kk : J X nL G sz k n (pc + 3) ls (.int (w q 1) :: st)) : J X nL G sz k n pc ls (.ref (B.1 + q) :: st) := J_get hx clk_X11 1 (by decide) hl (hW.obj hk (by decide) (by decide)) rfl hd kk
theorem p11_1 (hx : Fx X cc nL own t mc ms) (hW : Wd (xΓ X) B w G) {q : Nat} {v : Int32} (hk : kd q = 10) {idx : Nat} (hl : Cond.fieldLink own idx (TX11 1).1 (TX11 1).2.1 (TX11 1).2.2.1 ∈ WT) (hd : decode cc pc = .ok (.putfield idx, 3)) (kk : ∀ G', Wd (xΓ X) B (wst w q 1 v) G' → J X nL G' sz k n (pc + 3) ls st) : J X nL G sz k n pc ls (.int v :: .ref (B.1 + q) :: st) := J_putW hx hW clk_X11 1 (by decide) hl rfl hk (hW.obj hk (by decide) (by decide)) (by decide : 1 < 9) rfl rfl (ent_O (by decide)) hd kk
theorem g11_2 (hx : Fx X cc nL own t mc ms) (hW : Wd (xΓ X) B w G) {q : Nat} (hk : kd q = 10) {idx : Nat} (hl : Cond.fieldLink own idx (TX11 2).1 (TX11 2).2.1 (TX11 2).2.2.1 ∈ WT) (hd : decode cc pc = .ok (.getfield idx, 3)) (kk : J X nL G sz k n (pc + 3) ls (.int (w q 2) :: st)) : J X nL G sz k n pc ls (.ref (B.1 + q) :: st) := J_get hx clk_X11 2 (by decide) hl (hW.obj hk (by decide) (by decide)) rfl hd kk
theorem p11_2 (hx : Fx X cc nL own t mc ms) (hW : Wd (xΓ X) B w G) {q : Nat} {v : Int32} (hk : kd q = 10) {idx : Nat} (hl : Cond.fieldLink own idx (TX11 2).1 (TX11 2).2.1 (TX11 2).2.2.1 ∈ WT) (hd : decode cc pc = .ok (.putfield idx, 3)) (kk : ∀ G', Wd (xΓ X) B (wst w q 2 v) G' → J X nL G' sz k n (pc + 3) ls st) : J X nL G sz k n pc ls (.int v :: .ref (B.1 + q) :: st) := J_putW hx hW clk_X11 2 (by decide) hl rfl hk (hW.obj hk (by decide) (by decide)) (by decide : 2 < 9) rfl rfl (ent_O (by decide)) hd kk
theorem g11_3 (hx : Fx X cc nL own t mc ms) (hW : Wd (xΓ X) B w G) {q : Nat} (hk : kd q = 10) {idx : Nat} (hl : Cond.fieldLink own idx (TX11 3).1 (TX11 3).2.1 (TX11 3).2.2.1 ∈ WT) (hd : decode cc pc = .ok (.getfield idx, 3)) (kk : J X nL G sz k n (pc + 3) ls (.int (w q 3) :: st)) : J X nL G sz k n pc ls (.ref (B.1 + q) :: st) := J_get hx clk_X11 3 (by decide) hl (hW.obj hk (by decide) (by decide)) rfl hd kk
theorem p11_3 (hx : Fx X cc nL own t mc ms) (hW : Wd (xΓ X) B w G) {q : Nat} {v : Int32} (hk : kd q = 10) {idx : Nat} (hl : Cond.fieldLink own idx (TX11 3).1 (TX11 3).2.1 (TX11 3).2.2.1 ∈ WT) (hz : v = 0 ∨ v = 1) (hd : decode cc pc = .ok (.putfield idx, 3)) (kk : ∀ G', Wd (xΓ X) B (wst w q 3 v) G' → J X nL G' sz k n (pc + 3) ls st) : J X nL G sz k n pc ls (.int v :: .ref (B.1 + q) :: st) := J_putW hx hW clk_X11 3 (by decide) hl rfl hk (hW.obj hk (by decide) (by decide)) (by decide : 3 < 9) (by rcases hz with rfl | rfl <;> rfl) (by rcases hz with rfl | rfl <;> rfl) (ent_O (by decide)) hd kk
theorem g11_4 (hx : Fx X cc nL own t mc ms) (hW : Wd (xΓ X) B w G) {q : Nat} (hk : kd q = 10) {idx : Nat} (hl : Cond.fieldLink own idx (TX11 4).1 (TX11 4).2.1 (TX11 4).2.2.1 ∈ WT) (hd : decode cc pc = .ok (.getfield idx, 3)) (kk : J X nL G sz k n (pc + 3) ls (.int (w q 4) :: st)) : J X nL G sz k n pc ls (.ref (B.1 + q) :: st) := J_get hx clk_X11 4 (by decide) hl (hW.obj hk (by decide) (by decide)) rfl hd kk
theorem p11_4 (hx : Fx X cc nL own t mc ms) (hW : Wd (xΓ X) B w G) {q : Nat} {v : Int32} (hk : kd q = 10) {idx : Nat} (hl : Cond.fieldLink own idx (TX11 4).1 (TX11 4).2.1 (TX11 4).2.2.1 ∈ WT) (hd : decode cc pc = .ok (.putfield idx, 3)) (kk : ∀ G', Wd (xΓ X) B (wst w q 4 v) G' → J X nL G' sz k n (pc + 3) ls st) : J X nL G sz k n pc ls (.int v :: .ref (B.1 + q) :: st) := J_putW hx hW clk_X11 4 (by decide) hl rfl hk (hW.obj hk (by decide) (by decide)) (by decide : 4 < 9) rfl rfl (ent_O (by decide)) hd kk
theorem g11_5 (hx : Fx X cc nL own t mc ms) (hW : Wd (xΓ X) B w G) {q : Nat} (hk : kd q = 10) {idx : Nat} (hl : Cond.fieldLink own idx (TX11 5).1 (TX11 5).2.1 (TX11 5).2.2.1 ∈ WT) (hd : decode cc pc = .ok (.getfield idx, 3)) (kk : J X nL G sz k n (pc + 3) ls (.int (w q 5) :: st)) : J X nL G sz k n pc ls (.ref (B.1 + q) :: st) := J_get hx clk_X11 5 (by decide) hl (hW.obj hk (by decide) (by decide)) rfl hd kk
theorem p11_5 (hx : Fx X cc nL own t mc ms) (hW : Wd (xΓ X) B w G) {q : Nat} {v : Int32} (hk : kd q = 10) {idx : Nat} (hl : Cond.fieldLink own idx (TX11 5).1 (TX11 5).2.1 (TX11 5).2.2.1 ∈ WT) (hd : decode cc pc = .ok (.putfield idx, 3)) (kk : ∀ G', Wd (xΓ X) B (wst w q 5 v) G' → J X nL G' sz k n (pc + 3) ls st) : J X nL G sz k n pc ls (.int v :: .ref (B.1 + q) :: st) := J_putW hx hW clk_X11 5 (by decide) hl rfl hk (hW.obj hk (by decide) (by decide)) (by decide : 5 < 9) rfl rfl (ent_O (by decide)) hd kk
theorem g11_6 (hx : Fx X cc nL own t mc ms) (hW : Wd (xΓ X) B w G) {q : Nat} (hk : kd q = 10) {idx : Nat} (hl : Cond.fieldLink own idx (TX11 6).1 (TX11 6).2.1 (TX11 6).2.2.1 ∈ WT) (hd : decode cc pc = .ok (.getfield idx, 3)) (kk : J X nL G sz k n (pc + 3) ls (.int (w q 6) :: st)) : J X nL G sz k n pc ls (.ref (B.1 + q) :: st) := J_get hx clk_X11 6 (by decide) hl (hW.obj hk (by decide) (by decide)) rfl hd kk
theorem p11_6 (hx : Fx X cc nL own t mc ms) (hW : Wd (xΓ X) B w G) {q : Nat} {v : Int32} (hk : kd q = 10) {idx : Nat} (hl : Cond.fieldLink own idx (TX11 6).1 (TX11 6).2.1 (TX11 6).2.2.1 ∈ WT) (hd : decode cc pc = .ok (.putfield idx, 3)) (kk : ∀ G', Wd (xΓ X) B (wst w q 6 v) G' → J X nL G' sz k n (pc + 3) ls st) : J X nL G sz k n pc ls (.int v :: .ref (B.1 + q) :: st) := J_putW hx hW clk_X11 6 (by decide) hl rfl hk (hW.obj hk (by decide) (by decide)) (by decide : 6 < 9) rfl rfl (ent_O (by decide)) hd kk
theorem g11_7 (hx : Fx X cc nL own t mc ms) (hW : Wd (xΓ X) B w G) {q : Nat} (hk : kd q = 10) {idx : Nat} (hl : Cond.fieldLink own idx (TX11 7).1 (TX11 7).2.1 (TX11 7).2.2.1 ∈ WT) (hd : decode cc pc = .ok (.getfield idx, 3)) (kk : J X nL G sz k n (pc + 3) ls (.int (w q 7) :: st)) : J X nL G sz k n pc ls (.ref (B.1 + q) :: st) := J_get hx clk_X11 7 (by decide) hl (hW.obj hk (by decide) (by decide)) rfl hd kk
theorem p11_7 (hx : Fx X cc nL own t mc ms) (hW : Wd (xΓ X) B w G) {q : Nat} {v : Int32} (hk : kd q = 10) {idx : Nat} (hl : Cond.fieldLink own idx (TX11 7).1 (TX11 7).2.1 (TX11 7).2.2.1 ∈ WT) (hd : decode cc pc = .ok (.putfield idx, 3)) (kk : ∀ G', Wd (xΓ X) B (wst w q 7 v) G' → J X nL G' sz k n (pc + 3) ls st) : J X nL G sz k n pc ls (.int v :: .ref (B.1 + q) :: st) := J_putW hx hW clk_X11 7 (by decide) hl rfl hk (hW.obj hk (by decide) (by decide)) (by decide : 7 < 9) rfl rfl (ent_O (by decide)) hd kk
theorem g11_8 (hx : Fx X cc nL own t mc ms) (hW : Wd (xΓ X) B w G) {q : Nat} (q2 : Nat) (hk : kd q = 10) {idx : Nat} (hl : Cond.fieldLink own idx (TX11 8).1 (TX11 8).2.1 (TX11 8).2.2.1 ∈ WT) (hq : q + 1 = q2) (hd : decode cc pc = .ok (.getfield idx, 3)) (kk : J X nL G sz k n (pc + 3) ls (.ref (B.1 + q2) :: st)) : J X nL G sz k n pc ls (.ref (B.1 + q) :: st) := by subst hq; exact J_get hx clk_X11 8 (by decide) hl (hW.obj hk (by decide) (by decide)) rfl hd kk
theorem g1_0 (hx : Fx X cc nL own t mc ms) (hW : Wd (xΓ X) B w G) {q : Nat} (q2 : Nat) (hk : kd q = 11) {idx : Nat} (hl : Cond.fieldLink own idx (TX1 0).1 (TX1 0).2.1 (TX1 0).2.2.1 ∈ WT) (hq : 0 + 1 = q2) (hd : decode cc pc = .ok (.getfield idx, 3)) (kk : J X nL G sz k n (pc + 3) ls (.ref (B.1 + q2) :: st)) : J X nL G sz k n pc ls (.ref (B.1 + q) :: st) := by subst hq; exact J_get hx clk_X1 0 (by decide) hl (hW.obj hk (by decide) (by decide)) rfl hd kk
theorem g4_0 (hx : Fx X cc nL own t mc ms) (hW : Wd (xΓ X) B w G) {q : Nat} (q2 : Nat) (hk : kd q = 12) {idx : Nat} (hl : Cond.fieldLink own idx (TX4 0).1 (TX4 0).2.1 (TX4 0).2.2.1 ∈ WT) (hq : 0 + 1 = q2) (hd : decode cc pc = .ok (.getfield idx, 3)) (kk : J X nL G sz k n (pc + 3) ls (.ref (B.1 + q2) :: st)) : J X nL G sz k n pc ls (.ref (B.1 + q) :: st) := by subst hq; exact J_get hx clk_X4 0 (by decide) hl (hW.obj hk (by decide) (by decide)) rfl hd kk
theorem g8_0 (hx : Fx X cc nL own t mc ms) (hW : Wd (xΓ X) B w G) {q : Nat} (q2 : Nat) (hk : kd q = 13) {idx : Nat} (hl : Cond.fieldLink own idx (TX8 0).1 (TX8 0).2.1 (TX8 0).2.2.1 ∈ WT) (hq : 0 + 1 = q2) (hd : decode cc pc = .ok (.getfield idx, 3)) (kk : J X nL G sz k n (pc + 3) ls (.ref (B.1 + q2) :: st)) : J X nL G sz k n pc ls (.ref (B.1 + q) :: st) := by subst hq; exact J_get hx clk_X8 0 (by decide) hl (hW.obj hk (by decide) (by decide)) rfl hd kk
theorem g5_0 (hx : Fx X cc nL own t mc ms) (hW : Wd (xΓ X) B w G) {q : Nat} (q2 : Nat) (hk : kd q = 14) {idx : Nat} (hl : Cond.fieldLink own idx (TX5 0).1 (TX5 0).2.1 (TX5 0).2.2.1 ∈ WT) (hq : 0 + 1 = q2) (hd : decode cc pc = .ok (.getfield idx, 3)) (kk : J X nL G sz k n (pc + 3) ls (.ref (B.1 + q2) :: st)) : J X nL G sz k n pc ls (.ref (B.1 + q) :: st) := by subst hq; exact J_get hx clk_X5 0 (by decide) hl (hW.obj hk (by decide) (by decide)) rfl hd kk
theorem g5_1 (hx : Fx X cc nL own t mc ms) (hW : Wd (xΓ X) B w G) {q : Nat} (q2 : Nat) (hk : kd q = 14) {idx : Nat} (hl : Cond.fieldLink own idx (TX5 1).1 (TX5 1).2.1 (TX5 1).2.2.1 ∈ WT) (hq : 0 + 73 = q2) (hd : decode cc pc = .ok (.getfield idx, 3)) (kk : J X nL G sz k n (pc + 3) ls (.ref (B.1 + q2) :: st)) : J X nL G sz k n pc ls (.ref (B.1 + q) :: st) := by subst hq; exact J_get hx clk_X5 1 (by decide) hl (hW.obj hk (by decide) (by decide)) rfl hd kk
theorem g5_2 (hx : Fx X cc nL own t mc ms) (hW : Wd (xΓ X) B w G) {q : Nat} (q2 : Nat) (hk : kd q = 14) {idx : Nat} (hl : Cond.fieldLink own idx (TX5 2).1 (TX5 2).2.1 (TX5 2).2.2.1 ∈ WT) (hq : 0 + 77 = q2) (hd : decode cc pc = .ok (.getfield idx, 3)) (kk : J X nL G sz k n (pc + 3) ls (.ref (B.1 + q2) :: st)) : J X nL G sz k n pc ls (.ref (B.1 + q) :: st) := by subst hq; exact J_get hx clk_X5 2 (by decide) hl (hW.obj hk (by decide) (by decide)) rfl hd kk
theorem g7_0 (hx : Fx X cc nL own t mc ms) (hW : Wd (xΓ X) B w G) {q : Nat} (q2 : Nat) (hk : kd q = 15) {idx : Nat} (hl : Cond.fieldLink own idx (TX7 0).1 (TX7 0).2.1 (TX7 0).2.2.1 ∈ WT) (hq : 0 + 79 = q2) (hd : decode cc pc = .ok (.getfield idx, 3)) (kk : J X nL G sz k n (pc + 3) ls (.ref (B.1 + q2) :: st)) : J X nL G sz k n pc ls (.ref (B.1 + q) :: st) := by subst hq; exact J_get hx clk_X7 0 (by decide) hl (hW.obj hk (by decide) (by decide)) rfl hd kk
theorem g7_1 (hx : Fx X cc nL own t mc ms) (hW : Wd (xΓ X) B w G) {q : Nat} (hk : kd q = 15) {idx : Nat} (hl : Cond.fieldLink own idx (TX7 1).1 (TX7 1).2.1 (TX7 1).2.2.1 ∈ WT) (hd : decode cc pc = .ok (.getfield idx, 3)) (kk : J X nL G sz k n (pc + 3) ls (.int (w q 1) :: st)) : J X nL G sz k n pc ls (.ref (B.1 + q) :: st) := J_get hx clk_X7 1 (by decide) hl (hW.obj hk (by decide) (by decide)) rfl hd kk
theorem p7_1 (hx : Fx X cc nL own t mc ms) (hW : Wd (xΓ X) B w G) {q : Nat} {v : Int32} (hk : kd q = 15) {idx : Nat} (hl : Cond.fieldLink own idx (TX7 1).1 (TX7 1).2.1 (TX7 1).2.2.1 ∈ WT) (hd : decode cc pc = .ok (.putfield idx, 3)) (kk : ∀ G', Wd (xΓ X) B (wst w q 1 v) G' → J X nL G' sz k n (pc + 3) ls st) : J X nL G sz k n pc ls (.int v :: .ref (B.1 + q) :: st) := J_putW hx hW clk_X7 1 (by decide) hl rfl hk (hW.obj hk (by decide) (by decide)) (by decide : 1 < 2) rfl rfl (ent_O (by decide)) hd kk
theorem g2_0 (hx : Fx X cc nL own t mc ms) (hW : Wd (xΓ X) B w G) {q : Nat} (q2 : Nat) (hk : kd q = 17) {idx : Nat} (hl : Cond.fieldLink own idx (TX2 0).1 (TX2 0).2.1 (TX2 0).2.2.1 ∈ WT) (hq : 0 + 369 = q2) (hd : decode cc pc = .ok (.getfield idx, 3)) (kk : J X nL G sz k n (pc + 3) ls (.ref (B.1 + q2) :: st)) : J X nL G sz k n pc ls (.ref (B.1 + q) :: st) := by subst hq; exact J_get hx clk_X2 0 (by decide) hl (hW.obj hk (by decide) (by decide)) rfl hd kk
theorem g2_1 (hx : Fx X cc nL own t mc ms) (hW : Wd (xΓ X) B w G) {q : Nat} (hk : kd q = 17) {idx : Nat} (hl : Cond.fieldLink own idx (TX2 1).1 (TX2 1).2.1 (TX2 1).2.2.1 ∈ WT) (hd : decode cc pc = .ok (.getfield idx, 3)) (kk : J X nL G sz k n (pc + 3) ls (.int (w q 1) :: st)) : J X nL G sz k n pc ls (.ref (B.1 + q) :: st) := J_get hx clk_X2 1 (by decide) hl (hW.obj hk (by decide) (by decide)) rfl hd kk
theorem p2_1 (hx : Fx X cc nL own t mc ms) (hW : Wd (xΓ X) B w G) {q : Nat} {v : Int32} (hk : kd q = 17) {idx : Nat} (hl : Cond.fieldLink own idx (TX2 1).1 (TX2 1).2.1 (TX2 1).2.2.1 ∈ WT) (hd : decode cc pc = .ok (.putfield idx, 3)) (kk : ∀ G', Wd (xΓ X) B (wst w q 1 v) G' → J X nL G' sz k n (pc + 3) ls st) : J X nL G sz k n pc ls (.int v :: .ref (B.1 + q) :: st) := J_putW hx hW clk_X2 1 (by decide) hl rfl hk (hW.obj hk (by decide) (by decide)) (by decide : 1 < 6) rfl rfl (ent_O (by decide)) hd kk
theorem g2_2 (hx : Fx X cc nL own t mc ms) (hW : Wd (xΓ X) B w G) {q : Nat} (hk : kd q = 17) {idx : Nat} (hl : Cond.fieldLink own idx (TX2 2).1 (TX2 2).2.1 (TX2 2).2.2.1 ∈ WT) (hd : decode cc pc = .ok (.getfield idx, 3)) (kk : J X nL G sz k n (pc + 3) ls (.int (w q 2) :: st)) : J X nL G sz k n pc ls (.ref (B.1 + q) :: st) := J_get hx clk_X2 2 (by decide) hl (hW.obj hk (by decide) (by decide)) rfl hd kk
theorem p2_2 (hx : Fx X cc nL own t mc ms) (hW : Wd (xΓ X) B w G) {q : Nat} {v : Int32} (hk : kd q = 17) {idx : Nat} (hl : Cond.fieldLink own idx (TX2 2).1 (TX2 2).2.1 (TX2 2).2.2.1 ∈ WT) (hd : decode cc pc = .ok (.putfield idx, 3)) (kk : ∀ G', Wd (xΓ X) B (wst w q 2 v) G' → J X nL G' sz k n (pc + 3) ls st) : J X nL G sz k n pc ls (.int v :: .ref (B.1 + q) :: st) := J_putW hx hW clk_X2 2 (by decide) hl rfl hk (hW.obj hk (by decide) (by decide)) (by decide : 2 < 6) rfl rfl (ent_O (by decide)) hd kk
theorem g2_3 (hx : Fx X cc nL own t mc ms) (hW : Wd (xΓ X) B w G) {q : Nat} (hk : kd q = 17) {idx : Nat} (hl : Cond.fieldLink own idx (TX2 3).1 (TX2 3).2.1 (TX2 3).2.2.1 ∈ WT) (hd : decode cc pc = .ok (.getfield idx, 3)) (kk : J X nL G sz k n (pc + 3) ls (.int (w q 3) :: st)) : J X nL G sz k n pc ls (.ref (B.1 + q) :: st) := J_get hx clk_X2 3 (by decide) hl (hW.obj hk (by decide) (by decide)) rfl hd kk
theorem p2_3 (hx : Fx X cc nL own t mc ms) (hW : Wd (xΓ X) B w G) {q : Nat} {v : Int32} (hk : kd q = 17) {idx : Nat} (hl : Cond.fieldLink own idx (TX2 3).1 (TX2 3).2.1 (TX2 3).2.2.1 ∈ WT) (hd : decode cc pc = .ok (.putfield idx, 3)) (kk : ∀ G', Wd (xΓ X) B (wst w q 3 v) G' → J X nL G' sz k n (pc + 3) ls st) : J X nL G sz k n pc ls (.int v :: .ref (B.1 + q) :: st) := J_putW hx hW clk_X2 3 (by decide) hl rfl hk (hW.obj hk (by decide) (by decide)) (by decide : 3 < 6) rfl rfl (ent_O (by decide)) hd kk
theorem g2_4 (hx : Fx X cc nL own t mc ms) (hW : Wd (xΓ X) B w G) {q : Nat} (hk : kd q = 17) {idx : Nat} (hl : Cond.fieldLink own idx (TX2 4).1 (TX2 4).2.1 (TX2 4).2.2.1 ∈ WT) (hd : decode cc pc = .ok (.getfield idx, 3)) (kk : J X nL G sz k n (pc + 3) ls (.ref (B.2 (w q 4).toNatClampNeg) :: st)) : J X nL G sz k n pc ls (.ref (B.1 + q) :: st) := J_get hx clk_X2 4 (by decide) hl (hW.obj hk (by decide) (by decide)) rfl hd kk
theorem g2_5 (hx : Fx X cc nL own t mc ms) (hW : Wd (xΓ X) B w G) {q : Nat} (q2 : Nat) (hk : kd q = 17) {idx : Nat} (hl : Cond.fieldLink own idx (TX2 5).1 (TX2 5).2.1 (TX2 5).2.2.1 ∈ WT) (hq : 0 + 370 = q2) (hd : decode cc pc = .ok (.getfield idx, 3)) (kk : J X nL G sz k n (pc + 3) ls (.ref (B.1 + q2) :: st)) : J X nL G sz k n pc ls (.ref (B.1 + q) :: st) := by subst hq; exact J_get hx clk_X2 5 (by decide) hl (hW.obj hk (by decide) (by decide)) rfl hd kk
theorem g13_0 (hx : Fx X cc nL own t mc ms) (hW : Wd (xΓ X) B w G) {q : Nat} (q2 : Nat) (hk : kd q = 19) {idx : Nat} (hl : Cond.fieldLink own idx (TX13 0).1 (TX13 0).2.1 (TX13 0).2.2.1 ∈ WT) (hq : 0 + 372 = q2) (hd : decode cc pc = .ok (.getfield idx, 3)) (kk : J X nL G sz k n (pc + 3) ls (.ref (B.1 + q2) :: st)) : J X nL G sz k n pc ls (.ref (B.1 + q) :: st) := by subst hq; exact J_get hx clk_X13 0 (by decide) hl (hW.obj hk (by decide) (by decide)) rfl hd kk
theorem g13_1 (hx : Fx X cc nL own t mc ms) (hW : Wd (xΓ X) B w G) {q : Nat} (q2 : Nat) (hk : kd q = 19) {idx : Nat} (hl : Cond.fieldLink own idx (TX13 1).1 (TX13 1).2.1 (TX13 1).2.2.1 ∈ WT) (hq : 0 + 373 = q2) (hd : decode cc pc = .ok (.getfield idx, 3)) (kk : J X nL G sz k n (pc + 3) ls (.ref (B.1 + q2) :: st)) : J X nL G sz k n pc ls (.ref (B.1 + q) :: st) := by subst hq; exact J_get hx clk_X13 1 (by decide) hl (hW.obj hk (by decide) (by decide)) rfl hd kk
theorem g13_2 (hx : Fx X cc nL own t mc ms) (hW : Wd (xΓ X) B w G) {q : Nat} (hk : kd q = 19) {idx : Nat} (hl : Cond.fieldLink own idx (TX13 2).1 (TX13 2).2.1 (TX13 2).2.2.1 ∈ WT) (hd : decode cc pc = .ok (.getfield idx, 3)) (kk : J X nL G sz k n (pc + 3) ls (.int (w q 2) :: st)) : J X nL G sz k n pc ls (.ref (B.1 + q) :: st) := J_get hx clk_X13 2 (by decide) hl (hW.obj hk (by decide) (by decide)) rfl hd kk
theorem p13_2 (hx : Fx X cc nL own t mc ms) (hW : Wd (xΓ X) B w G) {q : Nat} {v : Int32} (hk : kd q = 19) {idx : Nat} (hl : Cond.fieldLink own idx (TX13 2).1 (TX13 2).2.1 (TX13 2).2.2.1 ∈ WT) (hd : decode cc pc = .ok (.putfield idx, 3)) (kk : ∀ G', Wd (xΓ X) B (wst w q 2 v) G' → J X nL G' sz k n (pc + 3) ls st) : J X nL G sz k n pc ls (.int v :: .ref (B.1 + q) :: st) := J_putW hx hW clk_X13 2 (by decide) hl rfl hk (hW.obj hk (by decide) (by decide)) (by decide : 2 < 11) rfl rfl (ent_O (by decide)) hd kk
theorem g13_3 (hx : Fx X cc nL own t mc ms) (hW : Wd (xΓ X) B w G) {q : Nat} (q2 : Nat) (hk : kd q = 19) {idx : Nat} (hl : Cond.fieldLink own idx (TX13 3).1 (TX13 3).2.1 (TX13 3).2.2.1 ∈ WT) (hq : 0 + 374 = q2) (hd : decode cc pc = .ok (.getfield idx, 3)) (kk : J X nL G sz k n (pc + 3) ls (.ref (B.1 + q2) :: st)) : J X nL G sz k n pc ls (.ref (B.1 + q) :: st) := by subst hq; exact J_get hx clk_X13 3 (by decide) hl (hW.obj hk (by decide) (by decide)) rfl hd kk
theorem g13_4 (hx : Fx X cc nL own t mc ms) (hW : Wd (xΓ X) B w G) {q : Nat} (hk : kd q = 19) {idx : Nat} (hl : Cond.fieldLink own idx (TX13 4).1 (TX13 4).2.1 (TX13 4).2.2.1 ∈ WT) (hd : decode cc pc = .ok (.getfield idx, 3)) (kk : J X nL G sz k n (pc + 3) ls (.int (w q 4) :: st)) : J X nL G sz k n pc ls (.ref (B.1 + q) :: st) := J_get hx clk_X13 4 (by decide) hl (hW.obj hk (by decide) (by decide)) rfl hd kk
theorem p13_4 (hx : Fx X cc nL own t mc ms) (hW : Wd (xΓ X) B w G) {q : Nat} {v : Int32} (hk : kd q = 19) {idx : Nat} (hl : Cond.fieldLink own idx (TX13 4).1 (TX13 4).2.1 (TX13 4).2.2.1 ∈ WT) (hd : decode cc pc = .ok (.putfield idx, 3)) (kk : ∀ G', Wd (xΓ X) B (wst w q 4 v) G' → J X nL G' sz k n (pc + 3) ls st) : J X nL G sz k n pc ls (.int v :: .ref (B.1 + q) :: st) := J_putW hx hW clk_X13 4 (by decide) hl rfl hk (hW.obj hk (by decide) (by decide)) (by decide : 4 < 11) rfl rfl (ent_O (by decide)) hd kk
theorem g13_5 (hx : Fx X cc nL own t mc ms) (hW : Wd (xΓ X) B w G) {q : Nat} (hk : kd q = 19) {idx : Nat} (hl : Cond.fieldLink own idx (TX13 5).1 (TX13 5).2.1 (TX13 5).2.2.1 ∈ WT) (hd : decode cc pc = .ok (.getfield idx, 3)) (kk : J X nL G sz k n (pc + 3) ls (.int (w q 5) :: st)) : J X nL G sz k n pc ls (.ref (B.1 + q) :: st) := J_get hx clk_X13 5 (by decide) hl (hW.obj hk (by decide) (by decide)) rfl hd kk
theorem p13_5 (hx : Fx X cc nL own t mc ms) (hW : Wd (xΓ X) B w G) {q : Nat} {v : Int32} (hk : kd q = 19) {idx : Nat} (hl : Cond.fieldLink own idx (TX13 5).1 (TX13 5).2.1 (TX13 5).2.2.1 ∈ WT) (hd : decode cc pc = .ok (.putfield idx, 3)) (kk : ∀ G', Wd (xΓ X) B (wst w q 5 v) G' → J X nL G' sz k n (pc + 3) ls st) : J X nL G sz k n pc ls (.int v :: .ref (B.1 + q) :: st) := J_putW hx hW clk_X13 5 (by decide) hl rfl hk (hW.obj hk (by decide) (by decide)) (by decide : 5 < 11) rfl rfl (ent_O (by decide)) hd kk
theorem g13_6 (hx : Fx X cc nL own t mc ms) (hW : Wd (xΓ X) B w G) {q : Nat} (q2 : Nat) (hk : kd q = 19) {idx : Nat} (hl : Cond.fieldLink own idx (TX13 6).1 (TX13 6).2.1 (TX13 6).2.2.1 ∈ WT) (hq : 0 + 375 = q2) (hd : decode cc pc = .ok (.getfield idx, 3)) (kk : J X nL G sz k n (pc + 3) ls (.ref (B.1 + q2) :: st)) : J X nL G sz k n pc ls (.ref (B.1 + q) :: st) := by subst hq; exact J_get hx clk_X13 6 (by decide) hl (hW.obj hk (by decide) (by decide)) rfl hd kk
theorem g13_7 (hx : Fx X cc nL own t mc ms) (hW : Wd (xΓ X) B w G) {q : Nat} (hk : kd q = 19) {idx : Nat} (hl : Cond.fieldLink own idx (TX13 7).1 (TX13 7).2.1 (TX13 7).2.2.1 ∈ WT) (hd : decode cc pc = .ok (.getfield idx, 3)) (kk : J X nL G sz k n (pc + 3) ls (.int (w q 7) :: st)) : J X nL G sz k n pc ls (.ref (B.1 + q) :: st) := J_get hx clk_X13 7 (by decide) hl (hW.obj hk (by decide) (by decide)) rfl hd kk
theorem p13_7 (hx : Fx X cc nL own t mc ms) (hW : Wd (xΓ X) B w G) {q : Nat} {v : Int32} (hk : kd q = 19) {idx : Nat} (hl : Cond.fieldLink own idx (TX13 7).1 (TX13 7).2.1 (TX13 7).2.2.1 ∈ WT) (hd : decode cc pc = .ok (.putfield idx, 3)) (kk : ∀ G', Wd (xΓ X) B (wst w q 7 v) G' → J X nL G' sz k n (pc + 3) ls st) : J X nL G sz k n pc ls (.int v :: .ref (B.1 + q) :: st) := J_putW hx hW clk_X13 7 (by decide) hl rfl hk (hW.obj hk (by decide) (by decide)) (by decide : 7 < 11) rfl rfl (ent_O (by decide)) hd kk
theorem g13_8 (hx : Fx X cc nL own t mc ms) (hW : Wd (xΓ X) B w G) {q : Nat} (hk : kd q = 19) {idx : Nat} (hl : Cond.fieldLink own idx (TX13 8).1 (TX13 8).2.1 (TX13 8).2.2.1 ∈ WT) (hd : decode cc pc = .ok (.getfield idx, 3)) (kk : J X nL G sz k n (pc + 3) ls (.int (w q 8) :: st)) : J X nL G sz k n pc ls (.ref (B.1 + q) :: st) := J_get hx clk_X13 8 (by decide) hl (hW.obj hk (by decide) (by decide)) rfl hd kk
theorem p13_8 (hx : Fx X cc nL own t mc ms) (hW : Wd (xΓ X) B w G) {q : Nat} {v : Int32} (hk : kd q = 19) {idx : Nat} (hl : Cond.fieldLink own idx (TX13 8).1 (TX13 8).2.1 (TX13 8).2.2.1 ∈ WT) (hd : decode cc pc = .ok (.putfield idx, 3)) (kk : ∀ G', Wd (xΓ X) B (wst w q 8 v) G' → J X nL G' sz k n (pc + 3) ls st) : J X nL G sz k n pc ls (.int v :: .ref (B.1 + q) :: st) := J_putW hx hW clk_X13 8 (by decide) hl rfl hk (hW.obj hk (by decide) (by decide)) (by decide : 8 < 11) rfl rfl (ent_O (by decide)) hd kk
theorem g13_9 (hx : Fx X cc nL own t mc ms) (hW : Wd (xΓ X) B w G) {q : Nat} (q2 : Nat) (hk : kd q = 19) {idx : Nat} (hl : Cond.fieldLink own idx (TX13 9).1 (TX13 9).2.1 (TX13 9).2.2.1 ∈ WT) (hq : 0 + 376 = q2) (hd : decode cc pc = .ok (.getfield idx, 3)) (kk : J X nL G sz k n (pc + 3) ls (.ref (B.1 + q2) :: st)) : J X nL G sz k n pc ls (.ref (B.1 + q) :: st) := by subst hq; exact J_get hx clk_X13 9 (by decide) hl (hW.obj hk (by decide) (by decide)) rfl hd kk
theorem g13_10 (hx : Fx X cc nL own t mc ms) (hW : Wd (xΓ X) B w G) {q : Nat} (hk : kd q = 19) {idx : Nat} (hl : Cond.fieldLink own idx (TX13 10).1 (TX13 10).2.1 (TX13 10).2.2.1 ∈ WT) (hd : decode cc pc = .ok (.getfield idx, 3)) (kk : J X nL G sz k n (pc + 3) ls (.long (lofW (w q 10) (w q 11)) :: st)) : J X nL G sz k n pc ls (.ref (B.1 + q) :: st) := J_get hx clk_X13 10 (by decide) hl (hW.obj hk (by decide) (by decide)) rfl hd kk
theorem p13_10 (hx : Fx X cc nL own t mc ms) (hW : Wd (xΓ X) B w G) {q : Nat} {v : Int64} (hk : kd q = 19) {idx : Nat} (hl : Cond.fieldLink own idx (TX13 10).1 (TX13 10).2.1 (TX13 10).2.2.1 ∈ WT) (hd : decode cc pc = .ok (.putfield idx, 3)) (kk : ∀ G', Wd (xΓ X) B (wrow w q (upd (upd (w q) 10 (hiW v)) 11 (loW v))) G' → J X nL G' sz k n (pc + 3) ls st) : J X nL G sz k n pc ls (.long v :: .ref (B.1 + q) :: st) := J_putW hx hW clk_X13 10 (by decide) hl rfl hk (hW.obj hk (by decide) (by decide)) (by decide : 10 < 11) rfl rfl ((ent_O (by decide)).trans (by simp [entO, upd, lofW_hl])) hd kk
theorem jd_max : Cond.static Lib.Math.max.name ∈ WT ∧ Cond.initialized "java/lang/Math" ∈ WT ∧ Cond.code Lib.Math.max.name Lib.Math.max.code 2 (some .int) ∈ WT := ⟨(wtm_4 188 (by decide +kernel) (by decide +kernel)), (wtm_1 22 (by decide +kernel) (by decide +kernel)), (wtm_4 189 (by decide +kernel) (by decide +kernel))⟩
theorem jd_min : Cond.static Lib.Math.min.name ∈ WT ∧ Cond.initialized "java/lang/Math" ∈ WT ∧ Cond.code Lib.Math.min.name Lib.Math.min.code 2 (some .int) ∈ WT := ⟨(wtm_4 91 (by decide +kernel) (by decide +kernel)), (wtm_1 22 (by decide +kernel) (by decide +kernel)), (wtm_4 92 (by decide +kernel) (by decide +kernel))⟩
theorem jd_abs : Cond.static Lib.Math.abs.name ∈ WT ∧ Cond.initialized "java/lang/Math" ∈ WT ∧ Cond.code Lib.Math.abs.name Lib.Math.abs.code 1 (some .int) ∈ WT := ⟨(wtm_3 128 (by decide +kernel) (by decide +kernel)), (wtm_1 22 (by decide +kernel) (by decide +kernel)), (wtm_3 129 (by decide +kernel) (by decide +kernel))⟩
theorem jd_copy : Cond.native arraycopyName ∈ WT ∧ Cond.static arraycopyName ∈ WT ∧ Cond.initialized "java/lang/System" ∈ WT := ⟨(wtm_3 68 (by decide +kernel) (by decide +kernel)), (wtm_3 67 (by decide +kernel) (by decide +kernel)), (wtm_1 21 (by decide +kernel) (by decide +kernel))⟩
theorem J_cpW (hx : Fx X cc nL own t mc ms) (hW : Wd (xΓ X) B w G) {idx : Nat} (hl : Cond.methodLink own idx arraycopyName ∈ WT) {q0 q n0 n1 : Nat} {sp dp nn : Int32} (hk0 : kd q0 = n0 + 100) (hk1 : kd q = n1 + 100) (sp' dp' nn' : Nat) (h1 : ¬ sp < 0) (h2 : ¬ dp < 0) (h3 : ¬ nn < 0) (e1 : sp.toNatClampNeg = sp') (e2 : dp.toNatClampNeg = dp') (e3 : nn.toNatClampNeg = nn') (h4 : sp' + nn' ≤ n0) (h5 : dp' + nn' ≤ n1) (ht : 1 ≤ t) (hw : (st.map fun v => v.category).sum + (nativeFrameWords "java/lang/System" "arraycopy" 5 + 11) ≤ 30 * t) (hd : decode cc pc = .ok (.invokestatic idx, 3)) (kk : ∀ G', Wd (xΓ X) B (wrow w q (va_cpy (w q0) (w q) sp' dp' nn')) G' → J X nL G' sz k n (pc + 3) ls st) : J X nL G sz k n pc ls (.int nn :: .int dp :: .ref (B.1 + q) :: .int sp :: .ref (B.1 + q0) :: st) := by
  subst e1 e2 e3
  exact J_copy hx hl jd_copy (hW.arr hk0) (hW.arr hk1) h1 h2 h3 h4 h5 ht hw hd (kk _ (hW.row hk1 ent_I))
end JW
end
section
/-! What the written walks use. -/
theorem lwZ {ls : List (Option Value)} : lw [] ls := trivial
theorem lwN {t' ls : List (Option Value)} {a : Option Value} (h : lw t' ls) : lw (none :: t') (a :: ls) := h
theorem lwS {t' ls : List (Option Value)} {v : Value} (h : lw t' ls) : lw (some v :: t') (some v :: ls) := ⟨rfl, h⟩
theorem bft {b : Bool} (h : b = false) : ¬ b = true := by rw [h]; decide
theorem bI_01 (b : Bool) : bI b = 0 ∨ bI b = 1 := by cases b <;> decide
theorem grd {c : Prop} [Decidable c] {α : Type} {a : Option α} {r : α} (h : ite c a none = some r) : c ∧ a = some r := by
  by_cases hc : c
  · exact ⟨hc, (if_pos hc).symm.trans h⟩
  · rw [if_neg hc] at h; cases h
theorem swD {x : Int32} {lo hi : Int} (h : ∀ j : Int, lo ≤ j → j ≤ hi → x = Int32.ofInt j → False) : x.toInt < lo ∨ hi < x.toInt := by
  by_cases h1 : x.toInt < lo
  · exact Or.inl h1
  · by_cases h2 : hi < x.toInt
    · exact Or.inr h2
    · exact (h x.toInt (by omega) (by omega) (Int32.ofInt_toInt x).symm).elim
theorem iinc_m1 (v : Int32) : v + Int32.ofInt (-1) = v + (-1) := by rw [show Int32.ofInt (-1) = -1 by decide]
theorem idx_of {i : Int32} {N c : Nat} (h : idx i N = some c) : i = Int32.ofNat i.toNatClampNeg := by
  have h1 := idx_in h
  have h0 : 0 ≤ i.toInt := by
    have : ¬ i < 0 := fun q => h1 (Or.inl q)
    rw [Int32.lt_iff_toInt_lt] at this
    simpa using this
  rw [← Int32.toInt_inj]
  have h3 : i.toNatClampNeg = i.toInt.toNat := rfl
  rw [h3, Int32.toInt_ofNat', Int.bmod_eq_of_le]
  · omega
  · have := Int32.le_toInt i; simp only [Int32.size] at *; omega
  · have := Int32.toInt_lt i; simp only [Int32.size] at *; omega
end
section
/-! THE CONSTANTS: ad d the word d (d < 9), ad 10 the table WORDS, ad 11 the map of the switches, ad (20 + d) the letters of word d, ad (30 + d) their bytes, ad 40 .. 42 the messages. Written by wip/whole/gen_const.py -/
def wnc (d : Nat) : Int32 := [1, 1, 2, 1, 2, 1, 2, 3, 1].getD d 0
def sbl (d : Nat) : List Int32 := [[111, 112, 101, 110], [99, 108, 111, 115, 101], [110, 101, 115, 116], [111, 117, 116], [112, 97, 99, 107], [117, 110, 112, 97, 99, 107], [115, 101, 110, 100], [101, 115, 99, 111, 114, 116], [119, 97, 105, 116]].getD d []
def slen (d : Nat) : Nat := (sbl d).length
def sby (d j : Nat) : Int32 := (sbl d).getD j 0
def smv (j : Nat) : Int32 := if j < 8 then Int32.ofNat (j + 1) else 0
def thN : List String := ["java/lang/RuntimeException", "java/lang/Exception"]
def thB : List Cond := [.castable "java/lang/IndexOutOfBoundsException" "java/lang/IndexOutOfBoundsException", .castable "java/lang/IllegalArgumentException" "java/lang/IllegalArgumentException", .castable "java/lang/IllegalStateException" "java/lang/IllegalStateException", .declares (Bundle.initS "java/lang/RuntimeException"), .declares (Bundle.initS "java/lang/Exception"), .declares (Bundle.initS Bundle.tN)]
/-- what is known of the constants at a state U, in the heap of the law's start -/
def KcU (Γ : Gl) (ad : Nat → Nat) (U : State) : Prop :=
  va_Z "CrateTour" "WORDS" "[LCrateTour$Word;" (.ref (ad 10)) (aA Γ) U Γ.2.2.1 ∧
  va_T (.object "CrateTour$Word") (ad 10) 9 (fun j => .ref (ad j)) (aA Γ) U Γ.2.2.1 ∧
  (∀ d, d < 9 → va_O "CrateTour$Word" (ad d) (aA Γ) U Γ.2.2.1 ∧ va_OF "java/lang/Enum" "ordinal" "I" (.int (Int32.ofNat d)) (ad d) (aA Γ) U Γ.2.2.1 ∧ va_OF "CrateTour$Word" "numberCount" "I" (.int (wnc d)) (ad d) (aA Γ) U Γ.2.2.1 ∧ va_OF "CrateTour$Word" "letters" "Ljava/lang/String;" (.ref (ad (20 + d))) (ad d) (aA Γ) U Γ.2.2.1) ∧
  va_Z "CrateTour$1" "$SwitchMap$CrateTour$Word" "[I" (.ref (ad 11)) (aA Γ) U Γ.2.2.1 ∧
  va_T .int (ad 11) 9 (fun j => .int (smv j)) (aA Γ) U Γ.2.2.1 ∧
  (∀ d, d < 9 → va_O "java/lang/String" (ad (20 + d)) (aA Γ) U Γ.2.2.1 ∧ va_OF "java/lang/String" "coder" "B" (.int 0) (ad (20 + d)) (aA Γ) U Γ.2.2.1 ∧ va_OF "java/lang/String" "value" "[B" (.ref (ad (30 + d))) (ad (20 + d)) (aA Γ) U Γ.2.2.1 ∧ va_T .byte (ad (30 + d)) (slen d) (fun j => .int (sby d j)) (aA Γ) U Γ.2.2.1) ∧
  va_Z "java/lang/String" "COMPACT_STRINGS" "Z" (.int 1) (aA Γ) U Γ.2.2.1 ∧
  va_Zq "jdk/internal/util/Preconditions" "SIOOBE_FORMATTER" "Ljava/util/function/BiFunction;" (aA Γ) U Γ.2.2.1 ∧
  va_Z "CrateTour$Word" "OPEN" "LCrateTour$Word;" (.ref (ad 0)) (aA Γ) U Γ.2.2.1 ∧
  va_Nw (.fieldLinkNest "CrateTour$CommandText" 57 "CrateTour" "WORDS" "[LCrateTour$Word;" "CrateTour") U ∧
  vk_R RX12 314 "there is nothing with this number" (ad 40) U ∧ vk_R RX12 321 "an argument is out of its range" (ad 41) U ∧ vk_R RX12 326 "this cannot be done as things stand" (ad 42) U ∧
  vx_Zq Bundle.tN "UNASSIGNED_STACK" Bundle.steD (aA Γ) U Γ.2.2.1 ∧ vx_Zq Bundle.tN "SUPPRESSED_SENTINEL" Bundle.listD (aA Γ) U Γ.2.2.1 ∧ ∀ w ∈ thB, va_Nw w U
/-- the run knows its constants -/
def GC (Γ : Gl) (B : Bs) : Prop := ∀ U : State, Γ.2.2.2 U → KcU Γ B.2 U
theorem Fx.kc {X : Cx} {cc : ByteArray} {nL : Nat} {own : String} {t mc ms : Nat} {B : Bs} (hx : Fx X cc nL own t mc ms) (hC : GC (xΓ X) B) : KcU (xΓ X) B.2 (xs X) := hC _ hx.2.2.2.2.2.1.2.1
theorem KcU.z1 {Γ : Gl} {ad : Nat → Nat} {U : State} (h : KcU Γ ad U) : va_Z "CrateTour" "WORDS" "[LCrateTour$Word;" (.ref (ad 10)) (aA Γ) U Γ.2.2.1 := h.1
theorem KcU.t1 {Γ : Gl} {ad : Nat → Nat} {U : State} (h : KcU Γ ad U) : va_T (.object "CrateTour$Word") (ad 10) 9 (fun j => .ref (ad j)) (aA Γ) U Γ.2.2.1 := h.2.1
theorem KcU.wd {Γ : Gl} {ad : Nat → Nat} {U : State} (h : KcU Γ ad U) : ∀ d, d < 9 → va_O "CrateTour$Word" (ad d) (aA Γ) U Γ.2.2.1 ∧ va_OF "java/lang/Enum" "ordinal" "I" (.int (Int32.ofNat d)) (ad d) (aA Γ) U Γ.2.2.1 ∧ va_OF "CrateTour$Word" "numberCount" "I" (.int (wnc d)) (ad d) (aA Γ) U Γ.2.2.1 ∧ va_OF "CrateTour$Word" "letters" "Ljava/lang/String;" (.ref (ad (20 + d))) (ad d) (aA Γ) U Γ.2.2.1 := h.2.2.1
theorem KcU.z2 {Γ : Gl} {ad : Nat → Nat} {U : State} (h : KcU Γ ad U) : va_Z "CrateTour$1" "$SwitchMap$CrateTour$Word" "[I" (.ref (ad 11)) (aA Γ) U Γ.2.2.1 := h.2.2.2.1
theorem KcU.t2 {Γ : Gl} {ad : Nat → Nat} {U : State} (h : KcU Γ ad U) : va_T .int (ad 11) 9 (fun j => .int (smv j)) (aA Γ) U Γ.2.2.1 := h.2.2.2.2.1
theorem KcU.str {Γ : Gl} {ad : Nat → Nat} {U : State} (h : KcU Γ ad U) : ∀ d, d < 9 → va_O "java/lang/String" (ad (20 + d)) (aA Γ) U Γ.2.2.1 := fun d hd => (h.2.2.2.2.2.1 d hd).1
theorem KcU.nw {Γ : Gl} {ad : Nat → Nat} {U : State} (h : KcU Γ ad U) : va_Nw (.fieldLinkNest "CrateTour$CommandText" 57 "CrateTour" "WORDS" "[LCrateTour$Word;" "CrateTour") U := h.2.2.2.2.2.2.2.2.2.1
theorem KcU.thr {Γ : Gl} {ad : Nat → Nat} {U : State} (h : KcU Γ ad U) : vk_R RX12 314 "there is nothing with this number" (ad 40) U ∧ vk_R RX12 321 "an argument is out of its range" (ad 41) U ∧ vk_R RX12 326 "this cannot be done as things stand" (ad 42) U ∧ vx_Zq Bundle.tN "UNASSIGNED_STACK" Bundle.steD (aA Γ) U Γ.2.2.1 ∧ vx_Zq Bundle.tN "SUPPRESSED_SENTINEL" Bundle.listD (aA Γ) U Γ.2.2.1 ∧ ∀ w ∈ thB, va_Nw w U := h.2.2.2.2.2.2.2.2.2.2
theorem Hp.old {Γ : Gl} {G : Gf} {sz : Nat} {H : Heap} (h : Hp Γ G sz H) : ∀ a : Nat, a < Γ.2.2.1.size → ¬ aA Γ a → H[a]? = Γ.2.2.1[a]? := fun a ha _ => h.2.2.1 a ha
section JK
variable {X : Cx} {cc : ByteArray} {nL : Nat} {own : String} {t mc ms : Nat} {G : Gf} {sz k n pc : Nat} {ls : List (Option Value)} {st : List Value} {B : Bs} {w : Wl}
theorem J_gets (hx : Fx X cc nL own t mc ms) {C nm d : String} {v : Value} {idx : Nat} (hZ : va_Z C nm d v (aA (xΓ X)) (xs X) (xΓ X).2.2.1) (hl : Cond.fieldLink own idx C nm d ∈ WT) (hd : decode cc pc = .ok (.getstatic idx, 3)) (kk : J X nL G sz k n (pc + 3) ls (v :: st)) : J X nL G sz k n pc ls st := fun H locs lsA hH hlc hv2 => by
  obtain ⟨cf, kf, fi, f, a, cell, h1, h2, h3, h4, h5, h6, h7, h8⟩ := hZ.kept hH.old
  exact W.gets hx.1 hx.2.1 hx.2.2.2.1 (hx.2.2.2.2.1 _ hl) h1 h2 h3 h4 h5 (fun e => by rw [e] at h6; cases h6) h7 rfl hd (kk H locs lsA hH hlc hv2)
theorem J_getsN (hx : Fx X cc nL own t mc ms) {C nm d host : String} {v : Value} {idx : Nat} (hZ : va_Z C nm d v (aA (xΓ X)) (xs X) (xΓ X).2.2.1) (hl : va_Nw (.fieldLinkNest own idx C nm d host) (xs X)) (hd : decode cc pc = .ok (.getstatic idx, 3)) (kk : J X nL G sz k n (pc + 3) ls (v :: st)) : J X nL G sz k n pc ls st := fun H locs lsA hH hlc hv2 => by
  obtain ⟨cf, kf, fi, f, a, cell, h1, h2, h3, h4, h5, h6, h7, h8⟩ := hZ.kept hH.old
  exact va_WgetsN hx.1 hx.2.1 hx.2.2.2.1 (va_Nw.use rfl hl) h1 h2 h3 h4 h5 (fun e => by rw [e] at h6; cases h6) h7 rfl hd (kk H locs lsA hH hlc hv2)
theorem J_getsq (hx : Fx X cc nL own t mc ms) {C nm d : String} {idx : Nat} (hZ : va_Zq C nm d (aA (xΓ X)) (xs X) (xΓ X).2.2.1) (hl : Cond.fieldLink own idx C nm d ∈ WT) (hd : decode cc pc = .ok (.getstatic idx, 3)) (kk : ∀ v : Value, (v = .null ∨ ∃ a, v = .ref a) → J X nL G sz k n (pc + 3) ls (v :: st)) : J X nL G sz k n pc ls st := by
  rcases hZ with h | ⟨a, h⟩
  · exact J_gets hx h hl hd (kk _ (Or.inl rfl))
  · exact J_gets hx h hl hd (kk _ (Or.inr ⟨a, rfl⟩))
theorem J_of (hx : Fx X cc nL own t mc ms) {o nm d : String} {v : Value} {q idx : Nat} (hF : va_OF o nm d v q (aA (xΓ X)) (xs X) (xΓ X).2.2.1) (hl : Cond.fieldLink own idx o nm d ∈ WT) (hd : decode cc pc = .ok (.getfield idx, 3)) (kk : J X nL G sz k n (pc + 3) ls (v :: st)) : J X nL G sz k n pc ls (.ref q :: st) := fun H locs lsA hH hlc hv2 => by
  obtain ⟨cf, kf, fi, f, cell, h1, h2, h3, h4, h5, h6⟩ := hF.kept hH.old
  exact W.getf hx.1 hx.2.1 hx.2.2.2.1 (hx.2.2.2.2.1 _ hl) h1 h2 h3 h4 h5 rfl rfl hd (kk H locs lsA hH hlc hv2)
theorem J_tlen (hx : Fx X cc nL own t mc ms) {ty : FieldType} {q N : Nat} {f : Nat → Value} (hT : va_T ty q N f (aA (xΓ X)) (xs X) (xΓ X).2.2.1) {v : Int32} (hv : Int32.ofNat N = v) (hd : decode cc pc = .ok (.arraylength, 1)) (kk : J X nL G sz k n (pc + 1) ls (.int v :: st)) : J X nL G sz k n pc ls (.ref q :: st) := fun H locs lsA hH hlc hv2 => by
  subst hv
  obtain ⟨cell, h1, h2, h3, h4, h5, h6, h7⟩ := hT.kept hH.old
  exact W.alen (n := Int32.ofNat N) hx.1 hx.2.1 h1 h2 h5 rfl rfl hd (kk H locs lsA hH hlc hv2)
theorem tin {N sz' c : Nat} {i : Int32} (hc : idx i N = some c) (h : N ≤ sz') : ¬ (i < 0 ∨ sz' ≤ i.toNatClampNeg) := fun q => by
  rcases q with q | q
  · exact idx_in hc (Or.inl q)
  · exact idx_in hc (Or.inr (Nat.le_trans h q))
theorem J_tiald (hx : Fx X cc nL own t mc ms) {q N c : Nat} {f : Nat → Value} (hT : va_T .int q N f (aA (xΓ X)) (xs X) (xΓ X).2.2.1) {i : Int32} (hc : idx i N = some c) (hd : decode cc pc = .ok (.iaload, 1)) (kk : J X nL G sz k n (pc + 1) ls (f c :: st)) : J X nL G sz k n pc ls (.int i :: .ref q :: st) := fun H locs lsA hH hlc hv2 => by
  obtain ⟨cell, h1, h2, h3, h4, h5, h6, h7⟩ := hT.kept hH.old
  exact W.iald (v := f c) hx.1 hx.2.1 h1 h2 h3 (tin hc h4) (by rw [idx_c hc]; exact h6 _ (idx_lt hc)) rfl rfl hd (kk H locs lsA hH hlc hv2)
theorem J_tbald (hx : Fx X cc nL own t mc ms) {q N c : Nat} {f : Nat → Value} (hT : va_T .byte q N f (aA (xΓ X)) (xs X) (xΓ X).2.2.1) {i : Int32} (hc : idx i N = some c) (hd : decode cc pc = .ok (.baload, 1)) (kk : J X nL G sz k n (pc + 1) ls (f c :: st)) : J X nL G sz k n pc ls (.int i :: .ref q :: st) := fun H locs lsA hH hlc hv2 => by
  obtain ⟨cell, h1, h2, h3, h4, h5, h6, h7⟩ := hT.kept hH.old
  exact W.bald (v := f c) hx.1 hx.2.1 h1 h2 h3 (tin hc h4) (by rw [idx_c hc]; exact h6 _ (idx_lt hc)) rfl rfl hd (kk H locs lsA hH hlc hv2)
theorem J_taald (hx : Fx X cc nL own t mc ms) {ty : FieldType} (href : ty.isReference = true) {q N c : Nat} {f : Nat → Value} (hT : va_T ty q N f (aA (xΓ X)) (xs X) (xΓ X).2.2.1) {i : Int32} (hc : idx i N = some c) (hd : decode cc pc = .ok (.aaload, 1)) (kk : J X nL G sz k n (pc + 1) ls (f c :: st)) : J X nL G sz k n pc ls (.int i :: .ref q :: st) := fun H locs lsA hH hlc hv2 => by
  obtain ⟨cell, h1, h2, h3, h4, h5, h6, h7⟩ := hT.kept hH.old
  exact W.aald (v := f c) (ty := ty) hx.1 hx.2.1 h1 h2 href h3 (tin hc h4) (by rw [idx_c hc]; exact h6 _ (idx_lt hc)) rfl rfl hd (kk H locs lsA hH hlc hv2)
theorem J_i2c (hx : Fx X cc nL own t mc ms) {x v : Int32} (hv : (x.toUInt32 % 65536).toInt32 = v) (hd : decode cc pc = .ok (.i2c, 1)) (kk : J X nL G sz k n (pc + 1) ls (.int v :: st)) : J X nL G sz k n pc ls (.int x :: st) :=
  fun H locs lsA hH hl hv2 => lv_i2c hx.1 hx.2.1 hd hv (kk H locs lsA hH hl hv2)
/-- a return of any small type -/
theorem J_tret (hx : Fx X cc nL own t mc ms) {ty : FieldType} {Ψ : Option Value → Gf → Nat → Prop} (hr : Rt X (some ty) mc ms Ψ) {v : Int32} (hd : decode cc pc = .ok (.ireturn, 1)) (hv : narrow ty (.int v) = .int v) (hk : k ≤ mc) (hn : n ≤ ms) (hq : Ψ (some (.int v)) G sz) : J X nL G sz k n pc ls [.int v] :=
  fun H locs lsA hH hl hv2 => W.widen hk hn (hr.2 _ _ _ (W.zret hx.1 hx.2.1 hr.1 hv (fun u hu _ => ⟨_, G, sz, rfl, hq, hu ▸ hH⟩) hl hd hx.2.2.2.2.2.2.2))
/-- a call of an instance method of a constant object -/
theorem J_callO (hx : Fx X cc nL own t mc ms) {idx : Nat} {y : MethodName} {bytes : ByteArray} {maxL : Nat} {ret : Option FieldType} {nA t' b : Nat} {As rest : List Value} {v : Value}
    (ct : CtR (xl X) (xΓ X) y bytes maxL ret t' (.ref b :: As) G sz v) (hml : Cond.methodLink own idx y ∈ WT) (hm : LkV y bytes maxL ret nA) (hO : va_O y.cls b (aA (xΓ X)) (xs X) (xΓ X).2.2.1)
    (hst : st = As.reverse ++ .ref b :: rest) (hn : As.length = nA) (ht : t' + 1 ≤ t) (hlo : 19 + maxL + 30 * t' ≤ 30 * t) (hw : (rest.map fun v => v.category).sum ≤ 8) (hk : k ≤ mc) (hs : n ≤ ms) (hd : decode cc pc = .ok (.invokevirtual idx, 3))
    (kk : J X nL G sz k n (pc + 3) ls (v :: rest)) : J X nL G sz k n pc ls st := by
  have hts := hx.2.2.2.2.1
  have hK := hx.2.2.2.2.2.1
  have hR := hx.2.2.2.2.2.2.1
  refine J_back (mc' := 0) (ms' := 0) (rest := rest) (Ψ := RdΨ v G sz) (Value.ref b :: As).toArray (fun H locs lsA hH hlc hv2 => ?_) (fun r G' sz' h => by obtain ⟨rfl, rfl, rfl⟩ := h; exact kk)
  refine va_runV (C := y.cls) (b := b) (As := As) (fix_of hx) ct ⟨callB_J hx hml hm.1 ht hlo, hts _ hm.2.1, hts _ hm.2.2⟩ ⟨Pc_blind, ?_, fun U hU hW => ⟨rfl, hK.warm hW, by rw [hU]; exact hH⟩⟩ rfl hn hv2.1 hst (by show 2 * 0 + _ ≤ 8; omega) hd (by rw [hR]; exact ⟨hk, hs⟩)
  obtain ⟨cell, h1, h2, h3, -⟩ := hO.kept hH.old
  exact ⟨cell, h1, h2, h3⟩
/-- a call of an inherited method of a constant object -/
theorem J_callU (hx : Fx X cc nL own t mc ms) {idx : Nat} {C : String} {x y : MethodName} {bytes : ByteArray} {maxL : Nat} {ret : Option FieldType} {nA t' b : Nat} {As rest : List Value} {v : Value}
    (ct : CtR (xl X) (xΓ X) y bytes maxL ret t' (.ref b :: As) G sz v) (hyx : y = ⟨y.cls, x.name, x.desc⟩) (hU : ∀ w ∈ va_wsU own idx C y.cls x y [], w ∈ WT) (hco : Cond.code y bytes maxL ret ∈ WT) (hdd : y.cls ≠ "java/lang/invoke/MethodHandle" ∧ y.cls ≠ "java/lang/invoke/VarHandle" ∧ (parseMethodDescriptor x.desc).map (fun d => d.parameters.length) = some nA) (hO : va_O C b (aA (xΓ X)) (xs X) (xΓ X).2.2.1)
    (hst : st = As.reverse ++ .ref b :: rest) (hn : As.length = nA) (ht : t' + 1 ≤ t) (hlo : 19 + maxL + 30 * t' ≤ 30 * t) (hw : (rest.map fun v => v.category).sum ≤ 8) (hk : k ≤ mc) (hs : n ≤ ms) (hd : decode cc pc = .ok (.invokevirtual idx, 3))
    (kk : J X nL G sz k n (pc + 3) ls (v :: rest)) : J X nL G sz k n pc ls st := by
  have hts := hx.2.2.2.2.1
  have hK := hx.2.2.2.2.2.1
  have hR := hx.2.2.2.2.2.2.1
  refine J_back (mc' := 0) (ms' := 0) (rest := rest) (Ψ := RdΨ v G sz) (Value.ref b :: As).toArray (fun H locs lsA hH hlc hv2 => ?_) (fun r G' sz' h => by obtain ⟨rfl, rfl, rfl⟩ := h; exact kk)
  have hG : GoodIn WT (va_wsU own idx C y.cls x y (wy y bytes maxL ret)) := fun w hw => by
    unfold va_wsU at hw
    rcases List.mem_append.mp hw with h | h
    · have := hU w (by unfold va_wsU; exact List.mem_append_left _ h)
      exact ⟨this, WT_good this⟩
    · exact wy_in hco w h
  refine va_runU (C := C) (owner := y.cls) (x := x) (b := b) (As := As) (fix_of hx) ct (va_cwU (rm := rmL t' 0 0) nA hts hG rfl rfl rfl hyx hdd (by rw [hR]; exact ⟨ht, by show 8 + (maxL + 11) + 30 * t' ≤ 30 * t; omega⟩)) ⟨Pc_blind, ?_, fun U hU hW => ⟨rfl, hK.warm hW, by rw [hU]; exact hH⟩⟩ rfl hn hv2.1 hst (by show 2 * 0 + _ ≤ 8; omega) hd (by rw [hR]; exact ⟨hk, hs⟩)
  obtain ⟨cell, h1, h2, h3, -⟩ := hO.kept hH.old
  exact ⟨cell, h1, h2, h3⟩
theorem gW2_4 (hx : Fx X cc nL own t mc ms) (hW : Wd (xΓ X) B w G) {q d : Nat} (hk : kd q = 17) {idx' : Nat} (hl : Cond.fieldLink own idx' (TX2 4).1 (TX2 4).2.1 (TX2 4).2.2.1 ∈ WT) (hdx : idx (w q 4) 9 = some d) (hd : decode cc pc = .ok (.getfield idx', 3)) (kk : J X nL G sz k n (pc + 3) ls (.ref (B.2 d) :: st)) : J X nL G sz k n pc ls (.ref (B.1 + q) :: st) := J_get hx clk_X2 4 (by decide) hl (hW.obj hk (by decide) (by decide)) (v := .ref (B.2 d)) (by show some (Value.ref (B.2 (w q 4).toNatClampNeg)) = _; rw [idx_c hdx]) hd kk
theorem pW2_4 (hx : Fx X cc nL own t mc ms) (hW : Wd (xΓ X) B w G) {q d : Nat} {v : Int32} (hk : kd q = 17) {idx' : Nat} (hl : Cond.fieldLink own idx' (TX2 4).1 (TX2 4).2.1 (TX2 4).2.2.1 ∈ WT) (hv : idx v 9 = some d) (hd : decode cc pc = .ok (.putfield idx', 3)) (kk : ∀ G', Wd (xΓ X) B (wst w q 4 v) G' → J X nL G' sz k n (pc + 3) ls st) : J X nL G sz k n pc ls (.ref (B.2 d) :: .ref (B.1 + q) :: st) := J_putW hx hW clk_X2 4 (by decide) hl rfl hk (hW.obj hk (by decide) (by decide)) (by decide : 4 < 6) rfl rfl ((ent_O (by decide)).trans (by simp [entO, upd, idx_c hv])) hd kk
end JK
theorem lk_J0_coder_7d493 : LkV yJ0_coder_7d493 cJ0_coder_7d493 1 (some .byte) 0 := ⟨⟨(wtm_2 229 (by decide +kernel) (by decide +kernel)), (wtm_1 23 (by decide +kernel) (by decide +kernel)), by decide +kernel, by decide +kernel, by decide +kernel⟩, (wtm_2 227 (by decide +kernel) (by decide +kernel)), (wtm_2 228 (by decide +kernel) (by decide +kernel))⟩
theorem lk_J0_length_8abf5 : LkV yJ0_length_8abf5 cJ0_length_8abf5 1 (some .int) 0 := ⟨⟨(wtm_2 225 (by decide +kernel) (by decide +kernel)), (wtm_1 23 (by decide +kernel) (by decide +kernel)), by decide +kernel, by decide +kernel, by decide +kernel⟩, (wtm_2 223 (by decide +kernel) (by decide +kernel)), (wtm_2 224 (by decide +kernel) (by decide +kernel))⟩
theorem lk_J0_isLatin1_aae02 : LkV yJ0_isLatin1_aae02 cJ0_isLatin1_aae02 1 (some .boolean) 0 := ⟨⟨(wtm_2 239 (by decide +kernel) (by decide +kernel)), (wtm_1 23 (by decide +kernel) (by decide +kernel)), by decide +kernel, by decide +kernel, by decide +kernel⟩, (wtm_2 237 (by decide +kernel) (by decide +kernel)), (wtm_2 238 (by decide +kernel) (by decide +kernel))⟩
theorem lk_J0_checkIndex_df160 : LkS yJ0_checkIndex_df160 cJ0_checkIndex_df160 2 none 2 := ⟨⟨(wtm_3 5 (by decide +kernel) (by decide +kernel)), (wtm_1 23 (by decide +kernel) (by decide +kernel)), by decide +kernel, by decide +kernel, by decide +kernel⟩, (wtm_3 4 (by decide +kernel) (by decide +kernel))⟩
theorem lk_J1_charAt_3b067 : LkS yJ1_charAt_3b067 cJ1_charAt_3b067 2 (some .char) 2 := ⟨⟨(wtm_3 2 (by decide +kernel) (by decide +kernel)), (wtm_1 24 (by decide +kernel) (by decide +kernel)), by decide +kernel, by decide +kernel, by decide +kernel⟩, (wtm_3 1 (by decide +kernel) (by decide +kernel))⟩
theorem lk_J0_charAt_5068e : LkV yJ0_charAt_5068e cJ0_charAt_5068e 2 (some .char) 1 := ⟨⟨(wtm_2 235 (by decide +kernel) (by decide +kernel)), (wtm_1 23 (by decide +kernel) (by decide +kernel)), by decide +kernel, by decide +kernel, by decide +kernel⟩, (wtm_2 233 (by decide +kernel) (by decide +kernel)), (wtm_2 234 (by decide +kernel) (by decide +kernel))⟩
theorem lk_J3_checkIndex_8e157 : LkS yJ3_checkIndex_8e157 cJ3_checkIndex_8e157 3 (some .int) 3 := ⟨⟨(wtm_3 10 (by decide +kernel) (by decide +kernel)), (wtm_1 25 (by decide +kernel) (by decide +kernel)), by decide +kernel, by decide +kernel, by decide +kernel⟩, (wtm_3 9 (by decide +kernel) (by decide +kernel))⟩
theorem mj_335 : Cond.methodLink RJ0 335 yJ0_coder_7d493 ∈ WT := (wtm_2 226 (by decide +kernel) (by decide +kernel))
theorem mj_492 : Cond.methodLink RJ0 492 yJ0_isLatin1_aae02 ∈ WT := (wtm_2 236 (by decide +kernel) (by decide +kernel))
theorem mj_495 : Cond.methodLink RJ0 495 yJ1_charAt_3b067 ∈ WT := (wtm_3 0 (by decide +kernel) (by decide +kernel))
theorem mj_1059 : Cond.methodLink RJ0 1059 yJ3_checkIndex_8e157 ∈ WT := (wtm_3 8 (by decide +kernel) (by decide +kernel))
theorem mj_9 : Cond.methodLink RJ1 9 yJ0_checkIndex_df160 ∈ WT := (wtm_3 3 (by decide +kernel) (by decide +kernel))
theorem mj_73 : Cond.methodLink RX2 73 yJ0_length_8abf5 ∈ WT := (wtm_2 222 (by decide +kernel) (by decide +kernel))
theorem mj_78 : Cond.methodLink RX2 78 yJ0_charAt_5068e ∈ WT := (wtm_2 232 (by decide +kernel) (by decide +kernel))
theorem fj_38 : Cond.fieldLink RJ0 38 "java/lang/String" "COMPACT_STRINGS" "Z" ∈ WT := (wtm_2 230 (by decide +kernel) (by decide +kernel))
theorem fj_1053 : Cond.fieldLink RJ0 1053 "jdk/internal/util/Preconditions" "SIOOBE_FORMATTER" "Ljava/util/function/BiFunction;" ∈ WT := (wtm_3 6 (by decide +kernel) (by decide +kernel))
theorem fj_9 : Cond.fieldLink RJ0 9 "java/lang/String" "value" "[B" ∈ WT := (wtm_8 160 (by decide +kernel) (by decide +kernel))
theorem fj_15 : Cond.fieldLink RJ0 15 "java/lang/String" "coder" "B" ∈ WT := (wtm_8 161 (by decide +kernel) (by decide +kernel))
end
section
/-! JDK members on the constant strings and words. Written by wip/whole/gen_jdk.py -/
theorem dJ0_coder_7d493_0 : decode cJ0_coder_7d493 0 = .ok (.getstatic 38, 3) := by decide +kernel
theorem dJ0_coder_7d493_3 : decode cJ0_coder_7d493 3 = .ok (.ifCond .eq 10, 3) := by decide +kernel
theorem dJ0_coder_7d493_6 : decode cJ0_coder_7d493 6 = .ok (.aload_n 0, 1) := by decide +kernel
theorem dJ0_coder_7d493_7 : decode cJ0_coder_7d493 7 = .ok (.getfield 15, 3) := by decide +kernel
theorem dJ0_coder_7d493_10 : decode cJ0_coder_7d493 10 = .ok (.goto 4, 3) := by decide +kernel
theorem dJ0_coder_7d493_13 : decode cJ0_coder_7d493 13 = .ok (.iconst 1, 1) := by decide +kernel
theorem dJ0_coder_7d493_14 : decode cJ0_coder_7d493 14 = .ok (.ireturn, 1) := by decide +kernel
theorem dJ0_length_8abf5_0 : decode cJ0_length_8abf5 0 = .ok (.aload_n 0, 1) := by decide +kernel
theorem dJ0_length_8abf5_1 : decode cJ0_length_8abf5 1 = .ok (.getfield 9, 3) := by decide +kernel
theorem dJ0_length_8abf5_4 : decode cJ0_length_8abf5 4 = .ok (.arraylength, 1) := by decide +kernel
theorem dJ0_length_8abf5_5 : decode cJ0_length_8abf5 5 = .ok (.aload_n 0, 1) := by decide +kernel
theorem dJ0_length_8abf5_6 : decode cJ0_length_8abf5 6 = .ok (.invokevirtual 335, 3) := by decide +kernel
theorem dJ0_length_8abf5_9 : decode cJ0_length_8abf5 9 = .ok (.ishr, 1) := by decide +kernel
theorem dJ0_length_8abf5_10 : decode cJ0_length_8abf5 10 = .ok (.ireturn, 1) := by decide +kernel
theorem dJ0_isLatin1_aae02_0 : decode cJ0_isLatin1_aae02 0 = .ok (.getstatic 38, 3) := by decide +kernel
theorem dJ0_isLatin1_aae02_3 : decode cJ0_isLatin1_aae02 3 = .ok (.ifCond .eq 14, 3) := by decide +kernel
theorem dJ0_isLatin1_aae02_6 : decode cJ0_isLatin1_aae02 6 = .ok (.aload_n 0, 1) := by decide +kernel
theorem dJ0_isLatin1_aae02_7 : decode cJ0_isLatin1_aae02 7 = .ok (.getfield 15, 3) := by decide +kernel
theorem dJ0_isLatin1_aae02_10 : decode cJ0_isLatin1_aae02 10 = .ok (.ifCond .ne 7, 3) := by decide +kernel
theorem dJ0_isLatin1_aae02_13 : decode cJ0_isLatin1_aae02 13 = .ok (.iconst 1, 1) := by decide +kernel
theorem dJ0_isLatin1_aae02_14 : decode cJ0_isLatin1_aae02 14 = .ok (.goto 4, 3) := by decide +kernel
theorem dJ0_isLatin1_aae02_17 : decode cJ0_isLatin1_aae02 17 = .ok (.iconst 0, 1) := by decide +kernel
theorem dJ0_isLatin1_aae02_18 : decode cJ0_isLatin1_aae02 18 = .ok (.ireturn, 1) := by decide +kernel
theorem dJ0_checkIndex_df160_0 : decode cJ0_checkIndex_df160 0 = .ok (.iload_n 0, 1) := by decide +kernel
theorem dJ0_checkIndex_df160_1 : decode cJ0_checkIndex_df160 1 = .ok (.iload_n 1, 1) := by decide +kernel
theorem dJ0_checkIndex_df160_2 : decode cJ0_checkIndex_df160 2 = .ok (.getstatic 1053, 3) := by decide +kernel
theorem dJ0_checkIndex_df160_5 : decode cJ0_checkIndex_df160 5 = .ok (.invokestatic 1059, 3) := by decide +kernel
theorem dJ0_checkIndex_df160_8 : decode cJ0_checkIndex_df160 8 = .ok (.pop, 1) := by decide +kernel
theorem dJ0_checkIndex_df160_9 : decode cJ0_checkIndex_df160 9 = .ok (.return_, 1) := by decide +kernel
theorem dJ1_charAt_3b067_0 : decode cJ1_charAt_3b067 0 = .ok (.iload_n 1, 1) := by decide +kernel
theorem dJ1_charAt_3b067_1 : decode cJ1_charAt_3b067 1 = .ok (.aload_n 0, 1) := by decide +kernel
theorem dJ1_charAt_3b067_2 : decode cJ1_charAt_3b067 2 = .ok (.arraylength, 1) := by decide +kernel
theorem dJ1_charAt_3b067_3 : decode cJ1_charAt_3b067 3 = .ok (.invokestatic 9, 3) := by decide +kernel
theorem dJ1_charAt_3b067_6 : decode cJ1_charAt_3b067 6 = .ok (.aload_n 0, 1) := by decide +kernel
theorem dJ1_charAt_3b067_7 : decode cJ1_charAt_3b067 7 = .ok (.iload_n 1, 1) := by decide +kernel
theorem dJ1_charAt_3b067_8 : decode cJ1_charAt_3b067 8 = .ok (.baload, 1) := by decide +kernel
theorem dJ1_charAt_3b067_9 : decode cJ1_charAt_3b067 9 = .ok (.sipush 255, 3) := by decide +kernel
theorem dJ1_charAt_3b067_12 : decode cJ1_charAt_3b067 12 = .ok (.iand, 1) := by decide +kernel
theorem dJ1_charAt_3b067_13 : decode cJ1_charAt_3b067 13 = .ok (.i2c, 1) := by decide +kernel
theorem dJ1_charAt_3b067_14 : decode cJ1_charAt_3b067 14 = .ok (.ireturn, 1) := by decide +kernel
theorem dJ0_charAt_5068e_0 : decode cJ0_charAt_5068e 0 = .ok (.aload_n 0, 1) := by decide +kernel
theorem dJ0_charAt_5068e_1 : decode cJ0_charAt_5068e 1 = .ok (.invokevirtual 492, 3) := by decide +kernel
theorem dJ0_charAt_5068e_4 : decode cJ0_charAt_5068e 4 = .ok (.ifCond .eq 12, 3) := by decide +kernel
theorem dJ0_charAt_5068e_7 : decode cJ0_charAt_5068e 7 = .ok (.aload_n 0, 1) := by decide +kernel
theorem dJ0_charAt_5068e_8 : decode cJ0_charAt_5068e 8 = .ok (.getfield 9, 3) := by decide +kernel
theorem dJ0_charAt_5068e_11 : decode cJ0_charAt_5068e 11 = .ok (.iload_n 1, 1) := by decide +kernel
theorem dJ0_charAt_5068e_12 : decode cJ0_charAt_5068e 12 = .ok (.invokestatic 495, 3) := by decide +kernel
theorem dJ0_charAt_5068e_15 : decode cJ0_charAt_5068e 15 = .ok (.ireturn, 1) := by decide +kernel
theorem dJ0_charAt_5068e_16 : decode cJ0_charAt_5068e 16 = .ok (.aload_n 0, 1) := by decide +kernel
theorem dJ0_charAt_5068e_17 : decode cJ0_charAt_5068e 17 = .ok (.getfield 9, 3) := by decide +kernel
theorem dJ0_charAt_5068e_20 : decode cJ0_charAt_5068e 20 = .ok (.iload_n 1, 1) := by decide +kernel
theorem dJ0_charAt_5068e_21 : decode cJ0_charAt_5068e 21 = .ok (.invokestatic 498, 3) := by decide +kernel
theorem dJ0_charAt_5068e_24 : decode cJ0_charAt_5068e 24 = .ok (.ireturn, 1) := by decide +kernel
theorem dJ3_checkIndex_8e157_0 : decode cJ3_checkIndex_8e157 0 = .ok (.iload_n 0, 1) := by decide +kernel
theorem dJ3_checkIndex_8e157_1 : decode cJ3_checkIndex_8e157 1 = .ok (.ifCond .lt 8, 3) := by decide +kernel
theorem dJ3_checkIndex_8e157_4 : decode cJ3_checkIndex_8e157 4 = .ok (.iload_n 0, 1) := by decide +kernel
theorem dJ3_checkIndex_8e157_5 : decode cJ3_checkIndex_8e157 5 = .ok (.iload_n 1, 1) := by decide +kernel
theorem dJ3_checkIndex_8e157_6 : decode cJ3_checkIndex_8e157 6 = .ok (.if_icmp .lt 10, 3) := by decide +kernel
theorem dJ3_checkIndex_8e157_9 : decode cJ3_checkIndex_8e157 9 = .ok (.aload_n 2, 1) := by decide +kernel
theorem dJ3_checkIndex_8e157_10 : decode cJ3_checkIndex_8e157 10 = .ok (.iload_n 0, 1) := by decide +kernel
theorem dJ3_checkIndex_8e157_11 : decode cJ3_checkIndex_8e157 11 = .ok (.iload_n 1, 1) := by decide +kernel
theorem dJ3_checkIndex_8e157_12 : decode cJ3_checkIndex_8e157 12 = .ok (.invokestatic 95, 3) := by decide +kernel
theorem dJ3_checkIndex_8e157_15 : decode cJ3_checkIndex_8e157 15 = .ok (.athrow, 1) := by decide +kernel
theorem dJ3_checkIndex_8e157_16 : decode cJ3_checkIndex_8e157 16 = .ok (.iload_n 0, 1) := by decide +kernel
theorem dJ3_checkIndex_8e157_17 : decode cJ3_checkIndex_8e157 17 = .ok (.ireturn, 1) := by decide +kernel
theorem dJx29ce0_ordinal_8abf5_0 : decode cJx29ce0_ordinal_8abf5 0 = .ok (.aload_n 0, 1) := by decide +kernel
theorem dJx29ce0_ordinal_8abf5_1 : decode cJx29ce0_ordinal_8abf5 1 = .ok (.getfield 7, 3) := by decide +kernel
theorem dJx29ce0_ordinal_8abf5_4 : decode cJx29ce0_ordinal_8abf5 4 = .ok (.ireturn, 1) := by decide +kernel
theorem kJ0_coder_7d493 {l : Launch} {Γ : Gl} {B : Bs} {G : Gf} {sz : Nat} {d : Nat} (hd : d < 9) (hC : GC Γ B) : CtR l Γ yJ0_coder_7d493 cJ0_coder_7d493 1 (some .byte) 0 [.ref (B.2 (20 + d))] G sz (.int 0) := by
  refine Ct.of rfl (Nat.le_of_ble_eq_true rfl) fun X hx hr hl hΓ hnm => ?_
  subst hl hΓ
  show J X 1 G sz 0 0 0 [some (.ref (B.2 (20 + d)))] []
  have hc := hx.kc hC
  obtain ⟨hW1, hW2, hW3, hW4, hW5, hS, hZ, hQ, -⟩ := hc
  refine J_gets hx hZ fj_38 dJ0_coder_7d493_0 ?_
  refine J_if_eq hx 13 dJ0_coder_7d493_3 rfl (fun h => absurd h (by decide)) (fun _ => ?_)
  refine J_al4 hx rfl rfl dJ0_coder_7d493_6 ?_
  refine J_of hx (hS d hd).2.1 fj_15 dJ0_coder_7d493_7 ?_
  refine J_goto hx 14 dJ0_coder_7d493_10 rfl ?_
  exact J_tret hx hr dJ0_coder_7d493_14 (by decide) (Nat.le_refl 0) (Nat.le_refl 0) ⟨rfl, rfl, rfl⟩
theorem kJ0_isLatin1_aae02 {l : Launch} {Γ : Gl} {B : Bs} {G : Gf} {sz : Nat} {d : Nat} (hd : d < 9) (hC : GC Γ B) : CtR l Γ yJ0_isLatin1_aae02 cJ0_isLatin1_aae02 1 (some .boolean) 0 [.ref (B.2 (20 + d))] G sz (.int 1) := by
  refine Ct.of rfl (Nat.le_of_ble_eq_true rfl) fun X hx hr hl hΓ hnm => ?_
  subst hl hΓ
  show J X 1 G sz 0 0 0 [some (.ref (B.2 (20 + d)))] []
  have hc := hx.kc hC
  obtain ⟨hW1, hW2, hW3, hW4, hW5, hS, hZ, hQ, -⟩ := hc
  refine J_gets hx hZ fj_38 dJ0_isLatin1_aae02_0 ?_
  refine J_if_eq hx 17 dJ0_isLatin1_aae02_3 rfl (fun h => absurd h (by decide)) (fun _ => ?_)
  refine J_al4 hx rfl rfl dJ0_isLatin1_aae02_6 ?_
  refine J_of hx (hS d hd).2.1 fj_15 dJ0_isLatin1_aae02_7 ?_
  refine J_if_ne hx 17 dJ0_isLatin1_aae02_10 rfl (fun h => absurd rfl h) (fun _ => ?_)
  refine J_iconst hx (1 : Int32) dJ0_isLatin1_aae02_13 rfl ?_
  refine J_goto hx 18 dJ0_isLatin1_aae02_14 rfl ?_
  exact J_tret hx hr dJ0_isLatin1_aae02_18 (by decide) (Nat.le_refl 0) (Nat.le_refl 0) ⟨rfl, rfl, rfl⟩
theorem slen_s0 : ∀ d, d < 9 → Int32.ofNat (slen d) >>> ((0 : Int32) &&& 31) = Int32.ofNat (slen d) := by decide +kernel
theorem slen_pos : ∀ d, d < 9 → ∀ j, j < slen d → ¬ Int32.ofNat j < 0 ∧ Int32.ofNat j < Int32.ofNat (slen d) ∧ (sby d j &&& 255).toUInt32 % 65536 = (sby d j).toUInt32 ∧ narrow .char (.int (sby d j)) = .int (sby d j) := by decide +kernel
theorem kJ0_length_8abf5 {l : Launch} {Γ : Gl} {B : Bs} {G : Gf} {sz : Nat} {d : Nat} (hd : d < 9) (hC : GC Γ B) : CtR l Γ yJ0_length_8abf5 cJ0_length_8abf5 1 (some .int) 1 [.ref (B.2 (20 + d))] G sz (.int (Int32.ofNat (slen d))) := by
  refine Ct.of rfl (Nat.le_of_ble_eq_true rfl) fun X hx hr hl hΓ hnm => ?_
  subst hl hΓ
  show J X 1 G sz 0 0 0 [some (.ref (B.2 (20 + d)))] []
  have hc := hx.kc hC
  obtain ⟨hW1, hW2, hW3, hW4, hW5, hS, hZ, hQ, -⟩ := hc
  refine J_al4 hx rfl rfl dJ0_length_8abf5_0 ?_
  refine J_of hx (hS d hd).2.2.1 fj_9 dJ0_length_8abf5_1 ?_
  refine J_tlen hx (hS d hd).2.2.2 rfl dJ0_length_8abf5_4 ?_
  refine J_al4 hx rfl rfl dJ0_length_8abf5_5 ?_
  refine J_callO hx (kJ0_coder_7d493 hd hC) mj_335 lk_J0_coder_7d493 (hS d hd).1 (rest := [.int (Int32.ofNat (slen d))]) rfl rfl (by decide) (by decide) (Nat.le_of_ble_eq_true rfl) (Nat.le_refl 0) (Nat.le_refl 0) dJ0_length_8abf5_6 ?_
  refine J_ishr hx dJ0_length_8abf5_9 ?_
  exact J_tret hx hr dJ0_length_8abf5_10 rfl (Nat.le_refl 0) (Nat.le_refl 0) ⟨by rw [slen_s0 d hd], rfl, rfl⟩
theorem kJ3_checkIndex_8e157n {l : Launch} {Γ : Gl} {B : Bs} {G : Gf} {sz : Nat} {i n : Int32} (h0 : ¬ i < 0) (h1 : i < n) (hC : GC Γ B) : CtR l Γ yJ3_checkIndex_8e157 cJ3_checkIndex_8e157 3 (some .int) 0 [.int i, .int n, .null] G sz (.int i) := by
  refine Ct.of rfl (Nat.le_of_ble_eq_true rfl) fun X hx hr hl hΓ hnm => ?_
  subst hl hΓ
  show J X 3 G sz 0 0 0 [some (.int i), some (.int n), some (.null)] []
  have hc := hx.kc hC
  obtain ⟨hW1, hW2, hW3, hW4, hW5, hS, hZ, hQ, -⟩ := hc
  refine J_il4 hx rfl rfl dJ3_checkIndex_8e157_0 ?_
  refine J_if_lt hx 9 dJ3_checkIndex_8e157_1 rfl (fun h => absurd h h0) (fun _ => ?_)
  refine J_il4 hx rfl rfl dJ3_checkIndex_8e157_4 ?_
  refine J_il4 hx rfl rfl dJ3_checkIndex_8e157_5 ?_
  refine J_icmp_lt hx 16 dJ3_checkIndex_8e157_6 rfl (fun _ => ?_) (fun h => absurd h1 h)
  refine J_il4 hx rfl rfl dJ3_checkIndex_8e157_16 ?_
  exact J_tret hx hr dJ3_checkIndex_8e157_17 rfl (Nat.le_refl 0) (Nat.le_refl 0) ⟨rfl, rfl, rfl⟩
theorem kJ3_checkIndex_8e157r {l : Launch} {Γ : Gl} {B : Bs} {G : Gf} {sz : Nat} {i n : Int32} {a : Nat} (h0 : ¬ i < 0) (h1 : i < n) (hC : GC Γ B) : CtR l Γ yJ3_checkIndex_8e157 cJ3_checkIndex_8e157 3 (some .int) 0 [.int i, .int n, .ref a] G sz (.int i) := by
  refine Ct.of rfl (Nat.le_of_ble_eq_true rfl) fun X hx hr hl hΓ hnm => ?_
  subst hl hΓ
  show J X 3 G sz 0 0 0 [some (.int i), some (.int n), some (.ref a)] []
  have hc := hx.kc hC
  obtain ⟨hW1, hW2, hW3, hW4, hW5, hS, hZ, hQ, -⟩ := hc
  refine J_il4 hx rfl rfl dJ3_checkIndex_8e157_0 ?_
  refine J_if_lt hx 9 dJ3_checkIndex_8e157_1 rfl (fun h => absurd h h0) (fun _ => ?_)
  refine J_il4 hx rfl rfl dJ3_checkIndex_8e157_4 ?_
  refine J_il4 hx rfl rfl dJ3_checkIndex_8e157_5 ?_
  refine J_icmp_lt hx 16 dJ3_checkIndex_8e157_6 rfl (fun _ => ?_) (fun h => absurd h1 h)
  refine J_il4 hx rfl rfl dJ3_checkIndex_8e157_16 ?_
  exact J_tret hx hr dJ3_checkIndex_8e157_17 rfl (Nat.le_refl 0) (Nat.le_refl 0) ⟨rfl, rfl, rfl⟩
theorem kJ0_checkIndex_df160 {l : Launch} {Γ : Gl} {B : Bs} {G : Gf} {sz : Nat} {i n : Int32} (h0 : ¬ i < 0) (h1 : i < n) (hC : GC Γ B) : Ct l Γ yJ0_checkIndex_df160 cJ0_checkIndex_df160 2 none 1 [.int i, .int n] G sz (fun r G' sz' => r = none ∧ G' = G ∧ sz' = sz) 0 0 := by
  refine Ct.of rfl (Nat.le_of_ble_eq_true rfl) fun X hx hr hl hΓ hnm => ?_
  subst hl hΓ
  show J X 2 G sz 0 0 0 [some (.int i), some (.int n)] []
  obtain ⟨hW1, hW2, hW3, hW4, hW5, hS, hZ, hQ, -⟩ := hx.kc hC
  refine J_il4 hx rfl rfl dJ0_checkIndex_df160_0 ?_
  refine J_il4 hx rfl rfl dJ0_checkIndex_df160_1 ?_
  refine J_getsq hx hQ fj_1053 dJ0_checkIndex_df160_2 fun v hv => ?_
  have ct : CtR (xl X) (xΓ X) yJ3_checkIndex_8e157 cJ3_checkIndex_8e157 3 (some .int) 0 [.int i, .int n, v] G sz (.int i) := by
    rcases hv with rfl | ⟨a, rfl⟩
    · exact kJ3_checkIndex_8e157n h0 h1 hC
    · exact kJ3_checkIndex_8e157r h0 h1 hC
  refine J_rdS hx ct mj_1059 lk_J3_checkIndex_8e157 (rest := []) rfl rfl (by decide) (by decide) (Nat.le_of_ble_eq_true rfl) (Nat.le_refl 0) (Nat.le_refl 0) dJ0_checkIndex_df160_5 ?_
  refine J_pop hx dJ0_checkIndex_df160_8 ?_
  exact J_vret hx hr dJ0_checkIndex_df160_9 (Nat.le_refl 0) (Nat.le_refl 0) ⟨rfl, rfl, rfl⟩
theorem kJ1_charAt_3b067 {l : Launch} {Γ : Gl} {B : Bs} {G : Gf} {sz : Nat} {d j : Nat} {i : Int32} (hd : d < 9) (hj : idx i (slen d) = some j) (hC : GC Γ B) : CtR l Γ yJ1_charAt_3b067 cJ1_charAt_3b067 2 (some .char) 2 [.ref (B.2 (30 + d)), .int i] G sz (.int (sby d j)) := by
  refine Ct.of rfl (Nat.le_of_ble_eq_true rfl) fun X hx hr hl hΓ hnm => ?_
  subst hl hΓ
  show J X 2 G sz 0 0 0 [some (.ref (B.2 (30 + d))), some (.int i)] []
  have hc := hx.kc hC
  obtain ⟨hW1, hW2, hW3, hW4, hW5, hS, hZ, hQ, -⟩ := hc
  have hi : i = Int32.ofNat j := by rw [← idx_c hj]; exact idx_of hj
  obtain ⟨s1, s2, s3, s4⟩ := slen_pos d hd j (idx_lt hj)
  refine J_il4 hx rfl rfl dJ1_charAt_3b067_0 ?_
  refine J_al4 hx rfl rfl dJ1_charAt_3b067_1 ?_
  refine J_tlen hx (hS d hd).2.2.2 rfl dJ1_charAt_3b067_2 ?_
  refine J_callS hx (kJ0_checkIndex_df160 (by rw [hi]; exact s1) (by rw [hi]; exact s2) hC) mj_9 lk_J0_checkIndex_df160 (rest := []) rfl rfl (by decide) (by decide) (Nat.le_of_ble_eq_true rfl) (Nat.le_refl 0) (Nat.le_refl 0) dJ1_charAt_3b067_3 fun r G2 sz2 hh => ?_
  obtain ⟨rfl, rfl, rfl⟩ := hh
  show J X 2 _ _ 0 0 6 [some (.ref (B.2 (30 + d))), some (.int i)] []
  refine J_al4 hx rfl rfl dJ1_charAt_3b067_6 ?_
  refine J_il4 hx rfl rfl dJ1_charAt_3b067_7 ?_
  refine J_tbald hx (hS d hd).2.2.2 hj dJ1_charAt_3b067_8 ?_
  refine J_sipush hx (255 : Int32) dJ1_charAt_3b067_9 rfl ?_
  refine J_iand hx dJ1_charAt_3b067_12 ?_
  refine J_i2c hx (v := sby d j) (by rw [s3]; rfl) dJ1_charAt_3b067_13 ?_
  exact J_tret hx hr dJ1_charAt_3b067_14 s4 (Nat.le_refl 0) (Nat.le_refl 0) ⟨rfl, rfl, rfl⟩
theorem kJ0_charAt_5068e {l : Launch} {Γ : Gl} {B : Bs} {G : Gf} {sz : Nat} {d j : Nat} {i : Int32} (hd : d < 9) (hj : idx i (slen d) = some j) (hC : GC Γ B) : CtR l Γ yJ0_charAt_5068e cJ0_charAt_5068e 2 (some .char) 3 [.ref (B.2 (20 + d)), .int i] G sz (.int (sby d j)) := by
  refine Ct.of rfl (Nat.le_of_ble_eq_true rfl) fun X hx hr hl hΓ hnm => ?_
  subst hl hΓ
  show J X 2 G sz 0 0 0 [some (.ref (B.2 (20 + d))), some (.int i)] []
  have hc := hx.kc hC
  obtain ⟨hW1, hW2, hW3, hW4, hW5, hS, hZ, hQ, -⟩ := hc
  obtain ⟨s1, s2, s3, s4⟩ := slen_pos d hd j (idx_lt hj)
  refine J_al4 hx rfl rfl dJ0_charAt_5068e_0 ?_
  refine J_callO hx (kJ0_isLatin1_aae02 hd hC) mj_492 lk_J0_isLatin1_aae02 (hS d hd).1 (rest := []) rfl rfl (by decide) (by decide) (Nat.le_of_ble_eq_true rfl) (Nat.le_refl 0) (Nat.le_refl 0) dJ0_charAt_5068e_1 ?_
  refine J_if_eq hx 16 dJ0_charAt_5068e_4 rfl (fun h => absurd h (by decide)) (fun _ => ?_)
  refine J_al4 hx rfl rfl dJ0_charAt_5068e_7 ?_
  refine J_of hx (hS d hd).2.2.1 fj_9 dJ0_charAt_5068e_8 ?_
  refine J_il4 hx rfl rfl dJ0_charAt_5068e_11 ?_
  refine J_rdS hx (kJ1_charAt_3b067 hd hj hC) mj_495 lk_J1_charAt_3b067 (rest := []) rfl rfl (by decide) (by decide) (Nat.le_of_ble_eq_true rfl) (Nat.le_refl 0) (Nat.le_refl 0) dJ0_charAt_5068e_12 ?_
  exact J_tret hx hr dJ0_charAt_5068e_15 s4 (Nat.le_refl 0) (Nat.le_refl 0) ⟨rfl, rfl, rfl⟩
theorem fj_7 : Cond.fieldLink RJx29ce0 7 "java/lang/Enum" "ordinal" "I" ∈ WT := (wtm_8 163 (by decide +kernel) (by decide +kernel))
theorem kJx29ce0_ordinal_8abf5 {l : Launch} {Γ : Gl} {B : Bs} {G : Gf} {sz : Nat} {d : Nat} (hd : d < 9) (hC : GC Γ B) : CtR l Γ yJx29ce0_ordinal_8abf5 cJx29ce0_ordinal_8abf5 1 (some .int) 0 [.ref (B.2 d)] G sz (.int (Int32.ofNat d)) := by
  refine Ct.of rfl (Nat.le_of_ble_eq_true rfl) fun X hx hr hl hΓ hnm => ?_
  subst hl hΓ
  show J X 1 G sz 0 0 0 [some (.ref (B.2 d))] []
  have hc := hx.kc hC
  obtain ⟨hW1, hW2, hW3, hW4, hW5, hS, hZ, hQ, -⟩ := hc
  refine J_al4 hx rfl rfl dJx29ce0_ordinal_8abf5_0 ?_
  refine J_of hx (hW3 d hd).2.1 fj_7 dJx29ce0_ordinal_8abf5_1 ?_
  exact J_tret hx hr dJx29ce0_ordinal_8abf5_4 rfl (Nat.le_refl 0) (Nat.le_refl 0) ⟨rfl, rfl, rfl⟩
theorem oU : ∀ w ∈ va_wsU RX12 334 "CrateTour$Word" yJx29ce0_ordinal_8abf5.cls ⟨"CrateTour$Word", "ordinal", "()I"⟩ yJx29ce0_ordinal_8abf5 [], w ∈ WT := by
  intro w hw
  unfold va_wsU at hw
  rw [List.append_nil] at hw
  rcases List.mem_cons.mp hw with h | hw
  · rw [h]; exact (wtm_3 87 (by decide +kernel) (by decide +kernel))
  rcases List.mem_cons.mp hw with h | hw
  · rw [h]; exact (wtm_3 88 (by decide +kernel) (by decide +kernel))
  rcases List.mem_cons.mp hw with h | hw
  · rw [h]; exact (wtm_3 90 (by decide +kernel) (by decide +kernel))
  rcases List.mem_cons.mp hw with h | hw
  · rw [h]; exact (wtm_3 91 (by decide +kernel) (by decide +kernel))
  rcases List.mem_cons.mp hw with h | hw
  · rw [h]; exact (wtm_1 12 (by decide +kernel) (by decide +kernel))
  cases hw
theorem oC : Cond.code yJx29ce0_ordinal_8abf5 cJx29ce0_ordinal_8abf5 1 (some .int) ∈ WT := (wtm_3 92 (by decide +kernel) (by decide +kernel))
end
section
/-! METHODS THAT MAY THROW. Written by wip/whole/gen_throw.py -/
theorem th_b1 : ∀ w ∈ (vx_atS RX12 316 "java/lang/IndexOutOfBoundsException" thN).filter (fun w => !goodWord w), w ∈ thB := by decide +kernel
theorem th_g1 : ∀ w ∈ (vx_atS RX12 316 "java/lang/IndexOutOfBoundsException" thN).filter goodWord, w ∈ tables_1 := by decide +kernel
theorem th_o1 : ∀ w ∈ vx_atS RX12 316 "java/lang/IndexOutOfBoundsException" thN, vx_ot w = true := by decide +kernel
theorem th_i1 : Cond.initialized "java/lang/IndexOutOfBoundsException" ∈ WT := (wtm_1 18 (by decide +kernel) (by decide +kernel))
theorem th_b2 : ∀ w ∈ (vx_atS RX12 323 "java/lang/IllegalArgumentException" thN).filter (fun w => !goodWord w), w ∈ thB := by decide +kernel
theorem th_g2 : ∀ w ∈ (vx_atS RX12 323 "java/lang/IllegalArgumentException" thN).filter goodWord, w ∈ tables_1 := by decide +kernel
theorem th_o2 : ∀ w ∈ vx_atS RX12 323 "java/lang/IllegalArgumentException" thN, vx_ot w = true := by decide +kernel
theorem th_i2 : Cond.initialized "java/lang/IllegalArgumentException" ∈ WT := (wtm_1 19 (by decide +kernel) (by decide +kernel))
theorem th_b3 : ∀ w ∈ (vx_atS RX12 328 "java/lang/IllegalStateException" thN).filter (fun w => !goodWord w), w ∈ thB := by decide +kernel
theorem th_g3 : ∀ w ∈ (vx_atS RX12 328 "java/lang/IllegalStateException" thN).filter goodWord, w ∈ tables_1 := by decide +kernel
theorem th_o3 : ∀ w ∈ vx_atS RX12 328 "java/lang/IllegalStateException" thN, vx_ot w = true := by decide +kernel
theorem th_i3 : Cond.initialized "java/lang/IllegalStateException" ∈ WT := (wtm_1 20 (by decide +kernel) (by decide +kernel))
theorem WT_t {w : Cond} (h : w ∈ tables_1) (g : goodWord w = true) : w ∈ WT := List.mem_filter.mpr ⟨List.mem_append_right _ h, g⟩
def XcO (Γ : Gl) (G : Gf) (EX : String → Prop) : String → State → State → Prop := fun E _ t => EX E ∧ ∃ sz' : Nat, Hp Γ G sz' t.heap
/-- a contract of one that returns with Ψ, or throws one of EX, nothing changed -/
def CtX (l : Launch) (Γ : Gl) (y : MethodName) (cc : ByteArray) (nL : Nat) (ret : Option FieldType) (t : Nat) (av : List Value) (G : Gf) (sz : Nat) (Ψ : Option Value → Gf → Nat → Prop) (EX : String → Prop) (mc ms : Nat) : Prop :=
  vx_Met l y (wy y cc nL ret) (rmL t mc ms) (va_Pc av (fun U => KV Γ U ∧ Hp Γ G sz U.heap)) (QcO Γ Ψ) (XcO Γ G EX) mc ms (aA Γ)
/-- the frame of a body that may throw -/
def Xe (X : Cx) (G : Gf) (sz : Nat) (Ψ : Option Value → Gf → Nat → Prop) (EX : String → Prop) (mc ms : Nat) : Prop :=
  (∀ x ∈ (xc X).exceptionTable.toList, False) ∧ xQ X = vx_MQ (xb X) (QcO (xΓ X) Ψ) (XcO (xΓ X) G EX) (xa X) (xs X) mc ms (aA (xΓ X)) ∧ (xl X).stackTraces = false ∧ Hp (xΓ X) G sz (xs X).heap
theorem CtX.of {l : Launch} {Γ : Gl} {y : MethodName} {cc : ByteArray} {nL : Nat} {ret : Option FieldType} {t : Nat} {av : List Value} {G : Gf} {sz : Nat} {Ψ : Option Value → Gf → Nat → Prop} {EX : String → Prop} {mc ms : Nat} (htr : l.stackTraces = false) (hy : plainName y.cls = true) (hlen : (lg_sl av).length ≤ nL)
    (body : ∀ X : Cx, Fx X cc nL y.cls t mc ms → Rt X ret mc ms Ψ → Xe X G sz Ψ EX mc ms → xl X = l → xΓ X = Γ → (xM X).name = y.name → J X nL G sz 0 0 0 (initO av nL) []) : CtX l Γ y cc nL ret t av G sz Ψ EX mc ms := by
  refine vx_ofW (cc := cc) (maxL := nL) (ret := ret) hy rfl ?_
  intro p e s m args below meth c s₁ B hml htab hv
  obtain ⟨rfl, hK, hH⟩ := hv
  have hts := atoms_spec (ws := wy y cc nL ret) B.pre
  have hown : s.vm.findClass y.cls = some m.cls := findClass_of_methodNamed B.named
  have hin : meth.name = y.name := (name_of_methodNamed B.named B.method).1
  have hl := lv_entry av (n := nL) hlen
  have key := body (p, l, e, rmL t mc ms, s, m, av.toArray, below, meth, c, vx_MQ below (QcO Γ Ψ) (XcO Γ G EX) av.toArray s mc ms (aA Γ), Γ) ⟨B.exec, B.bytes, hml, hown, wy_WT hts, hK, rfl, B.notSynchronized⟩ ⟨B.returns, fun H locs g h => vx_ret h⟩ ⟨htab, rfl, htr, hH⟩ rfl rfl hin s.heap [] _ hH (fun q hq => nomatch hq) ⟨hl.1, hl.2.1, fun i v h => hl.2.2 (i, v) (by have := initO_get av nL i 0 v h; rwa [Nat.zero_add] at this)⟩
  rw [lg_entry_eq]
  exact key
theorem Hp.grow {Γ : Gl} {G : Gf} {sz : Nat} {H H1 : Heap} (h : Hp Γ G sz H) (z : H.size ≤ H1.size) (oq : ∀ q : Nat, q < H.size → H1[q]? = H[q]?) : Hp Γ G H1.size H1 :=
  ⟨rfl, Nat.le_trans h.2.1 z, fun q hq => (oq q (Nat.lt_of_lt_of_le hq h.2.1)).trans (h.2.2.1 q hq), fun a e he => ⟨(h.2.2.2 a e he).1.kept (oq a (h.2.2.2.lt he)), (h.2.2.2 a e he).2⟩⟩
section JX
variable {X : Cx} {cc : ByteArray} {nL : Nat} {t mc ms : Nat} {G : Gf} {sz k n pc : Nat} {ls : List (Option Value)} {st : List Value} {B : Bs} {Ψ : Option Value → Gf → Nat → Prop} {EX : String → Prop}
theorem J_thr (hx : Fx X cc nL RX12 t mc ms) (hC : GC (xΓ X) B) (he : Xe X G sz Ψ EX mc ms) {cls text : String} {ik is ic sa : Nat} (hfit : Bundle.fit cls = true) (hk : Cond.classLink RX12 ik cls ∈ WT) (hini : Cond.initialized cls ∈ WT) (hstr : vk_R RX12 is text sa (xs X))
    (hg : ∀ w ∈ (vx_atS RX12 ic cls thN).filter goodWord, w ∈ tables_1) (hb : ∀ w ∈ (vx_atS RX12 ic cls thN).filter (fun w => !goodWord w), w ∈ thB) (hot : ∀ w ∈ vx_atS RX12 ic cls thN, vx_ot w = true)
    (d0 : decode cc pc = .ok (.new ik, 3)) (d3 : decode cc (pc + 3) = .ok (.dup, 1)) (d4 : decode cc (pc + 4) = .ok (.ldc_w is, 3)) (d7 : decode cc (pc + 7) = .ok (.invokespecial ic, 3)) (d10 : decode cc (pc + 10) = .ok (.athrow, 1))
    (ht : 5 < t) (hw : (st.map fun v => v.category).sum + 82 ≤ 30 * t) (hkc : k + 1 ≤ mc) (hns : n + 6 ≤ ms) (hEX : EX cls) : J X nL G sz k n pc ls st := fun H locs lsA hH hlc hv2 => by
  have hts := hx.2.2.2.2.1
  have hR := hx.2.2.2.2.2.2.1
  have hc := (hx.kc hC).thr
  have hs := he.2.2.2
  have hat : ∀ w ∈ vx_atS RX12 ic cls thN, w.before (xa X) (xs X) = true := vx_hat (B := thB) (fun w hw => hts _ (WT_t (hg w hw) (List.mem_filter.mp hw).2)) hb (fun w hw => by
    have h1 := hc.2.2.2.2.2 w hw
    have h2 : w.onTables = true := (by decide +kernel : ∀ w ∈ thB, w.onTables = true) w hw
    exact va_Nw.use h2 h1)
  have hgood : ∀ w ∈ Cond.classLink RX12 ik cls :: Cond.initialized cls :: vx_atS RX12 ic cls thN, vx_ot w = true := by
    intro w hw
    rcases List.mem_cons.mp hw with h | hw
    · rw [h]; rfl
    rcases List.mem_cons.mp hw with h | hw
    · rw [h]; rfl
    exact hot w hw
  have hU := hc.2.2.2.1.kept (Hp.old hs)
  have hN := hc.2.2.2.2.1.kept (Hp.old hs)
  have hS : va_S (aA (xΓ X)) (xs X).heap H locs := ⟨by rw [hs.1, hH.1]; exact Nat.le_refl _, fun q hq hA => by
    have hq' : q < (xΓ X).2.2.1.size := Nat.not_le.mp hA
    rw [hH.2.2.1 q hq', hs.2.2.1 q hq'], hlc⟩
  show W (xp X) (xl X) (xe X) (xR X) (xs X) (xm X) (xa X) (xb X) (xM X) (xc X) H locs k n (xQ X) (F0 (xm X) pc lsA st)
  rw [he.2.1]
  refine vx_throwSW (A := aA (xΓ X)) hx.1 hx.2.1 he.2.2.1 hx.2.2.2.1 hfit (by decide +kernel) (hts _ hk) (hts _ hini) hstr hat hgood hU hN hS (hv2.1.trans hx.2.2.1.symm) d0 d3 d4 d7 d10 (fun x hx' => (he.1 x hx').elim) (by rw [hR]; exact ht) (by rw [hR]; exact hw) (by rw [hR]; exact hkc) (by rw [hR]; exact hns) hx.2.2.2.2.2.2.2 (fun U _ hz hq => ⟨hEX, U.heap.size, hH.grow hz hq⟩) hlc hkc hns
theorem J_callXS {own : String} (hx : Fx X cc nL own t mc ms) {sz0 : Nat} {G0 : Gf} (he : Xe X G0 sz0 Ψ EX mc ms) {idx : Nat} {y : MethodName} {bytes : ByteArray} {maxL : Nat} {ret : Option FieldType} {nA t' mc' ms' : Nat} {As rest : List Value} {Ψ' : Option Value → Gf → Nat → Prop} {EX' : String → Prop}
    (ct : CtX (xl X) (xΓ X) y bytes maxL ret t' As G0 sz Ψ' EX' mc' ms') (hml : Cond.methodLink own idx y ∈ WT) (hm : LkS y bytes maxL ret nA)
    (hst : st = As.reverse ++ rest) (hn : As.length = nA) (ht : t' + 1 ≤ t) (hlo : 19 + maxL + 30 * t' ≤ 30 * t) (hw : (rest.map fun v => v.category).sum ≤ 8) (hk : k + mc' ≤ mc) (hs : n + ms' ≤ ms) (hd : decode cc pc = .ok (.invokestatic idx, 3))
    (hEX : ∀ E, EX' E → EX E) (kk : ∀ (r : Option Value) (G' : Gf) (sz' : Nat), Ψ' r G' sz' → J X nL G' sz' (k + mc') (n + ms') (pc + 3) ls (r.toList ++ rest)) : J X nL G0 sz k n pc ls st := fun H locs lsA hH hlc hv2 => by
  have hts := hx.2.2.2.2.1
  have hK := hx.2.2.2.2.2.1
  have hR := hx.2.2.2.2.2.2.1
  intro T hT Xs
  rcases vx_runS (As := As) (fix_of hx) ct ⟨callB_J hx hml hm.1 ht hlo, hts _ hm.2⟩ ⟨Pc_blind, fun U hU hW => ⟨rfl, hK.warm hW, by rw [hU]; exact hH⟩⟩ (H := H) (locs := locs) (cells := k) (slots := n) (g := F0 (xm X) pc lsA st) rfl hn hv2.1 hst (by show 2 * 0 + _ ≤ 8; omega) hd (by rw [hR]; exact ⟨hk, hs⟩) T hT Xs with ⟨v, st₀, U, T', L, h0, X', hL, e1, e2, ⟨r, G', sz', hv, hΨ, hH'⟩, stp⟩ | ⟨q, st₀, U, T', L, E, ce, h0, X', hL, e1, e2, ⟨hE, sz', hH'⟩, hce, hcv, hcl, stp⟩
  · cases hv
    obtain ⟨t2, a1, b1⟩ := kk _ G' sz' hΨ T'.heap (locs ++ L) lsA (by rw [e1]; exact hH') (fun q hq => by
      rcases List.mem_append.mp hq with h | h
      · exact hlc q h
      · exact hL q h) hv2 T' rfl X'
    exact ⟨t2, stp t2 a1, b1⟩
  · have := vx_out (Qc := QcO (xΓ X) Ψ) (XC := XcO (xΓ X) G0 EX) (pc := pc) (ls := lsA) (rest := rest) (E := E) (ce := ce) (q := q) (H := T'.heap) (locs := locs ++ L) (cells := k + mc') (slots := n + ms') (mc := mc) (ms := ms) (free := aA (xΓ X)) (p := xp X) (l := xl X) (e := xe X) (R := xR X) (s := xs X) (m := xm X) (args := xa X) (below := xb X) (meth := xM X) (c := xc X) (fun x hx' => (he.1 x hx').elim) hx.2.2.2.2.2.2.2 (by rw [e1]; exact hce) hcv hcl (fun V hV _ => ⟨hEX E hE, sz', by rw [hV, e1]; exact hH'⟩) (fun z hz => by
      rcases List.mem_append.mp hz with h | h
      · exact hlc z h
      · exact hL z h) hk hs
    obtain ⟨t2, a1, b1⟩ := this T' rfl X'
    refine ⟨t2, stp.trans a1, ?_⟩
    rw [he.2.1]
    exact b1
end JX
def eIO : String := "java/lang/IndexOutOfBoundsException"
def eIA : String := "java/lang/IllegalArgumentException"
def eIS : String := "java/lang/IllegalStateException"
/-- which exception a number stands for -/
def tiE (x : Int32) (E : String) : Prop := (x = 1 ∧ E = eIO) ∨ (x = 2 ∧ E = eIA) ∨ (x = 3 ∧ E = eIS)
def exq {β : Type} : Sum Int32 β → String → Prop
  | .inl k, E => tiE k E
  | .inr _, _ => False
def tiF (x : Int32) : Prop := ¬ x = 1 ∧ ¬ x = 2 ∧ ¬ x = 3
/-- the mirror of throwIfWrong: what throws, or goes on -/
def tiw {β : Type} (x : Int32) (A : Option (Sum Int32 β)) : Option (Sum Int32 β) := if x = 1 then some (.inl 1) else if x = 2 then some (.inl 2) else if x = 3 then some (.inl 3) else A
theorem tiw_x {β : Type} {x : Int32} {A : Option (Sum Int32 β)} {res : Sum Int32 β} (h : tiw x A = some res) : ∀ E, tiE x E → exq res E := by
  intro E hE
  unfold tiw at h
  rcases hE with ⟨e, hE⟩ | ⟨e, hE⟩ | ⟨e, hE⟩
  · subst e; rw [if_pos rfl] at h; cases h; exact Or.inl ⟨rfl, hE⟩
  · subst e; rw [if_neg (by decide), if_pos rfl] at h; cases h; exact Or.inr (Or.inl ⟨rfl, hE⟩)
  · subst e; rw [if_neg (by decide), if_neg (by decide), if_pos rfl] at h; cases h; exact Or.inr (Or.inr ⟨rfl, hE⟩)
theorem tiw_n {β : Type} {x : Int32} {A : Option (Sum Int32 β)} {res : Sum Int32 β} (h : tiw x A = some res) (hx : tiF x) : A = some res := by
  unfold tiw at h
  rw [if_neg hx.1, if_neg hx.2.1, if_neg hx.2.2] at h
  exact h
theorem dX12_throwIfWrong_0 : decode cX12_throwIfWrong 0 = .ok (.iload_n 0, 1) := by decide +kernel
theorem dX12_throwIfWrong_1 : decode cX12_throwIfWrong 1 = .ok (.iconst 1, 1) := by decide +kernel
theorem dX12_throwIfWrong_2 : decode cX12_throwIfWrong 2 = .ok (.if_icmp .ne 14, 3) := by decide +kernel
theorem dX12_throwIfWrong_5 : decode cX12_throwIfWrong 5 = .ok (.new 312, 3) := by decide +kernel
theorem dX12_throwIfWrong_8 : decode cX12_throwIfWrong 8 = .ok (.dup, 1) := by decide +kernel
theorem dX12_throwIfWrong_9 : decode cX12_throwIfWrong 9 = .ok (.ldc_w 314, 3) := by decide +kernel
theorem dX12_throwIfWrong_12 : decode cX12_throwIfWrong 12 = .ok (.invokespecial 316, 3) := by decide +kernel
theorem dX12_throwIfWrong_15 : decode cX12_throwIfWrong 15 = .ok (.athrow, 1) := by decide +kernel
theorem dX12_throwIfWrong_16 : decode cX12_throwIfWrong 16 = .ok (.iload_n 0, 1) := by decide +kernel
theorem dX12_throwIfWrong_17 : decode cX12_throwIfWrong 17 = .ok (.iconst 2, 1) := by decide +kernel
theorem dX12_throwIfWrong_18 : decode cX12_throwIfWrong 18 = .ok (.if_icmp .ne 14, 3) := by decide +kernel
theorem dX12_throwIfWrong_21 : decode cX12_throwIfWrong 21 = .ok (.new 319, 3) := by decide +kernel
theorem dX12_throwIfWrong_24 : decode cX12_throwIfWrong 24 = .ok (.dup, 1) := by decide +kernel
theorem dX12_throwIfWrong_25 : decode cX12_throwIfWrong 25 = .ok (.ldc_w 321, 3) := by decide +kernel
theorem dX12_throwIfWrong_28 : decode cX12_throwIfWrong 28 = .ok (.invokespecial 323, 3) := by decide +kernel
theorem dX12_throwIfWrong_31 : decode cX12_throwIfWrong 31 = .ok (.athrow, 1) := by decide +kernel
theorem dX12_throwIfWrong_32 : decode cX12_throwIfWrong 32 = .ok (.iload_n 0, 1) := by decide +kernel
theorem dX12_throwIfWrong_33 : decode cX12_throwIfWrong 33 = .ok (.iconst 3, 1) := by decide +kernel
theorem dX12_throwIfWrong_34 : decode cX12_throwIfWrong 34 = .ok (.if_icmp .ne 14, 3) := by decide +kernel
theorem dX12_throwIfWrong_37 : decode cX12_throwIfWrong 37 = .ok (.new 324, 3) := by decide +kernel
theorem dX12_throwIfWrong_40 : decode cX12_throwIfWrong 40 = .ok (.dup, 1) := by decide +kernel
theorem dX12_throwIfWrong_41 : decode cX12_throwIfWrong 41 = .ok (.ldc_w 326, 3) := by decide +kernel
theorem dX12_throwIfWrong_44 : decode cX12_throwIfWrong 44 = .ok (.invokespecial 328, 3) := by decide +kernel
theorem dX12_throwIfWrong_47 : decode cX12_throwIfWrong 47 = .ok (.athrow, 1) := by decide +kernel
theorem dX12_throwIfWrong_48 : decode cX12_throwIfWrong 48 = .ok (.return_, 1) := by decide +kernel
theorem kX12_throwIfWrong {l : Launch} {Γ : Gl} {B : Bs} {G : Gf} {sz : Nat} {l0 : Int32} (htr : l.stackTraces = false) (hC : GC Γ B) : CtX l Γ yX12_throwIfWrong cX12_throwIfWrong 1 none 6 [.int l0] G sz (fun r G' sz' => tiF l0 ∧ r = none ∧ G' = G ∧ sz' = sz) (tiE l0) 1 6 := by
  refine CtX.of htr rfl (Nat.le_of_ble_eq_true rfl) fun X hx hr he hl hΓ hnm => ?_
  subst hl hΓ
  show J X 1 G sz 0 0 0 [some (.int l0)] []
  refine J_il4 hx rfl rfl dX12_throwIfWrong_0 ?_
  refine J_iconst hx (1 : Int32) dX12_throwIfWrong_1 rfl ?_
  refine J_icmp_ne hx 16 dX12_throwIfWrong_2 rfl (fun h1 => ?_) (fun h1 => ?_)
  · refine J_il4 hx rfl rfl dX12_throwIfWrong_16 ?_
    refine J_iconst hx (2 : Int32) dX12_throwIfWrong_17 rfl ?_
    refine J_icmp_ne hx 32 dX12_throwIfWrong_18 rfl (fun h2 => ?_) (fun h2 => ?_)
    · refine J_il4 hx rfl rfl dX12_throwIfWrong_32 ?_
      refine J_iconst hx (3 : Int32) dX12_throwIfWrong_33 rfl ?_
      refine J_icmp_ne hx 48 dX12_throwIfWrong_34 rfl (fun h3 => ?_) (fun h3 => ?_)
      · exact J_vret hx hr dX12_throwIfWrong_48 (Nat.zero_le _) (Nat.zero_le _) ⟨⟨h1, h2, h3⟩, rfl, rfl, rfl⟩
      · exact J_thr hx hC he (by decide +kernel) cl_X12_324 th_i3 (hx.kc hC).thr.2.2.1 th_g3 th_b3 th_o3 dX12_throwIfWrong_37 dX12_throwIfWrong_40 dX12_throwIfWrong_41 dX12_throwIfWrong_44 dX12_throwIfWrong_47 (by decide) (Nat.le_of_ble_eq_true rfl) (Nat.le_refl 1) (Nat.le_refl 6) (Or.inr (Or.inr ⟨h3, rfl⟩))
    · exact J_thr hx hC he (by decide +kernel) cl_X12_319 th_i2 (hx.kc hC).thr.2.1 th_g2 th_b2 th_o2 dX12_throwIfWrong_21 dX12_throwIfWrong_24 dX12_throwIfWrong_25 dX12_throwIfWrong_28 dX12_throwIfWrong_31 (by decide) (Nat.le_of_ble_eq_true rfl) (Nat.le_refl 1) (Nat.le_refl 6) (Or.inr (Or.inl ⟨h2, rfl⟩))
  · exact J_thr hx hC he (by decide +kernel) cl_X12_312 th_i1 (hx.kc hC).thr.1 th_g1 th_b1 th_o1 dX12_throwIfWrong_5 dX12_throwIfWrong_8 dX12_throwIfWrong_9 dX12_throwIfWrong_12 dX12_throwIfWrong_15 (by decide) (Nat.le_of_ble_eq_true rfl) (Nat.le_refl 1) (Nat.le_refl 6) (Or.inl ⟨h1, rfl⟩)
end
