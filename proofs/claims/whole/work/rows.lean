section
-- ===== PART A: goes FIRST, ahead of the names: the tables' words, and 'selects' of the private methods out of them =====
/-- a private method of a class that the tables say can be made, by its rows of tables_1 -/
def lw_okq (q : MethodName × Nat) : Prop := (q.1.cls ≠ "java/lang/invoke/MethodHandle" ∧ q.1.cls ≠ "java/lang/invoke/VarHandle") ∧ Cond.instantiable q.1.cls q.2 ∈ tables_1 ∧ Cond.privateMethod q.1 ∈ tables_1 ∧ Cond.instanceMethod q.1 ∈ tables_1
theorem lw_p0 : lw_okq (⟨"CrateTour$CommandText", "skipSpaces", "()V"⟩, 6) := ⟨⟨by decide +kernel, by decide +kernel⟩, List.mem_of_getElem? (i := 372) (by decide +kernel), List.mem_of_getElem? (i := 449) (by decide +kernel), List.mem_of_getElem? (i := 450) (by decide +kernel)⟩
theorem lw_p1 : lw_okq (⟨"CrateTour$CommandText", "readWord", "()Z"⟩, 6) := ⟨⟨by decide +kernel, by decide +kernel⟩, List.mem_of_getElem? (i := 372) (by decide +kernel), List.mem_of_getElem? (i := 453) (by decide +kernel), List.mem_of_getElem? (i := 454) (by decide +kernel)⟩
theorem lw_p2 : lw_okq (⟨"CrateTour$CommandText", "isWordAt", "(Ljava/lang/String;I)Z"⟩, 6) := ⟨⟨by decide +kernel, by decide +kernel⟩, List.mem_of_getElem? (i := 372) (by decide +kernel), List.mem_of_getElem? (i := 459) (by decide +kernel), List.mem_of_getElem? (i := 460) (by decide +kernel)⟩
theorem lw_p3 : lw_okq (⟨"CrateTour$CommandText", "failAt", "(I)Z"⟩, 6) := ⟨⟨by decide +kernel, by decide +kernel⟩, List.mem_of_getElem? (i := 372) (by decide +kernel), List.mem_of_getElem? (i := 511) (by decide +kernel), List.mem_of_getElem? (i := 512) (by decide +kernel)⟩
theorem lw_p4 : lw_okq (⟨"CrateTour$CommandText", "readNumbers", "()Z"⟩, 6) := ⟨⟨by decide +kernel, by decide +kernel⟩, List.mem_of_getElem? (i := 372) (by decide +kernel), List.mem_of_getElem? (i := 515) (by decide +kernel), List.mem_of_getElem? (i := 516) (by decide +kernel)⟩
theorem lw_p5 : lw_okq (⟨"CrateTour$CommandText", "readNumber", "(I)Z"⟩, 6) := ⟨⟨by decide +kernel, by decide +kernel⟩, List.mem_of_getElem? (i := 372) (by decide +kernel), List.mem_of_getElem? (i := 519) (by decide +kernel), List.mem_of_getElem? (i := 520) (by decide +kernel)⟩
theorem lw_p6 : lw_okq (⟨"CrateTour$CommandText", "isAtDigit", "()Z"⟩, 6) := ⟨⟨by decide +kernel, by decide +kernel⟩, List.mem_of_getElem? (i := 372) (by decide +kernel), List.mem_of_getElem? (i := 523) (by decide +kernel), List.mem_of_getElem? (i := 524) (by decide +kernel)⟩
theorem lw_p7 : lw_okq (⟨"CrateTour$CommandText", "readSemicolon", "()Z"⟩, 6) := ⟨⟨by decide +kernel, by decide +kernel⟩, List.mem_of_getElem? (i := 372) (by decide +kernel), List.mem_of_getElem? (i := 527) (by decide +kernel), List.mem_of_getElem? (i := 528) (by decide +kernel)⟩
theorem lw_p8 : lw_okq (⟨"CrateTour$UndoStack", "dropOldest", "()V"⟩, 2) := ⟨⟨by decide +kernel, by decide +kernel⟩, List.mem_of_getElem? (i := 355) (by decide +kernel), List.mem_of_getElem? (i := 535) (by decide +kernel), List.mem_of_getElem? (i := 536) (by decide +kernel)⟩
theorem lw_p9 : lw_okq (⟨"CrateTour", "wrongWith", "(LCrateTour$Word;[I)I"⟩, 7) := ⟨⟨by decide +kernel, by decide +kernel⟩, List.mem_of_getElem? (i := 29) (by decide +kernel), List.mem_of_getElem? (i := 562) (by decide +kernel), List.mem_of_getElem? (i := 563) (by decide +kernel)⟩
theorem lw_p10 : lw_okq (⟨"CrateTour$Checks", "mayBeOpened", "(I)Z"⟩, 1) := ⟨⟨by decide +kernel, by decide +kernel⟩, List.mem_of_getElem? (i := 309) (by decide +kernel), List.mem_of_getElem? (i := 582) (by decide +kernel), List.mem_of_getElem? (i := 583) (by decide +kernel)⟩
theorem lw_p11 : lw_okq (⟨"CrateTour$Checks", "holdsOpenCrate", "(I)Z"⟩, 1) := ⟨⟨by decide +kernel, by decide +kernel⟩, List.mem_of_getElem? (i := 309) (by decide +kernel), List.mem_of_getElem? (i := 618) (by decide +kernel), List.mem_of_getElem? (i := 619) (by decide +kernel)⟩
theorem lw_p12 : lw_okq (⟨"CrateTour$Checks", "mayBeNested", "(II)Z"⟩, 1) := ⟨⟨by decide +kernel, by decide +kernel⟩, List.mem_of_getElem? (i := 309) (by decide +kernel), List.mem_of_getElem? (i := 626) (by decide +kernel), List.mem_of_getElem? (i := 627) (by decide +kernel)⟩
theorem lw_p13 : lw_okq (⟨"CrateTour$Checks", "reasonOfCrate", "(II)I"⟩, 1) := ⟨⟨by decide +kernel, by decide +kernel⟩, List.mem_of_getElem? (i := 309) (by decide +kernel), List.mem_of_getElem? (i := 670) (by decide +kernel), List.mem_of_getElem? (i := 671) (by decide +kernel)⟩
theorem lw_p14 : lw_okq (⟨"CrateTour$Checks", "reasonOfWorks", "(II)I"⟩, 1) := ⟨⟨by decide +kernel, by decide +kernel⟩, List.mem_of_getElem? (i := 309) (by decide +kernel), List.mem_of_getElem? (i := 678) (by decide +kernel), List.mem_of_getElem? (i := 679) (by decide +kernel)⟩
theorem lw_p15 : lw_okq (⟨"CrateTour$Checks", "isAboveCap", "(II)Z"⟩, 1) := ⟨⟨by decide +kernel, by decide +kernel⟩, List.mem_of_getElem? (i := 309) (by decide +kernel), List.mem_of_getElem? (i := 692) (by decide +kernel), List.mem_of_getElem? (i := 693) (by decide +kernel)⟩
def lw_privs_1 : List (MethodName × Nat) := [(⟨"CrateTour$CommandText", "skipSpaces", "()V"⟩, 6), (⟨"CrateTour$CommandText", "readWord", "()Z"⟩, 6), (⟨"CrateTour$CommandText", "isWordAt", "(Ljava/lang/String;I)Z"⟩, 6), (⟨"CrateTour$CommandText", "failAt", "(I)Z"⟩, 6), (⟨"CrateTour$CommandText", "readNumbers", "()Z"⟩, 6), (⟨"CrateTour$CommandText", "readNumber", "(I)Z"⟩, 6), (⟨"CrateTour$CommandText", "isAtDigit", "()Z"⟩, 6), (⟨"CrateTour$CommandText", "readSemicolon", "()Z"⟩, 6), (⟨"CrateTour$UndoStack", "dropOldest", "()V"⟩, 2), (⟨"CrateTour", "wrongWith", "(LCrateTour$Word;[I)I"⟩, 7), (⟨"CrateTour$Checks", "mayBeOpened", "(I)Z"⟩, 1), (⟨"CrateTour$Checks", "holdsOpenCrate", "(I)Z"⟩, 1), (⟨"CrateTour$Checks", "mayBeNested", "(II)Z"⟩, 1), (⟨"CrateTour$Checks", "reasonOfCrate", "(II)I"⟩, 1), (⟨"CrateTour$Checks", "reasonOfWorks", "(II)I"⟩, 1), (⟨"CrateTour$Checks", "isAboveCap", "(II)Z"⟩, 1)]
theorem lw_r1 : ∀ q ∈ lw_privs_1, lw_okq q := List.forall_mem_cons.mpr ⟨lw_p0, List.forall_mem_cons.mpr ⟨lw_p1, List.forall_mem_cons.mpr ⟨lw_p2, List.forall_mem_cons.mpr ⟨lw_p3, List.forall_mem_cons.mpr ⟨lw_p4, List.forall_mem_cons.mpr ⟨lw_p5, List.forall_mem_cons.mpr ⟨lw_p6, List.forall_mem_cons.mpr ⟨lw_p7, List.forall_mem_cons.mpr ⟨lw_p8, List.forall_mem_cons.mpr ⟨lw_p9, List.forall_mem_cons.mpr ⟨lw_p10, List.forall_mem_cons.mpr ⟨lw_p11, List.forall_mem_cons.mpr ⟨lw_p12, List.forall_mem_cons.mpr ⟨lw_p13, List.forall_mem_cons.mpr ⟨lw_p14, List.forall_mem_cons.mpr ⟨lw_p15, fun _ h => absurd h List.not_mem_nil⟩⟩⟩⟩⟩⟩⟩⟩⟩⟩⟩⟩⟩⟩⟩⟩
theorem lw_p16 : lw_okq (⟨"CrateTour$Checks", "reasonOfCourier", "(II)I"⟩, 1) := ⟨⟨by decide +kernel, by decide +kernel⟩, List.mem_of_getElem? (i := 309) (by decide +kernel), List.mem_of_getElem? (i := 717) (by decide +kernel), List.mem_of_getElem? (i := 718) (by decide +kernel)⟩
theorem lw_p17 : lw_okq (⟨"CrateTour$Checks", "needsCourier", "(I)Z"⟩, 1) := ⟨⟨by decide +kernel, by decide +kernel⟩, List.mem_of_getElem? (i := 309) (by decide +kernel), List.mem_of_getElem? (i := 722) (by decide +kernel), List.mem_of_getElem? (i := 723) (by decide +kernel)⟩
theorem lw_p18 : lw_okq (⟨"CrateTour", "perform", "(LCrateTour$Word;[I)I"⟩, 7) := ⟨⟨by decide +kernel, by decide +kernel⟩, List.mem_of_getElem? (i := 29) (by decide +kernel), List.mem_of_getElem? (i := 733) (by decide +kernel), List.mem_of_getElem? (i := 734) (by decide +kernel)⟩
theorem lw_p19 : lw_okq (⟨"CrateTour$Deeds", "passHour", "()V"⟩, 1) := ⟨⟨by decide +kernel, by decide +kernel⟩, List.mem_of_getElem? (i := 319) (by decide +kernel), List.mem_of_getElem? (i := 790) (by decide +kernel), List.mem_of_getElem? (i := 791) (by decide +kernel)⟩
theorem lw_p20 : lw_okq (⟨"CrateTour$Deeds", "arrive", "(I)V"⟩, 1) := ⟨⟨by decide +kernel, by decide +kernel⟩, List.mem_of_getElem? (i := 319) (by decide +kernel), List.mem_of_getElem? (i := 794) (by decide +kernel), List.mem_of_getElem? (i := 795) (by decide +kernel)⟩
theorem lw_p21 : lw_okq (⟨"CrateTour$Deeds", "endDay", "()V"⟩, 1) := ⟨⟨by decide +kernel, by decide +kernel⟩, List.mem_of_getElem? (i := 319) (by decide +kernel), List.mem_of_getElem? (i := 799) (by decide +kernel), List.mem_of_getElem? (i := 800) (by decide +kernel)⟩
theorem lw_p22 : lw_okq (⟨"CrateTour$Values", "worksOnTheirWay", "()I"⟩, 1) := ⟨⟨by decide +kernel, by decide +kernel⟩, List.mem_of_getElem? (i := 329) (by decide +kernel), List.mem_of_getElem? (i := 827) (by decide +kernel), List.mem_of_getElem? (i := 828) (by decide +kernel)⟩
theorem lw_p23 : lw_okq (⟨"CrateTour$Values", "openCrates", "()I"⟩, 1) := ⟨⟨by decide +kernel, by decide +kernel⟩, List.mem_of_getElem? (i := 329) (by decide +kernel), List.mem_of_getElem? (i := 832) (by decide +kernel), List.mem_of_getElem? (i := 833) (by decide +kernel)⟩
theorem lw_p24 : lw_okq (⟨"CrateTour", "withVenues", "(J)J"⟩, 7) := ⟨⟨by decide +kernel, by decide +kernel⟩, List.mem_of_getElem? (i := 29) (by decide +kernel), List.mem_of_getElem? (i := 836) (by decide +kernel), List.mem_of_getElem? (i := 837) (by decide +kernel)⟩
theorem lw_p25 : lw_okq (⟨"CrateTour$Values", "cratesAt", "(I)I"⟩, 1) := ⟨⟨by decide +kernel, by decide +kernel⟩, List.mem_of_getElem? (i := 329) (by decide +kernel), List.mem_of_getElem? (i := 846) (by decide +kernel), List.mem_of_getElem? (i := 847) (by decide +kernel)⟩
theorem lw_p26 : lw_okq (⟨"CrateTour$Values", "couriersAt", "(I)I"⟩, 1) := ⟨⟨by decide +kernel, by decide +kernel⟩, List.mem_of_getElem? (i := 329) (by decide +kernel), List.mem_of_getElem? (i := 850) (by decide +kernel), List.mem_of_getElem? (i := 851) (by decide +kernel)⟩
theorem lw_p27 : lw_okq (⟨"CrateTour", "withCrates", "(J)J"⟩, 7) := ⟨⟨by decide +kernel, by decide +kernel⟩, List.mem_of_getElem? (i := 29) (by decide +kernel), List.mem_of_getElem? (i := 854) (by decide +kernel), List.mem_of_getElem? (i := 855) (by decide +kernel)⟩
theorem lw_p28 : lw_okq (⟨"CrateTour$Values", "temperatureIn", "(LCrateTour$Crate;I)I"⟩, 1) := ⟨⟨by decide +kernel, by decide +kernel⟩, List.mem_of_getElem? (i := 329) (by decide +kernel), List.mem_of_getElem? (i := 866) (by decide +kernel), List.mem_of_getElem? (i := 867) (by decide +kernel)⟩
theorem lw_p29 : lw_okq (⟨"CrateTour$Values", "humidityIn", "(LCrateTour$Crate;I)I"⟩, 1) := ⟨⟨by decide +kernel, by decide +kernel⟩, List.mem_of_getElem? (i := 329) (by decide +kernel), List.mem_of_getElem? (i := 871) (by decide +kernel), List.mem_of_getElem? (i := 872) (by decide +kernel)⟩
theorem lw_p30 : lw_okq (⟨"CrateTour$Values", "hoursNeeded", "(LCrateTour$Crate;I)I"⟩, 1) := ⟨⟨by decide +kernel, by decide +kernel⟩, List.mem_of_getElem? (i := 329) (by decide +kernel), List.mem_of_getElem? (i := 875) (by decide +kernel), List.mem_of_getElem? (i := 876) (by decide +kernel)⟩
theorem lw_p31 : lw_okq (⟨"CrateTour$Forecast", "timeThrough", "(III)I"⟩, 3) := ⟨⟨by decide +kernel, by decide +kernel⟩, List.mem_of_getElem? (i := 339) (by decide +kernel), List.mem_of_getElem? (i := 898) (by decide +kernel), List.mem_of_getElem? (i := 899) (by decide +kernel)⟩
def lw_privs_2 : List (MethodName × Nat) := [(⟨"CrateTour$Checks", "reasonOfCourier", "(II)I"⟩, 1), (⟨"CrateTour$Checks", "needsCourier", "(I)Z"⟩, 1), (⟨"CrateTour", "perform", "(LCrateTour$Word;[I)I"⟩, 7), (⟨"CrateTour$Deeds", "passHour", "()V"⟩, 1), (⟨"CrateTour$Deeds", "arrive", "(I)V"⟩, 1), (⟨"CrateTour$Deeds", "endDay", "()V"⟩, 1), (⟨"CrateTour$Values", "worksOnTheirWay", "()I"⟩, 1), (⟨"CrateTour$Values", "openCrates", "()I"⟩, 1), (⟨"CrateTour", "withVenues", "(J)J"⟩, 7), (⟨"CrateTour$Values", "cratesAt", "(I)I"⟩, 1), (⟨"CrateTour$Values", "couriersAt", "(I)I"⟩, 1), (⟨"CrateTour", "withCrates", "(J)J"⟩, 7), (⟨"CrateTour$Values", "temperatureIn", "(LCrateTour$Crate;I)I"⟩, 1), (⟨"CrateTour$Values", "humidityIn", "(LCrateTour$Crate;I)I"⟩, 1), (⟨"CrateTour$Values", "hoursNeeded", "(LCrateTour$Crate;I)I"⟩, 1), (⟨"CrateTour$Forecast", "timeThrough", "(III)I"⟩, 3)]
theorem lw_r2 : ∀ q ∈ lw_privs_2, lw_okq q := List.forall_mem_cons.mpr ⟨lw_p16, List.forall_mem_cons.mpr ⟨lw_p17, List.forall_mem_cons.mpr ⟨lw_p18, List.forall_mem_cons.mpr ⟨lw_p19, List.forall_mem_cons.mpr ⟨lw_p20, List.forall_mem_cons.mpr ⟨lw_p21, List.forall_mem_cons.mpr ⟨lw_p22, List.forall_mem_cons.mpr ⟨lw_p23, List.forall_mem_cons.mpr ⟨lw_p24, List.forall_mem_cons.mpr ⟨lw_p25, List.forall_mem_cons.mpr ⟨lw_p26, List.forall_mem_cons.mpr ⟨lw_p27, List.forall_mem_cons.mpr ⟨lw_p28, List.forall_mem_cons.mpr ⟨lw_p29, List.forall_mem_cons.mpr ⟨lw_p30, List.forall_mem_cons.mpr ⟨lw_p31, fun _ h => absurd h List.not_mem_nil⟩⟩⟩⟩⟩⟩⟩⟩⟩⟩⟩⟩⟩⟩⟩⟩
theorem lw_p32 : lw_okq (⟨"CrateTour$Forecast", "listAround", "(I)I"⟩, 3) := ⟨⟨by decide +kernel, by decide +kernel⟩, List.mem_of_getElem? (i := 339) (by decide +kernel), List.mem_of_getElem? (i := 903) (by decide +kernel), List.mem_of_getElem? (i := 904) (by decide +kernel)⟩
theorem lw_p33 : lw_okq (⟨"CrateTour", "withWorks", "(J)J"⟩, 7) := ⟨⟨by decide +kernel, by decide +kernel⟩, List.mem_of_getElem? (i := 29) (by decide +kernel), List.mem_of_getElem? (i := 911) (by decide +kernel), List.mem_of_getElem? (i := 912) (by decide +kernel)⟩
theorem lw_p34 : lw_okq (⟨"java/lang/Throwable", "fillInStackTrace", "(I)Ljava/lang/Throwable;"⟩, 6) := ⟨⟨by decide +kernel, by decide +kernel⟩, List.mem_of_getElem? (i := 987) (by decide +kernel), List.mem_of_getElem? (i := 985) (by decide +kernel), List.mem_of_getElem? (i := 986) (by decide +kernel)⟩
theorem lw_p35 : lw_okq (⟨"CrateTour$Forecast", "timeIfSent", "(II)I"⟩, 3) := ⟨⟨by decide +kernel, by decide +kernel⟩, List.mem_of_getElem? (i := 339) (by decide +kernel), List.mem_of_getElem? (i := 1309) (by decide +kernel), List.mem_of_getElem? (i := 1310) (by decide +kernel)⟩
theorem lw_p36 : lw_okq (⟨"CrateTourModel", "keep", "()V"⟩, 11) := ⟨⟨by decide +kernel, by decide +kernel⟩, List.mem_of_getElem? (i := 1340) (by decide +kernel), List.mem_of_getElem? (i := 1395) (by decide +kernel), List.mem_of_getElem? (i := 1396) (by decide +kernel)⟩
theorem lw_p37 : lw_okq (⟨"CrateTourModel", "isVenue", "(I)Z"⟩, 11) := ⟨⟨by decide +kernel, by decide +kernel⟩, List.mem_of_getElem? (i := 1340) (by decide +kernel), List.mem_of_getElem? (i := 1403) (by decide +kernel), List.mem_of_getElem? (i := 1404) (by decide +kernel)⟩
theorem lw_p38 : lw_okq (⟨"CrateTourModel", "ofVenue", "(II)I"⟩, 11) := ⟨⟨by decide +kernel, by decide +kernel⟩, List.mem_of_getElem? (i := 1340) (by decide +kernel), List.mem_of_getElem? (i := 1411) (by decide +kernel), List.mem_of_getElem? (i := 1412) (by decide +kernel)⟩
theorem lw_p39 : lw_okq (⟨"CrateTourModel", "put", "(III)V"⟩, 11) := ⟨⟨by decide +kernel, by decide +kernel⟩, List.mem_of_getElem? (i := 1340) (by decide +kernel), List.mem_of_getElem? (i := 1434) (by decide +kernel), List.mem_of_getElem? (i := 1435) (by decide +kernel)⟩
theorem lw_p40 : lw_okq (⟨"CrateTourModel", "putWork", "(III)V"⟩, 11) := ⟨⟨by decide +kernel, by decide +kernel⟩, List.mem_of_getElem? (i := 1340) (by decide +kernel), List.mem_of_getElem? (i := 1443) (by decide +kernel), List.mem_of_getElem? (i := 1444) (by decide +kernel)⟩
theorem lw_p41 : lw_okq (⟨"CrateTourModel", "notOpen", "(I)I"⟩, 11) := ⟨⟨by decide +kernel, by decide +kernel⟩, List.mem_of_getElem? (i := 1340) (by decide +kernel), List.mem_of_getElem? (i := 1451) (by decide +kernel), List.mem_of_getElem? (i := 1452) (by decide +kernel)⟩
theorem lw_p42 : lw_okq (⟨"CrateTourModel", "isCrate", "(I)Z"⟩, 11) := ⟨⟨by decide +kernel, by decide +kernel⟩, List.mem_of_getElem? (i := 1340) (by decide +kernel), List.mem_of_getElem? (i := 1455) (by decide +kernel), List.mem_of_getElem? (i := 1456) (by decide +kernel)⟩
theorem lw_p43 : lw_okq (⟨"CrateTourModel", "isOpen", "(I)Z"⟩, 11) := ⟨⟨by decide +kernel, by decide +kernel⟩, List.mem_of_getElem? (i := 1340) (by decide +kernel), List.mem_of_getElem? (i := 1459) (by decide +kernel), List.mem_of_getElem? (i := 1460) (by decide +kernel)⟩
theorem lw_p44 : lw_okq (⟨"CrateTourModel", "of", "(II)I"⟩, 11) := ⟨⟨by decide +kernel, by decide +kernel⟩, List.mem_of_getElem? (i := 1340) (by decide +kernel), List.mem_of_getElem? (i := 1463) (by decide +kernel), List.mem_of_getElem? (i := 1464) (by decide +kernel)⟩
theorem lw_p45 : lw_okq (⟨"CrateTourModel", "isReached", "(I)Z"⟩, 11) := ⟨⟨by decide +kernel, by decide +kernel⟩, List.mem_of_getElem? (i := 1340) (by decide +kernel), List.mem_of_getElem? (i := 1467) (by decide +kernel), List.mem_of_getElem? (i := 1468) (by decide +kernel)⟩
theorem lw_p46 : lw_okq (⟨"CrateTourModel", "venueOf", "(I)I"⟩, 11) := ⟨⟨by decide +kernel, by decide +kernel⟩, List.mem_of_getElem? (i := 1340) (by decide +kernel), List.mem_of_getElem? (i := 1471) (by decide +kernel), List.mem_of_getElem? (i := 1472) (by decide +kernel)⟩
theorem lw_p47 : lw_okq (⟨"CrateTourModel", "outermost", "(I)I"⟩, 11) := ⟨⟨by decide +kernel, by decide +kernel⟩, List.mem_of_getElem? (i := 1340) (by decide +kernel), List.mem_of_getElem? (i := 1475) (by decide +kernel), List.mem_of_getElem? (i := 1476) (by decide +kernel)⟩
def lw_privs_3 : List (MethodName × Nat) := [(⟨"CrateTour$Forecast", "listAround", "(I)I"⟩, 3), (⟨"CrateTour", "withWorks", "(J)J"⟩, 7), (⟨"java/lang/Throwable", "fillInStackTrace", "(I)Ljava/lang/Throwable;"⟩, 6), (⟨"CrateTour$Forecast", "timeIfSent", "(II)I"⟩, 3), (⟨"CrateTourModel", "keep", "()V"⟩, 11), (⟨"CrateTourModel", "isVenue", "(I)Z"⟩, 11), (⟨"CrateTourModel", "ofVenue", "(II)I"⟩, 11), (⟨"CrateTourModel", "put", "(III)V"⟩, 11), (⟨"CrateTourModel", "putWork", "(III)V"⟩, 11), (⟨"CrateTourModel", "notOpen", "(I)I"⟩, 11), (⟨"CrateTourModel", "isCrate", "(I)Z"⟩, 11), (⟨"CrateTourModel", "isOpen", "(I)Z"⟩, 11), (⟨"CrateTourModel", "of", "(II)I"⟩, 11), (⟨"CrateTourModel", "isReached", "(I)Z"⟩, 11), (⟨"CrateTourModel", "venueOf", "(I)I"⟩, 11), (⟨"CrateTourModel", "outermost", "(I)I"⟩, 11)]
theorem lw_r3 : ∀ q ∈ lw_privs_3, lw_okq q := List.forall_mem_cons.mpr ⟨lw_p32, List.forall_mem_cons.mpr ⟨lw_p33, List.forall_mem_cons.mpr ⟨lw_p34, List.forall_mem_cons.mpr ⟨lw_p35, List.forall_mem_cons.mpr ⟨lw_p36, List.forall_mem_cons.mpr ⟨lw_p37, List.forall_mem_cons.mpr ⟨lw_p38, List.forall_mem_cons.mpr ⟨lw_p39, List.forall_mem_cons.mpr ⟨lw_p40, List.forall_mem_cons.mpr ⟨lw_p41, List.forall_mem_cons.mpr ⟨lw_p42, List.forall_mem_cons.mpr ⟨lw_p43, List.forall_mem_cons.mpr ⟨lw_p44, List.forall_mem_cons.mpr ⟨lw_p45, List.forall_mem_cons.mpr ⟨lw_p46, List.forall_mem_cons.mpr ⟨lw_p47, fun _ h => absurd h List.not_mem_nil⟩⟩⟩⟩⟩⟩⟩⟩⟩⟩⟩⟩⟩⟩⟩⟩
theorem lw_p48 : lw_okq (⟨"CrateTourModel", "needs", "(II)I"⟩, 11) := ⟨⟨by decide +kernel, by decide +kernel⟩, List.mem_of_getElem? (i := 1340) (by decide +kernel), List.mem_of_getElem? (i := 1479) (by decide +kernel), List.mem_of_getElem? (i := 1480) (by decide +kernel)⟩
theorem lw_p49 : lw_okq (⟨"CrateTourModel", "opens", "(I)I"⟩, 11) := ⟨⟨by decide +kernel, by decide +kernel⟩, List.mem_of_getElem? (i := 1340) (by decide +kernel), List.mem_of_getElem? (i := 1486) (by decide +kernel), List.mem_of_getElem? (i := 1487) (by decide +kernel)⟩
theorem lw_p50 : lw_okq (⟨"CrateTourModel", "directWorks", "(I)I"⟩, 11) := ⟨⟨by decide +kernel, by decide +kernel⟩, List.mem_of_getElem? (i := 1340) (by decide +kernel), List.mem_of_getElem? (i := 1490) (by decide +kernel), List.mem_of_getElem? (i := 1491) (by decide +kernel)⟩
theorem lw_p51 : lw_okq (⟨"CrateTourModel", "ofWork", "(II)I"⟩, 11) := ⟨⟨by decide +kernel, by decide +kernel⟩, List.mem_of_getElem? (i := 1340) (by decide +kernel), List.mem_of_getElem? (i := 1494) (by decide +kernel), List.mem_of_getElem? (i := 1495) (by decide +kernel)⟩
theorem lw_p52 : lw_okq (⟨"CrateTourModel", "notClose", "(I)I"⟩, 11) := ⟨⟨by decide +kernel, by decide +kernel⟩, List.mem_of_getElem? (i := 1340) (by decide +kernel), List.mem_of_getElem? (i := 1502) (by decide +kernel), List.mem_of_getElem? (i := 1503) (by decide +kernel)⟩
theorem lw_p53 : lw_okq (⟨"CrateTourModel", "closes", "(I)I"⟩, 11) := ⟨⟨by decide +kernel, by decide +kernel⟩, List.mem_of_getElem? (i := 1340) (by decide +kernel), List.mem_of_getElem? (i := 1506) (by decide +kernel), List.mem_of_getElem? (i := 1507) (by decide +kernel)⟩
theorem lw_p54 : lw_okq (⟨"CrateTourModel", "worksIn", "(II)I"⟩, 11) := ⟨⟨by decide +kernel, by decide +kernel⟩, List.mem_of_getElem? (i := 1340) (by decide +kernel), List.mem_of_getElem? (i := 1510) (by decide +kernel), List.mem_of_getElem? (i := 1511) (by decide +kernel)⟩
theorem lw_p55 : lw_okq (⟨"CrateTourModel", "isWithin", "(II)Z"⟩, 11) := ⟨⟨by decide +kernel, by decide +kernel⟩, List.mem_of_getElem? (i := 1340) (by decide +kernel), List.mem_of_getElem? (i := 1514) (by decide +kernel), List.mem_of_getElem? (i := 1515) (by decide +kernel)⟩
theorem lw_p56 : lw_okq (⟨"CrateTourModel", "notNest", "(II)I"⟩, 11) := ⟨⟨by decide +kernel, by decide +kernel⟩, List.mem_of_getElem? (i := 1340) (by decide +kernel), List.mem_of_getElem? (i := 1522) (by decide +kernel), List.mem_of_getElem? (i := 1523) (by decide +kernel)⟩
theorem lw_p57 : lw_okq (⟨"CrateTourModel", "isForUse", "(II)Z"⟩, 11) := ⟨⟨by decide +kernel, by decide +kernel⟩, List.mem_of_getElem? (i := 1340) (by decide +kernel), List.mem_of_getElem? (i := 1526) (by decide +kernel), List.mem_of_getElem? (i := 1527) (by decide +kernel)⟩
theorem lw_p58 : lw_okq (⟨"CrateTourModel", "nests", "(II)I"⟩, 11) := ⟨⟨by decide +kernel, by decide +kernel⟩, List.mem_of_getElem? (i := 1340) (by decide +kernel), List.mem_of_getElem? (i := 1530) (by decide +kernel), List.mem_of_getElem? (i := 1531) (by decide +kernel)⟩
theorem lw_p59 : lw_okq (⟨"CrateTourModel", "directCrates", "(I)I"⟩, 11) := ⟨⟨by decide +kernel, by decide +kernel⟩, List.mem_of_getElem? (i := 1340) (by decide +kernel), List.mem_of_getElem? (i := 1534) (by decide +kernel), List.mem_of_getElem? (i := 1535) (by decide +kernel)⟩
theorem lw_p60 : lw_okq (⟨"CrateTourModel", "notTakeOut", "(I)I"⟩, 11) := ⟨⟨by decide +kernel, by decide +kernel⟩, List.mem_of_getElem? (i := 1340) (by decide +kernel), List.mem_of_getElem? (i := 1542) (by decide +kernel), List.mem_of_getElem? (i := 1543) (by decide +kernel)⟩
theorem lw_p61 : lw_okq (⟨"CrateTourModel", "takesOut", "(I)I"⟩, 11) := ⟨⟨by decide +kernel, by decide +kernel⟩, List.mem_of_getElem? (i := 1340) (by decide +kernel), List.mem_of_getElem? (i := 1546) (by decide +kernel), List.mem_of_getElem? (i := 1547) (by decide +kernel)⟩
theorem lw_p62 : lw_okq (⟨"CrateTourModel", "notPack", "(II)I"⟩, 11) := ⟨⟨by decide +kernel, by decide +kernel⟩, List.mem_of_getElem? (i := 1340) (by decide +kernel), List.mem_of_getElem? (i := 1554) (by decide +kernel), List.mem_of_getElem? (i := 1555) (by decide +kernel)⟩
theorem lw_p63 : lw_okq (⟨"CrateTourModel", "isWork", "(I)Z"⟩, 11) := ⟨⟨by decide +kernel, by decide +kernel⟩, List.mem_of_getElem? (i := 1340) (by decide +kernel), List.mem_of_getElem? (i := 1558) (by decide +kernel), List.mem_of_getElem? (i := 1559) (by decide +kernel)⟩
def lw_privs_4 : List (MethodName × Nat) := [(⟨"CrateTourModel", "needs", "(II)I"⟩, 11), (⟨"CrateTourModel", "opens", "(I)I"⟩, 11), (⟨"CrateTourModel", "directWorks", "(I)I"⟩, 11), (⟨"CrateTourModel", "ofWork", "(II)I"⟩, 11), (⟨"CrateTourModel", "notClose", "(I)I"⟩, 11), (⟨"CrateTourModel", "closes", "(I)I"⟩, 11), (⟨"CrateTourModel", "worksIn", "(II)I"⟩, 11), (⟨"CrateTourModel", "isWithin", "(II)Z"⟩, 11), (⟨"CrateTourModel", "notNest", "(II)I"⟩, 11), (⟨"CrateTourModel", "isForUse", "(II)Z"⟩, 11), (⟨"CrateTourModel", "nests", "(II)I"⟩, 11), (⟨"CrateTourModel", "directCrates", "(I)I"⟩, 11), (⟨"CrateTourModel", "notTakeOut", "(I)I"⟩, 11), (⟨"CrateTourModel", "takesOut", "(I)I"⟩, 11), (⟨"CrateTourModel", "notPack", "(II)I"⟩, 11), (⟨"CrateTourModel", "isWork", "(I)Z"⟩, 11)]
theorem lw_r4 : ∀ q ∈ lw_privs_4, lw_okq q := List.forall_mem_cons.mpr ⟨lw_p48, List.forall_mem_cons.mpr ⟨lw_p49, List.forall_mem_cons.mpr ⟨lw_p50, List.forall_mem_cons.mpr ⟨lw_p51, List.forall_mem_cons.mpr ⟨lw_p52, List.forall_mem_cons.mpr ⟨lw_p53, List.forall_mem_cons.mpr ⟨lw_p54, List.forall_mem_cons.mpr ⟨lw_p55, List.forall_mem_cons.mpr ⟨lw_p56, List.forall_mem_cons.mpr ⟨lw_p57, List.forall_mem_cons.mpr ⟨lw_p58, List.forall_mem_cons.mpr ⟨lw_p59, List.forall_mem_cons.mpr ⟨lw_p60, List.forall_mem_cons.mpr ⟨lw_p61, List.forall_mem_cons.mpr ⟨lw_p62, List.forall_mem_cons.mpr ⟨lw_p63, fun _ h => absurd h List.not_mem_nil⟩⟩⟩⟩⟩⟩⟩⟩⟩⟩⟩⟩⟩⟩⟩⟩
theorem lw_p64 : lw_okq (⟨"CrateTourModel", "packs", "(II)I"⟩, 11) := ⟨⟨by decide +kernel, by decide +kernel⟩, List.mem_of_getElem? (i := 1340) (by decide +kernel), List.mem_of_getElem? (i := 1562) (by decide +kernel), List.mem_of_getElem? (i := 1563) (by decide +kernel)⟩
theorem lw_p65 : lw_okq (⟨"CrateTourModel", "notUnpack", "(I)I"⟩, 11) := ⟨⟨by decide +kernel, by decide +kernel⟩, List.mem_of_getElem? (i := 1340) (by decide +kernel), List.mem_of_getElem? (i := 1570) (by decide +kernel), List.mem_of_getElem? (i := 1571) (by decide +kernel)⟩
theorem lw_p66 : lw_okq (⟨"CrateTourModel", "unpacks", "(I)I"⟩, 11) := ⟨⟨by decide +kernel, by decide +kernel⟩, List.mem_of_getElem? (i := 1340) (by decide +kernel), List.mem_of_getElem? (i := 1574) (by decide +kernel), List.mem_of_getElem? (i := 1575) (by decide +kernel)⟩
theorem lw_p67 : lw_okq (⟨"CrateTourModel", "notSend", "(III)I"⟩, 11) := ⟨⟨by decide +kernel, by decide +kernel⟩, List.mem_of_getElem? (i := 1340) (by decide +kernel), List.mem_of_getElem? (i := 1582) (by decide +kernel), List.mem_of_getElem? (i := 1583) (by decide +kernel)⟩
theorem lw_p68 : lw_okq (⟨"CrateTourModel", "isSending", "(III)Z"⟩, 11) := ⟨⟨by decide +kernel, by decide +kernel⟩, List.mem_of_getElem? (i := 1340) (by decide +kernel), List.mem_of_getElem? (i := 1586) (by decide +kernel), List.mem_of_getElem? (i := 1587) (by decide +kernel)⟩
theorem lw_p69 : lw_okq (⟨"CrateTourModel", "isCourier", "(I)Z"⟩, 11) := ⟨⟨by decide +kernel, by decide +kernel⟩, List.mem_of_getElem? (i := 1340) (by decide +kernel), List.mem_of_getElem? (i := 1590) (by decide +kernel), List.mem_of_getElem? (i := 1591) (by decide +kernel)⟩
theorem lw_p70 : lw_okq (⟨"CrateTourModel", "reason", "(III)I"⟩, 11) := ⟨⟨by decide +kernel, by decide +kernel⟩, List.mem_of_getElem? (i := 1340) (by decide +kernel), List.mem_of_getElem? (i := 1594) (by decide +kernel), List.mem_of_getElem? (i := 1595) (by decide +kernel)⟩
theorem lw_p71 : lw_okq (⟨"CrateTourModel", "worksRefuse", "(II)I"⟩, 11) := ⟨⟨by decide +kernel, by decide +kernel⟩, List.mem_of_getElem? (i := 1340) (by decide +kernel), List.mem_of_getElem? (i := 1598) (by decide +kernel), List.mem_of_getElem? (i := 1599) (by decide +kernel)⟩
theorem lw_p72 : lw_okq (⟨"CrateTourModel", "lenderRefuses", "(II)I"⟩, 11) := ⟨⟨by decide +kernel, by decide +kernel⟩, List.mem_of_getElem? (i := 1340) (by decide +kernel), List.mem_of_getElem? (i := 1602) (by decide +kernel), List.mem_of_getElem? (i := 1603) (by decide +kernel)⟩
theorem lw_p73 : lw_okq (⟨"CrateTourModel", "valuesFor", "(II)J"⟩, 11) := ⟨⟨by decide +kernel, by decide +kernel⟩, List.mem_of_getElem? (i := 1340) (by decide +kernel), List.mem_of_getElem? (i := 1606) (by decide +kernel), List.mem_of_getElem? (i := 1607) (by decide +kernel)⟩
theorem lw_p74 : lw_okq (⟨"CrateTourModel", "standsIn", "(I)I"⟩, 11) := ⟨⟨by decide +kernel, by decide +kernel⟩, List.mem_of_getElem? (i := 1340) (by decide +kernel), List.mem_of_getElem? (i := 1610) (by decide +kernel), List.mem_of_getElem? (i := 1611) (by decide +kernel)⟩
theorem lw_p75 : lw_okq (⟨"CrateTourModel", "goesTo", "(I)I"⟩, 11) := ⟨⟨by decide +kernel, by decide +kernel⟩, List.mem_of_getElem? (i := 1340) (by decide +kernel), List.mem_of_getElem? (i := 1614) (by decide +kernel), List.mem_of_getElem? (i := 1615) (by decide +kernel)⟩
theorem lw_p76 : lw_okq (⟨"CrateTourModel", "isEscorted", "(I)Z"⟩, 11) := ⟨⟨by decide +kernel, by decide +kernel⟩, List.mem_of_getElem? (i := 1340) (by decide +kernel), List.mem_of_getElem? (i := 1618) (by decide +kernel), List.mem_of_getElem? (i := 1619) (by decide +kernel)⟩
theorem lw_p77 : lw_okq (⟨"CrateTourModel", "sends", "(III)I"⟩, 11) := ⟨⟨by decide +kernel, by decide +kernel⟩, List.mem_of_getElem? (i := 1340) (by decide +kernel), List.mem_of_getElem? (i := 1622) (by decide +kernel), List.mem_of_getElem? (i := 1623) (by decide +kernel)⟩
theorem lw_p78 : lw_okq (⟨"CrateTourModel", "advances", "(I)I"⟩, 11) := ⟨⟨by decide +kernel, by decide +kernel⟩, List.mem_of_getElem? (i := 1340) (by decide +kernel), List.mem_of_getElem? (i := 1633) (by decide +kernel), List.mem_of_getElem? (i := 1634) (by decide +kernel)⟩
theorem lw_p79 : lw_okq (⟨"CrateTourModel", "hour", "()I"⟩, 11) := ⟨⟨by decide +kernel, by decide +kernel⟩, List.mem_of_getElem? (i := 1340) (by decide +kernel), List.mem_of_getElem? (i := 1637) (by decide +kernel), List.mem_of_getElem? (i := 1638) (by decide +kernel)⟩
def lw_privs_5 : List (MethodName × Nat) := [(⟨"CrateTourModel", "packs", "(II)I"⟩, 11), (⟨"CrateTourModel", "notUnpack", "(I)I"⟩, 11), (⟨"CrateTourModel", "unpacks", "(I)I"⟩, 11), (⟨"CrateTourModel", "notSend", "(III)I"⟩, 11), (⟨"CrateTourModel", "isSending", "(III)Z"⟩, 11), (⟨"CrateTourModel", "isCourier", "(I)Z"⟩, 11), (⟨"CrateTourModel", "reason", "(III)I"⟩, 11), (⟨"CrateTourModel", "worksRefuse", "(II)I"⟩, 11), (⟨"CrateTourModel", "lenderRefuses", "(II)I"⟩, 11), (⟨"CrateTourModel", "valuesFor", "(II)J"⟩, 11), (⟨"CrateTourModel", "standsIn", "(I)I"⟩, 11), (⟨"CrateTourModel", "goesTo", "(I)I"⟩, 11), (⟨"CrateTourModel", "isEscorted", "(I)Z"⟩, 11), (⟨"CrateTourModel", "sends", "(III)I"⟩, 11), (⟨"CrateTourModel", "advances", "(I)I"⟩, 11), (⟨"CrateTourModel", "hour", "()I"⟩, 11)]
theorem lw_r5 : ∀ q ∈ lw_privs_5, lw_okq q := List.forall_mem_cons.mpr ⟨lw_p64, List.forall_mem_cons.mpr ⟨lw_p65, List.forall_mem_cons.mpr ⟨lw_p66, List.forall_mem_cons.mpr ⟨lw_p67, List.forall_mem_cons.mpr ⟨lw_p68, List.forall_mem_cons.mpr ⟨lw_p69, List.forall_mem_cons.mpr ⟨lw_p70, List.forall_mem_cons.mpr ⟨lw_p71, List.forall_mem_cons.mpr ⟨lw_p72, List.forall_mem_cons.mpr ⟨lw_p73, List.forall_mem_cons.mpr ⟨lw_p74, List.forall_mem_cons.mpr ⟨lw_p75, List.forall_mem_cons.mpr ⟨lw_p76, List.forall_mem_cons.mpr ⟨lw_p77, List.forall_mem_cons.mpr ⟨lw_p78, List.forall_mem_cons.mpr ⟨lw_p79, fun _ h => absurd h List.not_mem_nil⟩⟩⟩⟩⟩⟩⟩⟩⟩⟩⟩⟩⟩⟩⟩⟩
theorem lw_p80 : lw_okq (⟨"CrateTourModel", "arrives", "(I)V"⟩, 11) := ⟨⟨by decide +kernel, by decide +kernel⟩, List.mem_of_getElem? (i := 1340) (by decide +kernel), List.mem_of_getElem? (i := 1641) (by decide +kernel), List.mem_of_getElem? (i := 1642) (by decide +kernel)⟩
theorem lw_p81 : lw_okq (⟨"CrateTourModel", "pays", "(I)V"⟩, 11) := ⟨⟨by decide +kernel, by decide +kernel⟩, List.mem_of_getElem? (i := 1340) (by decide +kernel), List.mem_of_getElem? (i := 1645) (by decide +kernel), List.mem_of_getElem? (i := 1646) (by decide +kernel)⟩
theorem lw_p82 : lw_okq (⟨"CrateTourModel", "note", "(II)V"⟩, 11) := ⟨⟨by decide +kernel, by decide +kernel⟩, List.mem_of_getElem? (i := 1340) (by decide +kernel), List.mem_of_getElem? (i := 1650) (by decide +kernel), List.mem_of_getElem? (i := 1651) (by decide +kernel)⟩
theorem lw_p83 : lw_okq (⟨"CrateTourModel", "crateOf", "(II)I"⟩, 11) := ⟨⟨by decide +kernel, by decide +kernel⟩, List.mem_of_getElem? (i := 1340) (by decide +kernel), List.mem_of_getElem? (i := 1662) (by decide +kernel), List.mem_of_getElem? (i := 1663) (by decide +kernel)⟩
theorem lw_p84 : lw_okq (⟨"CrateTourModel", "cratesBelow", "(I)I"⟩, 11) := ⟨⟨by decide +kernel, by decide +kernel⟩, List.mem_of_getElem? (i := 1340) (by decide +kernel), List.mem_of_getElem? (i := 1666) (by decide +kernel), List.mem_of_getElem? (i := 1667) (by decide +kernel)⟩
theorem lw_p85 : lw_okq (⟨"CrateTourModel", "workOf", "(II)I"⟩, 11) := ⟨⟨by decide +kernel, by decide +kernel⟩, List.mem_of_getElem? (i := 1340) (by decide +kernel), List.mem_of_getElem? (i := 1674) (by decide +kernel), List.mem_of_getElem? (i := 1675) (by decide +kernel)⟩
theorem lw_p86 : lw_okq (⟨"CrateTourModel", "around", "(I)I"⟩, 11) := ⟨⟨by decide +kernel, by decide +kernel⟩, List.mem_of_getElem? (i := 1340) (by decide +kernel), List.mem_of_getElem? (i := 1678) (by decide +kernel), List.mem_of_getElem? (i := 1679) (by decide +kernel)⟩
theorem lw_p87 : lw_okq (⟨"CrateTourModel", "notedOf", "(II)I"⟩, 11) := ⟨⟨by decide +kernel, by decide +kernel⟩, List.mem_of_getElem? (i := 1340) (by decide +kernel), List.mem_of_getElem? (i := 1686) (by decide +kernel), List.mem_of_getElem? (i := 1687) (by decide +kernel)⟩
theorem lw_p88 : lw_okq (⟨"CrateTourModel", "venueOfWhat", "(II)I"⟩, 11) := ⟨⟨by decide +kernel, by decide +kernel⟩, List.mem_of_getElem? (i := 1340) (by decide +kernel), List.mem_of_getElem? (i := 1694) (by decide +kernel), List.mem_of_getElem? (i := 1695) (by decide +kernel)⟩
theorem lw_p89 : lw_okq (⟨"CrateTourModel", "valuesAt", "(IZ)I"⟩, 11) := ⟨⟨by decide +kernel, by decide +kernel⟩, List.mem_of_getElem? (i := 1340) (by decide +kernel), List.mem_of_getElem? (i := 1698) (by decide +kernel), List.mem_of_getElem? (i := 1699) (by decide +kernel)⟩
theorem lw_p90 : lw_okq (⟨"CrateTourModel", "cratesAt", "(I)I"⟩, 11) := ⟨⟨by decide +kernel, by decide +kernel⟩, List.mem_of_getElem? (i := 1340) (by decide +kernel), List.mem_of_getElem? (i := 1702) (by decide +kernel), List.mem_of_getElem? (i := 1703) (by decide +kernel)⟩
theorem lw_p91 : lw_okq (⟨"CrateTourModel", "couriersAt", "(I)I"⟩, 11) := ⟨⟨by decide +kernel, by decide +kernel⟩, List.mem_of_getElem? (i := 1340) (by decide +kernel), List.mem_of_getElem? (i := 1706) (by decide +kernel), List.mem_of_getElem? (i := 1707) (by decide +kernel)⟩
theorem lw_p92 : lw_okq (⟨"CrateTourModel", "wholeOf", "(I)I"⟩, 11) := ⟨⟨by decide +kernel, by decide +kernel⟩, List.mem_of_getElem? (i := 1340) (by decide +kernel), List.mem_of_getElem? (i := 1718) (by decide +kernel), List.mem_of_getElem? (i := 1719) (by decide +kernel)⟩
theorem lw_p93 : lw_okq (⟨"CrateTourModel", "onTheirWay", "()I"⟩, 11) := ⟨⟨by decide +kernel, by decide +kernel⟩, List.mem_of_getElem? (i := 1340) (by decide +kernel), List.mem_of_getElem? (i := 1722) (by decide +kernel), List.mem_of_getElem? (i := 1723) (by decide +kernel)⟩
theorem lw_p94 : lw_okq (⟨"CrateTourModel", "openCrates", "()I"⟩, 11) := ⟨⟨by decide +kernel, by decide +kernel⟩, List.mem_of_getElem? (i := 1340) (by decide +kernel), List.mem_of_getElem? (i := 1726) (by decide +kernel), List.mem_of_getElem? (i := 1727) (by decide +kernel)⟩
theorem lw_p95 : lw_okq (⟨"CrateTourModel", "ready", "(I)I"⟩, 11) := ⟨⟨by decide +kernel, by decide +kernel⟩, List.mem_of_getElem? (i := 1340) (by decide +kernel), List.mem_of_getElem? (i := 1734) (by decide +kernel), List.mem_of_getElem? (i := 1735) (by decide +kernel)⟩
def lw_privs_6 : List (MethodName × Nat) := [(⟨"CrateTourModel", "arrives", "(I)V"⟩, 11), (⟨"CrateTourModel", "pays", "(I)V"⟩, 11), (⟨"CrateTourModel", "note", "(II)V"⟩, 11), (⟨"CrateTourModel", "crateOf", "(II)I"⟩, 11), (⟨"CrateTourModel", "cratesBelow", "(I)I"⟩, 11), (⟨"CrateTourModel", "workOf", "(II)I"⟩, 11), (⟨"CrateTourModel", "around", "(I)I"⟩, 11), (⟨"CrateTourModel", "notedOf", "(II)I"⟩, 11), (⟨"CrateTourModel", "venueOfWhat", "(II)I"⟩, 11), (⟨"CrateTourModel", "valuesAt", "(IZ)I"⟩, 11), (⟨"CrateTourModel", "cratesAt", "(I)I"⟩, 11), (⟨"CrateTourModel", "couriersAt", "(I)I"⟩, 11), (⟨"CrateTourModel", "wholeOf", "(I)I"⟩, 11), (⟨"CrateTourModel", "onTheirWay", "()I"⟩, 11), (⟨"CrateTourModel", "openCrates", "()I"⟩, 11), (⟨"CrateTourModel", "ready", "(I)I"⟩, 11)]
theorem lw_r6 : ∀ q ∈ lw_privs_6, lw_okq q := List.forall_mem_cons.mpr ⟨lw_p80, List.forall_mem_cons.mpr ⟨lw_p81, List.forall_mem_cons.mpr ⟨lw_p82, List.forall_mem_cons.mpr ⟨lw_p83, List.forall_mem_cons.mpr ⟨lw_p84, List.forall_mem_cons.mpr ⟨lw_p85, List.forall_mem_cons.mpr ⟨lw_p86, List.forall_mem_cons.mpr ⟨lw_p87, List.forall_mem_cons.mpr ⟨lw_p88, List.forall_mem_cons.mpr ⟨lw_p89, List.forall_mem_cons.mpr ⟨lw_p90, List.forall_mem_cons.mpr ⟨lw_p91, List.forall_mem_cons.mpr ⟨lw_p92, List.forall_mem_cons.mpr ⟨lw_p93, List.forall_mem_cons.mpr ⟨lw_p94, List.forall_mem_cons.mpr ⟨lw_p95, fun _ h => absurd h List.not_mem_nil⟩⟩⟩⟩⟩⟩⟩⟩⟩⟩⟩⟩⟩⟩⟩⟩
theorem lw_p96 : lw_okq (⟨"CrateTourModel", "allReady", "(I)I"⟩, 11) := ⟨⟨by decide +kernel, by decide +kernel⟩, List.mem_of_getElem? (i := 1340) (by decide +kernel), List.mem_of_getElem? (i := 1745) (by decide +kernel), List.mem_of_getElem? (i := 1746) (by decide +kernel)⟩
theorem lw_p97 : lw_okq (⟨"CrateTourModel", "readyBy", "(II)I"⟩, 11) := ⟨⟨by decide +kernel, by decide +kernel⟩, List.mem_of_getElem? (i := 1340) (by decide +kernel), List.mem_of_getElem? (i := 1753) (by decide +kernel), List.mem_of_getElem? (i := 1754) (by decide +kernel)⟩
theorem lw_p98 : lw_okq (⟨"CrateTourModel", "isGood", "()Z"⟩, 11) := ⟨⟨by decide +kernel, by decide +kernel⟩, List.mem_of_getElem? (i := 1340) (by decide +kernel), List.mem_of_getElem? (i := 1769) (by decide +kernel), List.mem_of_getElem? (i := 1770) (by decide +kernel)⟩
theorem lw_p99 : lw_okq (⟨"CrateTourModel", "skips", "()Z"⟩, 11) := ⟨⟨by decide +kernel, by decide +kernel⟩, List.mem_of_getElem? (i := 1340) (by decide +kernel), List.mem_of_getElem? (i := 1773) (by decide +kernel), List.mem_of_getElem? (i := 1774) (by decide +kernel)⟩
theorem lw_p100 : lw_okq (⟨"CrateTourModel", "here", "()I"⟩, 11) := ⟨⟨by decide +kernel, by decide +kernel⟩, List.mem_of_getElem? (i := 1340) (by decide +kernel), List.mem_of_getElem? (i := 1777) (by decide +kernel), List.mem_of_getElem? (i := 1778) (by decide +kernel)⟩
theorem lw_p101 : lw_okq (⟨"CrateTourModel", "readCommand", "()Z"⟩, 11) := ⟨⟨by decide +kernel, by decide +kernel⟩, List.mem_of_getElem? (i := 1340) (by decide +kernel), List.mem_of_getElem? (i := 1781) (by decide +kernel), List.mem_of_getElem? (i := 1782) (by decide +kernel)⟩
theorem lw_p102 : lw_okq (⟨"CrateTourModel", "readWord", "()Z"⟩, 11) := ⟨⟨by decide +kernel, by decide +kernel⟩, List.mem_of_getElem? (i := 1340) (by decide +kernel), List.mem_of_getElem? (i := 1785) (by decide +kernel), List.mem_of_getElem? (i := 1786) (by decide +kernel)⟩
theorem lw_p103 : lw_okq (⟨"CrateTourModel", "manyFor", "()I"⟩, 11) := ⟨⟨by decide +kernel, by decide +kernel⟩, List.mem_of_getElem? (i := 1340) (by decide +kernel), List.mem_of_getElem? (i := 1804) (by decide +kernel), List.mem_of_getElem? (i := 1805) (by decide +kernel)⟩
theorem lw_p104 : lw_okq (⟨"CrateTourModel", "readNumber", "(I)Z"⟩, 11) := ⟨⟨by decide +kernel, by decide +kernel⟩, List.mem_of_getElem? (i := 1340) (by decide +kernel), List.mem_of_getElem? (i := 1808) (by decide +kernel), List.mem_of_getElem? (i := 1809) (by decide +kernel)⟩
theorem lw_p105 : lw_okq (⟨"CrateTourModel", "whyNot", "()I"⟩, 11) := ⟨⟨by decide +kernel, by decide +kernel⟩, List.mem_of_getElem? (i := 1340) (by decide +kernel), List.mem_of_getElem? (i := 1812) (by decide +kernel), List.mem_of_getElem? (i := 1813) (by decide +kernel)⟩
theorem lw_p106 : lw_okq (⟨"CrateTourModel", "carryOut", "()I"⟩, 11) := ⟨⟨by decide +kernel, by decide +kernel⟩, List.mem_of_getElem? (i := 1340) (by decide +kernel), List.mem_of_getElem? (i := 1816) (by decide +kernel), List.mem_of_getElem? (i := 1817) (by decide +kernel)⟩
theorem lw_p107 : lw_okq (⟨"CrateTourModel", "mix", "(J)V"⟩, 11) := ⟨⟨by decide +kernel, by decide +kernel⟩, List.mem_of_getElem? (i := 1340) (by decide +kernel), List.mem_of_getElem? (i := 1829) (by decide +kernel), List.mem_of_getElem? (i := 1830) (by decide +kernel)⟩
theorem lw_p108 : lw_okq (⟨"CrateTourModel", "mixWork", "(I)V"⟩, 11) := ⟨⟨by decide +kernel, by decide +kernel⟩, List.mem_of_getElem? (i := 1340) (by decide +kernel), List.mem_of_getElem? (i := 1834) (by decide +kernel), List.mem_of_getElem? (i := 1835) (by decide +kernel)⟩
def lw_privs_7 : List (MethodName × Nat) := [(⟨"CrateTourModel", "allReady", "(I)I"⟩, 11), (⟨"CrateTourModel", "readyBy", "(II)I"⟩, 11), (⟨"CrateTourModel", "isGood", "()Z"⟩, 11), (⟨"CrateTourModel", "skips", "()Z"⟩, 11), (⟨"CrateTourModel", "here", "()I"⟩, 11), (⟨"CrateTourModel", "readCommand", "()Z"⟩, 11), (⟨"CrateTourModel", "readWord", "()Z"⟩, 11), (⟨"CrateTourModel", "manyFor", "()I"⟩, 11), (⟨"CrateTourModel", "readNumber", "(I)Z"⟩, 11), (⟨"CrateTourModel", "whyNot", "()I"⟩, 11), (⟨"CrateTourModel", "carryOut", "()I"⟩, 11), (⟨"CrateTourModel", "mix", "(J)V"⟩, 11), (⟨"CrateTourModel", "mixWork", "(I)V"⟩, 11)]
theorem lw_r7 : ∀ q ∈ lw_privs_7, lw_okq q := List.forall_mem_cons.mpr ⟨lw_p96, List.forall_mem_cons.mpr ⟨lw_p97, List.forall_mem_cons.mpr ⟨lw_p98, List.forall_mem_cons.mpr ⟨lw_p99, List.forall_mem_cons.mpr ⟨lw_p100, List.forall_mem_cons.mpr ⟨lw_p101, List.forall_mem_cons.mpr ⟨lw_p102, List.forall_mem_cons.mpr ⟨lw_p103, List.forall_mem_cons.mpr ⟨lw_p104, List.forall_mem_cons.mpr ⟨lw_p105, List.forall_mem_cons.mpr ⟨lw_p106, List.forall_mem_cons.mpr ⟨lw_p107, List.forall_mem_cons.mpr ⟨lw_p108, fun _ h => absurd h List.not_mem_nil⟩⟩⟩⟩⟩⟩⟩⟩⟩⟩⟩⟩⟩
def lw_privs : List (MethodName × Nat) := lw_privs_1 ++ (lw_privs_2 ++ (lw_privs_3 ++ (lw_privs_4 ++ (lw_privs_5 ++ (lw_privs_6 ++ (lw_privs_7))))))
def lw_tbl : List Cond := k2_sels lw_privs ++ tables_1
theorem lw_privs_ok : ∀ q ∈ lw_privs, lw_okq q := by
  show ∀ q ∈ lw_privs_1 ++ (lw_privs_2 ++ (lw_privs_3 ++ (lw_privs_4 ++ (lw_privs_5 ++ (lw_privs_6 ++ (lw_privs_7)))))), lw_okq q
  exact List.forall_mem_append.mpr ⟨lw_r1, List.forall_mem_append.mpr ⟨lw_r2, List.forall_mem_append.mpr ⟨lw_r3, List.forall_mem_append.mpr ⟨lw_r4, List.forall_mem_append.mpr ⟨lw_r5, List.forall_mem_append.mpr ⟨lw_r6, lw_r7⟩⟩⟩⟩⟩⟩
-- ===== end of PART A; then your names; then what follows =====
end
section
def va_AOA (ty : FieldType) (U : State) : Prop := (Cond.arrayOver (.array ty)).before #[] U = true
theorem va_AOA.use {ty : FieldType} {A : Array Value} {U : State} (h : va_AOA ty U) : (Cond.arrayOver (.array ty)).before A U = true := h
/-! ===== BEGIN words of one list among another's, by their places ===== -/
theorem goodIn_r {big : List Cond} (ws : List Cond) (ps : List Nat) (hp : ws = ps.filterMap (fun i => big[i]?)) (h : ws.all goodWord = true) : GoodIn big ws := by
  intro w hw
  have h1 := List.all_eq_true.mp h w hw
  rw [hp] at hw
  obtain ⟨i, -, hi⟩ := List.mem_filterMap.mp hw
  have hm : w ∈ big := by first | exact List.mem_of_getElem? hi | exact List.getElem?_mem hi
  exact ⟨hm, good_of_word h1⟩
theorem goodIn_app {big a b : List Cond} (ha : GoodIn big a) (hb : GoodIn big b) : GoodIn big (a ++ b) := fun w h => (List.mem_append.mp h).elim (ha w) (hb w)
theorem goodIn_ca {big a b : List Cond} {c : Cond} (ha : GoodIn big (c :: a)) (hb : GoodIn big b) : GoodIn big (c :: (a ++ b)) := fun w h => (List.mem_cons.mp h).elim (fun e => ha w (List.mem_cons.mpr (Or.inl e))) (fun h => (List.mem_append.mp h).elim (fun h => ha w (List.mem_cons.mpr (Or.inr h))) (hb w))
theorem goodIn_sub {big ws : List Cond} (hm : ∀ w ∈ ws, w ∈ big) (h : ws.all goodWord = true) : GoodIn big ws := fun w hw => ⟨hm w hw, good_of_word (List.all_eq_true.mp h w hw)⟩
/-! ===== END ===== -/

/-! ===== BEGIN new T[n][m]: the outer array a place, the inner ones among the pooled ===== -/
/-- f, but v at every address of l -/
def vr_up {α : Type} (f : Nat → α) (l : List Nat) (v : α) : Nat → α := fun a => if a ∈ l then v else f a
theorem vr_up_in {α : Type} {f : Nat → α} {l : List Nat} {v : α} {a : Nat} (h : a ∈ l) : vr_up f l v a = v := if_pos h
theorem vr_up_ne {α : Type} {f : Nat → α} {l : List Nat} {v : α} {a : Nat} (h : a ∉ l) : vr_up f l v a = f a := if_neg h
theorem vr_rows {L l : List Nat} {f : Nat → va_E} {e : va_E} (h : ∀ a, a ∈ l → a ∉ L) : va_pl L f ++ l.map (fun a => (a, e)) = va_pl (L ++ l) (vr_up f l e) := by
  unfold va_pl
  rw [List.map_append]
  congr 1
  · apply List.map_congr_left
    intro a ha
    rw [vr_up_ne (fun q => h a q ha)]
  · apply List.map_congr_left
    intro a ha
    rw [vr_up_in ha]
theorem vr_lay {X rows : va_W} {x : Nat × va_E} {pl : va_W} {D : va_G} {cl : List vw_C} {H : Heap} (hP : va_P D cl (((X ++ pl) ++ [x]) ++ rows) H) : va_P D cl ((X ++ [x]) ++ (pl ++ rows)) H := by
  rw [List.append_assoc (X ++ pl)] at hP
  have h := va_P.swap hP
  rw [← List.append_assoc X] at h
  have h2 := va_P.swap h
  rw [List.append_assoc (X ++ [x])] at h2
  exact h2
theorem vr_layD {X rows : va_W} {x : Nat × va_E} {pl : va_W} {A : Nat → Prop} (hD : va_D A (((X ++ pl) ++ [x]) ++ rows)) : va_D A ((X ++ [x]) ++ (pl ++ rows)) := by
  rw [List.append_assoc (X ++ pl)] at hD
  have h := va_D.swap hD
  rw [← List.append_assoc X] at h
  have h2 := va_D.swap h
  rw [List.append_assoc (X ++ [x])] at h2
  exact h2
theorem vr_outer (c : ClassId) (N h0 : Nat) : ∀ i : Nat, Jvm.Free.Multi.outerC c N h0 i = arrV c N (fun j => va_rf (if j < i then some (h0 + 1 + j) else none))
  | 0 => by
    show ({ cls := c, slots := Array.replicate N .null, vm := .none } : Cell) = _
    rw [arrV_new]
    refine congrArg (arrV c N) (funext fun j => ?_)
    simp [va_rf]
  | i + 1 => by
    show (Jvm.Free.Multi.outerC c N h0 i).setSlot i (.ref (h0 + 1 + i)) = _
    rw [vr_outer c N h0 i, arrV_store]
    refine congrArg (arrV c N) (funext fun j => ?_)
    by_cases e : j = i
    · subst e
      simp [updV, va_rf]
    · by_cases h : j < i
      · simp [updV, e, h, Nat.lt_succ_of_lt h]
      · simp [updV, e, h, show ¬ j < i + 1 by omega]
section VGM
variable {p : Program} {l : Launch} {e : Env} {R : Room} {s : State} {m : MethodId} {args : Array Value} {below : List Frame} {meth : Method} {c : Code} {H : Heap} {locs : List Loc} {cells slots : Nat} {Q : State → Prop}
variable {cc : ByteArray} {pc : Nat} {ls : Array Slot} {rest : List Value} {D : va_G} {cl : List vw_C} {A : Nat → Prop} {a : Nat} {tys : List (ClassId × FieldType)} {ws : va_W} {H0 : Heap}
theorem va_mna {X : va_W} {L : List Nat} {f : Nat → va_E} {cc : ByteArray} (hexec : p.tables.exec = Jvm.exec) (hb : c.code = cc) {own : String} {index : Nat} {ty : FieldType} {cy : ClassId} (hown : s.vm.findClass own = some m.cls) (hclink : (Cond.classLink own index ("[" ++ (FieldType.array ty).toString)).before args s = true) (hover : va_AOA ty s) (harr : (Cond.arrayClass ty).before args s = true) (hcy : s.vm.findClass (FieldType.array ty).toString = some cy)
    (hK : va_K D cl tys s) (hP : va_P D cl (X ++ va_pl L f) H) (hD : va_D A (X ++ va_pl L f)) (hS : va_S A H0 H locs) (hA : ∀ q, H0.size ≤ q → A q) {n k : Int32} {N' K' : Nat} {z : vp_A} (hn : ¬ n < 0) (hk : ¬ k < 0) (hN : n.toNatClampNeg = N') (hM : k.toNatClampNeg = K')
    (hb1 : N' * 4 ≤ 536870912) (hb2 : K' * componentBytes ty ≤ 536870912) (hb3 : K' ≤ 536870912) (hdf : fits ty (defaultValue ty) = true) (hdd : (defaultValue ty).isDefault = true) (hcells : cells + (1 + N') ≤ R.cells) (hslots : slots + (N' + N' * K') ≤ R.slots) (hz : ∀ c : ClassId, Jvm.Free.Multi.innerC c K' (defaultValue ty) = vp_cell c z) (hdg : decode cc pc = .ok (.multianewarray index 2, 4))
    (kk : ∀ (q : Nat) (r : Nat → Nat) (cA : ClassId) (H1 : Heap), (∀ i j : Nat, i < N' → j < N' → r i = r j → i = j) → (∀ i : Nat, i < N' → r i ∉ L) → va_K D cl (tys ++ [(cA, .array ty)]) s →
      va_P D cl ((X ++ [(q, .inl (cA, N', .inr (.inr (.inr (.inr (fun i => if i < N' then some (r i) else none))))))]) ++ va_pl (L ++ (List.range N').map r) (vr_up f ((List.range N').map r) (.inl (cy, z)))) H1 → va_D A ((X ++ [(q, .inl (cA, N', .inr (.inr (.inr (.inr (fun i => if i < N' then some (r i) else none))))))]) ++ va_pl (L ++ (List.range N').map r) (vr_up f ((List.range N').map r) (.inl (cy, z)))) → va_S A H0 H1 locs →
      W p l e R s m args below meth c H1 locs (cells + 1 + N') (slots + N' + N' * K') Q (F0 m (pc + 4) ls (.ref q :: rest))) : W p l e R s m args below meth c H locs cells slots Q (F0 m pc ls (.int k :: .int n :: rest)) := by
  subst hN
  subst hM
  intro T hT Xs
  obtain ⟨vm₁, cA, comp, -, fA, fC, hO, -, X', step⟩ := Xs.multianewarray2F hexec hown hclink (va_AOA.use hover) harr (g := F0 m pc ls (.int k :: .int n :: rest)) rfl (by rw [hb]; exact hdg) rfl hn hk hb1 hb2 hb3 hdf hdd hcells hslots
  have ec : some cy = some comp := hcy.symm.trans fC
  cases ec
  generalize hF : Jvm.Free.Multi.fill (T.setVm vm₁) cA cy n.toNatClampNeg k.toNatClampNeg (defaultValue ty) n.toNatClampNeg = F at X' step
  have hTh : (T.setVm vm₁).heap = H := hT
  obtain ⟨f1, f2, -, -⟩ := Jvm.Free.Multi.fill_facts (T.setVm vm₁) cA cy n.toNatClampNeg k.toNatClampNeg (defaultValue ty) n.toNatClampNeg
  rw [hF, hTh] at f1 f2
  have hold : ∀ x : Nat, x < H.size → F.heap[x]? = H[x]? := fun x hx => by
    have := Jvm.Free.Multi.fill_old (T.setVm vm₁) cA cy n.toNatClampNeg k.toNatClampNeg (defaultValue ty) (a := x) (by rw [hTh]; exact hx) n.toNatClampNeg
    rw [hF, hTh] at this
    exact this
  have hrow : ∀ j : Nat, j < n.toNatClampNeg → F.heap[H.size + 1 + j]? = some (vp_cell cy z) := fun j hj => by
    have := Jvm.Free.Multi.fill_inner (T.setVm vm₁) cA cy n.toNatClampNeg k.toNatClampNeg (defaultValue ty) n.toNatClampNeg j hj
    rw [hF, hTh, hz] at this
    exact this
  have hout : Jvm.Free.Multi.outerC cA n.toNatClampNeg H.size n.toNatClampNeg = vp_cell cA (n.toNatClampNeg, .inr (.inr (.inr (.inr (fun i => if i < n.toNatClampNeg then some (H.size + 1 + i) else none))))) := by
    rw [vp_cell_q]
    exact vr_outer cA n.toNatClampNeg H.size n.toNatClampNeg
  rw [hout] at f2
  have hlt : ∀ a, a ∈ L → a < H.size := fun a ha => by
    obtain ⟨k9, hk9⟩ := va_pl_get (X := X) (f := f) ha
    exact (hP k9 _ hk9).lt
  have hnl : ∀ i : Nat, i < n.toNatClampNeg → H.size + 1 + i ∉ L := fun i _ h => by
    have := hlt _ h
    omega
  have hnm : ∀ a, a ∈ (List.range n.toNatClampNeg).map (fun i => H.size + 1 + i) → a ∉ L := fun a ha h => by
    obtain ⟨i, -, rfl⟩ := List.mem_map.mp ha
    have := hlt _ h
    omega
  have hP0 : va_P D cl (X ++ va_pl L f) F.heap := hP.kept (fun k9 x hx => hold x.1 ((hP k9 x hx).lt))
  have hP1 : va_P D cl ((X ++ va_pl L f) ++ [(H.size, .inl (cA, n.toNatClampNeg, .inr (.inr (.inr (.inr (fun i => if i < n.toNatClampNeg then some (H.size + 1 + i) else none))))))]) F.heap := hP0.app (fun k9 x hx => by
    have h0 : k9 < 1 := (List.getElem?_eq_some_iff.mp hx).1
    rw [show k9 = 0 by omega] at hx
    cases hx
    exact f2)
  have hP2 : va_P D cl (((X ++ va_pl L f) ++ [(H.size, .inl (cA, n.toNatClampNeg, .inr (.inr (.inr (.inr (fun i => if i < n.toNatClampNeg then some (H.size + 1 + i) else none))))))]) ++ ((List.range n.toNatClampNeg).map (fun i => H.size + 1 + i)).map (fun a => (a, .inl (cy, z)))) F.heap := hP1.app (fun k9 x hx => by
    obtain ⟨a, ha, rfl⟩ := List.mem_map.mp (List.mem_of_getElem? hx)
    obtain ⟨i, hi, rfl⟩ := List.mem_map.mp ha
    exact hrow i (List.mem_range.mp hi))
  have hD2 : va_D A (((X ++ va_pl L f) ++ [(H.size, .inl (cA, n.toNatClampNeg, .inr (.inr (.inr (.inr (fun i => if i < n.toNatClampNeg then some (H.size + 1 + i) else none))))))]) ++ ((List.range n.toNatClampNeg).map (fun i => H.size + 1 + i)).map (fun a => (a, .inl (cy, z)))) := by
    have hD1 := hD.push (e := .inl (cA, n.toNatClampNeg, .inr (.inr (.inr (.inr (fun i => if i < n.toNatClampNeg then some (H.size + 1 + i) else none)))))) hP rfl (hA _ hS.1)
    generalize hW1 : (X ++ va_pl L f) ++ [(H.size, .inl (cA, n.toNatClampNeg, .inr (.inr (.inr (.inr (fun i => if i < n.toNatClampNeg then some (H.size + 1 + i) else none))))))] = W1 at hD1 hP1 ⊢
    have hle : ∀ (k9 : Nat) (x : Nat × va_E), W1[k9]? = some x → x.1 ≤ H.size := fun k9 x hx => by
      rw [← hW1] at hx
      by_cases hl : k9 < (X ++ va_pl L f).length
      · rw [List.getElem?_append_left hl] at hx
        exact Nat.le_of_lt ((hP k9 x hx).lt)
      · rw [List.getElem?_append_right (by omega)] at hx
        have h0 : k9 - (X ++ va_pl L f).length < 1 := (List.getElem?_eq_some_iff.mp hx).1
        rw [show k9 - (X ++ va_pl L f).length = 0 by omega] at hx
        cases hx
        exact Nat.le_refl _
    have hr : ∀ (k9 : Nat) (x : Nat × va_E), (((List.range n.toNatClampNeg).map (fun i => H.size + 1 + i)).map (fun a => ((a, .inl (cy, z)) : Nat × va_E)))[k9]? = some x → x.1 = H.size + 1 + k9 := fun k9 x hx => by
      rw [List.getElem?_map, List.getElem?_map] at hx
      by_cases h9 : k9 < n.toNatClampNeg
      · rw [List.getElem?_range h9] at hx
        cases hx
        rfl
      · have hn0 : (List.range n.toNatClampNeg)[k9]? = none := List.getElem?_eq_none (by rw [List.length_range]; omega)
        rw [hn0] at hx
        cases hx
    refine ⟨fun i j x y hi hj hxy => ?_, fun k9 x hx => ?_⟩
    · by_cases h1 : i < W1.length <;> by_cases h2 : j < W1.length
      · rw [List.getElem?_append_left h1] at hi
        rw [List.getElem?_append_left h2] at hj
        exact hD1.1 i j x y hi hj hxy
      · rw [List.getElem?_append_left h1] at hi
        rw [List.getElem?_append_right (by omega)] at hj
        have := hle _ _ hi
        have := hr _ _ hj
        omega
      · rw [List.getElem?_append_right (by omega)] at hi
        rw [List.getElem?_append_left h2] at hj
        have := hle _ _ hj
        have := hr _ _ hi
        omega
      · rw [List.getElem?_append_right (by omega)] at hi hj
        have := hr _ _ hi
        have := hr _ _ hj
        omega
    · by_cases h1 : k9 < W1.length
      · rw [List.getElem?_append_left h1] at hx
        exact hD1.2 k9 x hx
      · rw [List.getElem?_append_right (by omega)] at hx
        have := hr _ _ hx
        exact hA _ (by have := hS.1; omega)
  have hAr : ArrOfT s cA (.array ty) := fun N9 z9 => by
    obtain ⟨-, k9, hk9, cm9, hkk9⟩ := (hO 0 0 0).1
    exact ⟨(fun q hq => by cases hq), k9, hk9, cm9, hkk9⟩
  have hK2 : va_K D cl (tys ++ [(cA, .array ty)]) s := ⟨hK.1, fun k9 x hx => by
    by_cases hl : k9 < tys.length
    · rw [List.getElem?_append_left hl] at hx
      exact hK.2 k9 x hx
    · rw [List.getElem?_append_right (by omega)] at hx
      have h0 : k9 - tys.length < 1 := (List.getElem?_eq_some_iff.mp hx).1
      rw [show k9 - tys.length = 0 by omega] at hx
      cases hx
      exact ⟨hAr, fA⟩⟩
  obtain ⟨t, a1, b1⟩ := kk H.size (fun i => H.size + 1 + i) cA F.heap (fun i j _ _ h => by have h9 : H.size + 1 + i = H.size + 1 + j := h; omega) hnl hK2 (by rw [← vr_rows hnm]; exact vr_lay hP2) (by rw [← vr_rows hnm]; exact vr_layD hD2) ⟨by rw [f1]; have := hS.1; omega, fun x h1 h2 => (hold x (Nat.lt_of_lt_of_le h1 hS.1)).trans (hS.2.1 x h1 h2), hS.2.2⟩ F rfl X'
  refine ⟨t, step t ?_, b1⟩
  have e : T.heap.size = H.size := by rw [hT]
  rw [e]
  exact a1
end VGM
/-! ===== END ===== -/

/-! ===== BEGIN exceptions that leave a method, and their catching by the caller (launches without stack traces) ===== -/
section VXA
/-! The laws vx_back, vx_callV, vx_callS, vx_callSW, vx_throw0, vx_throwS follow proofs of the library, with one case more: JvmDerived/Free/Laws.lean (Back.of_free), Shelf42/LK1.lean (callV, callS), Shelf/KitTraced.lean (throwNew0V, throwNewS). -/
/-- where a method has thrown q: the class by its name, the cell, what was written, the world -/
def vx_T (XC : String → State → State → Prop) (st : State) (q : Addr) (t : State) (mc ms : Nat) (free : Addr → Prop) : Prop :=
  ∃ (E : String) (ce : Cell) (L : List Loc), XC E st t ∧ t.heap[q]? = some ce ∧ ce.vm = .none ∧ st.vm.findClass E = some ce.cls ∧ st.WarmedH t.vm ∧ st.sameButNew ({ t with vm := st.vm } : State) L mc ms ∧ ∀ z ∈ L, free z.base
def vx_Q (Qc : Array Value → State → Outcome → State → Prop) (XC : String → State → State → Prop) (mc ms : Nat) (free : Addr → Prop) : Array Value → State → Outcome → State → Prop := fun a st o t =>
  (Qc a st o t ∧ ∃ L, FrameEnd st o t L mc ms ∧ ∀ q ∈ L, free q.base) ∨ ∃ q, o = .threw q ∧ vx_T XC st q t mc ms free
/-- a callee that returns or throws -/
def vx_Met (l : Launch) (y : MethodName) (ws : List Cond) (rm : Room) (Pc : Array Value → State → Prop) (Qc : Array Value → State → Outcome → State → Prop) (XC : String → State → State → Prop) (mc ms : Nat) (free : Addr → Prop) : Prop :=
  MetFree l y (headSpec ws rm) Pc (fun _ _ _ _ _ => True) (vx_Q Qc XC mc ms free)
def vx_Post (XC : String → State → State → Prop) (mc ms : Nat) (free : Addr → Prop) : Pt → Array Value → Addr → Pt → Prop := fun A a q B =>
  ∃ (g : JFrame) (mk : MethodId) (t : State) (L : List Loc) (E : String) (ce : Cell), B.U.heap = t.heap ∧ B.U.vm = t.vm ∧ XC E (A.U.calling g mk a) t ∧ t.heap[q]? = some ce ∧ ce.vm = .none ∧ A.U.vm.findClass E = some ce.cls ∧ B.locs = A.locs ++ L ∧ (∀ z ∈ L, free z.base) ∧ B.cells = A.cells + mc ∧ B.slots = A.slots + ms
def vx_Back (l : Launch) (R : Room) (p : Program) (e : Env) (below : List Frame) (s : State) (sargs : Array Value) (y : MethodName) (len W9 : Nat)
    (Pre : Pt → Array Value → Prop) (Post : Pt → Array Value → Option Value → Pt → Prop) (PostX : Pt → Array Value → Addr → Pt → Prop) : Prop :=
  ∀ (m : MethodId) (meth : Method) (c : Code) (A : Pt) (g : JFrame) (ig : Instr) (mk : MethodId) (a : Array Value),
    Stand p l e R s m sargs below meth c A.U A.locs A.cells A.slots → g.method = m → g.locals.size = c.maxLocals → decode c.code g.pc = .ok (ig, len) →
    2 * g.monitorRoom + (g.stack.map fun v => v.category).sum ≤ W9 → A.U.methodNamed? y = some mk → Pre A a →
    (∃ (v : Option Value) (B : Pt), Stand p l e R s m sargs below meth c B.U B.locs B.cells B.slots ∧ Post A a v B ∧
      Steps p.tables e below (doInvoke e (A.U.setTop g) [] mk a).1 (B.U.setTop { g with pc := g.pc + len, stack := v.toList ++ g.stack })) ∨
    (∃ (q : Addr) (B : Pt), Stand p l e R s m sargs below meth c B.U B.locs B.cells B.slots ∧ PostX A a q B ∧
      Steps p.tables e below (doInvoke e (A.U.setTop g) [] mk a).1 ((B.U.setTop g).pushFrame (.throwing q)))
section Payer
variable {l : Launch} {R : Room} {p : Program} {e : Env} {below : List Frame} {s : State} {sargs : Array Value} {y : MethodName} {len W9 : Nat}
theorem vx_back {ws : List Cond} {rm : Room} {Pc : Array Value → State → Prop} {Qc : Array Value → State → Outcome → State → Prop} {XC : String → State → State → Prop} {mc ms : Nat} {free : Addr → Prop} {bytes : ByteArray} {maxL : Nat} {ret : Option FieldType}
    (hM : vx_Met l y ws rm Pc Qc XC mc ms free) (hblind : FrameBlind Pc) (hrc : rm.cells = mc) (hrs : rm.slots = ms)
    (hframes : rm.frames + 1 ≤ R.frames) (hlocals : W9 + (maxL + 11) + rm.locals ≤ R.locals)
    (hws : ∀ w ∈ ws, ∀ a' U, s.WarmedH U.vm → w.before a' U = true) (hcode : Cond.code y bytes maxL ret ∈ ws) (hinit : ∀ a' U, s.WarmedH U.vm → (Cond.initialized y.cls).before a' U = true) :
    vx_Back l R p e below s sargs y len W9 (PreOf R mc ms Pc) (PostOf Qc mc ms free) (vx_Post XC mc ms free) := by
  intro m meth c A g ig mk a X hg hsize hdg hW hn hp
  have h1 : (headSpec ws rm).pre.before a A.U = true := atoms_intro fun w hw => hws w hw _ _ X.warmed
  have h2 : (Cond.code y bytes maxL ret).before a A.U = true := hws _ hcode _ _ X.warmed
  have h3 : (Cond.initialized y.cls).before a A.U = true := hinit _ _ X.warmed
  have h4 : A.cells + (headSpec ws rm).room.cells ≤ R.cells := by rw [show (headSpec ws rm).room.cells = mc from hrc]; exact hp.1
  have h5 : A.slots + (headSpec ws rm).room.slots ≤ R.slots := by rw [show (headSpec ws rm).room.slots = ms from hrs]; exact hp.2.1
  have hPc : Pc a (A.U.calling g mk a) := hblind _ _ _ _ hp.2.2
  obtain ⟨U, Ls, c0, s0⟩ := A
  dsimp only [Pt.U, Pt.locs, Pt.cells, Pt.slots] at h1 h2 h3 h4 h5 X hn hPc ⊢
  obtain ⟨methY, cY, hmY, hcY, -, hlY, -, -, -, -⟩ := Cond.code_spec hn h2
  obtain ⟨kY, hkY, -⟩ := className_of_methodNamed hn
  have hinitY : kY.init = .initialized := Cond.initialized_spec (findClass_of_methodNamed hn) hkY h3
  have h : At U g.method c below := by rw [hg]; exact X.here
  have hlocals9 : W9 + (maxL + 11) + (headSpec ws rm).room.locals ≤ R.locals := hlocals
  have happ : (headSpec ws rm).appliesLoose y e.platform (U.calling g mk a) = true :=
    Spec.appliesLoose_calling (g := g) h hdg hn hkY hinitY
      (X.room_calling (g := g) (R' := (headSpec ws rm).room) hsize hmY hcY hframes (by rw [hlY]; omega) h4 h5) h1
  obtain ⟨mid, hmid⟩ := h.above
  have hfr : (U.setTop g).frames = (.java g :: mid) ++ below := by rw [State.frames_setTop' g h.top, hmid]; rfl
  obtain ⟨o, s₂, hsteps, -, hend, hq⟩ := Steps.callFree hM p X.admits X.cas X.clock (acts := []) hfr happ hPc trivial
  have hq' : vx_Q Qc XC mc ms free a (U.calling g mk a) o s₂ := hq
  rw [State.frames_setTop' g h.top] at hend
  obtain ⟨g₀, hg0⟩ := Option.isSome_iff_exists.mp h.top
  obtain ⟨r, hr⟩ := State.topJava?_eq_some.mp hg0
  have hr' : (({ U with heap := s₂.heap, slotsUsed := s₂.slotsUsed } : State).setVm s₂.vm).frames = .java g₀ :: r := hr
  rcases hq' with ⟨hqc, L, hfe, hL⟩ | ⟨q, rfl, E, ce, L, hx, hce, hcv, hcl, hW₂, hsm, hL⟩
  · obtain ⟨⟨v, rfl⟩, hW₂, e2, q2, q3, q4, q5, q6⟩ := id hfe
    have e3 : s₂ = ({ (U.calling g mk a).setFrames s₂.frames with heap := s₂.heap, slotsUsed := s₂.slotsUsed } : State).setVm s₂.vm := by
      have : s₂ = ({ s₂ with vm := (U.calling g mk a).vm } : State).setVm s₂.vm := rfl
      rw [e2] at this
      exact this
    obtain ⟨c₂, i₂, len₂, hc₂, hd₂, hf₂⟩ := hend
    have hW' : U.WarmedH s₂.vm := hW₂
    have hcc : c₂ = c := by
      have h1 : s₂.code? g.method = U.code? g.method := by
        rw [State.code?_eq, State.code?_eq, hW'.alike.method?]
      exact Option.some.inj (hc₂.symm.trans (h1.trans h.code))
    subst hcc
    have hlen : len₂ = len := by rw [hdg] at hd₂; cases hd₂; rfl
    subst hlen
    have hs₂ : s₂ = (({ U with heap := s₂.heap, slotsUsed := s₂.slotsUsed } : State).setVm s₂.vm).setTop { g with pc := g.pc + len₂, stack := v.toList ++ g.stack } := by
      refine e3.trans ?_
      rw [hf₂, State.calling_eq h.top, State.setFrames_setFrames, State.setTop_of_frames _ hr', hr]
      rfl
    have hsame : U.sameButNew ({ U with heap := s₂.heap, slotsUsed := s₂.slotsUsed } : State) L mc ms := by
      refine ⟨?_, q2, q3, q4, q5, q6⟩
      obtain ⟨t, ht, -⟩ := State.frames_cons hr
      show ({ U with heap := s₂.heap, slotsUsed := s₂.slotsUsed } : State) = { U.setFrames U.frames with heap := s₂.heap, slotsUsed := s₂.slotsUsed }
      rw [State.setFrames_self ht]
    subst hg
    refine Or.inl ⟨v, ⟨(({ U with heap := s₂.heap, slotsUsed := s₂.slotsUsed } : State).setVm s₂.vm), Ls ++ L, c0 + mc, s0 + ms⟩,
      ⟨X.admits, X.cas, X.clock, X.frames, X.room, X.hears, X.method, X.code, (X.here.setHeapUsed s₂.heap s₂.slotsUsed).setVm hW'.alike, X.tail, State.WarmedH.trans X.warmed hW', X.limits, X.bytes, X.same.trans (hsame.setVm s.vm)⟩,
      ⟨g, mk, s₂, L, rfl, rfl, hqc, rfl, hL, rfl, rfl⟩, ?_⟩
    show Steps p.tables e below _ ((({ U with heap := s₂.heap, slotsUsed := s₂.slotsUsed } : State).setVm s₂.vm).setTop { g with pc := g.pc + len₂, stack := v.toList ++ g.stack })
    rw [← hs₂]
    exact hsteps
  · obtain ⟨e2, q2, q3, q4, q5, q6⟩ := id hsm
    have e3 : s₂ = ({ (U.calling g mk a).setFrames s₂.frames with heap := s₂.heap, slotsUsed := s₂.slotsUsed } : State).setVm s₂.vm := by
      have : s₂ = ({ s₂ with vm := (U.calling g mk a).vm } : State).setVm s₂.vm := rfl
      rw [e2] at this
      exact this
    have hf₂ : s₂.frames = .throwing q :: .java g :: U.frames.tail := hend
    have hW' : U.WarmedH s₂.vm := hW₂
    have hs₂ : s₂ = ((({ U with heap := s₂.heap, slotsUsed := s₂.slotsUsed } : State).setVm s₂.vm).setTop g).pushFrame (.throwing q) := by
      refine e3.trans ?_
      rw [hf₂, State.calling_eq h.top, State.setFrames_setFrames, State.pushFrame, State.frames_setTop _ hr', State.setTop_of_frames _ hr', State.setFrames_setFrames, hr]
      rfl
    have hsame : U.sameButNew ({ U with heap := s₂.heap, slotsUsed := s₂.slotsUsed } : State) L mc ms := by
      refine ⟨?_, q2, q3, q4, q5, q6⟩
      obtain ⟨t, ht, -⟩ := State.frames_cons hr
      show ({ U with heap := s₂.heap, slotsUsed := s₂.slotsUsed } : State) = { U.setFrames U.frames with heap := s₂.heap, slotsUsed := s₂.slotsUsed }
      rw [State.setFrames_self ht]
    subst hg
    refine Or.inr ⟨q, ⟨(({ U with heap := s₂.heap, slotsUsed := s₂.slotsUsed } : State).setVm s₂.vm), Ls ++ L, c0 + mc, s0 + ms⟩,
      ⟨X.admits, X.cas, X.clock, X.frames, X.room, X.hears, X.method, X.code, (X.here.setHeapUsed s₂.heap s₂.slotsUsed).setVm hW'.alike, X.tail, State.WarmedH.trans X.warmed hW', X.limits, X.bytes, X.same.trans (hsame.setVm s.vm)⟩,
      ⟨g, mk, s₂, L, E, ce, rfl, rfl, hx, hce, hcv, hcl, rfl, hL, rfl, rfl⟩, ?_⟩
    show Steps p.tables e below _ (((({ U with heap := s₂.heap, slotsUsed := s₂.slotsUsed } : State).setVm s₂.vm).setTop g).pushFrame (.throwing q))
    rw [← hs₂]
    exact hsteps
end Payer
section Calls
variable {p : Program} {l : Launch} {e : Env} {R : Room} {s : State} {m : MethodId} {args : Array Value} {below : List Frame} {meth : Method} {c : Code} {T : State} {locs : List Loc} {cells slots : Nat}
theorem vx_callV (X : Stand p l e R s m args below meth c T locs cells slots) (hexec : p.tables.exec = Jvm.exec) {own C : String} {index : Nat} {y : MethodName} {bytes : ByteArray} {maxL : Nat} {ret : Option FieldType}
    (hown : s.vm.findClass own = some m.cls) (hlink : (Cond.methodLink own index y).before args s = true) (hinst : (Cond.instanceMethod y).before args s = true) (hsel : (Cond.selects C y y).before args s = true)
    (hcode : (Cond.code y bytes maxL ret).before args s = true) (hy : y.cls ≠ "java/lang/invoke/MethodHandle" ∧ y.cls ≠ "java/lang/invoke/VarHandle")
    {W9 : Nat} {Pre : Pt → Array Value → Prop} {Post : Pt → Array Value → Option Value → Pt → Prop} {PostX : Pt → Array Value → Addr → Pt → Prop} (hK : vx_Back l R p e below s args y 3 W9 Pre Post PostX)
    {b : Addr} {cellB : Cell} (hcell : T.heap[b]? = some cellB) (hobj : cellB.vm.isStatics = false) (hcls : s.vm.findClass C = some cellB.cls)
    {g : JFrame} (hg : g.method = m) (hsize : g.locals.size = c.maxLocals) {argsL rest : List Value} (hlen : ∀ sig, parseMethodDescriptor y.desc = some sig → argsL.length = sig.parameters.length)
    (hstack : g.stack = argsL.reverse ++ .ref b :: rest) (hW : 2 * g.monitorRoom + (rest.map fun v => v.category).sum ≤ W9) (hdg : decode c.code g.pc = .ok (.invokevirtual index, 3))
    (hpre : ∀ vm₁, s.WarmedH vm₁ → Pre ⟨T.setVm vm₁, locs, cells, slots⟩ (Value.ref b :: argsL).toArray) :
    (∃ (v : Option Value) (vm₁ : Vm) (B : Pt), s.WarmedH vm₁ ∧ Stand p l e R s m args below meth c B.U B.locs B.cells B.slots ∧ Post ⟨T.setVm vm₁, locs, cells, slots⟩ (Value.ref b :: argsL).toArray v B ∧
      ∀ target, Steps p.tables e below (B.U.setTop { g with pc := g.pc + 3, stack := v.toList ++ rest }) target → Steps p.tables e below (T.setTop g) target) ∨
    (∃ (q : Addr) (vm₁ : Vm) (B : Pt), s.WarmedH vm₁ ∧ Stand p l e R s m args below meth c B.U B.locs B.cells B.slots ∧ PostX ⟨T.setVm vm₁, locs, cells, slots⟩ (Value.ref b :: argsL).toArray q B ∧
      Steps p.tables e below (T.setTop g) ((B.U.setTop { g with stack := rest }).pushFrame (.throwing q))) := by
  obtain ⟨mk, methM, hnamed, hmethM, hstM, habM⟩ := Cond.instanceMethod_spec hinst
  obtain ⟨methM', cM, hmethM', -, -, -, -, -, -, hsigM⟩ := Cond.code_spec hnamed hcode
  cases hmethM.symm.trans hmethM'
  obtain ⟨c2, r2, m2, q1, q2, q3, q4, kP, hkP, hkPi⟩ := Cond.selects_spec hsel
  cases hcls.symm.trans q1
  cases (State.methodFound?_of_named hnamed hy).symm.trans q2
  cases hnamed.symm.trans q3
  have hselP : selectMethod e.platform s.vm cellB.cls mk = .method mk := by rw [Launch.admits_selectMethod X.admits]; exact q4
  obtain ⟨vm₁, X₁, hstep₁⟩ := X.invokevirtual hexec hown hlink hnamed hmethM hstM hkP hkPi hy (a := b) (cell := cellB) hcell
    (fun z h => by rw [h] at hobj; cases hobj) hselP hmethM habM hkP hkPi (g := g) hg (argsL := argsL) (rest := rest) (hlen _ hsigM) hstack hdg
  rcases hK m meth c ⟨T.setVm vm₁, locs, cells, slots⟩ { g with stack := rest } (.invokevirtual index) mk (Value.ref b :: argsL).toArray X₁ hg hsize hdg hW (X₁.named hnamed) (hpre vm₁ X₁.warmed) with ⟨v, B, X', hpost, hsteps⟩ | ⟨q, B, X', hpost, hsteps⟩
  · exact Or.inl ⟨v, vm₁, B, X₁.warmed, X', hpost, fun target h => hstep₁ _ fun acts => by rw [doInvoke_state]; exact hsteps.trans h⟩
  · exact Or.inr ⟨q, vm₁, B, X₁.warmed, X', hpost, hstep₁ _ fun acts => by rw [doInvoke_state]; exact hsteps⟩
theorem vx_callS (X : Stand p l e R s m args below meth c T locs cells slots) (hexec : p.tables.exec = Jvm.exec) {own : String} {index : Nat} {y : MethodName} {bytes : ByteArray} {maxL : Nat} {ret : Option FieldType}
    (hown : s.vm.findClass own = some m.cls) (hlink : (Cond.methodLink own index y).before args s = true) (hstat : (Cond.static y).before args s = true) (hinit : (Cond.initialized y.cls).before args s = true)
    (hcode : (Cond.code y bytes maxL ret).before args s = true) (hy : y.cls ≠ "java/lang/invoke/MethodHandle" ∧ y.cls ≠ "java/lang/invoke/VarHandle")
    {W9 : Nat} {Pre : Pt → Array Value → Prop} {Post : Pt → Array Value → Option Value → Pt → Prop} {PostX : Pt → Array Value → Addr → Pt → Prop} (hK : vx_Back l R p e below s args y 3 W9 Pre Post PostX)
    {g : JFrame} (hg : g.method = m) (hsize : g.locals.size = c.maxLocals) {argsL rest : List Value} (hlen : ∀ sig, parseMethodDescriptor y.desc = some sig → argsL.length = sig.parameters.length)
    (hstack : g.stack = argsL.reverse ++ rest) (hW : 2 * g.monitorRoom + (rest.map fun v => v.category).sum ≤ W9) (hdg : decode c.code g.pc = .ok (.invokestatic index, 3))
    (hpre : ∀ vm₁, s.WarmedH vm₁ → Pre ⟨T.setVm vm₁, locs, cells, slots⟩ argsL.toArray) :
    (∃ (v : Option Value) (vm₁ : Vm) (B : Pt), s.WarmedH vm₁ ∧ Stand p l e R s m args below meth c B.U B.locs B.cells B.slots ∧ Post ⟨T.setVm vm₁, locs, cells, slots⟩ argsL.toArray v B ∧
      ∀ target, Steps p.tables e below (B.U.setTop { g with pc := g.pc + 3, stack := v.toList ++ rest }) target → Steps p.tables e below (T.setTop g) target) ∨
    (∃ (q : Addr) (vm₁ : Vm) (B : Pt), s.WarmedH vm₁ ∧ Stand p l e R s m args below meth c B.U B.locs B.cells B.slots ∧ PostX ⟨T.setVm vm₁, locs, cells, slots⟩ argsL.toArray q B ∧
      Steps p.tables e below (T.setTop g) ((B.U.setTop { g with stack := rest }).pushFrame (.throwing q))) := by
  obtain ⟨mk, hnamed⟩ := Cond.code_named hcode
  obtain ⟨methM, cM, hmethM, -, -, -, -, -, -, hsigM⟩ := Cond.code_spec hnamed hcode
  have hstatic : methM.isStatic = true := Cond.static_spec hnamed hmethM hstat
  obtain ⟨kP, hkP, -⟩ := className_of_methodNamed hnamed
  have hinitP : kP.init = .initialized := Cond.initialized_spec (findClass_of_methodNamed hnamed) hkP hinit
  obtain ⟨vm₁, X₁, hstep₁⟩ := X.invokestatic hexec hown hlink hnamed hmethM hstatic hkP hinitP hy (g := g) hg (argsL := argsL) (rest := rest) (hlen _ hsigM) hstack hdg
  rcases hK m meth c ⟨T.setVm vm₁, locs, cells, slots⟩ { g with stack := rest } (.invokestatic index) mk argsL.toArray X₁ hg hsize hdg hW (X₁.named hnamed) (hpre vm₁ X₁.warmed) with ⟨v, B, X', hpost, hsteps⟩ | ⟨q, B, X', hpost, hsteps⟩
  · exact Or.inl ⟨v, vm₁, B, X₁.warmed, X', hpost, fun target h => hstep₁ _ fun acts => by rw [doInvoke_state]; exact hsteps.trans h⟩
  · exact Or.inr ⟨q, vm₁, B, X₁.warmed, X', hpost, hstep₁ _ fun acts => by rw [doInvoke_state]; exact hsteps⟩
end Calls
theorem vx_cls {s : State} {T : State} {vm₁ : Vm} {E : String} {k : ClassId} (hW : s.WarmedH vm₁) (h : (T.setVm vm₁).vm.findClass E = some k) : s.vm.findClass E = some k := by
  have h1 : vm₁.findClass E = some k := h
  rw [hW.alike.findClass] at h1
  exact h1
/-- the method's frame g, with q thrown over it -/
def vx_W (p : Program) (l : Launch) (e : Env) (R : Room) (s : State) (m : MethodId) (args : Array Value) (below : List Frame) (meth : Method) (c : Code) (H : Heap) (locs : List Loc) (cells slots : Nat) (Q : State → Prop) (g : JFrame) (q : Addr) : Prop :=
  ∀ T : State, T.heap = H → Stand p l e R s m args below meth c T locs cells slots → ∃ t, Steps p.tables e below ((T.setTop g).pushFrame (.throwing q)) t ∧ Q t
def vx_Run (p : Program) (l : Launch) (e : Env) (R : Room) (s : State) (m : MethodId) (args : Array Value) (below : List Frame) (meth : Method) (c : Code) (H : Heap) (locs : List Loc) (cells slots mc ms : Nat) (g : JFrame) (rest : List Value) (Qa : State → Outcome → State → Prop) (XC : String → State → State → Prop) (free : Addr → Prop) : Prop :=
  ∀ T : State, T.heap = H → Stand p l e R s m args below meth c T locs cells slots →
    (∃ (v : Option Value) (st₀ t T' : State) (L : List Loc), st₀.heap = H ∧ Stand p l e R s m args below meth c T' (locs ++ L) (cells + mc) (slots + ms) ∧ (∀ q ∈ L, free q.base) ∧ T'.heap = t.heap ∧ T'.vm = t.vm ∧ Qa st₀ (.returned v) t ∧
      Goes p e below T g T' { g with pc := g.pc + 3, stack := v.toList ++ rest }) ∨
    (∃ (q : Addr) (st₀ t T' : State) (L : List Loc) (E : String) (ce : Cell), st₀.heap = H ∧ Stand p l e R s m args below meth c T' (locs ++ L) (cells + mc) (slots + ms) ∧ (∀ z ∈ L, free z.base) ∧ T'.heap = t.heap ∧ T'.vm = t.vm ∧ XC E st₀ t ∧ t.heap[q]? = some ce ∧ ce.vm = .none ∧ s.vm.findClass E = some ce.cls ∧
      Steps p.tables e below (T.setTop g) ((T'.setTop { g with stack := rest }).pushFrame (.throwing q)))
def vx_X {S : Type} (px : S → Prop) (B : String → S → State → Prop) (A : Nat → Prop) : String → State → State → Prop := fun E st t => ∃ u : S, px u ∧ B E u t ∧ va_F A st t
section Runs
variable {p : Program} {l : Launch} {e : Env} {R : Room} {s : State} {m : MethodId} {args : Array Value} {below : List Frame} {meth : Method} {c : Code} {H : Heap} {locs : List Loc} {cells slots : Nat}
variable {y : MethodName} {bytes cc : ByteArray} {maxL nL mc ms n index : Nat} {ret : Option FieldType} {ws : List Cond} {rm : Room} {Pc : Array Value → State → Prop} {Qc : Array Value → State → Outcome → State → Prop} {XC : String → State → State → Prop} {free : Addr → Prop} {Ts : List Cond} {own C : String} {b : Addr} {As rest : List Value} {g : JFrame}
theorem vx_callBack (cb : CallB R s args own index y bytes maxL ret ws rm mc ms n) (hM : vx_Met l y ws rm Pc Qc XC mc ms free) (hbl : FrameBlind Pc) : vx_Back l R p e below s args y 3 8 (PreOf R mc ms Pc) (PostOf Qc mc ms free) (vx_Post XC mc ms free) := by
  obtain ⟨hrc, hrs, hfr, hlo, hws, hcw, -, hini, -⟩ := cb
  exact vx_back (bytes := bytes) (maxL := maxL) (ret := ret) hM hbl hrc hrs hfr hlo hws hcw (fun a' U hW => word_at hW (Or.inl (by first | rfl | simp [Cond.onTables, Cond.keeps, Cond.steady])) hini)
theorem vx_runV (S : CallFix p m c cc nL s args Ts own) (hM : vx_Met l y ws rm Pc Qc XC mc ms free) (cw : CallW R s args own C index y bytes maxL ret ws rm mc ms n) (hp : PreV s H C b Pc As)
    (hg : g.method = m) (hn : As.length = n) (hsize : g.locals.size = nL) (hstack : g.stack = As.reverse ++ .ref b :: rest) (hW : 2 * g.monitorRoom + (rest.map fun v => v.category).sum ≤ 8) (hdg : decode cc g.pc = .ok (.invokevirtual index, 3)) (hf : cells + mc ≤ R.cells ∧ slots + ms ≤ R.slots) :
    vx_Run p l e R s m args below meth c H locs cells slots mc ms g rest (Qc (Value.ref b :: As).toArray) XC free := by
  have hK : vx_Back l R p e below s args y 3 8 (PreOf R mc ms Pc) (PostOf Qc mc ms free) (vx_Post XC mc ms free) := vx_callBack cw.1 hM hp.1
  obtain ⟨⟨-, -, -, -, -, -, hcode, -, hy, hlen, hl⟩, hin, hse⟩ := cw
  obtain ⟨hx, hb, hml, ho, -⟩ := S
  obtain ⟨-, ⟨cellB, hcB, hoB, hclB⟩, hPc⟩ := hp
  intro T hT X
  rcases vx_callV X hx (C := C) (bytes := bytes) (maxL := maxL) (ret := ret) ho hl hin hse hcode hy hK (by rw [hT]; exact hcB) hoB hclB hg (hsize.trans hml.symm) (argsL := As) (rest := rest) (fun sig h => hn.trans (hlen sig h)) hstack hW (by rw [hb]; exact hdg)
    (fun vm₁ hW₁ => ⟨hf.1, hf.2, hPc (T.setVm vm₁) hT hW₁⟩) with ⟨v, vm₁, ⟨U', l2, c2, s2⟩, hW₁, X', ⟨g', mk, t, L, e1, e2, hq, h1, hL, h2, h3⟩, st⟩ | ⟨q, vm₁, ⟨U', l2, c2, s2⟩, hW₁, X', ⟨g', mk, t, L, E, ce, e1, e2, hq, hce, hcv, hcl, h1, hL, h2, h3⟩, st⟩
  · dsimp only [Pt.U, Pt.locs, Pt.cells, Pt.slots] at X' e1 e2 h1 h2 h3 st
    subst h1; subst h2; subst h3
    exact Or.inl ⟨v, (T.setVm vm₁).calling g' mk (Value.ref b :: As).toArray, t, U', L, hT, X', hL, e1, e2, hq, st⟩
  · dsimp only [Pt.U, Pt.locs, Pt.cells, Pt.slots] at X' e1 e2 h1 h2 h3 st hcl
    subst h1; subst h2; subst h3
    exact Or.inr ⟨q, (T.setVm vm₁).calling g' mk (Value.ref b :: As).toArray, t, U', L, E, ce, hT, X', hL, e1, e2, hq, hce, hcv, vx_cls hW₁ hcl, st⟩
theorem vx_runS (S : CallFix p m c cc nL s args Ts own) (hM : vx_Met l y ws rm Pc Qc XC mc ms free) (cw : CallB R s args own index y bytes maxL ret ws rm mc ms n ∧ (Cond.static y).before args s = true) (hp : PreS s H Pc As)
    (hg : g.method = m) (hn : As.length = n) (hsize : g.locals.size = nL) (hstack : g.stack = As.reverse ++ rest) (hW : 2 * g.monitorRoom + (rest.map fun v => v.category).sum ≤ 8) (hdg : decode cc g.pc = .ok (.invokestatic index, 3)) (hf : cells + mc ≤ R.cells ∧ slots + ms ≤ R.slots) :
    vx_Run p l e R s m args below meth c H locs cells slots mc ms g rest (Qc As.toArray) XC free := by
  have hK : vx_Back l R p e below s args y 3 8 (PreOf R mc ms Pc) (PostOf Qc mc ms free) (vx_Post XC mc ms free) := vx_callBack cw.1 hM hp.1
  obtain ⟨⟨-, -, -, -, -, -, hcode, hini, hy, hlen, hl⟩, hstt⟩ := cw
  obtain ⟨hx, hb, hml, ho, -⟩ := S
  intro T hT X
  rcases vx_callS X hx (bytes := bytes) (maxL := maxL) (ret := ret) ho hl hstt hini hcode hy hK hg (hsize.trans hml.symm) (argsL := As) (rest := rest) (fun sig h => hn.trans (hlen sig h)) hstack hW (by rw [hb]; exact hdg)
    (fun vm₁ hW₁ => ⟨hf.1, hf.2, hp.2 (T.setVm vm₁) hT hW₁⟩) with ⟨v, vm₁, ⟨U', l2, c2, s2⟩, hW₁, X', ⟨g', mk, t, L, e1, e2, hq, h1, hL, h2, h3⟩, st⟩ | ⟨q, vm₁, ⟨U', l2, c2, s2⟩, hW₁, X', ⟨g', mk, t, L, E, ce, e1, e2, hq, hce, hcv, hcl, h1, hL, h2, h3⟩, st⟩
  · dsimp only [Pt.U, Pt.locs, Pt.cells, Pt.slots] at X' e1 e2 h1 h2 h3 st
    subst h1; subst h2; subst h3
    exact Or.inl ⟨v, (T.setVm vm₁).calling g' mk As.toArray, t, U', L, hT, X', hL, e1, e2, hq, st⟩
  · dsimp only [Pt.U, Pt.locs, Pt.cells, Pt.slots] at X' e1 e2 h1 h2 h3 st hcl
    subst h1; subst h2; subst h3
    exact Or.inr ⟨q, (T.setVm vm₁).calling g' mk As.toArray, t, U', L, E, ce, hT, X', hL, e1, e2, hq, hce, hcv, vx_cls hW₁ hcl, st⟩
end Runs
section Rows
variable {p : Program} {l : Launch} {e : Env} {R : Room} {s : State} {m : MethodId} {args : Array Value} {below : List Frame} {meth : Method} {c : Code} {H : Heap} {locs : List Loc} {cells slots : Nat} {Q : State → Prop}
variable {mc ms : Nat} {free : Addr → Prop} {A0 A1 : Nat → Prop} {H0 : Heap} {a : Array Value} {pc : Nat} {ls : Array Slot} {st0 rest : List Value}
theorem vx_keep {st₀ t T' : State} {L : List Loc} (h0 : st₀.heap = H) (e1 : T'.heap = t.heap) (hS : va_S A0 H0 H locs) (hA : ∀ q, q < H.size → A1 q → A0 q) (hf : ∀ q, free q → A0 q) (hL : ∀ q ∈ L, free q.base) (hF : va_F A1 st₀ t) :
    H.size ≤ T'.heap.size ∧ (∀ q : Nat, q < H.size → ¬ A1 q → T'.heap[q]? = H[q]?) ∧ va_S A0 H0 T'.heap (locs ++ L) := by
  obtain ⟨hz, hk⟩ := hF
  rw [h0] at hz hk
  exact ⟨by rw [e1]; exact hz, fun q h1 h2 => by rw [e1]; exact hk q h1 h2,
    ⟨Nat.le_trans hS.1 (by rw [e1]; exact hz), fun q h1 h2 => by rw [e1, hk q (Nat.lt_of_lt_of_le h1 hS.1) (fun z => h2 (hA q (Nat.lt_of_lt_of_le h1 hS.1) z))]; exact hS.2.1 q h1 h2, fun q hq => by
      rcases List.mem_append.mp hq with h | h
      · exact hS.2.2 q h
      · exact hf _ (hL q h)⟩⟩
theorem vx_calli {S SX : Type} {post : Int32 → S → Prop} {px : SX → Prop} {B : S → State → Prop} {BX : String → SX → State → Prop} {AX : Nat → Prop} (hr : vx_Run p l e R s m args below meth c H locs cells slots mc ms (F0 m pc ls st0) rest (va_Qi post B A1 a) (vx_X px BX AX) free) (hS : va_S A0 H0 H locs) (hA : ∀ q, q < H.size → A1 q → A0 q) (hf : ∀ q, free q → A0 q) (hAX : ∀ q, q < H.size → AX q → A0 q)
    (kx : ∀ (E : String) (ce : Cell) (q9 : Addr) (u : SX) (t : State) (H1 : Heap) (locs1 : List Loc), t.heap = H1 → s.vm.Alike t.vm → px u → BX E u t → H.size ≤ H1.size → (∀ q : Nat, q < H.size → ¬ AX q → H1[q]? = H[q]?) → va_S A0 H0 H1 locs1 → H1[q9]? = some ce → ce.vm = .none → s.vm.findClass E = some ce.cls → vx_W p l e R s m args below meth c H1 locs1 (cells + mc) (slots + ms) Q (F0 m pc ls rest) q9)
    (kk : ∀ (r : Int32) (u : S) (t : State) (H1 : Heap) (locs1 : List Loc), t.heap = H1 → s.vm.Alike t.vm → post r u → B u t → H.size ≤ H1.size → (∀ q : Nat, q < H.size → ¬ A1 q → H1[q]? = H[q]?) → va_S A0 H0 H1 locs1 → W p l e R s m args below meth c H1 locs1 (cells + mc) (slots + ms) Q (F0 m (pc + 3) ls (.int r :: rest))) : W p l e R s m args below meth c H locs cells slots Q (F0 m pc ls st0) := by
  intro T hT X
  rcases hr T hT X with ⟨v, st₀, t, T', L, h0, X', hL, e1, e2, ⟨⟨r, u, hv, hp, hb⟩, hF⟩, st⟩ | ⟨q, st₀, t, T', L, E, ce, h0, X', hL, e1, e2, ⟨u, hp, hb, hF⟩, hce, hcv, hcl, st⟩
  · cases hv
    obtain ⟨k1, k2, k3⟩ := vx_keep h0 e1 hS hA hf hL hF
    obtain ⟨t2, a1, b1⟩ := kk r u t T'.heap (locs ++ L) e1.symm (by rw [← e2]; exact X'.warmed.alike) hp hb k1 k2 k3 T' rfl X'
    exact ⟨t2, st t2 a1, b1⟩
  · obtain ⟨k1, k2, k3⟩ := vx_keep h0 e1 hS hAX hf hL hF
    obtain ⟨t2, a1, b1⟩ := kx E ce q u t T'.heap (locs ++ L) e1.symm (by rw [← e2]; exact X'.warmed.alike) hp hb k1 k2 k3 (by rw [e1]; exact hce) hcv hcl T' rfl X'
    exact ⟨t2, st.trans a1, b1⟩
theorem vx_calll {S SX : Type} {post : Int64 → S → Prop} {px : SX → Prop} {B : S → State → Prop} {BX : String → SX → State → Prop} {AX : Nat → Prop} (hr : vx_Run p l e R s m args below meth c H locs cells slots mc ms (F0 m pc ls st0) rest (va_Ql post B A1 a) (vx_X px BX AX) free) (hS : va_S A0 H0 H locs) (hA : ∀ q, q < H.size → A1 q → A0 q) (hf : ∀ q, free q → A0 q) (hAX : ∀ q, q < H.size → AX q → A0 q)
    (kx : ∀ (E : String) (ce : Cell) (q9 : Addr) (u : SX) (t : State) (H1 : Heap) (locs1 : List Loc), t.heap = H1 → s.vm.Alike t.vm → px u → BX E u t → H.size ≤ H1.size → (∀ q : Nat, q < H.size → ¬ AX q → H1[q]? = H[q]?) → va_S A0 H0 H1 locs1 → H1[q9]? = some ce → ce.vm = .none → s.vm.findClass E = some ce.cls → vx_W p l e R s m args below meth c H1 locs1 (cells + mc) (slots + ms) Q (F0 m pc ls rest) q9)
    (kk : ∀ (r : Int64) (u : S) (t : State) (H1 : Heap) (locs1 : List Loc), t.heap = H1 → s.vm.Alike t.vm → post r u → B u t → H.size ≤ H1.size → (∀ q : Nat, q < H.size → ¬ A1 q → H1[q]? = H[q]?) → va_S A0 H0 H1 locs1 → W p l e R s m args below meth c H1 locs1 (cells + mc) (slots + ms) Q (F0 m (pc + 3) ls (.long r :: rest))) : W p l e R s m args below meth c H locs cells slots Q (F0 m pc ls st0) := by
  intro T hT X
  rcases hr T hT X with ⟨v, st₀, t, T', L, h0, X', hL, e1, e2, ⟨⟨r, u, hv, hp, hb⟩, hF⟩, st⟩ | ⟨q, st₀, t, T', L, E, ce, h0, X', hL, e1, e2, ⟨u, hp, hb, hF⟩, hce, hcv, hcl, st⟩
  · cases hv
    obtain ⟨k1, k2, k3⟩ := vx_keep h0 e1 hS hA hf hL hF
    obtain ⟨t2, a1, b1⟩ := kk r u t T'.heap (locs ++ L) e1.symm (by rw [← e2]; exact X'.warmed.alike) hp hb k1 k2 k3 T' rfl X'
    exact ⟨t2, st t2 a1, b1⟩
  · obtain ⟨k1, k2, k3⟩ := vx_keep h0 e1 hS hAX hf hL hF
    obtain ⟨t2, a1, b1⟩ := kx E ce q u t T'.heap (locs ++ L) e1.symm (by rw [← e2]; exact X'.warmed.alike) hp hb k1 k2 k3 (by rw [e1]; exact hce) hcv hcl T' rfl X'
    exact ⟨t2, st.trans a1, b1⟩
theorem vx_callf {S SX : Type} {post : UInt32 → S → Prop} {px : SX → Prop} {B : S → State → Prop} {BX : String → SX → State → Prop} {AX : Nat → Prop} (hr : vx_Run p l e R s m args below meth c H locs cells slots mc ms (F0 m pc ls st0) rest (va_Qf post B A1 a) (vx_X px BX AX) free) (hS : va_S A0 H0 H locs) (hA : ∀ q, q < H.size → A1 q → A0 q) (hf : ∀ q, free q → A0 q) (hAX : ∀ q, q < H.size → AX q → A0 q)
    (kx : ∀ (E : String) (ce : Cell) (q9 : Addr) (u : SX) (t : State) (H1 : Heap) (locs1 : List Loc), t.heap = H1 → s.vm.Alike t.vm → px u → BX E u t → H.size ≤ H1.size → (∀ q : Nat, q < H.size → ¬ AX q → H1[q]? = H[q]?) → va_S A0 H0 H1 locs1 → H1[q9]? = some ce → ce.vm = .none → s.vm.findClass E = some ce.cls → vx_W p l e R s m args below meth c H1 locs1 (cells + mc) (slots + ms) Q (F0 m pc ls rest) q9)
    (kk : ∀ (r : UInt32) (u : S) (t : State) (H1 : Heap) (locs1 : List Loc), t.heap = H1 → s.vm.Alike t.vm → post r u → B u t → H.size ≤ H1.size → (∀ q : Nat, q < H.size → ¬ A1 q → H1[q]? = H[q]?) → va_S A0 H0 H1 locs1 → W p l e R s m args below meth c H1 locs1 (cells + mc) (slots + ms) Q (F0 m (pc + 3) ls (.float r :: rest))) : W p l e R s m args below meth c H locs cells slots Q (F0 m pc ls st0) := by
  intro T hT X
  rcases hr T hT X with ⟨v, st₀, t, T', L, h0, X', hL, e1, e2, ⟨⟨r, u, hv, hp, hb⟩, hF⟩, st⟩ | ⟨q, st₀, t, T', L, E, ce, h0, X', hL, e1, e2, ⟨u, hp, hb, hF⟩, hce, hcv, hcl, st⟩
  · cases hv
    obtain ⟨k1, k2, k3⟩ := vx_keep h0 e1 hS hA hf hL hF
    obtain ⟨t2, a1, b1⟩ := kk r u t T'.heap (locs ++ L) e1.symm (by rw [← e2]; exact X'.warmed.alike) hp hb k1 k2 k3 T' rfl X'
    exact ⟨t2, st t2 a1, b1⟩
  · obtain ⟨k1, k2, k3⟩ := vx_keep h0 e1 hS hAX hf hL hF
    obtain ⟨t2, a1, b1⟩ := kx E ce q u t T'.heap (locs ++ L) e1.symm (by rw [← e2]; exact X'.warmed.alike) hp hb k1 k2 k3 (by rw [e1]; exact hce) hcv hcl T' rfl X'
    exact ⟨t2, st.trans a1, b1⟩
theorem vx_calld {S SX : Type} {post : UInt64 → S → Prop} {px : SX → Prop} {B : S → State → Prop} {BX : String → SX → State → Prop} {AX : Nat → Prop} (hr : vx_Run p l e R s m args below meth c H locs cells slots mc ms (F0 m pc ls st0) rest (va_Qd post B A1 a) (vx_X px BX AX) free) (hS : va_S A0 H0 H locs) (hA : ∀ q, q < H.size → A1 q → A0 q) (hf : ∀ q, free q → A0 q) (hAX : ∀ q, q < H.size → AX q → A0 q)
    (kx : ∀ (E : String) (ce : Cell) (q9 : Addr) (u : SX) (t : State) (H1 : Heap) (locs1 : List Loc), t.heap = H1 → s.vm.Alike t.vm → px u → BX E u t → H.size ≤ H1.size → (∀ q : Nat, q < H.size → ¬ AX q → H1[q]? = H[q]?) → va_S A0 H0 H1 locs1 → H1[q9]? = some ce → ce.vm = .none → s.vm.findClass E = some ce.cls → vx_W p l e R s m args below meth c H1 locs1 (cells + mc) (slots + ms) Q (F0 m pc ls rest) q9)
    (kk : ∀ (r : UInt64) (u : S) (t : State) (H1 : Heap) (locs1 : List Loc), t.heap = H1 → s.vm.Alike t.vm → post r u → B u t → H.size ≤ H1.size → (∀ q : Nat, q < H.size → ¬ A1 q → H1[q]? = H[q]?) → va_S A0 H0 H1 locs1 → W p l e R s m args below meth c H1 locs1 (cells + mc) (slots + ms) Q (F0 m (pc + 3) ls (.double r :: rest))) : W p l e R s m args below meth c H locs cells slots Q (F0 m pc ls st0) := by
  intro T hT X
  rcases hr T hT X with ⟨v, st₀, t, T', L, h0, X', hL, e1, e2, ⟨⟨r, u, hv, hp, hb⟩, hF⟩, st⟩ | ⟨q, st₀, t, T', L, E, ce, h0, X', hL, e1, e2, ⟨u, hp, hb, hF⟩, hce, hcv, hcl, st⟩
  · cases hv
    obtain ⟨k1, k2, k3⟩ := vx_keep h0 e1 hS hA hf hL hF
    obtain ⟨t2, a1, b1⟩ := kk r u t T'.heap (locs ++ L) e1.symm (by rw [← e2]; exact X'.warmed.alike) hp hb k1 k2 k3 T' rfl X'
    exact ⟨t2, st t2 a1, b1⟩
  · obtain ⟨k1, k2, k3⟩ := vx_keep h0 e1 hS hAX hf hL hF
    obtain ⟨t2, a1, b1⟩ := kx E ce q u t T'.heap (locs ++ L) e1.symm (by rw [← e2]; exact X'.warmed.alike) hp hb k1 k2 k3 (by rw [e1]; exact hce) hcv hcl T' rfl X'
    exact ⟨t2, st.trans a1, b1⟩
theorem vx_callv {S SX : Type} {post : S → Prop} {px : SX → Prop} {B : S → State → Prop} {BX : String → SX → State → Prop} {AX : Nat → Prop} (hr : vx_Run p l e R s m args below meth c H locs cells slots mc ms (F0 m pc ls st0) rest (va_Qv post B A1 a) (vx_X px BX AX) free) (hS : va_S A0 H0 H locs) (hA : ∀ q, q < H.size → A1 q → A0 q) (hf : ∀ q, free q → A0 q) (hAX : ∀ q, q < H.size → AX q → A0 q)
    (kx : ∀ (E : String) (ce : Cell) (q9 : Addr) (u : SX) (t : State) (H1 : Heap) (locs1 : List Loc), t.heap = H1 → s.vm.Alike t.vm → px u → BX E u t → H.size ≤ H1.size → (∀ q : Nat, q < H.size → ¬ AX q → H1[q]? = H[q]?) → va_S A0 H0 H1 locs1 → H1[q9]? = some ce → ce.vm = .none → s.vm.findClass E = some ce.cls → vx_W p l e R s m args below meth c H1 locs1 (cells + mc) (slots + ms) Q (F0 m pc ls rest) q9)
    (kk : ∀ (u : S) (t : State) (H1 : Heap) (locs1 : List Loc), t.heap = H1 → s.vm.Alike t.vm → post u → B u t → H.size ≤ H1.size → (∀ q : Nat, q < H.size → ¬ A1 q → H1[q]? = H[q]?) → va_S A0 H0 H1 locs1 → W p l e R s m args below meth c H1 locs1 (cells + mc) (slots + ms) Q (F0 m (pc + 3) ls (rest))) : W p l e R s m args below meth c H locs cells slots Q (F0 m pc ls st0) := by
  intro T hT X
  rcases hr T hT X with ⟨v, st₀, t, T', L, h0, X', hL, e1, e2, ⟨⟨u, hv, hp, hb⟩, hF⟩, st⟩ | ⟨q, st₀, t, T', L, E, ce, h0, X', hL, e1, e2, ⟨u, hp, hb, hF⟩, hce, hcv, hcl, st⟩
  · cases hv
    obtain ⟨k1, k2, k3⟩ := vx_keep h0 e1 hS hA hf hL hF
    obtain ⟨t2, a1, b1⟩ := kk u t T'.heap (locs ++ L) e1.symm (by rw [← e2]; exact X'.warmed.alike) hp hb k1 k2 k3 T' rfl X'
    exact ⟨t2, st t2 a1, b1⟩
  · obtain ⟨k1, k2, k3⟩ := vx_keep h0 e1 hS hAX hf hL hF
    obtain ⟨t2, a1, b1⟩ := kx E ce q u t T'.heap (locs ++ L) e1.symm (by rw [← e2]; exact X'.warmed.alike) hp hb k1 k2 k3 (by rw [e1]; exact hce) hcv hcl T' rfl X'
    exact ⟨t2, st.trans a1, b1⟩
/-- caught by the row x of this method's table; the rows ahead don't take it -/
theorem vx_catch {own name : String} {E : String} {ce : Cell} {q : Addr} (hown : s.vm.findClass own = some m.cls) (pre : List ExceptionTableEntry) (x : ExceptionTableEntry) (suf : List ExceptionTableEntry) (hsplit : c.exceptionTable.toList = pre ++ x :: suf)
    (hpass : ∀ z ∈ pre, covers z pc = false ∨ (z.catchType ≠ 0 ∧ ∃ nm : String, (Cond.classLink own z.catchType nm).before args s = true ∧ va_Nc E nm s)) (hx : covers x pc = true) (h0 : x.catchType ≠ 0)
    (hlink : (Cond.classLink own x.catchType name).before args s = true) (hcast : (Cond.castable E name).before args s = true) (hcell : H[q]? = some ce) (hv : ce.vm = .none) (hcl : s.vm.findClass E = some ce.cls)
    (kk : W p l e R s m args below meth c H locs cells slots Q (F0 m x.handlerPc ls [.ref q])) : vx_W p l e R s m args below meth c H locs cells slots Q (F0 m pc ls rest) q := by
  intro T hT X
  have hpl : e.platform.magicAccessors = ({} : Platform).magicAccessors := by rw [X.admits.platform]
  obtain ⟨c3, c4, hc3, hc4, hasg⟩ := Cond.castable_spec hcast
  cases Option.some.inj (hc3.symm.trans hcl)
  obtain ⟨c5, hc5, hcl5⟩ := Cond.classLink_spec hown hlink e.platform hpl
  cases Option.some.inj (hc4.symm.trans hc5)
  obtain ⟨vm', X', st⟩ := X.thenCaughtThrough q (g := F0 m pc ls rest) rfl (Steps.refl _) (by rw [hT]; exact hcell) (by rw [hv]; rfl) (by obtain ⟨k9, h9, -⟩ := Vm.findClass_spec hcl; exact ⟨k9, h9⟩) pre x suf hsplit
    (fun z hz => by
      rcases hpass z hz with h | ⟨hz0, nm, hl1, hn1⟩
      · exact Or.inl h
      · obtain ⟨c6, hc6, hcl6⟩ := Cond.classLink_spec hown hl1 e.platform hpl
        obtain ⟨a8, b8, h1, h2, h3⟩ := hn1
        cases Option.some.inj (h1.symm.trans hcl)
        cases Option.some.inj (h2.symm.trans hc6)
        exact Or.inr ⟨hz0, _, hcl6, h3⟩) hx (Or.inr ⟨h0, c4, hcl5, hasg⟩)
  obtain ⟨t, a1, b1⟩ := kk (T.setVm vm') hT X'
  exact ⟨t, st.trans a1, b1⟩
end Rows
section Ends
variable {p : Program} {l : Launch} {e : Env} {R : Room} {s : State} {m : MethodId} {args : Array Value} {below : List Frame} {meth : Method} {c : Code} {H : Heap} {locs : List Loc} {cells slots : Nat} {Q : State → Prop}
variable {mc ms : Nat} {free : Addr → Prop} {A0 A1 : Nat → Prop} {H0 : Heap} {a : Array Value} {ls : Array Slot} {st0 rest : List Value}
variable {Qc : Array Value → State → Outcome → State → Prop} {XC : String → State → State → Prop}
/-- what a body that may throw owes at its end -/
def vx_MQ (below : List Frame) (Qc : Array Value → State → Outcome → State → Prop) (XC : String → State → State → Prop) (a : Array Value) (s : State) (mc ms : Nat) (free : Addr → Prop) : State → Prop := fun t =>
  ∃ o, t.status = .running ∧ Ended t below o ∧ vx_Q Qc XC mc ms free a s o t
theorem vx_ret {g : JFrame} {mc ms : Nat} (k : W p l e R s m args below meth c H locs cells slots (MQ below Qc args s mc ms free) g) : W p l e R s m args below meth c H locs cells slots (vx_MQ below Qc XC args s mc ms free) g := by
  intro T hT X
  obtain ⟨t, a1, o, b1, b2, b3, b4⟩ := k T hT X
  exact ⟨t, a1, o, b1, b2, Or.inl ⟨b3, b4⟩⟩
/-- not caught here: it goes on to the caller -/
theorem vx_widen {g : JFrame} {q : Addr} {k n : Nat} (h1 : cells ≤ k) (h2 : slots ≤ n) (kk : vx_W p l e R s m args below meth c H locs k n Q g q) : vx_W p l e R s m args below meth c H locs cells slots Q g q := fun T hT X => kk T hT (stand_widen X h1 h2)
theorem vx_out {pc : Nat} {E : String} {ce : Cell} {q : Addr} {mc ms : Nat} (hout : ∀ x ∈ c.exceptionTable.toList, covers x pc = false) (hlocks : meth.locks = false) (hcell : H[q]? = some ce) (hv : ce.vm = .none) (hcl : s.vm.findClass E = some ce.cls)
    (hx : ∀ t : State, t.heap = H → s.vm.Alike t.vm → XC E s t) (hf : ∀ z ∈ locs, free z.base) (hc : cells ≤ mc) (hs : slots ≤ ms) :
    vx_W p l e R s m args below meth c H locs cells slots (vx_MQ below Qc XC args s mc ms free) (F0 m pc ls rest) q := by
  intro T hT X
  obtain ⟨st1, hrun, hend, hW, hsm⟩ := X.leaveThrown q (g := F0 m pc ls rest) rfl rfl rfl hout hlocks
  have hcell9 : (T.setFrames (.throwing q :: below)).heap[q]? = some ce := by
    show T.heap[q]? = some ce
    rw [hT]; exact hcell
  exact ⟨_, st1, .threw q, hrun, hend, Or.inr ⟨q, rfl, E, ce, locs, hx _ hT hW.alike, hcell9, hv, hcl, hW, hsm.mono hc hs, hf⟩⟩
theorem vx_frame {U : State} {k n : Nat} (h : s.sameButNew ({ U with vm := s.vm } : State) locs k n) : s.heap.size ≤ U.heap.size ∧ ∀ q : Nat, q < s.heap.size → (∀ z ∈ locs, z.base ≠ q) → U.heap[q]? = s.heap[q]? := by
  obtain ⟨-, h2, -, -, -, h6⟩ := h
  refine ⟨h2, fun q hq hz => ?_⟩
  obtain ⟨c9, e1, e2, e3, e4⟩ := h6 q _ (Array.getElem?_eq_getElem hq)
  have hs : c9.slots = (s.heap[q]).slots := Array.ext_getElem? fun i => e4 i fun hm => hz _ hm rfl
  have h9 : c9 = s.heap[q] := by
    rw [hs] at e2
    exact e2
  have e5 : U.heap[q]? = some c9 := e1
  rw [e5, h9, Array.getElem?_eq_getElem hq]
/-- the words of a throw but the four that speak of the heap -/
def vx_no (w : Cond) : Bool := decide (w ≠ .isRef (.static Bundle.tN "UNASSIGNED_STACK" Bundle.steD)) && decide (w ≠ .isRef (.static Bundle.tN "SUPPRESSED_SENTINEL" Bundle.listD)) && decide (w ≠ .laysStatic Bundle.tN "UNASSIGNED_STACK" Bundle.steD) && decide (w ≠ .laysStatic Bundle.tN "SUPPRESSED_SENTINEL" Bundle.listD)
def vx_at0 (own : String) (ic : Nat) (X : String) (names : List String) : List Cond := (Bundle.ownAtoms0 own ic X names).filter vx_no
def vx_atS (own : String) (ic : Nat) (X : String) (names : List String) : List Cond := (Bundle.ownAtoms own ic X names).filter vx_no
/-- a word that the tables alone decide, or a good one -/
def vx_ot (w : Cond) : Bool := w.onTables || goodWord w
theorem vx_ot_at {args a' : Array Value} {s U : State} {w : Cond} (hW : s.WarmedH U.vm) (hvm : s.vm = U.vm) (hg : vx_ot w = true) (h : w.before args s = true) : w.before a' U = true := by
  simp only [vx_ot, Bool.or_eq_true] at hg
  rcases hg with hg | hg
  · exact va_tabs hg hvm h
  · exact word_at hW (good_of_word hg) h
/-- a list's words: the good ones out of the method's own list, the others by premises of their own -/
theorem vx_hat {args : Array Value} {s : State} {L B : List Cond} (h1 : ∀ w ∈ L.filter goodWord, w.before args s = true) (h2 : ∀ w ∈ L.filter (fun w => !goodWord w), w ∈ B) (h3 : ∀ w ∈ B, w.before args s = true) : ∀ w ∈ L, w.before args s = true := by
  intro w hw
  by_cases g : goodWord w = true
  · exact h1 w (List.mem_filter.mpr ⟨hw, g⟩)
  · refine h3 w (h2 w (List.mem_filter.mpr ⟨hw, ?_⟩))
    show (!goodWord w) = true
    cases hgw : goodWord w
    · rfl
    · exact absurd hgw g
theorem vx_c {args : Array Value} {s : State} {w : Cond} {B : List Cond} (h : w.before args s = true) (t : ∀ w ∈ B, w.before args s = true) : ∀ w' ∈ w :: B, w'.before args s = true := fun w' h' => (List.mem_cons.mp h').elim (fun e => by rw [e]; exact h) (t w')
theorem vx_n {args : Array Value} {s : State} : ∀ w ∈ ([] : List Cond), w.before args s = true := fun _ h => nomatch h
theorem vx_own {args : Array Value} {s : State} {L : List Cond} (h1 : ∀ w ∈ L.filter vx_no, w.before args s = true)
    (hU : (Cond.isRef (.static Bundle.tN "UNASSIGNED_STACK" Bundle.steD)).before args s = true) (hN : (Cond.isRef (.static Bundle.tN "SUPPRESSED_SENTINEL" Bundle.listD)).before args s = true)
    (lU : (Cond.laysStatic Bundle.tN "UNASSIGNED_STACK" Bundle.steD).before args s = true) (lN : (Cond.laysStatic Bundle.tN "SUPPRESSED_SENTINEL" Bundle.listD).before args s = true) : ∀ w ∈ L, w.before args s = true := by
  intro w hw
  by_cases e1 : w = .isRef (.static Bundle.tN "UNASSIGNED_STACK" Bundle.steD)
  · rw [e1]; exact hU
  · by_cases e2 : w = .isRef (.static Bundle.tN "SUPPRESSED_SENTINEL" Bundle.listD)
    · rw [e2]; exact hN
    · by_cases e3 : w = .laysStatic Bundle.tN "UNASSIGNED_STACK" Bundle.steD
      · rw [e3]; exact lU
      · by_cases e4 : w = .laysStatic Bundle.tN "SUPPRESSED_SENTINEL" Bundle.listD
        · rw [e4]; exact lN
        · exact h1 w (List.mem_filter.mpr ⟨hw, by unfold vx_no; rw [decide_eq_true e1, decide_eq_true e2, decide_eq_true e3, decide_eq_true e4]; rfl⟩)
/-- where a static field lies, its class's statics cell in H -/
def vx_L (C n d : String) (A : Nat → Prop) (U : State) (H : Heap) : Prop := ∃ (c : ClassId) (k : Class) (i : Nat) (f : Field) (a : Nat) (cell : Cell), U.vm.findClass C = some c ∧ U.fieldFound? C n d = some (c, k, i, f) ∧ f.isStatic = true ∧ k.statics = some a ∧ H[a]? = some cell ∧ cell.vm.isStatics = true ∧ cell.cls = c ∧ f.slot < cell.slots.size ∧ k.staticTypes[f.slot]? = some f.type ∧ ¬ A a
theorem vx_L.moved {C n d : String} {A : Nat → Prop} {u U : State} {H : Heap} (hvm : u.vm.Alike U.vm) (h : vx_L C n d A u H) : vx_L C n d A U H := by
  obtain ⟨c, k, i, f, a, cell, h1, h2, h3, h4, h5, h6, h7, h8, h9, h10⟩ := h
  obtain ⟨k', hi', he⟩ := State.fieldFound?_setVm hvm h2
  exact ⟨c, k', i, f, a, cell, by rw [hvm.findClass]; exact h1, hi', h3, by rw [he]; exact h4, h5, h6, h7, h8, by rw [he]; exact h9, h10⟩
theorem vx_L.kept {C n d : String} {A : Nat → Prop} {U : State} {H H1 : Heap} (h : vx_L C n d A U H) (hq : ∀ a : Nat, a < H.size → ¬ A a → H1[a]? = H[a]?) : vx_L C n d A U H1 := by
  obtain ⟨c, k, i, f, a, cell, h1, h2, h3, h4, h5, h6, h7, h8, h9, h10⟩ := h
  exact ⟨c, k, i, f, a, cell, h1, h2, h3, h4, by rw [hq a (Array.getElem?_eq_some_iff.mp h5).1 h10]; exact h5, h6, h7, h8, h9, h10⟩
theorem vx_L.narrow {C n d : String} {A B : Nat → Prop} {U : State} {H : Heap} (h : vx_L C n d A U H) (hAB : ∀ q, B q → A q) : vx_L C n d B U H := by
  obtain ⟨c, k, i, f, a, cell, h1, h2, h3, h4, h5, h6, h7, h8, h9, h10⟩ := h
  exact ⟨c, k, i, f, a, cell, h1, h2, h3, h4, h5, h6, h7, h8, h9, fun z => h10 (hAB _ z)⟩
theorem vx_L.word {C n d : String} {A : Nat → Prop} {s : State} {args : Array Value} (h : vx_L C n d A s s.heap) : (Cond.laysStatic C n d).before args s = true := by
  obtain ⟨c, k, i, f, a, cell, h1, h2, h3, h4, h5, h6, h7, h8, h9, -⟩ := h
  show (Cond.laysStatic C n d).holds args s none s [] = true
  exact Cond.laysStatic_of h1 h2 h3 h4 h5 h6 h7 h8 h9
/-- .. and what it holds: null or some reference -/
def vx_Zq (C n d : String) (A : Nat → Prop) (U : State) (H : Heap) : Prop := va_Zq C n d A U H ∧ vx_L C n d A U H
theorem vx_Zq.moved {C n d : String} {A : Nat → Prop} {u U : State} {H : Heap} (hvm : u.vm.Alike U.vm) (h : vx_Zq C n d A u H) : vx_Zq C n d A U H := ⟨va_Zq.moved hvm h.1, vx_L.moved hvm h.2⟩
theorem vx_Zq.kept {C n d : String} {A : Nat → Prop} {U : State} {H H1 : Heap} (h : vx_Zq C n d A U H) (hq : ∀ a : Nat, a < H.size → ¬ A a → H1[a]? = H[a]?) : vx_Zq C n d A U H1 := ⟨va_Zq.kept h.1 hq, vx_L.kept h.2 hq⟩
theorem vx_Zq.narrow {C n d : String} {A B : Nat → Prop} {U : State} {H : Heap} (h : vx_Zq C n d A U H) (hAB : ∀ q, B q → A q) : vx_Zq C n d B U H := ⟨va_Zq.narrow h.1 hAB, vx_L.narrow h.2 hAB⟩
theorem vx_Zqof {args : Array Value} {s : State} {C n d : String} {A : Nat → Prop} (hl : (Cond.laysStatic C n d).before args s = true) (hini : (Cond.initialized C).before args s = true) (h : (Cond.isRef (.static C n d)).before args s = true) (hA : ∀ a : Nat, a < s.heap.size → ¬ A a) : vx_Zq C n d A s s.heap := by
  refine ⟨va_Zqof hl hini h hA, ?_⟩
  obtain ⟨c, k, i, f, a, cell, h1, h2, h3, h4, h5, h6, h7, h8, h9⟩ := Cond.laysStatic_spec hl
  exact ⟨c, k, i, f, a, cell, h1, h2, h3, h4, h5, h6, h7, h8, h9, hA a (Array.getElem?_eq_some_iff.mp h5).1⟩
theorem vx_isRef {C n d : String} {v : Value} {A : Nat → Prop} {s : State} {args : Array Value} (h : va_Z C n d v A s s.heap) (hv : v.isRef = true) : (Cond.isRef (.static C n d)).before args s = true := by
  obtain ⟨cf, kf, fi, f, a, cell, h1, h2, h3, h4, h5, h6, h7, -⟩ := h
  have he : (Term.static C n d).eval args s none [] s = some v := by
    simp [Term.eval, State.fieldNamed?, h1, h2, h4, h5, h6, h7]
  simp only [Cond.before, Cond.holds, Cond.value, he]
  cases v <;> simp_all [Value.isRef]
theorem vx_isRefq {C n d : String} {A : Nat → Prop} {s : State} {args : Array Value} (h : va_Zq C n d A s s.heap) : (Cond.isRef (.static C n d)).before args s = true := by
  rcases h with h | ⟨t, h⟩
  · exact vx_isRef h rfl
  · exact vx_isRef h rfl
/-- the same frame, seen from here: as if the method were called anew in this heap -/
theorem vx_rebase {T : State} (X : Stand p l e R s m args below meth c T locs cells slots) {R' : Room} (hf : R'.frames ≤ R.frames) (hl : R'.locals ≤ R.locals) (hc : cells + R'.cells ≤ R.cells) (hs : slots + R'.slots ≤ R.slots) :
    Stand p l e R' ((T.setVm s.vm).setFrames (.invoking m args :: below)) m args below meth c T [] 0 0 := by
  have htop : (T.setVm s.vm).topJava?.isSome := X.here.top
  have hF : ((T.setVm s.vm).setFrames (.invoking m args :: below)).frames = .invoking m args :: below := State.frames_setFrames _ (State.cur_lt_of_top htop)
  obtain ⟨g₀, hg0⟩ := Option.isSome_iff_exists.mp htop
  obtain ⟨r, hr⟩ := State.topJava?_eq_some.mp hg0
  have hl9 : e.platform.stackLimits (T.setVm s.vm).me = e.platform.stackLimits s.me := X.limits
  have hb9 : (T.setVm s.vm).me.stackBytes = s.me.stackBytes := X.bytes
  refine ⟨X.admits, X.cas, X.clock, hF, ?_, X.hears, X.method, X.code, X.here, X.tail, X.warmed, ?_, ?_, ?_⟩
  · have h := X.room
    have hU : ((T.setVm s.vm).setFrames (.invoking m args :: below)).localsInUse = s.localsInUse := by
      rw [State.localsInUse_invoking hF (meth := meth) (c := c) X.method X.code, State.localsInUse_invoking X.frames X.method X.code]
    simp only [State.hasRoom, Bool.and_eq_true, decide_eq_true_eq] at h ⊢
    obtain ⟨⟨⟨⟨h1, h2, h3, h4, h5, h6⟩, h7⟩, h8⟩, h9⟩ := h
    rw [X.frames, List.length_cons] at h2 h3
    have q1 := X.heapSize
    have q2 := X.used
    simp only [hF, hU, List.length_cons, State.stackLimits_setFrames, State.stackBytes_setFrames, hl9, hb9]
    refine ⟨⟨⟨⟨by omega, by omega, by omega, by omega, by omega, h6⟩, ?_⟩, ?_⟩, X.book⟩
    · show T.heap.size + R'.cells ≤ e.platform.maxCells
      omega
    · show T.slotsUsed + R'.slots ≤ e.platform.maxSlots
      omega
  · rw [State.stackLimits_setFrames]; rfl
  · rw [State.stackBytes_setFrames]; rfl
  · refine ⟨?_, Nat.le_refl _, Nat.le_refl _, ?_, ?_, fun a c9 h9 => ⟨c9, h9, rfl, rfl, fun _ _ => rfl⟩⟩
    · obtain ⟨t, ht, -⟩ := State.frames_cons hr
      show T.setVm s.vm = { ((T.setVm s.vm).setFrames (.invoking m args :: below)).setFrames (T.setVm s.vm).frames with heap := T.heap, slotsUsed := T.slotsUsed }
      rw [State.setFrames_setFrames, State.setFrames_self ht]
      rfl
    · show T.slotsUsed = T.slotsUsed + ((T.heap.toList.drop T.heap.size).map (·.slots.size)).sum
      rw [List.drop_eq_nil_of_le (Nat.le_of_eq Array.length_toList)]
      rfl
    · show ((T.heap.toList.drop T.heap.size).map (·.slots.size)).sum ≤ 0
      rw [List.drop_eq_nil_of_le (Nat.le_of_eq Array.length_toList)]
      exact Nat.le_refl _
/-- 'throw new E()': new; dup; invokespecial; athrow -/
theorem vx_throw0 {cc : ByteArray} {pc : Nat} (hexec : p.tables.exec = Jvm.exec) (hb : c.code = cc) (hl : l.stackTraces = false) {own cls : String} {names : List String} {ik ic mc ms : Nat} {A : Nat → Prop}
    (hown : s.vm.findClass own = some m.cls) (hcls : Bundle.fit cls = true) (hnames : ∀ n ∈ names, Bundle.fit n = true)
    (hk : (Cond.classLink own ik cls).before args s = true) (hini : (Cond.initialized cls).before args s = true) (hat : ∀ w ∈ vx_at0 own ic cls names, w.before args s = true)
    (hgood : ∀ w ∈ Cond.classLink own ik cls :: Cond.initialized cls :: vx_at0 own ic cls names, vx_ot w = true)
    (hU : vx_Zq Bundle.tN "UNASSIGNED_STACK" Bundle.steD A s s.heap) (hN : vx_Zq Bundle.tN "SUPPRESSED_SENTINEL" Bundle.listD A s s.heap) (hS : va_S A s.heap H locs) (hsize : ls.size = c.maxLocals)
    (d0 : decode cc pc = .ok (.new ik, 3)) (d3 : decode cc (pc + 3) = .ok (.dup, 1)) (d4 : decode cc (pc + 4) = .ok (.invokespecial ic, 3)) (d7 : decode cc (pc + 7) = .ok (.athrow, 1))
    (hout : ∀ x ∈ c.exceptionTable.toList, covers x (pc + 7) = false)
    (hRframes : names.length + 3 < R.frames) (hRlocals : (rest.map fun v => v.category).sum + (13 * (names.length + 1) + 42) ≤ R.locals) (hRcells : cells + 1 ≤ R.cells) (hRslots : slots + 6 ≤ R.slots) (hlocks : meth.locks = false)
    (hx : ∀ t : State, s.vm.Alike t.vm → H.size ≤ t.heap.size → (∀ q : Nat, q < H.size → t.heap[q]? = H[q]?) → XC cls s t)
    (hf : ∀ z ∈ locs, free z.base) (hc : cells + 1 ≤ mc) (hs : slots + 6 ≤ ms) :
    W p l e R s m args below meth c H locs cells slots (vx_MQ below Qc XC args s mc ms free) (F0 m pc ls rest) := by
  intro T hT X
  have htr : e.platform.stackTraces = false := (show e.platform.stackTraces = l.stackTraces by rw [X.admits.platform]).trans hl
  have Y := vx_rebase X (R' := { frames := R.frames, locals := R.locals, cells := 1, slots := 6 }) (Nat.le_refl _) (Nat.le_refl _) hRcells hRslots
  obtain ⟨s', hA⟩ : ∃ z, z = (T.setVm s.vm).setFrames (.invoking m args :: below) := ⟨_, rfl⟩
  rw [← hA] at Y
  have hvm : s'.vm = s.vm := by rw [hA]; rfl
  have hhp : s'.heap = H := by rw [hA]; exact hT
  have hW0 : s.WarmedH s'.vm := by rw [hvm]; exact State.WarmedH.refl s
  have hat' : ∀ w ∈ vx_at0 own ic cls names, w.before args s' = true := fun w hw => vx_ot_at hW0 hvm.symm (hgood w (List.mem_cons_of_mem _ (List.mem_cons_of_mem _ hw))) (hat w hw)
  have hk' : (Cond.classLink own ik cls).before args s' = true := vx_ot_at hW0 hvm.symm (hgood _ List.mem_cons_self) hk
  have hini' : (Cond.initialized cls).before args s' = true := vx_ot_at hW0 hvm.symm (hgood _ (List.mem_cons_of_mem _ List.mem_cons_self)) hini
  have hU' : vx_Zq Bundle.tN "UNASSIGNED_STACK" Bundle.steD A s' s'.heap := by rw [hhp]; exact vx_Zq.moved hW0.alike (hU.kept hS.2.1)
  have hN' : vx_Zq Bundle.tN "SUPPRESSED_SENTINEL" Bundle.listD A s' s'.heap := by rw [hhp]; exact vx_Zq.moved hW0.alike (hN.kept hS.2.1)
  have h : ∀ w ∈ Bundle.ownAtoms0 own ic cls names, w.before args s' = true := vx_own hat' (vx_isRefq hU'.1) (vx_isRefq hN'.1) hU'.2.word hN'.2.word
  have hown' : s'.vm.findClass own = some m.cls := by rw [hvm]; exact hown
  have hins : (Cond.instantiable cls 6).before args s' = true := h _ (by simp [Bundle.ownAtoms0])
  obtain ⟨vm₁, cX, kX, hfX, hkX, -, -, X₁, st1⟩ := Y.newCold hexec (own := own) (C := cls) (index := ik) (n := 6) hown' hk' hins hini'
    (g := F0 m pc ls rest) rfl (by rw [hb]; exact d0) (Nat.le_refl _) (Nat.le_refl _)
  generalize hT1 : (T.setVm vm₁).pushCell { cls := cX, slots := kX.instanceTypes.map defaultValue, vm := .none } = T1 at X₁ st1
  have hcat : (Value.ref T.heap.size).category = 1 := rfl
  have hcellA : T1.heap[T.heap.size]? = some (freshCell cX kX) := by rw [← hT1]; exact State.heap_pushCell_size _ _
  have d3' : decode c.code (pc + 3) = .ok (.dup, 1) := by rw [hb]; exact d3
  obtain ⟨U, hsteps, hrun, hend, hW, hsame, ce, hce, hO⟩ := X₁.ctorThrow0 hexec htr (own := own) (cls := cls) (names := names) (ic := ic) hown' hcls hnames h (fun x hx => nomatch hx) hfX hkX hcellA (by rw [hhp, hT]; exact Nat.le_refl _)
    (g := { method := m, pc := pc + 4, locals := ls, stack := .ref T.heap.size :: .ref T.heap.size :: rest, locked := none }) rfl hsize rfl rfl (rest := rest) rfl
    (by rw [hb]; exact d4) (by rw [hb]; exact d7) hout hRframes (by simp only [List.map_cons, List.sum_cons, hcat]; omega) hlocks
  obtain ⟨f1, f2⟩ := vx_frame hsame
  rw [hhp] at f1 f2
  have hWs : s.WarmedH U.vm := State.WarmedH.trans hW0 hW
  have hcl : s.vm.findClass cls = some ce.cls := by
    have h9 := hO.cls
    rw [hvm] at h9
    exact h9
  have hall : s.sameButNew ({ U with vm := s.vm } : State) locs mc ms := by
    subst hA
    obtain ⟨e1, e2⟩ := hsame
    rw [State.setFrames_setFrames] at e1
    have h2 : (T.setVm s.vm).sameButNew ({ U with vm := s.vm } : State) [] (0 + 1) (0 + 6) := ⟨e1, e2⟩
    have h3 := X.same.trans h2
    rw [List.append_nil] at h3
    exact h3.mono hc hs
  refine ⟨U, ?_, .threw T.heap.size, hrun, hend, Or.inr ⟨T.heap.size, rfl, cls, ce, locs, hx U hWs.alike f1 (fun q hq => f2 q hq (fun z hz => nomatch hz)), hce, hO.vm, hcl, hWs, hall, hf⟩⟩
  refine st1 _ ?_
  show Steps p.tables e below (T1.setTop { method := m, pc := pc + 3, locals := ls, stack := .ref T.heap.size :: rest, locked := none }) _
  jvm_step X₁.here [X₁.here.top, hexec, d3', Value.category]
  exact hsteps
/-- 'throw new E("text")': new; dup; ldc; invokespecial; athrow -/
theorem vx_throwS {cc : ByteArray} {pc : Nat} (hexec : p.tables.exec = Jvm.exec) (hb : c.code = cc) (hl : l.stackTraces = false) {own cls text : String} {names : List String} {ik is ic mc ms sa : Nat} {A : Nat → Prop}
    (hown : s.vm.findClass own = some m.cls) (hcls : Bundle.fit cls = true) (hnames : ∀ n ∈ names, Bundle.fit n = true)
    (hk : (Cond.classLink own ik cls).before args s = true) (hini : (Cond.initialized cls).before args s = true) (hstr : vk_R own is text sa s) (hat : ∀ w ∈ vx_atS own ic cls names, w.before args s = true)
    (hgood : ∀ w ∈ Cond.classLink own ik cls :: Cond.initialized cls :: vx_atS own ic cls names, vx_ot w = true)
    (hU : vx_Zq Bundle.tN "UNASSIGNED_STACK" Bundle.steD A s s.heap) (hN : vx_Zq Bundle.tN "SUPPRESSED_SENTINEL" Bundle.listD A s s.heap) (hS : va_S A s.heap H locs) (hsize : ls.size = c.maxLocals)
    (d0 : decode cc pc = .ok (.new ik, 3)) (d3 : decode cc (pc + 3) = .ok (.dup, 1)) (d4 : decode cc (pc + 4) = .ok (.ldc is, 2)) (d6 : decode cc (pc + 6) = .ok (.invokespecial ic, 3)) (d9 : decode cc (pc + 9) = .ok (.athrow, 1))
    (hout : ∀ x ∈ c.exceptionTable.toList, covers x (pc + 9) = false)
    (hRframes : names.length + 3 < R.frames) (hRlocals : (rest.map fun v => v.category).sum + (13 * (names.length + 1) + 43) ≤ R.locals) (hRcells : cells + 1 ≤ R.cells) (hRslots : slots + 6 ≤ R.slots) (hlocks : meth.locks = false)
    (hx : ∀ t : State, s.vm.Alike t.vm → H.size ≤ t.heap.size → (∀ q : Nat, q < H.size → t.heap[q]? = H[q]?) → XC cls s t)
    (hf : ∀ z ∈ locs, free z.base) (hc : cells + 1 ≤ mc) (hs : slots + 6 ≤ ms) :
    W p l e R s m args below meth c H locs cells slots (vx_MQ below Qc XC args s mc ms free) (F0 m pc ls rest) := by
  intro T hT X
  have htr : e.platform.stackTraces = false := (show e.platform.stackTraces = l.stackTraces by rw [X.admits.platform]).trans hl
  have Y := vx_rebase X (R' := { frames := R.frames, locals := R.locals, cells := 1, slots := 6 }) (Nat.le_refl _) (Nat.le_refl _) hRcells hRslots
  obtain ⟨s', hA⟩ : ∃ z, z = (T.setVm s.vm).setFrames (.invoking m args :: below) := ⟨_, rfl⟩
  rw [← hA] at Y
  have hvm : s'.vm = s.vm := by rw [hA]; rfl
  have hhp : s'.heap = H := by rw [hA]; exact hT
  have hW0 : s.WarmedH s'.vm := by rw [hvm]; exact State.WarmedH.refl s
  have hat' : ∀ w ∈ vx_atS own ic cls names, w.before args s' = true := fun w hw => vx_ot_at hW0 hvm.symm (hgood w (List.mem_cons_of_mem _ (List.mem_cons_of_mem _ hw))) (hat w hw)
  have hk' : (Cond.classLink own ik cls).before args s' = true := vx_ot_at hW0 hvm.symm (hgood _ List.mem_cons_self) hk
  have hini' : (Cond.initialized cls).before args s' = true := vx_ot_at hW0 hvm.symm (hgood _ (List.mem_cons_of_mem _ List.mem_cons_self)) hini
  have hU' : vx_Zq Bundle.tN "UNASSIGNED_STACK" Bundle.steD A s' s'.heap := by rw [hhp]; exact vx_Zq.moved hW0.alike (hU.kept hS.2.1)
  have hN' : vx_Zq Bundle.tN "SUPPRESSED_SENTINEL" Bundle.listD A s' s'.heap := by rw [hhp]; exact vx_Zq.moved hW0.alike (hN.kept hS.2.1)
  have h : ∀ w ∈ Bundle.ownAtoms own ic cls names, w.before args s' = true := vx_own hat' (vx_isRefq hU'.1) (vx_isRefq hN'.1) hU'.2.word hN'.2.word
  have hown' : s'.vm.findClass own = some m.cls := by rw [hvm]; exact hown
  have hins : (Cond.instantiable cls 6).before args s' = true := h _ (by simp [Bundle.ownAtoms])
  obtain ⟨vm₁, cX, kX, hfX, hkX, -, -, X₁, st1⟩ := Y.newCold hexec (own := own) (C := cls) (index := ik) (n := 6) hown' hk' hins hini'
    (g := F0 m pc ls rest) rfl (by rw [hb]; exact d0) (Nat.le_refl _) (Nat.le_refl _)
  generalize hT1 : (T.setVm vm₁).pushCell { cls := cX, slots := kX.instanceTypes.map defaultValue, vm := .none } = T1 at X₁ st1
  have hcat : (Value.ref T.heap.size).category = 1 := rfl
  have hcellA : T1.heap[T.heap.size]? = some (freshCell cX kX) := by rw [← hT1]; exact State.heap_pushCell_size _ _
  have d3' : decode c.code (pc + 3) = .ok (.dup, 1) := by rw [hb]; exact d3
  have d4' : decode c.code (pc + 4) = .ok (.ldc is, 2) := by rw [hb]; exact d4
  have hstr' : vk_R own is text sa s' := vk_R.warm hW0 hstr
  obtain ⟨U, hsteps, hrun, hend, hW, hsame, ce, hce, hO⟩ := X₁.ctorThrowS hexec htr (own := own) (cls := cls) (names := names) (ic := ic) hown' hcls hnames h (fun x hx => nomatch hx) hfX hkX hcellA (by rw [hhp, hT]; exact Nat.le_refl _) (msg := .ref sa) rfl
    (g := { method := m, pc := pc + 6, locals := ls, stack := .ref sa :: .ref T.heap.size :: .ref T.heap.size :: rest, locked := none }) rfl hsize rfl rfl (rest := rest) rfl
    (by rw [hb]; exact d6) (by rw [hb]; exact d9) hout hRframes (by simp only [List.map_cons, List.sum_cons, hcat]; omega) hlocks
  obtain ⟨f1, f2⟩ := vx_frame hsame
  rw [hhp] at f1 f2
  have hWs : s.WarmedH U.vm := State.WarmedH.trans hW0 hW
  have hcl : s.vm.findClass cls = some ce.cls := by
    have h9 := hO.cls
    rw [hvm] at h9
    exact h9
  have hall : s.sameButNew ({ U with vm := s.vm } : State) locs mc ms := by
    subst hA
    obtain ⟨e1, e2⟩ := hsame
    rw [State.setFrames_setFrames] at e1
    have h2 : (T.setVm s.vm).sameButNew ({ U with vm := s.vm } : State) [] (0 + 1) (0 + 6) := ⟨e1, e2⟩
    have h3 := X.same.trans h2
    rw [List.append_nil] at h3
    exact h3.mono hc hs
  refine ⟨U, ?_, .threw T.heap.size, hrun, hend, Or.inr ⟨T.heap.size, rfl, cls, ce, locs, hx U hWs.alike f1 (fun q hq => f2 q hq (fun z hz => nomatch hz)), hce, hO.vm, hcl, hWs, hall, hf⟩⟩
  refine st1 _ ?_
  show Steps p.tables e below (T1.setTop { method := m, pc := pc + 3, locals := ls, stack := .ref T.heap.size :: rest, locked := none }) _
  jvm_step X₁.here [X₁.here.top, hexec, d3', Value.category]
  exact X₁.ldcString hexec (own := own) (text := text) (index := is) (a := sa) hown' hstr'.1 hstr'.2
    (g := { method := m, pc := pc + 4, locals := ls, stack := .ref T.heap.size :: .ref T.heap.size :: rest, locked := none }) rfl d4' _ hsteps
/-- 'throw new E("text")', the text by a wide index -/
theorem vx_throwSW {cc : ByteArray} {pc : Nat} (hexec : p.tables.exec = Jvm.exec) (hb : c.code = cc) (hl : l.stackTraces = false) {own cls text : String} {names : List String} {ik is ic mc ms sa : Nat} {A : Nat → Prop}
    (hown : s.vm.findClass own = some m.cls) (hcls : Bundle.fit cls = true) (hnames : ∀ n ∈ names, Bundle.fit n = true)
    (hk : (Cond.classLink own ik cls).before args s = true) (hini : (Cond.initialized cls).before args s = true) (hstr : vk_R own is text sa s) (hat : ∀ w ∈ vx_atS own ic cls names, w.before args s = true)
    (hgood : ∀ w ∈ Cond.classLink own ik cls :: Cond.initialized cls :: vx_atS own ic cls names, vx_ot w = true)
    (hU : vx_Zq Bundle.tN "UNASSIGNED_STACK" Bundle.steD A s s.heap) (hN : vx_Zq Bundle.tN "SUPPRESSED_SENTINEL" Bundle.listD A s s.heap) (hS : va_S A s.heap H locs) (hsize : ls.size = c.maxLocals)
    (d0 : decode cc pc = .ok (.new ik, 3)) (d3 : decode cc (pc + 3) = .ok (.dup, 1)) (d4 : decode cc (pc + 4) = .ok (.ldc_w is, 3)) (d7 : decode cc (pc + 7) = .ok (.invokespecial ic, 3)) (d10 : decode cc (pc + 10) = .ok (.athrow, 1))
    (hout : ∀ x ∈ c.exceptionTable.toList, covers x (pc + 10) = false)
    (hRframes : names.length + 3 < R.frames) (hRlocals : (rest.map fun v => v.category).sum + (13 * (names.length + 1) + 43) ≤ R.locals) (hRcells : cells + 1 ≤ R.cells) (hRslots : slots + 6 ≤ R.slots) (hlocks : meth.locks = false)
    (hx : ∀ t : State, s.vm.Alike t.vm → H.size ≤ t.heap.size → (∀ q : Nat, q < H.size → t.heap[q]? = H[q]?) → XC cls s t)
    (hf : ∀ z ∈ locs, free z.base) (hc : cells + 1 ≤ mc) (hs : slots + 6 ≤ ms) :
    W p l e R s m args below meth c H locs cells slots (vx_MQ below Qc XC args s mc ms free) (F0 m pc ls rest) := by
  intro T hT X
  have htr : e.platform.stackTraces = false := (show e.platform.stackTraces = l.stackTraces by rw [X.admits.platform]).trans hl
  have Y := vx_rebase X (R' := { frames := R.frames, locals := R.locals, cells := 1, slots := 6 }) (Nat.le_refl _) (Nat.le_refl _) hRcells hRslots
  obtain ⟨s', hA⟩ : ∃ z, z = (T.setVm s.vm).setFrames (.invoking m args :: below) := ⟨_, rfl⟩
  rw [← hA] at Y
  have hvm : s'.vm = s.vm := by rw [hA]; rfl
  have hhp : s'.heap = H := by rw [hA]; exact hT
  have hW0 : s.WarmedH s'.vm := by rw [hvm]; exact State.WarmedH.refl s
  have hat' : ∀ w ∈ vx_atS own ic cls names, w.before args s' = true := fun w hw => vx_ot_at hW0 hvm.symm (hgood w (List.mem_cons_of_mem _ (List.mem_cons_of_mem _ hw))) (hat w hw)
  have hk' : (Cond.classLink own ik cls).before args s' = true := vx_ot_at hW0 hvm.symm (hgood _ List.mem_cons_self) hk
  have hini' : (Cond.initialized cls).before args s' = true := vx_ot_at hW0 hvm.symm (hgood _ (List.mem_cons_of_mem _ List.mem_cons_self)) hini
  have hU' : vx_Zq Bundle.tN "UNASSIGNED_STACK" Bundle.steD A s' s'.heap := by rw [hhp]; exact vx_Zq.moved hW0.alike (hU.kept hS.2.1)
  have hN' : vx_Zq Bundle.tN "SUPPRESSED_SENTINEL" Bundle.listD A s' s'.heap := by rw [hhp]; exact vx_Zq.moved hW0.alike (hN.kept hS.2.1)
  have h : ∀ w ∈ Bundle.ownAtoms own ic cls names, w.before args s' = true := vx_own hat' (vx_isRefq hU'.1) (vx_isRefq hN'.1) hU'.2.word hN'.2.word
  have hown' : s'.vm.findClass own = some m.cls := by rw [hvm]; exact hown
  have hins : (Cond.instantiable cls 6).before args s' = true := h _ (by simp [Bundle.ownAtoms])
  obtain ⟨vm₁, cX, kX, hfX, hkX, -, -, X₁, st1⟩ := Y.newCold hexec (own := own) (C := cls) (index := ik) (n := 6) hown' hk' hins hini'
    (g := F0 m pc ls rest) rfl (by rw [hb]; exact d0) (Nat.le_refl _) (Nat.le_refl _)
  generalize hT1 : (T.setVm vm₁).pushCell { cls := cX, slots := kX.instanceTypes.map defaultValue, vm := .none } = T1 at X₁ st1
  have hcat : (Value.ref T.heap.size).category = 1 := rfl
  have hcellA : T1.heap[T.heap.size]? = some (freshCell cX kX) := by rw [← hT1]; exact State.heap_pushCell_size _ _
  have d3' : decode c.code (pc + 3) = .ok (.dup, 1) := by rw [hb]; exact d3
  have d4' : decode c.code (pc + 4) = .ok (.ldc_w is, 3) := by rw [hb]; exact d4
  have hstr' : vk_R own is text sa s' := vk_R.warm hW0 hstr
  obtain ⟨U, hsteps, hrun, hend, hW, hsame, ce, hce, hO⟩ := X₁.ctorThrowS hexec htr (own := own) (cls := cls) (names := names) (ic := ic) hown' hcls hnames h (fun x hx => nomatch hx) hfX hkX hcellA (by rw [hhp, hT]; exact Nat.le_refl _) (msg := .ref sa) rfl
    (g := { method := m, pc := pc + 7, locals := ls, stack := .ref sa :: .ref T.heap.size :: .ref T.heap.size :: rest, locked := none }) rfl hsize rfl rfl (rest := rest) rfl
    (by rw [hb]; exact d7) (by rw [hb]; exact d10) hout hRframes (by simp only [List.map_cons, List.sum_cons, hcat]; omega) hlocks
  obtain ⟨f1, f2⟩ := vx_frame hsame
  rw [hhp] at f1 f2
  have hWs : s.WarmedH U.vm := State.WarmedH.trans hW0 hW
  have hcl : s.vm.findClass cls = some ce.cls := by
    have h9 := hO.cls
    rw [hvm] at h9
    exact h9
  have hall : s.sameButNew ({ U with vm := s.vm } : State) locs mc ms := by
    subst hA
    obtain ⟨e1, e2⟩ := hsame
    rw [State.setFrames_setFrames] at e1
    have h2 : (T.setVm s.vm).sameButNew ({ U with vm := s.vm } : State) [] (0 + 1) (0 + 6) := ⟨e1, e2⟩
    have h3 := X.same.trans h2
    rw [List.append_nil] at h3
    exact h3.mono hc hs
  refine ⟨U, ?_, .threw T.heap.size, hrun, hend, Or.inr ⟨T.heap.size, rfl, cls, ce, locs, hx U hWs.alike f1 (fun q hq => f2 q hq (fun z hz => nomatch hz)), hce, hO.vm, hcl, hWs, hall, hf⟩⟩
  refine st1 _ ?_
  show Steps p.tables e below (T1.setTop { method := m, pc := pc + 3, locals := ls, stack := .ref T.heap.size :: rest, locked := none }) _
  jvm_step X₁.here [X₁.here.top, hexec, d3', Value.category]
  exact X₁.ldcStringW hexec (own := own) (text := text) (index := is) (a := sa) hown' hstr'.1 hstr'.2
    (g := { method := m, pc := pc + 4, locals := ls, stack := .ref T.heap.size :: .ref T.heap.size :: rest, locked := none }) rfl d4' _ hsteps
end Ends
section Bodies
variable {l : Launch}
theorem vx_ofW {y : MethodName} {ws ws' : List Cond} {rm : Room} {Pc : Array Value → State → Prop} {Qc : Array Value → State → Outcome → State → Prop} {XC : String → State → State → Prop} {mc ms : Nat} {free : Addr → Prop} {cc : ByteArray} {maxL : Nat} {ret : Option FieldType}
    (hy : plainName y.cls = true) (hw : ws = Cond.code y cc maxL ret :: ws')
    (body : ∀ p e s m args below meth c s₁, BodyLoose p l y (headSpec ws rm) cc maxL ret e s m args below meth c s₁ → c.maxLocals = maxL → (∀ x ∈ c.exceptionTable.toList, False) → Pc args s →
      W p l e (headSpec ws rm).room s m args below meth c s.heap [] 0 0 (vx_MQ below Qc XC args s mc ms free) (entryFrame m args maxL)) : vx_Met l y ws rm Pc Qc XC mc ms free := by
  refine MetFree.of_bodyS (code := cc) (maxLocals := maxL) (ret := ret) hy ?_ ?_
  · intro args s m h hn
    obtain ⟨meth, c, h1, h2, h3, h4, h5, h6, -, -⟩ := Cond.code_spec hn (atoms_spec (ws := ws) h _ (by rw [hw]; exact List.mem_cons_self))
    exact ⟨meth, c, h1, h2, h3, h4, h5, h6⟩
  · intro p e s m args below meth c s₁ B hml hP _
    have hh0 : s₁.heap = s.heap := by rw [B.state]; rfl
    have ht : ∀ x ∈ c.exceptionTable.toList, False := by
      obtain ⟨meth9, c9, h1, h2, -, -, -, -, h7, -⟩ := Cond.code_spec B.named (atoms_spec (ws := ws) B.pre _ (by rw [hw]; exact List.mem_cons_self))
      cases Option.some.inj (h1.symm.trans B.method)
      cases Option.some.inj (h2.symm.trans (Stand.of_body B).code)
      intro x hx
      rw [Array.isEmpty_iff.mp h7] at hx
      cases hx
    obtain ⟨t, a1, o, b1, b2, b3⟩ := body p e s m args below meth c s₁ B hml ht hP s₁ hh0 (Stand.of_body B)
    exact ⟨t, o, a1, b1, b2, b3⟩
/-- the table of a body with handlers -/
theorem vx_table {p : Program} {x y : MethodName} {S : Spec} {cc bytes : ByteArray} {maxL maxL' : Nat} {ret ret' : Option FieldType} {e : Env} {s s₁ : State} {m : MethodId} {args : Array Value} {below : List Frame} {meth : Method} {c : Code} {hh : List (Nat × Nat × Nat × Nat)}
    (B : BodyLoose p l y S cc maxL ret e s m args below meth c s₁) (h : (Cond.codeWith y bytes maxL' ret' hh).before args s = true) : c.exceptionTable.toList = tableOf hh := by
  obtain ⟨m9, meth9, c9, hn9, h1, h2, -, -, h6, -⟩ := Cond.codeWith_spec h
  cases Option.some.inj (hn9.symm.trans B.named)
  cases Option.some.inj (h1.symm.trans B.method)
  cases Option.some.inj (h2.symm.trans (Stand.of_body B).code)
  rw [← h6, table_eq]
end Bodies
end VXA
/-! ===== END ===== -/
/-! ===== BEGIN a static call of a method with an exception table ===== -/
section VXS
variable {p : Program} {l : Launch} {e : Env} {R : Room} {s : State} {m : MethodId} {args : Array Value} {below : List Frame} {meth : Method} {c : Code} {T : State} {H : Heap} {locs : List Loc} {cells slots : Nat}
abbrev vx_CSW (R : Room) (s : State) (args : Array Value) (own : String) (index : Nat) (y : MethodName) (bytes : ByteArray) (maxL : Nat) (ret : Option FieldType) (hh : List (Nat × Nat × Nat × Nat)) (ws : List Cond) (rm : Room) (mc ms n : Nat) : Prop :=
  (rm.cells = mc ∧ rm.slots = ms ∧ rm.frames + 1 ≤ R.frames ∧ 8 + (maxL + 11) + rm.locals ≤ R.locals ∧ (∀ w ∈ ws, ∀ (a' : Array Value) (U : State), s.WarmedH U.vm → w.before a' U = true) ∧ Cond.codeWith y bytes maxL ret hh ∈ ws) ∧
  (Cond.codeWith y bytes maxL ret hh).before args s = true ∧ (Cond.initialized y.cls).before args s = true ∧ (y.cls ≠ "java/lang/invoke/MethodHandle" ∧ y.cls ≠ "java/lang/invoke/VarHandle") ∧
  (∀ sig, parseMethodDescriptor y.desc = some sig → n = sig.parameters.length) ∧ (Cond.methodLink own index y).before args s = true ∧ (Cond.static y).before args s = true
theorem vx_cwSW {own : String} {index maxL mc ms : Nat} {y : MethodName} {bytes : ByteArray} {ret : Option FieldType} {hh : List (Nat × Nat × Nat × Nat)} {Ts ws ws' : List Cond} {rm : Room} (n : Nat) (ht : ∀ w ∈ Ts, w.before args s = true) (hT : GoodIn Ts (va_wsS own index y ws)) (hw : ws = Cond.codeWith y bytes maxL ret hh :: ws') (hrc : rm.cells = mc) (hrs : rm.slots = ms)
    (hd : y.cls ≠ "java/lang/invoke/MethodHandle" ∧ y.cls ≠ "java/lang/invoke/VarHandle" ∧ (parseMethodDescriptor y.desc).map (fun d => d.parameters.length) = some n) (hR : rm.frames + 1 ≤ R.frames ∧ 8 + (maxL + 11) + rm.locals ≤ R.locals) :
    vx_CSW R s args own index y bytes maxL ret hh ws rm mc ms n := by
  have ok : ∀ w ∈ va_wsS own index y ws, w.before args s = true := fun w h => ht w (hT w h).1
  have hG : GoodIn Ts ws := fun w h => hT w (by unfold va_wsS; exact List.mem_append_right _ h)
  have hc : Cond.codeWith y bytes maxL ret hh ∈ ws := by rw [hw]; exact List.mem_cons_self
  refine ⟨⟨hrc, hrs, hR.1, hR.2, pay_in ht hG, hc⟩, ht _ (hG _ hc).1, ok _ (by simp [va_wsS]), ⟨hd.1, hd.2.1⟩, fun sig h => ?_, ok _ (by simp [va_wsS]), ok _ (by simp [va_wsS])⟩
  have h2 := hd.2.2
  rw [h] at h2
  exact (Option.some.inj h2).symm
theorem vx_callSW (X : Stand p l e R s m args below meth c T locs cells slots) (hexec : p.tables.exec = Jvm.exec) {own : String} {index : Nat} {y : MethodName} {bytes : ByteArray} {maxL : Nat} {ret : Option FieldType} {hh : List (Nat × Nat × Nat × Nat)}
    (hown : s.vm.findClass own = some m.cls) (hlink : (Cond.methodLink own index y).before args s = true) (hstat : (Cond.static y).before args s = true) (hinit : (Cond.initialized y.cls).before args s = true)
    (hcode : (Cond.codeWith y bytes maxL ret hh).before args s = true) (hy : y.cls ≠ "java/lang/invoke/MethodHandle" ∧ y.cls ≠ "java/lang/invoke/VarHandle")
    {W9 : Nat} {Pre : Pt → Array Value → Prop} {Post : Pt → Array Value → Option Value → Pt → Prop} (hK : Back l R p e below s args y 3 W9 Pre Post)
    {g : JFrame} (hg : g.method = m) (hsize : g.locals.size = c.maxLocals) {argsL rest : List Value} (hlen : ∀ sig, parseMethodDescriptor y.desc = some sig → argsL.length = sig.parameters.length)
    (hstack : g.stack = argsL.reverse ++ rest) (hW : 2 * g.monitorRoom + (rest.map fun v => v.category).sum ≤ W9) (hdg : decode c.code g.pc = .ok (.invokestatic index, 3))
    (hpre : ∀ vm₁, s.WarmedH vm₁ → Pre ⟨T.setVm vm₁, locs, cells, slots⟩ argsL.toArray) :
    ∃ (v : Option Value) (vm₁ : Vm) (B : Pt), s.WarmedH vm₁ ∧ Stand p l e R s m args below meth c B.U B.locs B.cells B.slots ∧ Post ⟨T.setVm vm₁, locs, cells, slots⟩ argsL.toArray v B ∧
      ∀ target, Steps p.tables e below (B.U.setTop { g with pc := g.pc + 3, stack := v.toList ++ rest }) target → Steps p.tables e below (T.setTop g) target := by
  obtain ⟨mk, methM, cM, hnamed, hmethM, -, -, -, -, -, -, hsigM⟩ := Cond.codeWith_spec hcode
  have hstatic : methM.isStatic = true := Cond.static_spec hnamed hmethM hstat
  obtain ⟨kP, hkP, -⟩ := className_of_methodNamed hnamed
  have hinitP : kP.init = .initialized := Cond.initialized_spec (findClass_of_methodNamed hnamed) hkP hinit
  obtain ⟨vm₁, X₁, hstep₁⟩ := X.invokestatic hexec hown hlink hnamed hmethM hstatic hkP hinitP hy (g := g) hg (argsL := argsL) (rest := rest) (hlen _ hsigM) hstack hdg
  obtain ⟨v, B, X', hpost, hsteps⟩ := hK m meth c ⟨T.setVm vm₁, locs, cells, slots⟩ { g with stack := rest } (.invokestatic index) mk argsL.toArray X₁ hg hsize hdg hW (X₁.named hnamed) (hpre vm₁ X₁.warmed)
  exact ⟨v, vm₁, B, X₁.warmed, X', hpost, fun target h => hstep₁ _ fun acts => by rw [doInvoke_state]; exact hsteps.trans h⟩
theorem vx_runSW {y : MethodName} {bytes cc : ByteArray} {maxL nL mc ms n index : Nat} {ret : Option FieldType} {hh : List (Nat × Nat × Nat × Nat)} {ws : List Cond} {rm : Room} {Pc : Array Value → State → Prop} {Qc : Array Value → State → Outcome → State → Prop} {free : Addr → Prop} {Ts : List Cond} {own : String} {As rest : List Value} {g : JFrame}
    (S : CallFix p m c cc nL s args Ts own) (hM : Met l y ws rm Pc Qc mc ms free) (cw : vx_CSW R s args own index y bytes maxL ret hh ws rm mc ms n) (hp : PreS s H Pc As)
    (hg : g.method = m) (hn : As.length = n) (hsize : g.locals.size = nL) (hstack : g.stack = As.reverse ++ rest) (hW : 2 * g.monitorRoom + (rest.map fun v => v.category).sum ≤ 8) (hdg : decode cc g.pc = .ok (.invokestatic index, 3)) (hf : cells + mc ≤ R.cells ∧ slots + ms ≤ R.slots) :
    va_Run p l e R s m args below meth c H locs cells slots mc ms g rest (Qc As.toArray) (free) := by
  obtain ⟨⟨hrc, hrs, hfr, hlo, hws, hcw⟩, hcode, hini, hy, hlen, hl, hstt⟩ := cw
  have hK : Back l R p e below s args y 3 8 (PreOf R mc ms Pc) (PostOf Qc mc ms free) := va_backW (hh := hh) (bytes := bytes) (maxL := maxL) (ret := ret) hM hp.1 hrc hrs hfr hlo hws hcw (fun a' U hW => word_at hW (Or.inl (by first | rfl | simp [Cond.onTables, Cond.keeps, Cond.steady])) hini)
  obtain ⟨hx, hb, hml, ho, -⟩ := S
  intro T hT X
  obtain ⟨v, vm₁, ⟨U', l2, c2, s2⟩, hW₁, X', ⟨g', mk, t, L, e1, e2, hq, h1, hL, h2, h3⟩, st⟩ := vx_callSW X hx (hh := hh) (bytes := bytes) (maxL := maxL) (ret := ret) ho hl hstt hini hcode hy hK hg (hsize.trans hml.symm) (argsL := As) (rest := rest) (fun sig h => hn.trans (hlen sig h)) hstack hW (by rw [hb]; exact hdg)
    (fun vm₁ hW₁ => ⟨hf.1, hf.2, hp.2 (T.setVm vm₁) hT hW₁⟩)
  dsimp only [Pt.U, Pt.locs, Pt.cells, Pt.slots] at X' e1 e2 h1 h2 h3 st
  subst h1; subst h2; subst h3
  exact ⟨v, (T.setVm vm₁).calling g' mk As.toArray, t, U', L, hT, X', hL, e1, e2, hq, st⟩
/-- not caught here, past rows that name other classes: it goes on to the caller -/
theorem vx_outP {p : Program} {l : Launch} {e : Env} {R : Room} {s : State} {m : MethodId} {args : Array Value} {below : List Frame} {meth : Method} {c : Code} {H : Heap} {locs : List Loc} {cells slots : Nat} {free : Addr → Prop} {ls : Array Slot} {rest : List Value} {Qc : Array Value → State → Outcome → State → Prop} {XC : String → State → State → Prop}
    {pc : Nat} {own E : String} {ce : Cell} {q : Addr} {mc ms : Nat} (hown : s.vm.findClass own = some m.cls) (hlocks : meth.locks = false)
    (hpass : ∀ z ∈ c.exceptionTable.toList, covers z pc = false ∨ (z.catchType ≠ 0 ∧ ∃ nm : String, (Cond.classLink own z.catchType nm).before args s = true ∧ va_Nc E nm s)) (hcell : H[q]? = some ce) (hv : ce.vm = .none) (hcl : s.vm.findClass E = some ce.cls)
    (hx : ∀ t : State, t.heap = H → s.vm.Alike t.vm → XC E s t) (hf : ∀ z ∈ locs, free z.base) (hc : cells ≤ mc) (hs : slots ≤ ms) :
    vx_W p l e R s m args below meth c H locs cells slots (vx_MQ below Qc XC args s mc ms free) (F0 m pc ls rest) q := by
  intro T hT X
  have hpl : e.platform.magicAccessors = ({} : Platform).magicAccessors := by rw [X.admits.platform]
  obtain ⟨vm', hW', X', st⟩ := X.outThrough hlocks q (g := F0 m pc ls rest) rfl rfl rfl (cell := ce) (by rw [hT]; exact hcell) (by rw [hv]; rfl)
    (by obtain ⟨k9, h9, -⟩ := Vm.findClass_spec hcl; exact ⟨k9, h9⟩) (fun z hz => by
      rcases hpass z hz with h | ⟨hz0, nm, hl1, hn1⟩
      · exact Or.inl h
      · obtain ⟨c6, hc6, hcl6⟩ := Cond.classLink_spec hown hl1 e.platform hpl
        obtain ⟨a8, b8, h1, h2, h3⟩ := hn1
        cases Option.some.inj (h1.symm.trans hcl)
        cases Option.some.inj (h2.symm.trans hc6)
        exact Or.inr ⟨hz0, _, hcl6, h3⟩)
  obtain ⟨g₀, hfr⟩ := X'.frames_eq
  have hcell9 : ((T.setVm vm').setFrames (.throwing q :: below)).heap[q]? = some ce := by
    show T.heap[q]? = some ce
    rw [hT]; exact hcell
  have hend : Ended ((T.setVm vm').setFrames (.throwing q :: below)) below (.threw q) := State.frames_setFrames _ (State.cur_lt_of_frames hfr)
  refine ⟨(T.setVm vm').setFrames (.throwing q :: below), ?_, .threw q, X'.here.running, hend, Or.inr ⟨q, rfl, E, ce, locs, hx _ hT (X'.ends _).1.alike, hcell9, hv, hcl, (X'.ends _).1, (X'.ends _).2.mono hc hs, hf⟩⟩
  rw [X.pushThrowing_eq]
  exact st
/-- a thing of a world lies in the heap -/
theorem vx_lt {D : va_G} {cl : List vw_C} {ws : va_W} {H1 : Heap} (h : va_P D cl ws H1) {k : Nat} {q : Nat × va_E} (hk : ws[k]? = some q) : q.1 < H1.size := (h k q hk).lt
end VXS
/-! ===== END ===== -/
/-! ===== BEGIN methods with a table of their own: called by a name, returning or throwing ===== -/
section VXH
/-! vx_backW, vx_callVX, vx_callSX, vx_callVW, vx_runVW, vx_runVX, vx_runSX, vx_ofWH follow the same proofs as their sisters above (Free/Laws.lean, Shelf42/LK1.lean); vx_outP calls Shelf42/NT130.lean (outThrough). -/
section
variable {l : Launch} {R : Room} {p : Program} {e : Env} {below : List Frame} {s : State} {sargs : Array Value} {y : MethodName} {len W9 : Nat}
theorem vx_backW {ws : List Cond} {rm : Room} {Pc : Array Value → State → Prop} {Qc : Array Value → State → Outcome → State → Prop} {XC : String → State → State → Prop} {mc ms : Nat} {free : Addr → Prop} {bytes : ByteArray} {maxL : Nat} {ret : Option FieldType} {hh : List (Nat × Nat × Nat × Nat)}
    (hM : vx_Met l y ws rm Pc Qc XC mc ms free) (hblind : FrameBlind Pc) (hrc : rm.cells = mc) (hrs : rm.slots = ms)
    (hframes : rm.frames + 1 ≤ R.frames) (hlocals : W9 + (maxL + 11) + rm.locals ≤ R.locals)
    (hws : ∀ w ∈ ws, ∀ a' U, s.WarmedH U.vm → w.before a' U = true) (hcode : Cond.codeWith y bytes maxL ret hh ∈ ws) (hinit : ∀ a' U, s.WarmedH U.vm → (Cond.initialized y.cls).before a' U = true) :
    vx_Back l R p e below s sargs y len W9 (PreOf R mc ms Pc) (PostOf Qc mc ms free) (vx_Post XC mc ms free) := by
  intro m meth c A g ig mk a X hg hsize hdg hW hn hp
  have h1 : (headSpec ws rm).pre.before a A.U = true := atoms_intro fun w hw => hws w hw _ _ X.warmed
  have h2 : (Cond.codeWith y bytes maxL ret hh).before a A.U = true := hws _ hcode _ _ X.warmed
  have h3 : (Cond.initialized y.cls).before a A.U = true := hinit _ _ X.warmed
  have h4 : A.cells + (headSpec ws rm).room.cells ≤ R.cells := by rw [show (headSpec ws rm).room.cells = mc from hrc]; exact hp.1
  have h5 : A.slots + (headSpec ws rm).room.slots ≤ R.slots := by rw [show (headSpec ws rm).room.slots = ms from hrs]; exact hp.2.1
  have hPc : Pc a (A.U.calling g mk a) := hblind _ _ _ _ hp.2.2
  obtain ⟨U, Ls, c0, s0⟩ := A
  dsimp only [Pt.U, Pt.locs, Pt.cells, Pt.slots] at h1 h2 h3 h4 h5 X hn hPc ⊢
  obtain ⟨m9, methY, cY, hn9, hmY, hcY, -, hlY, -⟩ := Cond.codeWith_spec h2
  cases Option.some.inj (hn9.symm.trans hn)
  obtain ⟨kY, hkY, -⟩ := className_of_methodNamed hn
  have hinitY : kY.init = .initialized := Cond.initialized_spec (findClass_of_methodNamed hn) hkY h3
  have h : At U g.method c below := by rw [hg]; exact X.here
  have hlocals9 : W9 + (maxL + 11) + (headSpec ws rm).room.locals ≤ R.locals := hlocals
  have happ : (headSpec ws rm).appliesLoose y e.platform (U.calling g mk a) = true :=
    Spec.appliesLoose_calling (g := g) h hdg hn hkY hinitY
      (X.room_calling (g := g) (R' := (headSpec ws rm).room) hsize hmY hcY hframes (by rw [hlY]; omega) h4 h5) h1
  obtain ⟨mid, hmid⟩ := h.above
  have hfr : (U.setTop g).frames = (.java g :: mid) ++ below := by rw [State.frames_setTop' g h.top, hmid]; rfl
  obtain ⟨o, s₂, hsteps, -, hend, hq⟩ := Steps.callFree hM p X.admits X.cas X.clock (acts := []) hfr happ hPc trivial
  have hq' : vx_Q Qc XC mc ms free a (U.calling g mk a) o s₂ := hq
  rw [State.frames_setTop' g h.top] at hend
  obtain ⟨g₀, hg0⟩ := Option.isSome_iff_exists.mp h.top
  obtain ⟨r, hr⟩ := State.topJava?_eq_some.mp hg0
  have hr' : (({ U with heap := s₂.heap, slotsUsed := s₂.slotsUsed } : State).setVm s₂.vm).frames = .java g₀ :: r := hr
  rcases hq' with ⟨hqc, L, hfe, hL⟩ | ⟨q, rfl, E, ce, L, hx, hce, hcv, hcl, hW₂, hsm, hL⟩
  · obtain ⟨⟨v, rfl⟩, hW₂, e2, q2, q3, q4, q5, q6⟩ := id hfe
    have e3 : s₂ = ({ (U.calling g mk a).setFrames s₂.frames with heap := s₂.heap, slotsUsed := s₂.slotsUsed } : State).setVm s₂.vm := by
      have : s₂ = ({ s₂ with vm := (U.calling g mk a).vm } : State).setVm s₂.vm := rfl
      rw [e2] at this
      exact this
    obtain ⟨c₂, i₂, len₂, hc₂, hd₂, hf₂⟩ := hend
    have hW' : U.WarmedH s₂.vm := hW₂
    have hcc : c₂ = c := by
      have h1 : s₂.code? g.method = U.code? g.method := by
        rw [State.code?_eq, State.code?_eq, hW'.alike.method?]
      exact Option.some.inj (hc₂.symm.trans (h1.trans h.code))
    subst hcc
    have hlen : len₂ = len := by rw [hdg] at hd₂; cases hd₂; rfl
    subst hlen
    have hs₂ : s₂ = (({ U with heap := s₂.heap, slotsUsed := s₂.slotsUsed } : State).setVm s₂.vm).setTop { g with pc := g.pc + len₂, stack := v.toList ++ g.stack } := by
      refine e3.trans ?_
      rw [hf₂, State.calling_eq h.top, State.setFrames_setFrames, State.setTop_of_frames _ hr', hr]
      rfl
    have hsame : U.sameButNew ({ U with heap := s₂.heap, slotsUsed := s₂.slotsUsed } : State) L mc ms := by
      refine ⟨?_, q2, q3, q4, q5, q6⟩
      obtain ⟨t, ht, -⟩ := State.frames_cons hr
      show ({ U with heap := s₂.heap, slotsUsed := s₂.slotsUsed } : State) = { U.setFrames U.frames with heap := s₂.heap, slotsUsed := s₂.slotsUsed }
      rw [State.setFrames_self ht]
    subst hg
    refine Or.inl ⟨v, ⟨(({ U with heap := s₂.heap, slotsUsed := s₂.slotsUsed } : State).setVm s₂.vm), Ls ++ L, c0 + mc, s0 + ms⟩,
      ⟨X.admits, X.cas, X.clock, X.frames, X.room, X.hears, X.method, X.code, (X.here.setHeapUsed s₂.heap s₂.slotsUsed).setVm hW'.alike, X.tail, State.WarmedH.trans X.warmed hW', X.limits, X.bytes, X.same.trans (hsame.setVm s.vm)⟩,
      ⟨g, mk, s₂, L, rfl, rfl, hqc, rfl, hL, rfl, rfl⟩, ?_⟩
    show Steps p.tables e below _ ((({ U with heap := s₂.heap, slotsUsed := s₂.slotsUsed } : State).setVm s₂.vm).setTop { g with pc := g.pc + len₂, stack := v.toList ++ g.stack })
    rw [← hs₂]
    exact hsteps
  · obtain ⟨e2, q2, q3, q4, q5, q6⟩ := id hsm
    have e3 : s₂ = ({ (U.calling g mk a).setFrames s₂.frames with heap := s₂.heap, slotsUsed := s₂.slotsUsed } : State).setVm s₂.vm := by
      have : s₂ = ({ s₂ with vm := (U.calling g mk a).vm } : State).setVm s₂.vm := rfl
      rw [e2] at this
      exact this
    have hf₂ : s₂.frames = .throwing q :: .java g :: U.frames.tail := hend
    have hW' : U.WarmedH s₂.vm := hW₂
    have hs₂ : s₂ = ((({ U with heap := s₂.heap, slotsUsed := s₂.slotsUsed } : State).setVm s₂.vm).setTop g).pushFrame (.throwing q) := by
      refine e3.trans ?_
      rw [hf₂, State.calling_eq h.top, State.setFrames_setFrames, State.pushFrame, State.frames_setTop _ hr', State.setTop_of_frames _ hr', State.setFrames_setFrames, hr]
      rfl
    have hsame : U.sameButNew ({ U with heap := s₂.heap, slotsUsed := s₂.slotsUsed } : State) L mc ms := by
      refine ⟨?_, q2, q3, q4, q5, q6⟩
      obtain ⟨t, ht, -⟩ := State.frames_cons hr
      show ({ U with heap := s₂.heap, slotsUsed := s₂.slotsUsed } : State) = { U.setFrames U.frames with heap := s₂.heap, slotsUsed := s₂.slotsUsed }
      rw [State.setFrames_self ht]
    subst hg
    refine Or.inr ⟨q, ⟨(({ U with heap := s₂.heap, slotsUsed := s₂.slotsUsed } : State).setVm s₂.vm), Ls ++ L, c0 + mc, s0 + ms⟩,
      ⟨X.admits, X.cas, X.clock, X.frames, X.room, X.hears, X.method, X.code, (X.here.setHeapUsed s₂.heap s₂.slotsUsed).setVm hW'.alike, X.tail, State.WarmedH.trans X.warmed hW', X.limits, X.bytes, X.same.trans (hsame.setVm s.vm)⟩,
      ⟨g, mk, s₂, L, E, ce, rfl, rfl, hx, hce, hcv, hcl, rfl, hL, rfl, rfl⟩, ?_⟩
    show Steps p.tables e below _ (((({ U with heap := s₂.heap, slotsUsed := s₂.slotsUsed } : State).setVm s₂.vm).setTop g).pushFrame (.throwing q))
    rw [← hs₂]
    exact hsteps
end
variable {p : Program} {l : Launch} {e : Env} {R : Room} {s : State} {m : MethodId} {args : Array Value} {below : List Frame} {meth : Method} {c : Code} {T : State} {H : Heap} {locs : List Loc} {cells slots : Nat}
theorem vx_callVX (X : Stand p l e R s m args below meth c T locs cells slots) (hexec : p.tables.exec = Jvm.exec) {own C : String} {index : Nat} {y : MethodName} {bytes : ByteArray} {maxL : Nat} {ret : Option FieldType} {hh : List (Nat × Nat × Nat × Nat)}
    (hown : s.vm.findClass own = some m.cls) (hlink : (Cond.methodLink own index y).before args s = true) (hinst : (Cond.instanceMethod y).before args s = true) (hsel : (Cond.selects C y y).before args s = true)
    (hcode : (Cond.codeWith y bytes maxL ret hh).before args s = true) (hy : y.cls ≠ "java/lang/invoke/MethodHandle" ∧ y.cls ≠ "java/lang/invoke/VarHandle")
    {W9 : Nat} {Pre : Pt → Array Value → Prop} {Post : Pt → Array Value → Option Value → Pt → Prop} {PostX : Pt → Array Value → Addr → Pt → Prop} (hK : vx_Back l R p e below s args y 3 W9 Pre Post PostX)
    {b : Addr} {cellB : Cell} (hcell : T.heap[b]? = some cellB) (hobj : cellB.vm.isStatics = false) (hcls : s.vm.findClass C = some cellB.cls)
    {g : JFrame} (hg : g.method = m) (hsize : g.locals.size = c.maxLocals) {argsL rest : List Value} (hlen : ∀ sig, parseMethodDescriptor y.desc = some sig → argsL.length = sig.parameters.length)
    (hstack : g.stack = argsL.reverse ++ .ref b :: rest) (hW : 2 * g.monitorRoom + (rest.map fun v => v.category).sum ≤ W9) (hdg : decode c.code g.pc = .ok (.invokevirtual index, 3))
    (hpre : ∀ vm₁, s.WarmedH vm₁ → Pre ⟨T.setVm vm₁, locs, cells, slots⟩ (Value.ref b :: argsL).toArray) :
    (∃ (v : Option Value) (vm₁ : Vm) (B : Pt), s.WarmedH vm₁ ∧ Stand p l e R s m args below meth c B.U B.locs B.cells B.slots ∧ Post ⟨T.setVm vm₁, locs, cells, slots⟩ (Value.ref b :: argsL).toArray v B ∧
      ∀ target, Steps p.tables e below (B.U.setTop { g with pc := g.pc + 3, stack := v.toList ++ rest }) target → Steps p.tables e below (T.setTop g) target) ∨
    (∃ (q : Addr) (vm₁ : Vm) (B : Pt), s.WarmedH vm₁ ∧ Stand p l e R s m args below meth c B.U B.locs B.cells B.slots ∧ PostX ⟨T.setVm vm₁, locs, cells, slots⟩ (Value.ref b :: argsL).toArray q B ∧
      Steps p.tables e below (T.setTop g) ((B.U.setTop { g with stack := rest }).pushFrame (.throwing q))) := by
  obtain ⟨mk, methM, hnamed, hmethM, hstM, habM⟩ := Cond.instanceMethod_spec hinst
  obtain ⟨m8, methM', cM, hn8, hmethM', -, -, -, -, -, -, hsigM⟩ := Cond.codeWith_spec hcode
  cases Option.some.inj (hn8.symm.trans hnamed)
  cases hmethM.symm.trans hmethM'
  obtain ⟨c2, r2, m2, q1, q2, q3, q4, kP, hkP, hkPi⟩ := Cond.selects_spec hsel
  cases hcls.symm.trans q1
  cases (State.methodFound?_of_named hnamed hy).symm.trans q2
  cases hnamed.symm.trans q3
  have hselP : selectMethod e.platform s.vm cellB.cls mk = .method mk := by rw [Launch.admits_selectMethod X.admits]; exact q4
  obtain ⟨vm₁, X₁, hstep₁⟩ := X.invokevirtual hexec hown hlink hnamed hmethM hstM hkP hkPi hy (a := b) (cell := cellB) hcell
    (fun z h => by rw [h] at hobj; cases hobj) hselP hmethM habM hkP hkPi (g := g) hg (argsL := argsL) (rest := rest) (hlen _ hsigM) hstack hdg
  rcases hK m meth c ⟨T.setVm vm₁, locs, cells, slots⟩ { g with stack := rest } (.invokevirtual index) mk (Value.ref b :: argsL).toArray X₁ hg hsize hdg hW (X₁.named hnamed) (hpre vm₁ X₁.warmed) with ⟨v, B, X', hpost, hsteps⟩ | ⟨q, B, X', hpost, hsteps⟩
  · exact Or.inl ⟨v, vm₁, B, X₁.warmed, X', hpost, fun target h => hstep₁ _ fun acts => by rw [doInvoke_state]; exact hsteps.trans h⟩
  · exact Or.inr ⟨q, vm₁, B, X₁.warmed, X', hpost, hstep₁ _ fun acts => by rw [doInvoke_state]; exact hsteps⟩
theorem vx_callSX (X : Stand p l e R s m args below meth c T locs cells slots) (hexec : p.tables.exec = Jvm.exec) {own : String} {index : Nat} {y : MethodName} {bytes : ByteArray} {maxL : Nat} {ret : Option FieldType} {hh : List (Nat × Nat × Nat × Nat)}
    (hown : s.vm.findClass own = some m.cls) (hlink : (Cond.methodLink own index y).before args s = true) (hstat : (Cond.static y).before args s = true) (hinit : (Cond.initialized y.cls).before args s = true)
    (hcode : (Cond.codeWith y bytes maxL ret hh).before args s = true) (hy : y.cls ≠ "java/lang/invoke/MethodHandle" ∧ y.cls ≠ "java/lang/invoke/VarHandle")
    {W9 : Nat} {Pre : Pt → Array Value → Prop} {Post : Pt → Array Value → Option Value → Pt → Prop} {PostX : Pt → Array Value → Addr → Pt → Prop} (hK : vx_Back l R p e below s args y 3 W9 Pre Post PostX)
    {g : JFrame} (hg : g.method = m) (hsize : g.locals.size = c.maxLocals) {argsL rest : List Value} (hlen : ∀ sig, parseMethodDescriptor y.desc = some sig → argsL.length = sig.parameters.length)
    (hstack : g.stack = argsL.reverse ++ rest) (hW : 2 * g.monitorRoom + (rest.map fun v => v.category).sum ≤ W9) (hdg : decode c.code g.pc = .ok (.invokestatic index, 3))
    (hpre : ∀ vm₁, s.WarmedH vm₁ → Pre ⟨T.setVm vm₁, locs, cells, slots⟩ argsL.toArray) :
    (∃ (v : Option Value) (vm₁ : Vm) (B : Pt), s.WarmedH vm₁ ∧ Stand p l e R s m args below meth c B.U B.locs B.cells B.slots ∧ Post ⟨T.setVm vm₁, locs, cells, slots⟩ argsL.toArray v B ∧
      ∀ target, Steps p.tables e below (B.U.setTop { g with pc := g.pc + 3, stack := v.toList ++ rest }) target → Steps p.tables e below (T.setTop g) target) ∨
    (∃ (q : Addr) (vm₁ : Vm) (B : Pt), s.WarmedH vm₁ ∧ Stand p l e R s m args below meth c B.U B.locs B.cells B.slots ∧ PostX ⟨T.setVm vm₁, locs, cells, slots⟩ argsL.toArray q B ∧
      Steps p.tables e below (T.setTop g) ((B.U.setTop { g with stack := rest }).pushFrame (.throwing q))) := by
  obtain ⟨mk, methM, cM, hnamed, hmethM, -, -, -, -, -, -, hsigM⟩ := Cond.codeWith_spec hcode
  have hstatic : methM.isStatic = true := Cond.static_spec hnamed hmethM hstat
  obtain ⟨kP, hkP, -⟩ := className_of_methodNamed hnamed
  have hinitP : kP.init = .initialized := Cond.initialized_spec (findClass_of_methodNamed hnamed) hkP hinit
  obtain ⟨vm₁, X₁, hstep₁⟩ := X.invokestatic hexec hown hlink hnamed hmethM hstatic hkP hinitP hy (g := g) hg (argsL := argsL) (rest := rest) (hlen _ hsigM) hstack hdg
  rcases hK m meth c ⟨T.setVm vm₁, locs, cells, slots⟩ { g with stack := rest } (.invokestatic index) mk argsL.toArray X₁ hg hsize hdg hW (X₁.named hnamed) (hpre vm₁ X₁.warmed) with ⟨v, B, X', hpost, hsteps⟩ | ⟨q, B, X', hpost, hsteps⟩
  · exact Or.inl ⟨v, vm₁, B, X₁.warmed, X', hpost, fun target h => hstep₁ _ fun acts => by rw [doInvoke_state]; exact hsteps.trans h⟩
  · exact Or.inr ⟨q, vm₁, B, X₁.warmed, X', hpost, hstep₁ _ fun acts => by rw [doInvoke_state]; exact hsteps⟩
theorem vx_callVW (X : Stand p l e R s m args below meth c T locs cells slots) (hexec : p.tables.exec = Jvm.exec) {own C : String} {index : Nat} {y : MethodName} {bytes : ByteArray} {maxL : Nat} {ret : Option FieldType} {hh : List (Nat × Nat × Nat × Nat)}
    (hown : s.vm.findClass own = some m.cls) (hlink : (Cond.methodLink own index y).before args s = true) (hinst : (Cond.instanceMethod y).before args s = true) (hsel : (Cond.selects C y y).before args s = true)
    (hcode : (Cond.codeWith y bytes maxL ret hh).before args s = true) (hy : y.cls ≠ "java/lang/invoke/MethodHandle" ∧ y.cls ≠ "java/lang/invoke/VarHandle")
    {W9 : Nat} {Pre : Pt → Array Value → Prop} {Post : Pt → Array Value → Option Value → Pt → Prop} (hK : Back l R p e below s args y 3 W9 Pre Post)
    {b : Addr} {cellB : Cell} (hcell : T.heap[b]? = some cellB) (hobj : cellB.vm.isStatics = false) (hcls : s.vm.findClass C = some cellB.cls)
    {g : JFrame} (hg : g.method = m) (hsize : g.locals.size = c.maxLocals) {argsL rest : List Value} (hlen : ∀ sig, parseMethodDescriptor y.desc = some sig → argsL.length = sig.parameters.length)
    (hstack : g.stack = argsL.reverse ++ .ref b :: rest) (hW : 2 * g.monitorRoom + (rest.map fun v => v.category).sum ≤ W9) (hdg : decode c.code g.pc = .ok (.invokevirtual index, 3))
    (hpre : ∀ vm₁, s.WarmedH vm₁ → Pre ⟨T.setVm vm₁, locs, cells, slots⟩ (Value.ref b :: argsL).toArray) :
    ∃ (v : Option Value) (vm₁ : Vm) (B : Pt), s.WarmedH vm₁ ∧ Stand p l e R s m args below meth c B.U B.locs B.cells B.slots ∧ Post ⟨T.setVm vm₁, locs, cells, slots⟩ (Value.ref b :: argsL).toArray v B ∧
      ∀ target, Steps p.tables e below (B.U.setTop { g with pc := g.pc + 3, stack := v.toList ++ rest }) target → Steps p.tables e below (T.setTop g) target := by
  obtain ⟨mk, methM, hnamed, hmethM, hstM, habM⟩ := Cond.instanceMethod_spec hinst
  obtain ⟨m8, methM', cM, hn8, hmethM', -, -, -, -, -, -, hsigM⟩ := Cond.codeWith_spec hcode
  cases Option.some.inj (hn8.symm.trans hnamed)
  cases hmethM.symm.trans hmethM'
  obtain ⟨c2, r2, m2, q1, q2, q3, q4, kP, hkP, hkPi⟩ := Cond.selects_spec hsel
  cases hcls.symm.trans q1
  cases (State.methodFound?_of_named hnamed hy).symm.trans q2
  cases hnamed.symm.trans q3
  have hselP : selectMethod e.platform s.vm cellB.cls mk = .method mk := by rw [Launch.admits_selectMethod X.admits]; exact q4
  obtain ⟨vm₁, X₁, hstep₁⟩ := X.invokevirtual hexec hown hlink hnamed hmethM hstM hkP hkPi hy (a := b) (cell := cellB) hcell
    (fun z h => by rw [h] at hobj; cases hobj) hselP hmethM habM hkP hkPi (g := g) hg (argsL := argsL) (rest := rest) (hlen _ hsigM) hstack hdg
  obtain ⟨v, B, X', hpost, hsteps⟩ := hK m meth c ⟨T.setVm vm₁, locs, cells, slots⟩ { g with stack := rest } (.invokevirtual index) mk (Value.ref b :: argsL).toArray X₁ hg hsize hdg hW (X₁.named hnamed) (hpre vm₁ X₁.warmed)
  exact ⟨v, vm₁, B, X₁.warmed, X', hpost, fun target h => hstep₁ _ fun acts => by rw [doInvoke_state]; exact hsteps.trans h⟩
abbrev vx_CVW (R : Room) (s : State) (args : Array Value) (own C : String) (index : Nat) (y : MethodName) (bytes : ByteArray) (maxL : Nat) (ret : Option FieldType) (hh : List (Nat × Nat × Nat × Nat)) (ws : List Cond) (rm : Room) (mc ms n : Nat) : Prop :=
  (rm.cells = mc ∧ rm.slots = ms ∧ rm.frames + 1 ≤ R.frames ∧ 8 + (maxL + 11) + rm.locals ≤ R.locals ∧ (∀ w ∈ ws, ∀ (a' : Array Value) (U : State), s.WarmedH U.vm → w.before a' U = true) ∧ Cond.codeWith y bytes maxL ret hh ∈ ws) ∧
  (Cond.codeWith y bytes maxL ret hh).before args s = true ∧ (Cond.initialized y.cls).before args s = true ∧ (y.cls ≠ "java/lang/invoke/MethodHandle" ∧ y.cls ≠ "java/lang/invoke/VarHandle") ∧
  (∀ sig, parseMethodDescriptor y.desc = some sig → n = sig.parameters.length) ∧ (Cond.methodLink own index y).before args s = true ∧ (Cond.instanceMethod y).before args s = true ∧ (Cond.selects C y y).before args s = true
theorem vx_cwVW {own C : String} {index maxL mc ms : Nat} {y : MethodName} {bytes : ByteArray} {ret : Option FieldType} {hh : List (Nat × Nat × Nat × Nat)} {Ts ws ws' : List Cond} {rm : Room} (n : Nat) (ht : ∀ w ∈ Ts, w.before args s = true) (hT : GoodIn Ts (wsV own index C y ws)) (hw : ws = Cond.codeWith y bytes maxL ret hh :: ws') (hrc : rm.cells = mc) (hrs : rm.slots = ms)
    (hd : y.cls = C ∧ y.cls ≠ "java/lang/invoke/MethodHandle" ∧ y.cls ≠ "java/lang/invoke/VarHandle" ∧ (parseMethodDescriptor y.desc).map (fun d => d.parameters.length) = some n) (hR : rm.frames + 1 ≤ R.frames ∧ 8 + (maxL + 11) + rm.locals ≤ R.locals) :
    vx_CVW R s args own C index y bytes maxL ret hh ws rm mc ms n := by
  obtain ⟨hC, hd⟩ := hd
  subst hC
  have ok : ∀ w ∈ wsV own index y.cls y ws, w.before args s = true := fun w h => ht w (hT w h).1
  have hG : GoodIn Ts ws := fun w h => hT w (by unfold wsV; exact List.mem_append_right _ h)
  have hc : Cond.codeWith y bytes maxL ret hh ∈ ws := by rw [hw]; exact List.mem_cons_self
  refine ⟨⟨hrc, hrs, hR.1, hR.2, pay_in ht hG, hc⟩, ht _ (hG _ hc).1, ok _ (by simp [wsV]), ⟨hd.1, hd.2.1⟩, fun sig h => ?_, ok _ (by simp [wsV]), ok _ (by simp [wsV]), ok _ (by simp [wsV])⟩
  have h2 := hd.2.2
  rw [h] at h2
  exact (Option.some.inj h2).symm
theorem vx_runVW {y : MethodName} {bytes cc : ByteArray} {maxL nL mc ms n index : Nat} {ret : Option FieldType} {hh : List (Nat × Nat × Nat × Nat)} {ws : List Cond} {rm : Room} {Pc : Array Value → State → Prop} {Qc : Array Value → State → Outcome → State → Prop} {free : Addr → Prop} {Ts : List Cond} {own C : String} {b : Addr} {As rest : List Value} {g : JFrame}
    (S : CallFix p m c cc nL s args Ts own) (hM : Met l y ws rm Pc Qc mc ms free) (cw : vx_CVW R s args own C index y bytes maxL ret hh ws rm mc ms n) (hp : PreV s H C b Pc As)
    (hg : g.method = m) (hn : As.length = n) (hsize : g.locals.size = nL) (hstack : g.stack = As.reverse ++ .ref b :: rest) (hW : 2 * g.monitorRoom + (rest.map fun v => v.category).sum ≤ 8) (hdg : decode cc g.pc = .ok (.invokevirtual index, 3)) (hf : cells + mc ≤ R.cells ∧ slots + ms ≤ R.slots) :
    va_Run p l e R s m args below meth c H locs cells slots mc ms g rest (Qc (Value.ref b :: As).toArray) free := by
  obtain ⟨⟨hrc, hrs, hfr, hlo, hws, hcw⟩, hcode, hini, hy, hlen, hl, hin, hse⟩ := cw
  have hK : Back l R p e below s args y 3 8 (PreOf R mc ms Pc) (PostOf Qc mc ms free) := va_backW (hh := hh) (bytes := bytes) (maxL := maxL) (ret := ret) hM hp.1 hrc hrs hfr hlo hws hcw (fun a' U hW => word_at hW (Or.inl (by first | rfl | simp [Cond.onTables, Cond.keeps, Cond.steady])) hini)
  obtain ⟨hx, hb, hml, ho, -⟩ := S
  obtain ⟨-, ⟨cellB, hcB, hoB, hclB⟩, hPc⟩ := hp
  intro T hT X
  obtain ⟨v, vm₁, ⟨U', l2, c2, s2⟩, hW₁, X', ⟨g', mk, t, L, e1, e2, hq, h1, hL, h2, h3⟩, st⟩ := vx_callVW X hx (C := C) (hh := hh) (bytes := bytes) (maxL := maxL) (ret := ret) ho hl hin hse hcode hy hK (by rw [hT]; exact hcB) hoB hclB hg (hsize.trans hml.symm) (argsL := As) (rest := rest) (fun sig h => hn.trans (hlen sig h)) hstack hW (by rw [hb]; exact hdg)
    (fun vm₁ hW₁ => ⟨hf.1, hf.2, hPc (T.setVm vm₁) hT hW₁⟩)
  dsimp only [Pt.U, Pt.locs, Pt.cells, Pt.slots] at X' e1 e2 h1 h2 h3 st
  subst h1; subst h2; subst h3
  exact ⟨v, (T.setVm vm₁).calling g' mk (Value.ref b :: As).toArray, t, U', L, hT, X', hL, e1, e2, hq, st⟩
section
variable {y : MethodName} {bytes cc : ByteArray} {maxL nL mc ms n index : Nat} {ret : Option FieldType} {ws : List Cond} {rm : Room} {Pc : Array Value → State → Prop} {Qc : Array Value → State → Outcome → State → Prop} {XC : String → State → State → Prop} {free : Addr → Prop} {Ts : List Cond} {own C : String} {b : Addr} {As rest : List Value} {g : JFrame}
theorem vx_runVX {hh : List (Nat × Nat × Nat × Nat)} (S : CallFix p m c cc nL s args Ts own) (hM : vx_Met l y ws rm Pc Qc XC mc ms free) (cw : vx_CVW R s args own C index y bytes maxL ret hh ws rm mc ms n) (hp : PreV s H C b Pc As)
    (hg : g.method = m) (hn : As.length = n) (hsize : g.locals.size = nL) (hstack : g.stack = As.reverse ++ .ref b :: rest) (hW : 2 * g.monitorRoom + (rest.map fun v => v.category).sum ≤ 8) (hdg : decode cc g.pc = .ok (.invokevirtual index, 3)) (hf : cells + mc ≤ R.cells ∧ slots + ms ≤ R.slots) :
    vx_Run p l e R s m args below meth c H locs cells slots mc ms g rest (Qc (Value.ref b :: As).toArray) XC free := by
  obtain ⟨⟨hrc, hrs, hfr, hlo, hws, hcw⟩, hcode, hini, hy, hlen, hl, hin, hse⟩ := cw
  have hK : vx_Back l R p e below s args y 3 8 (PreOf R mc ms Pc) (PostOf Qc mc ms free) (vx_Post XC mc ms free) := vx_backW (hh := hh) (bytes := bytes) (maxL := maxL) (ret := ret) hM hp.1 hrc hrs hfr hlo hws hcw (fun a' U hW => word_at hW (Or.inl (by first | rfl | simp [Cond.onTables, Cond.keeps, Cond.steady])) hini)
  obtain ⟨hx, hb, hml, ho, -⟩ := S
  obtain ⟨-, ⟨cellB, hcB, hoB, hclB⟩, hPc⟩ := hp
  intro T hT X
  rcases vx_callVX X hx (C := C) (hh := hh) (bytes := bytes) (maxL := maxL) (ret := ret) ho hl hin hse hcode hy hK (by rw [hT]; exact hcB) hoB hclB hg (hsize.trans hml.symm) (argsL := As) (rest := rest) (fun sig h => hn.trans (hlen sig h)) hstack hW (by rw [hb]; exact hdg)
    (fun vm₁ hW₁ => ⟨hf.1, hf.2, hPc (T.setVm vm₁) hT hW₁⟩) with ⟨v, vm₁, ⟨U', l2, c2, s2⟩, hW₁, X', ⟨g', mk, t, L, e1, e2, hq, h1, hL, h2, h3⟩, st⟩ | ⟨q, vm₁, ⟨U', l2, c2, s2⟩, hW₁, X', ⟨g', mk, t, L, E, ce, e1, e2, hq, hce, hcv, hcl, h1, hL, h2, h3⟩, st⟩
  · dsimp only [Pt.U, Pt.locs, Pt.cells, Pt.slots] at X' e1 e2 h1 h2 h3 st
    subst h1; subst h2; subst h3
    exact Or.inl ⟨v, (T.setVm vm₁).calling g' mk (Value.ref b :: As).toArray, t, U', L, hT, X', hL, e1, e2, hq, st⟩
  · dsimp only [Pt.U, Pt.locs, Pt.cells, Pt.slots] at X' e1 e2 h1 h2 h3 st hcl
    subst h1; subst h2; subst h3
    exact Or.inr ⟨q, (T.setVm vm₁).calling g' mk (Value.ref b :: As).toArray, t, U', L, E, ce, hT, X', hL, e1, e2, hq, hce, hcv, vx_cls hW₁ hcl, st⟩
theorem vx_runSX {hh : List (Nat × Nat × Nat × Nat)} (S : CallFix p m c cc nL s args Ts own) (hM : vx_Met l y ws rm Pc Qc XC mc ms free) (cw : vx_CSW R s args own index y bytes maxL ret hh ws rm mc ms n) (hp : PreS s H Pc As)
    (hg : g.method = m) (hn : As.length = n) (hsize : g.locals.size = nL) (hstack : g.stack = As.reverse ++ rest) (hW : 2 * g.monitorRoom + (rest.map fun v => v.category).sum ≤ 8) (hdg : decode cc g.pc = .ok (.invokestatic index, 3)) (hf : cells + mc ≤ R.cells ∧ slots + ms ≤ R.slots) :
    vx_Run p l e R s m args below meth c H locs cells slots mc ms g rest (Qc As.toArray) XC free := by
  obtain ⟨⟨hrc, hrs, hfr, hlo, hws, hcw⟩, hcode, hini, hy, hlen, hl, hstt⟩ := cw
  have hK : vx_Back l R p e below s args y 3 8 (PreOf R mc ms Pc) (PostOf Qc mc ms free) (vx_Post XC mc ms free) := vx_backW (hh := hh) (bytes := bytes) (maxL := maxL) (ret := ret) hM hp.1 hrc hrs hfr hlo hws hcw (fun a' U hW => word_at hW (Or.inl (by first | rfl | simp [Cond.onTables, Cond.keeps, Cond.steady])) hini)
  obtain ⟨hx, hb, hml, ho, -⟩ := S
  intro T hT X
  rcases vx_callSX X hx (hh := hh) (bytes := bytes) (maxL := maxL) (ret := ret) ho hl hstt hini hcode hy hK hg (hsize.trans hml.symm) (argsL := As) (rest := rest) (fun sig h => hn.trans (hlen sig h)) hstack hW (by rw [hb]; exact hdg)
    (fun vm₁ hW₁ => ⟨hf.1, hf.2, hp.2 (T.setVm vm₁) hT hW₁⟩) with ⟨v, vm₁, ⟨U', l2, c2, s2⟩, hW₁, X', ⟨g', mk, t, L, e1, e2, hq, h1, hL, h2, h3⟩, st⟩ | ⟨q, vm₁, ⟨U', l2, c2, s2⟩, hW₁, X', ⟨g', mk, t, L, E, ce, e1, e2, hq, hce, hcv, hcl, h1, hL, h2, h3⟩, st⟩
  · dsimp only [Pt.U, Pt.locs, Pt.cells, Pt.slots] at X' e1 e2 h1 h2 h3 st
    subst h1; subst h2; subst h3
    exact Or.inl ⟨v, (T.setVm vm₁).calling g' mk As.toArray, t, U', L, hT, X', hL, e1, e2, hq, st⟩
  · dsimp only [Pt.U, Pt.locs, Pt.cells, Pt.slots] at X' e1 e2 h1 h2 h3 st hcl
    subst h1; subst h2; subst h3
    exact Or.inr ⟨q, (T.setVm vm₁).calling g' mk As.toArray, t, U', L, E, ce, hT, X', hL, e1, e2, hq, hce, hcv, vx_cls hW₁ hcl, st⟩
end
end VXH
theorem vx_ofWH {l : Launch} {y : MethodName} {ws ws' : List Cond} {rm : Room} {Pc : Array Value → State → Prop} {Qc : Array Value → State → Outcome → State → Prop} {XC : String → State → State → Prop} {mc ms : Nat} {free : Addr → Prop} {cc : ByteArray} {maxL : Nat} {ret : Option FieldType} {hh : List (Nat × Nat × Nat × Nat)}
    (hy : plainName y.cls = true) (hw : ws = Cond.codeWith y cc maxL ret hh :: ws')
    (body : ∀ p e s m args below meth c s₁, BodyLoose p l y (headSpec ws rm) cc maxL ret e s m args below meth c s₁ → c.maxLocals = maxL → Pc args s →
      W p l e (headSpec ws rm).room s m args below meth c s.heap [] 0 0 (vx_MQ below Qc XC args s mc ms free) (entryFrame m args maxL)) : vx_Met l y ws rm Pc Qc XC mc ms free := by
  refine MetFree.of_bodyS (code := cc) (maxLocals := maxL) (ret := ret) hy ?_ ?_
  · intro args s m h hn
    obtain ⟨m9, meth, c, hn9, h1, h2, h3, h4, -, h5, h6, -⟩ := Cond.codeWith_spec (atoms_spec (ws := ws) h _ (by rw [hw]; exact List.mem_cons_self))
    cases hn.symm.trans hn9
    exact ⟨meth, c, h1, h2, h3, h4, h5, h6⟩
  · intro p e s m args below meth c s₁ B hml hP _
    have hh0 : s₁.heap = s.heap := by rw [B.state]; rfl
    obtain ⟨t, a1, o, b1, b2, b3⟩ := body p e s m args below meth c s₁ B hml hP s₁ hh0 (Stand.of_body B)
    exact ⟨t, o, a1, b1, b2, b3⟩
/-! ===== END ===== -/
end
section
def RX0 : String := "CrateTour$1"
def TX0 : u_T := fun k => match k with
  | _ => ("", "", "", false)
def tyX0 : Nat → FieldType := fun k => match k with
  | _ => .int
abbrev wsX00 : List Cond := u_ws RX0 TX0 0
theorem nmX0 : ∀ a, a < 0 → ∀ b, b < 0 → a ≠ b → (TX0 a).2.1 ≠ (TX0 b).2.1 := by decide +kernel
theorem tyX0_ok : ∀ k, k < 0 → parseFieldDescriptor (TX0 k).2.2.1 = some (tyX0 k) := by decide +kernel
def RX1 : String := "CrateTour$Checks"
def TX1 : u_T := fun k => match k with
  | _ => ("CrateTour$Checks", "state", "LCrateTour$State;", true)
def tyX1 : Nat → FieldType := fun k => match k with
  | _ => .object "CrateTour$State"
abbrev wsX10 : List Cond := u_ws RX1 TX1 1
theorem nmX1 : ∀ a, a < 1 → ∀ b, b < 1 → a ≠ b → (TX1 a).2.1 ≠ (TX1 b).2.1 := by decide +kernel
theorem tyX1_ok : ∀ k, k < 1 → parseFieldDescriptor (TX1 k).2.2.1 = some (tyX1 k) := by decide +kernel
abbrev cX1_init : ByteArray := prog_3_method_1_code
def yX1_init : MethodName := ⟨RX1, "<init>", "(LCrateTour$State;)V"⟩
abbrev cX1_ofNewVenue : ByteArray := prog_3_method_2_code
def yX1_ofNewVenue : MethodName := ⟨RX1, "ofNewVenue", "(IIII)I"⟩
abbrev cX1_ofClimate : ByteArray := prog_3_method_3_code
def yX1_ofClimate : MethodName := ⟨RX1, "ofClimate", "(III)I"⟩
abbrev cX1_ofWay : ByteArray := prog_3_method_4_code
def yX1_ofWay : MethodName := ⟨RX1, "ofWay", "(III)I"⟩
abbrev cX1_ofLenderValue : ByteArray := prog_3_method_5_code
def yX1_ofLenderValue : MethodName := ⟨RX1, "ofLenderValue", "(III)I"⟩
abbrev cX1_ofWayRate : ByteArray := prog_3_method_6_code
def yX1_ofWayRate : MethodName := ⟨RX1, "ofWayRate", "(I)I"⟩
abbrev cX1_ofNewCourier : ByteArray := prog_3_method_7_code
def yX1_ofNewCourier : MethodName := ⟨RX1, "ofNewCourier", "(I)I"⟩
abbrev cX1_ofNewCrate : ByteArray := prog_3_method_8_code
def yX1_ofNewCrate : MethodName := ⟨RX1, "ofNewCrate", "(II)I"⟩
abbrev cX1_ofNewWork : ByteArray := prog_3_method_9_code
def yX1_ofNewWork : MethodName := ⟨RX1, "ofNewWork", "(IIII)I"⟩
abbrev cX1_ofOpening : ByteArray := prog_3_method_10_code
def yX1_ofOpening : MethodName := ⟨RX1, "ofOpening", "(I)I"⟩
abbrev cX1_ofClosing : ByteArray := prog_3_method_11_code
def yX1_ofClosing : MethodName := ⟨RX1, "ofClosing", "(I)I"⟩
abbrev cX1_ofNesting : ByteArray := prog_3_method_12_code
def yX1_ofNesting : MethodName := ⟨RX1, "ofNesting", "(II)I"⟩
abbrev cX1_ofTakingOut : ByteArray := prog_3_method_13_code
def yX1_ofTakingOut : MethodName := ⟨RX1, "ofTakingOut", "(I)I"⟩
abbrev cX1_ofPacking : ByteArray := prog_3_method_14_code
def yX1_ofPacking : MethodName := ⟨RX1, "ofPacking", "(II)I"⟩
abbrev cX1_ofUnpacking : ByteArray := prog_3_method_15_code
def yX1_ofUnpacking : MethodName := ⟨RX1, "ofUnpacking", "(I)I"⟩
abbrev cX1_ofLeg : ByteArray := prog_3_method_16_code
def yX1_ofLeg : MethodName := ⟨RX1, "ofLeg", "(III)I"⟩
abbrev cX1_ofSending : ByteArray := prog_3_method_17_code
def yX1_ofSending : MethodName := ⟨RX1, "ofSending", "(III)I"⟩
abbrev cX1_ofWaiting : ByteArray := prog_3_method_18_code
def yX1_ofWaiting : MethodName := ⟨RX1, "ofWaiting", "(I)I"⟩
abbrev cX1_ofNumber : ByteArray := prog_3_method_19_code
def yX1_ofNumber : MethodName := ⟨RX1, "ofNumber", "(Z)I"⟩
abbrev cX1_ofValue : ByteArray := prog_3_method_20_code
def yX1_ofValue : MethodName := ⟨RX1, "ofValue", "(ZII)I"⟩
abbrev cX1_ofNoted : ByteArray := prog_3_method_21_code
def yX1_ofNoted : MethodName := ⟨RX1, "ofNoted", "(II)I"⟩
abbrev cX1_ofByte : ByteArray := prog_3_method_22_code
def yX1_ofByte : MethodName := ⟨RX1, "ofByte", "(II)I"⟩
abbrev cX1_reasonAgainst : ByteArray := prog_3_method_23_code
def yX1_reasonAgainst : MethodName := ⟨RX1, "reasonAgainst", "(III)I"⟩
abbrev cX1_reasonOfCrate : ByteArray := prog_3_method_24_code
def yX1_reasonOfCrate : MethodName := ⟨RX1, "reasonOfCrate", "(II)I"⟩
abbrev cX1_reasonOfWorks : ByteArray := prog_3_method_25_code
def yX1_reasonOfWorks : MethodName := ⟨RX1, "reasonOfWorks", "(II)I"⟩
abbrev cX1_isAboveCap : ByteArray := prog_3_method_26_code
def yX1_isAboveCap : MethodName := ⟨RX1, "isAboveCap", "(II)Z"⟩
abbrev cX1_reasonOfCourier : ByteArray := prog_3_method_27_code
def yX1_reasonOfCourier : MethodName := ⟨RX1, "reasonOfCourier", "(II)I"⟩
abbrev cX1_needsCourier : ByteArray := prog_3_method_28_code
def yX1_needsCourier : MethodName := ⟨RX1, "needsCourier", "(I)Z"⟩
abbrev cX1_bars : ByteArray := prog_3_method_29_code
def yX1_bars : MethodName := ⟨RX1, "bars", "([II)Z"⟩
abbrev cX1_suits : ByteArray := prog_3_method_30_code
def yX1_suits : MethodName := ⟨RX1, "suits", "([ILCrateTour$Venue;)Z"⟩
abbrev cX1_mayBeOpened : ByteArray := prog_3_method_31_code
def yX1_mayBeOpened : MethodName := ⟨RX1, "mayBeOpened", "(I)Z"⟩
abbrev cX1_holdsOpenCrate : ByteArray := prog_3_method_32_code
def yX1_holdsOpenCrate : MethodName := ⟨RX1, "holdsOpenCrate", "(I)Z"⟩
abbrev cX1_mayBeNested : ByteArray := prog_3_method_33_code
def yX1_mayBeNested : MethodName := ⟨RX1, "mayBeNested", "(II)Z"⟩
abbrev cX1_firstWrong : ByteArray := prog_3_method_34_code
def yX1_firstWrong : MethodName := ⟨RX1, "firstWrong", "(ZZZ)I"⟩
abbrev cX1_isIn : ByteArray := prog_3_method_35_code
def yX1_isIn : MethodName := ⟨RX1, "isIn", "(III)Z"⟩
abbrev cX1_isClimate : ByteArray := prog_3_method_36_code
def yX1_isClimate : MethodName := ⟨RX1, "isClimate", "(II)Z"⟩
abbrev cX1_isLenderValue : ByteArray := prog_3_method_37_code
def yX1_isLenderValue : MethodName := ⟨RX1, "isLenderValue", "(II)Z"⟩
def RX2 : String := "CrateTour$CommandText"
def TX2 : u_T := fun k => match k with
  | 0 => ("CrateTour$CommandText", "bytes", "[B", true)
  | 1 => ("CrateTour$CommandText", "length", "I", false)
  | 2 => ("CrateTour$CommandText", "position", "I", false)
  | 3 => ("CrateTour$CommandText", "fault", "I", false)
  | 4 => ("CrateTour$CommandText", "word", "LCrateTour$Word;", false)
  | _ => ("CrateTour$CommandText", "numbers", "[I", true)
def tyX2 : Nat → FieldType := fun k => match k with
  | 0 => .array .byte
  | 1 => .int
  | 2 => .int
  | 3 => .int
  | 4 => .object "CrateTour$Word"
  | _ => .array .int
abbrev wsX20 : List Cond := u_ws RX2 TX2 6
theorem nmX2 : ∀ a, a < 6 → ∀ b, b < 6 → a ≠ b → (TX2 a).2.1 ≠ (TX2 b).2.1 := by decide +kernel
theorem tyX2_ok : ∀ k, k < 6 → parseFieldDescriptor (TX2 k).2.2.1 = some (tyX2 k) := by decide +kernel
abbrev cX2_init : ByteArray := prog_4_method_1_code
def yX2_init : MethodName := ⟨RX2, "<init>", "()V"⟩
abbrev cX2_append : ByteArray := prog_4_method_2_code
def yX2_append : MethodName := ⟨RX2, "append", "(I)I"⟩
abbrev cX2_empty : ByteArray := prog_4_method_3_code
def yX2_empty : MethodName := ⟨RX2, "empty", "()I"⟩
abbrev cX2_findFault : ByteArray := prog_4_method_4_code
def yX2_findFault : MethodName := ⟨RX2, "findFault", "()I"⟩
abbrev cX2_rewind : ByteArray := prog_4_method_5_code
def yX2_rewind : MethodName := ⟨RX2, "rewind", "()V"⟩
abbrev cX2_readNext : ByteArray := prog_4_method_6_code
def yX2_readNext : MethodName := ⟨RX2, "readNext", "()Z"⟩
abbrev cX2_readWord : ByteArray := prog_4_method_7_code
def yX2_readWord : MethodName := ⟨RX2, "readWord", "()Z"⟩
abbrev cX2_isWordAt : ByteArray := prog_4_method_8_code
def yX2_isWordAt : MethodName := ⟨RX2, "isWordAt", "(Ljava/lang/String;I)Z"⟩
abbrev cX2_readNumbers : ByteArray := prog_4_method_9_code
def yX2_readNumbers : MethodName := ⟨RX2, "readNumbers", "()Z"⟩
abbrev cX2_readNumber : ByteArray := prog_4_method_10_code
def yX2_readNumber : MethodName := ⟨RX2, "readNumber", "(I)Z"⟩
abbrev cX2_readSemicolon : ByteArray := prog_4_method_11_code
def yX2_readSemicolon : MethodName := ⟨RX2, "readSemicolon", "()Z"⟩
abbrev cX2_skipSpaces : ByteArray := prog_4_method_12_code
def yX2_skipSpaces : MethodName := ⟨RX2, "skipSpaces", "()V"⟩
abbrev cX2_isAtDigit : ByteArray := prog_4_method_13_code
def yX2_isAtDigit : MethodName := ⟨RX2, "isAtDigit", "()Z"⟩
abbrev cX2_failAt : ByteArray := prog_4_method_14_code
def yX2_failAt : MethodName := ⟨RX2, "failAt", "(I)Z"⟩
def RX3 : String := "CrateTour$Crate"
def TX3 : u_T := fun k => match k with
  | 0 => ("CrateTour$Crate", "insulation", "I", false)
  | 1 => ("CrateTour$Crate", "isOpen", "Z", false)
  | 2 => ("CrateTour$Crate", "holder", "I", false)
  | 3 => ("CrateTour$Crate", "venue", "I", false)
  | 4 => ("CrateTour$Crate", "goal", "I", false)
  | 5 => ("CrateTour$Crate", "arrival", "I", false)
  | 6 => ("CrateTour$Crate", "companion", "I", false)
  | 7 => ("CrateTour$Crate", "temperature", "I", false)
  | 8 => ("CrateTour$Crate", "humidity", "I", false)
  | _ => ("CrateTour$Crate", "waitsSince", "I", false)
def tyX3 : Nat → FieldType := fun k => match k with
  | 0 => .int
  | 1 => .boolean
  | 2 => .int
  | 3 => .int
  | 4 => .int
  | 5 => .int
  | 6 => .int
  | 7 => .int
  | 8 => .int
  | _ => .int
abbrev wsX30 : List Cond := u_ws RX3 TX3 10
theorem nmX3 : ∀ a, a < 10 → ∀ b, b < 10 → a ≠ b → (TX3 a).2.1 ≠ (TX3 b).2.1 := by decide +kernel
theorem tyX3_ok : ∀ k, k < 10 → parseFieldDescriptor (TX3 k).2.2.1 = some (tyX3 k) := by decide +kernel
abbrev cX3_init : ByteArray := prog_5_method_1_code
def yX3_init : MethodName := ⟨RX3, "<init>", "()V"⟩
abbrev cX3_copyFrom : ByteArray := prog_5_method_2_code
def yX3_copyFrom : MethodName := ⟨RX3, "copyFrom", "(LCrateTour$Crate;)V"⟩
abbrev cX3_standAt : ByteArray := prog_5_method_3_code
def yX3_standAt : MethodName := ⟨RX3, "standAt", "(I)V"⟩
abbrev cX3_hoursNeededAt : ByteArray := prog_5_method_4_code
def yX3_hoursNeededAt : MethodName := ⟨RX3, "hoursNeededAt", "(LCrateTour$Venue;)I"⟩
def RX4 : String := "CrateTour$Deeds"
def TX4 : u_T := fun k => match k with
  | _ => ("CrateTour$Deeds", "state", "LCrateTour$State;", true)
def tyX4 : Nat → FieldType := fun k => match k with
  | _ => .object "CrateTour$State"
abbrev wsX40 : List Cond := u_ws RX4 TX4 1
theorem nmX4 : ∀ a, a < 1 → ∀ b, b < 1 → a ≠ b → (TX4 a).2.1 ≠ (TX4 b).2.1 := by decide +kernel
theorem tyX4_ok : ∀ k, k < 1 → parseFieldDescriptor (TX4 k).2.2.1 = some (tyX4 k) := by decide +kernel
abbrev cX4_init : ByteArray := prog_6_method_1_code
def yX4_init : MethodName := ⟨RX4, "<init>", "(LCrateTour$State;)V"⟩
abbrev cX4_makeVenue : ByteArray := prog_6_method_2_code
def yX4_makeVenue : MethodName := ⟨RX4, "makeVenue", "(IIII)I"⟩
abbrev cX4_changeClimate : ByteArray := prog_6_method_3_code
def yX4_changeClimate : MethodName := ⟨RX4, "changeClimate", "(III)I"⟩
abbrev cX4_changeWay : ByteArray := prog_6_method_4_code
def yX4_changeWay : MethodName := ⟨RX4, "changeWay", "(III)I"⟩
abbrev cX4_changeLender : ByteArray := prog_6_method_5_code
def yX4_changeLender : MethodName := ⟨RX4, "changeLender", "(III)I"⟩
abbrev cX4_changeWayRate : ByteArray := prog_6_method_6_code
def yX4_changeWayRate : MethodName := ⟨RX4, "changeWayRate", "(I)I"⟩
abbrev cX4_makeCourier : ByteArray := prog_6_method_7_code
def yX4_makeCourier : MethodName := ⟨RX4, "makeCourier", "(I)I"⟩
abbrev cX4_makeCrate : ByteArray := prog_6_method_8_code
def yX4_makeCrate : MethodName := ⟨RX4, "makeCrate", "(II)I"⟩
abbrev cX4_makeWork : ByteArray := prog_6_method_9_code
def yX4_makeWork : MethodName := ⟨RX4, "makeWork", "(IIIIZ)I"⟩
abbrev cX4_openCrate : ByteArray := prog_6_method_10_code
def yX4_openCrate : MethodName := ⟨RX4, "openCrate", "(I)I"⟩
abbrev cX4_closeCrate : ByteArray := prog_6_method_11_code
def yX4_closeCrate : MethodName := ⟨RX4, "closeCrate", "(I)I"⟩
abbrev cX4_putCrateInto : ByteArray := prog_6_method_12_code
def yX4_putCrateInto : MethodName := ⟨RX4, "putCrateInto", "(II)I"⟩
abbrev cX4_takeCrateOut : ByteArray := prog_6_method_13_code
def yX4_takeCrateOut : MethodName := ⟨RX4, "takeCrateOut", "(I)I"⟩
abbrev cX4_packWork : ByteArray := prog_6_method_14_code
def yX4_packWork : MethodName := ⟨RX4, "packWork", "(II)I"⟩
abbrev cX4_unpackWork : ByteArray := prog_6_method_15_code
def yX4_unpackWork : MethodName := ⟨RX4, "unpackWork", "(I)I"⟩
abbrev cX4_sendCrate : ByteArray := prog_6_method_16_code
def yX4_sendCrate : MethodName := ⟨RX4, "sendCrate", "(III)I"⟩
abbrev cX4_letHoursPass : ByteArray := prog_6_method_17_code
def yX4_letHoursPass : MethodName := ⟨RX4, "letHoursPass", "(I)I"⟩
abbrev cX4_passHour : ByteArray := prog_6_method_18_code
def yX4_passHour : MethodName := ⟨RX4, "passHour", "()V"⟩
abbrev cX4_arrive : ByteArray := prog_6_method_19_code
def yX4_arrive : MethodName := ⟨RX4, "arrive", "(I)V"⟩
abbrev cX4_endDay : ByteArray := prog_6_method_20_code
def yX4_endDay : MethodName := ⟨RX4, "endDay", "()V"⟩
abbrev cX4_premiumOf : ByteArray := prog_6_method_21_code
def yX4_premiumOf : MethodName := ⟨RX4, "premiumOf", "(II)I"⟩
def RX5 : String := "CrateTour$Forecast"
def TX5 : u_T := fun k => match k with
  | 0 => ("CrateTour$Forecast", "state", "LCrateTour$State;", true)
  | 1 => ("CrateTour$Forecast", "checks", "LCrateTour$Checks;", true)
  | _ => ("CrateTour$Forecast", "around", "[I", true)
def tyX5 : Nat → FieldType := fun k => match k with
  | 0 => .object "CrateTour$State"
  | 1 => .object "CrateTour$Checks"
  | _ => .array .int
abbrev wsX50 : List Cond := u_ws RX5 TX5 3
theorem nmX5 : ∀ a, a < 3 → ∀ b, b < 3 → a ≠ b → (TX5 a).2.1 ≠ (TX5 b).2.1 := by decide +kernel
theorem tyX5_ok : ∀ k, k < 3 → parseFieldDescriptor (TX5 k).2.2.1 = some (tyX5 k) := by decide +kernel
abbrev cX5_init : ByteArray := prog_7_method_1_code
def yX5_init : MethodName := ⟨RX5, "<init>", "(LCrateTour$State;LCrateTour$Checks;)V"⟩
abbrev cX5_timeOfWork : ByteArray := prog_7_method_2_code
def yX5_timeOfWork : MethodName := ⟨RX5, "timeOfWork", "(I)I"⟩
abbrev cX5_timeOfCrate : ByteArray := prog_7_method_3_code
def yX5_timeOfCrate : MethodName := ⟨RX5, "timeOfCrate", "(I)I"⟩
abbrev cX5_soonestVenue : ByteArray := prog_7_method_4_code
def yX5_soonestVenue : MethodName := ⟨RX5, "soonestVenue", "(II)I"⟩
abbrev cX5_timeIfSent : ByteArray := prog_7_method_5_code
def yX5_timeIfSent : MethodName := ⟨RX5, "timeIfSent", "(II)I"⟩
abbrev cX5_timeThrough : ByteArray := prog_7_method_6_code
def yX5_timeThrough : MethodName := ⟨RX5, "timeThrough", "(III)I"⟩
abbrev cX5_listAround : ByteArray := prog_7_method_7_code
def yX5_listAround : MethodName := ⟨RX5, "listAround", "(I)I"⟩
def RX6 : String := "CrateTour$State"
def TX6 : u_T := fun k => match k with
  | 0 => ("CrateTour$State", "time", "I", false)
  | 1 => ("CrateTour$State", "wayRate", "I", false)
  | 2 => ("CrateTour$State", "paid", "I", false)
  | 3 => ("CrateTour$State", "paidForWays", "I", false)
  | 4 => ("CrateTour$State", "arrived", "I", false)
  | 5 => ("CrateTour$State", "venueCount", "I", false)
  | 6 => ("CrateTour$State", "crateCount", "I", false)
  | 7 => ("CrateTour$State", "workCount", "I", false)
  | 8 => ("CrateTour$State", "courierCount", "I", false)
  | 9 => ("CrateTour$State", "venues", "[LCrateTour$Venue;", true)
  | 10 => ("CrateTour$State", "crates", "[LCrateTour$Crate;", true)
  | 11 => ("CrateTour$State", "works", "[LCrateTour$Work;", true)
  | 12 => ("CrateTour$State", "couriers", "[I", true)
  | _ => ("CrateTour$State", "lenders", "[[I", true)
def tyX6 : Nat → FieldType := fun k => match k with
  | 0 => .int
  | 1 => .int
  | 2 => .int
  | 3 => .int
  | 4 => .int
  | 5 => .int
  | 6 => .int
  | 7 => .int
  | 8 => .int
  | 9 => .array (.object "CrateTour$Venue")
  | 10 => .array (.object "CrateTour$Crate")
  | 11 => .array (.object "CrateTour$Work")
  | 12 => .array .int
  | _ => .array (.array .int)
abbrev wsX60 : List Cond := u_ws RX6 TX6 14
theorem nmX6 : ∀ a, a < 14 → ∀ b, b < 14 → a ≠ b → (TX6 a).2.1 ≠ (TX6 b).2.1 := by decide +kernel
theorem tyX6_ok : ∀ k, k < 14 → parseFieldDescriptor (TX6 k).2.2.1 = some (tyX6 k) := by decide +kernel
abbrev cX6_init : ByteArray := prog_8_method_1_code
def yX6_init : MethodName := ⟨RX6, "<init>", "()V"⟩
abbrev cX6_copyFrom : ByteArray := prog_8_method_2_code
def yX6_copyFrom : MethodName := ⟨RX6, "copyFrom", "(LCrateTour$State;)V"⟩
abbrev cX6_hasVenue : ByteArray := prog_8_method_3_code
def yX6_hasVenue : MethodName := ⟨RX6, "hasVenue", "(I)Z"⟩
abbrev cX6_hasCrate : ByteArray := prog_8_method_4_code
def yX6_hasCrate : MethodName := ⟨RX6, "hasCrate", "(I)Z"⟩
abbrev cX6_hasWork : ByteArray := prog_8_method_5_code
def yX6_hasWork : MethodName := ⟨RX6, "hasWork", "(I)Z"⟩
abbrev cX6_hasCourier : ByteArray := prog_8_method_6_code
def yX6_hasCourier : MethodName := ⟨RX6, "hasCourier", "(I)Z"⟩
abbrev cX6_isCourierOrNone : ByteArray := prog_8_method_7_code
def yX6_isCourierOrNone : MethodName := ⟨RX6, "isCourierOrNone", "(I)Z"⟩
abbrev cX6_hoursBetween : ByteArray := prog_8_method_8_code
def yX6_hoursBetween : MethodName := ⟨RX6, "hoursBetween", "(II)I"⟩
abbrev cX6_outermost : ByteArray := prog_8_method_9_code
def yX6_outermost : MethodName := ⟨RX6, "outermost", "(I)I"⟩
abbrev cX6_isInOrBelow : ByteArray := prog_8_method_10_code
def yX6_isInOrBelow : MethodName := ⟨RX6, "isInOrBelow", "(II)Z"⟩
abbrev cX6_isWithinReach : ByteArray := prog_8_method_11_code
def yX6_isWithinReach : MethodName := ⟨RX6, "isWithinReach", "(I)Z"⟩
abbrev cX6_cratesOutwards : ByteArray := prog_8_method_12_code
def yX6_cratesOutwards : MethodName := ⟨RX6, "cratesOutwards", "(I)I"⟩
abbrev cX6_venueOfCrate : ByteArray := prog_8_method_13_code
def yX6_venueOfCrate : MethodName := ⟨RX6, "venueOfCrate", "(I)I"⟩
abbrev cX6_venueOfWork : ByteArray := prog_8_method_14_code
def yX6_venueOfWork : MethodName := ⟨RX6, "venueOfWork", "(I)I"⟩
abbrev cX6_goalOfWork : ByteArray := prog_8_method_15_code
def yX6_goalOfWork : MethodName := ⟨RX6, "goalOfWork", "(I)I"⟩
abbrev cX6_worksDirectlyIn : ByteArray := prog_8_method_16_code
def yX6_worksDirectlyIn : MethodName := ⟨RX6, "worksDirectlyIn", "(I)I"⟩
abbrev cX6_cratesDirectlyIn : ByteArray := prog_8_method_17_code
def yX6_cratesDirectlyIn : MethodName := ⟨RX6, "cratesDirectlyIn", "(I)I"⟩
abbrev cX6_worksInOrBelow : ByteArray := prog_8_method_18_code
def yX6_worksInOrBelow : MethodName := ⟨RX6, "worksInOrBelow", "(I)I"⟩
abbrev cX6_cratesBelow : ByteArray := prog_8_method_19_code
def yX6_cratesBelow : MethodName := ⟨RX6, "cratesBelow", "(I)I"⟩
abbrev cX6_valueInOrBelow : ByteArray := prog_8_method_20_code
def yX6_valueInOrBelow : MethodName := ⟨RX6, "valueInOrBelow", "(I)I"⟩
abbrev cX6_valueAt : ByteArray := prog_8_method_21_code
def yX6_valueAt : MethodName := ⟨RX6, "valueAt", "(I)I"⟩
abbrev cX6_valueOnTheWayTo : ByteArray := prog_8_method_22_code
def yX6_valueOnTheWayTo : MethodName := ⟨RX6, "valueOnTheWayTo", "(I)I"⟩
def RX7 : String := "CrateTour$UndoStack"
def TX7 : u_T := fun k => match k with
  | 0 => ("CrateTour$UndoStack", "states", "[LCrateTour$State;", true)
  | _ => ("CrateTour$UndoStack", "count", "I", false)
def tyX7 : Nat → FieldType := fun k => match k with
  | 0 => .array (.object "CrateTour$State")
  | _ => .int
abbrev wsX70 : List Cond := u_ws RX7 TX7 2
theorem nmX7 : ∀ a, a < 2 → ∀ b, b < 2 → a ≠ b → (TX7 a).2.1 ≠ (TX7 b).2.1 := by decide +kernel
theorem tyX7_ok : ∀ k, k < 2 → parseFieldDescriptor (TX7 k).2.2.1 = some (tyX7 k) := by decide +kernel
abbrev cX7_init : ByteArray := prog_9_method_1_code
def yX7_init : MethodName := ⟨RX7, "<init>", "()V"⟩
abbrev cX7_keep : ByteArray := prog_9_method_2_code
def yX7_keep : MethodName := ⟨RX7, "keep", "(LCrateTour$State;)V"⟩
abbrev cX7_restore : ByteArray := prog_9_method_3_code
def yX7_restore : MethodName := ⟨RX7, "restore", "(LCrateTour$State;)I"⟩
abbrev cX7_dropOldest : ByteArray := prog_9_method_4_code
def yX7_dropOldest : MethodName := ⟨RX7, "dropOldest", "()V"⟩
def RX8 : String := "CrateTour$Values"
def TX8 : u_T := fun k => match k with
  | _ => ("CrateTour$Values", "state", "LCrateTour$State;", true)
def tyX8 : Nat → FieldType := fun k => match k with
  | _ => .object "CrateTour$State"
abbrev wsX80 : List Cond := u_ws RX8 TX8 1
theorem nmX8 : ∀ a, a < 1 → ∀ b, b < 1 → a ≠ b → (TX8 a).2.1 ≠ (TX8 b).2.1 := by decide +kernel
theorem tyX8_ok : ∀ k, k < 1 → parseFieldDescriptor (TX8 k).2.2.1 = some (tyX8 k) := by decide +kernel
abbrev cX8_init : ByteArray := prog_10_method_1_code
def yX8_init : MethodName := ⟨RX8, "<init>", "(LCrateTour$State;)V"⟩
abbrev cX8_ofCrate : ByteArray := prog_10_method_2_code
def yX8_ofCrate : MethodName := ⟨RX8, "ofCrate", "(II)I"⟩
abbrev cX8_ofWork : ByteArray := prog_10_method_3_code
def yX8_ofWork : MethodName := ⟨RX8, "ofWork", "(II)I"⟩
abbrev cX8_ofVenue : ByteArray := prog_10_method_4_code
def yX8_ofVenue : MethodName := ⟨RX8, "ofVenue", "(II)I"⟩
abbrev cX8_ofWhole : ByteArray := prog_10_method_5_code
def yX8_ofWhole : MethodName := ⟨RX8, "ofWhole", "(I)I"⟩
abbrev cX8_temperatureIn : ByteArray := prog_10_method_6_code
def yX8_temperatureIn : MethodName := ⟨RX8, "temperatureIn", "(LCrateTour$Crate;I)I"⟩
abbrev cX8_humidityIn : ByteArray := prog_10_method_7_code
def yX8_humidityIn : MethodName := ⟨RX8, "humidityIn", "(LCrateTour$Crate;I)I"⟩
abbrev cX8_hoursNeeded : ByteArray := prog_10_method_8_code
def yX8_hoursNeeded : MethodName := ⟨RX8, "hoursNeeded", "(LCrateTour$Crate;I)I"⟩
abbrev cX8_cratesAt : ByteArray := prog_10_method_9_code
def yX8_cratesAt : MethodName := ⟨RX8, "cratesAt", "(I)I"⟩
abbrev cX8_couriersAt : ByteArray := prog_10_method_10_code
def yX8_couriersAt : MethodName := ⟨RX8, "couriersAt", "(I)I"⟩
abbrev cX8_worksOnTheirWay : ByteArray := prog_10_method_11_code
def yX8_worksOnTheirWay : MethodName := ⟨RX8, "worksOnTheirWay", "()I"⟩
abbrev cX8_openCrates : ByteArray := prog_10_method_12_code
def yX8_openCrates : MethodName := ⟨RX8, "openCrates", "()I"⟩
abbrev cX8_asNumber : ByteArray := prog_10_method_13_code
def yX8_asNumber : MethodName := ⟨RX8, "asNumber", "(Z)I"⟩
def RX9 : String := "CrateTour$Venue"
def TX9 : u_T := fun k => match k with
  | 0 => ("CrateTour$Venue", "temperature", "I", false)
  | 1 => ("CrateTour$Venue", "humidity", "I", false)
  | 2 => ("CrateTour$Venue", "rate", "I", false)
  | 3 => ("CrateTour$Venue", "cap", "I", false)
  | 4 => ("CrateTour$Venue", "paid", "I", false)
  | _ => ("CrateTour$Venue", "hoursTo", "[I", true)
def tyX9 : Nat → FieldType := fun k => match k with
  | 0 => .int
  | 1 => .int
  | 2 => .int
  | 3 => .int
  | 4 => .int
  | _ => .array .int
abbrev wsX90 : List Cond := u_ws RX9 TX9 6
theorem nmX9 : ∀ a, a < 6 → ∀ b, b < 6 → a ≠ b → (TX9 a).2.1 ≠ (TX9 b).2.1 := by decide +kernel
theorem tyX9_ok : ∀ k, k < 6 → parseFieldDescriptor (TX9 k).2.2.1 = some (tyX9 k) := by decide +kernel
abbrev cX9_init : ByteArray := prog_11_method_1_code
def yX9_init : MethodName := ⟨RX9, "<init>", "()V"⟩
abbrev cX9_copyFrom : ByteArray := prog_11_method_2_code
def yX9_copyFrom : MethodName := ⟨RX9, "copyFrom", "(LCrateTour$Venue;)V"⟩
def RX10 : String := "CrateTour$Word"
def TX10 : u_T := fun k => match k with
  | _ => ("", "", "", false)
def tyX10 : Nat → FieldType := fun k => match k with
  | _ => .int
abbrev wsX100 : List Cond := u_ws RX10 TX10 0
theorem nmX10 : ∀ a, a < 0 → ∀ b, b < 0 → a ≠ b → (TX10 a).2.1 ≠ (TX10 b).2.1 := by decide +kernel
theorem tyX10_ok : ∀ k, k < 0 → parseFieldDescriptor (TX10 k).2.2.1 = some (tyX10 k) := by decide +kernel
def RX11 : String := "CrateTour$Work"
def TX11 : u_T := fun k => match k with
  | 0 => ("CrateTour$Work", "lender", "I", false)
  | 1 => ("CrateTour$Work", "value", "I", false)
  | 2 => ("CrateTour$Work", "legs", "I", false)
  | 3 => ("CrateTour$Work", "escorted", "Z", false)
  | 4 => ("CrateTour$Work", "crate", "I", false)
  | 5 => ("CrateTour$Work", "venue", "I", false)
  | 6 => ("CrateTour$Work", "paid", "I", false)
  | 7 => ("CrateTour$Work", "placesKept", "I", false)
  | _ => ("CrateTour$Work", "places", "[I", true)
def tyX11 : Nat → FieldType := fun k => match k with
  | 0 => .int
  | 1 => .int
  | 2 => .int
  | 3 => .boolean
  | 4 => .int
  | 5 => .int
  | 6 => .int
  | 7 => .int
  | _ => .array .int
abbrev wsX110 : List Cond := u_ws RX11 TX11 9
theorem nmX11 : ∀ a, a < 9 → ∀ b, b < 9 → a ≠ b → (TX11 a).2.1 ≠ (TX11 b).2.1 := by decide +kernel
theorem tyX11_ok : ∀ k, k < 9 → parseFieldDescriptor (TX11 k).2.2.1 = some (tyX11 k) := by decide +kernel
abbrev cX11_init : ByteArray := prog_13_method_1_code
def yX11_init : MethodName := ⟨RX11, "<init>", "()V"⟩
abbrev cX11_copyFrom : ByteArray := prog_13_method_2_code
def yX11_copyFrom : MethodName := ⟨RX11, "copyFrom", "(LCrateTour$Work;)V"⟩
abbrev cX11_notePlace : ByteArray := prog_13_method_3_code
def yX11_notePlace : MethodName := ⟨RX11, "notePlace", "(I)V"⟩
abbrev cX11_placeNoted : ByteArray := prog_13_method_4_code
def yX11_placeNoted : MethodName := ⟨RX11, "placeNoted", "(I)I"⟩
def RX12 : String := "CrateTour"
def TX12 : u_T := fun k => match k with
  | 0 => ("CrateTour", "state", "LCrateTour$State;", true)
  | 1 => ("CrateTour", "checks", "LCrateTour$Checks;", true)
  | 2 => ("CrateTour", "deeds", "LCrateTour$Deeds;", true)
  | 3 => ("CrateTour", "values", "LCrateTour$Values;", true)
  | 4 => ("CrateTour", "forecast", "LCrateTour$Forecast;", true)
  | 5 => ("CrateTour", "saved", "LCrateTour$UndoStack;", true)
  | _ => ("CrateTour", "commands", "LCrateTour$CommandText;", true)
def tyX12 : Nat → FieldType := fun k => match k with
  | 0 => .object "CrateTour$State"
  | 1 => .object "CrateTour$Checks"
  | 2 => .object "CrateTour$Deeds"
  | 3 => .object "CrateTour$Values"
  | 4 => .object "CrateTour$Forecast"
  | 5 => .object "CrateTour$UndoStack"
  | _ => .object "CrateTour$CommandText"
abbrev wsX120 : List Cond := u_ws RX12 TX12 7
theorem nmX12 : ∀ a, a < 7 → ∀ b, b < 7 → a ≠ b → (TX12 a).2.1 ≠ (TX12 b).2.1 := by decide +kernel
theorem tyX12_ok : ∀ k, k < 7 → parseFieldDescriptor (TX12 k).2.2.1 = some (tyX12 k) := by decide +kernel
abbrev cX12_init : ByteArray := prog_1_method_1_code
def yX12_init : MethodName := ⟨RX12, "<init>", "()V"⟩
abbrev cX12_addVenue : ByteArray := prog_1_method_2_code
def yX12_addVenue : MethodName := ⟨RX12, "addVenue", "(IIII)I"⟩
abbrev cX12_setClimate : ByteArray := prog_1_method_3_code
def yX12_setClimate : MethodName := ⟨RX12, "setClimate", "(III)I"⟩
abbrev cX12_setWay : ByteArray := prog_1_method_4_code
def yX12_setWay : MethodName := ⟨RX12, "setWay", "(III)I"⟩
abbrev cX12_setLender : ByteArray := prog_1_method_5_code
def yX12_setLender : MethodName := ⟨RX12, "setLender", "(III)I"⟩
abbrev cX12_setWayRate : ByteArray := prog_1_method_6_code
def yX12_setWayRate : MethodName := ⟨RX12, "setWayRate", "(I)I"⟩
abbrev cX12_addCourier : ByteArray := prog_1_method_7_code
def yX12_addCourier : MethodName := ⟨RX12, "addCourier", "(I)I"⟩
abbrev cX12_addCrate : ByteArray := prog_1_method_8_code
def yX12_addCrate : MethodName := ⟨RX12, "addCrate", "(II)I"⟩
abbrev cX12_addWork : ByteArray := prog_1_method_9_code
def yX12_addWork : MethodName := ⟨RX12, "addWork", "(IIIIZ)I"⟩
abbrev cX12_open : ByteArray := prog_1_method_10_code
def yX12_open : MethodName := ⟨RX12, "open", "(I)I"⟩
abbrev cX12_close : ByteArray := prog_1_method_11_code
def yX12_close : MethodName := ⟨RX12, "close", "(I)I"⟩
abbrev cX12_nest : ByteArray := prog_1_method_12_code
def yX12_nest : MethodName := ⟨RX12, "nest", "(II)I"⟩
abbrev cX12_takeOut : ByteArray := prog_1_method_13_code
def yX12_takeOut : MethodName := ⟨RX12, "takeOut", "(I)I"⟩
abbrev cX12_pack : ByteArray := prog_1_method_14_code
def yX12_pack : MethodName := ⟨RX12, "pack", "(II)I"⟩
abbrev cX12_unpack : ByteArray := prog_1_method_15_code
def yX12_unpack : MethodName := ⟨RX12, "unpack", "(I)I"⟩
abbrev cX12_send : ByteArray := prog_1_method_16_code
def yX12_send : MethodName := ⟨RX12, "send", "(III)I"⟩
abbrev cX12_advance : ByteArray := prog_1_method_17_code
def yX12_advance : MethodName := ⟨RX12, "advance", "(I)I"⟩
abbrev cX12_refusal : ByteArray := prog_1_method_18_code
def yX12_refusal : MethodName := ⟨RX12, "refusal", "(III)I"⟩
abbrev cX12_crate : ByteArray := prog_1_method_19_code
def yX12_crate : MethodName := ⟨RX12, "crate", "(II)I"⟩
abbrev cX12_work : ByteArray := prog_1_method_20_code
def yX12_work : MethodName := ⟨RX12, "work", "(II)I"⟩
abbrev cX12_noted : ByteArray := prog_1_method_21_code
def yX12_noted : MethodName := ⟨RX12, "noted", "(II)I"⟩
abbrev cX12_venue : ByteArray := prog_1_method_22_code
def yX12_venue : MethodName := ⟨RX12, "venue", "(II)I"⟩
abbrev cX12_courier : ByteArray := prog_1_method_23_code
def yX12_courier : MethodName := ⟨RX12, "courier", "(I)I"⟩
abbrev cX12_whole : ByteArray := prog_1_method_24_code
def yX12_whole : MethodName := ⟨RX12, "whole", "(I)I"⟩
abbrev cX12_readyAt : ByteArray := prog_1_method_25_code
def yX12_readyAt : MethodName := ⟨RX12, "readyAt", "(I)I"⟩
abbrev cX12_allReadyAt : ByteArray := prog_1_method_26_code
def yX12_allReadyAt : MethodName := ⟨RX12, "allReadyAt", "(I)I"⟩
abbrev cX12_bestVenue : ByteArray := prog_1_method_27_code
def yX12_bestVenue : MethodName := ⟨RX12, "bestVenue", "(II)I"⟩
abbrev cX12_type : ByteArray := prog_1_method_28_code
def yX12_type : MethodName := ⟨RX12, "type", "(I)I"⟩
abbrev cX12_clearCommands : ByteArray := prog_1_method_29_code
def yX12_clearCommands : MethodName := ⟨RX12, "clearCommands", "()I"⟩
abbrev cX12_runCommands : ByteArray := prog_1_method_30_code
def yX12_runCommands : MethodName := ⟨RX12, "runCommands", "()I"⟩
abbrev cX12_undo : ByteArray := prog_1_method_31_code
def yX12_undo : MethodName := ⟨RX12, "undo", "()I"⟩
abbrev cX12_digest : ByteArray := prog_1_method_32_code
def yX12_digest : MethodName := ⟨RX12, "digest", "()J"⟩
abbrev cX12_withVenues : ByteArray := prog_1_method_33_code
def yX12_withVenues : MethodName := ⟨RX12, "withVenues", "(J)J"⟩
abbrev cX12_withCrates : ByteArray := prog_1_method_34_code
def yX12_withCrates : MethodName := ⟨RX12, "withCrates", "(J)J"⟩
abbrev cX12_withWorks : ByteArray := prog_1_method_35_code
def yX12_withWorks : MethodName := ⟨RX12, "withWorks", "(J)J"⟩
abbrev cX12_mixed : ByteArray := prog_1_method_36_code
def yX12_mixed : MethodName := ⟨RX12, "mixed", "(JJ)J"⟩
abbrev cX12_throwIfWrong : ByteArray := prog_1_method_37_code
def yX12_throwIfWrong : MethodName := ⟨RX12, "throwIfWrong", "(I)V"⟩
abbrev cX12_wrongWith : ByteArray := prog_1_method_38_code
def yX12_wrongWith : MethodName := ⟨RX12, "wrongWith", "(LCrateTour$Word;[I)I"⟩
abbrev cX12_perform : ByteArray := prog_1_method_39_code
def yX12_perform : MethodName := ⟨RX12, "perform", "(LCrateTour$Word;[I)I"⟩
def RX13 : String := "CrateTourModel"
def TX13 : u_T := fun k => match k with
  | 0 => ("CrateTourModel", "m", "[I", true)
  | 1 => ("CrateTourModel", "saved", "[I", true)
  | 2 => ("CrateTourModel", "savedCount", "I", false)
  | 3 => ("CrateTourModel", "text", "[I", true)
  | 4 => ("CrateTourModel", "textLength", "I", false)
  | 5 => ("CrateTourModel", "code", "I", false)
  | 6 => ("CrateTourModel", "row", "[I", true)
  | 7 => ("CrateTourModel", "place", "I", false)
  | 8 => ("CrateTourModel", "command", "I", false)
  | 9 => ("CrateTourModel", "numbers", "[I", true)
  | _ => ("CrateTourModel", "hash", "J", false)
def tyX13 : Nat → FieldType := fun k => match k with
  | 0 => .array .int
  | 1 => .array .int
  | 2 => .int
  | 3 => .array .int
  | 4 => .int
  | 5 => .int
  | 6 => .array .int
  | 7 => .int
  | 8 => .int
  | 9 => .array .int
  | _ => .long
abbrev wsX130 : List Cond := u_ws RX13 TX13 11
theorem nmX13 : ∀ a, a < 11 → ∀ b, b < 11 → a ≠ b → (TX13 a).2.1 ≠ (TX13 b).2.1 := by decide +kernel
theorem tyX13_ok : ∀ k, k < 11 → parseFieldDescriptor (TX13 k).2.2.1 = some (tyX13 k) := by decide +kernel
abbrev cX13_init : ByteArray := prog_15_method_1_code
def yX13_init : MethodName := ⟨RX13, "<init>", "()V"⟩
abbrev cX13_thrown : ByteArray := prog_15_method_2_code
def yX13_thrown : MethodName := ⟨RX13, "thrown", "()I"⟩
abbrev cX13_in : ByteArray := prog_15_method_3_code
def yX13_in : MethodName := ⟨RX13, "in", "(III)Z"⟩
abbrev cX13_size : ByteArray := prog_15_method_4_code
def yX13_size : MethodName := ⟨RX13, "size", "(I)I"⟩
abbrev cX13_greater : ByteArray := prog_15_method_5_code
def yX13_greater : MethodName := ⟨RX13, "greater", "(II)I"⟩
abbrev cX13_keep : ByteArray := prog_15_method_6_code
def yX13_keep : MethodName := ⟨RX13, "keep", "()V"⟩
abbrev cX13_isVenue : ByteArray := prog_15_method_7_code
def yX13_isVenue : MethodName := ⟨RX13, "isVenue", "(I)Z"⟩
abbrev cX13_isCrate : ByteArray := prog_15_method_8_code
def yX13_isCrate : MethodName := ⟨RX13, "isCrate", "(I)Z"⟩
abbrev cX13_isWork : ByteArray := prog_15_method_9_code
def yX13_isWork : MethodName := ⟨RX13, "isWork", "(I)Z"⟩
abbrev cX13_isCourier : ByteArray := prog_15_method_10_code
def yX13_isCourier : MethodName := ⟨RX13, "isCourier", "(I)Z"⟩
abbrev cX13_ofVenue : ByteArray := prog_15_method_11_code
def yX13_ofVenue : MethodName := ⟨RX13, "ofVenue", "(II)I"⟩
abbrev cX13_of : ByteArray := prog_15_method_12_code
def yX13_of : MethodName := ⟨RX13, "of", "(II)I"⟩
abbrev cX13_put : ByteArray := prog_15_method_13_code
def yX13_put : MethodName := ⟨RX13, "put", "(III)V"⟩
abbrev cX13_ofWork : ByteArray := prog_15_method_14_code
def yX13_ofWork : MethodName := ⟨RX13, "ofWork", "(II)I"⟩
abbrev cX13_putWork : ByteArray := prog_15_method_15_code
def yX13_putWork : MethodName := ⟨RX13, "putWork", "(III)V"⟩
abbrev cX13_isOpen : ByteArray := prog_15_method_16_code
def yX13_isOpen : MethodName := ⟨RX13, "isOpen", "(I)Z"⟩
abbrev cX13_outermost : ByteArray := prog_15_method_17_code
def yX13_outermost : MethodName := ⟨RX13, "outermost", "(I)I"⟩
abbrev cX13_venueOf : ByteArray := prog_15_method_18_code
def yX13_venueOf : MethodName := ⟨RX13, "venueOf", "(I)I"⟩
abbrev cX13_isReached : ByteArray := prog_15_method_19_code
def yX13_isReached : MethodName := ⟨RX13, "isReached", "(I)Z"⟩
abbrev cX13_isWithin : ByteArray := prog_15_method_20_code
def yX13_isWithin : MethodName := ⟨RX13, "isWithin", "(II)Z"⟩
abbrev cX13_standsIn : ByteArray := prog_15_method_21_code
def yX13_standsIn : MethodName := ⟨RX13, "standsIn", "(I)I"⟩
abbrev cX13_goesTo : ByteArray := prog_15_method_22_code
def yX13_goesTo : MethodName := ⟨RX13, "goesTo", "(I)I"⟩
abbrev cX13_worksIn : ByteArray := prog_15_method_23_code
def yX13_worksIn : MethodName := ⟨RX13, "worksIn", "(II)I"⟩
abbrev cX13_directWorks : ByteArray := prog_15_method_24_code
def yX13_directWorks : MethodName := ⟨RX13, "directWorks", "(I)I"⟩
abbrev cX13_directCrates : ByteArray := prog_15_method_25_code
def yX13_directCrates : MethodName := ⟨RX13, "directCrates", "(I)I"⟩
abbrev cX13_isClimate : ByteArray := prog_15_method_26_code
def yX13_isClimate : MethodName := ⟨RX13, "isClimate", "(II)Z"⟩
abbrev cX13_addVenue : ByteArray := prog_15_method_27_code
def yX13_addVenue : MethodName := ⟨RX13, "addVenue", "(IIII)I"⟩
abbrev cX13_setClimate : ByteArray := prog_15_method_28_code
def yX13_setClimate : MethodName := ⟨RX13, "setClimate", "(III)I"⟩
abbrev cX13_setWay : ByteArray := prog_15_method_29_code
def yX13_setWay : MethodName := ⟨RX13, "setWay", "(III)I"⟩
abbrev cX13_isLent : ByteArray := prog_15_method_30_code
def yX13_isLent : MethodName := ⟨RX13, "isLent", "(II)Z"⟩
abbrev cX13_setLender : ByteArray := prog_15_method_31_code
def yX13_setLender : MethodName := ⟨RX13, "setLender", "(III)I"⟩
abbrev cX13_setWayRate : ByteArray := prog_15_method_32_code
def yX13_setWayRate : MethodName := ⟨RX13, "setWayRate", "(I)I"⟩
abbrev cX13_addCourier : ByteArray := prog_15_method_33_code
def yX13_addCourier : MethodName := ⟨RX13, "addCourier", "(I)I"⟩
abbrev cX13_addCrate : ByteArray := prog_15_method_34_code
def yX13_addCrate : MethodName := ⟨RX13, "addCrate", "(II)I"⟩
abbrev cX13_addWork : ByteArray := prog_15_method_35_code
def yX13_addWork : MethodName := ⟨RX13, "addWork", "(IIIIZ)I"⟩
abbrev cX13_needs : ByteArray := prog_15_method_36_code
def yX13_needs : MethodName := ⟨RX13, "needs", "(II)I"⟩
abbrev cX13_notOpen : ByteArray := prog_15_method_37_code
def yX13_notOpen : MethodName := ⟨RX13, "notOpen", "(I)I"⟩
abbrev cX13_opens : ByteArray := prog_15_method_38_code
def yX13_opens : MethodName := ⟨RX13, "opens", "(I)I"⟩
abbrev cX13_open : ByteArray := prog_15_method_39_code
def yX13_open : MethodName := ⟨RX13, "open", "(I)I"⟩
abbrev cX13_notClose : ByteArray := prog_15_method_40_code
def yX13_notClose : MethodName := ⟨RX13, "notClose", "(I)I"⟩
abbrev cX13_closes : ByteArray := prog_15_method_41_code
def yX13_closes : MethodName := ⟨RX13, "closes", "(I)I"⟩
abbrev cX13_close : ByteArray := prog_15_method_42_code
def yX13_close : MethodName := ⟨RX13, "close", "(I)I"⟩
abbrev cX13_isForUse : ByteArray := prog_15_method_43_code
def yX13_isForUse : MethodName := ⟨RX13, "isForUse", "(II)Z"⟩
abbrev cX13_notNest : ByteArray := prog_15_method_44_code
def yX13_notNest : MethodName := ⟨RX13, "notNest", "(II)I"⟩
abbrev cX13_nests : ByteArray := prog_15_method_45_code
def yX13_nests : MethodName := ⟨RX13, "nests", "(II)I"⟩
abbrev cX13_nest : ByteArray := prog_15_method_46_code
def yX13_nest : MethodName := ⟨RX13, "nest", "(II)I"⟩
abbrev cX13_notTakeOut : ByteArray := prog_15_method_47_code
def yX13_notTakeOut : MethodName := ⟨RX13, "notTakeOut", "(I)I"⟩
abbrev cX13_takesOut : ByteArray := prog_15_method_48_code
def yX13_takesOut : MethodName := ⟨RX13, "takesOut", "(I)I"⟩
abbrev cX13_takeOut : ByteArray := prog_15_method_49_code
def yX13_takeOut : MethodName := ⟨RX13, "takeOut", "(I)I"⟩
abbrev cX13_notPack : ByteArray := prog_15_method_50_code
def yX13_notPack : MethodName := ⟨RX13, "notPack", "(II)I"⟩
abbrev cX13_packs : ByteArray := prog_15_method_51_code
def yX13_packs : MethodName := ⟨RX13, "packs", "(II)I"⟩
abbrev cX13_pack : ByteArray := prog_15_method_52_code
def yX13_pack : MethodName := ⟨RX13, "pack", "(II)I"⟩
abbrev cX13_notUnpack : ByteArray := prog_15_method_53_code
def yX13_notUnpack : MethodName := ⟨RX13, "notUnpack", "(I)I"⟩
abbrev cX13_unpacks : ByteArray := prog_15_method_54_code
def yX13_unpacks : MethodName := ⟨RX13, "unpacks", "(I)I"⟩
abbrev cX13_unpack : ByteArray := prog_15_method_55_code
def yX13_unpack : MethodName := ⟨RX13, "unpack", "(I)I"⟩
abbrev cX13_lenderRefuses : ByteArray := prog_15_method_56_code
def yX13_lenderRefuses : MethodName := ⟨RX13, "lenderRefuses", "(II)I"⟩
abbrev cX13_valuesFor : ByteArray := prog_15_method_57_code
def yX13_valuesFor : MethodName := ⟨RX13, "valuesFor", "(II)J"⟩
abbrev cX13_worksRefuse : ByteArray := prog_15_method_58_code
def yX13_worksRefuse : MethodName := ⟨RX13, "worksRefuse", "(II)I"⟩
abbrev cX13_isEscorted : ByteArray := prog_15_method_59_code
def yX13_isEscorted : MethodName := ⟨RX13, "isEscorted", "(I)Z"⟩
abbrev cX13_reason : ByteArray := prog_15_method_60_code
def yX13_reason : MethodName := ⟨RX13, "reason", "(III)I"⟩
abbrev cX13_isSending : ByteArray := prog_15_method_61_code
def yX13_isSending : MethodName := ⟨RX13, "isSending", "(III)Z"⟩
abbrev cX13_notSend : ByteArray := prog_15_method_62_code
def yX13_notSend : MethodName := ⟨RX13, "notSend", "(III)I"⟩
abbrev cX13_sends : ByteArray := prog_15_method_63_code
def yX13_sends : MethodName := ⟨RX13, "sends", "(III)I"⟩
abbrev cX13_send : ByteArray := prog_15_method_64_code
def yX13_send : MethodName := ⟨RX13, "send", "(III)I"⟩
abbrev cX13_arrives : ByteArray := prog_15_method_65_code
def yX13_arrives : MethodName := ⟨RX13, "arrives", "(I)V"⟩
abbrev cX13_note : ByteArray := prog_15_method_66_code
def yX13_note : MethodName := ⟨RX13, "note", "(II)V"⟩
abbrev cX13_pays : ByteArray := prog_15_method_67_code
def yX13_pays : MethodName := ⟨RX13, "pays", "(I)V"⟩
abbrev cX13_hour : ByteArray := prog_15_method_68_code
def yX13_hour : MethodName := ⟨RX13, "hour", "()I"⟩
abbrev cX13_notAdvance : ByteArray := prog_15_method_69_code
def yX13_notAdvance : MethodName := ⟨RX13, "notAdvance", "(I)I"⟩
abbrev cX13_advances : ByteArray := prog_15_method_70_code
def yX13_advances : MethodName := ⟨RX13, "advances", "(I)I"⟩
abbrev cX13_advance : ByteArray := prog_15_method_71_code
def yX13_advance : MethodName := ⟨RX13, "advance", "(I)I"⟩
abbrev cX13_refusal : ByteArray := prog_15_method_72_code
def yX13_refusal : MethodName := ⟨RX13, "refusal", "(III)I"⟩
abbrev cX13_cratesBelow : ByteArray := prog_15_method_73_code
def yX13_cratesBelow : MethodName := ⟨RX13, "cratesBelow", "(I)I"⟩
abbrev cX13_crateOf : ByteArray := prog_15_method_74_code
def yX13_crateOf : MethodName := ⟨RX13, "crateOf", "(II)I"⟩
abbrev cX13_crate : ByteArray := prog_15_method_75_code
def yX13_crate : MethodName := ⟨RX13, "crate", "(II)I"⟩
abbrev cX13_around : ByteArray := prog_15_method_76_code
def yX13_around : MethodName := ⟨RX13, "around", "(I)I"⟩
abbrev cX13_workOf : ByteArray := prog_15_method_77_code
def yX13_workOf : MethodName := ⟨RX13, "workOf", "(II)I"⟩
abbrev cX13_work : ByteArray := prog_15_method_78_code
def yX13_work : MethodName := ⟨RX13, "work", "(II)I"⟩
abbrev cX13_notedOf : ByteArray := prog_15_method_79_code
def yX13_notedOf : MethodName := ⟨RX13, "notedOf", "(II)I"⟩
abbrev cX13_noted : ByteArray := prog_15_method_80_code
def yX13_noted : MethodName := ⟨RX13, "noted", "(II)I"⟩
abbrev cX13_valuesAt : ByteArray := prog_15_method_81_code
def yX13_valuesAt : MethodName := ⟨RX13, "valuesAt", "(IZ)I"⟩
abbrev cX13_cratesAt : ByteArray := prog_15_method_82_code
def yX13_cratesAt : MethodName := ⟨RX13, "cratesAt", "(I)I"⟩
abbrev cX13_couriersAt : ByteArray := prog_15_method_83_code
def yX13_couriersAt : MethodName := ⟨RX13, "couriersAt", "(I)I"⟩
abbrev cX13_venueOfWhat : ByteArray := prog_15_method_84_code
def yX13_venueOfWhat : MethodName := ⟨RX13, "venueOfWhat", "(II)I"⟩
abbrev cX13_venue : ByteArray := prog_15_method_85_code
def yX13_venue : MethodName := ⟨RX13, "venue", "(II)I"⟩
abbrev cX13_courier : ByteArray := prog_15_method_86_code
def yX13_courier : MethodName := ⟨RX13, "courier", "(I)I"⟩
abbrev cX13_onTheirWay : ByteArray := prog_15_method_87_code
def yX13_onTheirWay : MethodName := ⟨RX13, "onTheirWay", "()I"⟩
abbrev cX13_openCrates : ByteArray := prog_15_method_88_code
def yX13_openCrates : MethodName := ⟨RX13, "openCrates", "()I"⟩
abbrev cX13_wholeOf : ByteArray := prog_15_method_89_code
def yX13_wholeOf : MethodName := ⟨RX13, "wholeOf", "(I)I"⟩
abbrev cX13_whole : ByteArray := prog_15_method_90_code
def yX13_whole : MethodName := ⟨RX13, "whole", "(I)I"⟩
abbrev cX13_ready : ByteArray := prog_15_method_91_code
def yX13_ready : MethodName := ⟨RX13, "ready", "(I)I"⟩
abbrev cX13_readyAt : ByteArray := prog_15_method_92_code
def yX13_readyAt : MethodName := ⟨RX13, "readyAt", "(I)I"⟩
abbrev cX13_allReady : ByteArray := prog_15_method_93_code
def yX13_allReady : MethodName := ⟨RX13, "allReady", "(I)I"⟩
abbrev cX13_allReadyAt : ByteArray := prog_15_method_94_code
def yX13_allReadyAt : MethodName := ⟨RX13, "allReadyAt", "(I)I"⟩
abbrev cX13_readyBy : ByteArray := prog_15_method_95_code
def yX13_readyBy : MethodName := ⟨RX13, "readyBy", "(II)I"⟩
abbrev cX13_bestVenue : ByteArray := prog_15_method_96_code
def yX13_bestVenue : MethodName := ⟨RX13, "bestVenue", "(II)I"⟩
abbrev cX13_type : ByteArray := prog_15_method_97_code
def yX13_type : MethodName := ⟨RX13, "type", "(I)I"⟩
abbrev cX13_clearCommands : ByteArray := prog_15_method_98_code
def yX13_clearCommands : MethodName := ⟨RX13, "clearCommands", "()I"⟩
abbrev cX13_here : ByteArray := prog_15_method_99_code
def yX13_here : MethodName := ⟨RX13, "here", "()I"⟩
abbrev cX13_skips : ByteArray := prog_15_method_100_code
def yX13_skips : MethodName := ⟨RX13, "skips", "()Z"⟩
abbrev cX13_commandOf : ByteArray := prog_15_method_101_code
def yX13_commandOf : MethodName := ⟨RX13, "commandOf", "(J)I"⟩
abbrev cX13_readWord : ByteArray := prog_15_method_102_code
def yX13_readWord : MethodName := ⟨RX13, "readWord", "()Z"⟩
abbrev cX13_readNumber : ByteArray := prog_15_method_103_code
def yX13_readNumber : MethodName := ⟨RX13, "readNumber", "(I)Z"⟩
abbrev cX13_manyFor : ByteArray := prog_15_method_104_code
def yX13_manyFor : MethodName := ⟨RX13, "manyFor", "()I"⟩
abbrev cX13_readCommand : ByteArray := prog_15_method_105_code
def yX13_readCommand : MethodName := ⟨RX13, "readCommand", "()Z"⟩
abbrev cX13_isGood : ByteArray := prog_15_method_106_code
def yX13_isGood : MethodName := ⟨RX13, "isGood", "()Z"⟩
abbrev cX13_whyNot : ByteArray := prog_15_method_107_code
def yX13_whyNot : MethodName := ⟨RX13, "whyNot", "()I"⟩
abbrev cX13_carryOut : ByteArray := prog_15_method_108_code
def yX13_carryOut : MethodName := ⟨RX13, "carryOut", "()I"⟩
abbrev cX13_runCommands : ByteArray := prog_15_method_109_code
def yX13_runCommands : MethodName := ⟨RX13, "runCommands", "()I"⟩
abbrev cX13_undo : ByteArray := prog_15_method_110_code
def yX13_undo : MethodName := ⟨RX13, "undo", "()I"⟩
abbrev cX13_mix : ByteArray := prog_15_method_111_code
def yX13_mix : MethodName := ⟨RX13, "mix", "(J)V"⟩
abbrev cX13_mixWork : ByteArray := prog_15_method_112_code
def yX13_mixWork : MethodName := ⟨RX13, "mixWork", "(I)V"⟩
abbrev cX13_digest : ByteArray := prog_15_method_113_code
def yX13_digest : MethodName := ⟨RX13, "digest", "()J"⟩
def RJx29ce0 : String := "java/lang/Enum"
def TJx29ce0 : u_T := fun k => match k with
  | _ => ("", "", "", false)
def tyJx29ce0 : Nat → FieldType := fun k => match k with
  | _ => .int
abbrev wsJx29ce00 : List Cond := u_ws RJx29ce0 TJx29ce0 0
theorem nmJx29ce0 : ∀ a, a < 0 → ∀ b, b < 0 → a ≠ b → (TJx29ce0 a).2.1 ≠ (TJx29ce0 b).2.1 := by decide +kernel
theorem tyJx29ce0_ok : ∀ k, k < 0 → parseFieldDescriptor (TJx29ce0 k).2.2.1 = some (tyJx29ce0 k) := by decide +kernel
abbrev cJx29ce0_ordinal_8abf5 : ByteArray := prog_16_method_2_code
def yJx29ce0_ordinal_8abf5 : MethodName := ⟨RJx29ce0, "ordinal", "()I"⟩
def RJ9 : String := "java/lang/Math"
def TJ9 : u_T := fun k => match k with
  | _ => ("", "", "", false)
def tyJ9 : Nat → FieldType := fun k => match k with
  | _ => .int
abbrev wsJ90 : List Cond := u_ws RJ9 TJ9 0
theorem nmJ9 : ∀ a, a < 0 → ∀ b, b < 0 → a ≠ b → (TJ9 a).2.1 ≠ (TJ9 b).2.1 := by decide +kernel
theorem tyJ9_ok : ∀ k, k < 0 → parseFieldDescriptor (TJ9 k).2.2.1 = some (tyJ9 k) := by decide +kernel
abbrev cJ9_abs_0f7a4 : ByteArray := prog_21_method_59_code
def yJ9_abs_0f7a4 : MethodName := ⟨RJ9, "abs", "(I)I"⟩
abbrev cJ9_max_7cf53 : ByteArray := prog_21_method_65_code
def yJ9_max_7cf53 : MethodName := ⟨RJ9, "max", "(II)I"⟩
abbrev cJ9_min_7cf53 : ByteArray := prog_21_method_69_code
def yJ9_min_7cf53 : MethodName := ⟨RJ9, "min", "(II)I"⟩
def RJ0 : String := "java/lang/String"
def TJ0 : u_T := fun k => match k with
  | _ => ("", "", "", false)
def tyJ0 : Nat → FieldType := fun k => match k with
  | _ => .int
abbrev wsJ00 : List Cond := u_ws RJ0 TJ0 0
theorem nmJ0 : ∀ a, a < 0 → ∀ b, b < 0 → a ≠ b → (TJ0 a).2.1 ≠ (TJ0 b).2.1 := by decide +kernel
theorem tyJ0_ok : ∀ k, k < 0 → parseFieldDescriptor (TJ0 k).2.2.1 = some (tyJ0 k) := by decide +kernel
abbrev cJ0_length_8abf5 : ByteArray := prog_23_method_54_code
def yJ0_length_8abf5 : MethodName := ⟨RJ0, "length", "()I"⟩
abbrev cJ0_charAt_5068e : ByteArray := prog_23_method_56_code
def yJ0_charAt_5068e : MethodName := ⟨RJ0, "charAt", "(I)C"⟩
abbrev cJ0_coder_7d493 : ByteArray := prog_23_method_152_code
def yJ0_coder_7d493 : MethodName := ⟨RJ0, "coder", "()B"⟩
abbrev cJ0_isLatin1_aae02 : ByteArray := prog_23_method_154_code
def yJ0_isLatin1_aae02 : MethodName := ⟨RJ0, "isLatin1", "()Z"⟩
abbrev cJ0_checkIndex_df160 : ByteArray := prog_23_method_155_code
def yJ0_checkIndex_df160 : MethodName := ⟨RJ0, "checkIndex", "(II)V"⟩
def RJ1 : String := "java/lang/StringLatin1"
def TJ1 : u_T := fun k => match k with
  | _ => ("", "", "", false)
def tyJ1 : Nat → FieldType := fun k => match k with
  | _ => .int
abbrev wsJ10 : List Cond := u_ws RJ1 TJ1 0
theorem nmJ1 : ∀ a, a < 0 → ∀ b, b < 0 → a ≠ b → (TJ1 a).2.1 ≠ (TJ1 b).2.1 := by decide +kernel
theorem tyJ1_ok : ∀ k, k < 0 → parseFieldDescriptor (TJ1 k).2.2.1 = some (tyJ1 k) := by decide +kernel
abbrev cJ1_charAt_3b067 : ByteArray := prog_24_method_2_code
def yJ1_charAt_3b067 : MethodName := ⟨RJ1, "charAt", "([BI)C"⟩
def RJ2 : String := "java/lang/StringUTF16"
def TJ2 : u_T := fun k => match k with
  | _ => ("", "", "", false)
def tyJ2 : Nat → FieldType := fun k => match k with
  | _ => .int
abbrev wsJ20 : List Cond := u_ws RJ2 TJ2 0
theorem nmJ2 : ∀ a, a < 0 → ∀ b, b < 0 → a ≠ b → (TJ2 a).2.1 ≠ (TJ2 b).2.1 := by decide +kernel
theorem tyJ2_ok : ∀ k, k < 0 → parseFieldDescriptor (TJ2 k).2.2.1 = some (tyJ2 k) := by decide +kernel
abbrev cJ2_getChar_3b067 : ByteArray := prog_25_method_5_code
def yJ2_getChar_3b067 : MethodName := ⟨RJ2, "getChar", "([BI)C"⟩
abbrev cJ2_length_9d52b : ByteArray := prog_25_method_6_code
def yJ2_length_9d52b : MethodName := ⟨RJ2, "length", "([B)I"⟩
abbrev cJ2_charAt_3b067 : ByteArray := prog_25_method_83_code
def yJ2_charAt_3b067 : MethodName := ⟨RJ2, "charAt", "([BI)C"⟩
abbrev cJ2_checkIndex_2214a : ByteArray := prog_25_method_91_code
def yJ2_checkIndex_2214a : MethodName := ⟨RJ2, "checkIndex", "(I[B)V"⟩
def RJ10 : String := "java/lang/System"
def TJ10 : u_T := fun k => match k with
  | _ => ("", "", "", false)
def tyJ10 : Nat → FieldType := fun k => match k with
  | _ => .int
abbrev wsJ100 : List Cond := u_ws RJ10 TJ10 0
theorem nmJ10 : ∀ a, a < 0 → ∀ b, b < 0 → a ≠ b → (TJ10 a).2.1 ≠ (TJ10 b).2.1 := by decide +kernel
theorem tyJ10_ok : ∀ k, k < 0 → parseFieldDescriptor (TJ10 k).2.2.1 = some (tyJ10 k) := by decide +kernel
def RJ3 : String := "jdk/internal/util/Preconditions"
def TJ3 : u_T := fun k => match k with
  | _ => ("", "", "", false)
def tyJ3 : Nat → FieldType := fun k => match k with
  | _ => .int
abbrev wsJ30 : List Cond := u_ws RJ3 TJ3 0
theorem nmJ3 : ∀ a, a < 0 → ∀ b, b < 0 → a ≠ b → (TJ3 a).2.1 ≠ (TJ3 b).2.1 := by decide +kernel
theorem tyJ3_ok : ∀ k, k < 0 → parseFieldDescriptor (TJ3 k).2.2.1 = some (tyJ3 k) := by decide +kernel
abbrev cJ3_checkIndex_8e157 : ByteArray := prog_28_method_11_code
def yJ3_checkIndex_8e157 : MethodName := ⟨RJ3, "checkIndex", "(IILjava/util/function/BiFunction;)I"⟩
def RL : String := "CrateTourLaw"
abbrev cL_addVenue : ByteArray := method_3_code
def yL_addVenue : MethodName := ⟨RL, "addVenue", "(LCrateTour;IIII[J)I"⟩
abbrev cL_setClimate : ByteArray := method_4_code
def yL_setClimate : MethodName := ⟨RL, "setClimate", "(LCrateTour;III[J)I"⟩
abbrev cL_setWay : ByteArray := method_5_code
def yL_setWay : MethodName := ⟨RL, "setWay", "(LCrateTour;III[J)I"⟩
abbrev cL_setLender : ByteArray := method_6_code
def yL_setLender : MethodName := ⟨RL, "setLender", "(LCrateTour;III[J)I"⟩
abbrev cL_setWayRate : ByteArray := method_7_code
def yL_setWayRate : MethodName := ⟨RL, "setWayRate", "(LCrateTour;I[J)I"⟩
abbrev cL_addCourier : ByteArray := method_8_code
def yL_addCourier : MethodName := ⟨RL, "addCourier", "(LCrateTour;I[J)I"⟩
abbrev cL_addCrate : ByteArray := method_9_code
def yL_addCrate : MethodName := ⟨RL, "addCrate", "(LCrateTour;II[J)I"⟩
abbrev cL_addWork : ByteArray := method_10_code
def yL_addWork : MethodName := ⟨RL, "addWork", "(LCrateTour;IIIIZ[J)I"⟩
abbrev cL_open : ByteArray := method_11_code
def yL_open : MethodName := ⟨RL, "open", "(LCrateTour;I[J)I"⟩
abbrev cL_close : ByteArray := method_12_code
def yL_close : MethodName := ⟨RL, "close", "(LCrateTour;I[J)I"⟩
abbrev cL_nest : ByteArray := method_13_code
def yL_nest : MethodName := ⟨RL, "nest", "(LCrateTour;II[J)I"⟩
abbrev cL_takeOut : ByteArray := method_14_code
def yL_takeOut : MethodName := ⟨RL, "takeOut", "(LCrateTour;I[J)I"⟩
abbrev cL_pack : ByteArray := method_15_code
def yL_pack : MethodName := ⟨RL, "pack", "(LCrateTour;II[J)I"⟩
abbrev cL_unpack : ByteArray := method_16_code
def yL_unpack : MethodName := ⟨RL, "unpack", "(LCrateTour;I[J)I"⟩
abbrev cL_send : ByteArray := method_17_code
def yL_send : MethodName := ⟨RL, "send", "(LCrateTour;III[J)I"⟩
abbrev cL_advance : ByteArray := method_18_code
def yL_advance : MethodName := ⟨RL, "advance", "(LCrateTour;I[J)I"⟩
abbrev cL_refusal : ByteArray := method_19_code
def yL_refusal : MethodName := ⟨RL, "refusal", "(LCrateTour;III[J)I"⟩
abbrev cL_crate : ByteArray := method_20_code
def yL_crate : MethodName := ⟨RL, "crate", "(LCrateTour;II[J)I"⟩
abbrev cL_work : ByteArray := method_21_code
def yL_work : MethodName := ⟨RL, "work", "(LCrateTour;II[J)I"⟩
abbrev cL_noted : ByteArray := method_22_code
def yL_noted : MethodName := ⟨RL, "noted", "(LCrateTour;II[J)I"⟩
abbrev cL_venue : ByteArray := method_23_code
def yL_venue : MethodName := ⟨RL, "venue", "(LCrateTour;II[J)I"⟩
abbrev cL_courier : ByteArray := method_24_code
def yL_courier : MethodName := ⟨RL, "courier", "(LCrateTour;I[J)I"⟩
abbrev cL_whole : ByteArray := method_25_code
def yL_whole : MethodName := ⟨RL, "whole", "(LCrateTour;I[J)I"⟩
abbrev cL_readyAt : ByteArray := method_26_code
def yL_readyAt : MethodName := ⟨RL, "readyAt", "(LCrateTour;I[J)I"⟩
abbrev cL_allReadyAt : ByteArray := method_27_code
def yL_allReadyAt : MethodName := ⟨RL, "allReadyAt", "(LCrateTour;I[J)I"⟩
abbrev cL_bestVenue : ByteArray := method_28_code
def yL_bestVenue : MethodName := ⟨RL, "bestVenue", "(LCrateTour;II[J)I"⟩
abbrev cL_type : ByteArray := method_29_code
def yL_type : MethodName := ⟨RL, "type", "(LCrateTour;I[J)I"⟩
abbrev cL_undo : ByteArray := method_30_code
def yL_undo : MethodName := ⟨RL, "undo", "(LCrateTour;[J)I"⟩
abbrev cL_law : ByteArray := code
def yL_law : MethodName := ⟨RL, "law", "([I)Z"⟩
abbrev vwCl : List vw_C := [(RX1, TX1, 1), (RX2, TX2, 6), (RX3, TX3, 10), (RX4, TX4, 1), (RX5, TX5, 3), (RX6, TX6, 14), (RX7, TX7, 2), (RX8, TX8, 1), (RX9, TX9, 6), (RX11, TX11, 9), (RX12, TX12, 7), (RX13, TX13, 11)]
end
section
/-! THE LOGIC: contracts over one heap G (a partial map from addresses to what lies there), and a judgement J, a row an instruction. -/
/-- the fixed data of a run: class numbers, array classes, the heap at the law's start, what is known of constants -/
abbrev Gl : Type := va_G × (Nat → ClassId) × Heap × (State → Prop)
abbrev Gf : Type := Nat → Option va_E
def gTys (c : Nat → ClassId) : List (ClassId × FieldType) := [(c 0, .byte), (c 1, .int), (c 2, .long), (c 3, .object "CrateTour$Crate"), (c 4, .object "CrateTour$State"), (c 5, .object "CrateTour$Venue"), (c 6, .object "CrateTour$Work"), (c 7, .array .int)]
def aA (Γ : Gl) : Nat → Prop := fun q => Γ.2.2.1.size ≤ q
def Rp (Γ : Gl) (G : Gf) (H : Heap) : Prop := ∀ (a : Nat) (e : va_E), G a = some e → va_at Γ.1 vwCl (a, e) H ∧ aA Γ a
def Hp (Γ : Gl) (G : Gf) (sz : Nat) (H : Heap) : Prop := H.size = sz ∧ Γ.2.2.1.size ≤ H.size ∧ (∀ q : Nat, q < Γ.2.2.1.size → H[q]? = Γ.2.2.1[q]?) ∧ Rp Γ G H
def Clo (Γ : Gl) : Prop := (∀ s U : State, s.WarmedH U.vm → Γ.2.2.2 s → Γ.2.2.2 U) ∧ ∀ (U : State) (g : JFrame) (mk : MethodId) (a : Array Value), Γ.2.2.2 U → Γ.2.2.2 (U.calling g mk a)
def KV (Γ : Gl) (U : State) : Prop := va_K Γ.1 vwCl (gTys Γ.2.1) U ∧ Γ.2.2.2 U ∧ Clo Γ
def WT : List Cond := lw_tbl.filter goodWord
def wy (y : MethodName) (cc : ByteArray) (nL : Nat) (ret : Option FieldType) : List Cond := .code y cc nL ret :: WT
def rmL (t mc ms : Nat) : Room := { frames := t, cells := mc, slots := ms, locals := 30 * t }
def QcO (Γ : Gl) (Ψ : Option Value → Gf → Nat → Prop) : Array Value → State → Outcome → State → Prop := fun _ _ o t => ∃ (r : Option Value) (G' : Gf) (sz' : Nat), o = .returned r ∧ Ψ r G' sz' ∧ Hp Γ G' sz' t.heap
/-- a contract: from the heap G, of size sz, the method y called with av returns, with Ψ (answer, heap, size); t: how deep its own calls go -/
def Ct (l : Launch) (Γ : Gl) (y : MethodName) (cc : ByteArray) (nL : Nat) (ret : Option FieldType) (t : Nat) (av : List Value) (G : Gf) (sz : Nat) (Ψ : Option Value → Gf → Nat → Prop) (mc ms : Nat) : Prop :=
  Met l y (wy y cc nL ret) (rmL t mc ms) (va_Pc av (fun U => KV Γ U ∧ Hp Γ G sz U.heap)) (QcO Γ Ψ) mc ms (aA Γ)
def updG (G : Gf) (a : Nat) (e : va_E) : Gf := fun b => if b = a then some e else G b
theorem updG_self {G : Gf} {a : Nat} {e : va_E} : updG G a e a = some e := if_pos rfl
theorem updG_ne {G : Gf} {a b : Nat} {e : va_E} (h : b ≠ a) : updG G a e b = G b := if_neg h
/-- the frame that a method's body stands in -/
abbrev Cx : Type := Program × Launch × Env × Room × State × MethodId × Array Value × List Frame × Method × Code × (State → Prop) × Gl
abbrev xp (X : Cx) : Program := X.1
abbrev xl (X : Cx) : Launch := X.2.1
abbrev xe (X : Cx) : Env := X.2.2.1
abbrev xR (X : Cx) : Room := X.2.2.2.1
abbrev xs (X : Cx) : State := X.2.2.2.2.1
abbrev xm (X : Cx) : MethodId := X.2.2.2.2.2.1
abbrev xa (X : Cx) : Array Value := X.2.2.2.2.2.2.1
abbrev xb (X : Cx) : List Frame := X.2.2.2.2.2.2.2.1
abbrev xM (X : Cx) : Method := X.2.2.2.2.2.2.2.2.1
abbrev xc (X : Cx) : Code := X.2.2.2.2.2.2.2.2.2.1
abbrev xQ (X : Cx) : State → Prop := X.2.2.2.2.2.2.2.2.2.2.1
abbrev xΓ (X : Cx) : Gl := X.2.2.2.2.2.2.2.2.2.2.2
abbrev xW (X : Cx) (H : Heap) (locs : List Loc) (k n : Nat) (g : JFrame) : Prop := W (xp X) (xl X) (xe X) (xR X) (xs X) (xm X) (xa X) (xb X) (xM X) (xc X) H locs k n (xQ X) g
def lvO (lsA : Array Slot) (nL : Nat) (ls : List (Option Value)) : Prop := lsA.size = nL ∧ lv_wf lsA ∧ ∀ (i : Nat) (v : Value), ls[i]? = some (some v) → lsA[i]? = some (.val v)
def lo_l (ls : List (Option Value)) : List (Nat × Value) := (List.range ls.length).filterMap fun i => (ls[i]?).join.map fun v => (i, v)
theorem lo_mem {ls : List (Option Value)} {q : Nat × Value} : q ∈ lo_l ls ↔ ls[q.1]? = some (some q.2) := by
  unfold lo_l
  rw [List.mem_filterMap]
  constructor
  · rintro ⟨i, -, h⟩
    rw [Option.map_eq_some_iff] at h
    obtain ⟨v, h1, h2⟩ := h
    subst h2
    exact Option.join_eq_some_iff.mp h1
  · intro h
    refine ⟨q.1, List.mem_range.mpr (List.getElem?_eq_some_iff.mp h).1, ?_⟩
    rw [h]
    rfl
theorem lvO_has {lsA : Array Slot} {nL : Nat} {ls : List (Option Value)} (h : lvO lsA nL ls) : lv_has lsA nL (lo_l ls) := ⟨h.1, h.2.1, fun q hq => h.2.2 q.1 q.2 (lo_mem.mp hq)⟩
theorem lvO_st1 {ls' : Array Slot} {nL i : Nat} {v : Value} {ls : List (Option Value)} (h : lv_has ls' nL ((i, v) :: (lo_l ls).filter (fun q => !(q.1 == i) && !(q.1 + 1 == i && q.2.category == 2)))) (hc : ∀ w : Value, i ≠ 0 → ls[i - 1]? = some (some w) → w.category = 1) : lvO ls' nL (ls.set i (some v)) := by
  refine ⟨h.1, h.2.1, fun j w hj => ?_⟩
  by_cases e : j = i
  · subst e
    have hl : j < ls.length := by
      have := (List.getElem?_eq_some_iff.mp hj).1
      simpa using this
    rw [List.getElem?_set_self hl] at hj
    cases hj
    exact h.2.2 (j, v) List.mem_cons_self
  · rw [List.getElem?_set_ne (Ne.symm e)] at hj
    refine h.2.2 (j, w) (List.mem_cons_of_mem _ (List.mem_filter.mpr ⟨lo_mem.mpr hj, ?_⟩))
    simp only [Bool.and_eq_true, Bool.not_eq_true', beq_eq_false_iff_ne, ne_eq, Bool.and_eq_false_iff]
    refine ⟨e, ?_⟩
    by_cases e2 : j + 1 = i
    · right
      have hw := hc w (by omega) (by rw [show i - 1 = j by omega]; exact hj)
      rw [hw]; decide
    · exact Or.inl e2
theorem lvO_st2 {ls' : Array Slot} {nL i : Nat} {v : Value} {ls : List (Option Value)} (h : lv_has ls' nL ((i, v) :: (lo_l ls).filter (fun q => !(q.1 == i) && (!(q.1 == i + 1) && !(q.1 + 1 == i && q.2.category == 2))))) (hc : ∀ w : Value, i ≠ 0 → ls[i - 1]? = some (some w) → w.category = 1) : lvO ls' nL ((ls.set i (some v)).set (i + 1) none) := by
  refine ⟨h.1, h.2.1, fun j w hj => ?_⟩
  by_cases e1 : j = i + 1
  · subst e1
    by_cases hl : i + 1 < (ls.set i (some v)).length
    · rw [List.getElem?_set_self hl] at hj; cases hj
    · rw [List.getElem?_eq_none (by simpa using hl)] at hj; cases hj
  rw [List.getElem?_set_ne (Ne.symm e1)] at hj
  by_cases e : j = i
  · subst e
    have hl : j < ls.length := by
      have := (List.getElem?_eq_some_iff.mp hj).1
      simpa using this
    rw [List.getElem?_set_self hl] at hj
    cases hj
    exact h.2.2 (j, v) List.mem_cons_self
  · rw [List.getElem?_set_ne (Ne.symm e)] at hj
    refine h.2.2 (j, w) (List.mem_cons_of_mem _ (List.mem_filter.mpr ⟨lo_mem.mpr hj, ?_⟩))
    simp only [Bool.and_eq_true, Bool.not_eq_true', beq_eq_false_iff_ne, ne_eq, Bool.and_eq_false_iff]
    refine ⟨e, e1, ?_⟩
    by_cases e2 : j + 1 = i
    · right
      have hw := hc w (by omega) (by rw [show i - 1 = j by omega]; exact hj)
      rw [hw]; decide
    · exact Or.inl e2
def J (X : Cx) (nL : Nat) (G : Gf) (sz k n pc : Nat) (ls : List (Option Value)) (st : List Value) : Prop :=
  ∀ (H : Heap) (locs : List Loc) (lsA : Array Slot), Hp (xΓ X) G sz H → (∀ q ∈ locs, aA (xΓ X) q.base) → lvO lsA nL ls → xW X H locs k n (F0 (xm X) pc lsA st)
def Fx (X : Cx) (cc : ByteArray) (nL : Nat) (own : String) (t mc ms : Nat) : Prop :=
  (xp X).tables.exec = Jvm.exec ∧ (xc X).code = cc ∧ (xc X).maxLocals = nL ∧ (xs X).vm.findClass own = some (xm X).cls ∧ (∀ w ∈ WT, w.before (xa X) (xs X) = true) ∧ KV (xΓ X) (xs X) ∧ xR X = rmL t mc ms ∧ (xM X).locks = false
/-- how a method's body may end: what holds behind a return -/
def Rt (X : Cx) (ret : Option FieldType) (mc ms : Nat) (Ψ : Option Value → Gf → Nat → Prop) : Prop :=
  (xM X).sig.returnType = ret ∧ ∀ (H : Heap) (locs : List Loc) (g : JFrame), W (xp X) (xl X) (xe X) (xR X) (xs X) (xm X) (xa X) (xb X) (xM X) (xc X) H locs mc ms (MQ (xb X) (QcO (xΓ X) Ψ) (xa X) (xs X) mc ms (aA (xΓ X))) g → xW X H locs mc ms g
section JR
variable {X : Cx} {cc : ByteArray} {nL : Nat} {own : String} {t mc ms : Nat} {G : Gf} {sz k n pc : Nat} {ls : List (Option Value)} {st : List Value}
theorem J_iconst (hx : Fx X cc nL own t mc ms) {i : Int} (v : Int32) (hd : decode cc pc = .ok (.iconst i, 1)) (hv : Int32.ofInt i = v) (kk : J X nL G sz k n (pc + 1) ls (.int v :: st)) : J X nL G sz k n pc ls st :=
  fun H locs lsA hH hl hv2 => lv_iconst hx.1 hx.2.1 hd hv (kk H locs lsA hH hl hv2)
theorem J_bipush (hx : Fx X cc nL own t mc ms) {i : Int} (v : Int32) (hd : decode cc pc = .ok (.bipush i, 2)) (hv : (Int8.ofInt i).toInt32 = v) (kk : J X nL G sz k n (pc + 2) ls (.int v :: st)) : J X nL G sz k n pc ls st :=
  fun H locs lsA hH hl hv2 => lv_bipush hx.1 hx.2.1 hd hv (kk H locs lsA hH hl hv2)
theorem J_sipush (hx : Fx X cc nL own t mc ms) {i : Int} (v : Int32) (hd : decode cc pc = .ok (.sipush i, 3)) (hv : (Int16.ofInt i).toInt32 = v) (kk : J X nL G sz k n (pc + 3) ls (.int v :: st)) : J X nL G sz k n pc ls st :=
  fun H locs lsA hH hl hv2 => lv_sipush hx.1 hx.2.1 hd hv (kk H locs lsA hH hl hv2)
theorem J_lconst (hx : Fx X cc nL own t mc ms) {i : Fin 2} (v : Int64) (hd : decode cc pc = .ok (.lconst i, 1)) (hv : Int64.ofNat (i : Nat) = v) (kk : J X nL G sz k n (pc + 1) ls (.long v :: st)) : J X nL G sz k n pc ls st :=
  fun H locs lsA hH hl hv2 => lv_lconst hx.1 hx.2.1 hd hv (kk H locs lsA hH hl hv2)
theorem J_ldc (hx : Fx X cc nL own t mc ms) {i : Nat} {v : Int32} (hc : Cond.constant own i v ∈ WT) (hd : decode cc pc = .ok (.ldc i, 2)) (kk : J X nL G sz k n (pc + 2) ls (.int v :: st)) : J X nL G sz k n pc ls st :=
  fun H locs lsA hH hl hv2 => lv_ldc hx.1 hx.2.1 hx.2.2.2.1 (hx.2.2.2.2.1 _ hc) hd (kk H locs lsA hH hl hv2)
theorem J_ldcw (hx : Fx X cc nL own t mc ms) {i : Nat} {v : Int32} (hc : Cond.constant own i v ∈ WT) (hd : decode cc pc = .ok (.ldc_w i, 3)) (kk : J X nL G sz k n (pc + 3) ls (.int v :: st)) : J X nL G sz k n pc ls st :=
  fun H locs lsA hH hl hv2 => lv_ldcw hx.1 hx.2.1 hx.2.2.2.1 (hx.2.2.2.2.1 _ hc) hd (kk H locs lsA hH hl hv2)
theorem J_ldc2 (hx : Fx X cc nL own t mc ms) {i : Nat} {v : Int64} (hc : Cond.constantLong own i v ∈ WT) (hd : decode cc pc = .ok (.ldc2_w i, 3)) (kk : J X nL G sz k n (pc + 3) ls (.long v :: st)) : J X nL G sz k n pc ls st :=
  fun H locs lsA hH hl hv2 => lv_ldc2 hx.1 hx.2.1 hx.2.2.2.1 (hx.2.2.2.2.1 _ hc) hd (kk H locs lsA hH hl hv2)
-- locals, by their places
theorem J_il4 (hx : Fx X cc nL own t mc ms) {q : Fin 4} {i : Nat} {v : Int32} (hi : (q : Nat) = i) (hg : ls[i]? = some (some (.int v))) (hd : decode cc pc = .ok (.iload_n q, 1)) (kk : J X nL G sz k n (pc + 1) ls (.int v :: st)) : J X nL G sz k n pc ls st :=
  fun H locs lsA hH hl hv2 => lv_iload_n hx.1 hx.2.1 hd hi (hv2.2.2 _ _ hg) (kk H locs lsA hH hl hv2)
theorem J_il (hx : Fx X cc nL own t mc ms) {i : Nat} {v : Int32} (hg : ls[i]? = some (some (.int v))) (hd : decode cc pc = .ok (.iload i, 2)) (kk : J X nL G sz k n (pc + 2) ls (.int v :: st)) : J X nL G sz k n pc ls st :=
  fun H locs lsA hH hl hv2 => lv_iload hx.1 hx.2.1 hd (hv2.2.2 _ _ hg) (kk H locs lsA hH hl hv2)
theorem J_ll4 (hx : Fx X cc nL own t mc ms) {q : Fin 4} {i : Nat} {v : Int64} (hi : (q : Nat) = i) (hg : ls[i]? = some (some (.long v))) (hd : decode cc pc = .ok (.lload_n q, 1)) (kk : J X nL G sz k n (pc + 1) ls (.long v :: st)) : J X nL G sz k n pc ls st :=
  fun H locs lsA hH hl hv2 => lv_lload_n hx.1 hx.2.1 hd hi (hv2.2.2 _ _ hg) (kk H locs lsA hH hl hv2)
theorem J_ll (hx : Fx X cc nL own t mc ms) {i : Nat} {v : Int64} (hg : ls[i]? = some (some (.long v))) (hd : decode cc pc = .ok (.lload i, 2)) (kk : J X nL G sz k n (pc + 2) ls (.long v :: st)) : J X nL G sz k n pc ls st :=
  fun H locs lsA hH hl hv2 => lv_lload hx.1 hx.2.1 hd (hv2.2.2 _ _ hg) (kk H locs lsA hH hl hv2)
theorem J_al4 (hx : Fx X cc nL own t mc ms) {q : Fin 4} {i : Nat} {v : Nat} (hi : (q : Nat) = i) (hg : ls[i]? = some (some (.ref v))) (hd : decode cc pc = .ok (.aload_n q, 1)) (kk : J X nL G sz k n (pc + 1) ls (.ref v :: st)) : J X nL G sz k n pc ls st :=
  fun H locs lsA hH hl hv2 => lv_aload_n hx.1 hx.2.1 hd hi (hv2.2.2 _ _ hg) (kk H locs lsA hH hl hv2)
theorem J_al (hx : Fx X cc nL own t mc ms) {i : Nat} {v : Nat} (hg : ls[i]? = some (some (.ref v))) (hd : decode cc pc = .ok (.aload i, 2)) (kk : J X nL G sz k n (pc + 2) ls (.ref v :: st)) : J X nL G sz k n pc ls st :=
  fun H locs lsA hH hl hv2 => lv_aload hx.1 hx.2.1 hd (hv2.2.2 _ _ hg) (kk H locs lsA hH hl hv2)
theorem J_is4 (hx : Fx X cc nL own t mc ms) {q : Fin 4} {i : Nat} {v : Int32} {ls' : List (Option Value)} (hi : (q : Nat) = i) (hn : i < nL) (hc : ∀ w : Value, i ≠ 0 → ls[i - 1]? = some (some w) → w.category = 1) (e : ls.set i (some (.int v)) = ls') (hd : decode cc pc = .ok (.istore_n q, 1)) (kk : J X nL G sz k n (pc + 1) ls' st) : J X nL G sz k n pc ls (.int v :: st) :=
  fun H locs lsA hH hl hv2 => lv_istore_n hx.1 hx.2.1 hd hi (lvO_has hv2) hn rfl (fun ls2 h2 => kk H locs ls2 hH hl (e ▸ lvO_st1 h2 hc))
theorem J_is (hx : Fx X cc nL own t mc ms) {i : Nat} {v : Int32} {ls' : List (Option Value)} (hn : i < nL) (hc : ∀ w : Value, i ≠ 0 → ls[i - 1]? = some (some w) → w.category = 1) (e : ls.set i (some (.int v)) = ls') (hd : decode cc pc = .ok (.istore i, 2)) (kk : J X nL G sz k n (pc + 2) ls' st) : J X nL G sz k n pc ls (.int v :: st) :=
  fun H locs lsA hH hl hv2 => lv_istore hx.1 hx.2.1 hd (lvO_has hv2) hn rfl (fun ls2 h2 => kk H locs ls2 hH hl (e ▸ lvO_st1 h2 hc))
theorem J_as4 (hx : Fx X cc nL own t mc ms) {q : Fin 4} {i : Nat} {v : Nat} {ls' : List (Option Value)} (hi : (q : Nat) = i) (hn : i < nL) (hc : ∀ w : Value, i ≠ 0 → ls[i - 1]? = some (some w) → w.category = 1) (e : ls.set i (some (.ref v)) = ls') (hd : decode cc pc = .ok (.astore_n q, 1)) (kk : J X nL G sz k n (pc + 1) ls' st) : J X nL G sz k n pc ls (.ref v :: st) :=
  fun H locs lsA hH hl hv2 => lv_astore_n hx.1 hx.2.1 hd hi (lvO_has hv2) hn rfl (fun ls2 h2 => kk H locs ls2 hH hl (e ▸ lvO_st1 h2 hc))
theorem J_as (hx : Fx X cc nL own t mc ms) {i : Nat} {v : Nat} {ls' : List (Option Value)} (hn : i < nL) (hc : ∀ w : Value, i ≠ 0 → ls[i - 1]? = some (some w) → w.category = 1) (e : ls.set i (some (.ref v)) = ls') (hd : decode cc pc = .ok (.astore i, 2)) (kk : J X nL G sz k n (pc + 2) ls' st) : J X nL G sz k n pc ls (.ref v :: st) :=
  fun H locs lsA hH hl hv2 => lv_astore hx.1 hx.2.1 hd (lvO_has hv2) hn rfl (fun ls2 h2 => kk H locs ls2 hH hl (e ▸ lvO_st1 h2 hc))
theorem J_ls4 (hx : Fx X cc nL own t mc ms) {q : Fin 4} {i : Nat} {v : Int64} {ls' : List (Option Value)} (hi : (q : Nat) = i) (hn : i + 1 < nL) (hc : ∀ w : Value, i ≠ 0 → ls[i - 1]? = some (some w) → w.category = 1) (e : (ls.set i (some (.long v))).set (i + 1) none = ls') (hd : decode cc pc = .ok (.lstore_n q, 1)) (kk : J X nL G sz k n (pc + 1) ls' st) : J X nL G sz k n pc ls (.long v :: st) :=
  fun H locs lsA hH hl hv2 => lv_lstore_n hx.1 hx.2.1 hd hi (lvO_has hv2) hn rfl (fun ls2 h2 => kk H locs ls2 hH hl (e ▸ lvO_st2 h2 hc))
theorem J_iinc (hx : Fx X cc nL own t mc ms) {i : Nat} {d : Int} {v v' : Int32} {ls' : List (Option Value)} (hg : ls[i]? = some (some (.int v))) (hv' : v + Int32.ofInt d = v') (hn : i < nL) (hc : ∀ w : Value, i ≠ 0 → ls[i - 1]? = some (some w) → w.category = 1) (e : ls.set i (some (.int v')) = ls') (hd : decode cc pc = .ok (.iinc i d, 3)) (kk : J X nL G sz k n (pc + 3) ls' st) : J X nL G sz k n pc ls st := fun H locs lsA hH hl hv2 => by
  obtain ⟨kq, hkq⟩ := List.getElem?_of_mem (lo_mem.mpr hg : (i, Value.int v) ∈ lo_l ls)
  exact lv_iinc hx.1 hx.2.1 hd (lvO_has hv2) hkq hv' hn rfl (fun ls2 h2 => kk H locs ls2 hH hl (e ▸ lvO_st1 h2 hc))
-- arithmetic
theorem J_iadd (hx : Fx X cc nL own t mc ms) {x y : Int32} (hd : decode cc pc = .ok (.iadd, 1)) (kk : J X nL G sz k n (pc + 1) ls (.int (x + y) :: st)) : J X nL G sz k n pc ls (.int y :: .int x :: st) :=
  fun H locs lsA hH hl hv2 => lv_iadd hx.1 hx.2.1 hd (kk H locs lsA hH hl hv2)
theorem J_isub (hx : Fx X cc nL own t mc ms) {x y : Int32} (hd : decode cc pc = .ok (.isub, 1)) (kk : J X nL G sz k n (pc + 1) ls (.int (x - y) :: st)) : J X nL G sz k n pc ls (.int y :: .int x :: st) :=
  fun H locs lsA hH hl hv2 => lv_isub hx.1 hx.2.1 hd (kk H locs lsA hH hl hv2)
theorem J_imul (hx : Fx X cc nL own t mc ms) {x y : Int32} (hd : decode cc pc = .ok (.imul, 1)) (kk : J X nL G sz k n (pc + 1) ls (.int (x * y) :: st)) : J X nL G sz k n pc ls (.int y :: .int x :: st) :=
  fun H locs lsA hH hl hv2 => lv_imul hx.1 hx.2.1 hd (kk H locs lsA hH hl hv2)
theorem J_iand (hx : Fx X cc nL own t mc ms) {x y : Int32} (hd : decode cc pc = .ok (.iand, 1)) (kk : J X nL G sz k n (pc + 1) ls (.int (x &&& y) :: st)) : J X nL G sz k n pc ls (.int y :: .int x :: st) :=
  fun H locs lsA hH hl hv2 => lv_iand hx.1 hx.2.1 hd (kk H locs lsA hH hl hv2)
theorem J_idiv (hx : Fx X cc nL own t mc ms) {x y : Int32} (hne : ¬ y = 0) (hd : decode cc pc = .ok (.idiv, 1)) (kk : J X nL G sz k n (pc + 1) ls (.int (x / y) :: st)) : J X nL G sz k n pc ls (.int y :: .int x :: st) :=
  fun H locs lsA hH hl hv2 => lv_idiv hx.1 hx.2.1 hd hne (kk H locs lsA hH hl hv2)
theorem J_irem (hx : Fx X cc nL own t mc ms) {x y : Int32} (hne : ¬ y = 0) (hd : decode cc pc = .ok (.irem, 1)) (kk : J X nL G sz k n (pc + 1) ls (.int (x - (x / y) * y) :: st)) : J X nL G sz k n pc ls (.int y :: .int x :: st) :=
  fun H locs lsA hH hl hv2 => lv_irem hx.1 hx.2.1 hd hne (kk H locs lsA hH hl hv2)
theorem J_ineg (hx : Fx X cc nL own t mc ms) {x : Int32} (hd : decode cc pc = .ok (.ineg, 1)) (kk : J X nL G sz k n (pc + 1) ls (.int (-x) :: st)) : J X nL G sz k n pc ls (.int x :: st) :=
  fun H locs lsA hH hl hv2 => lv_ineg hx.1 hx.2.1 hd (kk H locs lsA hH hl hv2)
theorem J_ishr (hx : Fx X cc nL own t mc ms) {x y : Int32} (hd : decode cc pc = .ok (.ishr, 1)) (kk : J X nL G sz k n (pc + 1) ls (.int (x >>> (y &&& 31)) :: st)) : J X nL G sz k n pc ls (.int y :: .int x :: st) :=
  fun H locs lsA hH hl hv2 => lv_ishr hx.1 hx.2.1 hd (kk H locs lsA hH hl hv2)
theorem J_ladd (hx : Fx X cc nL own t mc ms) {x y : Int64} (hd : decode cc pc = .ok (.ladd, 1)) (kk : J X nL G sz k n (pc + 1) ls (.long (x + y) :: st)) : J X nL G sz k n pc ls (.long y :: .long x :: st) :=
  fun H locs lsA hH hl hv2 => lv_ladd hx.1 hx.2.1 hd (kk H locs lsA hH hl hv2)
theorem J_lsub (hx : Fx X cc nL own t mc ms) {x y : Int64} (hd : decode cc pc = .ok (.lsub, 1)) (kk : J X nL G sz k n (pc + 1) ls (.long (x - y) :: st)) : J X nL G sz k n pc ls (.long y :: .long x :: st) :=
  fun H locs lsA hH hl hv2 => lv_lsub hx.1 hx.2.1 hd (kk H locs lsA hH hl hv2)
theorem J_lmul (hx : Fx X cc nL own t mc ms) {x y : Int64} (hd : decode cc pc = .ok (.lmul, 1)) (kk : J X nL G sz k n (pc + 1) ls (.long (x * y) :: st)) : J X nL G sz k n pc ls (.long y :: .long x :: st) :=
  fun H locs lsA hH hl hv2 => lv_lmul hx.1 hx.2.1 hd (kk H locs lsA hH hl hv2)
theorem J_ldiv (hx : Fx X cc nL own t mc ms) {x y : Int64} (hne : ¬ y = 0) (hd : decode cc pc = .ok (.ldiv, 1)) (kk : J X nL G sz k n (pc + 1) ls (.long (x / y) :: st)) : J X nL G sz k n pc ls (.long y :: .long x :: st) :=
  fun H locs lsA hH hl hv2 => lv_ldiv hx.1 hx.2.1 hd hne (kk H locs lsA hH hl hv2)
theorem J_lcmp (hx : Fx X cc nL own t mc ms) {x y : Int64} (hd : decode cc pc = .ok (.lcmp, 1)) (kk : J X nL G sz k n (pc + 1) ls (.int (lg_cmp x y) :: st)) : J X nL G sz k n pc ls (.long y :: .long x :: st) :=
  fun H locs lsA hH hl hv2 => W.lcmp hx.1 hx.2.1 hd (kk H locs lsA hH hl hv2)
theorem J_i2l (hx : Fx X cc nL own t mc ms) {x : Int32} (hd : decode cc pc = .ok (.i2l, 1)) (kk : J X nL G sz k n (pc + 1) ls (.long x.toInt64 :: st)) : J X nL G sz k n pc ls (.int x :: st) :=
  fun H locs lsA hH hl hv2 => lv_i2l hx.1 hx.2.1 hd rfl (kk H locs lsA hH hl hv2)
theorem J_l2i (hx : Fx X cc nL own t mc ms) {x : Int64} (hd : decode cc pc = .ok (.l2i, 1)) (kk : J X nL G sz k n (pc + 1) ls (.int x.toInt32 :: st)) : J X nL G sz k n pc ls (.long x :: st) :=
  fun H locs lsA hH hl hv2 => lv_l2i hx.1 hx.2.1 hd rfl (kk H locs lsA hH hl hv2)
theorem J_i2b (hx : Fx X cc nL own t mc ms) {x : Int32} (hd : decode cc pc = .ok (.i2b, 1)) (kk : J X nL G sz k n (pc + 1) ls (.int x.toInt8.toInt32 :: st)) : J X nL G sz k n pc ls (.int x :: st) :=
  fun H locs lsA hH hl hv2 => lv_i2b hx.1 hx.2.1 hd rfl (kk H locs lsA hH hl hv2)
theorem J_dup (hx : Fx X cc nL own t mc ms) {v : Value} (hd : decode cc pc = .ok (.dup, 1)) (kk : J X nL G sz k n (pc + 1) ls (v :: v :: st)) (hc : v.category = 1 := by rfl) : J X nL G sz k n pc ls (v :: st) :=
  fun H locs lsA hH hl hv2 => lv_dup hx.1 hx.2.1 hd hc (kk H locs lsA hH hl hv2)
theorem J_pop (hx : Fx X cc nL own t mc ms) {v : Value} (hd : decode cc pc = .ok (.pop, 1)) (kk : J X nL G sz k n (pc + 1) ls st) (hc : v.category = 1 := by rfl) : J X nL G sz k n pc ls (v :: st) :=
  fun H locs lsA hH hl hv2 => lv_pop hx.1 hx.2.1 hd hc (kk H locs lsA hH hl hv2)
theorem J_dup2 (hx : Fx X cc nL own t mc ms) {v w : Value} (hd : decode cc pc = .ok (.dup2, 1)) (kk : J X nL G sz k n (pc + 1) ls (v :: w :: v :: w :: st)) (hc : v.category = 1 := by rfl) (hc2 : w.category = 1 := by rfl) : J X nL G sz k n pc ls (v :: w :: st) :=
  fun H locs lsA hH hl hv2 => lv_dup2_11 hx.1 hx.2.1 hd hc hc2 (kk H locs lsA hH hl hv2)
theorem J_goto (hx : Fx X cc nL own t mc ms) {off : Int} (tgt : Nat) (hd : decode cc pc = .ok (.goto off, 3)) (ht : (pc : Int) + off = (tgt : Int)) (kk : J X nL G sz k n tgt ls st) : J X nL G sz k n pc ls st :=
  fun H locs lsA hH hl hv2 => lv_goto hx.1 hx.2.1 hd ht (kk H locs lsA hH hl hv2)
theorem J_if_eq (hx : Fx X cc nL own t mc ms) {x : Int32} {off : Int} (tgt : Nat) (hd : decode cc pc = .ok (.ifCond .eq off, 3)) (ht : (pc : Int) + off = (tgt : Int)) (kt : x = 0 → J X nL G sz k n tgt ls st) (kf : ¬ x = 0 → J X nL G sz k n (pc + 3) ls st) : J X nL G sz k n pc ls (.int x :: st) :=
  fun H locs lsA hH hl hv2 => lv_if_eq hx.1 hx.2.1 hd ht (fun h => kt h H locs lsA hH hl hv2) (fun h => kf h H locs lsA hH hl hv2)
theorem J_icmp_eq (hx : Fx X cc nL own t mc ms) {x y : Int32} {off : Int} (tgt : Nat) (hd : decode cc pc = .ok (.if_icmp .eq off, 3)) (ht : (pc : Int) + off = (tgt : Int)) (kt : x = y → J X nL G sz k n tgt ls st) (kf : ¬ x = y → J X nL G sz k n (pc + 3) ls st) : J X nL G sz k n pc ls (.int y :: .int x :: st) :=
  fun H locs lsA hH hl hv2 => lv_icmp_eq hx.1 hx.2.1 hd ht (fun h => kt h H locs lsA hH hl hv2) (fun h => kf h H locs lsA hH hl hv2)
theorem J_if_ne (hx : Fx X cc nL own t mc ms) {x : Int32} {off : Int} (tgt : Nat) (hd : decode cc pc = .ok (.ifCond .ne off, 3)) (ht : (pc : Int) + off = (tgt : Int)) (kt : ¬ x = 0 → J X nL G sz k n tgt ls st) (kf : x = 0 → J X nL G sz k n (pc + 3) ls st) : J X nL G sz k n pc ls (.int x :: st) :=
  fun H locs lsA hH hl hv2 => lv_if_ne hx.1 hx.2.1 hd ht (fun h => kt h H locs lsA hH hl hv2) (fun h => kf h H locs lsA hH hl hv2)
theorem J_icmp_ne (hx : Fx X cc nL own t mc ms) {x y : Int32} {off : Int} (tgt : Nat) (hd : decode cc pc = .ok (.if_icmp .ne off, 3)) (ht : (pc : Int) + off = (tgt : Int)) (kt : ¬ x = y → J X nL G sz k n tgt ls st) (kf : x = y → J X nL G sz k n (pc + 3) ls st) : J X nL G sz k n pc ls (.int y :: .int x :: st) :=
  fun H locs lsA hH hl hv2 => lv_icmp_ne hx.1 hx.2.1 hd ht (fun h => kt h H locs lsA hH hl hv2) (fun h => kf h H locs lsA hH hl hv2)
theorem J_if_lt (hx : Fx X cc nL own t mc ms) {x : Int32} {off : Int} (tgt : Nat) (hd : decode cc pc = .ok (.ifCond .lt off, 3)) (ht : (pc : Int) + off = (tgt : Int)) (kt : x < 0 → J X nL G sz k n tgt ls st) (kf : ¬ x < 0 → J X nL G sz k n (pc + 3) ls st) : J X nL G sz k n pc ls (.int x :: st) :=
  fun H locs lsA hH hl hv2 => lv_if_lt hx.1 hx.2.1 hd ht (fun h => kt h H locs lsA hH hl hv2) (fun h => kf h H locs lsA hH hl hv2)
theorem J_icmp_lt (hx : Fx X cc nL own t mc ms) {x y : Int32} {off : Int} (tgt : Nat) (hd : decode cc pc = .ok (.if_icmp .lt off, 3)) (ht : (pc : Int) + off = (tgt : Int)) (kt : x < y → J X nL G sz k n tgt ls st) (kf : ¬ x < y → J X nL G sz k n (pc + 3) ls st) : J X nL G sz k n pc ls (.int y :: .int x :: st) :=
  fun H locs lsA hH hl hv2 => lv_icmp_lt hx.1 hx.2.1 hd ht (fun h => kt h H locs lsA hH hl hv2) (fun h => kf h H locs lsA hH hl hv2)
theorem J_if_ge (hx : Fx X cc nL own t mc ms) {x : Int32} {off : Int} (tgt : Nat) (hd : decode cc pc = .ok (.ifCond .ge off, 3)) (ht : (pc : Int) + off = (tgt : Int)) (kt : 0 ≤ x → J X nL G sz k n tgt ls st) (kf : ¬ 0 ≤ x → J X nL G sz k n (pc + 3) ls st) : J X nL G sz k n pc ls (.int x :: st) :=
  fun H locs lsA hH hl hv2 => lv_if_ge hx.1 hx.2.1 hd ht (fun h => kt h H locs lsA hH hl hv2) (fun h => kf h H locs lsA hH hl hv2)
theorem J_icmp_ge (hx : Fx X cc nL own t mc ms) {x y : Int32} {off : Int} (tgt : Nat) (hd : decode cc pc = .ok (.if_icmp .ge off, 3)) (ht : (pc : Int) + off = (tgt : Int)) (kt : y ≤ x → J X nL G sz k n tgt ls st) (kf : ¬ y ≤ x → J X nL G sz k n (pc + 3) ls st) : J X nL G sz k n pc ls (.int y :: .int x :: st) :=
  fun H locs lsA hH hl hv2 => lv_icmp_ge hx.1 hx.2.1 hd ht (fun h => kt h H locs lsA hH hl hv2) (fun h => kf h H locs lsA hH hl hv2)
theorem J_if_gt (hx : Fx X cc nL own t mc ms) {x : Int32} {off : Int} (tgt : Nat) (hd : decode cc pc = .ok (.ifCond .gt off, 3)) (ht : (pc : Int) + off = (tgt : Int)) (kt : 0 < x → J X nL G sz k n tgt ls st) (kf : ¬ 0 < x → J X nL G sz k n (pc + 3) ls st) : J X nL G sz k n pc ls (.int x :: st) :=
  fun H locs lsA hH hl hv2 => lv_if_gt hx.1 hx.2.1 hd ht (fun h => kt h H locs lsA hH hl hv2) (fun h => kf h H locs lsA hH hl hv2)
theorem J_icmp_gt (hx : Fx X cc nL own t mc ms) {x y : Int32} {off : Int} (tgt : Nat) (hd : decode cc pc = .ok (.if_icmp .gt off, 3)) (ht : (pc : Int) + off = (tgt : Int)) (kt : y < x → J X nL G sz k n tgt ls st) (kf : ¬ y < x → J X nL G sz k n (pc + 3) ls st) : J X nL G sz k n pc ls (.int y :: .int x :: st) :=
  fun H locs lsA hH hl hv2 => lv_icmp_gt hx.1 hx.2.1 hd ht (fun h => kt h H locs lsA hH hl hv2) (fun h => kf h H locs lsA hH hl hv2)
theorem J_if_le (hx : Fx X cc nL own t mc ms) {x : Int32} {off : Int} (tgt : Nat) (hd : decode cc pc = .ok (.ifCond .le off, 3)) (ht : (pc : Int) + off = (tgt : Int)) (kt : x ≤ 0 → J X nL G sz k n tgt ls st) (kf : ¬ x ≤ 0 → J X nL G sz k n (pc + 3) ls st) : J X nL G sz k n pc ls (.int x :: st) :=
  fun H locs lsA hH hl hv2 => lv_if_le hx.1 hx.2.1 hd ht (fun h => kt h H locs lsA hH hl hv2) (fun h => kf h H locs lsA hH hl hv2)
theorem J_icmp_le (hx : Fx X cc nL own t mc ms) {x y : Int32} {off : Int} (tgt : Nat) (hd : decode cc pc = .ok (.if_icmp .le off, 3)) (ht : (pc : Int) + off = (tgt : Int)) (kt : x ≤ y → J X nL G sz k n tgt ls st) (kf : ¬ x ≤ y → J X nL G sz k n (pc + 3) ls st) : J X nL G sz k n pc ls (.int y :: .int x :: st) :=
  fun H locs lsA hH hl hv2 => lv_icmp_le hx.1 hx.2.1 hd ht (fun h => kt h H locs lsA hH hl hv2) (fun h => kf h H locs lsA hH hl hv2)
theorem J_swOut (hx : Fx X cc nL own t mc ms) {dflt lo hi : Int} {offs : Array Int} {len : Nat} {x : Int32} (tgt : Nat) (hd : decode cc pc = .ok (.tableswitch dflt lo hi offs, len)) (h : x.toInt < lo ∨ hi < x.toInt) (ht : (pc : Int) + dflt = (tgt : Int)) (kk : J X nL G sz k n tgt ls st) : J X nL G sz k n pc ls (.int x :: st) :=
  fun H locs lsA hH hl hv2 => lv_tableOut hx.1 hx.2.1 hd h ht (kk H locs lsA hH hl hv2)
theorem J_swIn (hx : Fx X cc nL own t mc ms) {dflt lo hi : Int} {offs : Array Int} {len : Nat} {x : Int32} {off : Int} (tgt : Nat) (hd : decode cc pc = .ok (.tableswitch dflt lo hi offs, len)) (h1 : ¬ x.toInt < lo) (h2 : ¬ hi < x.toInt) (ho : offs[(x.toInt - lo).toNat]? = some off) (ht : (pc : Int) + off = (tgt : Int)) (kk : J X nL G sz k n tgt ls st) : J X nL G sz k n pc ls (.int x :: st) :=
  fun H locs lsA hH hl hv2 => lv_tableIn hx.1 hx.2.1 hd h1 h2 ho ht (kk H locs lsA hH hl hv2)
-- ends
theorem J_iret (hx : Fx X cc nL own t mc ms) {Ψ : Option Value → Gf → Nat → Prop} (hr : Rt X (some .int) mc ms Ψ) {v : Int32} (hd : decode cc pc = .ok (.ireturn, 1)) (hk : k ≤ mc) (hn : n ≤ ms) (hq : Ψ (some (.int v)) G sz) : J X nL G sz k n pc ls [.int v] :=
  fun H locs lsA hH hl hv2 => W.widen hk hn (hr.2 _ _ _ (W.iret hx.1 hx.2.1 hr.1 (fun u hu _ => ⟨_, G, sz, rfl, hq, hu ▸ hH⟩) hl hd hx.2.2.2.2.2.2.2))
theorem J_zret (hx : Fx X cc nL own t mc ms) {Ψ : Option Value → Gf → Nat → Prop} (hr : Rt X (some .boolean) mc ms Ψ) {v : Int32} (hd : decode cc pc = .ok (.ireturn, 1)) (hv : narrow .boolean (.int v) = .int v) (hk : k ≤ mc) (hn : n ≤ ms) (hq : Ψ (some (.int v)) G sz) : J X nL G sz k n pc ls [.int v] :=
  fun H locs lsA hH hl hv2 => W.widen hk hn (hr.2 _ _ _ (W.zret hx.1 hx.2.1 hr.1 hv (fun u hu _ => ⟨_, G, sz, rfl, hq, hu ▸ hH⟩) hl hd hx.2.2.2.2.2.2.2))
theorem J_vret (hx : Fx X cc nL own t mc ms) {Ψ : Option Value → Gf → Nat → Prop} (hr : Rt X none mc ms Ψ) (hd : decode cc pc = .ok (.return_, 1)) (hk : k ≤ mc) (hn : n ≤ ms) (hq : Ψ none G sz) : J X nL G sz k n pc ls [] :=
  fun H locs lsA hH hl hv2 => W.widen hk hn (hr.2 _ _ _ (W.vret hx.1 hx.2.1 hr.1 (fun u hu _ => ⟨_, G, sz, rfl, hq, hu ▸ hH⟩) hl hd hx.2.2.2.2.2.2.2))
end JR
/-- the locals at a method's entry -/
def initO : List Value → Nat → List (Option Value)
  | [], nL => List.replicate nL none
  | v :: vs, nL => if v.category = 2 then some v :: none :: initO vs (nL - 2) else some v :: initO vs (nL - 1)
theorem initO_get : ∀ (vs : List Value) (nL i b : Nat) (v : Value), (initO vs nL)[i]? = some (some v) → (b + i, v) ∈ lv_args b vs
  | [], nL, i, b, v, h => by
    simp only [initO] at h
    rw [List.getElem?_replicate] at h
    split at h <;> cases h
  | w :: vs, nL, i, b, v, h => by
    simp only [initO] at h
    simp only [lv_args]
    split at h
    next hc =>
      rw [if_pos hc]
      match i, h with
      | 0, h => cases h; exact List.mem_cons_self
      | 1, h => cases h
      | i + 2, h =>
        have := initO_get vs (nL - 2) i (b + 2) v h
        rw [show b + (i + 2) = b + 2 + i by omega]
        exact List.mem_cons_of_mem _ this
    next hc =>
      rw [if_neg hc]
      match i, h with
      | 0, h => cases h; exact List.mem_cons_self
      | i + 1, h =>
        have := initO_get vs (nL - 1) i (b + 1) v h
        rw [show b + (i + 1) = b + 1 + i by omega]
        exact List.mem_cons_of_mem _ this
theorem wy_WT {y : MethodName} {cc : ByteArray} {nL : Nat} {ret : Option FieldType} {args : Array Value} {s : State} (h : ∀ w ∈ wy y cc nL ret, w.before args s = true) : ∀ w ∈ WT, w.before args s = true := fun w hw => h w (List.mem_cons_of_mem _ hw)
/-- A CONTRACT OUT OF THE BODY'S WALK -/
theorem Ct.of {l : Launch} {Γ : Gl} {y : MethodName} {cc : ByteArray} {nL : Nat} {ret : Option FieldType} {t : Nat} {av : List Value} {G : Gf} {sz : Nat} {Ψ : Option Value → Gf → Nat → Prop} {mc ms : Nat} (hy : plainName y.cls = true) (hlen : (lg_sl av).length ≤ nL)
    (body : ∀ X : Cx, Fx X cc nL y.cls t mc ms → Rt X ret mc ms Ψ → xl X = l → xΓ X = Γ → (xM X).name = y.name → J X nL G sz 0 0 0 (initO av nL) []) : Ct l Γ y cc nL ret t av G sz Ψ mc ms := by
  refine Met.ofW (cc := cc) (maxL := nL) (ret := ret) hy rfl ?_
  intro p e s m args below meth c s₁ B hml hv
  obtain ⟨rfl, hK, hH⟩ := hv
  have hts := atoms_spec (ws := wy y cc nL ret) B.pre
  have hown : s.vm.findClass y.cls = some m.cls := findClass_of_methodNamed B.named
  have hin : meth.name = y.name := (name_of_methodNamed B.named B.method).1
  have hl := lv_entry av (n := nL) hlen
  have key := body (p, l, e, rmL t mc ms, s, m, av.toArray, below, meth, c, MQ below (QcO Γ Ψ) av.toArray s mc ms (aA Γ), Γ) ⟨B.exec, B.bytes, hml, hown, wy_WT hts, hK, rfl, B.notSynchronized⟩ ⟨B.returns, fun H locs g h => h⟩ rfl rfl hin s.heap [] _ hH (fun q hq => nomatch hq) ⟨hl.1, hl.2.1, fun i v h => hl.2.2 (i, v) (by have := initO_get av nL i 0 v h; rwa [Nat.zero_add] at this)⟩
  rw [lg_entry_eq]
  exact key
end
section
/-! THE LOGIC, heap and calls -/
def ClOk (ci : Nat) (C : String) (T : u_T) (N : Nat) (ty : Nat → FieldType) : Prop := vwCl[ci]? = some (C, T, N) ∧ (∀ w ∈ u_ws C T N, w ∈ WT) ∧ (∀ k, k < N → parseFieldDescriptor (T k).2.2.1 = some (ty k)) ∧ ∀ a, a < N → ∀ b, b < N → a ≠ b → (T a).2.1 ≠ (T b).2.1
theorem va_P1 {D : va_G} {cl : List vw_C} {a : Nat} {e : va_E} {H : Heap} (h : va_at D cl (a, e) H) : va_P D cl [(a, e)] H := fun k q hk => by
  match k, hk with
  | 0, hk => cases hk; exact h
  | k + 1, hk => simp at hk
theorem Rp.lt {Γ : Gl} {G : Gf} {H : Heap} (h : Rp Γ G H) {a : Nat} {e : va_E} (he : G a = some e) : a < H.size := va_at.lt (h a e he).1
theorem Hp.put {Γ : Gl} {G : Gf} {sz : Nat} {H H1 : Heap} (h : Hp Γ G sz H) {a : Nat} {e0 e : va_E} (hG : G a = some e0) (he : va_at Γ.1 vwCl (a, e) H1) (z : H1.size = H.size) (oq : ∀ q : Nat, q ≠ a → H1[q]? = H[q]?) : Hp Γ (updG G a e) sz H1 := by
  obtain ⟨h1, h2, h3, h4⟩ := h
  have ha := (h4 a e0 hG).2
  refine ⟨z.trans h1, by rw [z]; exact h2, fun q hq => ?_, fun b e' hb => ?_⟩
  · rw [oq q (fun e => by subst e; exact absurd hq (Nat.not_lt.mpr ha))]
    exact h3 q hq
  · by_cases hba : b = a
    · subst hba
      rw [updG_self] at hb
      cases hb
      exact ⟨he, ha⟩
    · rw [updG_ne hba] at hb
      exact ⟨(h4 b e' hb).1.kept (oq b hba), (h4 b e' hb).2⟩
theorem Hp.push {Γ : Gl} {G : Gf} {sz : Nat} {H H1 : Heap} (h : Hp Γ G sz H) {e : va_E} (he : va_at Γ.1 vwCl (sz, e) H1) (z : H1.size = sz + 1) (oq : ∀ q : Nat, q < sz → H1[q]? = H[q]?) : Hp Γ (updG G sz e) (sz + 1) H1 := by
  obtain ⟨h1, h2, h3, h4⟩ := h
  subst h1
  refine ⟨z, by omega, fun q hq => (oq q (Nat.lt_of_lt_of_le hq h2)).trans (h3 q hq), fun b e' hb => ?_⟩
  by_cases hba : b = H.size
  · subst hba
    rw [updG_self] at hb
    cases hb
    exact ⟨he, h2⟩
  · rw [updG_ne hba] at hb
    have hlt := h4.lt hb
    exact ⟨(h4 b e' hb).1.kept (oq b hlt), (h4 b e' hb).2⟩
theorem Hp.fresh {Γ : Gl} {G : Gf} {sz : Nat} {H : Heap} (h : Hp Γ G sz H) {a : Nat} (ha : sz ≤ a) : G a = none := by
  cases hg : G a with
  | none => rfl
  | some e =>
    have := h.2.2.2.lt hg
    have := h.1
    omega
section JH
variable {X : Cx} {cc : ByteArray} {nL : Nat} {own : String} {t mc ms : Nat} {G : Gf} {sz k n pc : Nat} {ls : List (Option Value)} {st : List Value}
theorem J_get (hx : Fx X cc nL own t mc ms) {ci : Nat} {C : String} {T : u_T} {N : Nat} {ty : Nat → FieldType} (hC : ClOk ci C T N ty) (kf : Nat) (hk : kf < N) {idx : Nat} (hl : Cond.fieldLink own idx (T kf).1 (T kf).2.1 (T kf).2.2.1 ∈ WT) {a : Nat} {fs : List Value} (hG : G a = some (.inr (ci, fs))) {v : Value} (hv : fs[kf]? = some v) (hd : decode cc pc = .ok (.getfield idx, 3)) (kk : J X nL G sz k n (pc + 3) ls (v :: st)) : J X nL G sz k n pc ls (.ref a :: st) :=
  fun H locs lsA hH hlc hv2 => va_get hx.1 hx.2.1 (ws := [(a, .inr (ci, fs))]) hx.2.2.2.2.1 hC.2.1 hx.2.2.2.1 hx.2.2.2.2.2.1.1 (va_P1 (hH.2.2.2 a _ hG).1) 0 rfl hC.1 kf hk (hx.2.2.2.2.1 _ hl) (fun _ h => h) hv hd (kk H locs lsA hH hlc hv2)
theorem locs_put {Γ : Gl} {locs : List Loc} {a i : Nat} (hl : ∀ q ∈ locs, aA Γ q.base) (ha : aA Γ a) : ∀ q ∈ locs ++ [(⟨a, i⟩ : Loc)], aA Γ q.base := fun q hq => by
  rcases List.mem_append.mp hq with h | h
  · exact hl q h
  · rw [List.mem_singleton.mp h]; exact ha
theorem J_put (hx : Fx X cc nL own t mc ms) {ci : Nat} {C : String} {T : u_T} {N : Nat} {ty : Nat → FieldType} (hC : ClOk ci C T N ty) (kf : Nat) (hk : kf < N) {idx : Nat} (hl : Cond.fieldLink own idx (T kf).1 (T kf).2.1 (T kf).2.2.1 ∈ WT) (hfin : (T kf).2.2.2 = false) {a : Nat} {fs : List Value} (hG : G a = some (.inr (ci, fs))) (hlen : kf < fs.length) {v : Value} (hn : narrow (ty kf) v = v) (hfit : fits (ty kf) v = true) (hd : decode cc pc = .ok (.putfield idx, 3)) (kk : J X nL (updG G a (.inr (ci, fs.set kf v))) sz k n (pc + 3) ls st) : J X nL G sz k n pc ls (v :: .ref a :: st) := fun H locs lsA hH hlc hv2 => by
  have hts := hx.2.2.2.2.1
  have hK := hx.2.2.2.2.2.1.1
  have hap := va_apart (own := own) hts hC.2.1 ty hC.2.2.1 hC.2.2.2 hK hC.1
  obtain ⟨hat, hAa⟩ := hH.2.2.2 a _ hG
  obtain ⟨r, h1, cell, q1, q2, q3, q4⟩ := id hat
  have hr : r = (C, T, N) := Option.some.inj (h1.symm.trans hC.1)
  subst hr
  obtain ⟨hS, hfc, kC, hkC, hkind⟩ := hK.1 ci _ hC.1
  obtain ⟨cf, kf2, fi, f, hi, hsl⟩ := hS kf hk
  have hlay := hts _ (hC.2.1 _ (u_in_lay hk))
  unfold u_lay at hlay
  rw [if_neg (by rw [hfin]; decide)] at hlay
  have hst := (u_facts hfc hkC (u_lays hts hC.2.1 hk) hi).1
  have h6 := u_store hfc hkC hkind hlay hi (hC.2.2.1 kf hk) hn hfit
  refine W.putK hx.1 hx.2.1 (f := f) ⟨hx.2.2.2.1, hts _ hl, ⟨_, _, _, hi⟩, hst⟩ (by rw [q2]; exact h6) q1 q3 (by rw [hsl]; exact k2_hasslot (q4 kf hk)) rfl rfl hd fun H' e1 e2 e3 => ?_
  rw [hsl] at e1 ⊢
  exact kk H' _ lsA (hH.put hG ⟨_, hC.1, t_OB.to (V := updV (vp_V fs) kf v) ⟨_, e1, q2, q3, t_set q4 hap hk v⟩ (fun j _ => vp_updV_set hlen v j)⟩ e2 e3) (locs_put hlc hAa) hv2
theorem J_putF (hx : Fx X cc nL own t mc ms) {ci : Nat} {C : String} {T : u_T} {N : Nat} {ty : Nat → FieldType} (hC : ClOk ci C T N ty) (hin2 : (xM X).name = "<init>") (kf : Nat) (hk : kf < N) {idx : Nat} (hl : Cond.fieldLink own idx (T kf).1 (T kf).2.1 (T kf).2.2.1 ∈ WT) (hfin : (T kf).2.2.2 = true) (hdecl : (T kf).1 = own) {a : Nat} {fs : List Value} (hG : G a = some (.inr (ci, fs))) (hlen : kf < fs.length) {v : Value} (hn : narrow (ty kf) v = v) (hfit : fits (ty kf) v = true) (hd : decode cc pc = .ok (.putfield idx, 3)) (kk : J X nL (updG G a (.inr (ci, fs.set kf v))) sz k n (pc + 3) ls st) : J X nL G sz k n pc ls (v :: .ref a :: st) := fun H locs lsA hH hlc hv2 => by
  have hts := hx.2.2.2.2.1
  have hK := hx.2.2.2.2.2.1.1
  have hown := hx.2.2.2.1
  have hap := va_apart (own := own) hts hC.2.1 ty hC.2.2.1 hC.2.2.2 hK hC.1
  obtain ⟨hat, hAa⟩ := hH.2.2.2 a _ hG
  obtain ⟨r, h1, cell, q1, q2, q3, q4⟩ := id hat
  have hr : r = (C, T, N) := Option.some.inj (h1.symm.trans hC.1)
  subst hr
  obtain ⟨hS, hfc, kC, hkC, hkind⟩ := hK.1 ci _ hC.1
  obtain ⟨cf, kf2, fi, f, hi, hsl⟩ := hS kf hk
  have hlay := hts _ (hC.2.1 _ (u_in_lay hk))
  unfold u_lay at hlay
  rw [if_pos hfin] at hlay
  have hst := (u_facts hfc hkC (u_lays hts hC.2.1 hk) hi).1
  have hcf : (xm X).cls = cf := by
    obtain ⟨_, _, c', _, _, _, -, -, hf', -, -, -, hown2, -⟩ := Cond.laysFinal_spec hlay
    have e1 : c' = cf := by have := hi.symm.trans hf'; simp at this; exact this.1.symm
    rw [hdecl] at hown2
    rw [← e1]; exact Option.some.inj (hown.symm.trans hown2)
  have h6 := u_fits hfc hkC hkind (Or.inr hlay) hi (hC.2.2.1 kf hk) hn hfit
  refine W.putFinK hx.1 hx.2.1 hown (hts _ hl) hi hst hcf hin2 (by rw [q2]; exact h6) q1 q3 (by rw [hsl]; exact k2_hasslot (q4 kf hk)) rfl rfl hd fun H' e1 e2 e3 => ?_
  rw [hsl] at e1 ⊢
  exact kk H' _ lsA (hH.put hG ⟨_, hC.1, t_OB.to (V := updV (vp_V fs) kf v) ⟨_, e1, q2, q3, t_set q4 hap hk v⟩ (fun j _ => vp_updV_set hlen v j)⟩ e2 e3) (locs_put hlc hAa) hv2
-- arrays
theorem J_iald (hx : Fx X cc nL own t mc ms) {a N : Nat} {f : Nat → Int32} {i : Int32} (hG : G a = some (.inl ((xΓ X).2.1 1, N, .inl f))) (hin : vp_in i N) (hd : decode cc pc = .ok (.iaload, 1)) (kk : J X nL G sz k n (pc + 1) ls (.int (f i.toNatClampNeg) :: st)) : J X nL G sz k n pc ls (.int i :: .ref a :: st) :=
  fun H locs lsA hH hlc hv2 => va_iald hx.1 hx.2.1 hx.2.2.2.2.2.1.1 (va_P1 (hH.2.2.2 a _ hG).1) 0 1 rfl rfl hin hd (kk H locs lsA hH hlc hv2)
theorem J_bald (hx : Fx X cc nL own t mc ms) {a N : Nat} {f : Nat → Int32} {i : Int32} (hG : G a = some (.inl ((xΓ X).2.1 0, N, .inl f))) (hin : vp_in i N) (hd : decode cc pc = .ok (.baload, 1)) (kk : J X nL G sz k n (pc + 1) ls (.int (f i.toNatClampNeg) :: st)) : J X nL G sz k n pc ls (.int i :: .ref a :: st) :=
  fun H locs lsA hH hlc hv2 => va_bald hx.1 hx.2.1 hx.2.2.2.2.2.1.1 (va_P1 (hH.2.2.2 a _ hG).1) 0 0 rfl rfl hin hd (kk H locs lsA hH hlc hv2)
theorem J_lald (hx : Fx X cc nL own t mc ms) {a N : Nat} {f : Nat → Int64} {i : Int32} (hG : G a = some (.inl ((xΓ X).2.1 2, N, .inr (.inl f)))) (hin : vp_in i N) (hd : decode cc pc = .ok (.laload, 1)) (kk : J X nL G sz k n (pc + 1) ls (.long (f i.toNatClampNeg) :: st)) : J X nL G sz k n pc ls (.int i :: .ref a :: st) :=
  fun H locs lsA hH hlc hv2 => va_lald hx.1 hx.2.1 hx.2.2.2.2.2.1.1 (va_P1 (hH.2.2.2 a _ hG).1) 0 2 rfl rfl hin hd (kk H locs lsA hH hlc hv2)
theorem J_aald (hx : Fx X cc nL own t mc ms) (ti : Nat) {ty : FieldType} (ht : (gTys (xΓ X).2.1)[ti]? = some ((xΓ X).2.1 ti, ty)) (href : ty.isReference = true) {a N b : Nat} {f : Nat → Option Nat} {i : Int32} (hG : G a = some (.inl ((xΓ X).2.1 ti, N, .inr (.inr (.inr (.inr f)))))) (hin : vp_in i N) (hb : f i.toNatClampNeg = some b) (hd : decode cc pc = .ok (.aaload, 1)) (kk : J X nL G sz k n (pc + 1) ls (.ref b :: st)) : J X nL G sz k n pc ls (.int i :: .ref a :: st) := fun H locs lsA hH hlc hv2 => by
  have hlt : i.toNatClampNeg < N := Nat.not_le.mp fun q => hin (Or.inr q)
  exact W.aald (v := .ref b) (ty := ty) hx.1 hx.2.1 (hH.2.2.2 a _ hG).1 ((hx.2.2.2.2.2.1.1.2 ti _ ht).1 N (fun j => va_rf (f j))) href (fun q => by cases q) (by show ¬ (i < 0 ∨ (arrV _ _ _).slots.size ≤ _); rw [arrV_size]; exact hin) (by show (arrV _ _ _).slots[_]? = _; rw [arrV_read _ _ hlt, hb]; rfl) rfl rfl hd (kk H locs lsA hH hlc hv2)
theorem J_alen (hx : Fx X cc nL own t mc ms) (ti : Nat) {ty : FieldType} (ht : (gTys (xΓ X).2.1)[ti]? = some ((xΓ X).2.1 ti, ty)) {a : Nat} {x : vp_A} (hG : G a = some (.inl ((xΓ X).2.1 ti, x))) {v : Int32} (hv : Int32.ofNat x.1 = v) (hd : decode cc pc = .ok (.arraylength, 1)) (kk : J X nL G sz k n (pc + 1) ls (.int v :: st)) : J X nL G sz k n pc ls (.ref a :: st) :=
  fun H locs lsA hH hlc hv2 => va_alen hx.1 hx.2.1 hx.2.2.2.2.2.1.1 (va_P1 (hH.2.2.2 a _ hG).1) 0 ti rfl ht hv hd (kk H locs lsA hH hlc hv2)
theorem J_iast (hx : Fx X cc nL own t mc ms) {a N : Nat} {f : Nat → Int32} {i x : Int32} (hG : G a = some (.inl ((xΓ X).2.1 1, N, .inl f))) (hin : vp_in i N) (hd : decode cc pc = .ok (.iastore, 1)) (kk : J X nL (updG G a (.inl ((xΓ X).2.1 1, N, .inl (upd f i.toNatClampNeg x)))) sz k n (pc + 1) ls st) : J X nL G sz k n pc ls (.int x :: .int i :: .ref a :: st) := fun H locs lsA hH hlc hv2 => by
  obtain ⟨hat, hAa⟩ := hH.2.2.2 a _ hG
  refine W.iast hx.1 hx.2.1 hat ((hx.2.2.2.2.2.1.1.2 1 _ rfl).1 N (fun j => .int (f j))) (fun q => by cases q) (by show ¬ (i < 0 ∨ (arrV _ _ _).slots.size ≤ _); rw [arrV_size]; exact hin) rfl rfl hd fun H1 e z oq => ?_
  refine kk H1 _ lsA (hH.put hG ?_ z oq) (locs_put hlc hAa) hv2
  show H1[a]? = some (vp_cell _ _)
  rw [e]
  show some ((vp_cell _ _).setSlot _ _) = _
  rw [vp_cell_i, vp_cell_i, arrV_store]
  congr 2
  funext q
  by_cases hq : q = i.toNatClampNeg
  · subst hq
    simp [updV, upd]
  · simp [updV, upd, hq]
theorem J_bast (hx : Fx X cc nL own t mc ms) {a N : Nat} {f : Nat → Int32} {i x : Int32} (hG : G a = some (.inl ((xΓ X).2.1 0, N, .inl f))) (hin : vp_in i N) (hd : decode cc pc = .ok (.bastore, 1)) (kk : J X nL (updG G a (.inl ((xΓ X).2.1 0, N, .inl (upd f i.toNatClampNeg (vp_nar .byte x))))) sz k n (pc + 1) ls st) : J X nL G sz k n pc ls (.int x :: .int i :: .ref a :: st) := fun H locs lsA hH hlc hv2 => by
  obtain ⟨hat, hAa⟩ := hH.2.2.2 a _ hG
  refine W.bast hx.1 hx.2.1 hat ((hx.2.2.2.2.2.1.1.2 0 _ rfl).1 N (fun j => .int (f j))) (fun q => by cases q) (by show ¬ (i < 0 ∨ (arrV _ _ _).slots.size ≤ _); rw [arrV_size]; exact hin) rfl rfl hd fun H1 e z oq => ?_
  refine kk H1 _ lsA (hH.put hG ?_ z oq) (locs_put hlc hAa) hv2
  show H1[a]? = some (vp_cell _ _)
  rw [e]
  show some ((vp_cell _ _).setSlot _ _) = _
  rw [vp_cell_i, vp_cell_i, arrV_store]
  congr 2
  funext q
  by_cases hq : q = i.toNatClampNeg
  · subst hq
    simp [updV, upd, vp_nar]
    try rfl
  · simp [updV, upd, hq]
theorem J_last (hx : Fx X cc nL own t mc ms) {a N : Nat} {f : Nat → Int64} {i : Int32} {x : Int64} (hG : G a = some (.inl ((xΓ X).2.1 2, N, .inr (.inl f)))) (hin : vp_in i N) (hd : decode cc pc = .ok (.lastore, 1)) (kk : J X nL (updG G a (.inl ((xΓ X).2.1 2, N, .inr (.inl (vp_updL f i.toNatClampNeg x))))) sz k n (pc + 1) ls st) : J X nL G sz k n pc ls (.long x :: .int i :: .ref a :: st) := fun H locs lsA hH hlc hv2 => by
  obtain ⟨hat, hAa⟩ := hH.2.2.2 a _ hG
  refine W.last hx.1 hx.2.1 hat ((hx.2.2.2.2.2.1.1.2 2 _ rfl).1 N (fun j => .long (f j))) (fun q => by cases q) (by show ¬ (i < 0 ∨ (arrV _ _ _).slots.size ≤ _); rw [arrV_size]; exact hin) rfl rfl hd fun H1 e z oq => ?_
  refine kk H1 _ lsA (hH.put hG ?_ z oq) (locs_put hlc hAa) hv2
  show H1[a]? = some (vp_cell _ _)
  rw [e]
  show some ((vp_cell _ _).setSlot _ _) = _
  rw [vp_cell_l, vp_cell_l, arrV_store]
  congr 2
  funext q
  by_cases hq : q = i.toNatClampNeg
  · subst hq
    simp [updV, vp_updL]
  · simp [updV, vp_updL, hq]
theorem J_aast (hx : Fx X cc nL own t mc ms) (ti ci : Nat) {r : vw_C} (ht : (gTys (xΓ X).2.1)[ti]? = some ((xΓ X).2.1 ti, .object r.1)) (hc : vwCl[ci]? = some r) {a N v : Nat} {vs : List Value} {f : Nat → Option Nat} {i : Int32} (hG : G a = some (.inl ((xΓ X).2.1 ti, N, .inr (.inr (.inr (.inr f)))))) (hGv : G v = some (.inr (ci, vs))) (hin : vp_in i N) (hd : decode cc pc = .ok (.aastore, 1)) (kk : J X nL (updG G a (.inl ((xΓ X).2.1 ti, N, .inr (.inr (.inr (.inr (va_up f i.toNatClampNeg (some v)))))))) sz k n (pc + 1) ls st) : J X nL G sz k n pc ls (.ref v :: .int i :: .ref a :: st) := fun H locs lsA hH hlc hv2 => by
  have hlt : i.toNatClampNeg < N := Nat.not_le.mp fun q => hin (Or.inr q)
  have h0 : ¬ i < 0 := fun q => hin (Or.inl q)
  have hK := hx.2.2.2.2.2.1.1
  obtain ⟨hat, hAa⟩ := hH.2.2.2 a _ hG
  obtain ⟨r', hr', cellV, g1, g2, g3, -⟩ := (hH.2.2.2 v _ hGv).1
  have hcls := (hK.1 ci r hc).2
  obtain ⟨kA, comp, k1, k2, k3, -⟩ := (hK.2 ti _ ht).2
  have hcomp : comp = (xΓ X).1.1 ci := Option.some.inj (k3.symm.trans hcls.1)
  subst hcomp
  obtain ⟨kC, hkC, -⟩ := hcls.2
  refine W.aast hx.1 hx.2.1 hat (fun q h => by cases h) (fun h => by cases h) k1 k2 rfl hkC ⟨h0, by show _ < (arrV _ _ _).slots.size; rw [arrV_size]; exact hlt⟩ g1 (fun q h => by rw [g3] at h; cases h) (by rw [g2]; exact hkC) (by rw [g2]; exact va_assign hcls) rfl rfl hd fun H1 e z oq => ?_
  refine kk H1 _ lsA (hH.put hG ?_ z oq) (locs_put hlc hAa) hv2
  show H1[a]? = some (vp_cell _ _)
  rw [e]
  show some ((vp_cell _ _).setSlot _ _) = _
  rw [vp_cell_q, vp_cell_q, arrV_store]
  congr 2
  funext q
  by_cases hq : q = i.toNatClampNeg
  · subst hq
    simp [updV, va_up, va_rf]
  · simp [updV, va_up, hq]
-- makings
theorem J_new (hx : Fx X cc nL own t mc ms) {ci : Nat} {C : String} {T : u_T} {N : Nat} {ty : Nat → FieldType} (hC : ClOk ci C T N ty) {idx : Nat} (hcl : Cond.classLink own idx C ∈ WT) (hins : Cond.instantiable C N ∈ WT) (hini : Cond.initialized C ∈ WT) (fs : List Value) (hfs : ∀ j, j < N → defaultValue (ty j) = vp_V fs j) (hk : k + 1 ≤ mc) (hn : n + N ≤ ms) (hd : decode cc pc = .ok (.new idx, 3)) (kk : G sz = none → J X nL (updG G sz (.inr (ci, fs))) (sz + 1) (k + 1) (n + N) (pc + 3) ls (.ref sz :: st)) : J X nL G sz k n pc ls st := fun H locs lsA hH hlc hv2 => by
  have hts := hx.2.2.2.2.1
  have hKn := hx.2.2.2.2.2.1.1.1 ci _ hC.1
  have hR := hx.2.2.2.2.2.2.1
  refine W.newcK hx.1 hx.2.1 hx.2.2.2.1 (hts _ hcl) (hts _ hins) (hts _ hini) rfl hd (by rw [hR]; exact hk) (by rw [hR]; exact hn) hKn.2.1 hH.1 fun H1 kC hkC e1 z1 o1 => ?_
  exact kk (hH.fresh (Nat.le_refl _)) H1 locs lsA (hH.push ⟨_, hC.1, (u_born ty hts hC.2.1 hKn hkC e1 hC.2.2.1).to hfs⟩ z1 o1) hlc hv2
theorem J_newa (hx : Fx X cc nL own t mc ms) (ti : Nat) {at' : ArrayType} {ty : FieldType} (hty : newarray.typeOf at' = ty) (hpr : ∀ (s : State) (c : ClassId), va_RA s c ty → s.vm.findClass ("[" ++ ty.toString) = some c) (ht : (gTys (xΓ X).2.1)[ti]? = some ((xΓ X).2.1 ti, ty)) (harr : Cond.arrayClass ty ∈ WT) {c : Int32} (N : Nat) (a0 : (Nat → Int32) ⊕ (Nat → Int64) ⊕ (Nat → UInt32) ⊕ (Nat → UInt64) ⊕ (Nat → Option Nat)) (ha : ∀ cA : ClassId, vp_cell cA (N, a0) = arrV cA N (fun _ => defaultValue ty)) (h0 : ¬ c < 0) (hN : c.toNatClampNeg = N) (hby : N * componentBytes ty ≤ 536870912) (hk : k + 1 ≤ mc) (hn : n + N ≤ ms) (hd : decode cc pc = .ok (.newarray at', 2)) (kk : G sz = none → J X nL (updG G sz (.inl ((xΓ X).2.1 ti, N, a0))) (sz + 1) (k + 1) (n + N) (pc + 2) ls (.ref sz :: st)) : J X nL G sz k n pc ls (.int c :: st) := fun H locs lsA hH hlc hv2 => by
  subst hty
  have hR := hx.2.2.2.2.2.2.1
  refine va_newaK hx.1 hx.2.1 (hx.2.2.2.2.1 _ harr) rfl hd rfl h0 hN hby (by rw [hR]; exact hk) (by rw [hR]; exact hn) hH.1 fun H1 cA e1 z1 o1 hAr hNm => ?_
  have hc : cA = (xΓ X).2.1 ti := Option.some.inj (hNm.symm.trans (hpr _ _ (hx.2.2.2.2.2.1.1.2 ti _ ht).2))
  subst hc
  refine kk (hH.fresh (Nat.le_refl _)) H1 locs lsA (hH.push ?_ z1 o1) hlc hv2
  show H1[sz]? = some (vp_cell _ _)
  rw [ha]
  exact e1
theorem J_anew (hx : Fx X cc nL own t mc ms) (ti : Nat) {C : String} (ht : (gTys (xΓ X).2.1)[ti]? = some ((xΓ X).2.1 ti, .object C)) {idx : Nat} (hcl : Cond.classLink own idx C ∈ WT) (hover : va_AO C (xs X)) {c : Int32} (N : Nat) (h0 : ¬ c < 0) (hN : c.toNatClampNeg = N) (hby : N * 4 ≤ 536870912) (hk : k + 1 ≤ mc) (hn : n + N ≤ ms) (hd : decode cc pc = .ok (.anewarray idx, 3)) (kk : G sz = none → J X nL (updG G sz (.inl ((xΓ X).2.1 ti, N, .inr (.inr (.inr (.inr (fun _ => none))))))) (sz + 1) (k + 1) (n + N) (pc + 3) ls (.ref sz :: st)) : J X nL G sz k n pc ls (.int c :: st) := fun H locs lsA hH hlc hv2 => by
  subst hN
  have hR := hx.2.2.2.2.2.2.1
  have hsz := hH.1
  refine W.anew hx.1 hx.2.1 hx.2.2.2.1 (hx.2.2.2.2.1 _ hcl) (va_AO.use hover) rfl hd rfl h0 hby (by rw [hR]; exact hk) (by rw [hR]; exact hn) fun cA kA comp f1 f2 f3 f4 => ?_
  obtain ⟨kA', comp', -, -, -, hNm⟩ := (hx.2.2.2.2.2.1.1.2 ti _ ht).2
  have hc : cA = (xΓ X).2.1 ti := Option.some.inj (f1.symm.trans hNm)
  subst hc
  generalize hH1 : H.push ({ cls := (xΓ X).2.1 ti, slots := Array.replicate c.toNatClampNeg .null, vm := .none } : Cell) = H1
  have z1 : H1.size = sz + 1 := by rw [← hH1, Array.size_push, hsz]
  have e1 : H1[sz]? = some (arrV ((xΓ X).2.1 ti) c.toNatClampNeg (fun _ => .null)) := by rw [← hH1, ← hsz, Array.getElem?_push_size, ← arrV_new]
  have o1 : ∀ q : Nat, q < sz → H1[q]? = H[q]? := fun q hq => by rw [← hH1, Array.getElem?_push, if_neg (Nat.ne_of_lt (by omega))]
  rw [hsz]
  refine kk (hH.fresh (Nat.le_refl _)) H1 locs lsA (hH.push ?_ z1 o1) hlc hv2
  show H1[sz]? = some (vp_cell _ _)
  rw [vp_cell_q]
  exact e1
/-- what lies at an address, told otherwise -/
theorem J_conv {a : Nat} {e e' : va_E} (hG : G a = some e) (he : ∀ H : Heap, va_at (xΓ X).1 vwCl (a, e) H → va_at (xΓ X).1 vwCl (a, e') H) (kk : J X nL (updG G a e') sz k n pc ls st) : J X nL G sz k n pc ls st := fun H locs lsA hH hlc hv2 =>
  kk H locs lsA (hH.put hG (he H (hH.2.2.2 a _ hG).1) rfl (fun _ _ => rfl)) hlc hv2
-- a member of java.lang.Math, Object's constructor, arraycopy
theorem J_objInit (hx : Fx X cc nL own t mc ms) {idx : Nat} (hl : Cond.methodLink own idx objectInit ∈ WT) (hi : Cond.instanceMethod objectInit ∈ WT) (hc : Cond.code objectInit ⟨#[0xb1]⟩ 1 none ∈ WT) {a : Nat} (ht : 1 ≤ t) (hw : (st.map fun v => v.category).sum + 12 ≤ 30 * t) (hd : decode cc pc = .ok (.invokespecial idx, 3)) (kk : J X nL G sz k n (pc + 3) ls st) : J X nL G sz k n pc ls (.ref a :: st) := fun H locs lsA hH hlc hv2 => by
  have hts := hx.2.2.2.2.1
  have hR := hx.2.2.2.2.2.2.1
  exact W.objInit hx.1 hx.2.1 hx.2.2.2.1 (hts _ hl) (hts _ hi) (hts _ hc) rfl (hv2.1.trans hx.2.2.1.symm) rfl hd (by rw [hR]; exact ht) (by rw [hR]; show 2 * 0 + _ + 12 ≤ 30 * t; omega) (kk H locs lsA hH hlc hv2)
theorem J_max (hx : Fx X cc nL own t mc ms) {idx : Nat} (hl : Cond.methodLink own idx Lib.Math.max.name ∈ WT) (hw4 : Cond.static Lib.Math.max.name ∈ WT ∧ Cond.initialized "java/lang/Math" ∈ WT ∧ Cond.code Lib.Math.max.name Lib.Math.max.code 2 (some .int) ∈ WT) {x y : Int32} (ht : 1 ≤ t) (hw : (st.map fun v => v.category).sum + 13 ≤ 30 * t) (hk : k ≤ mc) (hn : n ≤ ms) (hd : decode cc pc = .ok (.invokestatic idx, 3)) (kk : J X nL G sz k n (pc + 3) ls (.int (if x < y then y else x) :: st)) : J X nL G sz k n pc ls (.int y :: .int x :: st) := fun H locs lsA hH hlc hv2 => by
  have hts := hx.2.2.2.2.1
  have hR := hx.2.2.2.2.2.2.1
  exact va_mmax hx.1 hx.2.1 (hx.2.2.1.trans hv2.1.symm) hx.2.2.2.1 (hts _ hl) (hts _ hw4.1) (hts _ hw4.2.1) (hts _ hw4.2.2) (by rw [hR]; exact ht) (by rw [hR]; exact hw) (by rw [hR]; exact hk) (by rw [hR]; exact hn) hd (kk H locs lsA hH hlc hv2)
theorem J_min (hx : Fx X cc nL own t mc ms) {idx : Nat} (hl : Cond.methodLink own idx Lib.Math.min.name ∈ WT) (hw4 : Cond.static Lib.Math.min.name ∈ WT ∧ Cond.initialized "java/lang/Math" ∈ WT ∧ Cond.code Lib.Math.min.name Lib.Math.min.code 2 (some .int) ∈ WT) {x y : Int32} (ht : 1 ≤ t) (hw : (st.map fun v => v.category).sum + 13 ≤ 30 * t) (hk : k ≤ mc) (hn : n ≤ ms) (hd : decode cc pc = .ok (.invokestatic idx, 3)) (kk : J X nL G sz k n (pc + 3) ls (.int (if y < x then y else x) :: st)) : J X nL G sz k n pc ls (.int y :: .int x :: st) := fun H locs lsA hH hlc hv2 => by
  have hts := hx.2.2.2.2.1
  have hR := hx.2.2.2.2.2.2.1
  exact va_mmin hx.1 hx.2.1 (hx.2.2.1.trans hv2.1.symm) hx.2.2.2.1 (hts _ hl) (hts _ hw4.1) (hts _ hw4.2.1) (hts _ hw4.2.2) (by rw [hR]; exact ht) (by rw [hR]; exact hw) (by rw [hR]; exact hk) (by rw [hR]; exact hn) hd (kk H locs lsA hH hlc hv2)
theorem J_abs (hx : Fx X cc nL own t mc ms) {idx : Nat} (hl : Cond.methodLink own idx Lib.Math.abs.name ∈ WT) (hw4 : Cond.static Lib.Math.abs.name ∈ WT ∧ Cond.initialized "java/lang/Math" ∈ WT ∧ Cond.code Lib.Math.abs.name Lib.Math.abs.code 1 (some .int) ∈ WT) {x : Int32} (ht : 1 ≤ t) (hw : (st.map fun v => v.category).sum + 13 ≤ 30 * t) (hk : k ≤ mc) (hn : n ≤ ms) (hd : decode cc pc = .ok (.invokestatic idx, 3)) (kk : J X nL G sz k n (pc + 3) ls (.int (if 0 ≤ x then x else 0 - x) :: st)) : J X nL G sz k n pc ls (.int x :: st) := fun H locs lsA hH hlc hv2 => by
  have hts := hx.2.2.2.2.1
  have hR := hx.2.2.2.2.2.2.1
  exact va_mabs hx.1 hx.2.1 (hx.2.2.1.trans hv2.1.symm) hx.2.2.2.1 (hts _ hl) (hts _ hw4.1) (hts _ hw4.2.1) (hts _ hw4.2.2) (by rw [hR]; exact ht) (by rw [hR]; exact hw) (by rw [hR]; exact hk) (by rw [hR]; exact hn) hd (kk H locs lsA hH hlc hv2)
theorem J_copy (hx : Fx X cc nL own t mc ms) {idx : Nat} (hl : Cond.methodLink own idx arraycopyName ∈ WT) (hw4 : Cond.native arraycopyName ∈ WT ∧ Cond.static arraycopyName ∈ WT ∧ Cond.initialized "java/lang/System" ∈ WT) {a0 a n0 n1 : Nat} {f g : Nat → Int32} {sp dp nn : Int32} (ha0 : G a0 = some (.inl ((xΓ X).2.1 1, n0, .inl f))) (ha1 : G a = some (.inl ((xΓ X).2.1 1, n1, .inl g))) (h1 : ¬ sp < 0) (h2 : ¬ dp < 0) (h3 : ¬ nn < 0) (h4 : sp.toNatClampNeg + nn.toNatClampNeg ≤ n0) (h5 : dp.toNatClampNeg + nn.toNatClampNeg ≤ n1) (ht : 1 ≤ t) (hw : (st.map fun v => v.category).sum + (nativeFrameWords "java/lang/System" "arraycopy" 5 + 11) ≤ 30 * t) (hd : decode cc pc = .ok (.invokestatic idx, 3))
    (kk : J X nL (updG G a (.inl ((xΓ X).2.1 1, n1, .inl (va_cpy f g sp.toNatClampNeg dp.toNatClampNeg nn.toNatClampNeg)))) sz k n (pc + 3) ls st) : J X nL G sz k n pc ls (.int nn :: .int dp :: .ref a :: .int sp :: .ref a0 :: st) := fun H locs lsA hH hlc hv2 => by
  have hts := hx.2.2.2.2.1
  have hR := hx.2.2.2.2.2.2.1
  have hK := hx.2.2.2.2.2.1.1
  have np : ∀ z : Int32, ¬ z < 0 → z.toInt = (z.toNatClampNeg : Int) := by
    intro z hz
    have hz0 : (0 : Int) ≤ z.toInt := by
      have := Int32.not_lt.mp hz
      simpa using Int32.le_iff_toInt_le.mp this
    show z.toInt = ((z.toInt.toNat : Nat) : Int)
    omega
  obtain ⟨hat1, hAa⟩ := hH.2.2.2 a _ ha1
  have hc0 : H[a0]? = some (vp_cell ((xΓ X).2.1 1) (n0, .inl f)) := (hH.2.2.2 a0 _ ha0).1
  have hc1 : H[a]? = some (vp_cell ((xΓ X).2.1 1) (n1, .inl g)) := hat1
  intro T hT Xs
  obtain ⟨-, k0, hk0, cm0, hkk0⟩ := (hK.2 1 _ rfl).1 n0 (fun j => .int (f j))
  obtain ⟨-, k1, hk1, cm1, hkk1⟩ := (hK.2 1 _ rfl).1 n1 (fun j => .int (g j))
  obtain ⟨vm', X', step⟩ := Xs.arraycopy hx.1 hx.2.2.2.1 (hts _ hl) (hts _ hw4.1) (hts _ hw4.2.1) (hts _ hw4.2.2) (src := a0) (dst := a) (cs := vp_cell ((xΓ X).2.1 1) (n0, .inl f)) (cd := vp_cell ((xΓ X).2.1 1) (n1, .inl g)) (srcPos := sp) (destPos := dp) (n := nn) (by rw [hT]; exact hc0) (by rw [hT]; exact hc1)
    (fun _ h => by cases h) (fun _ h => by cases h) (fun h => by cases h) (fun h => by cases h) hk0 hk1 hkk0 hkk1 (by simp [refKind]) h1 h2 h3
    (by rw [np sp h1, np nn h3]; show ¬ _ > ((arrV ((xΓ X).2.1 1) n0 (fun j => .int (f j))).slots.size : Int); rw [arrV_size]; omega)
    (by rw [np dp h2, np nn h3]; show ¬ _ > ((arrV ((xΓ X).2.1 1) n1 (fun j => .int (g j))).slots.size : Int); rw [arrV_size]; omega)
    (fun vm₁ _ i hi => by
      have e : (vp_cell ((xΓ X).2.1 1) (n0, .inl f)).slots.getD (sp.toNatClampNeg + i) .null = .int (f (sp.toNatClampNeg + i)) := by
        show (arrV ((xΓ X).2.1 1) n0 (fun j => .int (f j))).slots.getD _ _ = _
        rw [Array.getD_eq_getD_getElem?, arrV_read _ _ (by omega)]
        rfl
      refine ⟨?_, ?_⟩
      · rw [e]
        rfl
      · rw [e]
        exact trivial)
    (g := F0 (xm X) pc lsA (.int nn :: .int dp :: .ref a :: .int sp :: .ref a0 :: st)) rfl (by rw [hx.2.2.1]; exact hv2.1) (rest := st) rfl (by rw [hx.2.1]; exact hd) (by rw [hR]; exact ht) (by rw [hR]; show 2 * 0 + _ + _ ≤ 30 * t; omega)
  have e1 : copied (vp_cell ((xΓ X).2.1 1) (n0, .inl f)) (vp_cell ((xΓ X).2.1 1) (n1, .inl g)) sp dp nn = vp_cell ((xΓ X).2.1 1) (n1, .inl (va_cpy f g sp.toNatClampNeg dp.toNatClampNeg nn.toNatClampNeg)) := va_copied (fun z => .int z) _ _ f g h4
  rw [e1] at X' step
  have hlt : a < H.size := (Array.getElem?_eq_some_iff.mp hc1).1
  have hheap : ((T.setVm vm').setCell a (vp_cell ((xΓ X).2.1 1) (n1, .inl (va_cpy f g sp.toNatClampNeg dp.toNatClampNeg nn.toNatClampNeg)))).heap = H.setIfInBounds a (vp_cell ((xΓ X).2.1 1) (n1, .inl (va_cpy f g sp.toNatClampNeg dp.toNatClampNeg nn.toNatClampNeg))) := by rw [← hT]; rfl
  have oq : ∀ q : Nat, q ≠ a → (H.setIfInBounds a (vp_cell ((xΓ X).2.1 1) (n1, .inl (va_cpy f g sp.toNatClampNeg dp.toNatClampNeg nn.toNatClampNeg))))[q]? = H[q]? := fun q hq => by simp [Array.getElem?_setIfInBounds, Ne.symm hq]
  obtain ⟨t9, a1, b1⟩ := kk _ _ lsA (hH.put ha1 (show (H.setIfInBounds a _)[a]? = some _ by simp [Array.getElem?_setIfInBounds, hlt]) (by simp) oq) (fun q hq => by
      rcases List.mem_append.mp hq with h | h
      · exact hlc q h
      · obtain ⟨z, -, hz⟩ := List.mem_map.mp h
        rw [← hz]
        exact hAa) hv2 _ hheap X'
  exact ⟨t9, step t9 a1, b1⟩
end JH
end
