section
-- ===== PART A: goes FIRST, ahead of the names: the tables' words, and 'selects' of the private methods out of them =====
/-- a private method of a class that the tables say can be made, by its rows of tables_1 -/
def lw_okq (q : MethodName × Nat) : Prop := (q.1.cls ≠ "java/lang/invoke/MethodHandle" ∧ q.1.cls ≠ "java/lang/invoke/VarHandle") ∧ Cond.instantiable q.1.cls q.2 ∈ tables_1 ∧ Cond.privateMethod q.1 ∈ tables_1 ∧ Cond.instanceMethod q.1 ∈ tables_1
theorem lw_p0 : lw_okq (⟨"DoorVotes", "finding", "(I)I"⟩, 12) := ⟨⟨by decide +kernel, by decide +kernel⟩, List.mem_of_getElem? (i := 16) (by decide +kernel), List.mem_of_getElem? (i := 318) (by decide +kernel), List.mem_of_getElem? (i := 319) (by decide +kernel)⟩
theorem lw_p1 : lw_okq (⟨"DoorVotes$Row", "begin", "(II)V"⟩, 3) := ⟨⟨by decide +kernel, by decide +kernel⟩, List.mem_of_getElem? (i := 255) (by decide +kernel), List.mem_of_getElem? (i := 323) (by decide +kernel), List.mem_of_getElem? (i := 324) (by decide +kernel)⟩
theorem lw_p2 : lw_okq (⟨"DoorVotes", "unfound", "(I)I"⟩, 12) := ⟨⟨by decide +kernel, by decide +kernel⟩, List.mem_of_getElem? (i := 16) (by decide +kernel), List.mem_of_getElem? (i := 330) (by decide +kernel), List.mem_of_getElem? (i := 331) (by decide +kernel)⟩
theorem lw_p3 : lw_okq (⟨"DoorVotes$Row", "findingOf", "(II)I"⟩, 3) := ⟨⟨by decide +kernel, by decide +kernel⟩, List.mem_of_getElem? (i := 255) (by decide +kernel), List.mem_of_getElem? (i := 338) (by decide +kernel), List.mem_of_getElem? (i := 339) (by decide +kernel)⟩
theorem lw_p4 : lw_okq (⟨"DoorVotes$Row", "isMissing", "()Z"⟩, 3) := ⟨⟨by decide +kernel, by decide +kernel⟩, List.mem_of_getElem? (i := 255) (by decide +kernel), List.mem_of_getElem? (i := 342) (by decide +kernel), List.mem_of_getElem? (i := 343) (by decide +kernel)⟩
theorem lw_p5 : lw_okq (⟨"DoorVotes$Row", "put", "(II)I"⟩, 3) := ⟨⟨by decide +kernel, by decide +kernel⟩, List.mem_of_getElem? (i := 255) (by decide +kernel), List.mem_of_getElem? (i := 346) (by decide +kernel), List.mem_of_getElem? (i := 347) (by decide +kernel)⟩
theorem lw_p6 : lw_okq (⟨"DoorVotes$Row", "end", "()I"⟩, 3) := ⟨⟨by decide +kernel, by decide +kernel⟩, List.mem_of_getElem? (i := 255) (by decide +kernel), List.mem_of_getElem? (i := 362) (by decide +kernel), List.mem_of_getElem? (i := 363) (by decide +kernel)⟩
theorem lw_p7 : lw_okq (⟨"DoorVotes$Reader", "take", "(I)I"⟩, 6) := ⟨⟨by decide +kernel, by decide +kernel⟩, List.mem_of_getElem? (i := 26) (by decide +kernel), List.mem_of_getElem? (i := 371) (by decide +kernel), List.mem_of_getElem? (i := 372) (by decide +kernel)⟩
theorem lw_p8 : lw_okq (⟨"DoorVotes$Reader", "readInto", "(LDoorVotes$Town;)Z"⟩, 6) := ⟨⟨by decide +kernel, by decide +kernel⟩, List.mem_of_getElem? (i := 26) (by decide +kernel), List.mem_of_getElem? (i := 379) (by decide +kernel), List.mem_of_getElem? (i := 380) (by decide +kernel)⟩
theorem lw_p9 : lw_okq (⟨"DoorVotes$Reader", "readLaw", "(LDoorVotes$Town;)Z"⟩, 6) := ⟨⟨by decide +kernel, by decide +kernel⟩, List.mem_of_getElem? (i := 26) (by decide +kernel), List.mem_of_getElem? (i := 383) (by decide +kernel), List.mem_of_getElem? (i := 384) (by decide +kernel)⟩
theorem lw_p10 : lw_okq (⟨"DoorVotes$Reader", "readSign", "(I)Z"⟩, 6) := ⟨⟨by decide +kernel, by decide +kernel⟩, List.mem_of_getElem? (i := 26) (by decide +kernel), List.mem_of_getElem? (i := 387) (by decide +kernel), List.mem_of_getElem? (i := 388) (by decide +kernel)⟩
theorem lw_p11 : lw_okq (⟨"DoorVotes$Reader", "byteAt", "(I)I"⟩, 6) := ⟨⟨by decide +kernel, by decide +kernel⟩, List.mem_of_getElem? (i := 26) (by decide +kernel), List.mem_of_getElem? (i := 391) (by decide +kernel), List.mem_of_getElem? (i := 392) (by decide +kernel)⟩
theorem lw_p12 : lw_okq (⟨"DoorVotes$Reader", "failed", "(I)Z"⟩, 6) := ⟨⟨by decide +kernel, by decide +kernel⟩, List.mem_of_getElem? (i := 26) (by decide +kernel), List.mem_of_getElem? (i := 396) (by decide +kernel), List.mem_of_getElem? (i := 397) (by decide +kernel)⟩
theorem lw_p13 : lw_okq (⟨"DoorVotes$Reader", "readFirst", "(II)Z"⟩, 6) := ⟨⟨by decide +kernel, by decide +kernel⟩, List.mem_of_getElem? (i := 26) (by decide +kernel), List.mem_of_getElem? (i := 400) (by decide +kernel), List.mem_of_getElem? (i := 401) (by decide +kernel)⟩
theorem lw_p14 : lw_okq (⟨"DoorVotes$Reader", "readNumber", "(III)I"⟩, 6) := ⟨⟨by decide +kernel, by decide +kernel⟩, List.mem_of_getElem? (i := 26) (by decide +kernel), List.mem_of_getElem? (i := 404) (by decide +kernel), List.mem_of_getElem? (i := 405) (by decide +kernel)⟩
theorem lw_p15 : lw_okq (⟨"DoorVotes$Reader", "readSecond", "(II)Z"⟩, 6) := ⟨⟨by decide +kernel, by decide +kernel⟩, List.mem_of_getElem? (i := 26) (by decide +kernel), List.mem_of_getElem? (i := 412) (by decide +kernel), List.mem_of_getElem? (i := 413) (by decide +kernel)⟩
def lw_privs_1 : List (MethodName × Nat) := [(⟨"DoorVotes", "finding", "(I)I"⟩, 12), (⟨"DoorVotes$Row", "begin", "(II)V"⟩, 3), (⟨"DoorVotes", "unfound", "(I)I"⟩, 12), (⟨"DoorVotes$Row", "findingOf", "(II)I"⟩, 3), (⟨"DoorVotes$Row", "isMissing", "()Z"⟩, 3), (⟨"DoorVotes$Row", "put", "(II)I"⟩, 3), (⟨"DoorVotes$Row", "end", "()I"⟩, 3), (⟨"DoorVotes$Reader", "take", "(I)I"⟩, 6), (⟨"DoorVotes$Reader", "readInto", "(LDoorVotes$Town;)Z"⟩, 6), (⟨"DoorVotes$Reader", "readLaw", "(LDoorVotes$Town;)Z"⟩, 6), (⟨"DoorVotes$Reader", "readSign", "(I)Z"⟩, 6), (⟨"DoorVotes$Reader", "byteAt", "(I)I"⟩, 6), (⟨"DoorVotes$Reader", "failed", "(I)Z"⟩, 6), (⟨"DoorVotes$Reader", "readFirst", "(II)Z"⟩, 6), (⟨"DoorVotes$Reader", "readNumber", "(III)I"⟩, 6), (⟨"DoorVotes$Reader", "readSecond", "(II)Z"⟩, 6)]
theorem lw_r1 : ∀ q ∈ lw_privs_1, lw_okq q := List.forall_mem_cons.mpr ⟨lw_p0, List.forall_mem_cons.mpr ⟨lw_p1, List.forall_mem_cons.mpr ⟨lw_p2, List.forall_mem_cons.mpr ⟨lw_p3, List.forall_mem_cons.mpr ⟨lw_p4, List.forall_mem_cons.mpr ⟨lw_p5, List.forall_mem_cons.mpr ⟨lw_p6, List.forall_mem_cons.mpr ⟨lw_p7, List.forall_mem_cons.mpr ⟨lw_p8, List.forall_mem_cons.mpr ⟨lw_p9, List.forall_mem_cons.mpr ⟨lw_p10, List.forall_mem_cons.mpr ⟨lw_p11, List.forall_mem_cons.mpr ⟨lw_p12, List.forall_mem_cons.mpr ⟨lw_p13, List.forall_mem_cons.mpr ⟨lw_p14, List.forall_mem_cons.mpr ⟨lw_p15, fun _ h => absurd h List.not_mem_nil⟩⟩⟩⟩⟩⟩⟩⟩⟩⟩⟩⟩⟩⟩⟩⟩
theorem lw_p16 : lw_okq (⟨"DoorVotes$Town", "begin", "(II)V"⟩, 16) := ⟨⟨by decide +kernel, by decide +kernel⟩, List.mem_of_getElem? (i := 99) (by decide +kernel), List.mem_of_getElem? (i := 416) (by decide +kernel), List.mem_of_getElem? (i := 417) (by decide +kernel)⟩
theorem lw_p17 : lw_okq (⟨"DoorVotes$Reader", "readDoors", "(LDoorVotes$Town;)Z"⟩, 6) := ⟨⟨by decide +kernel, by decide +kernel⟩, List.mem_of_getElem? (i := 26) (by decide +kernel), List.mem_of_getElem? (i := 420) (by decide +kernel), List.mem_of_getElem? (i := 421) (by decide +kernel)⟩
theorem lw_p18 : lw_okq (⟨"DoorVotes$Town", "addDoor", "(II)V"⟩, 16) := ⟨⟨by decide +kernel, by decide +kernel⟩, List.mem_of_getElem? (i := 99) (by decide +kernel), List.mem_of_getElem? (i := 424) (by decide +kernel), List.mem_of_getElem? (i := 425) (by decide +kernel)⟩
theorem lw_p19 : lw_okq (⟨"DoorVotes$Reader", "readPeople", "(LDoorVotes$Town;)Z"⟩, 6) := ⟨⟨by decide +kernel, by decide +kernel⟩, List.mem_of_getElem? (i := 26) (by decide +kernel), List.mem_of_getElem? (i := 432) (by decide +kernel), List.mem_of_getElem? (i := 433) (by decide +kernel)⟩
theorem lw_p20 : lw_okq (⟨"DoorVotes$Town", "addPerson", "(III)V"⟩, 16) := ⟨⟨by decide +kernel, by decide +kernel⟩, List.mem_of_getElem? (i := 99) (by decide +kernel), List.mem_of_getElem? (i := 439) (by decide +kernel), List.mem_of_getElem? (i := 440) (by decide +kernel)⟩
theorem lw_p21 : lw_okq (⟨"DoorVotes$Reader", "readTies", "(LDoorVotes$Town;)Z"⟩, 6) := ⟨⟨by decide +kernel, by decide +kernel⟩, List.mem_of_getElem? (i := 26) (by decide +kernel), List.mem_of_getElem? (i := 443) (by decide +kernel), List.mem_of_getElem? (i := 444) (by decide +kernel)⟩
theorem lw_p22 : lw_okq (⟨"DoorVotes$Town", "tiedTo", "(I)I"⟩, 16) := ⟨⟨by decide +kernel, by decide +kernel⟩, List.mem_of_getElem? (i := 99) (by decide +kernel), List.mem_of_getElem? (i := 447) (by decide +kernel), List.mem_of_getElem? (i := 448) (by decide +kernel)⟩
theorem lw_p23 : lw_okq (⟨"DoorVotes$Town", "addTie", "([III)V"⟩, 16) := ⟨⟨by decide +kernel, by decide +kernel⟩, List.mem_of_getElem? (i := 99) (by decide +kernel), List.mem_of_getElem? (i := 451) (by decide +kernel), List.mem_of_getElem? (i := 452) (by decide +kernel)⟩
theorem lw_p24 : lw_okq (⟨"DoorVotes$Town", "become", "(LDoorVotes$Town;)V"⟩, 16) := ⟨⟨by decide +kernel, by decide +kernel⟩, List.mem_of_getElem? (i := 99) (by decide +kernel), List.mem_of_getElem? (i := 456) (by decide +kernel), List.mem_of_getElem? (i := 457) (by decide +kernel)⟩
theorem lw_p25 : lw_okq (⟨"DoorVotes$Acts", "forget", "()V"⟩, 7) := ⟨⟨by decide +kernel, by decide +kernel⟩, List.mem_of_getElem? (i := 55) (by decide +kernel), List.mem_of_getElem? (i := 461) (by decide +kernel), List.mem_of_getElem? (i := 462) (by decide +kernel)⟩
theorem lw_p26 : lw_okq (⟨"DoorVotes$Acts", "takeBack", "(LDoorVotes$Town;)V"⟩, 7) := ⟨⟨by decide +kernel, by decide +kernel⟩, List.mem_of_getElem? (i := 55) (by decide +kernel), List.mem_of_getElem? (i := 474) (by decide +kernel), List.mem_of_getElem? (i := 475) (by decide +kernel)⟩
theorem lw_p27 : lw_okq (⟨"DoorVotes$Acts", "stepBack", "(LDoorVotes$Town;II)V"⟩, 7) := ⟨⟨by decide +kernel, by decide +kernel⟩, List.mem_of_getElem? (i := 55) (by decide +kernel), List.mem_of_getElem? (i := 478) (by decide +kernel), List.mem_of_getElem? (i := 479) (by decide +kernel)⟩
theorem lw_p28 : lw_okq (⟨"DoorVotes$Town", "cross", "(II)V"⟩, 16) := ⟨⟨by decide +kernel, by decide +kernel⟩, List.mem_of_getElem? (i := 99) (by decide +kernel), List.mem_of_getElem? (i := 483) (by decide +kernel), List.mem_of_getElem? (i := 484) (by decide +kernel)⟩
theorem lw_p29 : lw_okq (⟨"DoorVotes", "isPerson", "(I)Z"⟩, 12) := ⟨⟨by decide +kernel, by decide +kernel⟩, List.mem_of_getElem? (i := 16) (by decide +kernel), List.mem_of_getElem? (i := 491) (by decide +kernel), List.mem_of_getElem? (i := 492) (by decide +kernel)⟩
theorem lw_p30 : lw_okq (⟨"DoorVotes", "isDoor", "(I)Z"⟩, 12) := ⟨⟨by decide +kernel, by decide +kernel⟩, List.mem_of_getElem? (i := 16) (by decide +kernel), List.mem_of_getElem? (i := 495) (by decide +kernel), List.mem_of_getElem? (i := 496) (by decide +kernel)⟩
theorem lw_p31 : lw_okq (⟨"DoorVotes$Town", "isAtDoor", "(II)Z"⟩, 16) := ⟨⟨by decide +kernel, by decide +kernel⟩, List.mem_of_getElem? (i := 99) (by decide +kernel), List.mem_of_getElem? (i := 499) (by decide +kernel), List.mem_of_getElem? (i := 500) (by decide +kernel)⟩
def lw_privs_2 : List (MethodName × Nat) := [(⟨"DoorVotes$Town", "begin", "(II)V"⟩, 16), (⟨"DoorVotes$Reader", "readDoors", "(LDoorVotes$Town;)Z"⟩, 6), (⟨"DoorVotes$Town", "addDoor", "(II)V"⟩, 16), (⟨"DoorVotes$Reader", "readPeople", "(LDoorVotes$Town;)Z"⟩, 6), (⟨"DoorVotes$Town", "addPerson", "(III)V"⟩, 16), (⟨"DoorVotes$Reader", "readTies", "(LDoorVotes$Town;)Z"⟩, 6), (⟨"DoorVotes$Town", "tiedTo", "(I)I"⟩, 16), (⟨"DoorVotes$Town", "addTie", "([III)V"⟩, 16), (⟨"DoorVotes$Town", "become", "(LDoorVotes$Town;)V"⟩, 16), (⟨"DoorVotes$Acts", "forget", "()V"⟩, 7), (⟨"DoorVotes$Acts", "takeBack", "(LDoorVotes$Town;)V"⟩, 7), (⟨"DoorVotes$Acts", "stepBack", "(LDoorVotes$Town;II)V"⟩, 7), (⟨"DoorVotes$Town", "cross", "(II)V"⟩, 16), (⟨"DoorVotes", "isPerson", "(I)Z"⟩, 12), (⟨"DoorVotes", "isDoor", "(I)Z"⟩, 12), (⟨"DoorVotes$Town", "isAtDoor", "(II)Z"⟩, 16)]
theorem lw_r2 : ∀ q ∈ lw_privs_2, lw_okq q := List.forall_mem_cons.mpr ⟨lw_p16, List.forall_mem_cons.mpr ⟨lw_p17, List.forall_mem_cons.mpr ⟨lw_p18, List.forall_mem_cons.mpr ⟨lw_p19, List.forall_mem_cons.mpr ⟨lw_p20, List.forall_mem_cons.mpr ⟨lw_p21, List.forall_mem_cons.mpr ⟨lw_p22, List.forall_mem_cons.mpr ⟨lw_p23, List.forall_mem_cons.mpr ⟨lw_p24, List.forall_mem_cons.mpr ⟨lw_p25, List.forall_mem_cons.mpr ⟨lw_p26, List.forall_mem_cons.mpr ⟨lw_p27, List.forall_mem_cons.mpr ⟨lw_p28, List.forall_mem_cons.mpr ⟨lw_p29, List.forall_mem_cons.mpr ⟨lw_p30, List.forall_mem_cons.mpr ⟨lw_p31, fun _ h => absurd h List.not_mem_nil⟩⟩⟩⟩⟩⟩⟩⟩⟩⟩⟩⟩⟩⟩⟩⟩
theorem lw_p32 : lw_okq (⟨"DoorVotes", "opens", "(LDoorVotes$Town;II)Z"⟩, 12) := ⟨⟨by decide +kernel, by decide +kernel⟩, List.mem_of_getElem? (i := 16) (by decide +kernel), List.mem_of_getElem? (i := 503) (by decide +kernel), List.mem_of_getElem? (i := 504) (by decide +kernel)⟩
theorem lw_p33 : lw_okq (⟨"DoorVotes$Ballot", "hold", "(LDoorVotes$Town;II)V"⟩, 3) := ⟨⟨by decide +kernel, by decide +kernel⟩, List.mem_of_getElem? (i := 188) (by decide +kernel), List.mem_of_getElem? (i := 507) (by decide +kernel), List.mem_of_getElem? (i := 508) (by decide +kernel)⟩
theorem lw_p34 : lw_okq (⟨"DoorVotes$Town", "weightOf", "(II)I"⟩, 16) := ⟨⟨by decide +kernel, by decide +kernel⟩, List.mem_of_getElem? (i := 99) (by decide +kernel), List.mem_of_getElem? (i := 511) (by decide +kernel), List.mem_of_getElem? (i := 512) (by decide +kernel)⟩
theorem lw_p35 : lw_okq (⟨"DoorVotes$Town", "freshIn", "(I)I"⟩, 16) := ⟨⟨by decide +kernel, by decide +kernel⟩, List.mem_of_getElem? (i := 99) (by decide +kernel), List.mem_of_getElem? (i := 515) (by decide +kernel), List.mem_of_getElem? (i := 516) (by decide +kernel)⟩
theorem lw_p36 : lw_okq (⟨"DoorVotes$Town", "favourOf", "(II)I"⟩, 16) := ⟨⟨by decide +kernel, by decide +kernel⟩, List.mem_of_getElem? (i := 99) (by decide +kernel), List.mem_of_getElem? (i := 519) (by decide +kernel), List.mem_of_getElem? (i := 520) (by decide +kernel)⟩
theorem lw_p37 : lw_okq (⟨"DoorVotes$Town", "leaningOf", "(II)I"⟩, 16) := ⟨⟨by decide +kernel, by decide +kernel⟩, List.mem_of_getElem? (i := 99) (by decide +kernel), List.mem_of_getElem? (i := 523) (by decide +kernel), List.mem_of_getElem? (i := 524) (by decide +kernel)⟩
theorem lw_p38 : lw_okq (⟨"DoorVotes$Ballot", "opens", "()Z"⟩, 3) := ⟨⟨by decide +kernel, by decide +kernel⟩, List.mem_of_getElem? (i := 188) (by decide +kernel), List.mem_of_getElem? (i := 533) (by decide +kernel), List.mem_of_getElem? (i := 534) (by decide +kernel)⟩
theorem lw_p39 : lw_okq (⟨"DoorVotes$Ballot", "opensAwake", "(I)Z"⟩, 3) := ⟨⟨by decide +kernel, by decide +kernel⟩, List.mem_of_getElem? (i := 188) (by decide +kernel), List.mem_of_getElem? (i := 537) (by decide +kernel), List.mem_of_getElem? (i := 538) (by decide +kernel)⟩
theorem lw_p40 : lw_okq (⟨"DoorVotes$Acts", "keep", "(III)V"⟩, 7) := ⟨⟨by decide +kernel, by decide +kernel⟩, List.mem_of_getElem? (i := 55) (by decide +kernel), List.mem_of_getElem? (i := 541) (by decide +kernel), List.mem_of_getElem? (i := 542) (by decide +kernel)⟩
theorem lw_p41 : lw_okq (⟨"DoorVotes$Acts", "remember", "(LDoorVotes$Town;II)V"⟩, 7) := ⟨⟨by decide +kernel, by decide +kernel⟩, List.mem_of_getElem? (i := 55) (by decide +kernel), List.mem_of_getElem? (i := 548) (by decide +kernel), List.mem_of_getElem? (i := 549) (by decide +kernel)⟩
theorem lw_p42 : lw_okq (⟨"DoorVotes$Town", "pass", "(II)V"⟩, 16) := ⟨⟨by decide +kernel, by decide +kernel⟩, List.mem_of_getElem? (i := 99) (by decide +kernel), List.mem_of_getElem? (i := 552) (by decide +kernel), List.mem_of_getElem? (i := 553) (by decide +kernel)⟩
theorem lw_p43 : lw_okq (⟨"DoorVotes$Town", "mark", "(II)V"⟩, 16) := ⟨⟨by decide +kernel, by decide +kernel⟩, List.mem_of_getElem? (i := 99) (by decide +kernel), List.mem_of_getElem? (i := 556) (by decide +kernel), List.mem_of_getElem? (i := 557) (by decide +kernel)⟩
theorem lw_p44 : lw_okq (⟨"DoorVotes", "isTown", "()Z"⟩, 12) := ⟨⟨by decide +kernel, by decide +kernel⟩, List.mem_of_getElem? (i := 16) (by decide +kernel), List.mem_of_getElem? (i := 566) (by decide +kernel), List.mem_of_getElem? (i := 567) (by decide +kernel)⟩
theorem lw_p45 : lw_okq (⟨"DoorVotes", "isRoom", "(I)Z"⟩, 12) := ⟨⟨by decide +kernel, by decide +kernel⟩, List.mem_of_getElem? (i := 16) (by decide +kernel), List.mem_of_getElem? (i := 578) (by decide +kernel), List.mem_of_getElem? (i := 579) (by decide +kernel)⟩
theorem lw_p46 : lw_okq (⟨"DoorVotes$Town", "timesOf", "(I)I"⟩, 16) := ⟨⟨by decide +kernel, by decide +kernel⟩, List.mem_of_getElem? (i := 99) (by decide +kernel), List.mem_of_getElem? (i := 587) (by decide +kernel), List.mem_of_getElem? (i := 588) (by decide +kernel)⟩
theorem lw_p47 : lw_okq (⟨"DoorVotes$Town", "passedThrough", "(I)I"⟩, 16) := ⟨⟨by decide +kernel, by decide +kernel⟩, List.mem_of_getElem? (i := 99) (by decide +kernel), List.mem_of_getElem? (i := 595) (by decide +kernel), List.mem_of_getElem? (i := 596) (by decide +kernel)⟩
def lw_privs_3 : List (MethodName × Nat) := [(⟨"DoorVotes", "opens", "(LDoorVotes$Town;II)Z"⟩, 12), (⟨"DoorVotes$Ballot", "hold", "(LDoorVotes$Town;II)V"⟩, 3), (⟨"DoorVotes$Town", "weightOf", "(II)I"⟩, 16), (⟨"DoorVotes$Town", "freshIn", "(I)I"⟩, 16), (⟨"DoorVotes$Town", "favourOf", "(II)I"⟩, 16), (⟨"DoorVotes$Town", "leaningOf", "(II)I"⟩, 16), (⟨"DoorVotes$Ballot", "opens", "()Z"⟩, 3), (⟨"DoorVotes$Ballot", "opensAwake", "(I)Z"⟩, 3), (⟨"DoorVotes$Acts", "keep", "(III)V"⟩, 7), (⟨"DoorVotes$Acts", "remember", "(LDoorVotes$Town;II)V"⟩, 7), (⟨"DoorVotes$Town", "pass", "(II)V"⟩, 16), (⟨"DoorVotes$Town", "mark", "(II)V"⟩, 16), (⟨"DoorVotes", "isTown", "()Z"⟩, 12), (⟨"DoorVotes", "isRoom", "(I)Z"⟩, 12), (⟨"DoorVotes$Town", "timesOf", "(I)I"⟩, 16), (⟨"DoorVotes$Town", "passedThrough", "(I)I"⟩, 16)]
theorem lw_r3 : ∀ q ∈ lw_privs_3, lw_okq q := List.forall_mem_cons.mpr ⟨lw_p32, List.forall_mem_cons.mpr ⟨lw_p33, List.forall_mem_cons.mpr ⟨lw_p34, List.forall_mem_cons.mpr ⟨lw_p35, List.forall_mem_cons.mpr ⟨lw_p36, List.forall_mem_cons.mpr ⟨lw_p37, List.forall_mem_cons.mpr ⟨lw_p38, List.forall_mem_cons.mpr ⟨lw_p39, List.forall_mem_cons.mpr ⟨lw_p40, List.forall_mem_cons.mpr ⟨lw_p41, List.forall_mem_cons.mpr ⟨lw_p42, List.forall_mem_cons.mpr ⟨lw_p43, List.forall_mem_cons.mpr ⟨lw_p44, List.forall_mem_cons.mpr ⟨lw_p45, List.forall_mem_cons.mpr ⟨lw_p46, List.forall_mem_cons.mpr ⟨lw_p47, fun _ h => absurd h List.not_mem_nil⟩⟩⟩⟩⟩⟩⟩⟩⟩⟩⟩⟩⟩⟩⟩⟩
theorem lw_p48 : lw_okq (⟨"DoorVotes", "votesAt", "(III)I"⟩, 12) := ⟨⟨by decide +kernel, by decide +kernel⟩, List.mem_of_getElem? (i := 16) (by decide +kernel), List.mem_of_getElem? (i := 606) (by decide +kernel), List.mem_of_getElem? (i := 607) (by decide +kernel)⟩
theorem lw_p49 : lw_okq (⟨"DoorVotes$Ballot", "weightsOf", "(I)I"⟩, 3) := ⟨⟨by decide +kernel, by decide +kernel⟩, List.mem_of_getElem? (i := 188) (by decide +kernel), List.mem_of_getElem? (i := 610) (by decide +kernel), List.mem_of_getElem? (i := 611) (by decide +kernel)⟩
theorem lw_p50 : lw_okq (⟨"DoorVotes$Ways", "take", "(LDoorVotes$Town;LDoorVotes$Ballot;I)V"⟩, 5) := ⟨⟨by decide +kernel, by decide +kernel⟩, List.mem_of_getElem? (i := 206) (by decide +kernel), List.mem_of_getElem? (i := 623) (by decide +kernel), List.mem_of_getElem? (i := 624) (by decide +kernel)⟩
theorem lw_p51 : lw_okq (⟨"DoorVotes$Ways", "add", "(III)V"⟩, 5) := ⟨⟨by decide +kernel, by decide +kernel⟩, List.mem_of_getElem? (i := 206) (by decide +kernel), List.mem_of_getElem? (i := 629) (by decide +kernel), List.mem_of_getElem? (i := 630) (by decide +kernel)⟩
theorem lw_p52 : lw_okq (⟨"DoorVotes$Ways", "measureFrom", "(I)V"⟩, 5) := ⟨⟨by decide +kernel, by decide +kernel⟩, List.mem_of_getElem? (i := 206) (by decide +kernel), List.mem_of_getElem? (i := 633) (by decide +kernel), List.mem_of_getElem? (i := 634) (by decide +kernel)⟩
theorem lw_p53 : lw_okq (⟨"DoorVotes$Ways", "spread", "(III)V"⟩, 5) := ⟨⟨by decide +kernel, by decide +kernel⟩, List.mem_of_getElem? (i := 206) (by decide +kernel), List.mem_of_getElem? (i := 639) (by decide +kernel), List.mem_of_getElem? (i := 640) (by decide +kernel)⟩
theorem lw_p54 : lw_okq (⟨"DoorVotes$Ways", "firstDoorFrom", "(I)I"⟩, 5) := ⟨⟨by decide +kernel, by decide +kernel⟩, List.mem_of_getElem? (i := 206) (by decide +kernel), List.mem_of_getElem? (i := 643) (by decide +kernel), List.mem_of_getElem? (i := 644) (by decide +kernel)⟩
theorem lw_p55 : lw_okq (⟨"DoorVotes", "roomsReached", "(I)I"⟩, 12) := ⟨⟨by decide +kernel, by decide +kernel⟩, List.mem_of_getElem? (i := 16) (by decide +kernel), List.mem_of_getElem? (i := 651) (by decide +kernel), List.mem_of_getElem? (i := 652) (by decide +kernel)⟩
theorem lw_p56 : lw_okq (⟨"DoorVotes$Ways", "roomsMeasured", "()I"⟩, 5) := ⟨⟨by decide +kernel, by decide +kernel⟩, List.mem_of_getElem? (i := 206) (by decide +kernel), List.mem_of_getElem? (i := 655) (by decide +kernel), List.mem_of_getElem? (i := 656) (by decide +kernel)⟩
theorem lw_p57 : lw_okq (⟨"DoorVotes$Sway", "gather", "(LDoorVotes$Town;LDoorVotes$Ballot;I)V"⟩, 6) := ⟨⟨by decide +kernel, by decide +kernel⟩, List.mem_of_getElem? (i := 229) (by decide +kernel), List.mem_of_getElem? (i := 667) (by decide +kernel), List.mem_of_getElem? (i := 668) (by decide +kernel)⟩
theorem lw_p58 : lw_okq (⟨"DoorVotes$Sway", "offer", "(IIII)V"⟩, 6) := ⟨⟨by decide +kernel, by decide +kernel⟩, List.mem_of_getElem? (i := 229) (by decide +kernel), List.mem_of_getElem? (i := 672) (by decide +kernel), List.mem_of_getElem? (i := 673) (by decide +kernel)⟩
theorem lw_p59 : lw_okq (⟨"DoorVotes$Sway", "seek", "(LDoorVotes$Ballot;)V"⟩, 6) := ⟨⟨by decide +kernel, by decide +kernel⟩, List.mem_of_getElem? (i := 229) (by decide +kernel), List.mem_of_getElem? (i := 676) (by decide +kernel), List.mem_of_getElem? (i := 677) (by decide +kernel)⟩
theorem lw_p60 : lw_okq (⟨"DoorVotes$Ballot", "margin", "()I"⟩, 3) := ⟨⟨by decide +kernel, by decide +kernel⟩, List.mem_of_getElem? (i := 188) (by decide +kernel), List.mem_of_getElem? (i := 682) (by decide +kernel), List.mem_of_getElem? (i := 683) (by decide +kernel)⟩
theorem lw_p61 : lw_okq (⟨"DoorVotes$Sway", "weigh", "(II)V"⟩, 6) := ⟨⟨by decide +kernel, by decide +kernel⟩, List.mem_of_getElem? (i := 229) (by decide +kernel), List.mem_of_getElem? (i := 687) (by decide +kernel), List.mem_of_getElem? (i := 688) (by decide +kernel)⟩
theorem lw_p62 : lw_okq (⟨"DoorVotes$Ballot", "opensBehind", "(ILDoorVotes$Town;I)Z"⟩, 3) := ⟨⟨by decide +kernel, by decide +kernel⟩, List.mem_of_getElem? (i := 188) (by decide +kernel), List.mem_of_getElem? (i := 703) (by decide +kernel), List.mem_of_getElem? (i := 704) (by decide +kernel)⟩
theorem lw_p63 : lw_okq (⟨"DoorVotes$Ways", "farWith", "(IIII)I"⟩, 5) := ⟨⟨by decide +kernel, by decide +kernel⟩, List.mem_of_getElem? (i := 206) (by decide +kernel), List.mem_of_getElem? (i := 711) (by decide +kernel), List.mem_of_getElem? (i := 712) (by decide +kernel)⟩
def lw_privs_4 : List (MethodName × Nat) := [(⟨"DoorVotes", "votesAt", "(III)I"⟩, 12), (⟨"DoorVotes$Ballot", "weightsOf", "(I)I"⟩, 3), (⟨"DoorVotes$Ways", "take", "(LDoorVotes$Town;LDoorVotes$Ballot;I)V"⟩, 5), (⟨"DoorVotes$Ways", "add", "(III)V"⟩, 5), (⟨"DoorVotes$Ways", "measureFrom", "(I)V"⟩, 5), (⟨"DoorVotes$Ways", "spread", "(III)V"⟩, 5), (⟨"DoorVotes$Ways", "firstDoorFrom", "(I)I"⟩, 5), (⟨"DoorVotes", "roomsReached", "(I)I"⟩, 12), (⟨"DoorVotes$Ways", "roomsMeasured", "()I"⟩, 5), (⟨"DoorVotes$Sway", "gather", "(LDoorVotes$Town;LDoorVotes$Ballot;I)V"⟩, 6), (⟨"DoorVotes$Sway", "offer", "(IIII)V"⟩, 6), (⟨"DoorVotes$Sway", "seek", "(LDoorVotes$Ballot;)V"⟩, 6), (⟨"DoorVotes$Ballot", "margin", "()I"⟩, 3), (⟨"DoorVotes$Sway", "weigh", "(II)V"⟩, 6), (⟨"DoorVotes$Ballot", "opensBehind", "(ILDoorVotes$Town;I)Z"⟩, 3), (⟨"DoorVotes$Ways", "farWith", "(IIII)I"⟩, 5)]
theorem lw_r4 : ∀ q ∈ lw_privs_4, lw_okq q := List.forall_mem_cons.mpr ⟨lw_p48, List.forall_mem_cons.mpr ⟨lw_p49, List.forall_mem_cons.mpr ⟨lw_p50, List.forall_mem_cons.mpr ⟨lw_p51, List.forall_mem_cons.mpr ⟨lw_p52, List.forall_mem_cons.mpr ⟨lw_p53, List.forall_mem_cons.mpr ⟨lw_p54, List.forall_mem_cons.mpr ⟨lw_p55, List.forall_mem_cons.mpr ⟨lw_p56, List.forall_mem_cons.mpr ⟨lw_p57, List.forall_mem_cons.mpr ⟨lw_p58, List.forall_mem_cons.mpr ⟨lw_p59, List.forall_mem_cons.mpr ⟨lw_p60, List.forall_mem_cons.mpr ⟨lw_p61, List.forall_mem_cons.mpr ⟨lw_p62, List.forall_mem_cons.mpr ⟨lw_p63, fun _ h => absurd h List.not_mem_nil⟩⟩⟩⟩⟩⟩⟩⟩⟩⟩⟩⟩⟩⟩⟩⟩
theorem lw_p64 : lw_okq (⟨"DoorVotes", "isSeen", "(IIII)Z"⟩, 12) := ⟨⟨by decide +kernel, by decide +kernel⟩, List.mem_of_getElem? (i := 16) (by decide +kernel), List.mem_of_getElem? (i := 720) (by decide +kernel), List.mem_of_getElem? (i := 721) (by decide +kernel)⟩
theorem lw_p65 : lw_okq (⟨"DoorVotes", "isSo", "(ILDoorVotes$Row;II)Z"⟩, 12) := ⟨⟨by decide +kernel, by decide +kernel⟩, List.mem_of_getElem? (i := 16) (by decide +kernel), List.mem_of_getElem? (i := 724) (by decide +kernel), List.mem_of_getElem? (i := 725) (by decide +kernel)⟩
theorem lw_p66 : lw_okq (⟨"DoorVotes$Town", "roomsAdded", "()I"⟩, 16) := ⟨⟨by decide +kernel, by decide +kernel⟩, List.mem_of_getElem? (i := 99) (by decide +kernel), List.mem_of_getElem? (i := 753) (by decide +kernel), List.mem_of_getElem? (i := 754) (by decide +kernel)⟩
theorem lw_p67 : lw_okq (⟨"DoorVotes$Asker", "answer", "(LDoorVotes$Town;III)I"⟩, 2) := ⟨⟨by decide +kernel, by decide +kernel⟩, List.mem_of_getElem? (i := 84) (by decide +kernel), List.mem_of_getElem? (i := 782) (by decide +kernel), List.mem_of_getElem? (i := 783) (by decide +kernel)⟩
theorem lw_p68 : lw_okq (⟨"DoorVotes$Asker", "give", "(LDoorVotes$Town;III)I"⟩, 2) := ⟨⟨by decide +kernel, by decide +kernel⟩, List.mem_of_getElem? (i := 84) (by decide +kernel), List.mem_of_getElem? (i := 792) (by decide +kernel), List.mem_of_getElem? (i := 793) (by decide +kernel)⟩
theorem lw_p69 : lw_okq (⟨"DoorVotes$Asker", "leave", "(I)V"⟩, 2) := ⟨⟨by decide +kernel, by decide +kernel⟩, List.mem_of_getElem? (i := 84) (by decide +kernel), List.mem_of_getElem? (i := 796) (by decide +kernel), List.mem_of_getElem? (i := 797) (by decide +kernel)⟩
theorem lw_p70 : lw_okq (⟨"DoorVotes", "rowsThere", "()I"⟩, 12) := ⟨⟨by decide +kernel, by decide +kernel⟩, List.mem_of_getElem? (i := 16) (by decide +kernel), List.mem_of_getElem? (i := 811) (by decide +kernel), List.mem_of_getElem? (i := 812) (by decide +kernel)⟩
theorem lw_p71 : lw_okq (⟨"DoorVotes$Town", "allTimes", "()I"⟩, 16) := ⟨⟨by decide +kernel, by decide +kernel⟩, List.mem_of_getElem? (i := 99) (by decide +kernel), List.mem_of_getElem? (i := 815) (by decide +kernel), List.mem_of_getElem? (i := 816) (by decide +kernel)⟩
theorem lw_p72 : lw_okq (⟨"DoorVotesModel", "find", "(I)I"⟩, 21) := ⟨⟨by decide +kernel, by decide +kernel⟩, List.mem_of_getElem? (i := 824) (by decide +kernel), List.mem_of_getElem? (i := 908) (by decide +kernel), List.mem_of_getElem? (i := 909) (by decide +kernel)⟩
theorem lw_p73 : lw_okq (⟨"DoorVotesModel", "well", "(I)I"⟩, 21) := ⟨⟨by decide +kernel, by decide +kernel⟩, List.mem_of_getElem? (i := 824) (by decide +kernel), List.mem_of_getElem? (i := 913) (by decide +kernel), List.mem_of_getElem? (i := 914) (by decide +kernel)⟩
theorem lw_p74 : lw_okq (⟨"DoorVotesModel", "isSpan", "(III)Z"⟩, 21) := ⟨⟨by decide +kernel, by decide +kernel⟩, List.mem_of_getElem? (i := 824) (by decide +kernel), List.mem_of_getElem? (i := 928) (by decide +kernel), List.mem_of_getElem? (i := 929) (by decide +kernel)⟩
theorem lw_p75 : lw_okq (⟨"DoorVotesModel", "reads", "()Z"⟩, 21) := ⟨⟨by decide +kernel, by decide +kernel⟩, List.mem_of_getElem? (i := 824) (by decide +kernel), List.mem_of_getElem? (i := 946) (by decide +kernel), List.mem_of_getElem? (i := 947) (by decide +kernel)⟩
theorem lw_p76 : lw_okq (⟨"DoorVotesModel", "readsLaw", "()Z"⟩, 21) := ⟨⟨by decide +kernel, by decide +kernel⟩, List.mem_of_getElem? (i := 824) (by decide +kernel), List.mem_of_getElem? (i := 951) (by decide +kernel), List.mem_of_getElem? (i := 952) (by decide +kernel)⟩
theorem lw_p77 : lw_okq (⟨"DoorVotesModel", "sign", "(I)Z"⟩, 21) := ⟨⟨by decide +kernel, by decide +kernel⟩, List.mem_of_getElem? (i := 824) (by decide +kernel), List.mem_of_getElem? (i := 955) (by decide +kernel), List.mem_of_getElem? (i := 956) (by decide +kernel)⟩
theorem lw_p78 : lw_okq (⟨"DoorVotesModel", "isLetter", "(I)Z"⟩, 21) := ⟨⟨by decide +kernel, by decide +kernel⟩, List.mem_of_getElem? (i := 824) (by decide +kernel), List.mem_of_getElem? (i := 959) (by decide +kernel), List.mem_of_getElem? (i := 960) (by decide +kernel)⟩
theorem lw_p79 : lw_okq (⟨"DoorVotesModel", "refuse", "(I)Z"⟩, 21) := ⟨⟨by decide +kernel, by decide +kernel⟩, List.mem_of_getElem? (i := 824) (by decide +kernel), List.mem_of_getElem? (i := 963) (by decide +kernel), List.mem_of_getElem? (i := 964) (by decide +kernel)⟩
def lw_privs_5 : List (MethodName × Nat) := [(⟨"DoorVotes", "isSeen", "(IIII)Z"⟩, 12), (⟨"DoorVotes", "isSo", "(ILDoorVotes$Row;II)Z"⟩, 12), (⟨"DoorVotes$Town", "roomsAdded", "()I"⟩, 16), (⟨"DoorVotes$Asker", "answer", "(LDoorVotes$Town;III)I"⟩, 2), (⟨"DoorVotes$Asker", "give", "(LDoorVotes$Town;III)I"⟩, 2), (⟨"DoorVotes$Asker", "leave", "(I)V"⟩, 2), (⟨"DoorVotes", "rowsThere", "()I"⟩, 12), (⟨"DoorVotes$Town", "allTimes", "()I"⟩, 16), (⟨"DoorVotesModel", "find", "(I)I"⟩, 21), (⟨"DoorVotesModel", "well", "(I)I"⟩, 21), (⟨"DoorVotesModel", "isSpan", "(III)Z"⟩, 21), (⟨"DoorVotesModel", "reads", "()Z"⟩, 21), (⟨"DoorVotesModel", "readsLaw", "()Z"⟩, 21), (⟨"DoorVotesModel", "sign", "(I)Z"⟩, 21), (⟨"DoorVotesModel", "isLetter", "(I)Z"⟩, 21), (⟨"DoorVotesModel", "refuse", "(I)Z"⟩, 21)]
theorem lw_r5 : ∀ q ∈ lw_privs_5, lw_okq q := List.forall_mem_cons.mpr ⟨lw_p64, List.forall_mem_cons.mpr ⟨lw_p65, List.forall_mem_cons.mpr ⟨lw_p66, List.forall_mem_cons.mpr ⟨lw_p67, List.forall_mem_cons.mpr ⟨lw_p68, List.forall_mem_cons.mpr ⟨lw_p69, List.forall_mem_cons.mpr ⟨lw_p70, List.forall_mem_cons.mpr ⟨lw_p71, List.forall_mem_cons.mpr ⟨lw_p72, List.forall_mem_cons.mpr ⟨lw_p73, List.forall_mem_cons.mpr ⟨lw_p74, List.forall_mem_cons.mpr ⟨lw_p75, List.forall_mem_cons.mpr ⟨lw_p76, List.forall_mem_cons.mpr ⟨lw_p77, List.forall_mem_cons.mpr ⟨lw_p78, List.forall_mem_cons.mpr ⟨lw_p79, fun _ h => absurd h List.not_mem_nil⟩⟩⟩⟩⟩⟩⟩⟩⟩⟩⟩⟩⟩⟩⟩⟩
theorem lw_p80 : lw_okq (⟨"DoorVotesModel", "readsNumber", "(II)Z"⟩, 21) := ⟨⟨by decide +kernel, by decide +kernel⟩, List.mem_of_getElem? (i := 824) (by decide +kernel), List.mem_of_getElem? (i := 967) (by decide +kernel), List.mem_of_getElem? (i := 968) (by decide +kernel)⟩
theorem lw_p81 : lw_okq (⟨"DoorVotesModel", "isFigure", "(I)Z"⟩, 21) := ⟨⟨by decide +kernel, by decide +kernel⟩, List.mem_of_getElem? (i := 824) (by decide +kernel), List.mem_of_getElem? (i := 971) (by decide +kernel), List.mem_of_getElem? (i := 972) (by decide +kernel)⟩
theorem lw_p82 : lw_okq (⟨"DoorVotesModel", "readsDoor", "()Z"⟩, 21) := ⟨⟨by decide +kernel, by decide +kernel⟩, List.mem_of_getElem? (i := 824) (by decide +kernel), List.mem_of_getElem? (i := 977) (by decide +kernel), List.mem_of_getElem? (i := 978) (by decide +kernel)⟩
theorem lw_p83 : lw_okq (⟨"DoorVotesModel", "readsPerson", "()Z"⟩, 21) := ⟨⟨by decide +kernel, by decide +kernel⟩, List.mem_of_getElem? (i := 824) (by decide +kernel), List.mem_of_getElem? (i := 984) (by decide +kernel), List.mem_of_getElem? (i := 985) (by decide +kernel)⟩
theorem lw_p84 : lw_okq (⟨"DoorVotesModel", "readsTie", "()Z"⟩, 21) := ⟨⟨by decide +kernel, by decide +kernel⟩, List.mem_of_getElem? (i := 824) (by decide +kernel), List.mem_of_getElem? (i := 988) (by decide +kernel), List.mem_of_getElem? (i := 989) (by decide +kernel)⟩
theorem lw_p85 : lw_okq (⟨"DoorVotesModel", "copyTown", "(II)V"⟩, 21) := ⟨⟨by decide +kernel, by decide +kernel⟩, List.mem_of_getElem? (i := 824) (by decide +kernel), List.mem_of_getElem? (i := 996) (by decide +kernel), List.mem_of_getElem? (i := 997) (by decide +kernel)⟩
theorem lw_p86 : lw_okq (⟨"DoorVotesModel", "isPerson", "(I)Z"⟩, 21) := ⟨⟨by decide +kernel, by decide +kernel⟩, List.mem_of_getElem? (i := 824) (by decide +kernel), List.mem_of_getElem? (i := 1013) (by decide +kernel), List.mem_of_getElem? (i := 1014) (by decide +kernel)⟩
theorem lw_p87 : lw_okq (⟨"DoorVotesModel", "isDoor", "(I)Z"⟩, 21) := ⟨⟨by decide +kernel, by decide +kernel⟩, List.mem_of_getElem? (i := 824) (by decide +kernel), List.mem_of_getElem? (i := 1017) (by decide +kernel), List.mem_of_getElem? (i := 1018) (by decide +kernel)⟩
theorem lw_p88 : lw_okq (⟨"DoorVotesModel", "behind", "(III)I"⟩, 21) := ⟨⟨by decide +kernel, by decide +kernel⟩, List.mem_of_getElem? (i := 824) (by decide +kernel), List.mem_of_getElem? (i := 1021) (by decide +kernel), List.mem_of_getElem? (i := 1022) (by decide +kernel)⟩
theorem lw_p89 : lw_okq (⟨"DoorVotesModel", "endOf", "(III)I"⟩, 21) := ⟨⟨by decide +kernel, by decide +kernel⟩, List.mem_of_getElem? (i := 824) (by decide +kernel), List.mem_of_getElem? (i := 1025) (by decide +kernel), List.mem_of_getElem? (i := 1026) (by decide +kernel)⟩
theorem lw_p90 : lw_okq (⟨"DoorVotesModel", "keepPast", "()V"⟩, 21) := ⟨⟨by decide +kernel, by decide +kernel⟩, List.mem_of_getElem? (i := 824) (by decide +kernel), List.mem_of_getElem? (i := 1029) (by decide +kernel), List.mem_of_getElem? (i := 1030) (by decide +kernel)⟩
theorem lw_p91 : lw_okq (⟨"DoorVotesModel", "knocks", "(III)Z"⟩, 21) := ⟨⟨by decide +kernel, by decide +kernel⟩, List.mem_of_getElem? (i := 824) (by decide +kernel), List.mem_of_getElem? (i := 1033) (by decide +kernel), List.mem_of_getElem? (i := 1034) (by decide +kernel)⟩
theorem lw_p92 : lw_okq (⟨"DoorVotesModel", "opens", "(III)Z"⟩, 21) := ⟨⟨by decide +kernel, by decide +kernel⟩, List.mem_of_getElem? (i := 824) (by decide +kernel), List.mem_of_getElem? (i := 1037) (by decide +kernel), List.mem_of_getElem? (i := 1038) (by decide +kernel)⟩
theorem lw_p93 : lw_okq (⟨"DoorVotesModel", "weights", "(IIII)I"⟩, 21) := ⟨⟨by decide +kernel, by decide +kernel⟩, List.mem_of_getElem? (i := 824) (by decide +kernel), List.mem_of_getElem? (i := 1041) (by decide +kernel), List.mem_of_getElem? (i := 1042) (by decide +kernel)⟩
theorem lw_p94 : lw_okq (⟨"DoorVotesModel", "favourOf", "(III)I"⟩, 21) := ⟨⟨by decide +kernel, by decide +kernel⟩, List.mem_of_getElem? (i := 824) (by decide +kernel), List.mem_of_getElem? (i := 1045) (by decide +kernel), List.mem_of_getElem? (i := 1046) (by decide +kernel)⟩
theorem lw_p95 : lw_okq (⟨"DoorVotesModel", "plainFavour", "(III)I"⟩, 21) := ⟨⟨by decide +kernel, by decide +kernel⟩, List.mem_of_getElem? (i := 824) (by decide +kernel), List.mem_of_getElem? (i := 1049) (by decide +kernel), List.mem_of_getElem? (i := 1050) (by decide +kernel)⟩
def lw_privs_6 : List (MethodName × Nat) := [(⟨"DoorVotesModel", "readsNumber", "(II)Z"⟩, 21), (⟨"DoorVotesModel", "isFigure", "(I)Z"⟩, 21), (⟨"DoorVotesModel", "readsDoor", "()Z"⟩, 21), (⟨"DoorVotesModel", "readsPerson", "()Z"⟩, 21), (⟨"DoorVotesModel", "readsTie", "()Z"⟩, 21), (⟨"DoorVotesModel", "copyTown", "(II)V"⟩, 21), (⟨"DoorVotesModel", "isPerson", "(I)Z"⟩, 21), (⟨"DoorVotesModel", "isDoor", "(I)Z"⟩, 21), (⟨"DoorVotesModel", "behind", "(III)I"⟩, 21), (⟨"DoorVotesModel", "endOf", "(III)I"⟩, 21), (⟨"DoorVotesModel", "keepPast", "()V"⟩, 21), (⟨"DoorVotesModel", "knocks", "(III)Z"⟩, 21), (⟨"DoorVotesModel", "opens", "(III)Z"⟩, 21), (⟨"DoorVotesModel", "weights", "(IIII)I"⟩, 21), (⟨"DoorVotesModel", "favourOf", "(III)I"⟩, 21), (⟨"DoorVotesModel", "plainFavour", "(III)I"⟩, 21)]
theorem lw_r6 : ∀ q ∈ lw_privs_6, lw_okq q := List.forall_mem_cons.mpr ⟨lw_p80, List.forall_mem_cons.mpr ⟨lw_p81, List.forall_mem_cons.mpr ⟨lw_p82, List.forall_mem_cons.mpr ⟨lw_p83, List.forall_mem_cons.mpr ⟨lw_p84, List.forall_mem_cons.mpr ⟨lw_p85, List.forall_mem_cons.mpr ⟨lw_p86, List.forall_mem_cons.mpr ⟨lw_p87, List.forall_mem_cons.mpr ⟨lw_p88, List.forall_mem_cons.mpr ⟨lw_p89, List.forall_mem_cons.mpr ⟨lw_p90, List.forall_mem_cons.mpr ⟨lw_p91, List.forall_mem_cons.mpr ⟨lw_p92, List.forall_mem_cons.mpr ⟨lw_p93, List.forall_mem_cons.mpr ⟨lw_p94, List.forall_mem_cons.mpr ⟨lw_p95, fun _ h => absurd h List.not_mem_nil⟩⟩⟩⟩⟩⟩⟩⟩⟩⟩⟩⟩⟩⟩⟩⟩
theorem lw_p96 : lw_okq (⟨"DoorVotesModel", "weightOf", "(III)I"⟩, 21) := ⟨⟨by decide +kernel, by decide +kernel⟩, List.mem_of_getElem? (i := 824) (by decide +kernel), List.mem_of_getElem? (i := 1053) (by decide +kernel), List.mem_of_getElem? (i := 1054) (by decide +kernel)⟩
theorem lw_p97 : lw_okq (⟨"DoorVotesModel", "timesOf", "(III)I"⟩, 21) := ⟨⟨by decide +kernel, by decide +kernel⟩, List.mem_of_getElem? (i := 824) (by decide +kernel), List.mem_of_getElem? (i := 1057) (by decide +kernel), List.mem_of_getElem? (i := 1058) (by decide +kernel)⟩
theorem lw_p98 : lw_okq (⟨"DoorVotesModel", "freshOf", "(III)I"⟩, 21) := ⟨⟨by decide +kernel, by decide +kernel⟩, List.mem_of_getElem? (i := 824) (by decide +kernel), List.mem_of_getElem? (i := 1061) (by decide +kernel), List.mem_of_getElem? (i := 1062) (by decide +kernel)⟩
theorem lw_p99 : lw_okq (⟨"DoorVotesModel", "goThrough", "(III)V"⟩, 21) := ⟨⟨by decide +kernel, by decide +kernel⟩, List.mem_of_getElem? (i := 824) (by decide +kernel), List.mem_of_getElem? (i := 1065) (by decide +kernel), List.mem_of_getElem? (i := 1066) (by decide +kernel)⟩
theorem lw_p100 : lw_okq (⟨"DoorVotesModel", "isRoom", "(I)Z"⟩, 21) := ⟨⟨by decide +kernel, by decide +kernel⟩, List.mem_of_getElem? (i := 824) (by decide +kernel), List.mem_of_getElem? (i := 1084) (by decide +kernel), List.mem_of_getElem? (i := 1085) (by decide +kernel)⟩
theorem lw_p101 : lw_okq (⟨"DoorVotesModel", "allTimes", "(I)I"⟩, 21) := ⟨⟨by decide +kernel, by decide +kernel⟩, List.mem_of_getElem? (i := 824) (by decide +kernel), List.mem_of_getElem? (i := 1092) (by decide +kernel), List.mem_of_getElem? (i := 1093) (by decide +kernel)⟩
theorem lw_p102 : lw_okq (⟨"DoorVotesModel", "gone", "(I)I"⟩, 21) := ⟨⟨by decide +kernel, by decide +kernel⟩, List.mem_of_getElem? (i := 824) (by decide +kernel), List.mem_of_getElem? (i := 1100) (by decide +kernel), List.mem_of_getElem? (i := 1101) (by decide +kernel)⟩
theorem lw_p103 : lw_okq (⟨"DoorVotesModel", "layOpen", "(I)V"⟩, 21) := ⟨⟨by decide +kernel, by decide +kernel⟩, List.mem_of_getElem? (i := 824) (by decide +kernel), List.mem_of_getElem? (i := 1116) (by decide +kernel), List.mem_of_getElem? (i := 1117) (by decide +kernel)⟩
theorem lw_p104 : lw_okq (⟨"DoorVotesModel", "farFrom", "(II)I"⟩, 21) := ⟨⟨by decide +kernel, by decide +kernel⟩, List.mem_of_getElem? (i := 824) (by decide +kernel), List.mem_of_getElem? (i := 1120) (by decide +kernel), List.mem_of_getElem? (i := 1121) (by decide +kernel)⟩
theorem lw_p105 : lw_okq (⟨"DoorVotesModel", "further", "(I)I"⟩, 21) := ⟨⟨by decide +kernel, by decide +kernel⟩, List.mem_of_getElem? (i := 824) (by decide +kernel), List.mem_of_getElem? (i := 1124) (by decide +kernel), List.mem_of_getElem? (i := 1125) (by decide +kernel)⟩
theorem lw_p106 : lw_okq (⟨"DoorVotesModel", "reachOf", "(I)I"⟩, 21) := ⟨⟨by decide +kernel, by decide +kernel⟩, List.mem_of_getElem? (i := 824) (by decide +kernel), List.mem_of_getElem? (i := 1132) (by decide +kernel), List.mem_of_getElem? (i := 1133) (by decide +kernel)⟩
theorem lw_p107 : lw_okq (⟨"DoorVotesModel", "pollOf", "(III)I"⟩, 21) := ⟨⟨by decide +kernel, by decide +kernel⟩, List.mem_of_getElem? (i := 824) (by decide +kernel), List.mem_of_getElem? (i := 1147) (by decide +kernel), List.mem_of_getElem? (i := 1148) (by decide +kernel)⟩
theorem lw_p108 : lw_okq (⟨"DoorVotesModel", "giftsFor", "(III)I"⟩, 21) := ⟨⟨by decide +kernel, by decide +kernel⟩, List.mem_of_getElem? (i := 824) (by decide +kernel), List.mem_of_getElem? (i := 1151) (by decide +kernel), List.mem_of_getElem? (i := 1152) (by decide +kernel)⟩
theorem lw_p109 : lw_okq (⟨"DoorVotesModel", "layTaken", "(II)V"⟩, 21) := ⟨⟨by decide +kernel, by decide +kernel⟩, List.mem_of_getElem? (i := 824) (by decide +kernel), List.mem_of_getElem? (i := 1155) (by decide +kernel), List.mem_of_getElem? (i := 1156) (by decide +kernel)⟩
theorem lw_p110 : lw_okq (⟨"DoorVotesModel", "isAsked", "(IIII)Z"⟩, 21) := ⟨⟨by decide +kernel, by decide +kernel⟩, List.mem_of_getElem? (i := 824) (by decide +kernel), List.mem_of_getElem? (i := 1171) (by decide +kernel), List.mem_of_getElem? (i := 1172) (by decide +kernel)⟩
theorem lw_p111 : lw_okq (⟨"DoorVotesModel", "noItems", "(III)I"⟩, 21) := ⟨⟨by decide +kernel, by decide +kernel⟩, List.mem_of_getElem? (i := 824) (by decide +kernel), List.mem_of_getElem? (i := 1175) (by decide +kernel), List.mem_of_getElem? (i := 1176) (by decide +kernel)⟩
def lw_privs_7 : List (MethodName × Nat) := [(⟨"DoorVotesModel", "weightOf", "(III)I"⟩, 21), (⟨"DoorVotesModel", "timesOf", "(III)I"⟩, 21), (⟨"DoorVotesModel", "freshOf", "(III)I"⟩, 21), (⟨"DoorVotesModel", "goThrough", "(III)V"⟩, 21), (⟨"DoorVotesModel", "isRoom", "(I)Z"⟩, 21), (⟨"DoorVotesModel", "allTimes", "(I)I"⟩, 21), (⟨"DoorVotesModel", "gone", "(I)I"⟩, 21), (⟨"DoorVotesModel", "layOpen", "(I)V"⟩, 21), (⟨"DoorVotesModel", "farFrom", "(II)I"⟩, 21), (⟨"DoorVotesModel", "further", "(I)I"⟩, 21), (⟨"DoorVotesModel", "reachOf", "(I)I"⟩, 21), (⟨"DoorVotesModel", "pollOf", "(III)I"⟩, 21), (⟨"DoorVotesModel", "giftsFor", "(III)I"⟩, 21), (⟨"DoorVotesModel", "layTaken", "(II)V"⟩, 21), (⟨"DoorVotesModel", "isAsked", "(IIII)Z"⟩, 21), (⟨"DoorVotesModel", "noItems", "(III)I"⟩, 21)]
theorem lw_r7 : ∀ q ∈ lw_privs_7, lw_okq q := List.forall_mem_cons.mpr ⟨lw_p96, List.forall_mem_cons.mpr ⟨lw_p97, List.forall_mem_cons.mpr ⟨lw_p98, List.forall_mem_cons.mpr ⟨lw_p99, List.forall_mem_cons.mpr ⟨lw_p100, List.forall_mem_cons.mpr ⟨lw_p101, List.forall_mem_cons.mpr ⟨lw_p102, List.forall_mem_cons.mpr ⟨lw_p103, List.forall_mem_cons.mpr ⟨lw_p104, List.forall_mem_cons.mpr ⟨lw_p105, List.forall_mem_cons.mpr ⟨lw_p106, List.forall_mem_cons.mpr ⟨lw_p107, List.forall_mem_cons.mpr ⟨lw_p108, List.forall_mem_cons.mpr ⟨lw_p109, List.forall_mem_cons.mpr ⟨lw_p110, List.forall_mem_cons.mpr ⟨lw_p111, fun _ h => absurd h List.not_mem_nil⟩⟩⟩⟩⟩⟩⟩⟩⟩⟩⟩⟩⟩⟩⟩⟩
theorem lw_p112 : lw_okq (⟨"DoorVotesModel", "isSo", "(IIII)Z"⟩, 21) := ⟨⟨by decide +kernel, by decide +kernel⟩, List.mem_of_getElem? (i := 824) (by decide +kernel), List.mem_of_getElem? (i := 1179) (by decide +kernel), List.mem_of_getElem? (i := 1180) (by decide +kernel)⟩
theorem lw_p113 : lw_okq (⟨"DoorVotesModel", "isOf", "(II)Z"⟩, 21) := ⟨⟨by decide +kernel, by decide +kernel⟩, List.mem_of_getElem? (i := 824) (by decide +kernel), List.mem_of_getElem? (i := 1219) (by decide +kernel), List.mem_of_getElem? (i := 1220) (by decide +kernel)⟩
theorem lw_p114 : lw_okq (⟨"DoorVotesModel", "sizeOf", "(I)I"⟩, 21) := ⟨⟨by decide +kernel, by decide +kernel⟩, List.mem_of_getElem? (i := 824) (by decide +kernel), List.mem_of_getElem? (i := 1227) (by decide +kernel), List.mem_of_getElem? (i := 1228) (by decide +kernel)⟩
theorem lw_p115 : lw_okq (⟨"DoorVotesModel", "begin", "(I)V"⟩, 21) := ⟨⟨by decide +kernel, by decide +kernel⟩, List.mem_of_getElem? (i := 824) (by decide +kernel), List.mem_of_getElem? (i := 1231) (by decide +kernel), List.mem_of_getElem? (i := 1232) (by decide +kernel)⟩
theorem lw_p116 : lw_okq (⟨"DoorVotesModel", "passersSize", "(I)I"⟩, 21) := ⟨⟨by decide +kernel, by decide +kernel⟩, List.mem_of_getElem? (i := 824) (by decide +kernel), List.mem_of_getElem? (i := 1235) (by decide +kernel), List.mem_of_getElem? (i := 1236) (by decide +kernel)⟩
theorem lw_p117 : lw_okq (⟨"DoorVotesModel", "lentSize", "(I)I"⟩, 21) := ⟨⟨by decide +kernel, by decide +kernel⟩, List.mem_of_getElem? (i := 824) (by decide +kernel), List.mem_of_getElem? (i := 1239) (by decide +kernel), List.mem_of_getElem? (i := 1240) (by decide +kernel)⟩
theorem lw_p118 : lw_okq (⟨"DoorVotesModel", "mark", "(I)I"⟩, 21) := ⟨⟨by decide +kernel, by decide +kernel⟩, List.mem_of_getElem? (i := 824) (by decide +kernel), List.mem_of_getElem? (i := 1243) (by decide +kernel), List.mem_of_getElem? (i := 1244) (by decide +kernel)⟩
theorem lw_p119 : lw_okq (⟨"DoorVotesModel", "passersMark", "(I)I"⟩, 21) := ⟨⟨by decide +kernel, by decide +kernel⟩, List.mem_of_getElem? (i := 824) (by decide +kernel), List.mem_of_getElem? (i := 1247) (by decide +kernel), List.mem_of_getElem? (i := 1248) (by decide +kernel)⟩
theorem lw_p120 : lw_okq (⟨"DoorVotesModel", "lentMark", "(I)I"⟩, 21) := ⟨⟨by decide +kernel, by decide +kernel⟩, List.mem_of_getElem? (i := 824) (by decide +kernel), List.mem_of_getElem? (i := 1251) (by decide +kernel), List.mem_of_getElem? (i := 1252) (by decide +kernel)⟩
theorem lw_p121 : lw_okq (⟨"DoorVotesModel", "childrenSize", "(I)I"⟩, 21) := ⟨⟨by decide +kernel, by decide +kernel⟩, List.mem_of_getElem? (i := 824) (by decide +kernel), List.mem_of_getElem? (i := 1255) (by decide +kernel), List.mem_of_getElem? (i := 1256) (by decide +kernel)⟩
theorem lw_p122 : lw_okq (⟨"DoorVotesModel", "childrenMark", "(I)I"⟩, 21) := ⟨⟨by decide +kernel, by decide +kernel⟩, List.mem_of_getElem? (i := 824) (by decide +kernel), List.mem_of_getElem? (i := 1259) (by decide +kernel), List.mem_of_getElem? (i := 1260) (by decide +kernel)⟩
def lw_privs_8 : List (MethodName × Nat) := [(⟨"DoorVotesModel", "isSo", "(IIII)Z"⟩, 21), (⟨"DoorVotesModel", "isOf", "(II)Z"⟩, 21), (⟨"DoorVotesModel", "sizeOf", "(I)I"⟩, 21), (⟨"DoorVotesModel", "begin", "(I)V"⟩, 21), (⟨"DoorVotesModel", "passersSize", "(I)I"⟩, 21), (⟨"DoorVotesModel", "lentSize", "(I)I"⟩, 21), (⟨"DoorVotesModel", "mark", "(I)I"⟩, 21), (⟨"DoorVotesModel", "passersMark", "(I)I"⟩, 21), (⟨"DoorVotesModel", "lentMark", "(I)I"⟩, 21), (⟨"DoorVotesModel", "childrenSize", "(I)I"⟩, 21), (⟨"DoorVotesModel", "childrenMark", "(I)I"⟩, 21)]
theorem lw_r8 : ∀ q ∈ lw_privs_8, lw_okq q := List.forall_mem_cons.mpr ⟨lw_p112, List.forall_mem_cons.mpr ⟨lw_p113, List.forall_mem_cons.mpr ⟨lw_p114, List.forall_mem_cons.mpr ⟨lw_p115, List.forall_mem_cons.mpr ⟨lw_p116, List.forall_mem_cons.mpr ⟨lw_p117, List.forall_mem_cons.mpr ⟨lw_p118, List.forall_mem_cons.mpr ⟨lw_p119, List.forall_mem_cons.mpr ⟨lw_p120, List.forall_mem_cons.mpr ⟨lw_p121, List.forall_mem_cons.mpr ⟨lw_p122, fun _ h => absurd h List.not_mem_nil⟩⟩⟩⟩⟩⟩⟩⟩⟩⟩⟩
def lw_privs : List (MethodName × Nat) := lw_privs_1 ++ (lw_privs_2 ++ (lw_privs_3 ++ (lw_privs_4 ++ (lw_privs_5 ++ (lw_privs_6 ++ (lw_privs_7 ++ (lw_privs_8)))))))
def lw_tbl : List Cond := k2_sels lw_privs ++ tables_1
theorem lw_privs_ok : ∀ q ∈ lw_privs, lw_okq q := by
  show ∀ q ∈ lw_privs_1 ++ (lw_privs_2 ++ (lw_privs_3 ++ (lw_privs_4 ++ (lw_privs_5 ++ (lw_privs_6 ++ (lw_privs_7 ++ (lw_privs_8))))))), lw_okq q
  exact List.forall_mem_append.mpr ⟨lw_r1, List.forall_mem_append.mpr ⟨lw_r2, List.forall_mem_append.mpr ⟨lw_r3, List.forall_mem_append.mpr ⟨lw_r4, List.forall_mem_append.mpr ⟨lw_r5, List.forall_mem_append.mpr ⟨lw_r6, List.forall_mem_append.mpr ⟨lw_r7, lw_r8⟩⟩⟩⟩⟩⟩⟩
end
section
/-! ===== BEGIN words of one list among another's, by their places ===== -/
theorem goodIn_r {big : List Cond} (ws : List Cond) (ps : List Nat) (hp : ws = ps.filterMap (fun i => big[i]?)) (h : ws.all goodWord = true) : GoodIn big ws := by
  intro w hw
  have h1 := List.all_eq_true.mp h w hw
  rw [hp] at hw
  obtain ⟨i, -, hi⟩ := List.mem_filterMap.mp hw
  have hm : w ∈ big := by first | exact List.mem_of_getElem? hi | exact List.getElem?_mem hi
  exact ⟨hm, good_of_word h1⟩
theorem goodIn_app {big a b : List Cond} (ha : GoodIn big a) (hb : GoodIn big b) : GoodIn big (a ++ b) := fun w h => (List.mem_append.mp h).elim (ha w) (hb w)
theorem goodIn_ca {big a b : List Cond} {c : Cond} (ha : GoodIn big (c :: a)) (hb : GoodIn big b) : GoodIn big (c :: (a ++ b)) := fun w h => (List.mem_cons.mp h).elim (fun e => ha w (List.mem_cons.mpr (Or.inl e))) (fun h => (List.mem_append.mp h).elim (fun h => ha w (List.mem_cons.mpr (Or.inr h))) (hb w))
theorem goodIn_sub {big ws : List Cond} (hm : ∀ w ∈ ws, w ∈ big) (h : ws.all goodWord = true) : GoodIn big ws := fun w hw => ⟨hm w hw, good_of_word (List.all_eq_true.mp h w hw)⟩
/-! ===== END ===== -/

/-! ===== BEGIN printed: names, fields, word lists, decode rows ===== -/
def RX0 : String := "DoorVotes$Acts"
def TX0 : u_T := fun k => match k with
  | 0 => ("DoorVotes$Acts", "act", "[I", true)
  | 1 => ("DoorVotes$Acts", "person", "[I", true)
  | 2 => ("DoorVotes$Acts", "door", "[I", true)
  | 3 => ("DoorVotes$Acts", "timesBefore", "[I", true)
  | 4 => ("DoorVotes$Acts", "lastBefore", "[I", true)
  | 5 => ("DoorVotes$Acts", "next", "I", false)
  | _ => ("DoorVotes$Acts", "kept", "I", false)
def tyX0 : Nat → FieldType := fun k => match k with
  | 0 => .array .int
  | 1 => .array .int
  | 2 => .array .int
  | 3 => .array .int
  | 4 => .array .int
  | 5 => .int
  | _ => .int
abbrev wsX00 : List Cond := u_ws RX0 TX0 7
theorem nmX0 : ∀ a, a < 7 → ∀ b, b < 7 → a ≠ b → (TX0 a).2.1 ≠ (TX0 b).2.1 := by decide +kernel
theorem tyX0_ok : ∀ k, k < 7 → parseFieldDescriptor (TX0 k).2.2.1 = some (tyX0 k) := by decide +kernel
abbrev cX0_init : ByteArray := prog_2_method_1_code
def yX0_init : MethodName := ⟨RX0, "<init>", "()V"⟩
abbrev cX0_forget : ByteArray := prog_2_method_2_code
def yX0_forget : MethodName := ⟨RX0, "forget", "()V"⟩
abbrev cX0_keep : ByteArray := prog_2_method_3_code
def yX0_keep : MethodName := ⟨RX0, "keep", "(III)V"⟩
abbrev cX0_remember : ByteArray := prog_2_method_4_code
def yX0_remember : MethodName := ⟨RX0, "remember", "(LDoorVotes$Town;II)V"⟩
abbrev cX0_takeBack : ByteArray := prog_2_method_5_code
def yX0_takeBack : MethodName := ⟨RX0, "takeBack", "(LDoorVotes$Town;)V"⟩
abbrev cX0_stepBack : ByteArray := prog_2_method_6_code
def yX0_stepBack : MethodName := ⟨RX0, "stepBack", "(LDoorVotes$Town;II)V"⟩
def RX1 : String := "DoorVotes$Asker"
def TX1 : u_T := fun k => match k with
  | 0 => ("DoorVotes$Asker", "trace", "[I", true)
  | _ => ("DoorVotes$Asker", "traced", "I", false)
def tyX1 : Nat → FieldType := fun k => match k with
  | 0 => .array .int
  | _ => .int
abbrev wsX10 : List Cond := u_ws RX1 TX1 2
theorem nmX1 : ∀ a, a < 2 → ∀ b, b < 2 → a ≠ b → (TX1 a).2.1 ≠ (TX1 b).2.1 := by decide +kernel
theorem tyX1_ok : ∀ k, k < 2 → parseFieldDescriptor (TX1 k).2.2.1 = some (tyX1 k) := by decide +kernel
abbrev cX1_init : ByteArray := prog_3_method_1_code
def yX1_init : MethodName := ⟨RX1, "<init>", "()V"⟩
abbrev cX1_answer : ByteArray := prog_3_method_2_code
def yX1_answer : MethodName := ⟨RX1, "answer", "(LDoorVotes$Town;III)I"⟩
abbrev cX1_give : ByteArray := prog_3_method_3_code
def yX1_give : MethodName := ⟨RX1, "give", "(LDoorVotes$Town;III)I"⟩
abbrev cX1_leave : ByteArray := prog_3_method_4_code
def yX1_leave : MethodName := ⟨RX1, "leave", "(I)V"⟩
def RX2 : String := "DoorVotes$Ballot"
def TX2 : u_T := fun k => match k with
  | 0 => ("DoorVotes$Ballot", "weight", "[I", true)
  | 1 => ("DoorVotes$Ballot", "vote", "[I", true)
  | _ => ("DoorVotes$Ballot", "voters", "I", false)
def tyX2 : Nat → FieldType := fun k => match k with
  | 0 => .array .int
  | 1 => .array .int
  | _ => .int
abbrev wsX20 : List Cond := u_ws RX2 TX2 3
theorem nmX2 : ∀ a, a < 3 → ∀ b, b < 3 → a ≠ b → (TX2 a).2.1 ≠ (TX2 b).2.1 := by decide +kernel
theorem tyX2_ok : ∀ k, k < 3 → parseFieldDescriptor (TX2 k).2.2.1 = some (tyX2 k) := by decide +kernel
abbrev cX2_init : ByteArray := prog_4_method_1_code
def yX2_init : MethodName := ⟨RX2, "<init>", "()V"⟩
abbrev cX2_hold : ByteArray := prog_4_method_2_code
def yX2_hold : MethodName := ⟨RX2, "hold", "(LDoorVotes$Town;II)V"⟩
abbrev cX2_weightsOf : ByteArray := prog_4_method_3_code
def yX2_weightsOf : MethodName := ⟨RX2, "weightsOf", "(I)I"⟩
abbrev cX2_margin : ByteArray := prog_4_method_4_code
def yX2_margin : MethodName := ⟨RX2, "margin", "()I"⟩
abbrev cX2_opens : ByteArray := prog_4_method_5_code
def yX2_opens : MethodName := ⟨RX2, "opens", "()Z"⟩
abbrev cX2_opensAwake : ByteArray := prog_4_method_6_code
def yX2_opensAwake : MethodName := ⟨RX2, "opensAwake", "(I)Z"⟩
abbrev cX2_opensBehind : ByteArray := prog_4_method_7_code
def yX2_opensBehind : MethodName := ⟨RX2, "opensBehind", "(ILDoorVotes$Town;I)Z"⟩
def RX3 : String := "DoorVotes$Reader"
def TX3 : u_T := fun k => match k with
  | 0 => ("DoorVotes$Reader", "tape", "[I", true)
  | 1 => ("DoorVotes$Reader", "length", "I", false)
  | 2 => ("DoorVotes$Reader", "place", "I", false)
  | 3 => ("DoorVotes$Reader", "fault", "I", false)
  | 4 => ("DoorVotes$Reader", "first", "I", false)
  | _ => ("DoorVotes$Reader", "second", "I", false)
def tyX3 : Nat → FieldType := fun k => match k with
  | 0 => .array .int
  | 1 => .int
  | 2 => .int
  | 3 => .int
  | 4 => .int
  | _ => .int
abbrev wsX30 : List Cond := u_ws RX3 TX3 6
theorem nmX3 : ∀ a, a < 6 → ∀ b, b < 6 → a ≠ b → (TX3 a).2.1 ≠ (TX3 b).2.1 := by decide +kernel
theorem tyX3_ok : ∀ k, k < 6 → parseFieldDescriptor (TX3 k).2.2.1 = some (tyX3 k) := by decide +kernel
abbrev cX3_init : ByteArray := prog_5_method_1_code
def yX3_init : MethodName := ⟨RX3, "<init>", "()V"⟩
abbrev cX3_take : ByteArray := prog_5_method_2_code
def yX3_take : MethodName := ⟨RX3, "take", "(I)I"⟩
abbrev cX3_readInto : ByteArray := prog_5_method_3_code
def yX3_readInto : MethodName := ⟨RX3, "readInto", "(LDoorVotes$Town;)Z"⟩
abbrev cX3_readLaw : ByteArray := prog_5_method_4_code
def yX3_readLaw : MethodName := ⟨RX3, "readLaw", "(LDoorVotes$Town;)Z"⟩
abbrev cX3_readDoors : ByteArray := prog_5_method_5_code
def yX3_readDoors : MethodName := ⟨RX3, "readDoors", "(LDoorVotes$Town;)Z"⟩
abbrev cX3_readPeople : ByteArray := prog_5_method_6_code
def yX3_readPeople : MethodName := ⟨RX3, "readPeople", "(LDoorVotes$Town;)Z"⟩
abbrev cX3_readTies : ByteArray := prog_5_method_7_code
def yX3_readTies : MethodName := ⟨RX3, "readTies", "(LDoorVotes$Town;)Z"⟩
abbrev cX3_kindOf : ByteArray := prog_5_method_8_code
def yX3_kindOf : MethodName := ⟨RX3, "kindOf", "(I)I"⟩
abbrev cX3_readFirst : ByteArray := prog_5_method_9_code
def yX3_readFirst : MethodName := ⟨RX3, "readFirst", "(II)Z"⟩
abbrev cX3_readSecond : ByteArray := prog_5_method_10_code
def yX3_readSecond : MethodName := ⟨RX3, "readSecond", "(II)Z"⟩
abbrev cX3_readSign : ByteArray := prog_5_method_11_code
def yX3_readSign : MethodName := ⟨RX3, "readSign", "(I)Z"⟩
abbrev cX3_readNumber : ByteArray := prog_5_method_12_code
def yX3_readNumber : MethodName := ⟨RX3, "readNumber", "(III)I"⟩
abbrev cX3_isFigure : ByteArray := prog_5_method_13_code
def yX3_isFigure : MethodName := ⟨RX3, "isFigure", "(I)Z"⟩
abbrev cX3_byteAt : ByteArray := prog_5_method_14_code
def yX3_byteAt : MethodName := ⟨RX3, "byteAt", "(I)I"⟩
abbrev cX3_failed : ByteArray := prog_5_method_15_code
def yX3_failed : MethodName := ⟨RX3, "failed", "(I)Z"⟩
def RX4 : String := "DoorVotes$Row"
def TX4 : u_T := fun k => match k with
  | 0 => ("DoorVotes$Row", "items", "[I", true)
  | 1 => ("DoorVotes$Row", "lane", "I", false)
  | _ => ("DoorVotes$Row", "size", "I", false)
def tyX4 : Nat → FieldType := fun k => match k with
  | 0 => .array .int
  | 1 => .int
  | _ => .int
abbrev wsX40 : List Cond := u_ws RX4 TX4 3
theorem nmX4 : ∀ a, a < 3 → ∀ b, b < 3 → a ≠ b → (TX4 a).2.1 ≠ (TX4 b).2.1 := by decide +kernel
theorem tyX4_ok : ∀ k, k < 3 → parseFieldDescriptor (TX4 k).2.2.1 = some (tyX4 k) := by decide +kernel
abbrev cX4_init : ByteArray := prog_6_method_1_code
def yX4_init : MethodName := ⟨RX4, "<init>", "()V"⟩
abbrev cX4_isMissing : ByteArray := prog_6_method_2_code
def yX4_isMissing : MethodName := ⟨RX4, "isMissing", "()Z"⟩
abbrev cX4_begin : ByteArray := prog_6_method_3_code
def yX4_begin : MethodName := ⟨RX4, "begin", "(II)V"⟩
abbrev cX4_end : ByteArray := prog_6_method_4_code
def yX4_end : MethodName := ⟨RX4, "end", "()I"⟩
abbrev cX4_findingOf : ByteArray := prog_6_method_5_code
def yX4_findingOf : MethodName := ⟨RX4, "findingOf", "(II)I"⟩
abbrev cX4_put : ByteArray := prog_6_method_6_code
def yX4_put : MethodName := ⟨RX4, "put", "(II)I"⟩
def RX5 : String := "DoorVotes$Sway"
def TX5 : u_T := fun k => match k with
  | 0 => ("DoorVotes$Sway", "voter", "[I", true)
  | 1 => ("DoorVotes$Sway", "price", "[I", true)
  | 2 => ("DoorVotes$Sway", "gain", "[I", true)
  | 3 => ("DoorVotes$Sway", "voters", "I", false)
  | 4 => ("DoorVotes$Sway", "fewest", "I", false)
  | _ => ("DoorVotes$Sway", "people", "I", false)
def tyX5 : Nat → FieldType := fun k => match k with
  | 0 => .array .int
  | 1 => .array .int
  | 2 => .array .int
  | 3 => .int
  | 4 => .int
  | _ => .int
abbrev wsX50 : List Cond := u_ws RX5 TX5 6
theorem nmX5 : ∀ a, a < 6 → ∀ b, b < 6 → a ≠ b → (TX5 a).2.1 ≠ (TX5 b).2.1 := by decide +kernel
theorem tyX5_ok : ∀ k, k < 6 → parseFieldDescriptor (TX5 k).2.2.1 = some (tyX5 k) := by decide +kernel
abbrev cX5_init : ByteArray := prog_7_method_1_code
def yX5_init : MethodName := ⟨RX5, "<init>", "()V"⟩
abbrev cX5_gather : ByteArray := prog_7_method_2_code
def yX5_gather : MethodName := ⟨RX5, "gather", "(LDoorVotes$Town;LDoorVotes$Ballot;I)V"⟩
abbrev cX5_offer : ByteArray := prog_7_method_3_code
def yX5_offer : MethodName := ⟨RX5, "offer", "(IIII)V"⟩
abbrev cX5_seek : ByteArray := prog_7_method_4_code
def yX5_seek : MethodName := ⟨RX5, "seek", "(LDoorVotes$Ballot;)V"⟩
abbrev cX5_weigh : ByteArray := prog_7_method_5_code
def yX5_weigh : MethodName := ⟨RX5, "weigh", "(II)V"⟩
def RX6 : String := "DoorVotes$Town"
def TX6 : u_T := fun k => match k with
  | 0 => ("DoorVotes$Town", "rooms", "I", false)
  | 1 => ("DoorVotes$Town", "fades", "I", false)
  | 2 => ("DoorVotes$Town", "doors", "I", false)
  | 3 => ("DoorVotes$Town", "people", "I", false)
  | 4 => ("DoorVotes$Town", "ties", "I", false)
  | 5 => ("DoorVotes$Town", "day", "I", false)
  | 6 => ("DoorVotes$Town", "sideA", "[I", true)
  | 7 => ("DoorVotes$Town", "sideB", "[I", true)
  | 8 => ("DoorVotes$Town", "kind", "[I", true)
  | 9 => ("DoorVotes$Town", "room", "[I", true)
  | 10 => ("DoorVotes$Town", "bent", "[I", true)
  | 11 => ("DoorVotes$Town", "gifts", "[I", true)
  | 12 => ("DoorVotes$Town", "kin", "[I", true)
  | 13 => ("DoorVotes$Town", "feuds", "[I", true)
  | 14 => ("DoorVotes$Town", "times", "[I", true)
  | _ => ("DoorVotes$Town", "last", "[I", true)
def tyX6 : Nat → FieldType := fun k => match k with
  | 0 => .int
  | 1 => .int
  | 2 => .int
  | 3 => .int
  | 4 => .int
  | 5 => .int
  | 6 => .array .int
  | 7 => .array .int
  | 8 => .array .int
  | 9 => .array .int
  | 10 => .array .int
  | 11 => .array .int
  | 12 => .array .int
  | 13 => .array .int
  | 14 => .array .int
  | _ => .array .int
abbrev wsX60 : List Cond := u_ws RX6 TX6 16
theorem nmX6 : ∀ a, a < 16 → ∀ b, b < 16 → a ≠ b → (TX6 a).2.1 ≠ (TX6 b).2.1 := by decide +kernel
theorem tyX6_ok : ∀ k, k < 16 → parseFieldDescriptor (TX6 k).2.2.1 = some (tyX6 k) := by decide +kernel
abbrev cX6_init : ByteArray := prog_8_method_1_code
def yX6_init : MethodName := ⟨RX6, "<init>", "()V"⟩
abbrev cX6_cellOf : ByteArray := prog_8_method_2_code
def yX6_cellOf : MethodName := ⟨RX6, "cellOf", "(II)I"⟩
abbrev cX6_become : ByteArray := prog_8_method_3_code
def yX6_become : MethodName := ⟨RX6, "become", "(LDoorVotes$Town;)V"⟩
abbrev cX6_begin : ByteArray := prog_8_method_4_code
def yX6_begin : MethodName := ⟨RX6, "begin", "(II)V"⟩
abbrev cX6_addDoor : ByteArray := prog_8_method_5_code
def yX6_addDoor : MethodName := ⟨RX6, "addDoor", "(II)V"⟩
abbrev cX6_addPerson : ByteArray := prog_8_method_6_code
def yX6_addPerson : MethodName := ⟨RX6, "addPerson", "(III)V"⟩
abbrev cX6_addTie : ByteArray := prog_8_method_7_code
def yX6_addTie : MethodName := ⟨RX6, "addTie", "([III)V"⟩
abbrev cX6_tiedTo : ByteArray := prog_8_method_8_code
def yX6_tiedTo : MethodName := ⟨RX6, "tiedTo", "(I)I"⟩
abbrev cX6_isAtDoor : ByteArray := prog_8_method_9_code
def yX6_isAtDoor : MethodName := ⟨RX6, "isAtDoor", "(II)Z"⟩
abbrev cX6_cross : ByteArray := prog_8_method_10_code
def yX6_cross : MethodName := ⟨RX6, "cross", "(II)V"⟩
abbrev cX6_mark : ByteArray := prog_8_method_11_code
def yX6_mark : MethodName := ⟨RX6, "mark", "(II)V"⟩
abbrev cX6_pass : ByteArray := prog_8_method_12_code
def yX6_pass : MethodName := ⟨RX6, "pass", "(II)V"⟩
abbrev cX6_freshIn : ByteArray := prog_8_method_13_code
def yX6_freshIn : MethodName := ⟨RX6, "freshIn", "(I)I"⟩
abbrev cX6_weightOf : ByteArray := prog_8_method_14_code
def yX6_weightOf : MethodName := ⟨RX6, "weightOf", "(II)I"⟩
abbrev cX6_leaningOf : ByteArray := prog_8_method_15_code
def yX6_leaningOf : MethodName := ⟨RX6, "leaningOf", "(II)I"⟩
abbrev cX6_favourOf : ByteArray := prog_8_method_16_code
def yX6_favourOf : MethodName := ⟨RX6, "favourOf", "(II)I"⟩
abbrev cX6_timesOf : ByteArray := prog_8_method_17_code
def yX6_timesOf : MethodName := ⟨RX6, "timesOf", "(I)I"⟩
abbrev cX6_allTimes : ByteArray := prog_8_method_18_code
def yX6_allTimes : MethodName := ⟨RX6, "allTimes", "()I"⟩
abbrev cX6_passedThrough : ByteArray := prog_8_method_19_code
def yX6_passedThrough : MethodName := ⟨RX6, "passedThrough", "(I)I"⟩
abbrev cX6_roomsAdded : ByteArray := prog_8_method_20_code
def yX6_roomsAdded : MethodName := ⟨RX6, "roomsAdded", "()I"⟩
def RX7 : String := "DoorVotes$Ways"
def TX7 : u_T := fun k => match k with
  | 0 => ("DoorVotes$Ways", "sideA", "[I", true)
  | 1 => ("DoorVotes$Ways", "sideB", "[I", true)
  | 2 => ("DoorVotes$Ways", "door", "[I", true)
  | 3 => ("DoorVotes$Ways", "far", "[I", true)
  | _ => ("DoorVotes$Ways", "open", "I", false)
def tyX7 : Nat → FieldType := fun k => match k with
  | 0 => .array .int
  | 1 => .array .int
  | 2 => .array .int
  | 3 => .array .int
  | _ => .int
abbrev wsX70 : List Cond := u_ws RX7 TX7 5
theorem nmX7 : ∀ a, a < 5 → ∀ b, b < 5 → a ≠ b → (TX7 a).2.1 ≠ (TX7 b).2.1 := by decide +kernel
theorem tyX7_ok : ∀ k, k < 5 → parseFieldDescriptor (TX7 k).2.2.1 = some (tyX7 k) := by decide +kernel
abbrev cX7_init : ByteArray := prog_9_method_1_code
def yX7_init : MethodName := ⟨RX7, "<init>", "()V"⟩
abbrev cX7_take : ByteArray := prog_9_method_2_code
def yX7_take : MethodName := ⟨RX7, "take", "(LDoorVotes$Town;LDoorVotes$Ballot;I)V"⟩
abbrev cX7_add : ByteArray := prog_9_method_3_code
def yX7_add : MethodName := ⟨RX7, "add", "(III)V"⟩
abbrev cX7_measureFrom : ByteArray := prog_9_method_4_code
def yX7_measureFrom : MethodName := ⟨RX7, "measureFrom", "(I)V"⟩
abbrev cX7_spread : ByteArray := prog_9_method_5_code
def yX7_spread : MethodName := ⟨RX7, "spread", "(III)V"⟩
abbrev cX7_roomsMeasured : ByteArray := prog_9_method_6_code
def yX7_roomsMeasured : MethodName := ⟨RX7, "roomsMeasured", "()I"⟩
abbrev cX7_firstDoorFrom : ByteArray := prog_9_method_7_code
def yX7_firstDoorFrom : MethodName := ⟨RX7, "firstDoorFrom", "(I)I"⟩
abbrev cX7_farWith : ByteArray := prog_9_method_8_code
def yX7_farWith : MethodName := ⟨RX7, "farWith", "(IIII)I"⟩
def RX8 : String := "DoorVotes"
def TX8 : u_T := fun k => match k with
  | 0 => ("DoorVotes", "rows", "[LDoorVotes$Row;", true)
  | 1 => ("DoorVotes", "reader", "LDoorVotes$Reader;", true)
  | 2 => ("DoorVotes", "acts", "LDoorVotes$Acts;", true)
  | 3 => ("DoorVotes", "asker", "LDoorVotes$Asker;", true)
  | 4 => ("DoorVotes", "town", "LDoorVotes$Town;", true)
  | 5 => ("DoorVotes", "spare", "LDoorVotes$Town;", true)
  | 6 => ("DoorVotes", "images", "[LDoorVotes$Town;", true)
  | 7 => ("DoorVotes", "ballot", "LDoorVotes$Ballot;", true)
  | 8 => ("DoorVotes", "ways", "LDoorVotes$Ways;", true)
  | 9 => ("DoorVotes", "sway", "LDoorVotes$Sway;", true)
  | 10 => ("DoorVotes", "latestFault", "I", false)
  | _ => ("DoorVotes", "latestFinding", "I", false)
def tyX8 : Nat → FieldType := fun k => match k with
  | 0 => .array (.object "DoorVotes$Row")
  | 1 => .object "DoorVotes$Reader"
  | 2 => .object "DoorVotes$Acts"
  | 3 => .object "DoorVotes$Asker"
  | 4 => .object "DoorVotes$Town"
  | 5 => .object "DoorVotes$Town"
  | 6 => .array (.object "DoorVotes$Town")
  | 7 => .object "DoorVotes$Ballot"
  | 8 => .object "DoorVotes$Ways"
  | 9 => .object "DoorVotes$Sway"
  | 10 => .int
  | _ => .int
abbrev wsX80 : List Cond := u_ws RX8 TX8 12
theorem nmX8 : ∀ a, a < 12 → ∀ b, b < 12 → a ≠ b → (TX8 a).2.1 ≠ (TX8 b).2.1 := by decide +kernel
theorem tyX8_ok : ∀ k, k < 12 → parseFieldDescriptor (TX8 k).2.2.1 = some (tyX8 k) := by decide +kernel
abbrev cX8_init : ByteArray := prog_1_method_1_code
def yX8_init : MethodName := ⟨RX8, "<init>", "()V"⟩
abbrev cX8_row : ByteArray := prog_1_method_2_code
def yX8_row : MethodName := ⟨RX8, "row", "(III)I"⟩
abbrev cX8_set : ByteArray := prog_1_method_3_code
def yX8_set : MethodName := ⟨RX8, "set", "(III)I"⟩
abbrev cX8_copy : ByteArray := prog_1_method_4_code
def yX8_copy : MethodName := ⟨RX8, "copy", "(IIIII)I"⟩
abbrev cX8_drop : ByteArray := prog_1_method_5_code
def yX8_drop : MethodName := ⟨RX8, "drop", "(I)I"⟩
abbrev cX8_feed : ByteArray := prog_1_method_6_code
def yX8_feed : MethodName := ⟨RX8, "feed", "(I)I"⟩
abbrev cX8_town : ByteArray := prog_1_method_7_code
def yX8_town : MethodName := ⟨RX8, "town", "()I"⟩
abbrev cX8_fault : ByteArray := prog_1_method_8_code
def yX8_fault : MethodName := ⟨RX8, "fault", "()I"⟩
abbrev cX8_undo : ByteArray := prog_1_method_9_code
def yX8_undo : MethodName := ⟨RX8, "undo", "()I"⟩
abbrev cX8_knock : ByteArray := prog_1_method_10_code
def yX8_knock : MethodName := ⟨RX8, "knock", "(II)I"⟩
abbrev cX8_days : ByteArray := prog_1_method_11_code
def yX8_days : MethodName := ⟨RX8, "days", "(I)I"⟩
abbrev cX8_gift : ByteArray := prog_1_method_12_code
def yX8_gift : MethodName := ⟨RX8, "gift", "(II)I"⟩
abbrev cX8_build : ByteArray := prog_1_method_13_code
def yX8_build : MethodName := ⟨RX8, "build", "(II)I"⟩
abbrev cX8_person : ByteArray := prog_1_method_14_code
def yX8_person : MethodName := ⟨RX8, "person", "(II)I"⟩
abbrev cX8_door : ByteArray := prog_1_method_15_code
def yX8_door : MethodName := ⟨RX8, "door", "(II)I"⟩
abbrev cX8_at : ByteArray := prog_1_method_16_code
def yX8_at : MethodName := ⟨RX8, "at", "(III)I"⟩
abbrev cX8_favour : ByteArray := prog_1_method_17_code
def yX8_favour : MethodName := ⟨RX8, "favour", "(II)I"⟩
abbrev cX8_way : ByteArray := prog_1_method_18_code
def yX8_way : MethodName := ⟨RX8, "way", "(III)I"⟩
abbrev cX8_reach : ByteArray := prog_1_method_19_code
def yX8_reach : MethodName := ⟨RX8, "reach", "(I)I"⟩
abbrev cX8_locked : ByteArray := prog_1_method_20_code
def yX8_locked : MethodName := ⟨RX8, "locked", "()I"⟩
abbrev cX8_gifts : ByteArray := prog_1_method_21_code
def yX8_gifts : MethodName := ⟨RX8, "gifts", "(III)I"⟩
abbrev cX8_parade : ByteArray := prog_1_method_22_code
def yX8_parade : MethodName := ⟨RX8, "parade", "(III)I"⟩
abbrev cX8_newDoor : ByteArray := prog_1_method_23_code
def yX8_newDoor : MethodName := ⟨RX8, "newDoor", "(III)I"⟩
abbrev cX8_bents : ByteArray := prog_1_method_24_code
def yX8_bents : MethodName := ⟨RX8, "bents", "(IIIIII)I"⟩
abbrev cX8_who : ByteArray := prog_1_method_25_code
def yX8_who : MethodName := ⟨RX8, "who", "(IIIII)I"⟩
abbrev cX8_awake : ByteArray := prog_1_method_26_code
def yX8_awake : MethodName := ⟨RX8, "awake", "(IIII)J"⟩
abbrev cX8_drawn : ByteArray := prog_1_method_27_code
def yX8_drawn : MethodName := ⟨RX8, "drawn", "(III)I"⟩
abbrev cX8_image : ByteArray := prog_1_method_28_code
def yX8_image : MethodName := ⟨RX8, "image", "(I)I"⟩
abbrev cX8_restore : ByteArray := prog_1_method_29_code
def yX8_restore : MethodName := ⟨RX8, "restore", "(I)I"⟩
abbrev cX8_kind : ByteArray := prog_1_method_30_code
def yX8_kind : MethodName := ⟨RX8, "kind", "(I)I"⟩
abbrev cX8_as : ByteArray := prog_1_method_31_code
def yX8_as : MethodName := ⟨RX8, "as", "(II)I"⟩
abbrev cX8_ask : ByteArray := prog_1_method_32_code
def yX8_ask : MethodName := ⟨RX8, "ask", "(II)I"⟩
abbrev cX8_trace : ByteArray := prog_1_method_33_code
def yX8_trace : MethodName := ⟨RX8, "trace", "(I)I"⟩
abbrev cX8_count : ByteArray := prog_1_method_34_code
def yX8_count : MethodName := ⟨RX8, "count", "(I)I"⟩
abbrev cX8_status : ByteArray := prog_1_method_35_code
def yX8_status : MethodName := ⟨RX8, "status", "()I"⟩
abbrev cX8_within : ByteArray := prog_1_method_36_code
def yX8_within : MethodName := ⟨RX8, "within", "(II)Z"⟩
abbrev cX8_finding : ByteArray := prog_1_method_37_code
def yX8_finding : MethodName := ⟨RX8, "finding", "(I)I"⟩
abbrev cX8_unfound : ByteArray := prog_1_method_38_code
def yX8_unfound : MethodName := ⟨RX8, "unfound", "(I)I"⟩
abbrev cX8_isTown : ByteArray := prog_1_method_39_code
def yX8_isTown : MethodName := ⟨RX8, "isTown", "()Z"⟩
abbrev cX8_isPerson : ByteArray := prog_1_method_40_code
def yX8_isPerson : MethodName := ⟨RX8, "isPerson", "(I)Z"⟩
abbrev cX8_isDoor : ByteArray := prog_1_method_41_code
def yX8_isDoor : MethodName := ⟨RX8, "isDoor", "(I)Z"⟩
abbrev cX8_isRoom : ByteArray := prog_1_method_42_code
def yX8_isRoom : MethodName := ⟨RX8, "isRoom", "(I)Z"⟩
abbrev cX8_isSeen : ByteArray := prog_1_method_43_code
def yX8_isSeen : MethodName := ⟨RX8, "isSeen", "(IIII)Z"⟩
abbrev cX8_opens : ByteArray := prog_1_method_44_code
def yX8_opens : MethodName := ⟨RX8, "opens", "(LDoorVotes$Town;II)Z"⟩
abbrev cX8_votesAt : ByteArray := prog_1_method_45_code
def yX8_votesAt : MethodName := ⟨RX8, "votesAt", "(III)I"⟩
abbrev cX8_roomsReached : ByteArray := prog_1_method_46_code
def yX8_roomsReached : MethodName := ⟨RX8, "roomsReached", "(I)I"⟩
abbrev cX8_isSo : ByteArray := prog_1_method_47_code
def yX8_isSo : MethodName := ⟨RX8, "isSo", "(ILDoorVotes$Row;II)Z"⟩
abbrev cX8_casesOf : ByteArray := prog_1_method_48_code
def yX8_casesOf : MethodName := ⟨RX8, "casesOf", "(III)J"⟩
abbrev cX8_commonDivisor : ByteArray := prog_1_method_49_code
def yX8_commonDivisor : MethodName := ⟨RX8, "commonDivisor", "(JJ)J"⟩
abbrev cX8_isOfKind : ByteArray := prog_1_method_50_code
def yX8_isOfKind : MethodName := ⟨RX8, "isOfKind", "(II)Z"⟩
abbrev cX8_rowsThere : ByteArray := prog_1_method_51_code
def yX8_rowsThere : MethodName := ⟨RX8, "rowsThere", "()I"⟩
def RX9 : String := "DoorVotesModel"
def TX9 : u_T := fun k => match k with
  | 0 => ("DoorVotesModel", "row", "[I", true)
  | 1 => ("DoorVotesModel", "undos", "I", false)
  | 2 => ("DoorVotesModel", "isKept", "[Z", true)
  | 3 => ("DoorVotesModel", "lanes", "[I", true)
  | 4 => ("DoorVotesModel", "sizes", "[I", true)
  | 5 => ("DoorVotesModel", "items", "[I", true)
  | 6 => ("DoorVotesModel", "tape", "[I", true)
  | 7 => ("DoorVotesModel", "length", "I", false)
  | 8 => ("DoorVotesModel", "fault", "I", false)
  | 9 => ("DoorVotesModel", "status", "I", false)
  | 10 => ("DoorVotesModel", "trace", "[I", true)
  | 11 => ("DoorVotesModel", "traced", "I", false)
  | 12 => ("DoorVotesModel", "at", "I", false)
  | 13 => ("DoorVotesModel", "wrong", "I", false)
  | 14 => ("DoorVotesModel", "number", "I", false)
  | 15 => ("DoorVotesModel", "asleep", "I", false)
  | 16 => ("DoorVotesModel", "open", "I", false)
  | 17 => ("DoorVotesModel", "newA", "I", false)
  | 18 => ("DoorVotesModel", "newB", "I", false)
  | 19 => ("DoorVotesModel", "taken", "I", false)
  | _ => ("DoorVotesModel", "takers", "I", false)
def tyX9 : Nat → FieldType := fun k => match k with
  | 0 => .array .int
  | 1 => .int
  | 2 => .array .boolean
  | 3 => .array .int
  | 4 => .array .int
  | 5 => .array .int
  | 6 => .array .int
  | 7 => .int
  | 8 => .int
  | 9 => .int
  | 10 => .array .int
  | 11 => .int
  | 12 => .int
  | 13 => .int
  | 14 => .int
  | 15 => .int
  | 16 => .int
  | 17 => .int
  | 18 => .int
  | 19 => .int
  | _ => .int
abbrev wsX90 : List Cond := u_ws RX9 TX9 21
theorem nmX9 : ∀ a, a < 21 → ∀ b, b < 21 → a ≠ b → (TX9 a).2.1 ≠ (TX9 b).2.1 := by decide +kernel
theorem tyX9_ok : ∀ k, k < 21 → parseFieldDescriptor (TX9 k).2.2.1 = some (tyX9 k) := by decide +kernel
abbrev cX9_init : ByteArray := prog_11_method_1_code
def yX9_init : MethodName := ⟨RX9, "<init>", "()V"⟩
abbrev cX9_in : ByteArray := prog_11_method_2_code
def yX9_in : MethodName := ⟨RX9, "in", "(JJJ)Z"⟩
abbrev cX9_has : ByteArray := prog_11_method_3_code
def yX9_has : MethodName := ⟨RX9, "has", "(II)Z"⟩
abbrev cX9_bits : ByteArray := prog_11_method_4_code
def yX9_bits : MethodName := ⟨RX9, "bits", "(I)I"⟩
abbrev cX9_find : ByteArray := prog_11_method_5_code
def yX9_find : MethodName := ⟨RX9, "find", "(I)I"⟩
abbrev cX9_well : ByteArray := prog_11_method_6_code
def yX9_well : MethodName := ⟨RX9, "well", "(I)I"⟩
abbrev cX9_isRow : ByteArray := prog_11_method_7_code
def yX9_isRow : MethodName := ⟨RX9, "isRow", "(I)Z"⟩
abbrev cX9_row : ByteArray := prog_11_method_8_code
def yX9_row : MethodName := ⟨RX9, "row", "(III)I"⟩
abbrev cX9_narrow : ByteArray := prog_11_method_9_code
def yX9_narrow : MethodName := ⟨RX9, "narrow", "(II)I"⟩
abbrev cX9_set : ByteArray := prog_11_method_10_code
def yX9_set : MethodName := ⟨RX9, "set", "(III)I"⟩
abbrev cX9_isSpan : ByteArray := prog_11_method_11_code
def yX9_isSpan : MethodName := ⟨RX9, "isSpan", "(III)Z"⟩
abbrev cX9_copy : ByteArray := prog_11_method_12_code
def yX9_copy : MethodName := ⟨RX9, "copy", "(IIIII)I"⟩
abbrev cX9_drop : ByteArray := prog_11_method_13_code
def yX9_drop : MethodName := ⟨RX9, "drop", "(I)I"⟩
abbrev cX9_feed : ByteArray := prog_11_method_14_code
def yX9_feed : MethodName := ⟨RX9, "feed", "(I)I"⟩
abbrev cX9_isLetter : ByteArray := prog_11_method_15_code
def yX9_isLetter : MethodName := ⟨RX9, "isLetter", "(I)Z"⟩
abbrev cX9_isFigure : ByteArray := prog_11_method_16_code
def yX9_isFigure : MethodName := ⟨RX9, "isFigure", "(I)Z"⟩
abbrev cX9_refuse : ByteArray := prog_11_method_17_code
def yX9_refuse : MethodName := ⟨RX9, "refuse", "(I)Z"⟩
abbrev cX9_sign : ByteArray := prog_11_method_18_code
def yX9_sign : MethodName := ⟨RX9, "sign", "(I)Z"⟩
abbrev cX9_readsNumber : ByteArray := prog_11_method_19_code
def yX9_readsNumber : MethodName := ⟨RX9, "readsNumber", "(II)Z"⟩
abbrev cX9_readsLaw : ByteArray := prog_11_method_20_code
def yX9_readsLaw : MethodName := ⟨RX9, "readsLaw", "()Z"⟩
abbrev cX9_readsDoor : ByteArray := prog_11_method_21_code
def yX9_readsDoor : MethodName := ⟨RX9, "readsDoor", "()Z"⟩
abbrev cX9_kindOfLetter : ByteArray := prog_11_method_22_code
def yX9_kindOfLetter : MethodName := ⟨RX9, "kindOfLetter", "(I)I"⟩
abbrev cX9_readsPerson : ByteArray := prog_11_method_23_code
def yX9_readsPerson : MethodName := ⟨RX9, "readsPerson", "()Z"⟩
abbrev cX9_readsTie : ByteArray := prog_11_method_24_code
def yX9_readsTie : MethodName := ⟨RX9, "readsTie", "()Z"⟩
abbrev cX9_reads : ByteArray := prog_11_method_25_code
def yX9_reads : MethodName := ⟨RX9, "reads", "()Z"⟩
abbrev cX9_town : ByteArray := prog_11_method_26_code
def yX9_town : MethodName := ⟨RX9, "town", "()I"⟩
abbrev cX9_fault : ByteArray := prog_11_method_27_code
def yX9_fault : MethodName := ⟨RX9, "fault", "()I"⟩
abbrev cX9_copyTown : ByteArray := prog_11_method_28_code
def yX9_copyTown : MethodName := ⟨RX9, "copyTown", "(II)V"⟩
abbrev cX9_keepPast : ByteArray := prog_11_method_29_code
def yX9_keepPast : MethodName := ⟨RX9, "keepPast", "()V"⟩
abbrev cX9_undo : ByteArray := prog_11_method_30_code
def yX9_undo : MethodName := ⟨RX9, "undo", "()I"⟩
abbrev cX9_isPerson : ByteArray := prog_11_method_31_code
def yX9_isPerson : MethodName := ⟨RX9, "isPerson", "(I)Z"⟩
abbrev cX9_isDoor : ByteArray := prog_11_method_32_code
def yX9_isDoor : MethodName := ⟨RX9, "isDoor", "(I)Z"⟩
abbrev cX9_isRoom : ByteArray := prog_11_method_33_code
def yX9_isRoom : MethodName := ⟨RX9, "isRoom", "(I)Z"⟩
abbrev cX9_timesOf : ByteArray := prog_11_method_34_code
def yX9_timesOf : MethodName := ⟨RX9, "timesOf", "(III)I"⟩
abbrev cX9_freshOf : ByteArray := prog_11_method_35_code
def yX9_freshOf : MethodName := ⟨RX9, "freshOf", "(III)I"⟩
abbrev cX9_weightOf : ByteArray := prog_11_method_36_code
def yX9_weightOf : MethodName := ⟨RX9, "weightOf", "(III)I"⟩
abbrev cX9_plainFavour : ByteArray := prog_11_method_37_code
def yX9_plainFavour : MethodName := ⟨RX9, "plainFavour", "(III)I"⟩
abbrev cX9_favourOf : ByteArray := prog_11_method_38_code
def yX9_favourOf : MethodName := ⟨RX9, "favourOf", "(III)I"⟩
abbrev cX9_weights : ByteArray := prog_11_method_39_code
def yX9_weights : MethodName := ⟨RX9, "weights", "(IIII)I"⟩
abbrev cX9_opens : ByteArray := prog_11_method_40_code
def yX9_opens : MethodName := ⟨RX9, "opens", "(III)Z"⟩
abbrev cX9_endOf : ByteArray := prog_11_method_41_code
def yX9_endOf : MethodName := ⟨RX9, "endOf", "(III)I"⟩
abbrev cX9_behind : ByteArray := prog_11_method_42_code
def yX9_behind : MethodName := ⟨RX9, "behind", "(III)I"⟩
abbrev cX9_goThrough : ByteArray := prog_11_method_43_code
def yX9_goThrough : MethodName := ⟨RX9, "goThrough", "(III)V"⟩
abbrev cX9_knocks : ByteArray := prog_11_method_44_code
def yX9_knocks : MethodName := ⟨RX9, "knocks", "(III)Z"⟩
abbrev cX9_knock : ByteArray := prog_11_method_45_code
def yX9_knock : MethodName := ⟨RX9, "knock", "(II)I"⟩
abbrev cX9_days : ByteArray := prog_11_method_46_code
def yX9_days : MethodName := ⟨RX9, "days", "(I)I"⟩
abbrev cX9_gift : ByteArray := prog_11_method_47_code
def yX9_gift : MethodName := ⟨RX9, "gift", "(II)I"⟩
abbrev cX9_build : ByteArray := prog_11_method_48_code
def yX9_build : MethodName := ⟨RX9, "build", "(II)I"⟩
abbrev cX9_allTimes : ByteArray := prog_11_method_49_code
def yX9_allTimes : MethodName := ⟨RX9, "allTimes", "(I)I"⟩
abbrev cX9_person : ByteArray := prog_11_method_50_code
def yX9_person : MethodName := ⟨RX9, "person", "(II)I"⟩
abbrev cX9_gone : ByteArray := prog_11_method_51_code
def yX9_gone : MethodName := ⟨RX9, "gone", "(I)I"⟩
abbrev cX9_door : ByteArray := prog_11_method_52_code
def yX9_door : MethodName := ⟨RX9, "door", "(II)I"⟩
abbrev cX9_at : ByteArray := prog_11_method_53_code
def yX9_at : MethodName := ⟨RX9, "at", "(III)I"⟩
abbrev cX9_favour : ByteArray := prog_11_method_54_code
def yX9_favour : MethodName := ⟨RX9, "favour", "(II)I"⟩
abbrev cX9_layOpen : ByteArray := prog_11_method_55_code
def yX9_layOpen : MethodName := ⟨RX9, "layOpen", "(I)V"⟩
abbrev cX9_further : ByteArray := prog_11_method_56_code
def yX9_further : MethodName := ⟨RX9, "further", "(I)I"⟩
abbrev cX9_farFrom : ByteArray := prog_11_method_57_code
def yX9_farFrom : MethodName := ⟨RX9, "farFrom", "(II)I"⟩
abbrev cX9_way : ByteArray := prog_11_method_58_code
def yX9_way : MethodName := ⟨RX9, "way", "(III)I"⟩
abbrev cX9_reachOf : ByteArray := prog_11_method_59_code
def yX9_reachOf : MethodName := ⟨RX9, "reachOf", "(I)I"⟩
abbrev cX9_reach : ByteArray := prog_11_method_60_code
def yX9_reach : MethodName := ⟨RX9, "reach", "(I)I"⟩
abbrev cX9_locked : ByteArray := prog_11_method_61_code
def yX9_locked : MethodName := ⟨RX9, "locked", "()I"⟩
abbrev cX9_giftsFor : ByteArray := prog_11_method_62_code
def yX9_giftsFor : MethodName := ⟨RX9, "giftsFor", "(III)I"⟩
abbrev cX9_pollOf : ByteArray := prog_11_method_63_code
def yX9_pollOf : MethodName := ⟨RX9, "pollOf", "(III)I"⟩
abbrev cX9_layTaken : ByteArray := prog_11_method_64_code
def yX9_layTaken : MethodName := ⟨RX9, "layTaken", "(II)V"⟩
abbrev cX9_gifts : ByteArray := prog_11_method_65_code
def yX9_gifts : MethodName := ⟨RX9, "gifts", "(III)I"⟩
abbrev cX9_parade : ByteArray := prog_11_method_66_code
def yX9_parade : MethodName := ⟨RX9, "parade", "(III)I"⟩
abbrev cX9_newDoor : ByteArray := prog_11_method_67_code
def yX9_newDoor : MethodName := ⟨RX9, "newDoor", "(III)I"⟩
abbrev cX9_isSo : ByteArray := prog_11_method_68_code
def yX9_isSo : MethodName := ⟨RX9, "isSo", "(IIII)Z"⟩
abbrev cX9_isAsked : ByteArray := prog_11_method_69_code
def yX9_isAsked : MethodName := ⟨RX9, "isAsked", "(IIII)Z"⟩
abbrev cX9_noItems : ByteArray := prog_11_method_70_code
def yX9_noItems : MethodName := ⟨RX9, "noItems", "(III)I"⟩
abbrev cX9_bents : ByteArray := prog_11_method_71_code
def yX9_bents : MethodName := ⟨RX9, "bents", "(IIIIII)I"⟩
abbrev cX9_who : ByteArray := prog_11_method_72_code
def yX9_who : MethodName := ⟨RX9, "who", "(IIIII)I"⟩
abbrev cX9_awake : ByteArray := prog_11_method_73_code
def yX9_awake : MethodName := ⟨RX9, "awake", "(IIII)J"⟩
abbrev cX9_drawn : ByteArray := prog_11_method_74_code
def yX9_drawn : MethodName := ⟨RX9, "drawn", "(III)I"⟩
abbrev cX9_image : ByteArray := prog_11_method_75_code
def yX9_image : MethodName := ⟨RX9, "image", "(I)I"⟩
abbrev cX9_restore : ByteArray := prog_11_method_76_code
def yX9_restore : MethodName := ⟨RX9, "restore", "(I)I"⟩
abbrev cX9_kind : ByteArray := prog_11_method_77_code
def yX9_kind : MethodName := ⟨RX9, "kind", "(I)I"⟩
abbrev cX9_isOf : ByteArray := prog_11_method_78_code
def yX9_isOf : MethodName := ⟨RX9, "isOf", "(II)Z"⟩
abbrev cX9_as : ByteArray := prog_11_method_79_code
def yX9_as : MethodName := ⟨RX9, "as", "(II)I"⟩
abbrev cX9_begin : ByteArray := prog_11_method_80_code
def yX9_begin : MethodName := ⟨RX9, "begin", "(I)V"⟩
abbrev cX9_lentSize : ByteArray := prog_11_method_81_code
def yX9_lentSize : MethodName := ⟨RX9, "lentSize", "(I)I"⟩
abbrev cX9_passersSize : ByteArray := prog_11_method_82_code
def yX9_passersSize : MethodName := ⟨RX9, "passersSize", "(I)I"⟩
abbrev cX9_childrenSize : ByteArray := prog_11_method_83_code
def yX9_childrenSize : MethodName := ⟨RX9, "childrenSize", "(I)I"⟩
abbrev cX9_sizeOf : ByteArray := prog_11_method_84_code
def yX9_sizeOf : MethodName := ⟨RX9, "sizeOf", "(I)I"⟩
abbrev cX9_lentMark : ByteArray := prog_11_method_85_code
def yX9_lentMark : MethodName := ⟨RX9, "lentMark", "(I)I"⟩
abbrev cX9_passersMark : ByteArray := prog_11_method_86_code
def yX9_passersMark : MethodName := ⟨RX9, "passersMark", "(I)I"⟩
abbrev cX9_mark : ByteArray := prog_11_method_87_code
def yX9_mark : MethodName := ⟨RX9, "mark", "(I)I"⟩
abbrev cX9_childrenMark : ByteArray := prog_11_method_88_code
def yX9_childrenMark : MethodName := ⟨RX9, "childrenMark", "(I)I"⟩
abbrev cX9_ask : ByteArray := prog_11_method_89_code
def yX9_ask : MethodName := ⟨RX9, "ask", "(II)I"⟩
abbrev cX9_trace : ByteArray := prog_11_method_90_code
def yX9_trace : MethodName := ⟨RX9, "trace", "(I)I"⟩
abbrev cX9_count : ByteArray := prog_11_method_91_code
def yX9_count : MethodName := ⟨RX9, "count", "(I)I"⟩
abbrev cX9_status : ByteArray := prog_11_method_92_code
def yX9_status : MethodName := ⟨RX9, "status", "()I"⟩
def RJ6 : String := "java/lang/Integer"
def TJ6 : u_T := fun k => match k with
  | _ => ("", "", "", false)
def tyJ6 : Nat → FieldType := fun k => match k with
  | _ => .int
abbrev wsJ60 : List Cond := u_ws RJ6 TJ6 0
theorem nmJ6 : ∀ a, a < 0 → ∀ b, b < 0 → a ≠ b → (TJ6 a).2.1 ≠ (TJ6 b).2.1 := by decide +kernel
theorem tyJ6_ok : ∀ k, k < 0 → parseFieldDescriptor (TJ6 k).2.2.1 = some (tyJ6 k) := by decide +kernel
abbrev cJ6_compare_7cf53 : ByteArray := prog_12_method_40_code
def yJ6_compare_7cf53 : MethodName := ⟨RJ6, "compare", "(II)I"⟩
abbrev cJ6_bitCount_0f7a4 : ByteArray := prog_12_method_49_code
def yJ6_bitCount_0f7a4 : MethodName := ⟨RJ6, "bitCount", "(I)I"⟩
def RJ9 : String := "java/lang/Math"
def TJ9 : u_T := fun k => match k with
  | _ => ("", "", "", false)
def tyJ9 : Nat → FieldType := fun k => match k with
  | _ => .int
abbrev wsJ90 : List Cond := u_ws RJ9 TJ9 0
theorem nmJ9 : ∀ a, a < 0 → ∀ b, b < 0 → a ≠ b → (TJ9 a).2.1 ≠ (TJ9 b).2.1 := by decide +kernel
theorem tyJ9_ok : ∀ k, k < 0 → parseFieldDescriptor (TJ9 k).2.2.1 = some (tyJ9 k) := by decide +kernel
abbrev cJ9_max_7cf53 : ByteArray := prog_13_method_65_code
def yJ9_max_7cf53 : MethodName := ⟨RJ9, "max", "(II)I"⟩
abbrev cJ9_min_7cf53 : ByteArray := prog_13_method_69_code
def yJ9_min_7cf53 : MethodName := ⟨RJ9, "min", "(II)I"⟩
def RJ10 : String := "java/lang/System"
def TJ10 : u_T := fun k => match k with
  | _ => ("", "", "", false)
def tyJ10 : Nat → FieldType := fun k => match k with
  | _ => .int
abbrev wsJ100 : List Cond := u_ws RJ10 TJ10 0
theorem nmJ10 : ∀ a, a < 0 → ∀ b, b < 0 → a ≠ b → (TJ10 a).2.1 ≠ (TJ10 b).2.1 := by decide +kernel
theorem tyJ10_ok : ∀ k, k < 0 → parseFieldDescriptor (TJ10 k).2.2.1 = some (tyJ10 k) := by decide +kernel
def RJ7 : String := "java/util/Arrays"
def TJ7 : u_T := fun k => match k with
  | _ => ("", "", "", false)
def tyJ7 : Nat → FieldType := fun k => match k with
  | _ => .int
abbrev wsJ70 : List Cond := u_ws RJ7 TJ7 0
theorem nmJ7 : ∀ a, a < 0 → ∀ b, b < 0 → a ≠ b → (TJ7 a).2.1 ≠ (TJ7 b).2.1 := by decide +kernel
theorem tyJ7_ok : ∀ k, k < 0 → parseFieldDescriptor (TJ7 k).2.2.1 = some (tyJ7 k) := by decide +kernel
abbrev cJ7_fill_53178 : ByteArray := prog_15_method_103_code
def yJ7_fill_53178 : MethodName := ⟨RJ7, "fill", "([II)V"⟩
def RL : String := "DoorVotesLaw"
abbrev cL_law : ByteArray := code
def yL_law : MethodName := ⟨RL, "law", "([I)Z"⟩
abbrev vwCl : List vw_C := [(RX0, TX0, 7), (RX1, TX1, 2), (RX2, TX2, 3), (RX3, TX3, 6), (RX4, TX4, 3), (RX5, TX5, 6), (RX6, TX6, 16), (RX7, TX7, 5), (RX8, TX8, 12), (RX9, TX9, 21)]
end
section
/-! the one world: every cell of the class and of the reference, by numbers 0 .. 92 -/
def AW : List Cond := lw_tbl.filter goodWord
theorem mem_tbl {w : Cond} (i : Nat) (h : lw_tbl[i]? = some w) (hg : goodWord w = true) : w ∈ AW := List.mem_filter.mpr ⟨List.mem_of_getElem? h, hg⟩
theorem AW_tbl {w : Cond} (h : w ∈ AW) : w ∈ lw_tbl := (List.mem_filter.mp h).1
theorem AWgood : GoodIn AW AW := fun w h => ⟨h, good_of_word (List.mem_filter.mp h).2⟩
theorem inT1 {w : Cond} (i : Nat) (h0 : tables_1_1[i]? = some w) (hg : goodWord w = true) : w ∈ AW := by
  have h := List.mem_of_getElem? h0
  exact List.mem_filter.mpr ⟨List.mem_append_right _ (List.mem_append_left _ h), hg⟩
theorem inT2 {w : Cond} (i : Nat) (h0 : tables_1_2[i]? = some w) (hg : goodWord w = true) : w ∈ AW := by
  have h := List.mem_of_getElem? h0
  exact List.mem_filter.mpr ⟨List.mem_append_right _ (List.mem_append_right _ (List.mem_append_left _ h)), hg⟩
theorem inT3 {w : Cond} (i : Nat) (h0 : tables_1_3[i]? = some w) (hg : goodWord w = true) : w ∈ AW := by
  have h := List.mem_of_getElem? h0
  exact List.mem_filter.mpr ⟨List.mem_append_right _ (List.mem_append_right _ (List.mem_append_right _ (List.mem_append_left _ h))), hg⟩
theorem inT4 {w : Cond} (i : Nat) (h0 : tables_1_4[i]? = some w) (hg : goodWord w = true) : w ∈ AW := by
  have h := List.mem_of_getElem? h0
  exact List.mem_filter.mpr ⟨List.mem_append_right _ (List.mem_append_right _ (List.mem_append_right _ (List.mem_append_right _ (List.mem_append_left _ h)))), hg⟩
theorem inT5 {w : Cond} (i : Nat) (h0 : tables_1_5[i]? = some w) (hg : goodWord w = true) : w ∈ AW := by
  have h := List.mem_of_getElem? h0
  exact List.mem_filter.mpr ⟨List.mem_append_right _ (List.mem_append_right _ (List.mem_append_right _ (List.mem_append_right _ (List.mem_append_right _ (List.mem_append_left _ h))))), hg⟩
theorem inT6 {w : Cond} (i : Nat) (h0 : tables_1_6[i]? = some w) (hg : goodWord w = true) : w ∈ AW := by
  have h := List.mem_of_getElem? h0
  exact List.mem_filter.mpr ⟨List.mem_append_right _ (List.mem_append_right _ (List.mem_append_right _ (List.mem_append_right _ (List.mem_append_right _ (List.mem_append_right _ (h)))))), hg⟩
theorem inS {w : Cond} (i : Nat) (h0 : (k2_sels lw_privs)[i]? = some w) (hg : goodWord w = true) : w ∈ AW := List.mem_filter.mpr ⟨List.mem_append_left _ (List.mem_of_getElem? h0), hg⟩
theorem aw0 : Cond.classLink RL 7 RX8 ∈ AW := inT1 15 (by decide +kernel) rfl
theorem aw1 : Cond.instantiable RX8 12 ∈ AW := inT1 16 (by decide +kernel) rfl
theorem aw2 : Cond.initialized RX8 ∈ AW := inT1 1 (by decide +kernel) rfl
theorem aw3 : Cond.classLink RL 10 RX9 ∈ AW := inT4 103 (by decide +kernel) rfl
theorem aw4 : Cond.instantiable RX9 21 ∈ AW := inT4 104 (by decide +kernel) rfl
theorem aw5 : Cond.initialized RX9 ∈ AW := inT1 10 (by decide +kernel) rfl
theorem aw6 : Cond.methodLink RL 9 yX8_init ∈ AW := inT1 17 (by decide +kernel) rfl
theorem aw7 : Cond.instanceMethod yX8_init ∈ AW := inT1 18 (by decide +kernel) rfl
theorem aw8 : Cond.code yX8_init cX8_init 2 none ∈ AW := inT1 19 (by decide +kernel) rfl
theorem aw9 : Cond.methodLink RX8 1 objectInit ∈ AW := inT1 20 (by decide +kernel) rfl
theorem aw10 : Cond.instanceMethod objectInit ∈ AW := inT1 21 (by decide +kernel) rfl
theorem aw11 : Cond.code objectInit ⟨#[0xb1]⟩ 1 none ∈ AW := inT1 22 (by decide +kernel) rfl
theorem aw12 : Cond.classLink RX8 9 RX4 ∈ AW := inT1 23 (by decide +kernel) rfl
theorem aw13 : Cond.fieldLink RX8 11 "DoorVotes" "rows" "[LDoorVotes$Row;" ∈ AW := inT2 32 (by decide +kernel) rfl
theorem aw14 : Cond.classLink RX8 15 RX3 ∈ AW := inT1 25 (by decide +kernel) rfl
theorem aw15 : Cond.instantiable RX3 6 ∈ AW := inT1 26 (by decide +kernel) rfl
theorem aw16 : Cond.initialized RX3 ∈ AW := inT1 2 (by decide +kernel) rfl
theorem aw17 : Cond.fieldLink RX8 18 "DoorVotes" "reader" "LDoorVotes$Reader;" ∈ AW := inT2 33 (by decide +kernel) rfl
theorem aw18 : Cond.classLink RX8 22 RX0 ∈ AW := inT1 54 (by decide +kernel) rfl
theorem aw19 : Cond.instantiable RX0 7 ∈ AW := inT1 55 (by decide +kernel) rfl
theorem aw20 : Cond.initialized RX0 ∈ AW := inT1 3 (by decide +kernel) rfl
theorem aw21 : Cond.fieldLink RX8 25 "DoorVotes" "acts" "LDoorVotes$Acts;" ∈ AW := inT2 34 (by decide +kernel) rfl
theorem aw22 : Cond.classLink RX8 29 RX1 ∈ AW := inT1 83 (by decide +kernel) rfl
theorem aw23 : Cond.instantiable RX1 2 ∈ AW := inT1 84 (by decide +kernel) rfl
theorem aw24 : Cond.initialized RX1 ∈ AW := inT1 4 (by decide +kernel) rfl
theorem aw25 : Cond.fieldLink RX8 32 "DoorVotes" "asker" "LDoorVotes$Asker;" ∈ AW := inT2 35 (by decide +kernel) rfl
theorem aw26 : Cond.classLink RX8 36 RX6 ∈ AW := inT1 98 (by decide +kernel) rfl
theorem aw27 : Cond.instantiable RX6 16 ∈ AW := inT1 99 (by decide +kernel) rfl
theorem aw28 : Cond.initialized RX6 ∈ AW := inT1 5 (by decide +kernel) rfl
theorem aw29 : Cond.fieldLink RX8 39 "DoorVotes" "town" "LDoorVotes$Town;" ∈ AW := inT2 36 (by decide +kernel) rfl
theorem aw30 : Cond.fieldLink RX8 43 "DoorVotes" "spare" "LDoorVotes$Town;" ∈ AW := inT2 37 (by decide +kernel) rfl
theorem aw31 : Cond.fieldLink RX8 46 "DoorVotes" "images" "[LDoorVotes$Town;" ∈ AW := inT2 38 (by decide +kernel) rfl
theorem aw32 : Cond.classLink RX8 50 RX2 ∈ AW := inT1 187 (by decide +kernel) rfl
theorem aw33 : Cond.instantiable RX2 3 ∈ AW := inT1 188 (by decide +kernel) rfl
theorem aw34 : Cond.initialized RX2 ∈ AW := inT1 6 (by decide +kernel) rfl
theorem aw35 : Cond.fieldLink RX8 53 "DoorVotes" "ballot" "LDoorVotes$Ballot;" ∈ AW := inT2 39 (by decide +kernel) rfl
theorem aw36 : Cond.classLink RX8 57 RX7 ∈ AW := inT1 205 (by decide +kernel) rfl
theorem aw37 : Cond.instantiable RX7 5 ∈ AW := inT1 206 (by decide +kernel) rfl
theorem aw38 : Cond.initialized RX7 ∈ AW := inT1 7 (by decide +kernel) rfl
theorem aw39 : Cond.fieldLink RX8 60 "DoorVotes" "ways" "LDoorVotes$Ways;" ∈ AW := inT2 40 (by decide +kernel) rfl
theorem aw40 : Cond.classLink RX8 64 RX5 ∈ AW := inT1 228 (by decide +kernel) rfl
theorem aw41 : Cond.instantiable RX5 6 ∈ AW := inT1 229 (by decide +kernel) rfl
theorem aw42 : Cond.initialized RX5 ∈ AW := inT1 8 (by decide +kernel) rfl
theorem aw43 : Cond.fieldLink RX8 67 "DoorVotes" "sway" "LDoorVotes$Sway;" ∈ AW := inT2 41 (by decide +kernel) rfl
theorem aw44 : Cond.instantiable RX4 3 ∈ AW := inT2 15 (by decide +kernel) rfl
theorem aw45 : Cond.initialized RX4 ∈ AW := inT1 9 (by decide +kernel) rfl
theorem aw46 : Cond.instanceMethod yX3_init ∈ AW := inT1 28 (by decide +kernel) rfl
theorem aw47 : Cond.code yX3_init cX3_init 1 none ∈ AW := inT1 29 (by decide +kernel) rfl
theorem aw48 : Cond.methodLink RX3 3 objectInit ∈ AW := inT1 30 (by decide +kernel) rfl
theorem aw49 : Cond.arrayClass .int ∈ AW := inT1 53 (by decide +kernel) rfl
theorem aw50 : Cond.fieldLink RX3 11 "DoorVotes$Reader" "tape" "[I" ∈ AW := inT1 31 (by decide +kernel) rfl
theorem aw51 : Cond.instanceMethod yX0_init ∈ AW := inT1 57 (by decide +kernel) rfl
theorem aw52 : Cond.code yX0_init cX0_init 1 none ∈ AW := inT1 58 (by decide +kernel) rfl
theorem aw53 : Cond.methodLink RX0 1 objectInit ∈ AW := inT1 59 (by decide +kernel) rfl
theorem aw54 : Cond.fieldLink RX0 9 "DoorVotes$Acts" "act" "[I" ∈ AW := inT1 60 (by decide +kernel) rfl
theorem aw55 : Cond.fieldLink RX0 13 "DoorVotes$Acts" "person" "[I" ∈ AW := inT1 61 (by decide +kernel) rfl
theorem aw56 : Cond.fieldLink RX0 16 "DoorVotes$Acts" "door" "[I" ∈ AW := inT1 62 (by decide +kernel) rfl
theorem aw57 : Cond.fieldLink RX0 19 "DoorVotes$Acts" "timesBefore" "[I" ∈ AW := inT1 63 (by decide +kernel) rfl
theorem aw58 : Cond.fieldLink RX0 22 "DoorVotes$Acts" "lastBefore" "[I" ∈ AW := inT1 64 (by decide +kernel) rfl
theorem aw59 : Cond.instanceMethod yX1_init ∈ AW := inT1 86 (by decide +kernel) rfl
theorem aw60 : Cond.code yX1_init cX1_init 1 none ∈ AW := inT1 87 (by decide +kernel) rfl
theorem aw61 : Cond.methodLink RX1 3 objectInit ∈ AW := inT1 88 (by decide +kernel) rfl
theorem aw62 : Cond.fieldLink RX1 11 "DoorVotes$Asker" "trace" "[I" ∈ AW := inT1 89 (by decide +kernel) rfl
theorem aw63 : Cond.instanceMethod yX6_init ∈ AW := inT1 101 (by decide +kernel) rfl
theorem aw64 : Cond.code yX6_init cX6_init 1 none ∈ AW := inT1 102 (by decide +kernel) rfl
theorem aw65 : Cond.methodLink RX6 3 objectInit ∈ AW := inT1 103 (by decide +kernel) rfl
theorem aw66 : Cond.fieldLink RX6 9 "DoorVotes$Town" "sideA" "[I" ∈ AW := inT1 124 (by decide +kernel) rfl
theorem aw67 : Cond.fieldLink RX6 15 "DoorVotes$Town" "sideB" "[I" ∈ AW := inT1 127 (by decide +kernel) rfl
theorem aw68 : Cond.fieldLink RX6 18 "DoorVotes$Town" "kind" "[I" ∈ AW := inT1 130 (by decide +kernel) rfl
theorem aw69 : Cond.fieldLink RX6 21 "DoorVotes$Town" "room" "[I" ∈ AW := inT1 133 (by decide +kernel) rfl
theorem aw70 : Cond.fieldLink RX6 24 "DoorVotes$Town" "bent" "[I" ∈ AW := inT1 135 (by decide +kernel) rfl
theorem aw71 : Cond.fieldLink RX6 27 "DoorVotes$Town" "gifts" "[I" ∈ AW := inT1 138 (by decide +kernel) rfl
theorem aw72 : Cond.fieldLink RX6 30 "DoorVotes$Town" "kin" "[I" ∈ AW := inT1 141 (by decide +kernel) rfl
theorem aw73 : Cond.fieldLink RX6 33 "DoorVotes$Town" "feuds" "[I" ∈ AW := inT1 144 (by decide +kernel) rfl
theorem aw74 : Cond.fieldLink RX6 36 "DoorVotes$Town" "times" "[I" ∈ AW := inT1 147 (by decide +kernel) rfl
theorem aw75 : Cond.fieldLink RX6 39 "DoorVotes$Town" "last" "[I" ∈ AW := inT1 150 (by decide +kernel) rfl
theorem aw76 : Cond.instanceMethod yX2_init ∈ AW := inT1 190 (by decide +kernel) rfl
theorem aw77 : Cond.code yX2_init cX2_init 1 none ∈ AW := inT1 191 (by decide +kernel) rfl
theorem aw78 : Cond.methodLink RX2 3 objectInit ∈ AW := inT1 192 (by decide +kernel) rfl
theorem aw79 : Cond.fieldLink RX2 9 "DoorVotes$Ballot" "weight" "[I" ∈ AW := inT1 193 (by decide +kernel) rfl
theorem aw80 : Cond.fieldLink RX2 15 "DoorVotes$Ballot" "vote" "[I" ∈ AW := inT1 195 (by decide +kernel) rfl
theorem aw81 : Cond.instanceMethod yX7_init ∈ AW := inT1 208 (by decide +kernel) rfl
theorem aw82 : Cond.code yX7_init cX7_init 1 none ∈ AW := inT1 209 (by decide +kernel) rfl
theorem aw83 : Cond.methodLink RX7 3 objectInit ∈ AW := inT1 210 (by decide +kernel) rfl
theorem aw84 : Cond.fieldLink RX7 11 "DoorVotes$Ways" "sideA" "[I" ∈ AW := inT1 211 (by decide +kernel) rfl
theorem aw85 : Cond.fieldLink RX7 15 "DoorVotes$Ways" "sideB" "[I" ∈ AW := inT1 212 (by decide +kernel) rfl
theorem aw86 : Cond.fieldLink RX7 18 "DoorVotes$Ways" "door" "[I" ∈ AW := inT1 213 (by decide +kernel) rfl
theorem aw87 : Cond.fieldLink RX7 21 "DoorVotes$Ways" "far" "[I" ∈ AW := inT1 214 (by decide +kernel) rfl
theorem aw88 : Cond.instanceMethod yX5_init ∈ AW := inT1 231 (by decide +kernel) rfl
theorem aw89 : Cond.code yX5_init cX5_init 1 none ∈ AW := inT1 232 (by decide +kernel) rfl
theorem aw90 : Cond.methodLink RX5 3 objectInit ∈ AW := inT1 233 (by decide +kernel) rfl
theorem aw91 : Cond.fieldLink RX5 9 "DoorVotes$Sway" "voter" "[I" ∈ AW := inT1 234 (by decide +kernel) rfl
theorem aw92 : Cond.fieldLink RX5 15 "DoorVotes$Sway" "price" "[I" ∈ AW := inT1 235 (by decide +kernel) rfl
theorem aw93 : Cond.fieldLink RX5 18 "DoorVotes$Sway" "gain" "[I" ∈ AW := inT1 236 (by decide +kernel) rfl
theorem aw94 : Cond.instanceMethod yX4_init ∈ AW := inT2 17 (by decide +kernel) rfl
theorem aw95 : Cond.code yX4_init cX4_init 1 none ∈ AW := inT2 18 (by decide +kernel) rfl
theorem aw96 : Cond.methodLink RX4 3 objectInit ∈ AW := inT2 19 (by decide +kernel) rfl
theorem aw97 : Cond.fieldLink RX4 11 "DoorVotes$Row" "items" "[I" ∈ AW := inT2 20 (by decide +kernel) rfl
theorem aw98 : Cond.fieldLink RX4 15 "DoorVotes$Row" "lane" "I" ∈ AW := inT2 22 (by decide +kernel) rfl
theorem aw99 : Cond.methodLink RL 12 yX9_init ∈ AW := inT4 105 (by decide +kernel) rfl
theorem aw100 : Cond.instanceMethod yX9_init ∈ AW := inT4 106 (by decide +kernel) rfl
theorem aw101 : Cond.code yX9_init cX9_init 1 none ∈ AW := inT4 107 (by decide +kernel) rfl
theorem aw102 : Cond.methodLink RX9 1 objectInit ∈ AW := inT4 108 (by decide +kernel) rfl
theorem aw103 : Cond.fieldLink RX9 7 "DoorVotesModel" "row" "[I" ∈ AW := inT4 109 (by decide +kernel) rfl
theorem aw104 : Cond.arrayClass .boolean ∈ AW := inT4 173 (by decide +kernel) rfl
theorem aw105 : Cond.fieldLink RX9 13 "DoorVotesModel" "isKept" "[Z" ∈ AW := inT4 111 (by decide +kernel) rfl
theorem aw106 : Cond.fieldLink RX9 17 "DoorVotesModel" "lanes" "[I" ∈ AW := inT4 112 (by decide +kernel) rfl
theorem aw107 : Cond.fieldLink RX9 20 "DoorVotesModel" "sizes" "[I" ∈ AW := inT4 113 (by decide +kernel) rfl
theorem aw108 : Cond.fieldLink RX9 23 "DoorVotesModel" "items" "[I" ∈ AW := inT4 114 (by decide +kernel) rfl
theorem aw109 : Cond.fieldLink RX9 26 "DoorVotesModel" "tape" "[I" ∈ AW := inT4 115 (by decide +kernel) rfl
theorem aw110 : Cond.fieldLink RX9 29 "DoorVotesModel" "trace" "[I" ∈ AW := inT4 119 (by decide +kernel) rfl
theorem aw111 : Cond.methodLink RL 13 yX8_row ∈ AW := inT2 69 (by decide +kernel) rfl
theorem aw112 : Cond.instanceMethod yX8_row ∈ AW := inT2 70 (by decide +kernel) rfl
theorem aw113 : Cond.selects RX8 yX8_row yX8_row ∈ AW := inT2 71 (by decide +kernel) rfl
theorem aw114 : Cond.code yX8_row cX8_row 4 (some .int) ∈ AW := inT2 72 (by decide +kernel) rfl
theorem aw115 : Cond.constant RX8 76 (-1000001) ∈ AW := inT2 76 (by decide +kernel) rfl
theorem aw116 : Cond.methodLink RX8 72 yX8_within ∈ AW := inT2 73 (by decide +kernel) rfl
theorem aw117 : Cond.static yX8_within ∈ AW := inT2 74 (by decide +kernel) rfl
theorem aw118 : Cond.code yX8_within cX8_within 2 (some .boolean) ∈ AW := inT2 75 (by decide +kernel) rfl
theorem aw119 : Cond.methodLink RX8 77 yX8_finding ∈ AW := inT2 77 (by decide +kernel) rfl
theorem aw120 : Cond.instanceMethod yX8_finding ∈ AW := inT2 79 (by decide +kernel) rfl
theorem aw121 : Cond.selects RX8 yX8_finding yX8_finding ∈ AW := inS 0 (by decide +kernel) rfl
theorem aw122 : Cond.code yX8_finding cX8_finding 2 (some .int) ∈ AW := inT2 80 (by decide +kernel) rfl
theorem aw123 : Cond.fieldLink RX8 352 "DoorVotes" "latestFinding" "I" ∈ AW := inT2 43 (by decide +kernel) rfl
theorem aw124 : Cond.constant RX8 355 (-1000010) ∈ AW := inT2 81 (by decide +kernel) rfl
theorem aw125 : Cond.instanceMethod yX4_begin ∈ AW := inT2 84 (by decide +kernel) rfl
theorem aw126 : Cond.selects RX4 yX4_begin yX4_begin ∈ AW := inS 1 (by decide +kernel) rfl
theorem aw127 : Cond.code yX4_begin cX4_begin 3 none ∈ AW := inT2 85 (by decide +kernel) rfl
theorem aw128 : Cond.fieldLink RX4 19 "DoorVotes$Row" "size" "I" ∈ AW := inT2 24 (by decide +kernel) rfl
theorem aw129 : Cond.methodLink RX4 22 yJ7_fill_53178 ∈ AW := inT2 86 (by decide +kernel) rfl
theorem aw130 : Cond.static yJ7_fill_53178 ∈ AW := inT2 87 (by decide +kernel) rfl
theorem aw131 : Cond.initialized RJ7 ∈ AW := inT1 11 (by decide +kernel) rfl
theorem aw132 : Cond.code yJ7_fill_53178 cJ7_fill_53178 4 none ∈ AW := inT2 88 (by decide +kernel) rfl
theorem aw133 : Cond.methodLink RX8 85 yX8_unfound ∈ AW := inT2 89 (by decide +kernel) rfl
theorem aw134 : Cond.instanceMethod yX8_unfound ∈ AW := inT2 91 (by decide +kernel) rfl
theorem aw135 : Cond.selects RX8 yX8_unfound yX8_unfound ∈ AW := inS 2 (by decide +kernel) rfl
theorem aw136 : Cond.code yX8_unfound cX8_unfound 2 (some .int) ∈ AW := inT2 92 (by decide +kernel) rfl
theorem aw137 : Cond.methodLink RL 17 yX9_row ∈ AW := inT4 174 (by decide +kernel) rfl
theorem aw138 : Cond.instanceMethod yX9_row ∈ AW := inT4 175 (by decide +kernel) rfl
theorem aw139 : Cond.selects RX9 yX9_row yX9_row ∈ AW := inT4 176 (by decide +kernel) rfl
theorem aw140 : Cond.code yX9_row cX9_row 5 (some .int) ∈ AW := inT4 177 (by decide +kernel) rfl
theorem aw141 : Cond.constantLong RX9 47 (2) ∈ AW := inT4 185 (by decide +kernel) rfl
theorem aw142 : Cond.constant RX9 49 (-1000001) ∈ AW := inT4 186 (by decide +kernel) rfl
theorem aw143 : Cond.methodLink RX9 43 yX9_isRow ∈ AW := inT4 178 (by decide +kernel) rfl
theorem aw144 : Cond.static yX9_isRow ∈ AW := inT4 179 (by decide +kernel) rfl
theorem aw145 : Cond.code yX9_isRow cX9_isRow 1 (some .boolean) ∈ AW := inT4 180 (by decide +kernel) rfl
theorem aw146 : Cond.constantLong RX9 37 (7) ∈ AW := inT4 181 (by decide +kernel) rfl
theorem aw147 : Cond.methodLink RX9 39 yX9_in ∈ AW := inT4 182 (by decide +kernel) rfl
theorem aw148 : Cond.static yX9_in ∈ AW := inT4 183 (by decide +kernel) rfl
theorem aw149 : Cond.code yX9_in cX9_in 6 (some .boolean) ∈ AW := inT4 184 (by decide +kernel) rfl
theorem aw150 : Cond.methodLink RX9 50 yX9_find ∈ AW := inT4 187 (by decide +kernel) rfl
theorem aw151 : Cond.instanceMethod yX9_find ∈ AW := inT4 189 (by decide +kernel) rfl
theorem aw152 : Cond.selects RX9 yX9_find yX9_find ∈ AW := inS 72 (by decide +kernel) rfl
theorem aw153 : Cond.code yX9_find cX9_find 2 (some .int) ∈ AW := inT4 190 (by decide +kernel) rfl
theorem aw154 : Cond.fieldLink RX9 32 "DoorVotesModel" "status" "I" ∈ AW := inT4 118 (by decide +kernel) rfl
theorem aw155 : Cond.constant RX9 36 (-1000010) ∈ AW := inT4 191 (by decide +kernel) rfl
theorem aw156 : Cond.methodLink RX9 54 yX9_well ∈ AW := inT4 192 (by decide +kernel) rfl
theorem aw157 : Cond.instanceMethod yX9_well ∈ AW := inT4 194 (by decide +kernel) rfl
theorem aw158 : Cond.selects RX9 yX9_well yX9_well ∈ AW := inS 73 (by decide +kernel) rfl
theorem aw159 : Cond.code yX9_well cX9_well 2 (some .int) ∈ AW := inT4 195 (by decide +kernel) rfl
theorem aw160 : Cond.methodLink RL 18 yX8_set ∈ AW := inT2 93 (by decide +kernel) rfl
theorem aw161 : Cond.instanceMethod yX8_set ∈ AW := inT2 94 (by decide +kernel) rfl
theorem aw162 : Cond.selects RX8 yX8_set yX8_set ∈ AW := inT2 95 (by decide +kernel) rfl
theorem aw163 : Cond.code yX8_set cX8_set 5 (some .int) ∈ AW := inT2 96 (by decide +kernel) rfl
theorem aw164 : Cond.instanceMethod yX4_findingOf ∈ AW := inT2 99 (by decide +kernel) rfl
theorem aw165 : Cond.selects RX4 yX4_findingOf yX4_findingOf ∈ AW := inS 3 (by decide +kernel) rfl
theorem aw166 : Cond.code yX4_findingOf cX4_findingOf 3 (some .int) ∈ AW := inT2 100 (by decide +kernel) rfl
theorem aw167 : Cond.methodLink RX4 28 yX4_isMissing ∈ AW := inT2 101 (by decide +kernel) rfl
theorem aw168 : Cond.instanceMethod yX4_isMissing ∈ AW := inT2 103 (by decide +kernel) rfl
theorem aw169 : Cond.selects RX4 yX4_isMissing yX4_isMissing ∈ AW := inS 4 (by decide +kernel) rfl
theorem aw170 : Cond.code yX4_isMissing cX4_isMissing 1 (some .boolean) ∈ AW := inT2 104 (by decide +kernel) rfl
theorem aw171 : Cond.instanceMethod yX4_put ∈ AW := inT2 107 (by decide +kernel) rfl
theorem aw172 : Cond.selects RX4 yX4_put yX4_put ∈ AW := inS 5 (by decide +kernel) rfl
theorem aw173 : Cond.code yX4_put cX4_put 3 (some .int) ∈ AW := inT2 108 (by decide +kernel) rfl
theorem aw174 : Cond.methodLink RL 21 yX9_set ∈ AW := inT4 196 (by decide +kernel) rfl
theorem aw175 : Cond.instanceMethod yX9_set ∈ AW := inT4 197 (by decide +kernel) rfl
theorem aw176 : Cond.selects RX9 yX9_set yX9_set ∈ AW := inT4 198 (by decide +kernel) rfl
theorem aw177 : Cond.code yX9_set cX9_set 4 (some .int) ∈ AW := inT4 199 (by decide +kernel) rfl
theorem aw178 : Cond.methodLink RX9 57 yX9_narrow ∈ AW := inT4 200 (by decide +kernel) rfl
theorem aw179 : Cond.static yX9_narrow ∈ AW := inT4 201 (by decide +kernel) rfl
theorem aw180 : Cond.code yX9_narrow cX9_narrow 2 (some .int) ∈ AW := inT4 202 (by decide +kernel) rfl
theorem aw181 : Cond.methodLink RL 22 yX8_copy ∈ AW := inT2 109 (by decide +kernel) rfl
theorem aw182 : Cond.instanceMethod yX8_copy ∈ AW := inT2 110 (by decide +kernel) rfl
theorem aw183 : Cond.selects RX8 yX8_copy yX8_copy ∈ AW := inT2 111 (by decide +kernel) rfl
theorem aw184 : Cond.code yX8_copy cX8_copy 6 (some .int) ∈ AW := inT2 112 (by decide +kernel) rfl
theorem aw185 : Cond.methodLink RX8 107 arraycopyName ∈ AW := inT2 114 (by decide +kernel) rfl
theorem aw186 : Cond.native arraycopyName ∈ AW := inT2 116 (by decide +kernel) rfl
theorem aw187 : Cond.static arraycopyName ∈ AW := inT2 115 (by decide +kernel) rfl
theorem aw188 : Cond.initialized "java/lang/System" ∈ AW := inT1 12 (by decide +kernel) rfl
theorem aw189 : Cond.methodLink RL 26 yX9_copy ∈ AW := inT4 203 (by decide +kernel) rfl
theorem aw190 : Cond.instanceMethod yX9_copy ∈ AW := inT4 204 (by decide +kernel) rfl
theorem aw191 : Cond.selects RX9 yX9_copy yX9_copy ∈ AW := inT4 205 (by decide +kernel) rfl
theorem aw192 : Cond.code yX9_copy cX9_copy 9 (some .int) ∈ AW := inT4 206 (by decide +kernel) rfl
theorem aw193 : Cond.methodLink RX9 61 yX9_isSpan ∈ AW := inT4 207 (by decide +kernel) rfl
theorem aw194 : Cond.instanceMethod yX9_isSpan ∈ AW := inT4 209 (by decide +kernel) rfl
theorem aw195 : Cond.selects RX9 yX9_isSpan yX9_isSpan ∈ AW := inS 74 (by decide +kernel) rfl
theorem aw196 : Cond.code yX9_isSpan cX9_isSpan 4 (some .boolean) ∈ AW := inT4 210 (by decide +kernel) rfl
theorem aw197 : Cond.methodLink RL 27 yX8_drop ∈ AW := inT2 117 (by decide +kernel) rfl
theorem aw198 : Cond.instanceMethod yX8_drop ∈ AW := inT2 118 (by decide +kernel) rfl
theorem aw199 : Cond.selects RX8 yX8_drop yX8_drop ∈ AW := inT2 119 (by decide +kernel) rfl
theorem aw200 : Cond.code yX8_drop cX8_drop 2 (some .int) ∈ AW := inT2 120 (by decide +kernel) rfl
theorem aw201 : Cond.instanceMethod yX4_end ∈ AW := inT2 123 (by decide +kernel) rfl
theorem aw202 : Cond.selects RX4 yX4_end yX4_end ∈ AW := inS 6 (by decide +kernel) rfl
theorem aw203 : Cond.code yX4_end cX4_end 1 (some .int) ∈ AW := inT2 124 (by decide +kernel) rfl
theorem aw204 : Cond.methodLink RL 31 yX9_drop ∈ AW := inT4 211 (by decide +kernel) rfl
theorem aw205 : Cond.instanceMethod yX9_drop ∈ AW := inT4 212 (by decide +kernel) rfl
theorem aw206 : Cond.selects RX9 yX9_drop yX9_drop ∈ AW := inT4 213 (by decide +kernel) rfl
theorem aw207 : Cond.code yX9_drop cX9_drop 3 (some .int) ∈ AW := inT4 214 (by decide +kernel) rfl
theorem aw208 : Cond.methodLink RL 32 yX8_feed ∈ AW := inT2 125 (by decide +kernel) rfl
theorem aw209 : Cond.instanceMethod yX8_feed ∈ AW := inT2 126 (by decide +kernel) rfl
theorem aw210 : Cond.selects RX8 yX8_feed yX8_feed ∈ AW := inT2 127 (by decide +kernel) rfl
theorem aw211 : Cond.code yX8_feed cX8_feed 2 (some .int) ∈ AW := inT2 128 (by decide +kernel) rfl
theorem aw212 : Cond.constant RX8 120 (-1000003) ∈ AW := inT2 129 (by decide +kernel) rfl
theorem aw213 : Cond.instanceMethod yX3_take ∈ AW := inT2 132 (by decide +kernel) rfl
theorem aw214 : Cond.selects RX3 yX3_take yX3_take ∈ AW := inS 7 (by decide +kernel) rfl
theorem aw215 : Cond.code yX3_take cX3_take 2 (some .int) ∈ AW := inT2 133 (by decide +kernel) rfl
theorem aw216 : Cond.fieldLink RX3 15 "DoorVotes$Reader" "length" "I" ∈ AW := inT1 32 (by decide +kernel) rfl
theorem aw217 : Cond.methodLink RL 35 yX9_feed ∈ AW := inT4 215 (by decide +kernel) rfl
theorem aw218 : Cond.instanceMethod yX9_feed ∈ AW := inT4 216 (by decide +kernel) rfl
theorem aw219 : Cond.selects RX9 yX9_feed yX9_feed ∈ AW := inT4 217 (by decide +kernel) rfl
theorem aw220 : Cond.code yX9_feed cX9_feed 2 (some .int) ∈ AW := inT4 218 (by decide +kernel) rfl
theorem aw221 : Cond.constantLong RX9 65 (255) ∈ AW := inT4 219 (by decide +kernel) rfl
theorem aw222 : Cond.fieldLink RX9 67 "DoorVotesModel" "length" "I" ∈ AW := inT4 116 (by decide +kernel) rfl
theorem aw223 : Cond.constant RX9 70 (-1000003) ∈ AW := inT4 220 (by decide +kernel) rfl
theorem aw224 : Cond.methodLink RL 36 yX8_town ∈ AW := inT2 134 (by decide +kernel) rfl
theorem aw225 : Cond.instanceMethod yX8_town ∈ AW := inT2 135 (by decide +kernel) rfl
theorem aw226 : Cond.selects RX8 yX8_town yX8_town ∈ AW := inT2 136 (by decide +kernel) rfl
theorem aw227 : Cond.code yX8_town cX8_town 2 (some .int) ∈ AW := inT2 137 (by decide +kernel) rfl
theorem aw228 : Cond.fieldLink RX8 131 "DoorVotes" "latestFault" "I" ∈ AW := inT2 42 (by decide +kernel) rfl
theorem aw229 : Cond.constant RX8 134 (-1000100) ∈ AW := inT2 214 (by decide +kernel) rfl
theorem aw230 : Cond.instanceMethod yX3_readInto ∈ AW := inT2 140 (by decide +kernel) rfl
theorem aw231 : Cond.selects RX3 yX3_readInto yX3_readInto ∈ AW := inS 8 (by decide +kernel) rfl
theorem aw232 : Cond.code yX3_readInto cX3_readInto 2 (some .boolean) ∈ AW := inT2 141 (by decide +kernel) rfl
theorem aw233 : Cond.fieldLink RX3 19 "DoorVotes$Reader" "place" "I" ∈ AW := inT1 34 (by decide +kernel) rfl
theorem aw234 : Cond.methodLink RX3 22 yX3_readLaw ∈ AW := inT2 142 (by decide +kernel) rfl
theorem aw235 : Cond.instanceMethod yX3_readLaw ∈ AW := inT2 144 (by decide +kernel) rfl
theorem aw236 : Cond.selects RX3 yX3_readLaw yX3_readLaw ∈ AW := inS 9 (by decide +kernel) rfl
theorem aw237 : Cond.code yX3_readLaw cX3_readLaw 2 (some .boolean) ∈ AW := inT2 145 (by decide +kernel) rfl
theorem aw238 : Cond.fieldLink RX3 46 "DoorVotes$Reader" "first" "I" ∈ AW := inT1 38 (by decide +kernel) rfl
theorem aw239 : Cond.fieldLink RX3 49 "DoorVotes$Reader" "second" "I" ∈ AW := inT1 39 (by decide +kernel) rfl
theorem aw240 : Cond.methodLink RX3 35 yX3_readSign ∈ AW := inT2 146 (by decide +kernel) rfl
theorem aw241 : Cond.instanceMethod yX3_readSign ∈ AW := inT2 148 (by decide +kernel) rfl
theorem aw242 : Cond.selects RX3 yX3_readSign yX3_readSign ∈ AW := inS 10 (by decide +kernel) rfl
theorem aw243 : Cond.code yX3_readSign cX3_readSign 2 (some .boolean) ∈ AW := inT2 149 (by decide +kernel) rfl
theorem aw244 : Cond.methodLink RX3 58 yX3_byteAt ∈ AW := inT2 150 (by decide +kernel) rfl
theorem aw245 : Cond.instanceMethod yX3_byteAt ∈ AW := inT2 152 (by decide +kernel) rfl
theorem aw246 : Cond.selects RX3 yX3_byteAt yX3_byteAt ∈ AW := inS 11 (by decide +kernel) rfl
theorem aw247 : Cond.code yX3_byteAt cX3_byteAt 2 (some .int) ∈ AW := inT2 153 (by decide +kernel) rfl
theorem aw248 : Cond.methodLink RX3 62 yX3_failed ∈ AW := inT2 155 (by decide +kernel) rfl
theorem aw249 : Cond.instanceMethod yX3_failed ∈ AW := inT2 157 (by decide +kernel) rfl
theorem aw250 : Cond.selects RX3 yX3_failed yX3_failed ∈ AW := inS 12 (by decide +kernel) rfl
theorem aw251 : Cond.code yX3_failed cX3_failed 2 (some .boolean) ∈ AW := inT2 158 (by decide +kernel) rfl
theorem aw252 : Cond.fieldLink RX3 111 "DoorVotes$Reader" "fault" "I" ∈ AW := inT1 37 (by decide +kernel) rfl
theorem aw253 : Cond.methodLink RX3 39 yX3_readFirst ∈ AW := inT2 159 (by decide +kernel) rfl
theorem aw254 : Cond.instanceMethod yX3_readFirst ∈ AW := inT2 161 (by decide +kernel) rfl
theorem aw255 : Cond.selects RX3 yX3_readFirst yX3_readFirst ∈ AW := inS 13 (by decide +kernel) rfl
theorem aw256 : Cond.code yX3_readFirst cX3_readFirst 3 (some .boolean) ∈ AW := inT2 162 (by decide +kernel) rfl
theorem aw257 : Cond.constant RX3 77 (-1000000) ∈ AW := inT2 170 (by decide +kernel) rfl
theorem aw258 : Cond.methodLink RX3 101 yX3_readNumber ∈ AW := inT2 163 (by decide +kernel) rfl
theorem aw259 : Cond.instanceMethod yX3_readNumber ∈ AW := inT2 165 (by decide +kernel) rfl
theorem aw260 : Cond.selects RX3 yX3_readNumber yX3_readNumber ∈ AW := inS 14 (by decide +kernel) rfl
theorem aw261 : Cond.code yX3_readNumber cX3_readNumber 7 (some .int) ∈ AW := inT2 166 (by decide +kernel) rfl
theorem aw262 : Cond.methodLink RX3 105 yX3_isFigure ∈ AW := inT2 167 (by decide +kernel) rfl
theorem aw263 : Cond.static yX3_isFigure ∈ AW := inT2 168 (by decide +kernel) rfl
theorem aw264 : Cond.code yX3_isFigure cX3_isFigure 1 (some .boolean) ∈ AW := inT2 169 (by decide +kernel) rfl
theorem aw265 : Cond.methodLink RX3 43 yX3_readSecond ∈ AW := inT2 171 (by decide +kernel) rfl
theorem aw266 : Cond.instanceMethod yX3_readSecond ∈ AW := inT2 173 (by decide +kernel) rfl
theorem aw267 : Cond.selects RX3 yX3_readSecond yX3_readSecond ∈ AW := inS 15 (by decide +kernel) rfl
theorem aw268 : Cond.code yX3_readSecond cX3_readSecond 3 (some .boolean) ∈ AW := inT2 174 (by decide +kernel) rfl
theorem aw269 : Cond.instanceMethod yX6_begin ∈ AW := inT2 177 (by decide +kernel) rfl
theorem aw270 : Cond.selects RX6 yX6_begin yX6_begin ∈ AW := inS 16 (by decide +kernel) rfl
theorem aw271 : Cond.code yX6_begin cX6_begin 3 none ∈ AW := inT2 178 (by decide +kernel) rfl
theorem aw272 : Cond.fieldLink RX6 42 "DoorVotes$Town" "rooms" "I" ∈ AW := inT1 104 (by decide +kernel) rfl
theorem aw273 : Cond.fieldLink RX6 46 "DoorVotes$Town" "fades" "I" ∈ AW := inT1 107 (by decide +kernel) rfl
theorem aw274 : Cond.fieldLink RX6 49 "DoorVotes$Town" "doors" "I" ∈ AW := inT1 109 (by decide +kernel) rfl
theorem aw275 : Cond.fieldLink RX6 52 "DoorVotes$Town" "people" "I" ∈ AW := inT1 115 (by decide +kernel) rfl
theorem aw276 : Cond.fieldLink RX6 55 "DoorVotes$Town" "ties" "I" ∈ AW := inT1 118 (by decide +kernel) rfl
theorem aw277 : Cond.fieldLink RX6 58 "DoorVotes$Town" "day" "I" ∈ AW := inT1 121 (by decide +kernel) rfl
theorem aw278 : Cond.methodLink RX3 26 yX3_readDoors ∈ AW := inT2 179 (by decide +kernel) rfl
theorem aw279 : Cond.instanceMethod yX3_readDoors ∈ AW := inT2 181 (by decide +kernel) rfl
theorem aw280 : Cond.selects RX3 yX3_readDoors yX3_readDoors ∈ AW := inS 17 (by decide +kernel) rfl
theorem aw281 : Cond.code yX3_readDoors cX3_readDoors 2 (some .boolean) ∈ AW := inT2 182 (by decide +kernel) rfl
theorem aw282 : Cond.instanceMethod yX6_addDoor ∈ AW := inT2 185 (by decide +kernel) rfl
theorem aw283 : Cond.selects RX6 yX6_addDoor yX6_addDoor ∈ AW := inS 18 (by decide +kernel) rfl
theorem aw284 : Cond.code yX6_addDoor cX6_addDoor 4 none ∈ AW := inT2 186 (by decide +kernel) rfl
theorem aw285 : Cond.constant RX6 71 (-1000000) ∈ AW := inT2 190 (by decide +kernel) rfl
theorem aw286 : Cond.methodLink RX6 67 yX6_cellOf ∈ AW := inT2 187 (by decide +kernel) rfl
theorem aw287 : Cond.static yX6_cellOf ∈ AW := inT2 188 (by decide +kernel) rfl
theorem aw288 : Cond.code yX6_cellOf cX6_cellOf 2 (some .int) ∈ AW := inT2 189 (by decide +kernel) rfl
theorem aw289 : Cond.methodLink RX3 29 yX3_readPeople ∈ AW := inT2 191 (by decide +kernel) rfl
theorem aw290 : Cond.instanceMethod yX3_readPeople ∈ AW := inT2 193 (by decide +kernel) rfl
theorem aw291 : Cond.selects RX3 yX3_readPeople yX3_readPeople ∈ AW := inS 19 (by decide +kernel) rfl
theorem aw292 : Cond.code yX3_readPeople cX3_readPeople 3 (some .boolean) ∈ AW := inT2 194 (by decide +kernel) rfl
theorem aw293 : Cond.methodLink RX3 74 yX3_kindOf ∈ AW := inT2 195 (by decide +kernel) rfl
theorem aw294 : Cond.static yX3_kindOf ∈ AW := inT2 196 (by decide +kernel) rfl
theorem aw295 : Cond.code yX3_kindOf cX3_kindOf 1 (some .int) ∈ AW := inT2 197 (by decide +kernel) rfl
theorem aw296 : Cond.instanceMethod yX6_addPerson ∈ AW := inT2 200 (by decide +kernel) rfl
theorem aw297 : Cond.selects RX6 yX6_addPerson yX6_addPerson ∈ AW := inS 20 (by decide +kernel) rfl
theorem aw298 : Cond.code yX6_addPerson cX6_addPerson 4 none ∈ AW := inT2 201 (by decide +kernel) rfl
theorem aw299 : Cond.methodLink RX3 32 yX3_readTies ∈ AW := inT2 202 (by decide +kernel) rfl
theorem aw300 : Cond.instanceMethod yX3_readTies ∈ AW := inT2 204 (by decide +kernel) rfl
theorem aw301 : Cond.selects RX3 yX3_readTies yX3_readTies ∈ AW := inS 21 (by decide +kernel) rfl
theorem aw302 : Cond.code yX3_readTies cX3_readTies 3 (some .boolean) ∈ AW := inT2 205 (by decide +kernel) rfl
theorem aw303 : Cond.instanceMethod yX6_tiedTo ∈ AW := inT2 208 (by decide +kernel) rfl
theorem aw304 : Cond.selects RX6 yX6_tiedTo yX6_tiedTo ∈ AW := inS 22 (by decide +kernel) rfl
theorem aw305 : Cond.code yX6_tiedTo cX6_tiedTo 2 (some .int) ∈ AW := inT2 209 (by decide +kernel) rfl
theorem aw306 : Cond.instanceMethod yX6_addTie ∈ AW := inT2 212 (by decide +kernel) rfl
theorem aw307 : Cond.selects RX6 yX6_addTie yX6_addTie ∈ AW := inS 23 (by decide +kernel) rfl
theorem aw308 : Cond.code yX6_addTie cX6_addTie 4 none ∈ AW := inT2 213 (by decide +kernel) rfl
theorem aw309 : Cond.instanceMethod yX6_become ∈ AW := inT2 217 (by decide +kernel) rfl
theorem aw310 : Cond.selects RX6 yX6_become yX6_become ∈ AW := inS 24 (by decide +kernel) rfl
theorem aw311 : Cond.code yX6_become cX6_become 2 none ∈ AW := inT2 218 (by decide +kernel) rfl
theorem aw312 : Cond.methodLink RX6 61 arraycopyName ∈ AW := inT2 219 (by decide +kernel) rfl
theorem aw313 : Cond.instanceMethod yX0_forget ∈ AW := inT2 222 (by decide +kernel) rfl
theorem aw314 : Cond.selects RX0 yX0_forget yX0_forget ∈ AW := inS 25 (by decide +kernel) rfl
theorem aw315 : Cond.code yX0_forget cX0_forget 1 none ∈ AW := inT2 223 (by decide +kernel) rfl
theorem aw316 : Cond.fieldLink RX0 25 "DoorVotes$Acts" "kept" "I" ∈ AW := inT1 66 (by decide +kernel) rfl
theorem aw317 : Cond.methodLink RL 40 yX9_town ∈ AW := inT4 221 (by decide +kernel) rfl
theorem aw318 : Cond.instanceMethod yX9_town ∈ AW := inT4 222 (by decide +kernel) rfl
theorem aw319 : Cond.selects RX9 yX9_town yX9_town ∈ AW := inT4 223 (by decide +kernel) rfl
theorem aw320 : Cond.code yX9_town cX9_town 2 (some .int) ∈ AW := inT4 224 (by decide +kernel) rfl
theorem aw321 : Cond.fieldLink RX9 78 "DoorVotesModel" "wrong" "I" ∈ AW := inT4 122 (by decide +kernel) rfl
theorem aw322 : Cond.fieldLink RX9 123 "DoorVotesModel" "fault" "I" ∈ AW := inT4 117 (by decide +kernel) rfl
theorem aw323 : Cond.constant RX9 126 (-1000100) ∈ AW := inT5 34 (by decide +kernel) rfl
theorem aw324 : Cond.fieldLink RX9 71 "DoorVotesModel" "at" "I" ∈ AW := inT4 121 (by decide +kernel) rfl
theorem aw325 : Cond.fieldLink RX9 131 "DoorVotesModel" "undos" "I" ∈ AW := inT4 110 (by decide +kernel) rfl
theorem aw326 : Cond.methodLink RX9 120 yX9_reads ∈ AW := inT4 225 (by decide +kernel) rfl
theorem aw327 : Cond.instanceMethod yX9_reads ∈ AW := inT4 227 (by decide +kernel) rfl
theorem aw328 : Cond.selects RX9 yX9_reads yX9_reads ∈ AW := inS 75 (by decide +kernel) rfl
theorem aw329 : Cond.code yX9_reads cX9_reads 2 (some .boolean) ∈ AW := inT4 228 (by decide +kernel) rfl
theorem aw330 : Cond.constant RX9 106 (-1000000) ∈ AW := inT4 229 (by decide +kernel) rfl
theorem aw331 : Cond.methodLink RX9 107 yX9_readsLaw ∈ AW := inT4 230 (by decide +kernel) rfl
theorem aw332 : Cond.instanceMethod yX9_readsLaw ∈ AW := inT4 232 (by decide +kernel) rfl
theorem aw333 : Cond.selects RX9 yX9_readsLaw yX9_readsLaw ∈ AW := inS 76 (by decide +kernel) rfl
theorem aw334 : Cond.code yX9_readsLaw cX9_readsLaw 1 (some .boolean) ∈ AW := inT4 233 (by decide +kernel) rfl
theorem aw335 : Cond.fieldLink RX9 90 "DoorVotesModel" "number" "I" ∈ AW := inT4 123 (by decide +kernel) rfl
theorem aw336 : Cond.methodLink RX9 93 yX9_sign ∈ AW := inT4 234 (by decide +kernel) rfl
theorem aw337 : Cond.instanceMethod yX9_sign ∈ AW := inT4 236 (by decide +kernel) rfl
theorem aw338 : Cond.selects RX9 yX9_sign yX9_sign ∈ AW := inS 77 (by decide +kernel) rfl
theorem aw339 : Cond.code yX9_sign cX9_sign 2 (some .boolean) ∈ AW := inT4 237 (by decide +kernel) rfl
theorem aw340 : Cond.methodLink RX9 81 yX9_isLetter ∈ AW := inT4 238 (by decide +kernel) rfl
theorem aw341 : Cond.instanceMethod yX9_isLetter ∈ AW := inT5 0 (by decide +kernel) rfl
theorem aw342 : Cond.selects RX9 yX9_isLetter yX9_isLetter ∈ AW := inS 78 (by decide +kernel) rfl
theorem aw343 : Cond.code yX9_isLetter cX9_isLetter 2 (some .boolean) ∈ AW := inT5 1 (by decide +kernel) rfl
theorem aw344 : Cond.methodLink RX9 84 yX9_refuse ∈ AW := inT5 2 (by decide +kernel) rfl
theorem aw345 : Cond.instanceMethod yX9_refuse ∈ AW := inT5 4 (by decide +kernel) rfl
theorem aw346 : Cond.selects RX9 yX9_refuse yX9_refuse ∈ AW := inS 79 (by decide +kernel) rfl
theorem aw347 : Cond.code yX9_refuse cX9_refuse 2 (some .boolean) ∈ AW := inT5 5 (by decide +kernel) rfl
theorem aw348 : Cond.methodLink RX9 96 yX9_readsNumber ∈ AW := inT5 6 (by decide +kernel) rfl
theorem aw349 : Cond.instanceMethod yX9_readsNumber ∈ AW := inT5 8 (by decide +kernel) rfl
theorem aw350 : Cond.selects RX9 yX9_readsNumber yX9_readsNumber ∈ AW := inS 80 (by decide +kernel) rfl
theorem aw351 : Cond.code yX9_readsNumber cX9_readsNumber 4 (some .boolean) ∈ AW := inT5 9 (by decide +kernel) rfl
theorem aw352 : Cond.methodLink RX9 87 yX9_isFigure ∈ AW := inT5 10 (by decide +kernel) rfl
theorem aw353 : Cond.instanceMethod yX9_isFigure ∈ AW := inT5 12 (by decide +kernel) rfl
theorem aw354 : Cond.selects RX9 yX9_isFigure yX9_isFigure ∈ AW := inS 81 (by decide +kernel) rfl
theorem aw355 : Cond.code yX9_isFigure cX9_isFigure 2 (some .boolean) ∈ AW := inT5 13 (by decide +kernel) rfl
theorem aw356 : Cond.constantLong RX9 74 (48) ∈ AW := inT5 14 (by decide +kernel) rfl
theorem aw357 : Cond.constantLong RX9 76 (57) ∈ AW := inT5 15 (by decide +kernel) rfl
theorem aw358 : Cond.methodLink RX9 111 yX9_readsDoor ∈ AW := inT5 16 (by decide +kernel) rfl
theorem aw359 : Cond.instanceMethod yX9_readsDoor ∈ AW := inT5 18 (by decide +kernel) rfl
theorem aw360 : Cond.selects RX9 yX9_readsDoor yX9_readsDoor ∈ AW := inS 82 (by decide +kernel) rfl
theorem aw361 : Cond.code yX9_readsDoor cX9_readsDoor 4 (some .boolean) ∈ AW := inT5 19 (by decide +kernel) rfl
theorem aw362 : Cond.methodLink RX9 100 yX9_kindOfLetter ∈ AW := inT5 20 (by decide +kernel) rfl
theorem aw363 : Cond.static yX9_kindOfLetter ∈ AW := inT5 21 (by decide +kernel) rfl
theorem aw364 : Cond.code yX9_kindOfLetter cX9_kindOfLetter 1 (some .int) ∈ AW := inT5 22 (by decide +kernel) rfl
theorem aw365 : Cond.methodLink RX9 114 yX9_readsPerson ∈ AW := inT5 23 (by decide +kernel) rfl
theorem aw366 : Cond.instanceMethod yX9_readsPerson ∈ AW := inT5 25 (by decide +kernel) rfl
theorem aw367 : Cond.selects RX9 yX9_readsPerson yX9_readsPerson ∈ AW := inS 83 (by decide +kernel) rfl
theorem aw368 : Cond.code yX9_readsPerson cX9_readsPerson 2 (some .boolean) ∈ AW := inT5 26 (by decide +kernel) rfl
theorem aw369 : Cond.methodLink RX9 117 yX9_readsTie ∈ AW := inT5 27 (by decide +kernel) rfl
theorem aw370 : Cond.instanceMethod yX9_readsTie ∈ AW := inT5 29 (by decide +kernel) rfl
theorem aw371 : Cond.selects RX9 yX9_readsTie yX9_readsTie ∈ AW := inS 84 (by decide +kernel) rfl
theorem aw372 : Cond.code yX9_readsTie cX9_readsTie 5 (some .boolean) ∈ AW := inT5 30 (by decide +kernel) rfl
theorem aw373 : Cond.methodLink RX9 103 yX9_has ∈ AW := inT5 31 (by decide +kernel) rfl
theorem aw374 : Cond.static yX9_has ∈ AW := inT5 32 (by decide +kernel) rfl
theorem aw375 : Cond.code yX9_has cX9_has 2 (some .boolean) ∈ AW := inT5 33 (by decide +kernel) rfl
theorem aw376 : Cond.methodLink RX9 127 yX9_copyTown ∈ AW := inT5 35 (by decide +kernel) rfl
theorem aw377 : Cond.instanceMethod yX9_copyTown ∈ AW := inT5 37 (by decide +kernel) rfl
theorem aw378 : Cond.selects RX9 yX9_copyTown yX9_copyTown ∈ AW := inS 85 (by decide +kernel) rfl
theorem aw379 : Cond.code yX9_copyTown cX9_copyTown 4 none ∈ AW := inT5 38 (by decide +kernel) rfl
theorem aw380 : Cond.methodLink RL 41 yX8_fault ∈ AW := inT2 224 (by decide +kernel) rfl
theorem aw381 : Cond.instanceMethod yX8_fault ∈ AW := inT2 225 (by decide +kernel) rfl
theorem aw382 : Cond.selects RX8 yX8_fault yX8_fault ∈ AW := inT2 226 (by decide +kernel) rfl
theorem aw383 : Cond.code yX8_fault cX8_fault 1 (some .int) ∈ AW := inT2 227 (by decide +kernel) rfl
theorem aw384 : Cond.methodLink RL 44 yX9_fault ∈ AW := inT5 39 (by decide +kernel) rfl
theorem aw385 : Cond.instanceMethod yX9_fault ∈ AW := inT5 40 (by decide +kernel) rfl
theorem aw386 : Cond.selects RX9 yX9_fault yX9_fault ∈ AW := inT5 41 (by decide +kernel) rfl
theorem aw387 : Cond.code yX9_fault cX9_fault 1 (some .int) ∈ AW := inT5 42 (by decide +kernel) rfl
theorem aw388 : Cond.methodLink RL 45 yX8_undo ∈ AW := inT2 228 (by decide +kernel) rfl
theorem aw389 : Cond.instanceMethod yX8_undo ∈ AW := inT2 229 (by decide +kernel) rfl
theorem aw390 : Cond.selects RX8 yX8_undo yX8_undo ∈ AW := inT2 230 (by decide +kernel) rfl
theorem aw391 : Cond.code yX8_undo cX8_undo 1 (some .int) ∈ AW := inT2 231 (by decide +kernel) rfl
theorem aw392 : Cond.constant RX8 151 (-1000002) ∈ AW := inT2 232 (by decide +kernel) rfl
theorem aw393 : Cond.instanceMethod yX0_takeBack ∈ AW := inT2 235 (by decide +kernel) rfl
theorem aw394 : Cond.selects RX0 yX0_takeBack yX0_takeBack ∈ AW := inS 26 (by decide +kernel) rfl
theorem aw395 : Cond.code yX0_takeBack cX0_takeBack 2 none ∈ AW := inT2 236 (by decide +kernel) rfl
theorem aw396 : Cond.fieldLink RX0 29 "DoorVotes$Acts" "next" "I" ∈ AW := inT1 65 (by decide +kernel) rfl
theorem aw397 : Cond.methodLink RX0 49 yX0_stepBack ∈ AW := inT2 237 (by decide +kernel) rfl
theorem aw398 : Cond.instanceMethod yX0_stepBack ∈ AW := inT2 239 (by decide +kernel) rfl
theorem aw399 : Cond.selects RX0 yX0_stepBack yX0_stepBack ∈ AW := inS 27 (by decide +kernel) rfl
theorem aw400 : Cond.code yX0_stepBack cX0_stepBack 5 none ∈ AW := inT3 0 (by decide +kernel) rfl
theorem aw401 : Cond.instanceMethod yX6_cross ∈ AW := inT3 4 (by decide +kernel) rfl
theorem aw402 : Cond.selects RX6 yX6_cross yX6_cross ∈ AW := inS 28 (by decide +kernel) rfl
theorem aw403 : Cond.code yX6_cross cX6_cross 3 none ∈ AW := inT3 5 (by decide +kernel) rfl
theorem aw404 : Cond.methodLink RL 48 yX9_undo ∈ AW := inT5 43 (by decide +kernel) rfl
theorem aw405 : Cond.instanceMethod yX9_undo ∈ AW := inT5 44 (by decide +kernel) rfl
theorem aw406 : Cond.selects RX9 yX9_undo yX9_undo ∈ AW := inT5 45 (by decide +kernel) rfl
theorem aw407 : Cond.code yX9_undo cX9_undo 1 (some .int) ∈ AW := inT5 46 (by decide +kernel) rfl
theorem aw408 : Cond.constant RX9 134 (-1000002) ∈ AW := inT5 47 (by decide +kernel) rfl
theorem aw409 : Cond.methodLink RL 49 yX8_knock ∈ AW := inT3 6 (by decide +kernel) rfl
theorem aw410 : Cond.instanceMethod yX8_knock ∈ AW := inT3 7 (by decide +kernel) rfl
theorem aw411 : Cond.selects RX8 yX8_knock yX8_knock ∈ AW := inT3 8 (by decide +kernel) rfl
theorem aw412 : Cond.code yX8_knock cX8_knock 3 (some .int) ∈ AW := inT3 9 (by decide +kernel) rfl
theorem aw413 : Cond.methodLink RX8 155 yX8_isPerson ∈ AW := inT3 10 (by decide +kernel) rfl
theorem aw414 : Cond.instanceMethod yX8_isPerson ∈ AW := inT3 12 (by decide +kernel) rfl
theorem aw415 : Cond.selects RX8 yX8_isPerson yX8_isPerson ∈ AW := inS 29 (by decide +kernel) rfl
theorem aw416 : Cond.code yX8_isPerson cX8_isPerson 2 (some .boolean) ∈ AW := inT3 13 (by decide +kernel) rfl
theorem aw417 : Cond.methodLink RX8 159 yX8_isDoor ∈ AW := inT3 14 (by decide +kernel) rfl
theorem aw418 : Cond.instanceMethod yX8_isDoor ∈ AW := inT3 16 (by decide +kernel) rfl
theorem aw419 : Cond.selects RX8 yX8_isDoor yX8_isDoor ∈ AW := inS 30 (by decide +kernel) rfl
theorem aw420 : Cond.code yX8_isDoor cX8_isDoor 2 (some .boolean) ∈ AW := inT3 17 (by decide +kernel) rfl
theorem aw421 : Cond.instanceMethod yX6_isAtDoor ∈ AW := inT3 20 (by decide +kernel) rfl
theorem aw422 : Cond.selects RX6 yX6_isAtDoor yX6_isAtDoor ∈ AW := inS 31 (by decide +kernel) rfl
theorem aw423 : Cond.code yX6_isAtDoor cX6_isAtDoor 3 (some .boolean) ∈ AW := inT3 21 (by decide +kernel) rfl
theorem aw424 : Cond.methodLink RX8 165 yX8_opens ∈ AW := inT3 22 (by decide +kernel) rfl
theorem aw425 : Cond.instanceMethod yX8_opens ∈ AW := inT3 24 (by decide +kernel) rfl
theorem aw426 : Cond.selects RX8 yX8_opens yX8_opens ∈ AW := inS 32 (by decide +kernel) rfl
theorem aw427 : Cond.code yX8_opens cX8_opens 4 (some .boolean) ∈ AW := inT3 25 (by decide +kernel) rfl
theorem aw428 : Cond.instanceMethod yX2_hold ∈ AW := inT3 28 (by decide +kernel) rfl
theorem aw429 : Cond.selects RX2 yX2_hold yX2_hold ∈ AW := inS 33 (by decide +kernel) rfl
theorem aw430 : Cond.code yX2_hold cX2_hold 5 none ∈ AW := inT3 29 (by decide +kernel) rfl
theorem aw431 : Cond.fieldLink RX2 24 "DoorVotes$Ballot" "voters" "I" ∈ AW := inT1 197 (by decide +kernel) rfl
theorem aw432 : Cond.instanceMethod yX6_weightOf ∈ AW := inT3 32 (by decide +kernel) rfl
theorem aw433 : Cond.selects RX6 yX6_weightOf yX6_weightOf ∈ AW := inS 34 (by decide +kernel) rfl
theorem aw434 : Cond.code yX6_weightOf cX6_weightOf 4 (some .int) ∈ AW := inT3 33 (by decide +kernel) rfl
theorem aw435 : Cond.methodLink RX6 84 yX6_freshIn ∈ AW := inT3 34 (by decide +kernel) rfl
theorem aw436 : Cond.instanceMethod yX6_freshIn ∈ AW := inT3 36 (by decide +kernel) rfl
theorem aw437 : Cond.selects RX6 yX6_freshIn yX6_freshIn ∈ AW := inS 35 (by decide +kernel) rfl
theorem aw438 : Cond.code yX6_freshIn cX6_freshIn 3 (some .int) ∈ AW := inT3 37 (by decide +kernel) rfl
theorem aw439 : Cond.instanceMethod yX6_favourOf ∈ AW := inT3 40 (by decide +kernel) rfl
theorem aw440 : Cond.selects RX6 yX6_favourOf yX6_favourOf ∈ AW := inS 36 (by decide +kernel) rfl
theorem aw441 : Cond.code yX6_favourOf cX6_favourOf 4 (some .int) ∈ AW := inT3 41 (by decide +kernel) rfl
theorem aw442 : Cond.methodLink RX6 91 Lib.Math.max.name ∈ AW := inT3 46 (by decide +kernel) rfl
theorem aw443 : Cond.static Lib.Math.max.name ∈ AW := inT3 47 (by decide +kernel) rfl
theorem aw444 : Cond.initialized "java/lang/Math" ∈ AW := inT1 13 (by decide +kernel) rfl
theorem aw445 : Cond.code Lib.Math.max.name Lib.Math.max.code 2 (some .int) ∈ AW := inT3 48 (by decide +kernel) rfl
theorem aw446 : Cond.methodLink RX6 88 yX6_leaningOf ∈ AW := inT3 42 (by decide +kernel) rfl
theorem aw447 : Cond.instanceMethod yX6_leaningOf ∈ AW := inT3 44 (by decide +kernel) rfl
theorem aw448 : Cond.selects RX6 yX6_leaningOf yX6_leaningOf ∈ AW := inS 37 (by decide +kernel) rfl
theorem aw449 : Cond.code yX6_leaningOf cX6_leaningOf 4 (some .int) ∈ AW := inT3 45 (by decide +kernel) rfl
theorem aw450 : Cond.methodLink RX2 34 yJ6_compare_7cf53 ∈ AW := inT3 49 (by decide +kernel) rfl
theorem aw451 : Cond.static yJ6_compare_7cf53 ∈ AW := inT3 50 (by decide +kernel) rfl
theorem aw452 : Cond.initialized RJ6 ∈ AW := inT1 14 (by decide +kernel) rfl
theorem aw453 : Cond.code yJ6_compare_7cf53 cJ6_compare_7cf53 2 (some .int) ∈ AW := inT3 51 (by decide +kernel) rfl
theorem aw454 : Cond.instanceMethod yX2_opens ∈ AW := inT3 54 (by decide +kernel) rfl
theorem aw455 : Cond.selects RX2 yX2_opens yX2_opens ∈ AW := inS 38 (by decide +kernel) rfl
theorem aw456 : Cond.code yX2_opens cX2_opens 1 (some .boolean) ∈ AW := inT3 55 (by decide +kernel) rfl
theorem aw457 : Cond.methodLink RX2 43 yX2_opensAwake ∈ AW := inT3 56 (by decide +kernel) rfl
theorem aw458 : Cond.instanceMethod yX2_opensAwake ∈ AW := inT3 58 (by decide +kernel) rfl
theorem aw459 : Cond.selects RX2 yX2_opensAwake yX2_opensAwake ∈ AW := inS 39 (by decide +kernel) rfl
theorem aw460 : Cond.code yX2_opensAwake cX2_opensAwake 5 (some .boolean) ∈ AW := inT3 59 (by decide +kernel) rfl
theorem aw461 : Cond.instanceMethod yX0_keep ∈ AW := inT3 62 (by decide +kernel) rfl
theorem aw462 : Cond.selects RX0 yX0_keep yX0_keep ∈ AW := inS 40 (by decide +kernel) rfl
theorem aw463 : Cond.code yX0_keep cX0_keep 4 none ∈ AW := inT3 63 (by decide +kernel) rfl
theorem aw464 : Cond.methodLink RX0 32 Lib.Math.min.name ∈ AW := inT3 64 (by decide +kernel) rfl
theorem aw465 : Cond.static Lib.Math.min.name ∈ AW := inT3 65 (by decide +kernel) rfl
theorem aw466 : Cond.code Lib.Math.min.name Lib.Math.min.code 2 (some .int) ∈ AW := inT3 66 (by decide +kernel) rfl
theorem aw467 : Cond.instanceMethod yX0_remember ∈ AW := inT3 69 (by decide +kernel) rfl
theorem aw468 : Cond.selects RX0 yX0_remember yX0_remember ∈ AW := inS 41 (by decide +kernel) rfl
theorem aw469 : Cond.code yX0_remember cX0_remember 6 none ∈ AW := inT3 70 (by decide +kernel) rfl
theorem aw470 : Cond.instanceMethod yX6_pass ∈ AW := inT3 73 (by decide +kernel) rfl
theorem aw471 : Cond.selects RX6 yX6_pass yX6_pass ∈ AW := inS 42 (by decide +kernel) rfl
theorem aw472 : Cond.code yX6_pass cX6_pass 3 none ∈ AW := inT3 74 (by decide +kernel) rfl
theorem aw473 : Cond.methodLink RX6 77 yX6_mark ∈ AW := inT3 75 (by decide +kernel) rfl
theorem aw474 : Cond.instanceMethod yX6_mark ∈ AW := inT3 77 (by decide +kernel) rfl
theorem aw475 : Cond.selects RX6 yX6_mark yX6_mark ∈ AW := inS 43 (by decide +kernel) rfl
theorem aw476 : Cond.code yX6_mark cX6_mark 4 none ∈ AW := inT3 78 (by decide +kernel) rfl
theorem aw477 : Cond.methodLink RX6 72 Lib.Math.min.name ∈ AW := inT3 79 (by decide +kernel) rfl
theorem aw478 : Cond.methodLink RX6 81 yX6_cross ∈ AW := inT3 80 (by decide +kernel) rfl
theorem aw479 : Cond.methodLink RL 53 yX9_knock ∈ AW := inT5 48 (by decide +kernel) rfl
theorem aw480 : Cond.instanceMethod yX9_knock ∈ AW := inT5 49 (by decide +kernel) rfl
theorem aw481 : Cond.selects RX9 yX9_knock yX9_knock ∈ AW := inT5 50 (by decide +kernel) rfl
theorem aw482 : Cond.code yX9_knock cX9_knock 3 (some .int) ∈ AW := inT5 51 (by decide +kernel) rfl
theorem aw483 : Cond.methodLink RX9 171 yX9_isPerson ∈ AW := inT5 52 (by decide +kernel) rfl
theorem aw484 : Cond.instanceMethod yX9_isPerson ∈ AW := inT5 54 (by decide +kernel) rfl
theorem aw485 : Cond.selects RX9 yX9_isPerson yX9_isPerson ∈ AW := inS 86 (by decide +kernel) rfl
theorem aw486 : Cond.code yX9_isPerson cX9_isPerson 2 (some .boolean) ∈ AW := inT5 55 (by decide +kernel) rfl
theorem aw487 : Cond.methodLink RX9 174 yX9_isDoor ∈ AW := inT5 56 (by decide +kernel) rfl
theorem aw488 : Cond.instanceMethod yX9_isDoor ∈ AW := inT5 58 (by decide +kernel) rfl
theorem aw489 : Cond.selects RX9 yX9_isDoor yX9_isDoor ∈ AW := inS 87 (by decide +kernel) rfl
theorem aw490 : Cond.code yX9_isDoor cX9_isDoor 2 (some .boolean) ∈ AW := inT5 59 (by decide +kernel) rfl
theorem aw491 : Cond.methodLink RX9 164 yX9_behind ∈ AW := inT5 60 (by decide +kernel) rfl
theorem aw492 : Cond.instanceMethod yX9_behind ∈ AW := inT5 62 (by decide +kernel) rfl
theorem aw493 : Cond.selects RX9 yX9_behind yX9_behind ∈ AW := inS 88 (by decide +kernel) rfl
theorem aw494 : Cond.code yX9_behind cX9_behind 4 (some .int) ∈ AW := inT5 63 (by decide +kernel) rfl
theorem aw495 : Cond.methodLink RX9 158 yX9_endOf ∈ AW := inT5 64 (by decide +kernel) rfl
theorem aw496 : Cond.instanceMethod yX9_endOf ∈ AW := inT5 66 (by decide +kernel) rfl
theorem aw497 : Cond.selects RX9 yX9_endOf yX9_endOf ∈ AW := inS 89 (by decide +kernel) rfl
theorem aw498 : Cond.code yX9_endOf cX9_endOf 4 (some .int) ∈ AW := inT5 67 (by decide +kernel) rfl
theorem aw499 : Cond.methodLink RX9 177 yX9_keepPast ∈ AW := inT5 68 (by decide +kernel) rfl
theorem aw500 : Cond.instanceMethod yX9_keepPast ∈ AW := inT5 70 (by decide +kernel) rfl
theorem aw501 : Cond.selects RX9 yX9_keepPast yX9_keepPast ∈ AW := inS 90 (by decide +kernel) rfl
theorem aw502 : Cond.code yX9_keepPast cX9_keepPast 2 none ∈ AW := inT5 71 (by decide +kernel) rfl
theorem aw503 : Cond.methodLink RX9 180 yX9_knocks ∈ AW := inT5 72 (by decide +kernel) rfl
theorem aw504 : Cond.instanceMethod yX9_knocks ∈ AW := inT5 74 (by decide +kernel) rfl
theorem aw505 : Cond.selects RX9 yX9_knocks yX9_knocks ∈ AW := inS 91 (by decide +kernel) rfl
theorem aw506 : Cond.code yX9_knocks cX9_knocks 4 (some .boolean) ∈ AW := inT5 75 (by decide +kernel) rfl
theorem aw507 : Cond.methodLink RX9 161 yX9_opens ∈ AW := inT5 76 (by decide +kernel) rfl
theorem aw508 : Cond.instanceMethod yX9_opens ∈ AW := inT5 78 (by decide +kernel) rfl
theorem aw509 : Cond.selects RX9 yX9_opens yX9_opens ∈ AW := inS 92 (by decide +kernel) rfl
theorem aw510 : Cond.code yX9_opens cX9_opens 4 (some .boolean) ∈ AW := inT5 79 (by decide +kernel) rfl
theorem aw511 : Cond.methodLink RX9 154 yX9_weights ∈ AW := inT5 80 (by decide +kernel) rfl
theorem aw512 : Cond.instanceMethod yX9_weights ∈ AW := inT5 82 (by decide +kernel) rfl
theorem aw513 : Cond.selects RX9 yX9_weights yX9_weights ∈ AW := inS 93 (by decide +kernel) rfl
theorem aw514 : Cond.code yX9_weights cX9_weights 9 (some .int) ∈ AW := inT5 83 (by decide +kernel) rfl
theorem aw515 : Cond.fieldLink RX9 145 "DoorVotesModel" "asleep" "I" ∈ AW := inT4 124 (by decide +kernel) rfl
theorem aw516 : Cond.methodLink RX9 148 yX9_favourOf ∈ AW := inT5 84 (by decide +kernel) rfl
theorem aw517 : Cond.instanceMethod yX9_favourOf ∈ AW := inT5 86 (by decide +kernel) rfl
theorem aw518 : Cond.selects RX9 yX9_favourOf yX9_favourOf ∈ AW := inS 94 (by decide +kernel) rfl
theorem aw519 : Cond.code yX9_favourOf cX9_favourOf 5 (some .int) ∈ AW := inT5 87 (by decide +kernel) rfl
theorem aw520 : Cond.methodLink RX9 142 yX9_plainFavour ∈ AW := inT5 88 (by decide +kernel) rfl
theorem aw521 : Cond.instanceMethod yX9_plainFavour ∈ AW := inT5 90 (by decide +kernel) rfl
theorem aw522 : Cond.selects RX9 yX9_plainFavour yX9_plainFavour ∈ AW := inS 95 (by decide +kernel) rfl
theorem aw523 : Cond.code yX9_plainFavour cX9_plainFavour 5 (some .int) ∈ AW := inT5 91 (by decide +kernel) rfl
theorem aw524 : Cond.methodLink RX9 151 yX9_weightOf ∈ AW := inT5 92 (by decide +kernel) rfl
theorem aw525 : Cond.instanceMethod yX9_weightOf ∈ AW := inT5 94 (by decide +kernel) rfl
theorem aw526 : Cond.selects RX9 yX9_weightOf yX9_weightOf ∈ AW := inS 96 (by decide +kernel) rfl
theorem aw527 : Cond.code yX9_weightOf cX9_weightOf 5 (some .int) ∈ AW := inT5 95 (by decide +kernel) rfl
theorem aw528 : Cond.methodLink RX9 135 yX9_timesOf ∈ AW := inT5 96 (by decide +kernel) rfl
theorem aw529 : Cond.instanceMethod yX9_timesOf ∈ AW := inT5 98 (by decide +kernel) rfl
theorem aw530 : Cond.selects RX9 yX9_timesOf yX9_timesOf ∈ AW := inS 97 (by decide +kernel) rfl
theorem aw531 : Cond.code yX9_timesOf cX9_timesOf 4 (some .int) ∈ AW := inT5 99 (by decide +kernel) rfl
theorem aw532 : Cond.methodLink RX9 139 yX9_freshOf ∈ AW := inT5 100 (by decide +kernel) rfl
theorem aw533 : Cond.instanceMethod yX9_freshOf ∈ AW := inT5 102 (by decide +kernel) rfl
theorem aw534 : Cond.selects RX9 yX9_freshOf yX9_freshOf ∈ AW := inS 98 (by decide +kernel) rfl
theorem aw535 : Cond.code yX9_freshOf cX9_freshOf 6 (some .int) ∈ AW := inT5 103 (by decide +kernel) rfl
theorem aw536 : Cond.methodLink RX9 167 yX9_goThrough ∈ AW := inT5 104 (by decide +kernel) rfl
theorem aw537 : Cond.instanceMethod yX9_goThrough ∈ AW := inT5 106 (by decide +kernel) rfl
theorem aw538 : Cond.selects RX9 yX9_goThrough yX9_goThrough ∈ AW := inS 99 (by decide +kernel) rfl
theorem aw539 : Cond.code yX9_goThrough cX9_goThrough 5 none ∈ AW := inT5 107 (by decide +kernel) rfl
theorem aw540 : Cond.methodLink RL 54 yX8_days ∈ AW := inT3 81 (by decide +kernel) rfl
theorem aw541 : Cond.instanceMethod yX8_days ∈ AW := inT3 82 (by decide +kernel) rfl
theorem aw542 : Cond.selects RX8 yX8_days yX8_days ∈ AW := inT3 83 (by decide +kernel) rfl
theorem aw543 : Cond.code yX8_days cX8_days 3 (some .int) ∈ AW := inT3 84 (by decide +kernel) rfl
theorem aw544 : Cond.methodLink RX8 180 yX8_isTown ∈ AW := inT3 85 (by decide +kernel) rfl
theorem aw545 : Cond.instanceMethod yX8_isTown ∈ AW := inT3 87 (by decide +kernel) rfl
theorem aw546 : Cond.selects RX8 yX8_isTown yX8_isTown ∈ AW := inS 44 (by decide +kernel) rfl
theorem aw547 : Cond.code yX8_isTown cX8_isTown 1 (some .boolean) ∈ AW := inT3 88 (by decide +kernel) rfl
theorem aw548 : Cond.methodLink RL 57 yX9_days ∈ AW := inT5 108 (by decide +kernel) rfl
theorem aw549 : Cond.instanceMethod yX9_days ∈ AW := inT5 109 (by decide +kernel) rfl
theorem aw550 : Cond.selects RX9 yX9_days yX9_days ∈ AW := inT5 110 (by decide +kernel) rfl
theorem aw551 : Cond.code yX9_days cX9_days 3 (some .int) ∈ AW := inT5 111 (by decide +kernel) rfl
theorem aw552 : Cond.constantLong RX9 183 (24) ∈ AW := inT5 112 (by decide +kernel) rfl
theorem aw553 : Cond.methodLink RL 58 yX8_gift ∈ AW := inT3 89 (by decide +kernel) rfl
theorem aw554 : Cond.instanceMethod yX8_gift ∈ AW := inT3 90 (by decide +kernel) rfl
theorem aw555 : Cond.selects RX8 yX8_gift yX8_gift ∈ AW := inT3 91 (by decide +kernel) rfl
theorem aw556 : Cond.code yX8_gift cX8_gift 4 (some .int) ∈ AW := inT3 92 (by decide +kernel) rfl
theorem aw557 : Cond.methodLink RL 61 yX9_gift ∈ AW := inT5 113 (by decide +kernel) rfl
theorem aw558 : Cond.instanceMethod yX9_gift ∈ AW := inT5 114 (by decide +kernel) rfl
theorem aw559 : Cond.selects RX9 yX9_gift yX9_gift ∈ AW := inT5 115 (by decide +kernel) rfl
theorem aw560 : Cond.code yX9_gift cX9_gift 3 (some .int) ∈ AW := inT5 116 (by decide +kernel) rfl
theorem aw561 : Cond.constantLong RX9 185 (-9) ∈ AW := inT5 117 (by decide +kernel) rfl
theorem aw562 : Cond.constantLong RX9 187 (9) ∈ AW := inT5 118 (by decide +kernel) rfl
theorem aw563 : Cond.methodLink RL 62 yX8_build ∈ AW := inT3 93 (by decide +kernel) rfl
theorem aw564 : Cond.instanceMethod yX8_build ∈ AW := inT3 94 (by decide +kernel) rfl
theorem aw565 : Cond.selects RX8 yX8_build yX8_build ∈ AW := inT3 95 (by decide +kernel) rfl
theorem aw566 : Cond.code yX8_build cX8_build 3 (some .int) ∈ AW := inT3 96 (by decide +kernel) rfl
theorem aw567 : Cond.methodLink RX8 189 yX8_isRoom ∈ AW := inT3 97 (by decide +kernel) rfl
theorem aw568 : Cond.instanceMethod yX8_isRoom ∈ AW := inT3 99 (by decide +kernel) rfl
theorem aw569 : Cond.selects RX8 yX8_isRoom yX8_isRoom ∈ AW := inS 45 (by decide +kernel) rfl
theorem aw570 : Cond.code yX8_isRoom cX8_isRoom 2 (some .boolean) ∈ AW := inT3 100 (by decide +kernel) rfl
theorem aw571 : Cond.methodLink RL 65 yX9_build ∈ AW := inT5 119 (by decide +kernel) rfl
theorem aw572 : Cond.instanceMethod yX9_build ∈ AW := inT5 120 (by decide +kernel) rfl
theorem aw573 : Cond.selects RX9 yX9_build yX9_build ∈ AW := inT5 121 (by decide +kernel) rfl
theorem aw574 : Cond.code yX9_build cX9_build 4 (some .int) ∈ AW := inT5 122 (by decide +kernel) rfl
theorem aw575 : Cond.methodLink RX9 189 yX9_isRoom ∈ AW := inT5 123 (by decide +kernel) rfl
theorem aw576 : Cond.instanceMethod yX9_isRoom ∈ AW := inT5 125 (by decide +kernel) rfl
theorem aw577 : Cond.selects RX9 yX9_isRoom yX9_isRoom ∈ AW := inS 100 (by decide +kernel) rfl
theorem aw578 : Cond.code yX9_isRoom cX9_isRoom 2 (some .boolean) ∈ AW := inT5 126 (by decide +kernel) rfl
theorem aw579 : Cond.methodLink RL 66 yX8_person ∈ AW := inT3 102 (by decide +kernel) rfl
theorem aw580 : Cond.instanceMethod yX8_person ∈ AW := inT3 103 (by decide +kernel) rfl
theorem aw581 : Cond.selects RX8 yX8_person yX8_person ∈ AW := inT3 104 (by decide +kernel) rfl
theorem aw582 : Cond.code yX8_person cX8_person 3 (some .int) ∈ AW := inT3 105 (by decide +kernel) rfl
theorem aw583 : Cond.instanceMethod yX6_timesOf ∈ AW := inT3 108 (by decide +kernel) rfl
theorem aw584 : Cond.selects RX6 yX6_timesOf yX6_timesOf ∈ AW := inS 46 (by decide +kernel) rfl
theorem aw585 : Cond.code yX6_timesOf cX6_timesOf 4 (some .int) ∈ AW := inT3 109 (by decide +kernel) rfl
theorem aw586 : Cond.methodLink RL 69 yX9_person ∈ AW := inT5 127 (by decide +kernel) rfl
theorem aw587 : Cond.instanceMethod yX9_person ∈ AW := inT5 128 (by decide +kernel) rfl
theorem aw588 : Cond.selects RX9 yX9_person yX9_person ∈ AW := inT5 129 (by decide +kernel) rfl
theorem aw589 : Cond.code yX9_person cX9_person 3 (some .int) ∈ AW := inT5 130 (by decide +kernel) rfl
theorem aw590 : Cond.methodLink RX9 192 yX9_allTimes ∈ AW := inT5 131 (by decide +kernel) rfl
theorem aw591 : Cond.instanceMethod yX9_allTimes ∈ AW := inT5 133 (by decide +kernel) rfl
theorem aw592 : Cond.selects RX9 yX9_allTimes yX9_allTimes ∈ AW := inS 101 (by decide +kernel) rfl
theorem aw593 : Cond.code yX9_allTimes cX9_allTimes 4 (some .int) ∈ AW := inT5 134 (by decide +kernel) rfl
theorem aw594 : Cond.methodLink RL 70 yX8_door ∈ AW := inT3 110 (by decide +kernel) rfl
theorem aw595 : Cond.instanceMethod yX8_door ∈ AW := inT3 111 (by decide +kernel) rfl
theorem aw596 : Cond.selects RX8 yX8_door yX8_door ∈ AW := inT3 112 (by decide +kernel) rfl
theorem aw597 : Cond.code yX8_door cX8_door 3 (some .int) ∈ AW := inT3 113 (by decide +kernel) rfl
theorem aw598 : Cond.instanceMethod yX6_passedThrough ∈ AW := inT3 116 (by decide +kernel) rfl
theorem aw599 : Cond.selects RX6 yX6_passedThrough yX6_passedThrough ∈ AW := inS 47 (by decide +kernel) rfl
theorem aw600 : Cond.code yX6_passedThrough cX6_passedThrough 4 (some .int) ∈ AW := inT3 117 (by decide +kernel) rfl
theorem aw601 : Cond.methodLink RL 73 yX9_door ∈ AW := inT5 135 (by decide +kernel) rfl
theorem aw602 : Cond.instanceMethod yX9_door ∈ AW := inT5 136 (by decide +kernel) rfl
theorem aw603 : Cond.selects RX9 yX9_door yX9_door ∈ AW := inT5 137 (by decide +kernel) rfl
theorem aw604 : Cond.code yX9_door cX9_door 3 (some .int) ∈ AW := inT5 138 (by decide +kernel) rfl
theorem aw605 : Cond.methodLink RX9 195 yX9_gone ∈ AW := inT5 139 (by decide +kernel) rfl
theorem aw606 : Cond.instanceMethod yX9_gone ∈ AW := inT5 141 (by decide +kernel) rfl
theorem aw607 : Cond.selects RX9 yX9_gone yX9_gone ∈ AW := inS 102 (by decide +kernel) rfl
theorem aw608 : Cond.code yX9_gone cX9_gone 4 (some .int) ∈ AW := inT5 142 (by decide +kernel) rfl
theorem aw609 : Cond.methodLink RL 74 yX8_at ∈ AW := inT3 118 (by decide +kernel) rfl
theorem aw610 : Cond.instanceMethod yX8_at ∈ AW := inT3 119 (by decide +kernel) rfl
theorem aw611 : Cond.selects RX8 yX8_at yX8_at ∈ AW := inT3 120 (by decide +kernel) rfl
theorem aw612 : Cond.code yX8_at cX8_at 5 (some .int) ∈ AW := inT3 121 (by decide +kernel) rfl
theorem aw613 : Cond.methodLink RX8 237 yX8_votesAt ∈ AW := inT3 125 (by decide +kernel) rfl
theorem aw614 : Cond.instanceMethod yX8_votesAt ∈ AW := inT3 127 (by decide +kernel) rfl
theorem aw615 : Cond.selects RX8 yX8_votesAt yX8_votesAt ∈ AW := inS 48 (by decide +kernel) rfl
theorem aw616 : Cond.code yX8_votesAt cX8_votesAt 4 (some .int) ∈ AW := inT3 128 (by decide +kernel) rfl
theorem aw617 : Cond.instanceMethod yX2_weightsOf ∈ AW := inT3 131 (by decide +kernel) rfl
theorem aw618 : Cond.selects RX2 yX2_weightsOf yX2_weightsOf ∈ AW := inS 49 (by decide +kernel) rfl
theorem aw619 : Cond.code yX2_weightsOf cX2_weightsOf 4 (some .int) ∈ AW := inT3 132 (by decide +kernel) rfl
theorem aw620 : Cond.methodLink RL 77 yX9_at ∈ AW := inT5 143 (by decide +kernel) rfl
theorem aw621 : Cond.instanceMethod yX9_at ∈ AW := inT5 144 (by decide +kernel) rfl
theorem aw622 : Cond.selects RX9 yX9_at yX9_at ∈ AW := inT5 145 (by decide +kernel) rfl
theorem aw623 : Cond.code yX9_at cX9_at 4 (some .int) ∈ AW := inT5 146 (by decide +kernel) rfl
theorem aw624 : Cond.methodLink RL 78 yX8_favour ∈ AW := inT3 133 (by decide +kernel) rfl
theorem aw625 : Cond.instanceMethod yX8_favour ∈ AW := inT3 134 (by decide +kernel) rfl
theorem aw626 : Cond.selects RX8 yX8_favour yX8_favour ∈ AW := inT3 135 (by decide +kernel) rfl
theorem aw627 : Cond.code yX8_favour cX8_favour 3 (some .int) ∈ AW := inT3 136 (by decide +kernel) rfl
theorem aw628 : Cond.methodLink RL 81 yX9_favour ∈ AW := inT5 147 (by decide +kernel) rfl
theorem aw629 : Cond.instanceMethod yX9_favour ∈ AW := inT5 148 (by decide +kernel) rfl
theorem aw630 : Cond.selects RX9 yX9_favour yX9_favour ∈ AW := inT5 149 (by decide +kernel) rfl
theorem aw631 : Cond.code yX9_favour cX9_favour 3 (some .int) ∈ AW := inT5 150 (by decide +kernel) rfl
theorem aw632 : Cond.methodLink RL 82 yX8_way ∈ AW := inT3 138 (by decide +kernel) rfl
theorem aw633 : Cond.instanceMethod yX8_way ∈ AW := inT3 139 (by decide +kernel) rfl
theorem aw634 : Cond.selects RX8 yX8_way yX8_way ∈ AW := inT3 140 (by decide +kernel) rfl
theorem aw635 : Cond.code yX8_way cX8_way 5 (some .int) ∈ AW := inT3 141 (by decide +kernel) rfl
theorem aw636 : Cond.instanceMethod yX7_take ∈ AW := inT3 144 (by decide +kernel) rfl
theorem aw637 : Cond.selects RX7 yX7_take yX7_take ∈ AW := inS 50 (by decide +kernel) rfl
theorem aw638 : Cond.code yX7_take cX7_take 5 none ∈ AW := inT3 145 (by decide +kernel) rfl
theorem aw639 : Cond.fieldLink RX7 24 "DoorVotes$Ways" "open" "I" ∈ AW := inT1 216 (by decide +kernel) rfl
theorem aw640 : Cond.methodLink RX7 45 yX7_add ∈ AW := inT3 148 (by decide +kernel) rfl
theorem aw641 : Cond.instanceMethod yX7_add ∈ AW := inT3 150 (by decide +kernel) rfl
theorem aw642 : Cond.selects RX7 yX7_add yX7_add ∈ AW := inS 51 (by decide +kernel) rfl
theorem aw643 : Cond.code yX7_add cX7_add 4 none ∈ AW := inT3 151 (by decide +kernel) rfl
theorem aw644 : Cond.instanceMethod yX7_measureFrom ∈ AW := inT3 154 (by decide +kernel) rfl
theorem aw645 : Cond.selects RX7 yX7_measureFrom yX7_measureFrom ∈ AW := inS 52 (by decide +kernel) rfl
theorem aw646 : Cond.code yX7_measureFrom cX7_measureFrom 4 none ∈ AW := inT3 155 (by decide +kernel) rfl
theorem aw647 : Cond.constant RX7 49 (-1000000) ∈ AW := inT3 156 (by decide +kernel) rfl
theorem aw648 : Cond.methodLink RX7 50 yJ7_fill_53178 ∈ AW := inT3 157 (by decide +kernel) rfl
theorem aw649 : Cond.methodLink RX7 56 yX7_spread ∈ AW := inT3 158 (by decide +kernel) rfl
theorem aw650 : Cond.instanceMethod yX7_spread ∈ AW := inT3 160 (by decide +kernel) rfl
theorem aw651 : Cond.selects RX7 yX7_spread yX7_spread ∈ AW := inS 53 (by decide +kernel) rfl
theorem aw652 : Cond.code yX7_spread cX7_spread 4 none ∈ AW := inT3 161 (by decide +kernel) rfl
theorem aw653 : Cond.instanceMethod yX7_firstDoorFrom ∈ AW := inT3 164 (by decide +kernel) rfl
theorem aw654 : Cond.selects RX7 yX7_firstDoorFrom yX7_firstDoorFrom ∈ AW := inS 54 (by decide +kernel) rfl
theorem aw655 : Cond.code yX7_firstDoorFrom cX7_firstDoorFrom 6 (some .int) ∈ AW := inT3 165 (by decide +kernel) rfl
theorem aw656 : Cond.methodLink RL 85 yX9_way ∈ AW := inT5 151 (by decide +kernel) rfl
theorem aw657 : Cond.instanceMethod yX9_way ∈ AW := inT5 152 (by decide +kernel) rfl
theorem aw658 : Cond.selects RX9 yX9_way yX9_way ∈ AW := inT5 153 (by decide +kernel) rfl
theorem aw659 : Cond.code yX9_way cX9_way 8 (some .int) ∈ AW := inT5 154 (by decide +kernel) rfl
theorem aw660 : Cond.fieldLink RX9 198 "DoorVotesModel" "open" "I" ∈ AW := inT4 125 (by decide +kernel) rfl
theorem aw661 : Cond.methodLink RX9 210 yX9_layOpen ∈ AW := inT5 155 (by decide +kernel) rfl
theorem aw662 : Cond.instanceMethod yX9_layOpen ∈ AW := inT5 157 (by decide +kernel) rfl
theorem aw663 : Cond.selects RX9 yX9_layOpen yX9_layOpen ∈ AW := inS 103 (by decide +kernel) rfl
theorem aw664 : Cond.code yX9_layOpen cX9_layOpen 3 none ∈ AW := inT5 158 (by decide +kernel) rfl
theorem aw665 : Cond.fieldLink RX9 201 "DoorVotesModel" "newA" "I" ∈ AW := inT4 126 (by decide +kernel) rfl
theorem aw666 : Cond.fieldLink RX9 204 "DoorVotesModel" "newB" "I" ∈ AW := inT4 127 (by decide +kernel) rfl
theorem aw667 : Cond.methodLink RX9 214 yX9_farFrom ∈ AW := inT5 159 (by decide +kernel) rfl
theorem aw668 : Cond.instanceMethod yX9_farFrom ∈ AW := inT5 161 (by decide +kernel) rfl
theorem aw669 : Cond.selects RX9 yX9_farFrom yX9_farFrom ∈ AW := inS 104 (by decide +kernel) rfl
theorem aw670 : Cond.code yX9_farFrom cX9_farFrom 5 (some .int) ∈ AW := inT5 162 (by decide +kernel) rfl
theorem aw671 : Cond.methodLink RX9 207 yX9_further ∈ AW := inT5 163 (by decide +kernel) rfl
theorem aw672 : Cond.instanceMethod yX9_further ∈ AW := inT5 165 (by decide +kernel) rfl
theorem aw673 : Cond.selects RX9 yX9_further yX9_further ∈ AW := inS 105 (by decide +kernel) rfl
theorem aw674 : Cond.code yX9_further cX9_further 5 (some .int) ∈ AW := inT5 166 (by decide +kernel) rfl
theorem aw675 : Cond.methodLink RL 86 yX8_reach ∈ AW := inT3 166 (by decide +kernel) rfl
theorem aw676 : Cond.instanceMethod yX8_reach ∈ AW := inT3 167 (by decide +kernel) rfl
theorem aw677 : Cond.selects RX8 yX8_reach yX8_reach ∈ AW := inT3 168 (by decide +kernel) rfl
theorem aw678 : Cond.code yX8_reach cX8_reach 2 (some .int) ∈ AW := inT3 169 (by decide +kernel) rfl
theorem aw679 : Cond.methodLink RX8 257 yX8_roomsReached ∈ AW := inT3 170 (by decide +kernel) rfl
theorem aw680 : Cond.instanceMethod yX8_roomsReached ∈ AW := inT3 172 (by decide +kernel) rfl
theorem aw681 : Cond.selects RX8 yX8_roomsReached yX8_roomsReached ∈ AW := inS 55 (by decide +kernel) rfl
theorem aw682 : Cond.code yX8_roomsReached cX8_roomsReached 2 (some .int) ∈ AW := inT3 173 (by decide +kernel) rfl
theorem aw683 : Cond.instanceMethod yX7_roomsMeasured ∈ AW := inT3 176 (by decide +kernel) rfl
theorem aw684 : Cond.selects RX7 yX7_roomsMeasured yX7_roomsMeasured ∈ AW := inS 56 (by decide +kernel) rfl
theorem aw685 : Cond.code yX7_roomsMeasured cX7_roomsMeasured 3 (some .int) ∈ AW := inT3 177 (by decide +kernel) rfl
theorem aw686 : Cond.methodLink RL 89 yX9_reach ∈ AW := inT5 167 (by decide +kernel) rfl
theorem aw687 : Cond.instanceMethod yX9_reach ∈ AW := inT5 168 (by decide +kernel) rfl
theorem aw688 : Cond.selects RX9 yX9_reach yX9_reach ∈ AW := inT5 169 (by decide +kernel) rfl
theorem aw689 : Cond.code yX9_reach cX9_reach 2 (some .int) ∈ AW := inT5 170 (by decide +kernel) rfl
theorem aw690 : Cond.methodLink RX9 217 yX9_reachOf ∈ AW := inT5 171 (by decide +kernel) rfl
theorem aw691 : Cond.instanceMethod yX9_reachOf ∈ AW := inT5 173 (by decide +kernel) rfl
theorem aw692 : Cond.selects RX9 yX9_reachOf yX9_reachOf ∈ AW := inS 106 (by decide +kernel) rfl
theorem aw693 : Cond.code yX9_reachOf cX9_reachOf 4 (some .int) ∈ AW := inT5 174 (by decide +kernel) rfl
theorem aw694 : Cond.methodLink RL 90 yX8_locked ∈ AW := inT3 178 (by decide +kernel) rfl
theorem aw695 : Cond.instanceMethod yX8_locked ∈ AW := inT3 179 (by decide +kernel) rfl
theorem aw696 : Cond.selects RX8 yX8_locked yX8_locked ∈ AW := inT3 180 (by decide +kernel) rfl
theorem aw697 : Cond.code yX8_locked cX8_locked 3 (some .int) ∈ AW := inT3 181 (by decide +kernel) rfl
theorem aw698 : Cond.methodLink RL 93 yX9_locked ∈ AW := inT5 175 (by decide +kernel) rfl
theorem aw699 : Cond.instanceMethod yX9_locked ∈ AW := inT5 176 (by decide +kernel) rfl
theorem aw700 : Cond.selects RX9 yX9_locked yX9_locked ∈ AW := inT5 177 (by decide +kernel) rfl
theorem aw701 : Cond.code yX9_locked cX9_locked 3 (some .int) ∈ AW := inT5 178 (by decide +kernel) rfl
theorem aw702 : Cond.methodLink RX9 220 yX9_bits ∈ AW := inT5 179 (by decide +kernel) rfl
theorem aw703 : Cond.static yX9_bits ∈ AW := inT5 180 (by decide +kernel) rfl
theorem aw704 : Cond.code yX9_bits cX9_bits 3 (some .int) ∈ AW := inT5 181 (by decide +kernel) rfl
theorem aw705 : Cond.methodLink RL 94 yX8_gifts ∈ AW := inT3 182 (by decide +kernel) rfl
theorem aw706 : Cond.instanceMethod yX8_gifts ∈ AW := inT3 183 (by decide +kernel) rfl
theorem aw707 : Cond.selects RX8 yX8_gifts yX8_gifts ∈ AW := inT3 184 (by decide +kernel) rfl
theorem aw708 : Cond.code yX8_gifts cX8_gifts 4 (some .int) ∈ AW := inT3 185 (by decide +kernel) rfl
theorem aw709 : Cond.instanceMethod yX5_gather ∈ AW := inT3 188 (by decide +kernel) rfl
theorem aw710 : Cond.selects RX5 yX5_gather yX5_gather ∈ AW := inS 57 (by decide +kernel) rfl
theorem aw711 : Cond.code yX5_gather cX5_gather 5 none ∈ AW := inT3 189 (by decide +kernel) rfl
theorem aw712 : Cond.fieldLink RX5 21 "DoorVotes$Sway" "voters" "I" ∈ AW := inT1 237 (by decide +kernel) rfl
theorem aw713 : Cond.methodLink RX5 42 yX5_offer ∈ AW := inT3 191 (by decide +kernel) rfl
theorem aw714 : Cond.instanceMethod yX5_offer ∈ AW := inT3 193 (by decide +kernel) rfl
theorem aw715 : Cond.selects RX5 yX5_offer yX5_offer ∈ AW := inS 58 (by decide +kernel) rfl
theorem aw716 : Cond.code yX5_offer cX5_offer 6 none ∈ AW := inT3 194 (by decide +kernel) rfl
theorem aw717 : Cond.instanceMethod yX5_seek ∈ AW := inT3 197 (by decide +kernel) rfl
theorem aw718 : Cond.selects RX5 yX5_seek yX5_seek ∈ AW := inS 59 (by decide +kernel) rfl
theorem aw719 : Cond.code yX5_seek cX5_seek 5 none ∈ AW := inT3 198 (by decide +kernel) rfl
theorem aw720 : Cond.constant RX5 50 (-1000000) ∈ AW := inT3 200 (by decide +kernel) rfl
theorem aw721 : Cond.fieldLink RX5 51 "DoorVotes$Sway" "fewest" "I" ∈ AW := inT1 238 (by decide +kernel) rfl
theorem aw722 : Cond.fieldLink RX5 54 "DoorVotes$Sway" "people" "I" ∈ AW := inT2 0 (by decide +kernel) rfl
theorem aw723 : Cond.instanceMethod yX2_margin ∈ AW := inT3 203 (by decide +kernel) rfl
theorem aw724 : Cond.selects RX2 yX2_margin yX2_margin ∈ AW := inS 60 (by decide +kernel) rfl
theorem aw725 : Cond.code yX2_margin cX2_margin 1 (some .int) ∈ AW := inT3 204 (by decide +kernel) rfl
theorem aw726 : Cond.methodLink RX2 39 yX2_weightsOf ∈ AW := inT3 205 (by decide +kernel) rfl
theorem aw727 : Cond.methodLink RX5 59 yX5_weigh ∈ AW := inT3 206 (by decide +kernel) rfl
theorem aw728 : Cond.instanceMethod yX5_weigh ∈ AW := inT3 208 (by decide +kernel) rfl
theorem aw729 : Cond.selects RX5 yX5_weigh yX5_weigh ∈ AW := inS 61 (by decide +kernel) rfl
theorem aw730 : Cond.code yX5_weigh cX5_weigh 9 none ∈ AW := inT3 209 (by decide +kernel) rfl
theorem aw731 : Cond.methodLink RL 97 yX9_gifts ∈ AW := inT5 182 (by decide +kernel) rfl
theorem aw732 : Cond.instanceMethod yX9_gifts ∈ AW := inT5 183 (by decide +kernel) rfl
theorem aw733 : Cond.selects RX9 yX9_gifts yX9_gifts ∈ AW := inT5 184 (by decide +kernel) rfl
theorem aw734 : Cond.code yX9_gifts cX9_gifts 8 (some .int) ∈ AW := inT5 185 (by decide +kernel) rfl
theorem aw735 : Cond.fieldLink RX9 226 "DoorVotesModel" "taken" "I" ∈ AW := inT4 128 (by decide +kernel) rfl
theorem aw736 : Cond.fieldLink RX9 229 "DoorVotesModel" "takers" "I" ∈ AW := inT4 129 (by decide +kernel) rfl
theorem aw737 : Cond.methodLink RX9 232 yX9_pollOf ∈ AW := inT5 186 (by decide +kernel) rfl
theorem aw738 : Cond.instanceMethod yX9_pollOf ∈ AW := inT5 188 (by decide +kernel) rfl
theorem aw739 : Cond.selects RX9 yX9_pollOf yX9_pollOf ∈ AW := inS 107 (by decide +kernel) rfl
theorem aw740 : Cond.code yX9_pollOf cX9_pollOf 9 (some .int) ∈ AW := inT5 189 (by decide +kernel) rfl
theorem aw741 : Cond.methodLink RX9 223 yX9_giftsFor ∈ AW := inT5 190 (by decide +kernel) rfl
theorem aw742 : Cond.instanceMethod yX9_giftsFor ∈ AW := inT5 192 (by decide +kernel) rfl
theorem aw743 : Cond.selects RX9 yX9_giftsFor yX9_giftsFor ∈ AW := inS 108 (by decide +kernel) rfl
theorem aw744 : Cond.code yX9_giftsFor cX9_giftsFor 6 (some .int) ∈ AW := inT5 193 (by decide +kernel) rfl
theorem aw745 : Cond.methodLink RX9 235 yX9_layTaken ∈ AW := inT5 194 (by decide +kernel) rfl
theorem aw746 : Cond.instanceMethod yX9_layTaken ∈ AW := inT5 196 (by decide +kernel) rfl
theorem aw747 : Cond.selects RX9 yX9_layTaken yX9_layTaken ∈ AW := inS 109 (by decide +kernel) rfl
theorem aw748 : Cond.code yX9_layTaken cX9_layTaken 6 none ∈ AW := inT5 197 (by decide +kernel) rfl
theorem aw749 : Cond.methodLink RL 98 yX8_parade ∈ AW := inT3 210 (by decide +kernel) rfl
theorem aw750 : Cond.instanceMethod yX8_parade ∈ AW := inT3 211 (by decide +kernel) rfl
theorem aw751 : Cond.selects RX8 yX8_parade yX8_parade ∈ AW := inT3 212 (by decide +kernel) rfl
theorem aw752 : Cond.code yX8_parade cX8_parade 9 (some .int) ∈ AW := inT3 213 (by decide +kernel) rfl
theorem aw753 : Cond.constant RX8 277 (-1000000) ∈ AW := inT3 215 (by decide +kernel) rfl
theorem aw754 : Cond.methodLink RX8 278 yJ6_bitCount_0f7a4 ∈ AW := inT3 216 (by decide +kernel) rfl
theorem aw755 : Cond.static yJ6_bitCount_0f7a4 ∈ AW := inT3 217 (by decide +kernel) rfl
theorem aw756 : Cond.code yJ6_bitCount_0f7a4 cJ6_bitCount_0f7a4 1 (some .int) ∈ AW := inT3 218 (by decide +kernel) rfl
theorem aw757 : Cond.constant RJ6 265 (1431655765) ∈ AW := inT3 219 (by decide +kernel) rfl
theorem aw758 : Cond.constant RJ6 266 (858993459) ∈ AW := inT3 220 (by decide +kernel) rfl
theorem aw759 : Cond.constant RJ6 267 (252645135) ∈ AW := inT3 221 (by decide +kernel) rfl
theorem aw760 : Cond.instanceMethod yX2_opensBehind ∈ AW := inT3 224 (by decide +kernel) rfl
theorem aw761 : Cond.selects RX2 yX2_opensBehind yX2_opensBehind ∈ AW := inS 62 (by decide +kernel) rfl
theorem aw762 : Cond.code yX2_opensBehind cX2_opensBehind 8 (some .boolean) ∈ AW := inT3 225 (by decide +kernel) rfl
theorem aw763 : Cond.methodLink RL 101 yX9_parade ∈ AW := inT5 198 (by decide +kernel) rfl
theorem aw764 : Cond.instanceMethod yX9_parade ∈ AW := inT5 199 (by decide +kernel) rfl
theorem aw765 : Cond.selects RX9 yX9_parade yX9_parade ∈ AW := inT5 200 (by decide +kernel) rfl
theorem aw766 : Cond.code yX9_parade cX9_parade 7 (some .int) ∈ AW := inT5 201 (by decide +kernel) rfl
theorem aw767 : Cond.methodLink RL 102 yX8_newDoor ∈ AW := inT3 226 (by decide +kernel) rfl
theorem aw768 : Cond.instanceMethod yX8_newDoor ∈ AW := inT3 227 (by decide +kernel) rfl
theorem aw769 : Cond.selects RX8 yX8_newDoor yX8_newDoor ∈ AW := inT3 228 (by decide +kernel) rfl
theorem aw770 : Cond.code yX8_newDoor cX8_newDoor 9 (some .int) ∈ AW := inT3 229 (by decide +kernel) rfl
theorem aw771 : Cond.instanceMethod yX7_farWith ∈ AW := inT3 232 (by decide +kernel) rfl
theorem aw772 : Cond.selects RX7 yX7_farWith yX7_farWith ∈ AW := inS 63 (by decide +kernel) rfl
theorem aw773 : Cond.code yX7_farWith cX7_farWith 5 (some .int) ∈ AW := inT3 233 (by decide +kernel) rfl
theorem aw774 : Cond.methodLink RX7 59 yX7_measureFrom ∈ AW := inT3 234 (by decide +kernel) rfl
theorem aw775 : Cond.methodLink RL 105 yX9_newDoor ∈ AW := inT5 202 (by decide +kernel) rfl
theorem aw776 : Cond.instanceMethod yX9_newDoor ∈ AW := inT5 203 (by decide +kernel) rfl
theorem aw777 : Cond.selects RX9 yX9_newDoor yX9_newDoor ∈ AW := inT5 204 (by decide +kernel) rfl
theorem aw778 : Cond.code yX9_newDoor cX9_newDoor 10 (some .int) ∈ AW := inT5 205 (by decide +kernel) rfl
theorem aw779 : Cond.methodLink RL 106 yX8_bents ∈ AW := inT3 235 (by decide +kernel) rfl
theorem aw780 : Cond.instanceMethod yX8_bents ∈ AW := inT3 236 (by decide +kernel) rfl
theorem aw781 : Cond.selects RX8 yX8_bents yX8_bents ∈ AW := inT3 237 (by decide +kernel) rfl
theorem aw782 : Cond.code yX8_bents cX8_bents 11 (some .int) ∈ AW := inT3 238 (by decide +kernel) rfl
theorem aw783 : Cond.methodLink RX8 294 yX8_isSeen ∈ AW := inT3 239 (by decide +kernel) rfl
theorem aw784 : Cond.instanceMethod yX8_isSeen ∈ AW := inT4 1 (by decide +kernel) rfl
theorem aw785 : Cond.selects RX8 yX8_isSeen yX8_isSeen ∈ AW := inS 64 (by decide +kernel) rfl
theorem aw786 : Cond.code yX8_isSeen cX8_isSeen 5 (some .boolean) ∈ AW := inT4 2 (by decide +kernel) rfl
theorem aw787 : Cond.methodLink RX8 298 yX8_isSo ∈ AW := inT4 3 (by decide +kernel) rfl
theorem aw788 : Cond.instanceMethod yX8_isSo ∈ AW := inT4 5 (by decide +kernel) rfl
theorem aw789 : Cond.selects RX8 yX8_isSo yX8_isSo ∈ AW := inS 65 (by decide +kernel) rfl
theorem aw790 : Cond.code yX8_isSo cX8_isSo 7 (some .boolean) ∈ AW := inT4 6 (by decide +kernel) rfl
theorem aw791 : Cond.methodLink RL 110 yX9_bents ∈ AW := inT5 206 (by decide +kernel) rfl
theorem aw792 : Cond.instanceMethod yX9_bents ∈ AW := inT5 207 (by decide +kernel) rfl
theorem aw793 : Cond.selects RX9 yX9_bents yX9_bents ∈ AW := inT5 208 (by decide +kernel) rfl
theorem aw794 : Cond.code yX9_bents cX9_bents 12 (some .int) ∈ AW := inT5 209 (by decide +kernel) rfl
theorem aw795 : Cond.methodLink RX9 238 yX9_isAsked ∈ AW := inT5 210 (by decide +kernel) rfl
theorem aw796 : Cond.instanceMethod yX9_isAsked ∈ AW := inT5 212 (by decide +kernel) rfl
theorem aw797 : Cond.selects RX9 yX9_isAsked yX9_isAsked ∈ AW := inS 110 (by decide +kernel) rfl
theorem aw798 : Cond.code yX9_isAsked cX9_isAsked 5 (some .boolean) ∈ AW := inT5 213 (by decide +kernel) rfl
theorem aw799 : Cond.methodLink RX9 242 yX9_noItems ∈ AW := inT5 214 (by decide +kernel) rfl
theorem aw800 : Cond.instanceMethod yX9_noItems ∈ AW := inT5 216 (by decide +kernel) rfl
theorem aw801 : Cond.selects RX9 yX9_noItems yX9_noItems ∈ AW := inS 111 (by decide +kernel) rfl
theorem aw802 : Cond.code yX9_noItems cX9_noItems 4 (some .int) ∈ AW := inT5 217 (by decide +kernel) rfl
theorem aw803 : Cond.methodLink RX9 245 yX9_isSo ∈ AW := inT5 218 (by decide +kernel) rfl
theorem aw804 : Cond.instanceMethod yX9_isSo ∈ AW := inT5 220 (by decide +kernel) rfl
theorem aw805 : Cond.selects RX9 yX9_isSo yX9_isSo ∈ AW := inS 112 (by decide +kernel) rfl
theorem aw806 : Cond.code yX9_isSo cX9_isSo 8 (some .boolean) ∈ AW := inT5 221 (by decide +kernel) rfl
theorem aw807 : Cond.methodLink RL 111 yX8_who ∈ AW := inT4 7 (by decide +kernel) rfl
theorem aw808 : Cond.instanceMethod yX8_who ∈ AW := inT4 8 (by decide +kernel) rfl
theorem aw809 : Cond.selects RX8 yX8_who yX8_who ∈ AW := inT4 9 (by decide +kernel) rfl
theorem aw810 : Cond.code yX8_who cX8_who 9 (some .int) ∈ AW := inT4 10 (by decide +kernel) rfl
theorem aw811 : Cond.methodLink RL 114 yX9_who ∈ AW := inT5 222 (by decide +kernel) rfl
theorem aw812 : Cond.instanceMethod yX9_who ∈ AW := inT5 223 (by decide +kernel) rfl
theorem aw813 : Cond.selects RX9 yX9_who yX9_who ∈ AW := inT5 224 (by decide +kernel) rfl
theorem aw814 : Cond.code yX9_who cX9_who 9 (some .int) ∈ AW := inT5 225 (by decide +kernel) rfl
theorem aw815 : Cond.methodLink RL 115 yX8_awake ∈ AW := inT4 11 (by decide +kernel) rfl
theorem aw816 : Cond.instanceMethod yX8_awake ∈ AW := inT4 12 (by decide +kernel) rfl
theorem aw817 : Cond.selects RX8 yX8_awake yX8_awake ∈ AW := inT4 13 (by decide +kernel) rfl
theorem aw818 : Cond.code yX8_awake cX8_awake 11 (some .long) ∈ AW := inT4 14 (by decide +kernel) rfl
theorem aw819 : Cond.constantLong RX8 305 (-1000001) ∈ AW := inT4 15 (by decide +kernel) rfl
theorem aw820 : Cond.constantLong RX8 307 (10) ∈ AW := inT4 16 (by decide +kernel) rfl
theorem aw821 : Cond.methodLink RX8 312 yX8_casesOf ∈ AW := inT4 18 (by decide +kernel) rfl
theorem aw822 : Cond.static yX8_casesOf ∈ AW := inT4 19 (by decide +kernel) rfl
theorem aw823 : Cond.code yX8_casesOf cX8_casesOf 6 (some .long) ∈ AW := inT4 20 (by decide +kernel) rfl
theorem aw824 : Cond.methodLink RX8 316 yX8_commonDivisor ∈ AW := inT4 21 (by decide +kernel) rfl
theorem aw825 : Cond.static yX8_commonDivisor ∈ AW := inT4 22 (by decide +kernel) rfl
theorem aw826 : Cond.code yX8_commonDivisor cX8_commonDivisor 7 (some .long) ∈ AW := inT4 23 (by decide +kernel) rfl
theorem aw827 : Cond.methodLink RL 119 yX9_awake ∈ AW := inT5 226 (by decide +kernel) rfl
theorem aw828 : Cond.instanceMethod yX9_awake ∈ AW := inT5 227 (by decide +kernel) rfl
theorem aw829 : Cond.selects RX9 yX9_awake yX9_awake ∈ AW := inT5 228 (by decide +kernel) rfl
theorem aw830 : Cond.code yX9_awake cX9_awake 15 (some .long) ∈ AW := inT5 229 (by decide +kernel) rfl
theorem aw831 : Cond.constantLong RX9 248 (10) ∈ AW := inT5 230 (by decide +kernel) rfl
theorem aw832 : Cond.constantLong RX9 250 (-1000001) ∈ AW := inT5 231 (by decide +kernel) rfl
theorem aw833 : Cond.methodLink RL 120 yX8_drawn ∈ AW := inT4 24 (by decide +kernel) rfl
theorem aw834 : Cond.instanceMethod yX8_drawn ∈ AW := inT4 25 (by decide +kernel) rfl
theorem aw835 : Cond.selects RX8 yX8_drawn yX8_drawn ∈ AW := inT4 26 (by decide +kernel) rfl
theorem aw836 : Cond.code yX8_drawn cX8_drawn 10 (some .int) ∈ AW := inT4 27 (by decide +kernel) rfl
theorem aw837 : Cond.constant RX8 320 (999999) ∈ AW := inT4 28 (by decide +kernel) rfl
theorem aw838 : Cond.constantLong RX8 321 (16807) ∈ AW := inT4 29 (by decide +kernel) rfl
theorem aw839 : Cond.constantLong RX8 323 (2147483647) ∈ AW := inT4 30 (by decide +kernel) rfl
theorem aw840 : Cond.constantLong RX8 325 (4) ∈ AW := inT4 31 (by decide +kernel) rfl
theorem aw841 : Cond.instanceMethod yX6_roomsAdded ∈ AW := inT4 34 (by decide +kernel) rfl
theorem aw842 : Cond.selects RX6 yX6_roomsAdded yX6_roomsAdded ∈ AW := inS 66 (by decide +kernel) rfl
theorem aw843 : Cond.code yX6_roomsAdded cX6_roomsAdded 3 (some .int) ∈ AW := inT4 35 (by decide +kernel) rfl
theorem aw844 : Cond.methodLink RL 123 yX9_drawn ∈ AW := inT5 232 (by decide +kernel) rfl
theorem aw845 : Cond.instanceMethod yX9_drawn ∈ AW := inT5 233 (by decide +kernel) rfl
theorem aw846 : Cond.selects RX9 yX9_drawn yX9_drawn ∈ AW := inT5 234 (by decide +kernel) rfl
theorem aw847 : Cond.code yX9_drawn cX9_drawn 11 (some .int) ∈ AW := inT5 235 (by decide +kernel) rfl
theorem aw848 : Cond.constantLong RX9 252 (60) ∈ AW := inT5 236 (by decide +kernel) rfl
theorem aw849 : Cond.constantLong RX9 254 (999999) ∈ AW := inT5 237 (by decide +kernel) rfl
theorem aw850 : Cond.constantLong RX9 256 (16807) ∈ AW := inT5 238 (by decide +kernel) rfl
theorem aw851 : Cond.constantLong RX9 258 (2147483647) ∈ AW := inT5 239 (by decide +kernel) rfl
theorem aw852 : Cond.constantLong RX9 260 (4) ∈ AW := inT6 0 (by decide +kernel) rfl
theorem aw853 : Cond.methodLink RL 124 yX8_image ∈ AW := inT4 36 (by decide +kernel) rfl
theorem aw854 : Cond.instanceMethod yX8_image ∈ AW := inT4 37 (by decide +kernel) rfl
theorem aw855 : Cond.selects RX8 yX8_image yX8_image ∈ AW := inT4 38 (by decide +kernel) rfl
theorem aw856 : Cond.code yX8_image cX8_image 2 (some .int) ∈ AW := inT4 39 (by decide +kernel) rfl
theorem aw857 : Cond.methodLink RL 127 yX9_image ∈ AW := inT6 1 (by decide +kernel) rfl
theorem aw858 : Cond.instanceMethod yX9_image ∈ AW := inT6 2 (by decide +kernel) rfl
theorem aw859 : Cond.selects RX9 yX9_image yX9_image ∈ AW := inT6 3 (by decide +kernel) rfl
theorem aw860 : Cond.code yX9_image cX9_image 2 (some .int) ∈ AW := inT6 4 (by decide +kernel) rfl
theorem aw861 : Cond.methodLink RL 128 yX8_restore ∈ AW := inT4 40 (by decide +kernel) rfl
theorem aw862 : Cond.instanceMethod yX8_restore ∈ AW := inT4 41 (by decide +kernel) rfl
theorem aw863 : Cond.selects RX8 yX8_restore yX8_restore ∈ AW := inT4 42 (by decide +kernel) rfl
theorem aw864 : Cond.code yX8_restore cX8_restore 2 (some .int) ∈ AW := inT4 43 (by decide +kernel) rfl
theorem aw865 : Cond.methodLink RL 131 yX9_restore ∈ AW := inT6 5 (by decide +kernel) rfl
theorem aw866 : Cond.instanceMethod yX9_restore ∈ AW := inT6 6 (by decide +kernel) rfl
theorem aw867 : Cond.selects RX9 yX9_restore yX9_restore ∈ AW := inT6 7 (by decide +kernel) rfl
theorem aw868 : Cond.code yX9_restore cX9_restore 2 (some .int) ∈ AW := inT6 8 (by decide +kernel) rfl
theorem aw869 : Cond.methodLink RL 132 yX8_kind ∈ AW := inT4 44 (by decide +kernel) rfl
theorem aw870 : Cond.instanceMethod yX8_kind ∈ AW := inT4 45 (by decide +kernel) rfl
theorem aw871 : Cond.selects RX8 yX8_kind yX8_kind ∈ AW := inT4 46 (by decide +kernel) rfl
theorem aw872 : Cond.code yX8_kind cX8_kind 2 (some .int) ∈ AW := inT4 47 (by decide +kernel) rfl
theorem aw873 : Cond.methodLink RL 135 yX9_kind ∈ AW := inT6 9 (by decide +kernel) rfl
theorem aw874 : Cond.instanceMethod yX9_kind ∈ AW := inT6 10 (by decide +kernel) rfl
theorem aw875 : Cond.selects RX9 yX9_kind yX9_kind ∈ AW := inT6 11 (by decide +kernel) rfl
theorem aw876 : Cond.code yX9_kind cX9_kind 2 (some .int) ∈ AW := inT6 12 (by decide +kernel) rfl
theorem aw877 : Cond.methodLink RL 136 yX8_as ∈ AW := inT4 48 (by decide +kernel) rfl
theorem aw878 : Cond.instanceMethod yX8_as ∈ AW := inT4 49 (by decide +kernel) rfl
theorem aw879 : Cond.selects RX8 yX8_as yX8_as ∈ AW := inT4 50 (by decide +kernel) rfl
theorem aw880 : Cond.code yX8_as cX8_as 3 (some .int) ∈ AW := inT4 51 (by decide +kernel) rfl
theorem aw881 : Cond.methodLink RX8 330 yX8_isOfKind ∈ AW := inT4 52 (by decide +kernel) rfl
theorem aw882 : Cond.static yX8_isOfKind ∈ AW := inT4 53 (by decide +kernel) rfl
theorem aw883 : Cond.code yX8_isOfKind cX8_isOfKind 4 (some .boolean) ∈ AW := inT4 54 (by decide +kernel) rfl
theorem aw884 : Cond.fieldLink RX8 364 "DoorVotes" "KIND_ABOVE" "[I" ∈ AW := inT4 55 (by decide +kernel) rfl
theorem aw885 : Cond.methodLink RL 139 yX9_as ∈ AW := inT6 13 (by decide +kernel) rfl
theorem aw886 : Cond.instanceMethod yX9_as ∈ AW := inT6 14 (by decide +kernel) rfl
theorem aw887 : Cond.selects RX9 yX9_as yX9_as ∈ AW := inT6 15 (by decide +kernel) rfl
theorem aw888 : Cond.code yX9_as cX9_as 3 (some .int) ∈ AW := inT6 16 (by decide +kernel) rfl
theorem aw889 : Cond.constantLong RX9 262 (5) ∈ AW := inT6 17 (by decide +kernel) rfl
theorem aw890 : Cond.methodLink RX9 264 yX9_isOf ∈ AW := inT6 18 (by decide +kernel) rfl
theorem aw891 : Cond.instanceMethod yX9_isOf ∈ AW := inT6 20 (by decide +kernel) rfl
theorem aw892 : Cond.selects RX9 yX9_isOf yX9_isOf ∈ AW := inS 113 (by decide +kernel) rfl
theorem aw893 : Cond.code yX9_isOf cX9_isOf 4 (some .boolean) ∈ AW := inT6 21 (by decide +kernel) rfl
theorem aw894 : Cond.methodLink RL 140 yX8_ask ∈ AW := inT4 57 (by decide +kernel) rfl
theorem aw895 : Cond.instanceMethod yX8_ask ∈ AW := inT4 58 (by decide +kernel) rfl
theorem aw896 : Cond.selects RX8 yX8_ask yX8_ask ∈ AW := inT4 59 (by decide +kernel) rfl
theorem aw897 : Cond.code yX8_ask cX8_ask 3 (some .int) ∈ AW := inT4 60 (by decide +kernel) rfl
theorem aw898 : Cond.instanceMethod yX1_answer ∈ AW := inT4 63 (by decide +kernel) rfl
theorem aw899 : Cond.selects RX1 yX1_answer yX1_answer ∈ AW := inS 67 (by decide +kernel) rfl
theorem aw900 : Cond.code yX1_answer cX1_answer 8 (some .int) ∈ AW := inT4 64 (by decide +kernel) rfl
theorem aw901 : Cond.fieldLink RX1 24 "DoorVotes$Asker" "SIZE_BODIES" "[I" ∈ AW := inT4 66 (by decide +kernel) rfl
theorem aw902 : Cond.fieldLink RX1 27 "DoorVotes$Asker" "MARK_BODIES" "[I" ∈ AW := inT4 68 (by decide +kernel) rfl
theorem aw903 : Cond.constant RX1 30 (-1000000) ∈ AW := inT4 70 (by decide +kernel) rfl
theorem aw904 : Cond.methodLink RX1 31 yX1_give ∈ AW := inT4 71 (by decide +kernel) rfl
theorem aw905 : Cond.instanceMethod yX1_give ∈ AW := inT4 73 (by decide +kernel) rfl
theorem aw906 : Cond.selects RX1 yX1_give yX1_give ∈ AW := inS 68 (by decide +kernel) rfl
theorem aw907 : Cond.code yX1_give cX1_give 5 (some .int) ∈ AW := inT4 74 (by decide +kernel) rfl
theorem aw908 : Cond.methodLink RX1 38 yX1_leave ∈ AW := inT4 75 (by decide +kernel) rfl
theorem aw909 : Cond.instanceMethod yX1_leave ∈ AW := inT4 77 (by decide +kernel) rfl
theorem aw910 : Cond.selects RX1 yX1_leave yX1_leave ∈ AW := inS 69 (by decide +kernel) rfl
theorem aw911 : Cond.code yX1_leave cX1_leave 2 none ∈ AW := inT4 78 (by decide +kernel) rfl
theorem aw912 : Cond.fieldLink RX1 52 "DoorVotes$Asker" "traced" "I" ∈ AW := inT1 91 (by decide +kernel) rfl
theorem aw913 : Cond.methodLink RX1 46 yX1_answer ∈ AW := inT4 80 (by decide +kernel) rfl
theorem aw914 : Cond.methodLink RL 143 yX9_ask ∈ AW := inT6 22 (by decide +kernel) rfl
theorem aw915 : Cond.instanceMethod yX9_ask ∈ AW := inT6 23 (by decide +kernel) rfl
theorem aw916 : Cond.selects RX9 yX9_ask yX9_ask ∈ AW := inT6 24 (by decide +kernel) rfl
theorem aw917 : Cond.code yX9_ask cX9_ask 3 (some .int) ∈ AW := inT6 25 (by decide +kernel) rfl
theorem aw918 : Cond.fieldLink RX9 267 "DoorVotesModel" "traced" "I" ∈ AW := inT4 120 (by decide +kernel) rfl
theorem aw919 : Cond.methodLink RX9 291 yX9_sizeOf ∈ AW := inT6 26 (by decide +kernel) rfl
theorem aw920 : Cond.instanceMethod yX9_sizeOf ∈ AW := inT6 28 (by decide +kernel) rfl
theorem aw921 : Cond.selects RX9 yX9_sizeOf yX9_sizeOf ∈ AW := inS 114 (by decide +kernel) rfl
theorem aw922 : Cond.code yX9_sizeOf cX9_sizeOf 2 (some .int) ∈ AW := inT6 29 (by decide +kernel) rfl
theorem aw923 : Cond.methodLink RX9 270 yX9_begin ∈ AW := inT6 30 (by decide +kernel) rfl
theorem aw924 : Cond.instanceMethod yX9_begin ∈ AW := inT6 32 (by decide +kernel) rfl
theorem aw925 : Cond.selects RX9 yX9_begin yX9_begin ∈ AW := inS 115 (by decide +kernel) rfl
theorem aw926 : Cond.code yX9_begin cX9_begin 2 none ∈ AW := inT6 33 (by decide +kernel) rfl
theorem aw927 : Cond.methodLink RX9 279 yX9_passersSize ∈ AW := inT6 34 (by decide +kernel) rfl
theorem aw928 : Cond.instanceMethod yX9_passersSize ∈ AW := inT6 36 (by decide +kernel) rfl
theorem aw929 : Cond.selects RX9 yX9_passersSize yX9_passersSize ∈ AW := inS 116 (by decide +kernel) rfl
theorem aw930 : Cond.code yX9_passersSize cX9_passersSize 3 (some .int) ∈ AW := inT6 37 (by decide +kernel) rfl
theorem aw931 : Cond.methodLink RX9 273 yX9_lentSize ∈ AW := inT6 38 (by decide +kernel) rfl
theorem aw932 : Cond.instanceMethod yX9_lentSize ∈ AW := inT6 40 (by decide +kernel) rfl
theorem aw933 : Cond.selects RX9 yX9_lentSize yX9_lentSize ∈ AW := inS 117 (by decide +kernel) rfl
theorem aw934 : Cond.code yX9_lentSize cX9_lentSize 2 (some .int) ∈ AW := inT6 41 (by decide +kernel) rfl
theorem aw935 : Cond.methodLink RX9 276 yX9_mark ∈ AW := inT6 42 (by decide +kernel) rfl
theorem aw936 : Cond.instanceMethod yX9_mark ∈ AW := inT6 44 (by decide +kernel) rfl
theorem aw937 : Cond.selects RX9 yX9_mark yX9_mark ∈ AW := inS 118 (by decide +kernel) rfl
theorem aw938 : Cond.code yX9_mark cX9_mark 2 (some .int) ∈ AW := inT6 45 (by decide +kernel) rfl
theorem aw939 : Cond.methodLink RX9 288 yX9_passersMark ∈ AW := inT6 46 (by decide +kernel) rfl
theorem aw940 : Cond.instanceMethod yX9_passersMark ∈ AW := inT6 48 (by decide +kernel) rfl
theorem aw941 : Cond.selects RX9 yX9_passersMark yX9_passersMark ∈ AW := inS 119 (by decide +kernel) rfl
theorem aw942 : Cond.code yX9_passersMark cX9_passersMark 2 (some .int) ∈ AW := inT6 49 (by decide +kernel) rfl
theorem aw943 : Cond.methodLink RX9 285 yX9_lentMark ∈ AW := inT6 50 (by decide +kernel) rfl
theorem aw944 : Cond.instanceMethod yX9_lentMark ∈ AW := inT6 52 (by decide +kernel) rfl
theorem aw945 : Cond.selects RX9 yX9_lentMark yX9_lentMark ∈ AW := inS 120 (by decide +kernel) rfl
theorem aw946 : Cond.code yX9_lentMark cX9_lentMark 2 (some .int) ∈ AW := inT6 53 (by decide +kernel) rfl
theorem aw947 : Cond.methodLink RX9 282 yX9_childrenSize ∈ AW := inT6 54 (by decide +kernel) rfl
theorem aw948 : Cond.instanceMethod yX9_childrenSize ∈ AW := inT6 56 (by decide +kernel) rfl
theorem aw949 : Cond.selects RX9 yX9_childrenSize yX9_childrenSize ∈ AW := inS 121 (by decide +kernel) rfl
theorem aw950 : Cond.code yX9_childrenSize cX9_childrenSize 2 (some .int) ∈ AW := inT6 57 (by decide +kernel) rfl
theorem aw951 : Cond.methodLink RX9 294 yX9_childrenMark ∈ AW := inT6 58 (by decide +kernel) rfl
theorem aw952 : Cond.instanceMethod yX9_childrenMark ∈ AW := inT6 60 (by decide +kernel) rfl
theorem aw953 : Cond.selects RX9 yX9_childrenMark yX9_childrenMark ∈ AW := inS 122 (by decide +kernel) rfl
theorem aw954 : Cond.code yX9_childrenMark cX9_childrenMark 3 (some .int) ∈ AW := inT6 61 (by decide +kernel) rfl
theorem aw955 : Cond.methodLink RL 144 yX8_trace ∈ AW := inT4 82 (by decide +kernel) rfl
theorem aw956 : Cond.instanceMethod yX8_trace ∈ AW := inT4 83 (by decide +kernel) rfl
theorem aw957 : Cond.selects RX8 yX8_trace yX8_trace ∈ AW := inT4 84 (by decide +kernel) rfl
theorem aw958 : Cond.code yX8_trace cX8_trace 2 (some .int) ∈ AW := inT4 85 (by decide +kernel) rfl
theorem aw959 : Cond.methodLink RL 147 yX9_trace ∈ AW := inT6 62 (by decide +kernel) rfl
theorem aw960 : Cond.instanceMethod yX9_trace ∈ AW := inT6 63 (by decide +kernel) rfl
theorem aw961 : Cond.selects RX9 yX9_trace yX9_trace ∈ AW := inT6 64 (by decide +kernel) rfl
theorem aw962 : Cond.code yX9_trace cX9_trace 2 (some .int) ∈ AW := inT6 65 (by decide +kernel) rfl
theorem aw963 : Cond.methodLink RL 148 yX8_count ∈ AW := inT4 86 (by decide +kernel) rfl
theorem aw964 : Cond.instanceMethod yX8_count ∈ AW := inT4 87 (by decide +kernel) rfl
theorem aw965 : Cond.selects RX8 yX8_count yX8_count ∈ AW := inT4 88 (by decide +kernel) rfl
theorem aw966 : Cond.code yX8_count cX8_count 2 (some .int) ∈ AW := inT4 89 (by decide +kernel) rfl
theorem aw967 : Cond.methodLink RX8 343 yX8_rowsThere ∈ AW := inT4 90 (by decide +kernel) rfl
theorem aw968 : Cond.instanceMethod yX8_rowsThere ∈ AW := inT4 92 (by decide +kernel) rfl
theorem aw969 : Cond.selects RX8 yX8_rowsThere yX8_rowsThere ∈ AW := inS 70 (by decide +kernel) rfl
theorem aw970 : Cond.code yX8_rowsThere cX8_rowsThere 3 (some .int) ∈ AW := inT4 93 (by decide +kernel) rfl
theorem aw971 : Cond.instanceMethod yX6_allTimes ∈ AW := inT4 96 (by decide +kernel) rfl
theorem aw972 : Cond.selects RX6 yX6_allTimes yX6_allTimes ∈ AW := inS 71 (by decide +kernel) rfl
theorem aw973 : Cond.code yX6_allTimes cX6_allTimes 3 (some .int) ∈ AW := inT4 97 (by decide +kernel) rfl
theorem aw974 : Cond.methodLink RX6 94 yX6_timesOf ∈ AW := inT4 98 (by decide +kernel) rfl
theorem aw975 : Cond.methodLink RL 151 yX9_count ∈ AW := inT6 66 (by decide +kernel) rfl
theorem aw976 : Cond.instanceMethod yX9_count ∈ AW := inT6 67 (by decide +kernel) rfl
theorem aw977 : Cond.selects RX9 yX9_count yX9_count ∈ AW := inT6 68 (by decide +kernel) rfl
theorem aw978 : Cond.code yX9_count cX9_count 4 (some .int) ∈ AW := inT6 69 (by decide +kernel) rfl
theorem aw979 : Cond.methodLink RL 152 yX8_status ∈ AW := inT4 99 (by decide +kernel) rfl
theorem aw980 : Cond.instanceMethod yX8_status ∈ AW := inT4 100 (by decide +kernel) rfl
theorem aw981 : Cond.selects RX8 yX8_status yX8_status ∈ AW := inT4 101 (by decide +kernel) rfl
theorem aw982 : Cond.code yX8_status cX8_status 1 (some .int) ∈ AW := inT4 102 (by decide +kernel) rfl
theorem aw983 : Cond.methodLink RL 155 yX9_status ∈ AW := inT6 70 (by decide +kernel) rfl
theorem aw984 : Cond.instanceMethod yX9_status ∈ AW := inT6 71 (by decide +kernel) rfl
theorem aw985 : Cond.selects RX9 yX9_status yX9_status ∈ AW := inT6 72 (by decide +kernel) rfl
theorem aw986 : Cond.code yX9_status cX9_status 1 (some .int) ∈ AW := inT6 73 (by decide +kernel) rfl
theorem mem_all {ws : List Cond} (ps : List Nat) (h : ws = ps.filterMap (fun i => lw_tbl[i]?)) (hg : ws.all goodWord = true) : ∀ w ∈ ws, w ∈ AW := by
  intro w hw
  refine List.mem_filter.mpr ⟨?_, List.all_eq_true.mp hg w hw⟩
  rw [h] at hw
  obtain ⟨i, -, hi⟩ := List.mem_filterMap.mp hw
  exact List.mem_of_getElem? hi
theorem iaX0 : ∀ w ∈ wsX00, w ∈ AW := mem_all [191, 193, 195, 197, 199, 201, 203] (by decide +kernel) (by decide +kernel)
theorem iaX1 : ∀ w ∈ wsX10, w ∈ AW := mem_all [216, 218] (by decide +kernel) (by decide +kernel)
theorem iaX2 : ∀ w ∈ wsX20, w ∈ AW := mem_all [321, 323, 325] (by decide +kernel) (by decide +kernel)
theorem iaX3 : ∀ w ∈ wsX30, w ∈ AW := mem_all [163, 165, 167, 169, 171, 173] (by decide +kernel) (by decide +kernel)
theorem iaX4 : ∀ w ∈ wsX40, w ∈ AW := mem_all [388, 390, 392] (by decide +kernel) (by decide +kernel)
theorem iaX5 : ∀ w ∈ wsX50, w ∈ AW := mem_all [365, 367, 369, 371, 373, 375] (by decide +kernel) (by decide +kernel)
theorem iaX6 : ∀ w ∈ wsX60, w ∈ AW := mem_all [276, 278, 280, 282, 284, 286, 288, 290, 292, 294, 296, 298, 300, 302, 304, 306] (by decide +kernel) (by decide +kernel)
theorem iaX7 : ∀ w ∈ wsX70, w ∈ AW := mem_all [340, 342, 344, 346, 348] (by decide +kernel) (by decide +kernel)
theorem iaX8 : ∀ w ∈ wsX80, w ∈ AW := mem_all [407, 409, 411, 413, 415, 417, 419, 421, 423, 425, 427, 429] (by decide +kernel) (by decide +kernel)
theorem iaX9 : ∀ w ∈ wsX90, w ∈ AW := mem_all [973, 975, 977, 979, 981, 983, 985, 987, 989, 991, 993, 995, 997, 999, 1001, 1003, 1005, 1007, 1009, 1011, 1013] (by decide +kernel) (by decide +kernel)
end
section
theorem AWcall {cy : Cond} (h : cy ∈ AW) : GoodIn AW (cy :: AW) := fun w hw => by
  rcases List.mem_cons.mp hw with e | e
  · rw [e]; exact ⟨h, (AWgood cy h).2⟩
  · exact ⟨e, (AWgood w e).2⟩
def NF : List (String × Nat × String × String × String × String) := [(RX8, 117, "DoorVotes$Reader", "length", "I", "DoorVotes"), (RX8, 135, "DoorVotes$Reader", "place", "I", "DoorVotes"), (RX8, 128, "DoorVotes$Reader", "fault", "I", "DoorVotes"), (RX8, 148, "DoorVotes$Acts", "kept", "I", "DoorVotes"), (RX8, 340, "DoorVotes$Asker", "trace", "[I", "DoorVotes"), (RX8, 333, "DoorVotes$Asker", "traced", "I", "DoorVotes"), (RX3, 68, "DoorVotes$Town", "rooms", "I", "DoorVotes"), (RX8, 287, "DoorVotes$Town", "rooms", "I", "DoorVotes"), (RX7, 28, "DoorVotes$Town", "doors", "I", "DoorVotes"), (RX3, 65, "DoorVotes$Town", "doors", "I", "DoorVotes"), (RX0, 59, "DoorVotes$Town", "doors", "I", "DoorVotes"), (RX8, 192, "DoorVotes$Town", "doors", "I", "DoorVotes"), (RX2, 18, "DoorVotes$Town", "people", "I", "DoorVotes"), (RX5, 25, "DoorVotes$Town", "people", "I", "DoorVotes"), (RX3, 78, "DoorVotes$Town", "people", "I", "DoorVotes"), (RX8, 145, "DoorVotes$Town", "people", "I", "DoorVotes"), (RX3, 85, "DoorVotes$Town", "ties", "I", "DoorVotes"), (RX8, 349, "DoorVotes$Town", "ties", "I", "DoorVotes"), (RX0, 53, "DoorVotes$Town", "day", "I", "DoorVotes"), (RX8, 183, "DoorVotes$Town", "day", "I", "DoorVotes"), (RX7, 43, "DoorVotes$Town", "sideA", "[I", "DoorVotes"), (RX8, 213, "DoorVotes$Town", "sideA", "[I", "DoorVotes"), (RX7, 44, "DoorVotes$Town", "sideB", "[I", "DoorVotes"), (RX8, 216, "DoorVotes$Town", "sideB", "[I", "DoorVotes"), (RX1, 15, "DoorVotes$Town", "kind", "[I", "DoorVotes"), (RX8, 302, "DoorVotes$Town", "kind", "[I", "DoorVotes"), (RX8, 198, "DoorVotes$Town", "room", "[I", "DoorVotes"), (RX1, 49, "DoorVotes$Town", "bent", "[I", "DoorVotes"), (RX8, 201, "DoorVotes$Town", "bent", "[I", "DoorVotes"), (RX0, 56, "DoorVotes$Town", "gifts", "[I", "DoorVotes"), (RX8, 186, "DoorVotes$Town", "gifts", "[I", "DoorVotes"), (RX3, 91, "DoorVotes$Town", "kin", "[I", "DoorVotes"), (RX8, 207, "DoorVotes$Town", "kin", "[I", "DoorVotes"), (RX3, 94, "DoorVotes$Town", "feuds", "[I", "DoorVotes"), (RX8, 210, "DoorVotes$Town", "feuds", "[I", "DoorVotes"), (RX0, 43, "DoorVotes$Town", "times", "[I", "DoorVotes"), (RX8, 225, "DoorVotes$Town", "times", "[I", "DoorVotes"), (RX0, 46, "DoorVotes$Town", "last", "[I", "DoorVotes"), (RX8, 228, "DoorVotes$Town", "last", "[I", "DoorVotes"), (RX5, 30, "DoorVotes$Ballot", "weight", "[I", "DoorVotes"), (RX5, 35, "DoorVotes$Ballot", "vote", "[I", "DoorVotes"), (RX8, 251, "DoorVotes$Ways", "far", "[I", "DoorVotes"), (RX8, 270, "DoorVotes$Sway", "fewest", "I", "DoorVotes"), (RX8, 273, "DoorVotes$Sway", "people", "I", "DoorVotes"), (RX8, 103, "DoorVotes$Row", "items", "[I", "DoorVotes"), (RX8, 99, "DoorVotes$Row", "lane", "I", "DoorVotes"), (RX1, 35, "DoorVotes", "KIND_ABOVE", "[I", "DoorVotes")]
def NM : List (String × Nat × MethodName × String) := [(RX8, 17, yX3_init, "DoorVotes"), (RX8, 24, yX0_init, "DoorVotes"), (RX8, 31, yX1_init, "DoorVotes"), (RX8, 38, yX6_init, "DoorVotes"), (RX8, 52, yX2_init, "DoorVotes"), (RX8, 59, yX7_init, "DoorVotes"), (RX8, 66, yX5_init, "DoorVotes"), (RX8, 71, yX4_init, "DoorVotes"), (RX8, 81, yX4_begin, "DoorVotes"), (RX8, 88, yX4_findingOf, "DoorVotes"), (RX8, 92, yX4_put, "DoorVotes"), (RX8, 95, yX4_isMissing, "DoorVotes"), (RX8, 113, yX4_end, "DoorVotes"), (RX8, 121, yX3_take, "DoorVotes"), (RX8, 124, yX3_readInto, "DoorVotes"), (RX3, 108, yX8_within, "DoorVotes"), (RX3, 52, yX6_begin, "DoorVotes"), (RX3, 71, yX6_addDoor, "DoorVotes"), (RX3, 81, yX6_addPerson, "DoorVotes"), (RX3, 88, yX6_tiedTo, "DoorVotes"), (RX3, 97, yX6_addTie, "DoorVotes"), (RX8, 138, yX6_become, "DoorVotes"), (RX8, 142, yX0_forget, "DoorVotes"), (RX8, 152, yX0_takeBack, "DoorVotes"), (RX0, 38, yX6_cellOf, "DoorVotes"), (RX0, 62, yX6_cross, "DoorVotes"), (RX8, 162, yX6_isAtDoor, "DoorVotes"), (RX8, 260, yX2_hold, "DoorVotes"), (RX2, 27, yX6_weightOf, "DoorVotes"), (RX2, 31, yX6_favourOf, "DoorVotes"), (RX8, 356, yX2_opens, "DoorVotes"), (RX8, 169, yX0_keep, "DoorVotes"), (RX8, 173, yX0_remember, "DoorVotes"), (RX8, 177, yX6_pass, "DoorVotes"), (RX8, 195, yX6_addDoor, "DoorVotes"), (RX8, 204, yX6_timesOf, "DoorVotes"), (RX8, 219, yX6_passedThrough, "DoorVotes"), (RX8, 222, yX6_cellOf, "DoorVotes"), (RX8, 231, yX6_freshIn, "DoorVotes"), (RX8, 234, yX6_weightOf, "DoorVotes"), (RX8, 358, yX2_weightsOf, "DoorVotes"), (RX8, 241, yX6_favourOf, "DoorVotes"), (RX8, 244, yX7_take, "DoorVotes"), (RX7, 33, yX2_hold, "DoorVotes"), (RX7, 39, yX2_opens, "DoorVotes"), (RX8, 247, yX7_measureFrom, "DoorVotes"), (RX8, 254, yX7_firstDoorFrom, "DoorVotes"), (RX8, 361, yX7_roomsMeasured, "DoorVotes"), (RX8, 263, yX5_gather, "DoorVotes"), (RX5, 38, yX6_leaningOf, "DoorVotes"), (RX8, 266, yX5_seek, "DoorVotes"), (RX5, 46, yX2_opens, "DoorVotes"), (RX5, 55, yX2_margin, "DoorVotes"), (RX8, 274, yX6_mark, "DoorVotes"), (RX8, 283, yX2_opensBehind, "DoorVotes"), (RX8, 290, yX7_farWith, "DoorVotes"), (RX8, 309, yX2_opensAwake, "DoorVotes"), (RX8, 327, yX6_roomsAdded, "DoorVotes"), (RX8, 336, yX1_answer, "DoorVotes"), (RX1, 20, yX8_within, "DoorVotes"), (RX1, 42, yX6_timesOf, "DoorVotes"), (RX8, 346, yX6_allTimes, "DoorVotes")]
theorem nf0 : (RX8, 117, "DoorVotes$Reader", "length", "I", "DoorVotes") ∈ NF := List.mem_of_getElem? (i := 0) rfl
theorem nf1 : (RX8, 135, "DoorVotes$Reader", "place", "I", "DoorVotes") ∈ NF := List.mem_of_getElem? (i := 1) rfl
theorem nf2 : (RX8, 128, "DoorVotes$Reader", "fault", "I", "DoorVotes") ∈ NF := List.mem_of_getElem? (i := 2) rfl
theorem nf3 : (RX8, 148, "DoorVotes$Acts", "kept", "I", "DoorVotes") ∈ NF := List.mem_of_getElem? (i := 3) rfl
theorem nf4 : (RX8, 340, "DoorVotes$Asker", "trace", "[I", "DoorVotes") ∈ NF := List.mem_of_getElem? (i := 4) rfl
theorem nf5 : (RX8, 333, "DoorVotes$Asker", "traced", "I", "DoorVotes") ∈ NF := List.mem_of_getElem? (i := 5) rfl
theorem nf6 : (RX3, 68, "DoorVotes$Town", "rooms", "I", "DoorVotes") ∈ NF := List.mem_of_getElem? (i := 6) rfl
theorem nf7 : (RX8, 287, "DoorVotes$Town", "rooms", "I", "DoorVotes") ∈ NF := List.mem_of_getElem? (i := 7) rfl
theorem nf8 : (RX7, 28, "DoorVotes$Town", "doors", "I", "DoorVotes") ∈ NF := List.mem_of_getElem? (i := 8) rfl
theorem nf9 : (RX3, 65, "DoorVotes$Town", "doors", "I", "DoorVotes") ∈ NF := List.mem_of_getElem? (i := 9) rfl
theorem nf10 : (RX0, 59, "DoorVotes$Town", "doors", "I", "DoorVotes") ∈ NF := List.mem_of_getElem? (i := 10) rfl
theorem nf11 : (RX8, 192, "DoorVotes$Town", "doors", "I", "DoorVotes") ∈ NF := List.mem_of_getElem? (i := 11) rfl
theorem nf12 : (RX2, 18, "DoorVotes$Town", "people", "I", "DoorVotes") ∈ NF := List.mem_of_getElem? (i := 12) rfl
theorem nf13 : (RX5, 25, "DoorVotes$Town", "people", "I", "DoorVotes") ∈ NF := List.mem_of_getElem? (i := 13) rfl
theorem nf14 : (RX3, 78, "DoorVotes$Town", "people", "I", "DoorVotes") ∈ NF := List.mem_of_getElem? (i := 14) rfl
theorem nf15 : (RX8, 145, "DoorVotes$Town", "people", "I", "DoorVotes") ∈ NF := List.mem_of_getElem? (i := 15) rfl
theorem nf16 : (RX3, 85, "DoorVotes$Town", "ties", "I", "DoorVotes") ∈ NF := List.mem_of_getElem? (i := 16) rfl
theorem nf17 : (RX8, 349, "DoorVotes$Town", "ties", "I", "DoorVotes") ∈ NF := List.mem_of_getElem? (i := 17) rfl
theorem nf18 : (RX0, 53, "DoorVotes$Town", "day", "I", "DoorVotes") ∈ NF := List.mem_of_getElem? (i := 18) rfl
theorem nf19 : (RX8, 183, "DoorVotes$Town", "day", "I", "DoorVotes") ∈ NF := List.mem_of_getElem? (i := 19) rfl
theorem nf20 : (RX7, 43, "DoorVotes$Town", "sideA", "[I", "DoorVotes") ∈ NF := List.mem_of_getElem? (i := 20) rfl
theorem nf21 : (RX8, 213, "DoorVotes$Town", "sideA", "[I", "DoorVotes") ∈ NF := List.mem_of_getElem? (i := 21) rfl
theorem nf22 : (RX7, 44, "DoorVotes$Town", "sideB", "[I", "DoorVotes") ∈ NF := List.mem_of_getElem? (i := 22) rfl
theorem nf23 : (RX8, 216, "DoorVotes$Town", "sideB", "[I", "DoorVotes") ∈ NF := List.mem_of_getElem? (i := 23) rfl
theorem nf24 : (RX1, 15, "DoorVotes$Town", "kind", "[I", "DoorVotes") ∈ NF := List.mem_of_getElem? (i := 24) rfl
theorem nf25 : (RX8, 302, "DoorVotes$Town", "kind", "[I", "DoorVotes") ∈ NF := List.mem_of_getElem? (i := 25) rfl
theorem nf26 : (RX8, 198, "DoorVotes$Town", "room", "[I", "DoorVotes") ∈ NF := List.mem_of_getElem? (i := 26) rfl
theorem nf27 : (RX1, 49, "DoorVotes$Town", "bent", "[I", "DoorVotes") ∈ NF := List.mem_of_getElem? (i := 27) rfl
theorem nf28 : (RX8, 201, "DoorVotes$Town", "bent", "[I", "DoorVotes") ∈ NF := List.mem_of_getElem? (i := 28) rfl
theorem nf29 : (RX0, 56, "DoorVotes$Town", "gifts", "[I", "DoorVotes") ∈ NF := List.mem_of_getElem? (i := 29) rfl
theorem nf30 : (RX8, 186, "DoorVotes$Town", "gifts", "[I", "DoorVotes") ∈ NF := List.mem_of_getElem? (i := 30) rfl
theorem nf31 : (RX3, 91, "DoorVotes$Town", "kin", "[I", "DoorVotes") ∈ NF := List.mem_of_getElem? (i := 31) rfl
theorem nf32 : (RX8, 207, "DoorVotes$Town", "kin", "[I", "DoorVotes") ∈ NF := List.mem_of_getElem? (i := 32) rfl
theorem nf33 : (RX3, 94, "DoorVotes$Town", "feuds", "[I", "DoorVotes") ∈ NF := List.mem_of_getElem? (i := 33) rfl
theorem nf34 : (RX8, 210, "DoorVotes$Town", "feuds", "[I", "DoorVotes") ∈ NF := List.mem_of_getElem? (i := 34) rfl
theorem nf35 : (RX0, 43, "DoorVotes$Town", "times", "[I", "DoorVotes") ∈ NF := List.mem_of_getElem? (i := 35) rfl
theorem nf36 : (RX8, 225, "DoorVotes$Town", "times", "[I", "DoorVotes") ∈ NF := List.mem_of_getElem? (i := 36) rfl
theorem nf37 : (RX0, 46, "DoorVotes$Town", "last", "[I", "DoorVotes") ∈ NF := List.mem_of_getElem? (i := 37) rfl
theorem nf38 : (RX8, 228, "DoorVotes$Town", "last", "[I", "DoorVotes") ∈ NF := List.mem_of_getElem? (i := 38) rfl
theorem nf39 : (RX5, 30, "DoorVotes$Ballot", "weight", "[I", "DoorVotes") ∈ NF := List.mem_of_getElem? (i := 39) rfl
theorem nf40 : (RX5, 35, "DoorVotes$Ballot", "vote", "[I", "DoorVotes") ∈ NF := List.mem_of_getElem? (i := 40) rfl
theorem nf41 : (RX8, 251, "DoorVotes$Ways", "far", "[I", "DoorVotes") ∈ NF := List.mem_of_getElem? (i := 41) rfl
theorem nf42 : (RX8, 270, "DoorVotes$Sway", "fewest", "I", "DoorVotes") ∈ NF := List.mem_of_getElem? (i := 42) rfl
theorem nf43 : (RX8, 273, "DoorVotes$Sway", "people", "I", "DoorVotes") ∈ NF := List.mem_of_getElem? (i := 43) rfl
theorem nf44 : (RX8, 103, "DoorVotes$Row", "items", "[I", "DoorVotes") ∈ NF := List.mem_of_getElem? (i := 44) rfl
theorem nf45 : (RX8, 99, "DoorVotes$Row", "lane", "I", "DoorVotes") ∈ NF := List.mem_of_getElem? (i := 45) rfl
theorem nf46 : (RX1, 35, "DoorVotes", "KIND_ABOVE", "[I", "DoorVotes") ∈ NF := List.mem_of_getElem? (i := 46) rfl
theorem nm0 : (RX8, 17, yX3_init, "DoorVotes") ∈ NM := List.mem_of_getElem? (i := 0) rfl
theorem nm1 : (RX8, 24, yX0_init, "DoorVotes") ∈ NM := List.mem_of_getElem? (i := 1) rfl
theorem nm2 : (RX8, 31, yX1_init, "DoorVotes") ∈ NM := List.mem_of_getElem? (i := 2) rfl
theorem nm3 : (RX8, 38, yX6_init, "DoorVotes") ∈ NM := List.mem_of_getElem? (i := 3) rfl
theorem nm4 : (RX8, 52, yX2_init, "DoorVotes") ∈ NM := List.mem_of_getElem? (i := 4) rfl
theorem nm5 : (RX8, 59, yX7_init, "DoorVotes") ∈ NM := List.mem_of_getElem? (i := 5) rfl
theorem nm6 : (RX8, 66, yX5_init, "DoorVotes") ∈ NM := List.mem_of_getElem? (i := 6) rfl
theorem nm7 : (RX8, 71, yX4_init, "DoorVotes") ∈ NM := List.mem_of_getElem? (i := 7) rfl
theorem nm8 : (RX8, 81, yX4_begin, "DoorVotes") ∈ NM := List.mem_of_getElem? (i := 8) rfl
theorem nm9 : (RX8, 88, yX4_findingOf, "DoorVotes") ∈ NM := List.mem_of_getElem? (i := 9) rfl
theorem nm10 : (RX8, 92, yX4_put, "DoorVotes") ∈ NM := List.mem_of_getElem? (i := 10) rfl
theorem nm11 : (RX8, 95, yX4_isMissing, "DoorVotes") ∈ NM := List.mem_of_getElem? (i := 11) rfl
theorem nm12 : (RX8, 113, yX4_end, "DoorVotes") ∈ NM := List.mem_of_getElem? (i := 12) rfl
theorem nm13 : (RX8, 121, yX3_take, "DoorVotes") ∈ NM := List.mem_of_getElem? (i := 13) rfl
theorem nm14 : (RX8, 124, yX3_readInto, "DoorVotes") ∈ NM := List.mem_of_getElem? (i := 14) rfl
theorem nm15 : (RX3, 108, yX8_within, "DoorVotes") ∈ NM := List.mem_of_getElem? (i := 15) rfl
theorem nm16 : (RX3, 52, yX6_begin, "DoorVotes") ∈ NM := List.mem_of_getElem? (i := 16) rfl
theorem nm17 : (RX3, 71, yX6_addDoor, "DoorVotes") ∈ NM := List.mem_of_getElem? (i := 17) rfl
theorem nm18 : (RX3, 81, yX6_addPerson, "DoorVotes") ∈ NM := List.mem_of_getElem? (i := 18) rfl
theorem nm19 : (RX3, 88, yX6_tiedTo, "DoorVotes") ∈ NM := List.mem_of_getElem? (i := 19) rfl
theorem nm20 : (RX3, 97, yX6_addTie, "DoorVotes") ∈ NM := List.mem_of_getElem? (i := 20) rfl
theorem nm21 : (RX8, 138, yX6_become, "DoorVotes") ∈ NM := List.mem_of_getElem? (i := 21) rfl
theorem nm22 : (RX8, 142, yX0_forget, "DoorVotes") ∈ NM := List.mem_of_getElem? (i := 22) rfl
theorem nm23 : (RX8, 152, yX0_takeBack, "DoorVotes") ∈ NM := List.mem_of_getElem? (i := 23) rfl
theorem nm24 : (RX0, 38, yX6_cellOf, "DoorVotes") ∈ NM := List.mem_of_getElem? (i := 24) rfl
theorem nm25 : (RX0, 62, yX6_cross, "DoorVotes") ∈ NM := List.mem_of_getElem? (i := 25) rfl
theorem nm26 : (RX8, 162, yX6_isAtDoor, "DoorVotes") ∈ NM := List.mem_of_getElem? (i := 26) rfl
theorem nm27 : (RX8, 260, yX2_hold, "DoorVotes") ∈ NM := List.mem_of_getElem? (i := 27) rfl
theorem nm28 : (RX2, 27, yX6_weightOf, "DoorVotes") ∈ NM := List.mem_of_getElem? (i := 28) rfl
theorem nm29 : (RX2, 31, yX6_favourOf, "DoorVotes") ∈ NM := List.mem_of_getElem? (i := 29) rfl
theorem nm30 : (RX8, 356, yX2_opens, "DoorVotes") ∈ NM := List.mem_of_getElem? (i := 30) rfl
theorem nm31 : (RX8, 169, yX0_keep, "DoorVotes") ∈ NM := List.mem_of_getElem? (i := 31) rfl
theorem nm32 : (RX8, 173, yX0_remember, "DoorVotes") ∈ NM := List.mem_of_getElem? (i := 32) rfl
theorem nm33 : (RX8, 177, yX6_pass, "DoorVotes") ∈ NM := List.mem_of_getElem? (i := 33) rfl
theorem nm34 : (RX8, 195, yX6_addDoor, "DoorVotes") ∈ NM := List.mem_of_getElem? (i := 34) rfl
theorem nm35 : (RX8, 204, yX6_timesOf, "DoorVotes") ∈ NM := List.mem_of_getElem? (i := 35) rfl
theorem nm36 : (RX8, 219, yX6_passedThrough, "DoorVotes") ∈ NM := List.mem_of_getElem? (i := 36) rfl
theorem nm37 : (RX8, 222, yX6_cellOf, "DoorVotes") ∈ NM := List.mem_of_getElem? (i := 37) rfl
theorem nm38 : (RX8, 231, yX6_freshIn, "DoorVotes") ∈ NM := List.mem_of_getElem? (i := 38) rfl
theorem nm39 : (RX8, 234, yX6_weightOf, "DoorVotes") ∈ NM := List.mem_of_getElem? (i := 39) rfl
theorem nm40 : (RX8, 358, yX2_weightsOf, "DoorVotes") ∈ NM := List.mem_of_getElem? (i := 40) rfl
theorem nm41 : (RX8, 241, yX6_favourOf, "DoorVotes") ∈ NM := List.mem_of_getElem? (i := 41) rfl
theorem nm42 : (RX8, 244, yX7_take, "DoorVotes") ∈ NM := List.mem_of_getElem? (i := 42) rfl
theorem nm43 : (RX7, 33, yX2_hold, "DoorVotes") ∈ NM := List.mem_of_getElem? (i := 43) rfl
theorem nm44 : (RX7, 39, yX2_opens, "DoorVotes") ∈ NM := List.mem_of_getElem? (i := 44) rfl
theorem nm45 : (RX8, 247, yX7_measureFrom, "DoorVotes") ∈ NM := List.mem_of_getElem? (i := 45) rfl
theorem nm46 : (RX8, 254, yX7_firstDoorFrom, "DoorVotes") ∈ NM := List.mem_of_getElem? (i := 46) rfl
theorem nm47 : (RX8, 361, yX7_roomsMeasured, "DoorVotes") ∈ NM := List.mem_of_getElem? (i := 47) rfl
theorem nm48 : (RX8, 263, yX5_gather, "DoorVotes") ∈ NM := List.mem_of_getElem? (i := 48) rfl
theorem nm49 : (RX5, 38, yX6_leaningOf, "DoorVotes") ∈ NM := List.mem_of_getElem? (i := 49) rfl
theorem nm50 : (RX8, 266, yX5_seek, "DoorVotes") ∈ NM := List.mem_of_getElem? (i := 50) rfl
theorem nm51 : (RX5, 46, yX2_opens, "DoorVotes") ∈ NM := List.mem_of_getElem? (i := 51) rfl
theorem nm52 : (RX5, 55, yX2_margin, "DoorVotes") ∈ NM := List.mem_of_getElem? (i := 52) rfl
theorem nm53 : (RX8, 274, yX6_mark, "DoorVotes") ∈ NM := List.mem_of_getElem? (i := 53) rfl
theorem nm54 : (RX8, 283, yX2_opensBehind, "DoorVotes") ∈ NM := List.mem_of_getElem? (i := 54) rfl
theorem nm55 : (RX8, 290, yX7_farWith, "DoorVotes") ∈ NM := List.mem_of_getElem? (i := 55) rfl
theorem nm56 : (RX8, 309, yX2_opensAwake, "DoorVotes") ∈ NM := List.mem_of_getElem? (i := 56) rfl
theorem nm57 : (RX8, 327, yX6_roomsAdded, "DoorVotes") ∈ NM := List.mem_of_getElem? (i := 57) rfl
theorem nm58 : (RX8, 336, yX1_answer, "DoorVotes") ∈ NM := List.mem_of_getElem? (i := 58) rfl
theorem nm59 : (RX1, 20, yX8_within, "DoorVotes") ∈ NM := List.mem_of_getElem? (i := 59) rfl
theorem nm60 : (RX1, 42, yX6_timesOf, "DoorVotes") ∈ NM := List.mem_of_getElem? (i := 60) rfl
theorem nm61 : (RX8, 346, yX6_allTimes, "DoorVotes") ∈ NM := List.mem_of_getElem? (i := 61) rfl
abbrev Mem : Type := Nat → Nat → Int32
abbrev Cx : Type := (Nat → ClassId) × (Nat → Nat → Nat) × (Nat → Nat) × (Nat → ClassId) × (Nat → Nat)
def ad (X : Cx) (k : Nat) : Nat := X.2.2.1 k
def cy (X : Cx) (k : Nat) : ClassId := X.2.2.2.1 k
def sa (X : Cx) (k : Nat) : Nat := X.2.2.2.2 k
abbrev dg (X : Cx) : va_G := (X.1, X.2.1)
def kdL : List Nat := [8, 12, 13, 4, 10, 4, 10, 4, 10, 4, 10, 4, 10, 4, 10, 4, 10, 4, 10, 3, 10, 0, 10, 10, 10, 10, 10, 1, 10, 2, 10, 10, 7, 10, 10, 10, 10, 5, 10, 10, 10, 6, 10, 10, 10, 10, 10, 10, 10, 10, 10, 10, 6, 10, 10, 10, 10, 10, 10, 10, 10, 10, 10, 6, 10, 10, 10, 10, 10, 10, 10, 10, 10, 10, 6, 10, 10, 10, 10, 10, 10, 10, 10, 10, 10, 9, 10, 11, 10, 10, 10, 10, 10]
def kd (k : Nat) : Nat := kdL.getD k 99
def lnL : List Nat := [0, 8, 2, 0, 40, 0, 40, 0, 40, 0, 40, 0, 40, 0, 40, 0, 40, 0, 40, 0, 120, 0, 24, 24, 24, 24, 24, 0, 16, 0, 6, 6, 0, 7, 7, 7, 6, 0, 6, 18, 18, 0, 6, 6, 6, 6, 6, 6, 6, 6, 36, 36, 0, 6, 6, 6, 6, 6, 6, 6, 6, 36, 36, 0, 6, 6, 6, 6, 6, 6, 6, 6, 36, 36, 0, 6, 6, 6, 6, 6, 6, 6, 6, 36, 36, 0, 3528, 2, 8, 8, 320, 120, 16]
def ln (k : Nat) : Nat := lnL.getD k 0
def cellA (X : Cx) (f : Nat → Int32) (k : Nat) : va_E := match kd k with
  | 0 => .inr (0, [.ref (ad X (k + 1)), .ref (ad X (k + 2)), .ref (ad X (k + 3)), .ref (ad X (k + 4)), .ref (ad X (k + 5)), .int (f 5), .int (f 6)])
  | 1 => .inr (1, [.ref (ad X (k + 1)), .int (f 1)])
  | 2 => .inr (2, [.ref (ad X (k + 1)), .ref (ad X (k + 2)), .int (f 2)])
  | 3 => .inr (3, [.ref (ad X (k + 1)), .int (f 1), .int (f 2), .int (f 3), .int (f 4), .int (f 5)])
  | 4 => .inr (4, [.ref (ad X (k + 1)), .int (f 1), .int (f 2)])
  | 5 => .inr (5, [.ref (ad X (k + 1)), .ref (ad X (k + 2)), .ref (ad X (k + 3)), .int (f 3), .int (f 4), .int (f 5)])
  | 6 => .inr (6, [.int (f 0), .int (f 1), .int (f 2), .int (f 3), .int (f 4), .int (f 5), .ref (ad X (k + 1)), .ref (ad X (k + 2)), .ref (ad X (k + 3)), .ref (ad X (k + 4)), .ref (ad X (k + 5)), .ref (ad X (k + 6)), .ref (ad X (k + 7)), .ref (ad X (k + 8)), .ref (ad X (k + 9)), .ref (ad X (k + 10))])
  | 7 => .inr (7, [.ref (ad X (k + 1)), .ref (ad X (k + 2)), .ref (ad X (k + 3)), .ref (ad X (k + 4)), .int (f 4)])
  | 8 => .inr (8, [.ref (ad X 1), .ref (ad X 19), .ref (ad X 21), .ref (ad X 27), .ref (ad X 41), .ref (ad X 52), .ref (ad X 2), .ref (ad X 29), .ref (ad X 32), .ref (ad X 37), .int (f 10), .int (f 11)])
  | 9 => .inr (9, [.ref (ad X (k + 1)), .int (f 1), .ref (ad X (k + 2)), .ref (ad X (k + 3)), .ref (ad X (k + 4)), .ref (ad X (k + 5)), .ref (ad X (k + 6)), .int (f 7), .int (f 8), .int (f 9), .ref (ad X (k + 7)), .int (f 11), .int (f 12), .int (f 13), .int (f 14), .int (f 15), .int (f 16), .int (f 17), .int (f 18), .int (f 19), .int (f 20)])
  | 10 => .inl (cy X 0, ln k, .inl f)
  | 11 => .inl (cy X 1, ln k, .inl f)
  | 12 => .inl (cy X 2, ln k, .inr (.inr (.inr (.inr (fun i => some (ad X (3 + 2 * i)))))))
  | _ => .inl (cy X 3, ln k, .inr (.inr (.inr (.inr (fun i => some (ad X (63 + 11 * i)))))))
def wsA (X : Cx) (M : Mem) : va_W := (List.range 93).map (fun k => (ad X k, cellA X (M k) k))
def ms (M : Mem) (k j : Nat) (v : Int32) : Mem := va_up M k (upd (M k) j v)
def mcp (M : Mem) (k0 k1 sp dp n : Nat) : Mem := va_up M k1 (va_cpy (M k0) (M k1) sp dp n)
theorem wsA_at {X : Cx} {M : Mem} {k : Nat} (hk : k < 93) : (wsA X M)[k]? = some (ad X k, cellA X (M k) k) := by
  simp [wsA, hk]
theorem wsA_some {X : Cx} {M : Mem} {k : Nat} {q : Nat × va_E} (h : (wsA X M)[k]? = some q) : k < 93 ∧ q = (ad X k, cellA X (M k) k) := by
  by_cases hk : k < 93
  · rw [wsA_at hk] at h
    exact ⟨hk, (Option.some.inj h).symm⟩
  · have : (wsA X M)[k]? = none := by simp [wsA]; omega
    rw [this] at h
    cases h
theorem wsA_set {X : Cx} {M : Mem} {k : Nat} (hk : k < 93) (f : Nat → Int32) : (wsA X M).set k (ad X k, cellA X f k) = wsA X (va_up M k f) := by
  apply List.ext_getElem?
  intro i
  rw [List.getElem?_set]
  by_cases h : k = i
  · subst h
    have hl : k < (wsA X M).length := by simp [wsA, hk]
    rw [if_pos rfl, if_pos hl, wsA_at hk, va_up_self]
  · rw [if_neg h]
    by_cases hi : i < 93
    · rw [wsA_at hi, wsA_at hi, va_up_ne _ _ (fun e => h e.symm)]
    · have h1 : (wsA X M)[i]? = none := by simp [wsA]; omega
      have h2 : (wsA X (va_up M k f))[i]? = none := by simp [wsA]; omega
      rw [h1, h2]
def AX (X : Cx) : Nat → Prop := fun q => ∃ k, k < 93 ∧ q = ad X k
def OkX (X : Cx) : Prop := ∀ i j : Nat, i < 93 → j < 93 → ad X i = ad X j → i = j
theorem wsA_D {X : Cx} {M : Mem} (h : OkX X) : va_D (AX X) (wsA X M) := by
  refine ⟨fun i j p q hi hj e => ?_, fun k q hk => ?_⟩
  · obtain ⟨a1, rfl⟩ := wsA_some hi
    obtain ⟨a2, rfl⟩ := wsA_some hj
    exact h i j a1 a2 e
  · obtain ⟨a1, rfl⟩ := wsA_some hk
    exact ⟨k, a1, rfl⟩
def PX (X : Cx) (M : Mem) (H : Heap) : Prop := va_P (dg X) vwCl (wsA X M) H
def Hx (X : Cx) (M : Mem) (s : State) (H : Heap) (locs : List Loc) : Prop := PX X M H ∧ va_S (AX X) s.heap H locs
def sc (z : Nat) : String := if z = 0 then "DoorVotes" else "DoorVotes$Asker"
def sn (z : Nat) : String := if z = 0 then "KIND_ABOVE" else if z = 1 then "SIZE_BODIES" else "MARK_BODIES"
def tbL (z : Nat) : List Int32 := if z = 0 then [-1000000, 0, 1, 1, 0, 4] else if z = 1 then [10, 11, 12, -1000000, 13, 14] else [20, 21, 24, 22, 23, -1000000]
def tb (z j : Nat) : Int32 := (tbL z).getD j 0
def tysA (X : Cx) : List (ClassId × FieldType) := [(cy X 0, .int), (cy X 1, .boolean), (cy X 2, .object "DoorVotes$Row"), (cy X 3, .object "DoorVotes$Town")]
def Sx (X : Cx) (U : State) (H : Heap) : Prop := ∀ z : Nat, z < 3 → va_Z (sc z) (sn z) "[I" (.ref (sa X z)) (AX X) U H ∧ va_T .int (sa X z) 6 (fun j => .int (tb z j)) (AX X) U H
def Fx (X : Cx) (U : State) : Prop := OkX X ∧ va_K (dg X) vwCl (tysA X) U ∧ (∀ q ∈ NF, va_Nw (.fieldLinkNest q.1 q.2.1 q.2.2.1 q.2.2.2.1 q.2.2.2.2.1 q.2.2.2.2.2) U) ∧ (∀ q ∈ NM, va_Nw (.methodLinkNest q.1 q.2.1 q.2.2.1 q.2.2.2) U) ∧ Sx X U U.heap
theorem Fx_blind {X : Cx} {U : State} {g : JFrame} {mk : MethodId} {a : Array Value} (h : Fx X U) : Fx X (U.calling g mk a) :=
  ⟨h.1, va_K.moved (u := U) (U := U.calling g mk a) (Vm.Alike.refl U.vm) h.2.1, fun q hq => va_Nw.same rfl (u := U) (U := U.calling g mk a) rfl (h.2.2.1 q hq), fun q hq => va_Nw.same rfl (u := U) (U := U.calling g mk a) rfl (h.2.2.2.1 q hq), fun z hz => ⟨va_Z.moved (u := U) (U := U.calling g mk a) (Vm.Alike.refl U.vm) (h.2.2.2.2 z hz).1, va_T.moved (u := U) (U := U.calling g mk a) (Vm.Alike.refl U.vm) (h.2.2.2.2 z hz).2⟩⟩
theorem Fx_call {X : Cx} {s U : State} {H : Heap} {locs : List Loc} (h : Fx X s) (hS : va_S (AX X) s.heap H locs) (hU : U.heap = H) (hW : s.WarmedH U.vm) : Fx X U := by
  refine ⟨h.1, va_K.moved hW.alike h.2.1, fun q hq => va_Nw.warmF hW (h.2.2.1 q hq), fun q hq => va_Nw.warmM hW (h.2.2.2.1 q hq), fun z hz => ⟨?_, ?_⟩⟩
  · rw [hU]
    exact (va_Z.moved hW.alike (h.2.2.2.2 z hz).1).kept hS.2.1
  · rw [hU]
    exact (va_T.moved hW.alike (h.2.2.2.2 z hz).2).kept hS.2.1
abbrev Kt : Type := Program × Launch × Env × Room × State × MethodId × Array Value × List Frame × Method × Code
def WX (K : Kt) (X : Cx) (nL : Nat) (Qc : Array Value → State → Outcome → State → Prop) (M : Mem) (pc : Nat) (lv : List (Nat × Value)) (st : List Value) : Prop := match K with
  | (p, l, e, R, s, m, args, below, meth, c) => ∀ (H : Heap) (locs : List Loc) (ls : Array Slot), Hx X M s H locs → lv_has ls nL lv → W p l e R s m args below meth c H locs 0 0 (MQ below Qc args s 0 0 (AX X)) (F0 m pc ls st)
def Kok (K : Kt) (X : Cx) (nL : Nat) (cc : ByteArray) (own : String) (rm : Room) (rt : Option FieldType) : Prop := match K with
  | (p, _, _, R, s, m, args, _, meth, c) => p.tables.exec = Jvm.exec ∧ c.code = cc ∧ c.maxLocals = nL ∧ s.vm.findClass own = some m.cls ∧ (∀ w ∈ AW, w.before args s = true) ∧ Fx X s ∧ R = rm ∧ meth.sig.returnType = rt ∧ meth.locks = false
abbrev Qi (X : Cx) (Q : Int32 → Mem → Prop) : Array Value → State → Outcome → State → Prop := va_Qi Q (fun M' t => PX X M' t.heap) (AX X)
abbrev Ql (X : Cx) (Q : Int64 → Mem → Prop) : Array Value → State → Outcome → State → Prop := va_Ql Q (fun M' t => PX X M' t.heap) (AX X)
abbrev Qv (X : Cx) (Q : Mem → Prop) : Array Value → State → Outcome → State → Prop := va_Qv Q (fun M' t => PX X M' t.heap) (AX X)
/-- a method's contract over the one world: from M with the arguments av it comes to Qc; nothing is made -/
def Ct (y : MethodName) (cc : ByteArray) (maxL : Nat) (ret : Option FieldType) (rm : Room) (X : Cx) (M : Mem) (av : List Value) (Qc : Array Value → State → Outcome → State → Prop) : Prop := ∀ l : Launch, Met l y (.code y cc maxL ret :: AW) rm (va_Pc av (fun U => PX X M U.heap ∧ Fx X U)) Qc 0 0 (AX X)
theorem ct_of {y : MethodName} {cc : ByteArray} {maxL : Nat} {ret : Option FieldType} {rm : Room} {X : Cx} {M : Mem} {av : List Value} {Qc : Array Value → State → Outcome → State → Prop} {own : String} {lv : List (Nat × Value)} (hown : y.cls = own) (hy : plainName y.cls = true) (hav : (lg_sl av).length ≤ maxL) (hlv : lv_args 0 av = lv) (h : ∀ K : Kt, Kok K X maxL cc own rm ret → WX K X maxL Qc M 0 lv []) : Ct y cc maxL ret rm X M av Qc := by
  intro l
  refine Met.ofW (cc := cc) (maxL := maxL) (ret := ret) hy rfl ?_
  intro p e s m args below meth c s₁ B hml hv
  obtain ⟨rfl, hP, hF⟩ := hv
  have hl := lv_entry av (n := maxL) hav
  rw [hlv] at hl
  rw [lg_entry_eq]
  have hts := atoms_spec (ws := Cond.code y cc maxL ret :: AW) B.pre
  exact h (p, l, e, (headSpec (Cond.code y cc maxL ret :: AW) rm).room, s, m, av.toArray, below, meth, c) ⟨B.exec, B.bytes, hml, by rw [← hown]; exact findClass_of_methodNamed B.named, fun w hw => hts w (List.mem_cons_of_mem _ hw), hF, rfl, B.returns, B.notSynchronized⟩ s.heap [] _ ⟨hP, va_S.rf⟩ hl
section ROWS
variable {K : Kt} {X : Cx} {nL : Nat} {cc : ByteArray} {own : String} {rm : Room} {rt : Option FieldType} {Qc : Array Value → State → Outcome → State → Prop} {M : Mem} {pc : Nat} {lv lv2 : List (Nat × Value)} {st : List Value}
theorem r_iconst (C : Kok K X nL cc own rm rt) {n : Int} {v : Int32} (hd : decode cc pc = .ok (.iconst n, 1)) (hv : Int32.ofInt n = v) (kk : WX K X nL Qc M (pc + 1) lv (.int v :: st)) : WX K X nL Qc M pc lv st := by
  obtain ⟨p, l, e, R, s, m, args, below, meth, c⟩ := K
  obtain ⟨hx, hb, hml, hown, hts, hF, rfl, hr, hlk⟩ := C
  intro H locs ls hH hl
  exact lv_iconst hx hb hd hv (kk H locs ls hH hl)
theorem r_bipush (C : Kok K X nL cc own rm rt) {n : Int} {v : Int32} (hd : decode cc pc = .ok (.bipush n, 2)) (hv : (Int8.ofInt n).toInt32 = v) (kk : WX K X nL Qc M (pc + 2) lv (.int v :: st)) : WX K X nL Qc M pc lv st := by
  obtain ⟨p, l, e, R, s, m, args, below, meth, c⟩ := K
  obtain ⟨hx, hb, hml, hown, hts, hF, rfl, hr, hlk⟩ := C
  intro H locs ls hH hl
  exact lv_bipush hx hb hd hv (kk H locs ls hH hl)
theorem r_sipush (C : Kok K X nL cc own rm rt) {n : Int} {v : Int32} (hd : decode cc pc = .ok (.sipush n, 3)) (hv : (Int16.ofInt n).toInt32 = v) (kk : WX K X nL Qc M (pc + 3) lv (.int v :: st)) : WX K X nL Qc M pc lv st := by
  obtain ⟨p, l, e, R, s, m, args, below, meth, c⟩ := K
  obtain ⟨hx, hb, hml, hown, hts, hF, rfl, hr, hlk⟩ := C
  intro H locs ls hH hl
  exact lv_sipush hx hb hd hv (kk H locs ls hH hl)
theorem r_lconst (C : Kok K X nL cc own rm rt) {n : Fin 2} {v : Int64} (hd : decode cc pc = .ok (.lconst n, 1)) (hv : Int64.ofNat (n : Nat) = v) (kk : WX K X nL Qc M (pc + 1) lv (.long v :: st)) : WX K X nL Qc M pc lv st := by
  obtain ⟨p, l, e, R, s, m, args, below, meth, c⟩ := K
  obtain ⟨hx, hb, hml, hown, hts, hF, rfl, hr, hlk⟩ := C
  intro H locs ls hH hl
  exact lv_lconst hx hb hd hv (kk H locs ls hH hl)
theorem r_ldc (C : Kok K X nL cc own rm rt) {i : Nat} {v : Int32} (hw : Cond.constant own i v ∈ AW) (hd : decode cc pc = .ok (.ldc i, 2)) (kk : WX K X nL Qc M (pc + 2) lv (.int v :: st)) : WX K X nL Qc M pc lv st := by
  obtain ⟨p, l, e, R, s, m, args, below, meth, c⟩ := K
  obtain ⟨hx, hb, hml, hown, hts, hF, rfl, hr, hlk⟩ := C
  intro H locs ls hH hl
  exact lv_ldc hx hb hown (hts _ hw) hd (kk H locs ls hH hl)
theorem r_ldcw (C : Kok K X nL cc own rm rt) {i : Nat} {v : Int32} (hw : Cond.constant own i v ∈ AW) (hd : decode cc pc = .ok (.ldc_w i, 3)) (kk : WX K X nL Qc M (pc + 3) lv (.int v :: st)) : WX K X nL Qc M pc lv st := by
  obtain ⟨p, l, e, R, s, m, args, below, meth, c⟩ := K
  obtain ⟨hx, hb, hml, hown, hts, hF, rfl, hr, hlk⟩ := C
  intro H locs ls hH hl
  exact lv_ldcw hx hb hown (hts _ hw) hd (kk H locs ls hH hl)
theorem r_ldc2 (C : Kok K X nL cc own rm rt) {i : Nat} {v : Int64} (hw : Cond.constantLong own i v ∈ AW) (hd : decode cc pc = .ok (.ldc2_w i, 3)) (kk : WX K X nL Qc M (pc + 3) lv (.long v :: st)) : WX K X nL Qc M pc lv st := by
  obtain ⟨p, l, e, R, s, m, args, below, meth, c⟩ := K
  obtain ⟨hx, hb, hml, hown, hts, hF, rfl, hr, hlk⟩ := C
  intro H locs ls hH hl
  exact lv_ldc2 hx hb hown (hts _ hw) hd (kk H locs ls hH hl)
theorem r_iload_n (C : Kok K X nL cc own rm rt) {k : Fin 4} {x : Int32} (j : Nat) (hd : decode cc pc = .ok (.iload_n k, 1)) (hj : lv[j]? = some ((k : Nat), .int x)) (kk : WX K X nL Qc M (pc + 1) lv (.int x :: st)) : WX K X nL Qc M pc lv st := by
  obtain ⟨p, l, e, R, s, m, args, below, meth, c⟩ := K
  obtain ⟨hx, hb, hml, hown, hts, hF, rfl, hr, hlk⟩ := C
  intro H locs ls hH hl
  exact lv_iload_n hx hb hd rfl (lv_at hl j hj) (kk H locs ls hH hl)
theorem r_iload (C : Kok K X nL cc own rm rt) {k : Nat} {x : Int32} (j : Nat) (hd : decode cc pc = .ok (.iload k, 2)) (hj : lv[j]? = some (k, .int x)) (kk : WX K X nL Qc M (pc + 2) lv (.int x :: st)) : WX K X nL Qc M pc lv st := by
  obtain ⟨p, l, e, R, s, m, args, below, meth, c⟩ := K
  obtain ⟨hx, hb, hml, hown, hts, hF, rfl, hr, hlk⟩ := C
  intro H locs ls hH hl
  exact lv_iload hx hb hd (lv_at hl j hj) (kk H locs ls hH hl)
theorem r_lload_n (C : Kok K X nL cc own rm rt) {k : Fin 4} {x : Int64} (j : Nat) (hd : decode cc pc = .ok (.lload_n k, 1)) (hj : lv[j]? = some ((k : Nat), .long x)) (kk : WX K X nL Qc M (pc + 1) lv (.long x :: st)) : WX K X nL Qc M pc lv st := by
  obtain ⟨p, l, e, R, s, m, args, below, meth, c⟩ := K
  obtain ⟨hx, hb, hml, hown, hts, hF, rfl, hr, hlk⟩ := C
  intro H locs ls hH hl
  exact lv_lload_n hx hb hd rfl (lv_at hl j hj) (kk H locs ls hH hl)
theorem r_lload (C : Kok K X nL cc own rm rt) {k : Nat} {x : Int64} (j : Nat) (hd : decode cc pc = .ok (.lload k, 2)) (hj : lv[j]? = some (k, .long x)) (kk : WX K X nL Qc M (pc + 2) lv (.long x :: st)) : WX K X nL Qc M pc lv st := by
  obtain ⟨p, l, e, R, s, m, args, below, meth, c⟩ := K
  obtain ⟨hx, hb, hml, hown, hts, hF, rfl, hr, hlk⟩ := C
  intro H locs ls hH hl
  exact lv_lload hx hb hd (lv_at hl j hj) (kk H locs ls hH hl)
theorem r_aload_n (C : Kok K X nL cc own rm rt) {k : Fin 4} {x : Nat} (j : Nat) (hd : decode cc pc = .ok (.aload_n k, 1)) (hj : lv[j]? = some ((k : Nat), .ref x)) (kk : WX K X nL Qc M (pc + 1) lv (.ref x :: st)) : WX K X nL Qc M pc lv st := by
  obtain ⟨p, l, e, R, s, m, args, below, meth, c⟩ := K
  obtain ⟨hx, hb, hml, hown, hts, hF, rfl, hr, hlk⟩ := C
  intro H locs ls hH hl
  exact lv_aload_n hx hb hd rfl (lv_at hl j hj) (kk H locs ls hH hl)
theorem r_aload (C : Kok K X nL cc own rm rt) {k : Nat} {x : Nat} (j : Nat) (hd : decode cc pc = .ok (.aload k, 2)) (hj : lv[j]? = some (k, .ref x)) (kk : WX K X nL Qc M (pc + 2) lv (.ref x :: st)) : WX K X nL Qc M pc lv st := by
  obtain ⟨p, l, e, R, s, m, args, below, meth, c⟩ := K
  obtain ⟨hx, hb, hml, hown, hts, hF, rfl, hr, hlk⟩ := C
  intro H locs ls hH hl
  exact lv_aload hx hb hd (lv_at hl j hj) (kk H locs ls hH hl)
theorem r_istore_n (C : Kok K X nL cc own rm rt) {k : Fin 4} {x : Int32} (hd : decode cc pc = .ok (.istore_n k, 1)) (hn : (k : Nat) < nL) (h2 : ((k : Nat), Value.int x) :: lv.filter (fun q => !(q.1 == (k : Nat)) && !(q.1 + 1 == (k : Nat) && q.2.category == 2)) = lv2) (kk : WX K X nL Qc M (pc + 1) lv2 st) : WX K X nL Qc M pc lv (.int x :: st) := by
  obtain ⟨p, l, e, R, s, m, args, below, meth, c⟩ := K
  obtain ⟨hx, hb, hml, hown, hts, hF, rfl, hr, hlk⟩ := C
  intro H locs ls hH hl
  exact lv_istore_n hx hb hd rfl hl hn h2 (fun ls hl => kk H locs ls hH hl)
theorem r_istore (C : Kok K X nL cc own rm rt) {k : Nat} {x : Int32} (hd : decode cc pc = .ok (.istore k, 2)) (hn : k < nL) (h2 : (k, Value.int x) :: lv.filter (fun q => !(q.1 == k) && !(q.1 + 1 == k && q.2.category == 2)) = lv2) (kk : WX K X nL Qc M (pc + 2) lv2 st) : WX K X nL Qc M pc lv (.int x :: st) := by
  obtain ⟨p, l, e, R, s, m, args, below, meth, c⟩ := K
  obtain ⟨hx, hb, hml, hown, hts, hF, rfl, hr, hlk⟩ := C
  intro H locs ls hH hl
  exact lv_istore hx hb hd hl hn h2 (fun ls hl => kk H locs ls hH hl)
theorem r_lstore_n (C : Kok K X nL cc own rm rt) {k : Fin 4} {x : Int64} (hd : decode cc pc = .ok (.lstore_n k, 1)) (hn : (k : Nat) + 1 < nL) (h2 : ((k : Nat), Value.long x) :: lv.filter (fun q => !(q.1 == (k : Nat)) && (!(q.1 == (k : Nat) + 1) && !(q.1 + 1 == (k : Nat) && q.2.category == 2))) = lv2) (kk : WX K X nL Qc M (pc + 1) lv2 st) : WX K X nL Qc M pc lv (.long x :: st) := by
  obtain ⟨p, l, e, R, s, m, args, below, meth, c⟩ := K
  obtain ⟨hx, hb, hml, hown, hts, hF, rfl, hr, hlk⟩ := C
  intro H locs ls hH hl
  exact lv_lstore_n hx hb hd rfl hl hn h2 (fun ls hl => kk H locs ls hH hl)
theorem r_lstore (C : Kok K X nL cc own rm rt) {k : Nat} {x : Int64} (hd : decode cc pc = .ok (.lstore k, 2)) (hn : k + 1 < nL) (h2 : (k, Value.long x) :: lv.filter (fun q => !(q.1 == k) && (!(q.1 == k + 1) && !(q.1 + 1 == k && q.2.category == 2))) = lv2) (kk : WX K X nL Qc M (pc + 2) lv2 st) : WX K X nL Qc M pc lv (.long x :: st) := by
  obtain ⟨p, l, e, R, s, m, args, below, meth, c⟩ := K
  obtain ⟨hx, hb, hml, hown, hts, hF, rfl, hr, hlk⟩ := C
  intro H locs ls hH hl
  exact lv_lstore hx hb hd hl hn h2 (fun ls hl => kk H locs ls hH hl)
theorem r_iinc (C : Kok K X nL cc own rm rt) {i : Nat} {n : Int} {x v : Int32} (j : Nat) (hd : decode cc pc = .ok (.iinc i n, 3)) (hj : lv[j]? = some (i, .int x)) (hv : x + Int32.ofInt n = v) (hn : i < nL) (h2 : (i, Value.int v) :: lv.filter (fun q => !(q.1 == i) && !(q.1 + 1 == i && q.2.category == 2)) = lv2) (kk : WX K X nL Qc M (pc + 3) lv2 st) : WX K X nL Qc M pc lv st := by
  obtain ⟨p, l, e, R, s, m, args, below, meth, c⟩ := K
  obtain ⟨hx, hb, hml, hown, hts, hF, rfl, hr, hlk⟩ := C
  intro H locs ls hH hl
  exact lv_iinc hx hb hd hl hj hv hn h2 (fun ls hl => kk H locs ls hH hl)
theorem r_iadd (C : Kok K X nL cc own rm rt) {x y : Int32} (hd : decode cc pc = .ok (.iadd, 1)) (kk : WX K X nL Qc M (pc + 1) lv (.int (x + y) :: st)) : WX K X nL Qc M pc lv (.int y :: .int x :: st) := by
  obtain ⟨p, l, e, R, s, m, args, below, meth, c⟩ := K
  obtain ⟨hx, hb, hml, hown, hts, hF, rfl, hr, hlk⟩ := C
  intro H locs ls hH hl
  exact lv_iadd hx hb hd (kk H locs ls hH hl)
theorem r_isub (C : Kok K X nL cc own rm rt) {x y : Int32} (hd : decode cc pc = .ok (.isub, 1)) (kk : WX K X nL Qc M (pc + 1) lv (.int (x - y) :: st)) : WX K X nL Qc M pc lv (.int y :: .int x :: st) := by
  obtain ⟨p, l, e, R, s, m, args, below, meth, c⟩ := K
  obtain ⟨hx, hb, hml, hown, hts, hF, rfl, hr, hlk⟩ := C
  intro H locs ls hH hl
  exact lv_isub hx hb hd (kk H locs ls hH hl)
theorem r_imul (C : Kok K X nL cc own rm rt) {x y : Int32} (hd : decode cc pc = .ok (.imul, 1)) (kk : WX K X nL Qc M (pc + 1) lv (.int (x * y) :: st)) : WX K X nL Qc M pc lv (.int y :: .int x :: st) := by
  obtain ⟨p, l, e, R, s, m, args, below, meth, c⟩ := K
  obtain ⟨hx, hb, hml, hown, hts, hF, rfl, hr, hlk⟩ := C
  intro H locs ls hH hl
  exact lv_imul hx hb hd (kk H locs ls hH hl)
theorem r_iand (C : Kok K X nL cc own rm rt) {x y : Int32} (hd : decode cc pc = .ok (.iand, 1)) (kk : WX K X nL Qc M (pc + 1) lv (.int (x &&& y) :: st)) : WX K X nL Qc M pc lv (.int y :: .int x :: st) := by
  obtain ⟨p, l, e, R, s, m, args, below, meth, c⟩ := K
  obtain ⟨hx, hb, hml, hown, hts, hF, rfl, hr, hlk⟩ := C
  intro H locs ls hH hl
  exact lv_iand hx hb hd (kk H locs ls hH hl)
theorem r_ior (C : Kok K X nL cc own rm rt) {x y : Int32} (hd : decode cc pc = .ok (.ior, 1)) (kk : WX K X nL Qc M (pc + 1) lv (.int (x ||| y) :: st)) : WX K X nL Qc M pc lv (.int y :: .int x :: st) := by
  obtain ⟨p, l, e, R, s, m, args, below, meth, c⟩ := K
  obtain ⟨hx, hb, hml, hown, hts, hF, rfl, hr, hlk⟩ := C
  intro H locs ls hH hl
  exact lv_ior hx hb hd (kk H locs ls hH hl)
theorem r_ishl (C : Kok K X nL cc own rm rt) {x y : Int32} (hd : decode cc pc = .ok (.ishl, 1)) (kk : WX K X nL Qc M (pc + 1) lv (.int (x <<< (y &&& 31)) :: st)) : WX K X nL Qc M pc lv (.int y :: .int x :: st) := by
  obtain ⟨p, l, e, R, s, m, args, below, meth, c⟩ := K
  obtain ⟨hx, hb, hml, hown, hts, hF, rfl, hr, hlk⟩ := C
  intro H locs ls hH hl
  exact lv_ishl hx hb hd (kk H locs ls hH hl)
theorem r_ishr (C : Kok K X nL cc own rm rt) {x y : Int32} (hd : decode cc pc = .ok (.ishr, 1)) (kk : WX K X nL Qc M (pc + 1) lv (.int (x >>> (y &&& 31)) :: st)) : WX K X nL Qc M pc lv (.int y :: .int x :: st) := by
  obtain ⟨p, l, e, R, s, m, args, below, meth, c⟩ := K
  obtain ⟨hx, hb, hml, hown, hts, hF, rfl, hr, hlk⟩ := C
  intro H locs ls hH hl
  exact lv_ishr hx hb hd (kk H locs ls hH hl)
theorem r_iushr (C : Kok K X nL cc own rm rt) {x y : Int32} (hd : decode cc pc = .ok (.iushr, 1)) (kk : WX K X nL Qc M (pc + 1) lv (.int ((x.toUInt32 >>> (y.toUInt32 &&& Int32.toUInt32 31)).toInt32) :: st)) : WX K X nL Qc M pc lv (.int y :: .int x :: st) := by
  obtain ⟨p, l, e, R, s, m, args, below, meth, c⟩ := K
  obtain ⟨hx, hb, hml, hown, hts, hF, rfl, hr, hlk⟩ := C
  intro H locs ls hH hl
  exact lv_iushr hx hb hd rfl (kk H locs ls hH hl)
theorem r_ineg (C : Kok K X nL cc own rm rt) {x : Int32} (hd : decode cc pc = .ok (.ineg, 1)) (kk : WX K X nL Qc M (pc + 1) lv (.int (-x) :: st)) : WX K X nL Qc M pc lv (.int x :: st) := by
  obtain ⟨p, l, e, R, s, m, args, below, meth, c⟩ := K
  obtain ⟨hx, hb, hml, hown, hts, hF, rfl, hr, hlk⟩ := C
  intro H locs ls hH hl
  exact lv_ineg hx hb hd (kk H locs ls hH hl)
theorem r_idiv (C : Kok K X nL cc own rm rt) {x y : Int32} (hd : decode cc pc = .ok (.idiv, 1)) (hn : ¬ y = 0) (kk : WX K X nL Qc M (pc + 1) lv (.int (x / y) :: st)) : WX K X nL Qc M pc lv (.int y :: .int x :: st) := by
  obtain ⟨p, l, e, R, s, m, args, below, meth, c⟩ := K
  obtain ⟨hx, hb, hml, hown, hts, hF, rfl, hr, hlk⟩ := C
  intro H locs ls hH hl
  exact lv_idiv hx hb hd hn (kk H locs ls hH hl)
theorem r_irem (C : Kok K X nL cc own rm rt) {x y : Int32} (hd : decode cc pc = .ok (.irem, 1)) (hn : ¬ y = 0) (kk : WX K X nL Qc M (pc + 1) lv (.int (x - x / y * y) :: st)) : WX K X nL Qc M pc lv (.int y :: .int x :: st) := by
  obtain ⟨p, l, e, R, s, m, args, below, meth, c⟩ := K
  obtain ⟨hx, hb, hml, hown, hts, hF, rfl, hr, hlk⟩ := C
  intro H locs ls hH hl
  exact lv_irem hx hb hd hn (kk H locs ls hH hl)
theorem r_ladd (C : Kok K X nL cc own rm rt) {x y : Int64} (hd : decode cc pc = .ok (.ladd, 1)) (kk : WX K X nL Qc M (pc + 1) lv (.long (x + y) :: st)) : WX K X nL Qc M pc lv (.long y :: .long x :: st) := by
  obtain ⟨p, l, e, R, s, m, args, below, meth, c⟩ := K
  obtain ⟨hx, hb, hml, hown, hts, hF, rfl, hr, hlk⟩ := C
  intro H locs ls hH hl
  exact lv_ladd hx hb hd (kk H locs ls hH hl)
theorem r_lmul (C : Kok K X nL cc own rm rt) {x y : Int64} (hd : decode cc pc = .ok (.lmul, 1)) (kk : WX K X nL Qc M (pc + 1) lv (.long (x * y) :: st)) : WX K X nL Qc M pc lv (.long y :: .long x :: st) := by
  obtain ⟨p, l, e, R, s, m, args, below, meth, c⟩ := K
  obtain ⟨hx, hb, hml, hown, hts, hF, rfl, hr, hlk⟩ := C
  intro H locs ls hH hl
  exact lv_lmul hx hb hd (kk H locs ls hH hl)
theorem r_ldiv (C : Kok K X nL cc own rm rt) {x y : Int64} (hd : decode cc pc = .ok (.ldiv, 1)) (hn : ¬ y = 0) (kk : WX K X nL Qc M (pc + 1) lv (.long (x / y) :: st)) : WX K X nL Qc M pc lv (.long y :: .long x :: st) := by
  obtain ⟨p, l, e, R, s, m, args, below, meth, c⟩ := K
  obtain ⟨hx, hb, hml, hown, hts, hF, rfl, hr, hlk⟩ := C
  intro H locs ls hH hl
  exact lv_ldiv hx hb hd hn (kk H locs ls hH hl)
theorem r_lrem (C : Kok K X nL cc own rm rt) {x y : Int64} (hd : decode cc pc = .ok (.lrem, 1)) (hn : ¬ y = 0) (kk : WX K X nL Qc M (pc + 1) lv (.long (x - x / y * y) :: st)) : WX K X nL Qc M pc lv (.long y :: .long x :: st) := by
  obtain ⟨p, l, e, R, s, m, args, below, meth, c⟩ := K
  obtain ⟨hx, hb, hml, hown, hts, hF, rfl, hr, hlk⟩ := C
  intro H locs ls hH hl
  exact lv_lrem hx hb hd hn (kk H locs ls hH hl)
theorem r_i2l (C : Kok K X nL cc own rm rt) {x : Int32} (hd : decode cc pc = .ok (.i2l, 1)) (kk : WX K X nL Qc M (pc + 1) lv (.long x.toInt64 :: st)) : WX K X nL Qc M pc lv (.int x :: st) := by
  obtain ⟨p, l, e, R, s, m, args, below, meth, c⟩ := K
  obtain ⟨hx, hb, hml, hown, hts, hF, rfl, hr, hlk⟩ := C
  intro H locs ls hH hl
  exact lv_i2l hx hb hd rfl (kk H locs ls hH hl)
theorem r_l2i (C : Kok K X nL cc own rm rt) {x : Int64} (hd : decode cc pc = .ok (.l2i, 1)) (kk : WX K X nL Qc M (pc + 1) lv (.int x.toInt32 :: st)) : WX K X nL Qc M pc lv (.long x :: st) := by
  obtain ⟨p, l, e, R, s, m, args, below, meth, c⟩ := K
  obtain ⟨hx, hb, hml, hown, hts, hF, rfl, hr, hlk⟩ := C
  intro H locs ls hH hl
  exact lv_l2i hx hb hd rfl (kk H locs ls hH hl)
theorem r_i2b (C : Kok K X nL cc own rm rt) {x : Int32} (hd : decode cc pc = .ok (.i2b, 1)) (kk : WX K X nL Qc M (pc + 1) lv (.int x.toInt8.toInt32 :: st)) : WX K X nL Qc M pc lv (.int x :: st) := by
  obtain ⟨p, l, e, R, s, m, args, below, meth, c⟩ := K
  obtain ⟨hx, hb, hml, hown, hts, hF, rfl, hr, hlk⟩ := C
  intro H locs ls hH hl
  exact lv_i2b hx hb hd rfl (kk H locs ls hH hl)
theorem r_i2s (C : Kok K X nL cc own rm rt) {x : Int32} (hd : decode cc pc = .ok (.i2s, 1)) (kk : WX K X nL Qc M (pc + 1) lv (.int x.toInt16.toInt32 :: st)) : WX K X nL Qc M pc lv (.int x :: st) := by
  obtain ⟨p, l, e, R, s, m, args, below, meth, c⟩ := K
  obtain ⟨hx, hb, hml, hown, hts, hF, rfl, hr, hlk⟩ := C
  intro H locs ls hH hl
  exact lv_i2s hx hb hd rfl (kk H locs ls hH hl)
theorem r_lcmp (C : Kok K X nL cc own rm rt) {x y : Int64} (hd : decode cc pc = .ok (.lcmp, 1)) (kk : WX K X nL Qc M (pc + 1) lv (.int (lg_cmp x y) :: st)) : WX K X nL Qc M pc lv (.long y :: .long x :: st) := by
  obtain ⟨p, l, e, R, s, m, args, below, meth, c⟩ := K
  obtain ⟨hx, hb, hml, hown, hts, hF, rfl, hr, hlk⟩ := C
  intro H locs ls hH hl
  exact W.lcmp hx hb hd (kk H locs ls hH hl)
theorem r_dup (C : Kok K X nL cc own rm rt) {u : Value} (hd : decode cc pc = .ok (.dup, 1)) (h1 : u.category = 1) (kk : WX K X nL Qc M (pc + 1) lv (u :: u :: st)) : WX K X nL Qc M pc lv (u :: st) := by
  obtain ⟨p, l, e, R, s, m, args, below, meth, c⟩ := K
  obtain ⟨hx, hb, hml, hown, hts, hF, rfl, hr, hlk⟩ := C
  intro H locs ls hH hl
  exact lv_dup hx hb hd h1 (kk H locs ls hH hl)
theorem r_pop (C : Kok K X nL cc own rm rt) {u : Value} (hd : decode cc pc = .ok (.pop, 1)) (h1 : u.category = 1) (kk : WX K X nL Qc M (pc + 1) lv st) : WX K X nL Qc M pc lv (u :: st) := by
  obtain ⟨p, l, e, R, s, m, args, below, meth, c⟩ := K
  obtain ⟨hx, hb, hml, hown, hts, hF, rfl, hr, hlk⟩ := C
  intro H locs ls hH hl
  exact lv_pop hx hb hd h1 (kk H locs ls hH hl)
theorem r_dup2 (C : Kok K X nL cc own rm rt) {u v : Value} (hd : decode cc pc = .ok (.dup2, 1)) (h1 : u.category = 1) (h2 : v.category = 1) (kk : WX K X nL Qc M (pc + 1) lv (u :: v :: u :: v :: st)) : WX K X nL Qc M pc lv (u :: v :: st) := by
  obtain ⟨p, l, e, R, s, m, args, below, meth, c⟩ := K
  obtain ⟨hx, hb, hml, hown, hts, hF, rfl, hr, hlk⟩ := C
  intro H locs ls hH hl
  exact lv_dup2_11 hx hb hd h1 h2 (kk H locs ls hH hl)
theorem r_if_eq (C : Kok K X nL cc own rm rt) {x : Int32} {off : Int} {tgt : Nat} (hd : decode cc pc = .ok (.ifCond .eq off, 3)) (ht : (pc : Int) + off = (tgt : Int)) (kt : x = 0 → WX K X nL Qc M tgt lv st) (kf : ¬ x = 0 → WX K X nL Qc M (pc + 3) lv st) : WX K X nL Qc M pc lv (.int x :: st) := by
  obtain ⟨p, l, e, R, s, m, args, below, meth, c⟩ := K
  obtain ⟨hx, hb, hml, hown, hts, hF, rfl, hr, hlk⟩ := C
  intro H locs ls hH hl
  exact lv_if_eq hx hb hd ht (fun z => kt z H locs ls hH hl) (fun z => kf z H locs ls hH hl)
theorem r_icmp_eq (C : Kok K X nL cc own rm rt) {x y : Int32} {off : Int} {tgt : Nat} (hd : decode cc pc = .ok (.if_icmp .eq off, 3)) (ht : (pc : Int) + off = (tgt : Int)) (kt : x = y → WX K X nL Qc M tgt lv st) (kf : ¬ x = y → WX K X nL Qc M (pc + 3) lv st) : WX K X nL Qc M pc lv (.int y :: .int x :: st) := by
  obtain ⟨p, l, e, R, s, m, args, below, meth, c⟩ := K
  obtain ⟨hx, hb, hml, hown, hts, hF, rfl, hr, hlk⟩ := C
  intro H locs ls hH hl
  exact lv_icmp_eq hx hb hd ht (fun z => kt z H locs ls hH hl) (fun z => kf z H locs ls hH hl)
theorem r_if_ne (C : Kok K X nL cc own rm rt) {x : Int32} {off : Int} {tgt : Nat} (hd : decode cc pc = .ok (.ifCond .ne off, 3)) (ht : (pc : Int) + off = (tgt : Int)) (kt : ¬ x = 0 → WX K X nL Qc M tgt lv st) (kf : x = 0 → WX K X nL Qc M (pc + 3) lv st) : WX K X nL Qc M pc lv (.int x :: st) := by
  obtain ⟨p, l, e, R, s, m, args, below, meth, c⟩ := K
  obtain ⟨hx, hb, hml, hown, hts, hF, rfl, hr, hlk⟩ := C
  intro H locs ls hH hl
  exact lv_if_ne hx hb hd ht (fun z => kt z H locs ls hH hl) (fun z => kf z H locs ls hH hl)
theorem r_icmp_ne (C : Kok K X nL cc own rm rt) {x y : Int32} {off : Int} {tgt : Nat} (hd : decode cc pc = .ok (.if_icmp .ne off, 3)) (ht : (pc : Int) + off = (tgt : Int)) (kt : ¬ x = y → WX K X nL Qc M tgt lv st) (kf : x = y → WX K X nL Qc M (pc + 3) lv st) : WX K X nL Qc M pc lv (.int y :: .int x :: st) := by
  obtain ⟨p, l, e, R, s, m, args, below, meth, c⟩ := K
  obtain ⟨hx, hb, hml, hown, hts, hF, rfl, hr, hlk⟩ := C
  intro H locs ls hH hl
  exact lv_icmp_ne hx hb hd ht (fun z => kt z H locs ls hH hl) (fun z => kf z H locs ls hH hl)
theorem r_if_lt (C : Kok K X nL cc own rm rt) {x : Int32} {off : Int} {tgt : Nat} (hd : decode cc pc = .ok (.ifCond .lt off, 3)) (ht : (pc : Int) + off = (tgt : Int)) (kt : x < 0 → WX K X nL Qc M tgt lv st) (kf : ¬ x < 0 → WX K X nL Qc M (pc + 3) lv st) : WX K X nL Qc M pc lv (.int x :: st) := by
  obtain ⟨p, l, e, R, s, m, args, below, meth, c⟩ := K
  obtain ⟨hx, hb, hml, hown, hts, hF, rfl, hr, hlk⟩ := C
  intro H locs ls hH hl
  exact lv_if_lt hx hb hd ht (fun z => kt z H locs ls hH hl) (fun z => kf z H locs ls hH hl)
theorem r_icmp_lt (C : Kok K X nL cc own rm rt) {x y : Int32} {off : Int} {tgt : Nat} (hd : decode cc pc = .ok (.if_icmp .lt off, 3)) (ht : (pc : Int) + off = (tgt : Int)) (kt : x < y → WX K X nL Qc M tgt lv st) (kf : ¬ x < y → WX K X nL Qc M (pc + 3) lv st) : WX K X nL Qc M pc lv (.int y :: .int x :: st) := by
  obtain ⟨p, l, e, R, s, m, args, below, meth, c⟩ := K
  obtain ⟨hx, hb, hml, hown, hts, hF, rfl, hr, hlk⟩ := C
  intro H locs ls hH hl
  exact lv_icmp_lt hx hb hd ht (fun z => kt z H locs ls hH hl) (fun z => kf z H locs ls hH hl)
theorem r_if_ge (C : Kok K X nL cc own rm rt) {x : Int32} {off : Int} {tgt : Nat} (hd : decode cc pc = .ok (.ifCond .ge off, 3)) (ht : (pc : Int) + off = (tgt : Int)) (kt : 0 ≤ x → WX K X nL Qc M tgt lv st) (kf : ¬ 0 ≤ x → WX K X nL Qc M (pc + 3) lv st) : WX K X nL Qc M pc lv (.int x :: st) := by
  obtain ⟨p, l, e, R, s, m, args, below, meth, c⟩ := K
  obtain ⟨hx, hb, hml, hown, hts, hF, rfl, hr, hlk⟩ := C
  intro H locs ls hH hl
  exact lv_if_ge hx hb hd ht (fun z => kt z H locs ls hH hl) (fun z => kf z H locs ls hH hl)
theorem r_icmp_ge (C : Kok K X nL cc own rm rt) {x y : Int32} {off : Int} {tgt : Nat} (hd : decode cc pc = .ok (.if_icmp .ge off, 3)) (ht : (pc : Int) + off = (tgt : Int)) (kt : y ≤ x → WX K X nL Qc M tgt lv st) (kf : ¬ y ≤ x → WX K X nL Qc M (pc + 3) lv st) : WX K X nL Qc M pc lv (.int y :: .int x :: st) := by
  obtain ⟨p, l, e, R, s, m, args, below, meth, c⟩ := K
  obtain ⟨hx, hb, hml, hown, hts, hF, rfl, hr, hlk⟩ := C
  intro H locs ls hH hl
  exact lv_icmp_ge hx hb hd ht (fun z => kt z H locs ls hH hl) (fun z => kf z H locs ls hH hl)
theorem r_if_gt (C : Kok K X nL cc own rm rt) {x : Int32} {off : Int} {tgt : Nat} (hd : decode cc pc = .ok (.ifCond .gt off, 3)) (ht : (pc : Int) + off = (tgt : Int)) (kt : 0 < x → WX K X nL Qc M tgt lv st) (kf : ¬ 0 < x → WX K X nL Qc M (pc + 3) lv st) : WX K X nL Qc M pc lv (.int x :: st) := by
  obtain ⟨p, l, e, R, s, m, args, below, meth, c⟩ := K
  obtain ⟨hx, hb, hml, hown, hts, hF, rfl, hr, hlk⟩ := C
  intro H locs ls hH hl
  exact lv_if_gt hx hb hd ht (fun z => kt z H locs ls hH hl) (fun z => kf z H locs ls hH hl)
theorem r_icmp_gt (C : Kok K X nL cc own rm rt) {x y : Int32} {off : Int} {tgt : Nat} (hd : decode cc pc = .ok (.if_icmp .gt off, 3)) (ht : (pc : Int) + off = (tgt : Int)) (kt : y < x → WX K X nL Qc M tgt lv st) (kf : ¬ y < x → WX K X nL Qc M (pc + 3) lv st) : WX K X nL Qc M pc lv (.int y :: .int x :: st) := by
  obtain ⟨p, l, e, R, s, m, args, below, meth, c⟩ := K
  obtain ⟨hx, hb, hml, hown, hts, hF, rfl, hr, hlk⟩ := C
  intro H locs ls hH hl
  exact lv_icmp_gt hx hb hd ht (fun z => kt z H locs ls hH hl) (fun z => kf z H locs ls hH hl)
theorem r_if_le (C : Kok K X nL cc own rm rt) {x : Int32} {off : Int} {tgt : Nat} (hd : decode cc pc = .ok (.ifCond .le off, 3)) (ht : (pc : Int) + off = (tgt : Int)) (kt : x ≤ 0 → WX K X nL Qc M tgt lv st) (kf : ¬ x ≤ 0 → WX K X nL Qc M (pc + 3) lv st) : WX K X nL Qc M pc lv (.int x :: st) := by
  obtain ⟨p, l, e, R, s, m, args, below, meth, c⟩ := K
  obtain ⟨hx, hb, hml, hown, hts, hF, rfl, hr, hlk⟩ := C
  intro H locs ls hH hl
  exact lv_if_le hx hb hd ht (fun z => kt z H locs ls hH hl) (fun z => kf z H locs ls hH hl)
theorem r_icmp_le (C : Kok K X nL cc own rm rt) {x y : Int32} {off : Int} {tgt : Nat} (hd : decode cc pc = .ok (.if_icmp .le off, 3)) (ht : (pc : Int) + off = (tgt : Int)) (kt : x ≤ y → WX K X nL Qc M tgt lv st) (kf : ¬ x ≤ y → WX K X nL Qc M (pc + 3) lv st) : WX K X nL Qc M pc lv (.int y :: .int x :: st) := by
  obtain ⟨p, l, e, R, s, m, args, below, meth, c⟩ := K
  obtain ⟨hx, hb, hml, hown, hts, hF, rfl, hr, hlk⟩ := C
  intro H locs ls hH hl
  exact lv_icmp_le hx hb hd ht (fun z => kt z H locs ls hH hl) (fun z => kf z H locs ls hH hl)
theorem r_goto (C : Kok K X nL cc own rm rt) {off : Int} {tgt : Nat} (hd : decode cc pc = .ok (.goto off, 3)) (ht : (pc : Int) + off = (tgt : Int)) (kk : WX K X nL Qc M tgt lv st) : WX K X nL Qc M pc lv st := by
  obtain ⟨p, l, e, R, s, m, args, below, meth, c⟩ := K
  obtain ⟨hx, hb, hml, hown, hts, hF, rfl, hr, hlk⟩ := C
  intro H locs ls hH hl
  exact lv_goto hx hb hd ht (kk H locs ls hH hl)
theorem r_tabIn (C : Kok K X nL cc own rm rt) {dflt lo hi : Int} {offs : Array Int} {len : Nat} {x : Int32} (v : Int32) {off : Int} {tgt : Nat} (hx0 : x = v) (hd : decode cc pc = .ok (.tableswitch dflt lo hi offs, len)) (h1 : ¬ v.toInt < lo) (h2 : ¬ hi < v.toInt) (ho : offs[(v.toInt - lo).toNat]? = some off) (ht : (pc : Int) + off = (tgt : Int)) (kk : WX K X nL Qc M tgt lv st) : WX K X nL Qc M pc lv (.int x :: st) := by
  subst hx0
  obtain ⟨p, l, e, R, s, m, args, below, meth, c⟩ := K
  obtain ⟨hx, hb, hml, hown, hts, hF, rfl, hr, hlk⟩ := C
  intro H locs ls hH hl
  exact lv_tableIn hx hb hd h1 h2 ho ht (kk H locs ls hH hl)
theorem r_tabOut (C : Kok K X nL cc own rm rt) {dflt lo hi : Int} {offs : Array Int} {len : Nat} {x : Int32} {tgt : Nat} (hd : decode cc pc = .ok (.tableswitch dflt lo hi offs, len)) (h : x.toInt < lo ∨ hi < x.toInt) (ht : (pc : Int) + dflt = (tgt : Int)) (kk : WX K X nL Qc M tgt lv st) : WX K X nL Qc M pc lv (.int x :: st) := by
  obtain ⟨p, l, e, R, s, m, args, below, meth, c⟩ := K
  obtain ⟨hx, hb, hml, hown, hts, hF, rfl, hr, hlk⟩ := C
  intro H locs ls hH hl
  exact lv_tableOut hx hb hd h ht (kk H locs ls hH hl)
theorem r_look (C : Kok K X nL cc own rm rt) {dflt : Int} {ps : Array (Int × Int)} {len : Nat} {x : Int32} {off : Int} {tgt : Nat} (hd : decode cc pc = .ok (.lookupswitch dflt ps, len)) (hp : (ps.toList.zip (ps.toList.drop 1)).all (fun (a, next) => a.1 < next.1) = true) (ho : Op.lookupswitch.offset ps.toList dflt x.toInt = off) (ht : (pc : Int) + off = (tgt : Int)) (kk : WX K X nL Qc M tgt lv st) : WX K X nL Qc M pc lv (.int x :: st) := by
  obtain ⟨p, l, e, R, s, m, args, below, meth, c⟩ := K
  obtain ⟨hx, hb, hml, hown, hts, hF, rfl, hr, hlk⟩ := C
  intro H locs ls hH hl
  exact lv_lookup hx hb hd hp ho ht (kk H locs ls hH hl)
theorem ne_toInt {x v : Int32} {n : Int} (h : ¬ x = v) (hv : v.toInt = n) : x.toInt ≠ n := fun e => h (Int32.toInt_inj.mp (e.trans hv.symm))
theorem r_topi {x : Int32} (k : ∀ y : Int32, y = x → WX K X nL Qc M pc lv (.int y :: st)) : WX K X nL Qc M pc lv (.int x :: st) := k x rfl
theorem r_topl {x : Int64} (k : ∀ y : Int64, y = x → WX K X nL Qc M pc lv (.long y :: st)) : WX K X nL Qc M pc lv (.long x :: st) := k x rfl
theorem r_sub (ks : List Nat) (h : lv_pick lv ks = lv2) (kk : WX K X nL Qc M pc lv2 st) : WX K X nL Qc M pc lv st := by
  obtain ⟨p, l, e, R, s, m, args, below, meth, c⟩ := K
  intro H locs ls hH hl
  exact kk H locs ls hH (lv_sub hl ks h)
theorem r_get (C : Kok K X nL cc own rm rt) {k ci j idx N : Nat} {fs : List Value} {Cn ref : String} {T : u_T} {v : Value} (hk : k < 93) (hc : cellA X (M k) k = .inr (ci, fs)) (hcl : vwCl[ci]? = some (Cn, T, N)) (hin : ∀ w ∈ u_ws Cn T N, w ∈ AW) (hj : j < N) (hw : Cond.fieldLink own idx ref (T j).2.1 (T j).2.2.1 ∈ AW) (hrf : (T j).1 = ref) (hv : fs[j]? = some v) (hd : decode cc pc = .ok (.getfield idx, 3)) (kk : WX K X nL Qc M (pc + 3) lv (v :: st)) : WX K X nL Qc M pc lv (.ref (ad X k) :: st) := by
  obtain ⟨p, l, e, R, s, m, args, below, meth, c⟩ := K
  obtain ⟨hx, hb, hml, hown, hts, hF, rfl, hr, hlk⟩ := C
  intro H locs ls hH hl
  exact va_get hx hb hts hin hown hF.2.1 hH.1 k (by rw [wsA_at hk, hc]) hcl j hj (hts _ hw) (fun x h => by rw [← hrf]; exact h) hv hd (kk H locs ls hH hl)
theorem r_getN (C : Kok K X nL cc own rm rt) {k ci j idx N : Nat} {fs : List Value} {Cn ref : String} {T : u_T} {host : String} {v : Value} (hk : k < 93) (hc : cellA X (M k) k = .inr (ci, fs)) (hcl : vwCl[ci]? = some (Cn, T, N)) (hin : ∀ w ∈ u_ws Cn T N, w ∈ AW) (hj : j < N) (hw : (own, idx, ref, (T j).2.1, (T j).2.2.1, host) ∈ NF) (hrf : (T j).1 = ref) (hv : fs[j]? = some v) (hd : decode cc pc = .ok (.getfield idx, 3)) (kk : WX K X nL Qc M (pc + 3) lv (v :: st)) : WX K X nL Qc M pc lv (.ref (ad X k) :: st) := by
  obtain ⟨p, l, e, R, s, m, args, below, meth, c⟩ := K
  obtain ⟨hx, hb, hml, hown, hts, hF, rfl, hr, hlk⟩ := C
  intro H locs ls hH hl
  exact va_getN hx hb hts hin hown hF.2.1 hH.1 k (by rw [wsA_at hk, hc]) hcl j hj (va_Nw.use rfl (hF.2.2.1 _ hw)) (fun x h => by rw [← hrf]; exact h) hv hd (kk H locs ls hH hl)
theorem r_put (C : Kok K X nL cc own rm rt) {k ci j idx N : Nat} {fs : List Value} {Cn ref : String} {T : u_T} {host : String} {v : Int32} (hk : k < 93) (hc : cellA X (M k) k = .inr (ci, fs)) (hcl : vwCl[ci]? = some (Cn, T, N)) (hin : ∀ w ∈ u_ws Cn T N, w ∈ AW) (hj : j < N) (hc2 : cellA X (upd (M k) j v) k = .inr (ci, fs.set j (.int v))) {ty0 : Nat → FieldType} (hty : ∀ k, k < N → parseFieldDescriptor (T k).2.2.1 = some (ty0 k)) (hnm : ∀ a, a < N → ∀ b, b < N → a ≠ b → (T a).2.1 ≠ (T b).2.1) (hw : Cond.fieldLink own idx ref (T j).2.1 (T j).2.2.1 ∈ AW) (hrf : (T j).1 = ref) (hfin : (T j).2.2.2 = false) (hI : parseFieldDescriptor (T j).2.2.1 = some .int) (hlen : j < fs.length) (hd : decode cc pc = .ok (.putfield idx, 3)) (kk : WX K X nL Qc (ms M k j v) (pc + 3) lv st) : WX K X nL Qc M pc lv (.int v :: .ref (ad X k) :: st) := by
  obtain ⟨p, l, e, R, s, m, args, below, meth, c⟩ := K
  obtain ⟨hx, hb, hml, hown, hts, hF, rfl, hr, hlk⟩ := C
  intro H locs ls hH hl
  exact va_put hx hb hts hin ty0 hty hnm hown hF.2.1 hH.1 (wsA_D hF.1) hH.2 k (by rw [wsA_at hk, hc]) hcl j hj (hts _ hw) (fun x h => by rw [← hrf]; exact h) hfin hI (vp_nar_int v) rfl hlen hd (fun H1 locs1 hP _ hS => kk H1 locs1 ls ⟨by rw [← hc2, wsA_set hk] at hP; exact hP, hS⟩ hl)
theorem r_putN (C : Kok K X nL cc own rm rt) {k ci j idx N : Nat} {fs : List Value} {Cn ref : String} {T : u_T} {host : String} {v : Int32} (hk : k < 93) (hc : cellA X (M k) k = .inr (ci, fs)) (hcl : vwCl[ci]? = some (Cn, T, N)) (hin : ∀ w ∈ u_ws Cn T N, w ∈ AW) (hj : j < N) (hc2 : cellA X (upd (M k) j v) k = .inr (ci, fs.set j (.int v))) {ty0 : Nat → FieldType} (hty : ∀ k, k < N → parseFieldDescriptor (T k).2.2.1 = some (ty0 k)) (hnm : ∀ a, a < N → ∀ b, b < N → a ≠ b → (T a).2.1 ≠ (T b).2.1) (hw : (own, idx, ref, (T j).2.1, (T j).2.2.1, host) ∈ NF) (hrf : (T j).1 = ref) (hfin : (T j).2.2.2 = false) (hI : parseFieldDescriptor (T j).2.2.1 = some .int) (hlen : j < fs.length) (hd : decode cc pc = .ok (.putfield idx, 3)) (kk : WX K X nL Qc (ms M k j v) (pc + 3) lv st) : WX K X nL Qc M pc lv (.int v :: .ref (ad X k) :: st) := by
  obtain ⟨p, l, e, R, s, m, args, below, meth, c⟩ := K
  obtain ⟨hx, hb, hml, hown, hts, hF, rfl, hr, hlk⟩ := C
  intro H locs ls hH hl
  exact va_putN hx hb hts hin ty0 hty hnm hown hF.2.1 hH.1 (wsA_D hF.1) hH.2 k (by rw [wsA_at hk, hc]) hcl j hj (va_Nw.use rfl (hF.2.2.1 _ hw)) (fun x h => by rw [← hrf]; exact h) hfin hI (vp_nar_int v) rfl hlen hd (fun H1 locs1 hP _ hS => kk H1 locs1 ls ⟨by rw [← hc2, wsA_set hk] at hP; exact hP, hS⟩ hl)
theorem r_iald (C : Kok K X nL cc own rm rt) {k n : Nat} {i : Int32} (hk : k < 93) (hc : cellA X (M k) k = .inl (cy X 0, n, .inl (M k))) (hi : vp_in i n) (hd : decode cc pc = .ok (.iaload, 1)) (kk : WX K X nL Qc M (pc + 1) lv (.int (M k i.toNatClampNeg) :: st)) : WX K X nL Qc M pc lv (.int i :: .ref (ad X k) :: st) := by
  obtain ⟨p, l, e, R, s, m, args, below, meth, c⟩ := K
  obtain ⟨hx, hb, hml, hown, hts, hF, rfl, hr, hlk⟩ := C
  intro H locs ls hH hl
  exact va_iald hx hb hF.2.1 hH.1 k 0 (by rw [wsA_at hk, hc]) rfl hi hd (kk H locs ls hH hl)
theorem r_zald (C : Kok K X nL cc own rm rt) {k n : Nat} {i : Int32} (hk : k < 93) (hc : cellA X (M k) k = .inl (cy X 1, n, .inl (M k))) (hi : vp_in i n) (hd : decode cc pc = .ok (.baload, 1)) (kk : WX K X nL Qc M (pc + 1) lv (.int (M k i.toNatClampNeg) :: st)) : WX K X nL Qc M pc lv (.int i :: .ref (ad X k) :: st) := by
  obtain ⟨p, l, e, R, s, m, args, below, meth, c⟩ := K
  obtain ⟨hx, hb, hml, hown, hts, hF, rfl, hr, hlk⟩ := C
  intro H locs ls hH hl
  exact va_zald hx hb hF.2.1 hH.1 k 1 (by rw [wsA_at hk, hc]) rfl hi hd (kk H locs ls hH hl)
theorem r_iast (C : Kok K X nL cc own rm rt) {k n : Nat} {i x : Int32} (hk : k < 93) (hc : ∀ f, cellA X f k = .inl (cy X 0, n, .inl f)) (hi : vp_in i n) (hd : decode cc pc = .ok (.iastore, 1)) (kk : WX K X nL Qc (ms M k i.toNatClampNeg x) (pc + 1) lv st) : WX K X nL Qc M pc lv (.int x :: .int i :: .ref (ad X k) :: st) := by
  obtain ⟨p, l, e, R, s, m, args, below, meth, c⟩ := K
  obtain ⟨hx, hb, hml, hown, hts, hF, rfl, hr, hlk⟩ := C
  intro H locs ls hH hl
  exact va_iast hx hb hF.2.1 hH.1 (wsA_D hF.1) hH.2 k 0 (by rw [wsA_at hk, hc]) rfl hi hd (fun H1 locs1 hP _ hS => kk H1 locs1 ls ⟨by rw [← hc, wsA_set hk] at hP; exact hP, hS⟩ hl)
theorem r_zast (C : Kok K X nL cc own rm rt) {k n : Nat} {i x : Int32} (hk : k < 93) (hc : ∀ f, cellA X f k = .inl (cy X 1, n, .inl f)) (hi : vp_in i n) (hd : decode cc pc = .ok (.bastore, 1)) (kk : WX K X nL Qc (ms M k i.toNatClampNeg (vp_nar .boolean x)) (pc + 1) lv st) : WX K X nL Qc M pc lv (.int x :: .int i :: .ref (ad X k) :: st) := by
  obtain ⟨p, l, e, R, s, m, args, below, meth, c⟩ := K
  obtain ⟨hx, hb, hml, hown, hts, hF, rfl, hr, hlk⟩ := C
  intro H locs ls hH hl
  exact va_zast hx hb hF.2.1 hH.1 (wsA_D hF.1) hH.2 k 1 (by rw [wsA_at hk, hc]) rfl hi hd (fun H1 locs1 hP _ hS => kk H1 locs1 ls ⟨by rw [← hc, wsA_set hk] at hP; exact hP, hS⟩ hl)
theorem r_aldR (C : Kok K X nL cc own rm rt) {i : Int32} (hi : vp_in i 8) (hd : decode cc pc = .ok (.aaload, 1)) (kk : WX K X nL Qc M (pc + 1) lv (.ref (ad X (3 + 2 * i.toNatClampNeg)) :: st)) : WX K X nL Qc M pc lv (.int i :: .ref (ad X 1) :: st) := by
  obtain ⟨p, l, e, R, s, m, args, below, meth, c⟩ := K
  obtain ⟨hx, hb, hml, hown, hts, hF, rfl, hr, hlk⟩ := C
  intro H locs ls hH hl
  exact va_aldq hx hb hF.2.1 hH.1 1 2 (wsA_at (by decide)) rfl hi hd (kk H locs ls hH hl)
theorem r_aldT (C : Kok K X nL cc own rm rt) {i : Int32} (hi : vp_in i 2) (hd : decode cc pc = .ok (.aaload, 1)) (kk : WX K X nL Qc M (pc + 1) lv (.ref (ad X (63 + 11 * i.toNatClampNeg)) :: st)) : WX K X nL Qc M pc lv (.int i :: .ref (ad X 2) :: st) := by
  obtain ⟨p, l, e, R, s, m, args, below, meth, c⟩ := K
  obtain ⟨hx, hb, hml, hown, hts, hF, rfl, hr, hlk⟩ := C
  intro H locs ls hH hl
  exact va_aldq hx hb hF.2.1 hH.1 2 3 (wsA_at (by decide)) rfl hi hd (kk H locs ls hH hl)
theorem r_alen (C : Kok K X nL cc own rm rt) {k n : Nat} (hk : k < 93) (hc : cellA X (M k) k = .inl (cy X 0, n, .inl (M k))) (hd : decode cc pc = .ok (.arraylength, 1)) (kk : WX K X nL Qc M (pc + 1) lv (.int (Int32.ofNat n) :: st)) : WX K X nL Qc M pc lv (.ref (ad X k) :: st) := by
  obtain ⟨p, l, e, R, s, m, args, below, meth, c⟩ := K
  obtain ⟨hx, hb, hml, hown, hts, hF, rfl, hr, hlk⟩ := C
  intro H locs ls hH hl
  exact va_alen hx hb hF.2.1 hH.1 k 0 (by rw [wsA_at hk, hc]) rfl rfl hd (kk H locs ls hH hl)
theorem r_gets (C : Kok K X nL cc own rm rt) (z : Nat) {idx : Nat} (hz : z < 3) (hw : Cond.fieldLink own idx (sc z) (sn z) "[I" ∈ AW) (hd : decode cc pc = .ok (.getstatic idx, 3)) (kk : WX K X nL Qc M (pc + 3) lv (.ref (sa X z) :: st)) : WX K X nL Qc M pc lv st := by
  obtain ⟨p, l, e, R, s, m, args, below, meth, c⟩ := K
  obtain ⟨hx, hb, hml, hown, hts, hF, rfl, hr, hlk⟩ := C
  intro H locs ls hH hl
  exact va_gets hx hb (hF.2.2.2.2 z hz).1 hH.2 hown (hts _ hw) (fun _ h => h) hd (kk H locs ls hH hl)
theorem r_getsN (C : Kok K X nL cc own rm rt) (z : Nat) {idx : Nat} {host : String} (hz : z < 3) (hw : (own, idx, sc z, sn z, "[I", host) ∈ NF) (hd : decode cc pc = .ok (.getstatic idx, 3)) (kk : WX K X nL Qc M (pc + 3) lv (.ref (sa X z) :: st)) : WX K X nL Qc M pc lv st := by
  obtain ⟨p, l, e, R, s, m, args, below, meth, c⟩ := K
  obtain ⟨hx, hb, hml, hown, hts, hF, rfl, hr, hlk⟩ := C
  intro H locs ls hH hl
  exact va_getsN hx hb (hF.2.2.2.2 z hz).1 hH.2 hown (va_Nw.use rfl (hF.2.2.1 _ hw)) (fun _ h => h) hd (kk H locs ls hH hl)
theorem r_tald (C : Kok K X nL cc own rm rt) (z : Nat) {i : Int32} (hz : z < 3) (hi : vp_in i 6) (hd : decode cc pc = .ok (.iaload, 1)) (kk : WX K X nL Qc M (pc + 1) lv (.int (tb z i.toNatClampNeg) :: st)) : WX K X nL Qc M pc lv (.int i :: .ref (sa X z) :: st) := by
  obtain ⟨p, l, e, R, s, m, args, below, meth, c⟩ := K
  obtain ⟨hx, hb, hml, hown, hts, hF, rfl, hr, hlk⟩ := C
  intro H locs ls hH hl
  exact va_ti hx hb (hF.2.2.2.2 z hz).2 hH.2 hi rfl hd (kk H locs ls hH hl)
theorem r_copy (C : Kok K X nL cc own rm rt) {k0 k1 n0 n1 idx : Nat} {sp dp n : Int32} (hk0 : k0 < 93) (hk1 : k1 < 93) (hc0 : cellA X (M k0) k0 = .inl (cy X 0, n0, .inl (M k0))) (hc1 : ∀ f, cellA X f k1 = .inl (cy X 0, n1, .inl f)) (hw : Cond.methodLink own idx arraycopyName ∈ AW) (hg : ¬ sp < 0 ∧ ¬ dp < 0 ∧ ¬ n < 0 ∧ sp.toNatClampNeg + n.toNatClampNeg ≤ n0 ∧ dp.toNatClampNeg + n.toNatClampNeg ≤ n1) (hfr : 1 ≤ rm.frames) (hlo : (st.map fun v => v.category).sum + (nativeFrameWords "java/lang/System" "arraycopy" 5 + 11) ≤ rm.locals) (hd : decode cc pc = .ok (.invokestatic idx, 3)) (kk : WX K X nL Qc (mcp M k0 k1 sp.toNatClampNeg dp.toNatClampNeg n.toNatClampNeg) (pc + 3) lv st) : WX K X nL Qc M pc lv (.int n :: .int dp :: .ref (ad X k1) :: .int sp :: .ref (ad X k0) :: st) := by
  obtain ⟨p, l, e, R, s, m, args, below, meth, c⟩ := K
  obtain ⟨hx, hb, hml, hown, hts, hF, rfl, hr, hlk⟩ := C
  intro H locs ls hH hl
  exact va_copyi hx hb (hml.trans hl.1.symm) hown (hts _ hw) (hts _ aw186) (hts _ aw187) (hts _ aw188) hF.2.1 hH.1 (wsA_D hF.1) hH.2 k0 k1 0 0 (by rw [wsA_at hk0, hc0]) (by rw [wsA_at hk1, hc1]) rfl rfl rfl hg.1 hg.2.1 hg.2.2.1 hg.2.2.2.1 hg.2.2.2.2 (fun _ _ => rfl) hfr hlo hd (fun H1 locs1 hP _ hS => kk H1 locs1 ls ⟨by rw [← hc1, wsA_set hk1] at hP; exact hP, hS⟩ hl)
theorem r_min (C : Kok K X nL cc own rm rt) {idx : Nat} {x y : Int32} (hw : Cond.methodLink own idx Lib.Math.min.name ∈ AW) (hfr : 1 ≤ rm.frames) (hlo : (st.map fun v => v.category).sum + 13 ≤ rm.locals) (hd : decode cc pc = .ok (.invokestatic idx, 3)) (kk : WX K X nL Qc M (pc + 3) lv (.int (if y < x then y else x) :: st)) : WX K X nL Qc M pc lv (.int y :: .int x :: st) := by
  obtain ⟨p, l, e, R, s, m, args, below, meth, c⟩ := K
  obtain ⟨hx, hb, hml, hown, hts, hF, rfl, hr, hlk⟩ := C
  intro H locs ls hH hl
  exact va_mmin hx hb (hml.trans hl.1.symm) hown (hts _ hw) (hts _ aw465) (hts _ aw444) (hts _ aw466) hfr hlo (Nat.zero_le _) (Nat.zero_le _) hd (kk H locs ls hH hl)
theorem r_max (C : Kok K X nL cc own rm rt) {idx : Nat} {x y : Int32} (hw : Cond.methodLink own idx Lib.Math.max.name ∈ AW) (hfr : 1 ≤ rm.frames) (hlo : (st.map fun v => v.category).sum + 13 ≤ rm.locals) (hd : decode cc pc = .ok (.invokestatic idx, 3)) (kk : WX K X nL Qc M (pc + 3) lv (.int (if x < y then y else x) :: st)) : WX K X nL Qc M pc lv (.int y :: .int x :: st) := by
  obtain ⟨p, l, e, R, s, m, args, below, meth, c⟩ := K
  obtain ⟨hx, hb, hml, hown, hts, hF, rfl, hr, hlk⟩ := C
  intro H locs ls hH hl
  exact va_mmax hx hb (hml.trans hl.1.symm) hown (hts _ hw) (hts _ aw443) (hts _ aw444) (hts _ aw445) hfr hlo (Nat.zero_le _) (Nat.zero_le _) hd (kk H locs ls hH hl)
theorem r_callVi (C : Kok K X nL cc own rm rt) {y : MethodName} {bytes : ByteArray} {maxL idx : Nat} {ret : Option FieldType} {rmc : Room} (n : Nat) {As : List Value} {k ci N : Nat} {fs : List Value} {T : u_T} (hk : k < 93) (hc : cellA X (M k) k = .inr (ci, fs)) (hcl : vwCl[ci]? = some (y.cls, T, N)) (hinst : Cond.instanceMethod y ∈ AW) (hsel : Cond.selects y.cls y y ∈ AW) {Q : Int32 → Mem → Prop} (hM : Ct y bytes maxL ret rmc X M (.ref (ad X k) :: As) (Qi X Q)) (hw : Cond.methodLink own idx y ∈ AW)  (hcode : Cond.code y bytes maxL ret ∈ AW) (hini : Cond.initialized y.cls ∈ AW) (hdy : y.cls ≠ "java/lang/invoke/MethodHandle" ∧ y.cls ≠ "java/lang/invoke/VarHandle" ∧ (parseMethodDescriptor y.desc).map (fun d => d.parameters.length) = some n) (h0 : rmc.cells = 0 ∧ rmc.slots = 0) (hR : rmc.frames + 1 ≤ rm.frames ∧ 8 + (maxL + 11) + rmc.locals ≤ rm.locals) (hn : As.length = n) (hst : (st.map fun v => v.category).sum ≤ 8) (hd : decode cc pc = .ok (.invokevirtual idx, 3)) (kk : ∀ (r : Int32) (M2 : Mem), Q r M2 → WX K X nL Qc M2 (pc + 3) lv (.int r :: st)) : WX K X nL Qc M pc lv (As.reverse ++ .ref (ad X k) :: st) := by
  obtain ⟨p, l, e, R, s, m, args, below, meth, c⟩ := K
  obtain ⟨hx, hb, hml, hown, hts, hF, rfl, hr, hlk⟩ := C
  intro H locs ls hH hl
  refine va_calli (va_runV (As := As) (rest := st) ⟨hx, hb, hml, hown, hts⟩ (hM l) (⟨callB_of n hts (AWcall hcode) rfl h0.1 h0.2 (hts _ hini) (hts _ hw) hdy hR, hts _ hinst, hts _ hsel⟩) ⟨fun a U g mk q => ⟨q.1, q.2.1, Fx_blind q.2.2⟩, va_recv hF.2.1 hH.1 hcl (by rw [wsA_at hk, hc]), fun U hU hW => ⟨rfl, by rw [hU]; exact hH.1, Fx_call hF hH.2 hU hW⟩⟩ rfl hn hl.1 rfl (lv_room hst) hd ⟨Nat.zero_le _, Nat.zero_le _⟩) hH.2 (fun q _ h => h) (fun q h => h) (fun r M2 t H1 locs1 ht hvm hq hB hz hk2 hS => ?_)
  exact kk r M2 hq H1 locs1 ls ⟨by rw [← ht]; exact hB, hS⟩ hl
theorem r_callVNi (C : Kok K X nL cc own rm rt) {y : MethodName} {bytes : ByteArray} {maxL idx : Nat} {ret : Option FieldType} {rmc : Room} (n : Nat) {As : List Value} {k ci N : Nat} {fs : List Value} {T : u_T} (hk : k < 93) (hc : cellA X (M k) k = .inr (ci, fs)) (hcl : vwCl[ci]? = some (y.cls, T, N)) (hinst : Cond.instanceMethod y ∈ AW) (hsel : Cond.selects y.cls y y ∈ AW) {Q : Int32 → Mem → Prop} (hM : Ct y bytes maxL ret rmc X M (.ref (ad X k) :: As) (Qi X Q)) {host : String} (hw : (own, idx, y, host) ∈ NM)  (hcode : Cond.code y bytes maxL ret ∈ AW) (hini : Cond.initialized y.cls ∈ AW) (hdy : y.cls ≠ "java/lang/invoke/MethodHandle" ∧ y.cls ≠ "java/lang/invoke/VarHandle" ∧ (parseMethodDescriptor y.desc).map (fun d => d.parameters.length) = some n) (h0 : rmc.cells = 0 ∧ rmc.slots = 0) (hR : rmc.frames + 1 ≤ rm.frames ∧ 8 + (maxL + 11) + rmc.locals ≤ rm.locals) (hn : As.length = n) (hst : (st.map fun v => v.category).sum ≤ 8) (hd : decode cc pc = .ok (.invokevirtual idx, 3)) (kk : ∀ (r : Int32) (M2 : Mem), Q r M2 → WX K X nL Qc M2 (pc + 3) lv (.int r :: st)) : WX K X nL Qc M pc lv (As.reverse ++ .ref (ad X k) :: st) := by
  obtain ⟨p, l, e, R, s, m, args, below, meth, c⟩ := K
  obtain ⟨hx, hb, hml, hown, hts, hF, rfl, hr, hlk⟩ := C
  intro H locs ls hH hl
  refine va_calli (va_runVN (As := As) (rest := st) ⟨hx, hb, hml, hown, hts⟩ (hM l) (⟨va_cnB n hts (AWcall hcode) rfl h0.1 h0.2 (hF.2.2.2.1 _ hw) (hts _ hini) hdy hR, hts _ hinst, hts _ hsel⟩) ⟨fun a U g mk q => ⟨q.1, q.2.1, Fx_blind q.2.2⟩, va_recv hF.2.1 hH.1 hcl (by rw [wsA_at hk, hc]), fun U hU hW => ⟨rfl, by rw [hU]; exact hH.1, Fx_call hF hH.2 hU hW⟩⟩ rfl hn hl.1 rfl (lv_room hst) hd ⟨Nat.zero_le _, Nat.zero_le _⟩) hH.2 (fun q _ h => h) (fun q h => h) (fun r M2 t H1 locs1 ht hvm hq hB hz hk2 hS => ?_)
  exact kk r M2 hq H1 locs1 ls ⟨by rw [← ht]; exact hB, hS⟩ hl
theorem r_callSi (C : Kok K X nL cc own rm rt) {y : MethodName} {bytes : ByteArray} {maxL idx : Nat} {ret : Option FieldType} {rmc : Room} (n : Nat) {As : List Value}  {Q : Int32 → Mem → Prop} (hM : Ct y bytes maxL ret rmc X M As (Qi X Q)) (hw : Cond.methodLink own idx y ∈ AW) (hstat : Cond.static y ∈ AW) (hcode : Cond.code y bytes maxL ret ∈ AW) (hini : Cond.initialized y.cls ∈ AW) (hdy : y.cls ≠ "java/lang/invoke/MethodHandle" ∧ y.cls ≠ "java/lang/invoke/VarHandle" ∧ (parseMethodDescriptor y.desc).map (fun d => d.parameters.length) = some n) (h0 : rmc.cells = 0 ∧ rmc.slots = 0) (hR : rmc.frames + 1 ≤ rm.frames ∧ 8 + (maxL + 11) + rmc.locals ≤ rm.locals) (hn : As.length = n) (hst : (st.map fun v => v.category).sum ≤ 8) (hd : decode cc pc = .ok (.invokestatic idx, 3)) (kk : ∀ (r : Int32) (M2 : Mem), Q r M2 → WX K X nL Qc M2 (pc + 3) lv (.int r :: st)) : WX K X nL Qc M pc lv (As.reverse ++ st) := by
  obtain ⟨p, l, e, R, s, m, args, below, meth, c⟩ := K
  obtain ⟨hx, hb, hml, hown, hts, hF, rfl, hr, hlk⟩ := C
  intro H locs ls hH hl
  refine va_calli (va_runS (As := As) (rest := st) ⟨hx, hb, hml, hown, hts⟩ (hM l) (⟨callB_of n hts (AWcall hcode) rfl h0.1 h0.2 (hts _ hini) (hts _ hw) hdy hR, hts _ hstat⟩) ⟨fun a U g mk q => ⟨q.1, q.2.1, Fx_blind q.2.2⟩, fun U hU hW => ⟨rfl, by rw [hU]; exact hH.1, Fx_call hF hH.2 hU hW⟩⟩ rfl hn hl.1 rfl (lv_room hst) hd ⟨Nat.zero_le _, Nat.zero_le _⟩) hH.2 (fun q _ h => h) (fun q h => h) (fun r M2 t H1 locs1 ht hvm hq hB hz hk2 hS => ?_)
  exact kk r M2 hq H1 locs1 ls ⟨by rw [← ht]; exact hB, hS⟩ hl
theorem r_callSNi (C : Kok K X nL cc own rm rt) {y : MethodName} {bytes : ByteArray} {maxL idx : Nat} {ret : Option FieldType} {rmc : Room} (n : Nat) {As : List Value}  {Q : Int32 → Mem → Prop} (hM : Ct y bytes maxL ret rmc X M As (Qi X Q)) {host : String} (hw : (own, idx, y, host) ∈ NM) (hstat : Cond.static y ∈ AW) (hcode : Cond.code y bytes maxL ret ∈ AW) (hini : Cond.initialized y.cls ∈ AW) (hdy : y.cls ≠ "java/lang/invoke/MethodHandle" ∧ y.cls ≠ "java/lang/invoke/VarHandle" ∧ (parseMethodDescriptor y.desc).map (fun d => d.parameters.length) = some n) (h0 : rmc.cells = 0 ∧ rmc.slots = 0) (hR : rmc.frames + 1 ≤ rm.frames ∧ 8 + (maxL + 11) + rmc.locals ≤ rm.locals) (hn : As.length = n) (hst : (st.map fun v => v.category).sum ≤ 8) (hd : decode cc pc = .ok (.invokestatic idx, 3)) (kk : ∀ (r : Int32) (M2 : Mem), Q r M2 → WX K X nL Qc M2 (pc + 3) lv (.int r :: st)) : WX K X nL Qc M pc lv (As.reverse ++ st) := by
  obtain ⟨p, l, e, R, s, m, args, below, meth, c⟩ := K
  obtain ⟨hx, hb, hml, hown, hts, hF, rfl, hr, hlk⟩ := C
  intro H locs ls hH hl
  refine va_calli (va_runSN (As := As) (rest := st) ⟨hx, hb, hml, hown, hts⟩ (hM l) (⟨va_cnB n hts (AWcall hcode) rfl h0.1 h0.2 (hF.2.2.2.1 _ hw) (hts _ hini) hdy hR, hts _ hstat, trivial⟩) ⟨fun a U g mk q => ⟨q.1, q.2.1, Fx_blind q.2.2⟩, fun U hU hW => ⟨rfl, by rw [hU]; exact hH.1, Fx_call hF hH.2 hU hW⟩⟩ rfl hn hl.1 rfl (lv_room hst) hd ⟨Nat.zero_le _, Nat.zero_le _⟩) hH.2 (fun q _ h => h) (fun q h => h) (fun r M2 t H1 locs1 ht hvm hq hB hz hk2 hS => ?_)
  exact kk r M2 hq H1 locs1 ls ⟨by rw [← ht]; exact hB, hS⟩ hl
theorem r_callVl (C : Kok K X nL cc own rm rt) {y : MethodName} {bytes : ByteArray} {maxL idx : Nat} {ret : Option FieldType} {rmc : Room} (n : Nat) {As : List Value} {k ci N : Nat} {fs : List Value} {T : u_T} (hk : k < 93) (hc : cellA X (M k) k = .inr (ci, fs)) (hcl : vwCl[ci]? = some (y.cls, T, N)) (hinst : Cond.instanceMethod y ∈ AW) (hsel : Cond.selects y.cls y y ∈ AW) {Q : Int64 → Mem → Prop} (hM : Ct y bytes maxL ret rmc X M (.ref (ad X k) :: As) (Ql X Q)) (hw : Cond.methodLink own idx y ∈ AW)  (hcode : Cond.code y bytes maxL ret ∈ AW) (hini : Cond.initialized y.cls ∈ AW) (hdy : y.cls ≠ "java/lang/invoke/MethodHandle" ∧ y.cls ≠ "java/lang/invoke/VarHandle" ∧ (parseMethodDescriptor y.desc).map (fun d => d.parameters.length) = some n) (h0 : rmc.cells = 0 ∧ rmc.slots = 0) (hR : rmc.frames + 1 ≤ rm.frames ∧ 8 + (maxL + 11) + rmc.locals ≤ rm.locals) (hn : As.length = n) (hst : (st.map fun v => v.category).sum ≤ 8) (hd : decode cc pc = .ok (.invokevirtual idx, 3)) (kk : ∀ (r : Int64) (M2 : Mem), Q r M2 → WX K X nL Qc M2 (pc + 3) lv (.long r :: st)) : WX K X nL Qc M pc lv (As.reverse ++ .ref (ad X k) :: st) := by
  obtain ⟨p, l, e, R, s, m, args, below, meth, c⟩ := K
  obtain ⟨hx, hb, hml, hown, hts, hF, rfl, hr, hlk⟩ := C
  intro H locs ls hH hl
  refine va_calll (va_runV (As := As) (rest := st) ⟨hx, hb, hml, hown, hts⟩ (hM l) (⟨callB_of n hts (AWcall hcode) rfl h0.1 h0.2 (hts _ hini) (hts _ hw) hdy hR, hts _ hinst, hts _ hsel⟩) ⟨fun a U g mk q => ⟨q.1, q.2.1, Fx_blind q.2.2⟩, va_recv hF.2.1 hH.1 hcl (by rw [wsA_at hk, hc]), fun U hU hW => ⟨rfl, by rw [hU]; exact hH.1, Fx_call hF hH.2 hU hW⟩⟩ rfl hn hl.1 rfl (lv_room hst) hd ⟨Nat.zero_le _, Nat.zero_le _⟩) hH.2 (fun q _ h => h) (fun q h => h) (fun r M2 t H1 locs1 ht hvm hq hB hz hk2 hS => ?_)
  exact kk r M2 hq H1 locs1 ls ⟨by rw [← ht]; exact hB, hS⟩ hl
theorem r_callVNl (C : Kok K X nL cc own rm rt) {y : MethodName} {bytes : ByteArray} {maxL idx : Nat} {ret : Option FieldType} {rmc : Room} (n : Nat) {As : List Value} {k ci N : Nat} {fs : List Value} {T : u_T} (hk : k < 93) (hc : cellA X (M k) k = .inr (ci, fs)) (hcl : vwCl[ci]? = some (y.cls, T, N)) (hinst : Cond.instanceMethod y ∈ AW) (hsel : Cond.selects y.cls y y ∈ AW) {Q : Int64 → Mem → Prop} (hM : Ct y bytes maxL ret rmc X M (.ref (ad X k) :: As) (Ql X Q)) {host : String} (hw : (own, idx, y, host) ∈ NM)  (hcode : Cond.code y bytes maxL ret ∈ AW) (hini : Cond.initialized y.cls ∈ AW) (hdy : y.cls ≠ "java/lang/invoke/MethodHandle" ∧ y.cls ≠ "java/lang/invoke/VarHandle" ∧ (parseMethodDescriptor y.desc).map (fun d => d.parameters.length) = some n) (h0 : rmc.cells = 0 ∧ rmc.slots = 0) (hR : rmc.frames + 1 ≤ rm.frames ∧ 8 + (maxL + 11) + rmc.locals ≤ rm.locals) (hn : As.length = n) (hst : (st.map fun v => v.category).sum ≤ 8) (hd : decode cc pc = .ok (.invokevirtual idx, 3)) (kk : ∀ (r : Int64) (M2 : Mem), Q r M2 → WX K X nL Qc M2 (pc + 3) lv (.long r :: st)) : WX K X nL Qc M pc lv (As.reverse ++ .ref (ad X k) :: st) := by
  obtain ⟨p, l, e, R, s, m, args, below, meth, c⟩ := K
  obtain ⟨hx, hb, hml, hown, hts, hF, rfl, hr, hlk⟩ := C
  intro H locs ls hH hl
  refine va_calll (va_runVN (As := As) (rest := st) ⟨hx, hb, hml, hown, hts⟩ (hM l) (⟨va_cnB n hts (AWcall hcode) rfl h0.1 h0.2 (hF.2.2.2.1 _ hw) (hts _ hini) hdy hR, hts _ hinst, hts _ hsel⟩) ⟨fun a U g mk q => ⟨q.1, q.2.1, Fx_blind q.2.2⟩, va_recv hF.2.1 hH.1 hcl (by rw [wsA_at hk, hc]), fun U hU hW => ⟨rfl, by rw [hU]; exact hH.1, Fx_call hF hH.2 hU hW⟩⟩ rfl hn hl.1 rfl (lv_room hst) hd ⟨Nat.zero_le _, Nat.zero_le _⟩) hH.2 (fun q _ h => h) (fun q h => h) (fun r M2 t H1 locs1 ht hvm hq hB hz hk2 hS => ?_)
  exact kk r M2 hq H1 locs1 ls ⟨by rw [← ht]; exact hB, hS⟩ hl
theorem r_callSl (C : Kok K X nL cc own rm rt) {y : MethodName} {bytes : ByteArray} {maxL idx : Nat} {ret : Option FieldType} {rmc : Room} (n : Nat) {As : List Value}  {Q : Int64 → Mem → Prop} (hM : Ct y bytes maxL ret rmc X M As (Ql X Q)) (hw : Cond.methodLink own idx y ∈ AW) (hstat : Cond.static y ∈ AW) (hcode : Cond.code y bytes maxL ret ∈ AW) (hini : Cond.initialized y.cls ∈ AW) (hdy : y.cls ≠ "java/lang/invoke/MethodHandle" ∧ y.cls ≠ "java/lang/invoke/VarHandle" ∧ (parseMethodDescriptor y.desc).map (fun d => d.parameters.length) = some n) (h0 : rmc.cells = 0 ∧ rmc.slots = 0) (hR : rmc.frames + 1 ≤ rm.frames ∧ 8 + (maxL + 11) + rmc.locals ≤ rm.locals) (hn : As.length = n) (hst : (st.map fun v => v.category).sum ≤ 8) (hd : decode cc pc = .ok (.invokestatic idx, 3)) (kk : ∀ (r : Int64) (M2 : Mem), Q r M2 → WX K X nL Qc M2 (pc + 3) lv (.long r :: st)) : WX K X nL Qc M pc lv (As.reverse ++ st) := by
  obtain ⟨p, l, e, R, s, m, args, below, meth, c⟩ := K
  obtain ⟨hx, hb, hml, hown, hts, hF, rfl, hr, hlk⟩ := C
  intro H locs ls hH hl
  refine va_calll (va_runS (As := As) (rest := st) ⟨hx, hb, hml, hown, hts⟩ (hM l) (⟨callB_of n hts (AWcall hcode) rfl h0.1 h0.2 (hts _ hini) (hts _ hw) hdy hR, hts _ hstat⟩) ⟨fun a U g mk q => ⟨q.1, q.2.1, Fx_blind q.2.2⟩, fun U hU hW => ⟨rfl, by rw [hU]; exact hH.1, Fx_call hF hH.2 hU hW⟩⟩ rfl hn hl.1 rfl (lv_room hst) hd ⟨Nat.zero_le _, Nat.zero_le _⟩) hH.2 (fun q _ h => h) (fun q h => h) (fun r M2 t H1 locs1 ht hvm hq hB hz hk2 hS => ?_)
  exact kk r M2 hq H1 locs1 ls ⟨by rw [← ht]; exact hB, hS⟩ hl
theorem r_callSNl (C : Kok K X nL cc own rm rt) {y : MethodName} {bytes : ByteArray} {maxL idx : Nat} {ret : Option FieldType} {rmc : Room} (n : Nat) {As : List Value}  {Q : Int64 → Mem → Prop} (hM : Ct y bytes maxL ret rmc X M As (Ql X Q)) {host : String} (hw : (own, idx, y, host) ∈ NM) (hstat : Cond.static y ∈ AW) (hcode : Cond.code y bytes maxL ret ∈ AW) (hini : Cond.initialized y.cls ∈ AW) (hdy : y.cls ≠ "java/lang/invoke/MethodHandle" ∧ y.cls ≠ "java/lang/invoke/VarHandle" ∧ (parseMethodDescriptor y.desc).map (fun d => d.parameters.length) = some n) (h0 : rmc.cells = 0 ∧ rmc.slots = 0) (hR : rmc.frames + 1 ≤ rm.frames ∧ 8 + (maxL + 11) + rmc.locals ≤ rm.locals) (hn : As.length = n) (hst : (st.map fun v => v.category).sum ≤ 8) (hd : decode cc pc = .ok (.invokestatic idx, 3)) (kk : ∀ (r : Int64) (M2 : Mem), Q r M2 → WX K X nL Qc M2 (pc + 3) lv (.long r :: st)) : WX K X nL Qc M pc lv (As.reverse ++ st) := by
  obtain ⟨p, l, e, R, s, m, args, below, meth, c⟩ := K
  obtain ⟨hx, hb, hml, hown, hts, hF, rfl, hr, hlk⟩ := C
  intro H locs ls hH hl
  refine va_calll (va_runSN (As := As) (rest := st) ⟨hx, hb, hml, hown, hts⟩ (hM l) (⟨va_cnB n hts (AWcall hcode) rfl h0.1 h0.2 (hF.2.2.2.1 _ hw) (hts _ hini) hdy hR, hts _ hstat, trivial⟩) ⟨fun a U g mk q => ⟨q.1, q.2.1, Fx_blind q.2.2⟩, fun U hU hW => ⟨rfl, by rw [hU]; exact hH.1, Fx_call hF hH.2 hU hW⟩⟩ rfl hn hl.1 rfl (lv_room hst) hd ⟨Nat.zero_le _, Nat.zero_le _⟩) hH.2 (fun q _ h => h) (fun q h => h) (fun r M2 t H1 locs1 ht hvm hq hB hz hk2 hS => ?_)
  exact kk r M2 hq H1 locs1 ls ⟨by rw [← ht]; exact hB, hS⟩ hl
theorem r_callVv (C : Kok K X nL cc own rm rt) {y : MethodName} {bytes : ByteArray} {maxL idx : Nat} {ret : Option FieldType} {rmc : Room} (n : Nat) {As : List Value} {k ci N : Nat} {fs : List Value} {T : u_T} (hk : k < 93) (hc : cellA X (M k) k = .inr (ci, fs)) (hcl : vwCl[ci]? = some (y.cls, T, N)) (hinst : Cond.instanceMethod y ∈ AW) (hsel : Cond.selects y.cls y y ∈ AW) {Q : Mem → Prop} (hM : Ct y bytes maxL ret rmc X M (.ref (ad X k) :: As) (Qv X Q)) (hw : Cond.methodLink own idx y ∈ AW)  (hcode : Cond.code y bytes maxL ret ∈ AW) (hini : Cond.initialized y.cls ∈ AW) (hdy : y.cls ≠ "java/lang/invoke/MethodHandle" ∧ y.cls ≠ "java/lang/invoke/VarHandle" ∧ (parseMethodDescriptor y.desc).map (fun d => d.parameters.length) = some n) (h0 : rmc.cells = 0 ∧ rmc.slots = 0) (hR : rmc.frames + 1 ≤ rm.frames ∧ 8 + (maxL + 11) + rmc.locals ≤ rm.locals) (hn : As.length = n) (hst : (st.map fun v => v.category).sum ≤ 8) (hd : decode cc pc = .ok (.invokevirtual idx, 3)) (kk : ∀ (M2 : Mem), Q M2 → WX K X nL Qc M2 (pc + 3) lv st) : WX K X nL Qc M pc lv (As.reverse ++ .ref (ad X k) :: st) := by
  obtain ⟨p, l, e, R, s, m, args, below, meth, c⟩ := K
  obtain ⟨hx, hb, hml, hown, hts, hF, rfl, hr, hlk⟩ := C
  intro H locs ls hH hl
  refine va_callv (va_runV (As := As) (rest := st) ⟨hx, hb, hml, hown, hts⟩ (hM l) (⟨callB_of n hts (AWcall hcode) rfl h0.1 h0.2 (hts _ hini) (hts _ hw) hdy hR, hts _ hinst, hts _ hsel⟩) ⟨fun a U g mk q => ⟨q.1, q.2.1, Fx_blind q.2.2⟩, va_recv hF.2.1 hH.1 hcl (by rw [wsA_at hk, hc]), fun U hU hW => ⟨rfl, by rw [hU]; exact hH.1, Fx_call hF hH.2 hU hW⟩⟩ rfl hn hl.1 rfl (lv_room hst) hd ⟨Nat.zero_le _, Nat.zero_le _⟩) hH.2 (fun q _ h => h) (fun q h => h) (fun M2 t H1 locs1 ht hvm hq hB hz hk2 hS => ?_)
  exact kk M2 hq H1 locs1 ls ⟨by rw [← ht]; exact hB, hS⟩ hl
theorem r_callVNv (C : Kok K X nL cc own rm rt) {y : MethodName} {bytes : ByteArray} {maxL idx : Nat} {ret : Option FieldType} {rmc : Room} (n : Nat) {As : List Value} {k ci N : Nat} {fs : List Value} {T : u_T} (hk : k < 93) (hc : cellA X (M k) k = .inr (ci, fs)) (hcl : vwCl[ci]? = some (y.cls, T, N)) (hinst : Cond.instanceMethod y ∈ AW) (hsel : Cond.selects y.cls y y ∈ AW) {Q : Mem → Prop} (hM : Ct y bytes maxL ret rmc X M (.ref (ad X k) :: As) (Qv X Q)) {host : String} (hw : (own, idx, y, host) ∈ NM)  (hcode : Cond.code y bytes maxL ret ∈ AW) (hini : Cond.initialized y.cls ∈ AW) (hdy : y.cls ≠ "java/lang/invoke/MethodHandle" ∧ y.cls ≠ "java/lang/invoke/VarHandle" ∧ (parseMethodDescriptor y.desc).map (fun d => d.parameters.length) = some n) (h0 : rmc.cells = 0 ∧ rmc.slots = 0) (hR : rmc.frames + 1 ≤ rm.frames ∧ 8 + (maxL + 11) + rmc.locals ≤ rm.locals) (hn : As.length = n) (hst : (st.map fun v => v.category).sum ≤ 8) (hd : decode cc pc = .ok (.invokevirtual idx, 3)) (kk : ∀ (M2 : Mem), Q M2 → WX K X nL Qc M2 (pc + 3) lv st) : WX K X nL Qc M pc lv (As.reverse ++ .ref (ad X k) :: st) := by
  obtain ⟨p, l, e, R, s, m, args, below, meth, c⟩ := K
  obtain ⟨hx, hb, hml, hown, hts, hF, rfl, hr, hlk⟩ := C
  intro H locs ls hH hl
  refine va_callv (va_runVN (As := As) (rest := st) ⟨hx, hb, hml, hown, hts⟩ (hM l) (⟨va_cnB n hts (AWcall hcode) rfl h0.1 h0.2 (hF.2.2.2.1 _ hw) (hts _ hini) hdy hR, hts _ hinst, hts _ hsel⟩) ⟨fun a U g mk q => ⟨q.1, q.2.1, Fx_blind q.2.2⟩, va_recv hF.2.1 hH.1 hcl (by rw [wsA_at hk, hc]), fun U hU hW => ⟨rfl, by rw [hU]; exact hH.1, Fx_call hF hH.2 hU hW⟩⟩ rfl hn hl.1 rfl (lv_room hst) hd ⟨Nat.zero_le _, Nat.zero_le _⟩) hH.2 (fun q _ h => h) (fun q h => h) (fun M2 t H1 locs1 ht hvm hq hB hz hk2 hS => ?_)
  exact kk M2 hq H1 locs1 ls ⟨by rw [← ht]; exact hB, hS⟩ hl
theorem r_callSv (C : Kok K X nL cc own rm rt) {y : MethodName} {bytes : ByteArray} {maxL idx : Nat} {ret : Option FieldType} {rmc : Room} (n : Nat) {As : List Value}  {Q : Mem → Prop} (hM : Ct y bytes maxL ret rmc X M As (Qv X Q)) (hw : Cond.methodLink own idx y ∈ AW) (hstat : Cond.static y ∈ AW) (hcode : Cond.code y bytes maxL ret ∈ AW) (hini : Cond.initialized y.cls ∈ AW) (hdy : y.cls ≠ "java/lang/invoke/MethodHandle" ∧ y.cls ≠ "java/lang/invoke/VarHandle" ∧ (parseMethodDescriptor y.desc).map (fun d => d.parameters.length) = some n) (h0 : rmc.cells = 0 ∧ rmc.slots = 0) (hR : rmc.frames + 1 ≤ rm.frames ∧ 8 + (maxL + 11) + rmc.locals ≤ rm.locals) (hn : As.length = n) (hst : (st.map fun v => v.category).sum ≤ 8) (hd : decode cc pc = .ok (.invokestatic idx, 3)) (kk : ∀ (M2 : Mem), Q M2 → WX K X nL Qc M2 (pc + 3) lv st) : WX K X nL Qc M pc lv (As.reverse ++ st) := by
  obtain ⟨p, l, e, R, s, m, args, below, meth, c⟩ := K
  obtain ⟨hx, hb, hml, hown, hts, hF, rfl, hr, hlk⟩ := C
  intro H locs ls hH hl
  refine va_callv (va_runS (As := As) (rest := st) ⟨hx, hb, hml, hown, hts⟩ (hM l) (⟨callB_of n hts (AWcall hcode) rfl h0.1 h0.2 (hts _ hini) (hts _ hw) hdy hR, hts _ hstat⟩) ⟨fun a U g mk q => ⟨q.1, q.2.1, Fx_blind q.2.2⟩, fun U hU hW => ⟨rfl, by rw [hU]; exact hH.1, Fx_call hF hH.2 hU hW⟩⟩ rfl hn hl.1 rfl (lv_room hst) hd ⟨Nat.zero_le _, Nat.zero_le _⟩) hH.2 (fun q _ h => h) (fun q h => h) (fun M2 t H1 locs1 ht hvm hq hB hz hk2 hS => ?_)
  exact kk M2 hq H1 locs1 ls ⟨by rw [← ht]; exact hB, hS⟩ hl
theorem r_callSNv (C : Kok K X nL cc own rm rt) {y : MethodName} {bytes : ByteArray} {maxL idx : Nat} {ret : Option FieldType} {rmc : Room} (n : Nat) {As : List Value}  {Q : Mem → Prop} (hM : Ct y bytes maxL ret rmc X M As (Qv X Q)) {host : String} (hw : (own, idx, y, host) ∈ NM) (hstat : Cond.static y ∈ AW) (hcode : Cond.code y bytes maxL ret ∈ AW) (hini : Cond.initialized y.cls ∈ AW) (hdy : y.cls ≠ "java/lang/invoke/MethodHandle" ∧ y.cls ≠ "java/lang/invoke/VarHandle" ∧ (parseMethodDescriptor y.desc).map (fun d => d.parameters.length) = some n) (h0 : rmc.cells = 0 ∧ rmc.slots = 0) (hR : rmc.frames + 1 ≤ rm.frames ∧ 8 + (maxL + 11) + rmc.locals ≤ rm.locals) (hn : As.length = n) (hst : (st.map fun v => v.category).sum ≤ 8) (hd : decode cc pc = .ok (.invokestatic idx, 3)) (kk : ∀ (M2 : Mem), Q M2 → WX K X nL Qc M2 (pc + 3) lv st) : WX K X nL Qc M pc lv (As.reverse ++ st) := by
  obtain ⟨p, l, e, R, s, m, args, below, meth, c⟩ := K
  obtain ⟨hx, hb, hml, hown, hts, hF, rfl, hr, hlk⟩ := C
  intro H locs ls hH hl
  refine va_callv (va_runSN (As := As) (rest := st) ⟨hx, hb, hml, hown, hts⟩ (hM l) (⟨va_cnB n hts (AWcall hcode) rfl h0.1 h0.2 (hF.2.2.2.1 _ hw) (hts _ hini) hdy hR, hts _ hstat, trivial⟩) ⟨fun a U g mk q => ⟨q.1, q.2.1, Fx_blind q.2.2⟩, fun U hU hW => ⟨rfl, by rw [hU]; exact hH.1, Fx_call hF hH.2 hU hW⟩⟩ rfl hn hl.1 rfl (lv_room hst) hd ⟨Nat.zero_le _, Nat.zero_le _⟩) hH.2 (fun q _ h => h) (fun q h => h) (fun M2 t H1 locs1 ht hvm hq hB hz hk2 hS => ?_)
  exact kk M2 hq H1 locs1 ls ⟨by rw [← ht]; exact hB, hS⟩ hl
theorem r_iret {Q : Int32 → Mem → Prop} {v : Int32} (C : Kok K X nL cc own rm (some .int)) (hd : decode cc pc = .ok (.ireturn, 1)) (h : Q v M) : WX K X nL (Qi X Q) M pc lv [.int v] := by
  obtain ⟨p, l, e, R, s, m, args, below, meth, c⟩ := K
  obtain ⟨hx, hb, hml, hown, hts, hF, rfl, hr, hlk⟩ := C
  intro H locs ls hH hl
  exact W.iret hx hb hr (fun t ht hW => ⟨⟨v, M, rfl, h, by show PX X M t.heap; rw [ht]; exact hH.1⟩, hH.2.F ht⟩) hH.2.2.2 hd hlk
def vz (v : Int32) : Prop := v = 0 ∨ v = 1
theorem vz_n {v : Int32} (h : vz v) : narrow .boolean (.int v) = .int v := by
  rcases h with rfl | rfl <;> rfl
theorem r_zret {Q : Int32 → Mem → Prop} {v : Int32} (C : Kok K X nL cc own rm (some .boolean)) (hd : decode cc pc = .ok (.ireturn, 1)) (hz : vz v) (h : Q v M) : WX K X nL (Qi X Q) M pc lv [.int v] := by
  obtain ⟨p, l, e, R, s, m, args, below, meth, c⟩ := K
  obtain ⟨hx, hb, hml, hown, hts, hF, rfl, hr, hlk⟩ := C
  intro H locs ls hH hl
  exact W.zret hx hb hr (vz_n hz) (fun t ht hW => ⟨⟨v, M, rfl, h, by show PX X M t.heap; rw [ht]; exact hH.1⟩, hH.2.F ht⟩) hH.2.2.2 hd hlk
theorem r_lret {Q : Int64 → Mem → Prop} {v : Int64} (C : Kok K X nL cc own rm (some .long)) (hd : decode cc pc = .ok (.lreturn, 1)) (h : Q v M) : WX K X nL (Ql X Q) M pc lv [.long v] := by
  obtain ⟨p, l, e, R, s, m, args, below, meth, c⟩ := K
  obtain ⟨hx, hb, hml, hown, hts, hF, rfl, hr, hlk⟩ := C
  intro H locs ls hH hl
  exact W.lret hx hb hr (fun t ht hW => ⟨⟨v, M, rfl, h, by show PX X M t.heap; rw [ht]; exact hH.1⟩, hH.2.F ht⟩) hH.2.2.2 hd hlk
theorem r_vret {Q : Mem → Prop} (C : Kok K X nL cc own rm none) (hd : decode cc pc = .ok (.return_, 1)) (h : Q M) : WX K X nL (Qv X Q) M pc lv [] := by
  obtain ⟨p, l, e, R, s, m, args, below, meth, c⟩ := K
  obtain ⟨hx, hb, hml, hown, hts, hF, rfl, hr, hlk⟩ := C
  intro H locs ls hH hl
  exact W.vret hx hb hr (fun t ht hW => ⟨⟨M, rfl, h, by show PX X M t.heap; rw [ht]; exact hH.1⟩, hH.2.F ht⟩) hH.2.2.2 hd hlk
end ROWS
section CELLS
variable {X : Cx}
theorem ce0 (f : Nat → Int32) : cellA X f 0 = .inr (8, [.ref (ad X 1), .ref (ad X 19), .ref (ad X 21), .ref (ad X 27), .ref (ad X 41), .ref (ad X 52), .ref (ad X 2), .ref (ad X 29), .ref (ad X 32), .ref (ad X 37), .int (f 10), .int (f 11)]) := rfl
theorem ce4 (f : Nat → Int32) : cellA X f 4 = .inl (cy X 0, 40, .inl f) := rfl
theorem ce6 (f : Nat → Int32) : cellA X f 6 = .inl (cy X 0, 40, .inl f) := rfl
theorem ce8 (f : Nat → Int32) : cellA X f 8 = .inl (cy X 0, 40, .inl f) := rfl
theorem ce10 (f : Nat → Int32) : cellA X f 10 = .inl (cy X 0, 40, .inl f) := rfl
theorem ce12 (f : Nat → Int32) : cellA X f 12 = .inl (cy X 0, 40, .inl f) := rfl
theorem ce14 (f : Nat → Int32) : cellA X f 14 = .inl (cy X 0, 40, .inl f) := rfl
theorem ce16 (f : Nat → Int32) : cellA X f 16 = .inl (cy X 0, 40, .inl f) := rfl
theorem ce18 (f : Nat → Int32) : cellA X f 18 = .inl (cy X 0, 40, .inl f) := rfl
theorem ce19 (f : Nat → Int32) : cellA X f 19 = .inr (3, [.ref (ad X 20), .int (f 1), .int (f 2), .int (f 3), .int (f 4), .int (f 5)]) := rfl
theorem ce20 (f : Nat → Int32) : cellA X f 20 = .inl (cy X 0, 120, .inl f) := rfl
theorem ce21 (f : Nat → Int32) : cellA X f 21 = .inr (0, [.ref (ad X 22), .ref (ad X 23), .ref (ad X 24), .ref (ad X 25), .ref (ad X 26), .int (f 5), .int (f 6)]) := rfl
theorem ce22 (f : Nat → Int32) : cellA X f 22 = .inl (cy X 0, 24, .inl f) := rfl
theorem ce23 (f : Nat → Int32) : cellA X f 23 = .inl (cy X 0, 24, .inl f) := rfl
theorem ce24 (f : Nat → Int32) : cellA X f 24 = .inl (cy X 0, 24, .inl f) := rfl
theorem ce25 (f : Nat → Int32) : cellA X f 25 = .inl (cy X 0, 24, .inl f) := rfl
theorem ce26 (f : Nat → Int32) : cellA X f 26 = .inl (cy X 0, 24, .inl f) := rfl
theorem ce27 (f : Nat → Int32) : cellA X f 27 = .inr (1, [.ref (ad X 28), .int (f 1)]) := rfl
theorem ce28 (f : Nat → Int32) : cellA X f 28 = .inl (cy X 0, 16, .inl f) := rfl
theorem ce29 (f : Nat → Int32) : cellA X f 29 = .inr (2, [.ref (ad X 30), .ref (ad X 31), .int (f 2)]) := rfl
theorem ce30 (f : Nat → Int32) : cellA X f 30 = .inl (cy X 0, 6, .inl f) := rfl
theorem ce31 (f : Nat → Int32) : cellA X f 31 = .inl (cy X 0, 6, .inl f) := rfl
theorem ce32 (f : Nat → Int32) : cellA X f 32 = .inr (7, [.ref (ad X 33), .ref (ad X 34), .ref (ad X 35), .ref (ad X 36), .int (f 4)]) := rfl
theorem ce33 (f : Nat → Int32) : cellA X f 33 = .inl (cy X 0, 7, .inl f) := rfl
theorem ce34 (f : Nat → Int32) : cellA X f 34 = .inl (cy X 0, 7, .inl f) := rfl
theorem ce35 (f : Nat → Int32) : cellA X f 35 = .inl (cy X 0, 7, .inl f) := rfl
theorem ce36 (f : Nat → Int32) : cellA X f 36 = .inl (cy X 0, 6, .inl f) := rfl
theorem ce37 (f : Nat → Int32) : cellA X f 37 = .inr (5, [.ref (ad X 38), .ref (ad X 39), .ref (ad X 40), .int (f 3), .int (f 4), .int (f 5)]) := rfl
theorem ce38 (f : Nat → Int32) : cellA X f 38 = .inl (cy X 0, 6, .inl f) := rfl
theorem ce39 (f : Nat → Int32) : cellA X f 39 = .inl (cy X 0, 18, .inl f) := rfl
theorem ce40 (f : Nat → Int32) : cellA X f 40 = .inl (cy X 0, 18, .inl f) := rfl
theorem ce42 (f : Nat → Int32) : cellA X f 42 = .inl (cy X 0, 6, .inl f) := rfl
theorem ce43 (f : Nat → Int32) : cellA X f 43 = .inl (cy X 0, 6, .inl f) := rfl
theorem ce44 (f : Nat → Int32) : cellA X f 44 = .inl (cy X 0, 6, .inl f) := rfl
theorem ce45 (f : Nat → Int32) : cellA X f 45 = .inl (cy X 0, 6, .inl f) := rfl
theorem ce46 (f : Nat → Int32) : cellA X f 46 = .inl (cy X 0, 6, .inl f) := rfl
theorem ce47 (f : Nat → Int32) : cellA X f 47 = .inl (cy X 0, 6, .inl f) := rfl
theorem ce48 (f : Nat → Int32) : cellA X f 48 = .inl (cy X 0, 6, .inl f) := rfl
theorem ce49 (f : Nat → Int32) : cellA X f 49 = .inl (cy X 0, 6, .inl f) := rfl
theorem ce50 (f : Nat → Int32) : cellA X f 50 = .inl (cy X 0, 36, .inl f) := rfl
theorem ce51 (f : Nat → Int32) : cellA X f 51 = .inl (cy X 0, 36, .inl f) := rfl
theorem ce53 (f : Nat → Int32) : cellA X f 53 = .inl (cy X 0, 6, .inl f) := rfl
theorem ce54 (f : Nat → Int32) : cellA X f 54 = .inl (cy X 0, 6, .inl f) := rfl
theorem ce55 (f : Nat → Int32) : cellA X f 55 = .inl (cy X 0, 6, .inl f) := rfl
theorem ce56 (f : Nat → Int32) : cellA X f 56 = .inl (cy X 0, 6, .inl f) := rfl
theorem ce57 (f : Nat → Int32) : cellA X f 57 = .inl (cy X 0, 6, .inl f) := rfl
theorem ce58 (f : Nat → Int32) : cellA X f 58 = .inl (cy X 0, 6, .inl f) := rfl
theorem ce59 (f : Nat → Int32) : cellA X f 59 = .inl (cy X 0, 6, .inl f) := rfl
theorem ce60 (f : Nat → Int32) : cellA X f 60 = .inl (cy X 0, 6, .inl f) := rfl
theorem ce61 (f : Nat → Int32) : cellA X f 61 = .inl (cy X 0, 36, .inl f) := rfl
theorem ce62 (f : Nat → Int32) : cellA X f 62 = .inl (cy X 0, 36, .inl f) := rfl
theorem ce64 (f : Nat → Int32) : cellA X f 64 = .inl (cy X 0, 6, .inl f) := rfl
theorem ce65 (f : Nat → Int32) : cellA X f 65 = .inl (cy X 0, 6, .inl f) := rfl
theorem ce66 (f : Nat → Int32) : cellA X f 66 = .inl (cy X 0, 6, .inl f) := rfl
theorem ce67 (f : Nat → Int32) : cellA X f 67 = .inl (cy X 0, 6, .inl f) := rfl
theorem ce68 (f : Nat → Int32) : cellA X f 68 = .inl (cy X 0, 6, .inl f) := rfl
theorem ce69 (f : Nat → Int32) : cellA X f 69 = .inl (cy X 0, 6, .inl f) := rfl
theorem ce70 (f : Nat → Int32) : cellA X f 70 = .inl (cy X 0, 6, .inl f) := rfl
theorem ce71 (f : Nat → Int32) : cellA X f 71 = .inl (cy X 0, 6, .inl f) := rfl
theorem ce72 (f : Nat → Int32) : cellA X f 72 = .inl (cy X 0, 36, .inl f) := rfl
theorem ce73 (f : Nat → Int32) : cellA X f 73 = .inl (cy X 0, 36, .inl f) := rfl
theorem ce75 (f : Nat → Int32) : cellA X f 75 = .inl (cy X 0, 6, .inl f) := rfl
theorem ce76 (f : Nat → Int32) : cellA X f 76 = .inl (cy X 0, 6, .inl f) := rfl
theorem ce77 (f : Nat → Int32) : cellA X f 77 = .inl (cy X 0, 6, .inl f) := rfl
theorem ce78 (f : Nat → Int32) : cellA X f 78 = .inl (cy X 0, 6, .inl f) := rfl
theorem ce79 (f : Nat → Int32) : cellA X f 79 = .inl (cy X 0, 6, .inl f) := rfl
theorem ce80 (f : Nat → Int32) : cellA X f 80 = .inl (cy X 0, 6, .inl f) := rfl
theorem ce81 (f : Nat → Int32) : cellA X f 81 = .inl (cy X 0, 6, .inl f) := rfl
theorem ce82 (f : Nat → Int32) : cellA X f 82 = .inl (cy X 0, 6, .inl f) := rfl
theorem ce83 (f : Nat → Int32) : cellA X f 83 = .inl (cy X 0, 36, .inl f) := rfl
theorem ce84 (f : Nat → Int32) : cellA X f 84 = .inl (cy X 0, 36, .inl f) := rfl
theorem ce85 (f : Nat → Int32) : cellA X f 85 = .inr (9, [.ref (ad X 86), .int (f 1), .ref (ad X 87), .ref (ad X 88), .ref (ad X 89), .ref (ad X 90), .ref (ad X 91), .int (f 7), .int (f 8), .int (f 9), .ref (ad X 92), .int (f 11), .int (f 12), .int (f 13), .int (f 14), .int (f 15), .int (f 16), .int (f 17), .int (f 18), .int (f 19), .int (f 20)]) := rfl
theorem ce86 (f : Nat → Int32) : cellA X f 86 = .inl (cy X 0, 3528, .inl f) := rfl
theorem ce87 (f : Nat → Int32) : cellA X f 87 = .inl (cy X 1, 2, .inl f) := rfl
theorem ce88 (f : Nat → Int32) : cellA X f 88 = .inl (cy X 0, 8, .inl f) := rfl
theorem ce89 (f : Nat → Int32) : cellA X f 89 = .inl (cy X 0, 8, .inl f) := rfl
theorem ce90 (f : Nat → Int32) : cellA X f 90 = .inl (cy X 0, 320, .inl f) := rfl
theorem ce91 (f : Nat → Int32) : cellA X f 91 = .inl (cy X 0, 120, .inl f) := rfl
theorem ce92 (f : Nat → Int32) : cellA X f 92 = .inl (cy X 0, 16, .inl f) := rfl
theorem kdlt {k : Nat} (h : kd k ≠ 99) : k < 93 := by
  by_cases hk : k < 93
  · exact hk
  · refine absurd ?_ h
    unfold kd
    rw [List.getD_eq_getElem?_getD, List.getElem?_eq_none (by simp [kdL]; omega)]
    rfl
theorem ceT {k : Nat} (h : kd k = 6) (f : Nat → Int32) : cellA X f k = .inr (6, [.int (f 0), .int (f 1), .int (f 2), .int (f 3), .int (f 4), .int (f 5), .ref (ad X (k + 1)), .ref (ad X (k + 2)), .ref (ad X (k + 3)), .ref (ad X (k + 4)), .ref (ad X (k + 5)), .ref (ad X (k + 6)), .ref (ad X (k + 7)), .ref (ad X (k + 8)), .ref (ad X (k + 9)), .ref (ad X (k + 10))]) := by
  unfold cellA
  rw [h]
  rfl
theorem bdT {k : Nat} (h : kd k = 6) : k < 93 := kdlt (by rw [h]; decide)
theorem alT1 : ∀ k, k < 93 → kd k = 6 → kd (k + 1) = 10 ∧ ln (k + 1) = 6 := by decide +kernel
theorem bdT1 {k : Nat} (h : kd k = 6) : k + 1 < 93 := kdlt (by rw [(alT1 k (bdT h) h).1]; decide)
theorem ceT1 {k : Nat} (h : kd k = 6) (f : Nat → Int32) : cellA X f (k + 1) = .inl (cy X 0, 6, .inl f) := by
  unfold cellA
  rw [(alT1 k (bdT h) h).1, show ln (k + 1) = 6 from (alT1 k (bdT h) h).2]
  rfl
theorem alT2 : ∀ k, k < 93 → kd k = 6 → kd (k + 2) = 10 ∧ ln (k + 2) = 6 := by decide +kernel
theorem bdT2 {k : Nat} (h : kd k = 6) : k + 2 < 93 := kdlt (by rw [(alT2 k (bdT h) h).1]; decide)
theorem ceT2 {k : Nat} (h : kd k = 6) (f : Nat → Int32) : cellA X f (k + 2) = .inl (cy X 0, 6, .inl f) := by
  unfold cellA
  rw [(alT2 k (bdT h) h).1, show ln (k + 2) = 6 from (alT2 k (bdT h) h).2]
  rfl
theorem alT3 : ∀ k, k < 93 → kd k = 6 → kd (k + 3) = 10 ∧ ln (k + 3) = 6 := by decide +kernel
theorem bdT3 {k : Nat} (h : kd k = 6) : k + 3 < 93 := kdlt (by rw [(alT3 k (bdT h) h).1]; decide)
theorem ceT3 {k : Nat} (h : kd k = 6) (f : Nat → Int32) : cellA X f (k + 3) = .inl (cy X 0, 6, .inl f) := by
  unfold cellA
  rw [(alT3 k (bdT h) h).1, show ln (k + 3) = 6 from (alT3 k (bdT h) h).2]
  rfl
theorem alT4 : ∀ k, k < 93 → kd k = 6 → kd (k + 4) = 10 ∧ ln (k + 4) = 6 := by decide +kernel
theorem bdT4 {k : Nat} (h : kd k = 6) : k + 4 < 93 := kdlt (by rw [(alT4 k (bdT h) h).1]; decide)
theorem ceT4 {k : Nat} (h : kd k = 6) (f : Nat → Int32) : cellA X f (k + 4) = .inl (cy X 0, 6, .inl f) := by
  unfold cellA
  rw [(alT4 k (bdT h) h).1, show ln (k + 4) = 6 from (alT4 k (bdT h) h).2]
  rfl
theorem alT5 : ∀ k, k < 93 → kd k = 6 → kd (k + 5) = 10 ∧ ln (k + 5) = 6 := by decide +kernel
theorem bdT5 {k : Nat} (h : kd k = 6) : k + 5 < 93 := kdlt (by rw [(alT5 k (bdT h) h).1]; decide)
theorem ceT5 {k : Nat} (h : kd k = 6) (f : Nat → Int32) : cellA X f (k + 5) = .inl (cy X 0, 6, .inl f) := by
  unfold cellA
  rw [(alT5 k (bdT h) h).1, show ln (k + 5) = 6 from (alT5 k (bdT h) h).2]
  rfl
theorem alT6 : ∀ k, k < 93 → kd k = 6 → kd (k + 6) = 10 ∧ ln (k + 6) = 6 := by decide +kernel
theorem bdT6 {k : Nat} (h : kd k = 6) : k + 6 < 93 := kdlt (by rw [(alT6 k (bdT h) h).1]; decide)
theorem ceT6 {k : Nat} (h : kd k = 6) (f : Nat → Int32) : cellA X f (k + 6) = .inl (cy X 0, 6, .inl f) := by
  unfold cellA
  rw [(alT6 k (bdT h) h).1, show ln (k + 6) = 6 from (alT6 k (bdT h) h).2]
  rfl
theorem alT7 : ∀ k, k < 93 → kd k = 6 → kd (k + 7) = 10 ∧ ln (k + 7) = 6 := by decide +kernel
theorem bdT7 {k : Nat} (h : kd k = 6) : k + 7 < 93 := kdlt (by rw [(alT7 k (bdT h) h).1]; decide)
theorem ceT7 {k : Nat} (h : kd k = 6) (f : Nat → Int32) : cellA X f (k + 7) = .inl (cy X 0, 6, .inl f) := by
  unfold cellA
  rw [(alT7 k (bdT h) h).1, show ln (k + 7) = 6 from (alT7 k (bdT h) h).2]
  rfl
theorem alT8 : ∀ k, k < 93 → kd k = 6 → kd (k + 8) = 10 ∧ ln (k + 8) = 6 := by decide +kernel
theorem bdT8 {k : Nat} (h : kd k = 6) : k + 8 < 93 := kdlt (by rw [(alT8 k (bdT h) h).1]; decide)
theorem ceT8 {k : Nat} (h : kd k = 6) (f : Nat → Int32) : cellA X f (k + 8) = .inl (cy X 0, 6, .inl f) := by
  unfold cellA
  rw [(alT8 k (bdT h) h).1, show ln (k + 8) = 6 from (alT8 k (bdT h) h).2]
  rfl
theorem alT9 : ∀ k, k < 93 → kd k = 6 → kd (k + 9) = 10 ∧ ln (k + 9) = 36 := by decide +kernel
theorem bdT9 {k : Nat} (h : kd k = 6) : k + 9 < 93 := kdlt (by rw [(alT9 k (bdT h) h).1]; decide)
theorem ceT9 {k : Nat} (h : kd k = 6) (f : Nat → Int32) : cellA X f (k + 9) = .inl (cy X 0, 36, .inl f) := by
  unfold cellA
  rw [(alT9 k (bdT h) h).1, show ln (k + 9) = 36 from (alT9 k (bdT h) h).2]
  rfl
theorem alT10 : ∀ k, k < 93 → kd k = 6 → kd (k + 10) = 10 ∧ ln (k + 10) = 36 := by decide +kernel
theorem bdT10 {k : Nat} (h : kd k = 6) : k + 10 < 93 := kdlt (by rw [(alT10 k (bdT h) h).1]; decide)
theorem ceT10 {k : Nat} (h : kd k = 6) (f : Nat → Int32) : cellA X f (k + 10) = .inl (cy X 0, 36, .inl f) := by
  unfold cellA
  rw [(alT10 k (bdT h) h).1, show ln (k + 10) = 36 from (alT10 k (bdT h) h).2]
  rfl
theorem ceR {k : Nat} (h : kd k = 4) (f : Nat → Int32) : cellA X f k = .inr (4, [.ref (ad X (k + 1)), .int (f 1), .int (f 2)]) := by
  unfold cellA
  rw [h]
  rfl
theorem bdR {k : Nat} (h : kd k = 4) : k < 93 := kdlt (by rw [h]; decide)
theorem alR1 : ∀ k, k < 93 → kd k = 4 → kd (k + 1) = 10 ∧ ln (k + 1) = 40 := by decide +kernel
theorem bdR1 {k : Nat} (h : kd k = 4) : k + 1 < 93 := kdlt (by rw [(alR1 k (bdR h) h).1]; decide)
theorem ceR1 {k : Nat} (h : kd k = 4) (f : Nat → Int32) : cellA X f (k + 1) = .inl (cy X 0, 40, .inl f) := by
  unfold cellA
  rw [(alR1 k (bdR h) h).1, show ln (k + 1) = 40 from (alR1 k (bdR h) h).2]
  rfl
theorem ceA {k : Nat} (h : kd k = 10) (f : Nat → Int32) : cellA X f k = .inl (cy X 0, ln k, .inl f) := by
  unfold cellA
  rw [h]
  rfl
theorem bdA {k : Nat} (h : kd k = 10) : k < 93 := kdlt (by rw [h]; decide)
theorem in_nat {i : Int32} {n : Nat} (h : vp_in i n) : i.toNatClampNeg < n := by
  unfold vp_in at h
  omega
theorem kdRow {i : Int32} (h : vp_in i 8) : kd (3 + 2 * i.toNatClampNeg) = 4 := by
  have h1 := in_nat h
  generalize i.toNatClampNeg = n at h1 ⊢
  revert n
  decide
theorem kdImg {i : Int32} (h : vp_in i 2) : kd (63 + 11 * i.toNatClampNeg) = 6 := by
  have h1 := in_nat h
  generalize i.toNatClampNeg = n at h1 ⊢
  revert n
  decide
end CELLS
end
section
section ROWS2
variable {K : Kt} {X : Cx} {nL : Nat} {cc : ByteArray} {own : String} {rm : Room} {rt : Option FieldType} {Qc : Array Value → State → Outcome → State → Prop} {M : Mem} {pc : Nat} {lv lv2 : List (Nat × Value)} {st : List Value}
theorem in_lit {i : Int32} {n : Nat} (h : ¬ (i < 0 ∨ n ≤ i.toNatClampNeg)) : vp_in i n := h
theorem r_topM (k : ∀ M2 : Mem, M2 = M → WX K X nL Qc M2 pc lv st) : WX K X nL Qc M pc lv st := k M rfl
theorem q_s0 {s0 s1 : List Value} (hs : s0 = s1) (kk : WX K X nL Qc M pc lv s1) : WX K X nL Qc M pc lv s0 := hs ▸ kk
theorem q_iald (C : Kok K X nL cc own rm rt) {k n j : Nat} {i : Int32} (hk : k < 93) (hc : cellA X (M k) k = .inl (cy X 0, n, .inl (M k))) (hi : vp_in i n) (hj : i.toNatClampNeg = j) (hd : decode cc pc = .ok (.iaload, 1)) (kk : WX K X nL Qc M (pc + 1) lv (.int (M k j) :: st)) : WX K X nL Qc M pc lv (.int i :: .ref (ad X k) :: st) := by
  subst hj
  exact r_iald C hk hc hi hd kk
theorem q_zald (C : Kok K X nL cc own rm rt) {k n j : Nat} {i : Int32} (hk : k < 93) (hc : cellA X (M k) k = .inl (cy X 1, n, .inl (M k))) (hi : vp_in i n) (hj : i.toNatClampNeg = j) (hd : decode cc pc = .ok (.baload, 1)) (kk : WX K X nL Qc M (pc + 1) lv (.int (M k j) :: st)) : WX K X nL Qc M pc lv (.int i :: .ref (ad X k) :: st) := by
  subst hj
  exact r_zald C hk hc hi hd kk
theorem q_iast (C : Kok K X nL cc own rm rt) {k n j : Nat} {i x : Int32} (hk : k < 93) (hc : ∀ f, cellA X f k = .inl (cy X 0, n, .inl f)) (hi : vp_in i n) (hj : i.toNatClampNeg = j) (hd : decode cc pc = .ok (.iastore, 1)) (kk : WX K X nL Qc (ms M k j x) (pc + 1) lv st) : WX K X nL Qc M pc lv (.int x :: .int i :: .ref (ad X k) :: st) := by
  subst hj
  exact r_iast C hk hc hi hd kk
theorem q_zast (C : Kok K X nL cc own rm rt) {k n j : Nat} {i x : Int32} (hk : k < 93) (hc : ∀ f, cellA X f k = .inl (cy X 1, n, .inl f)) (hi : vp_in i n) (hj : i.toNatClampNeg = j) (hd : decode cc pc = .ok (.bastore, 1)) (kk : WX K X nL Qc (ms M k j (vp_nar .boolean x)) (pc + 1) lv st) : WX K X nL Qc M pc lv (.int x :: .int i :: .ref (ad X k) :: st) := by
  subst hj
  exact r_zast C hk hc hi hd kk
theorem q_copy {k0 k1 n0 n1 idx a b n2 : Nat} {sp dp n : Int32} (ea : sp.toNatClampNeg = a) (eb : dp.toNatClampNeg = b) (en : n.toNatClampNeg = n2) (C : Kok K X nL cc own rm rt) (hk0 : k0 < 93) (hk1 : k1 < 93) (hc0 : cellA X (M k0) k0 = .inl (cy X 0, n0, .inl (M k0))) (hc1 : ∀ f, cellA X f k1 = .inl (cy X 0, n1, .inl f)) (hw : Cond.methodLink own idx arraycopyName ∈ AW) (hg : ¬ sp < 0 ∧ ¬ dp < 0 ∧ ¬ n < 0 ∧ sp.toNatClampNeg + n.toNatClampNeg ≤ n0 ∧ dp.toNatClampNeg + n.toNatClampNeg ≤ n1) (hfr : 1 ≤ rm.frames) (hlo : (st.map fun v => v.category).sum + (nativeFrameWords "java/lang/System" "arraycopy" 5 + 11) ≤ rm.locals) (hd : decode cc pc = .ok (.invokestatic idx, 3)) (kk : WX K X nL Qc (mcp M k0 k1 a b n2) (pc + 3) lv st) : WX K X nL Qc M pc lv (.int n :: .int dp :: .ref (ad X k1) :: .int sp :: .ref (ad X k0) :: st) := by
  subst ea eb en
  exact r_copy C hk0 hk1 hc0 hc1 hw hg hfr hlo hd kk
end ROWS2
end
section
theorem dJ6_compare_7cf53_0 : decode cJ6_compare_7cf53 0 = .ok (.iload_n 0, 1) := by decide +kernel
theorem dJ6_compare_7cf53_1 : decode cJ6_compare_7cf53 1 = .ok (.iload_n 1, 1) := by decide +kernel
theorem dJ6_compare_7cf53_2 : decode cJ6_compare_7cf53 2 = .ok (.if_icmp .ge 7, 3) := by decide +kernel
theorem dJ6_compare_7cf53_5 : decode cJ6_compare_7cf53 5 = .ok (.iconst (-1), 1) := by decide +kernel
theorem dJ6_compare_7cf53_6 : decode cJ6_compare_7cf53 6 = .ok (.goto 13, 3) := by decide +kernel
theorem dJ6_compare_7cf53_9 : decode cJ6_compare_7cf53 9 = .ok (.iload_n 0, 1) := by decide +kernel
theorem dJ6_compare_7cf53_10 : decode cJ6_compare_7cf53 10 = .ok (.iload_n 1, 1) := by decide +kernel
theorem dJ6_compare_7cf53_11 : decode cJ6_compare_7cf53 11 = .ok (.if_icmp .ne 7, 3) := by decide +kernel
theorem dJ6_compare_7cf53_14 : decode cJ6_compare_7cf53 14 = .ok (.iconst 0, 1) := by decide +kernel
theorem dJ6_compare_7cf53_15 : decode cJ6_compare_7cf53 15 = .ok (.goto 4, 3) := by decide +kernel
theorem dJ6_compare_7cf53_18 : decode cJ6_compare_7cf53 18 = .ok (.iconst 1, 1) := by decide +kernel
theorem dJ6_compare_7cf53_19 : decode cJ6_compare_7cf53 19 = .ok (.ireturn, 1) := by decide +kernel
theorem dJ6_bitCount_0f7a4_0 : decode cJ6_bitCount_0f7a4 0 = .ok (.iload_n 0, 1) := by decide +kernel
theorem dJ6_bitCount_0f7a4_1 : decode cJ6_bitCount_0f7a4 1 = .ok (.iload_n 0, 1) := by decide +kernel
theorem dJ6_bitCount_0f7a4_2 : decode cJ6_bitCount_0f7a4 2 = .ok (.iconst 1, 1) := by decide +kernel
theorem dJ6_bitCount_0f7a4_3 : decode cJ6_bitCount_0f7a4 3 = .ok (.iushr, 1) := by decide +kernel
theorem dJ6_bitCount_0f7a4_4 : decode cJ6_bitCount_0f7a4 4 = .ok (.ldc_w 265, 3) := by decide +kernel
theorem dJ6_bitCount_0f7a4_7 : decode cJ6_bitCount_0f7a4 7 = .ok (.iand, 1) := by decide +kernel
theorem dJ6_bitCount_0f7a4_8 : decode cJ6_bitCount_0f7a4 8 = .ok (.isub, 1) := by decide +kernel
theorem dJ6_bitCount_0f7a4_9 : decode cJ6_bitCount_0f7a4 9 = .ok (.istore_n 0, 1) := by decide +kernel
theorem dJ6_bitCount_0f7a4_10 : decode cJ6_bitCount_0f7a4 10 = .ok (.iload_n 0, 1) := by decide +kernel
theorem dJ6_bitCount_0f7a4_11 : decode cJ6_bitCount_0f7a4 11 = .ok (.ldc_w 266, 3) := by decide +kernel
theorem dJ6_bitCount_0f7a4_14 : decode cJ6_bitCount_0f7a4 14 = .ok (.iand, 1) := by decide +kernel
theorem dJ6_bitCount_0f7a4_15 : decode cJ6_bitCount_0f7a4 15 = .ok (.iload_n 0, 1) := by decide +kernel
theorem dJ6_bitCount_0f7a4_16 : decode cJ6_bitCount_0f7a4 16 = .ok (.iconst 2, 1) := by decide +kernel
theorem dJ6_bitCount_0f7a4_17 : decode cJ6_bitCount_0f7a4 17 = .ok (.iushr, 1) := by decide +kernel
theorem dJ6_bitCount_0f7a4_18 : decode cJ6_bitCount_0f7a4 18 = .ok (.ldc_w 266, 3) := by decide +kernel
theorem dJ6_bitCount_0f7a4_21 : decode cJ6_bitCount_0f7a4 21 = .ok (.iand, 1) := by decide +kernel
theorem dJ6_bitCount_0f7a4_22 : decode cJ6_bitCount_0f7a4 22 = .ok (.iadd, 1) := by decide +kernel
theorem dJ6_bitCount_0f7a4_23 : decode cJ6_bitCount_0f7a4 23 = .ok (.istore_n 0, 1) := by decide +kernel
theorem dJ6_bitCount_0f7a4_24 : decode cJ6_bitCount_0f7a4 24 = .ok (.iload_n 0, 1) := by decide +kernel
theorem dJ6_bitCount_0f7a4_25 : decode cJ6_bitCount_0f7a4 25 = .ok (.iload_n 0, 1) := by decide +kernel
theorem dJ6_bitCount_0f7a4_26 : decode cJ6_bitCount_0f7a4 26 = .ok (.iconst 4, 1) := by decide +kernel
theorem dJ6_bitCount_0f7a4_27 : decode cJ6_bitCount_0f7a4 27 = .ok (.iushr, 1) := by decide +kernel
theorem dJ6_bitCount_0f7a4_28 : decode cJ6_bitCount_0f7a4 28 = .ok (.iadd, 1) := by decide +kernel
theorem dJ6_bitCount_0f7a4_29 : decode cJ6_bitCount_0f7a4 29 = .ok (.ldc_w 267, 3) := by decide +kernel
theorem dJ6_bitCount_0f7a4_32 : decode cJ6_bitCount_0f7a4 32 = .ok (.iand, 1) := by decide +kernel
theorem dJ6_bitCount_0f7a4_33 : decode cJ6_bitCount_0f7a4 33 = .ok (.istore_n 0, 1) := by decide +kernel
theorem dJ6_bitCount_0f7a4_34 : decode cJ6_bitCount_0f7a4 34 = .ok (.iload_n 0, 1) := by decide +kernel
theorem dJ6_bitCount_0f7a4_35 : decode cJ6_bitCount_0f7a4 35 = .ok (.iload_n 0, 1) := by decide +kernel
theorem dJ6_bitCount_0f7a4_36 : decode cJ6_bitCount_0f7a4 36 = .ok (.bipush 8, 2) := by decide +kernel
theorem dJ6_bitCount_0f7a4_38 : decode cJ6_bitCount_0f7a4 38 = .ok (.iushr, 1) := by decide +kernel
theorem dJ6_bitCount_0f7a4_39 : decode cJ6_bitCount_0f7a4 39 = .ok (.iadd, 1) := by decide +kernel
theorem dJ6_bitCount_0f7a4_40 : decode cJ6_bitCount_0f7a4 40 = .ok (.istore_n 0, 1) := by decide +kernel
theorem dJ6_bitCount_0f7a4_41 : decode cJ6_bitCount_0f7a4 41 = .ok (.iload_n 0, 1) := by decide +kernel
theorem dJ6_bitCount_0f7a4_42 : decode cJ6_bitCount_0f7a4 42 = .ok (.iload_n 0, 1) := by decide +kernel
theorem dJ6_bitCount_0f7a4_43 : decode cJ6_bitCount_0f7a4 43 = .ok (.bipush 16, 2) := by decide +kernel
theorem dJ6_bitCount_0f7a4_45 : decode cJ6_bitCount_0f7a4 45 = .ok (.iushr, 1) := by decide +kernel
theorem dJ6_bitCount_0f7a4_46 : decode cJ6_bitCount_0f7a4 46 = .ok (.iadd, 1) := by decide +kernel
theorem dJ6_bitCount_0f7a4_47 : decode cJ6_bitCount_0f7a4 47 = .ok (.istore_n 0, 1) := by decide +kernel
theorem dJ6_bitCount_0f7a4_48 : decode cJ6_bitCount_0f7a4 48 = .ok (.iload_n 0, 1) := by decide +kernel
theorem dJ6_bitCount_0f7a4_49 : decode cJ6_bitCount_0f7a4 49 = .ok (.bipush 63, 2) := by decide +kernel
theorem dJ6_bitCount_0f7a4_51 : decode cJ6_bitCount_0f7a4 51 = .ok (.iand, 1) := by decide +kernel
theorem dJ6_bitCount_0f7a4_52 : decode cJ6_bitCount_0f7a4 52 = .ok (.ireturn, 1) := by decide +kernel
theorem dJ9_max_7cf53_0 : decode cJ9_max_7cf53 0 = .ok (.iload_n 0, 1) := by decide +kernel
theorem dJ9_max_7cf53_1 : decode cJ9_max_7cf53 1 = .ok (.iload_n 1, 1) := by decide +kernel
theorem dJ9_max_7cf53_2 : decode cJ9_max_7cf53 2 = .ok (.if_icmp .lt 7, 3) := by decide +kernel
theorem dJ9_max_7cf53_5 : decode cJ9_max_7cf53 5 = .ok (.iload_n 0, 1) := by decide +kernel
theorem dJ9_max_7cf53_6 : decode cJ9_max_7cf53 6 = .ok (.goto 4, 3) := by decide +kernel
theorem dJ9_max_7cf53_9 : decode cJ9_max_7cf53 9 = .ok (.iload_n 1, 1) := by decide +kernel
theorem dJ9_max_7cf53_10 : decode cJ9_max_7cf53 10 = .ok (.ireturn, 1) := by decide +kernel
theorem dJ9_min_7cf53_0 : decode cJ9_min_7cf53 0 = .ok (.iload_n 0, 1) := by decide +kernel
theorem dJ9_min_7cf53_1 : decode cJ9_min_7cf53 1 = .ok (.iload_n 1, 1) := by decide +kernel
theorem dJ9_min_7cf53_2 : decode cJ9_min_7cf53 2 = .ok (.if_icmp .gt 7, 3) := by decide +kernel
theorem dJ9_min_7cf53_5 : decode cJ9_min_7cf53 5 = .ok (.iload_n 0, 1) := by decide +kernel
theorem dJ9_min_7cf53_6 : decode cJ9_min_7cf53 6 = .ok (.goto 4, 3) := by decide +kernel
theorem dJ9_min_7cf53_9 : decode cJ9_min_7cf53 9 = .ok (.iload_n 1, 1) := by decide +kernel
theorem dJ9_min_7cf53_10 : decode cJ9_min_7cf53 10 = .ok (.ireturn, 1) := by decide +kernel
theorem dJ7_fill_53178_0 : decode cJ7_fill_53178 0 = .ok (.iconst 0, 1) := by decide +kernel
theorem dJ7_fill_53178_1 : decode cJ7_fill_53178 1 = .ok (.istore_n 2, 1) := by decide +kernel
theorem dJ7_fill_53178_2 : decode cJ7_fill_53178 2 = .ok (.aload_n 0, 1) := by decide +kernel
theorem dJ7_fill_53178_3 : decode cJ7_fill_53178 3 = .ok (.arraylength, 1) := by decide +kernel
theorem dJ7_fill_53178_4 : decode cJ7_fill_53178 4 = .ok (.istore_n 3, 1) := by decide +kernel
theorem dJ7_fill_53178_5 : decode cJ7_fill_53178 5 = .ok (.iload_n 2, 1) := by decide +kernel
theorem dJ7_fill_53178_6 : decode cJ7_fill_53178 6 = .ok (.iload_n 3, 1) := by decide +kernel
theorem dJ7_fill_53178_7 : decode cJ7_fill_53178 7 = .ok (.if_icmp .ge 13, 3) := by decide +kernel
theorem dJ7_fill_53178_10 : decode cJ7_fill_53178 10 = .ok (.aload_n 0, 1) := by decide +kernel
theorem dJ7_fill_53178_11 : decode cJ7_fill_53178 11 = .ok (.iload_n 2, 1) := by decide +kernel
theorem dJ7_fill_53178_12 : decode cJ7_fill_53178 12 = .ok (.iload_n 1, 1) := by decide +kernel
theorem dJ7_fill_53178_13 : decode cJ7_fill_53178 13 = .ok (.iastore, 1) := by decide +kernel
theorem dJ7_fill_53178_14 : decode cJ7_fill_53178 14 = .ok (.iinc 2 1, 3) := by decide +kernel
theorem dJ7_fill_53178_17 : decode cJ7_fill_53178 17 = .ok (.goto (-12), 3) := by decide +kernel
theorem dJ7_fill_53178_20 : decode cJ7_fill_53178 20 = .ok (.return_, 1) := by decide +kernel
theorem dX0_init_0 : decode cX0_init 0 = .ok (.aload_n 0, 1) := by decide +kernel
theorem dX0_init_1 : decode cX0_init 1 = .ok (.invokespecial 1, 3) := by decide +kernel
theorem dX0_init_4 : decode cX0_init 4 = .ok (.aload_n 0, 1) := by decide +kernel
theorem dX0_init_5 : decode cX0_init 5 = .ok (.bipush 24, 2) := by decide +kernel
theorem dX0_init_7 : decode cX0_init 7 = .ok (.newarray .int, 2) := by decide +kernel
theorem dX0_init_9 : decode cX0_init 9 = .ok (.putfield 9, 3) := by decide +kernel
theorem dX0_init_12 : decode cX0_init 12 = .ok (.aload_n 0, 1) := by decide +kernel
theorem dX0_init_13 : decode cX0_init 13 = .ok (.bipush 24, 2) := by decide +kernel
theorem dX0_init_15 : decode cX0_init 15 = .ok (.newarray .int, 2) := by decide +kernel
theorem dX0_init_17 : decode cX0_init 17 = .ok (.putfield 13, 3) := by decide +kernel
theorem dX0_init_20 : decode cX0_init 20 = .ok (.aload_n 0, 1) := by decide +kernel
theorem dX0_init_21 : decode cX0_init 21 = .ok (.bipush 24, 2) := by decide +kernel
theorem dX0_init_23 : decode cX0_init 23 = .ok (.newarray .int, 2) := by decide +kernel
theorem dX0_init_25 : decode cX0_init 25 = .ok (.putfield 16, 3) := by decide +kernel
theorem dX0_init_28 : decode cX0_init 28 = .ok (.aload_n 0, 1) := by decide +kernel
theorem dX0_init_29 : decode cX0_init 29 = .ok (.bipush 24, 2) := by decide +kernel
theorem dX0_init_31 : decode cX0_init 31 = .ok (.newarray .int, 2) := by decide +kernel
theorem dX0_init_33 : decode cX0_init 33 = .ok (.putfield 19, 3) := by decide +kernel
theorem dX0_init_36 : decode cX0_init 36 = .ok (.aload_n 0, 1) := by decide +kernel
theorem dX0_init_37 : decode cX0_init 37 = .ok (.bipush 24, 2) := by decide +kernel
theorem dX0_init_39 : decode cX0_init 39 = .ok (.newarray .int, 2) := by decide +kernel
theorem dX0_init_41 : decode cX0_init 41 = .ok (.putfield 22, 3) := by decide +kernel
theorem dX0_init_44 : decode cX0_init 44 = .ok (.return_, 1) := by decide +kernel
theorem dX0_forget_0 : decode cX0_forget 0 = .ok (.aload_n 0, 1) := by decide +kernel
theorem dX0_forget_1 : decode cX0_forget 1 = .ok (.iconst 0, 1) := by decide +kernel
theorem dX0_forget_2 : decode cX0_forget 2 = .ok (.putfield 25, 3) := by decide +kernel
theorem dX0_forget_5 : decode cX0_forget 5 = .ok (.return_, 1) := by decide +kernel
theorem dX0_keep_0 : decode cX0_keep 0 = .ok (.aload_n 0, 1) := by decide +kernel
theorem dX0_keep_1 : decode cX0_keep 1 = .ok (.getfield 9, 3) := by decide +kernel
theorem dX0_keep_4 : decode cX0_keep 4 = .ok (.aload_n 0, 1) := by decide +kernel
theorem dX0_keep_5 : decode cX0_keep 5 = .ok (.getfield 29, 3) := by decide +kernel
theorem dX0_keep_8 : decode cX0_keep 8 = .ok (.iload_n 1, 1) := by decide +kernel
theorem dX0_keep_9 : decode cX0_keep 9 = .ok (.iastore, 1) := by decide +kernel
theorem dX0_keep_10 : decode cX0_keep 10 = .ok (.aload_n 0, 1) := by decide +kernel
theorem dX0_keep_11 : decode cX0_keep 11 = .ok (.getfield 13, 3) := by decide +kernel
theorem dX0_keep_14 : decode cX0_keep 14 = .ok (.aload_n 0, 1) := by decide +kernel
theorem dX0_keep_15 : decode cX0_keep 15 = .ok (.getfield 29, 3) := by decide +kernel
theorem dX0_keep_18 : decode cX0_keep 18 = .ok (.iload_n 2, 1) := by decide +kernel
theorem dX0_keep_19 : decode cX0_keep 19 = .ok (.iastore, 1) := by decide +kernel
theorem dX0_keep_20 : decode cX0_keep 20 = .ok (.aload_n 0, 1) := by decide +kernel
theorem dX0_keep_21 : decode cX0_keep 21 = .ok (.getfield 16, 3) := by decide +kernel
theorem dX0_keep_24 : decode cX0_keep 24 = .ok (.aload_n 0, 1) := by decide +kernel
theorem dX0_keep_25 : decode cX0_keep 25 = .ok (.getfield 29, 3) := by decide +kernel
theorem dX0_keep_28 : decode cX0_keep 28 = .ok (.iload_n 3, 1) := by decide +kernel
theorem dX0_keep_29 : decode cX0_keep 29 = .ok (.iastore, 1) := by decide +kernel
theorem dX0_keep_30 : decode cX0_keep 30 = .ok (.aload_n 0, 1) := by decide +kernel
theorem dX0_keep_31 : decode cX0_keep 31 = .ok (.aload_n 0, 1) := by decide +kernel
theorem dX0_keep_32 : decode cX0_keep 32 = .ok (.getfield 29, 3) := by decide +kernel
theorem dX0_keep_35 : decode cX0_keep 35 = .ok (.iconst 1, 1) := by decide +kernel
theorem dX0_keep_36 : decode cX0_keep 36 = .ok (.iadd, 1) := by decide +kernel
theorem dX0_keep_37 : decode cX0_keep 37 = .ok (.bipush 24, 2) := by decide +kernel
theorem dX0_keep_39 : decode cX0_keep 39 = .ok (.irem, 1) := by decide +kernel
theorem dX0_keep_40 : decode cX0_keep 40 = .ok (.putfield 29, 3) := by decide +kernel
theorem dX0_keep_43 : decode cX0_keep 43 = .ok (.aload_n 0, 1) := by decide +kernel
theorem dX0_keep_44 : decode cX0_keep 44 = .ok (.aload_n 0, 1) := by decide +kernel
theorem dX0_keep_45 : decode cX0_keep 45 = .ok (.getfield 25, 3) := by decide +kernel
theorem dX0_keep_48 : decode cX0_keep 48 = .ok (.iconst 1, 1) := by decide +kernel
theorem dX0_keep_49 : decode cX0_keep 49 = .ok (.iadd, 1) := by decide +kernel
theorem dX0_keep_50 : decode cX0_keep 50 = .ok (.bipush 24, 2) := by decide +kernel
theorem dX0_keep_52 : decode cX0_keep 52 = .ok (.invokestatic 32, 3) := by decide +kernel
theorem dX0_keep_55 : decode cX0_keep 55 = .ok (.putfield 25, 3) := by decide +kernel
theorem dX0_keep_58 : decode cX0_keep 58 = .ok (.return_, 1) := by decide +kernel
theorem dX0_remember_0 : decode cX0_remember 0 = .ok (.aload_n 0, 1) := by decide +kernel
theorem dX0_remember_1 : decode cX0_remember 1 = .ok (.getfield 29, 3) := by decide +kernel
theorem dX0_remember_4 : decode cX0_remember 4 = .ok (.bipush 24, 2) := by decide +kernel
theorem dX0_remember_6 : decode cX0_remember 6 = .ok (.iadd, 1) := by decide +kernel
theorem dX0_remember_7 : decode cX0_remember 7 = .ok (.iconst 1, 1) := by decide +kernel
theorem dX0_remember_8 : decode cX0_remember 8 = .ok (.isub, 1) := by decide +kernel
theorem dX0_remember_9 : decode cX0_remember 9 = .ok (.bipush 24, 2) := by decide +kernel
theorem dX0_remember_11 : decode cX0_remember 11 = .ok (.irem, 1) := by decide +kernel
theorem dX0_remember_12 : decode cX0_remember 12 = .ok (.istore 4, 2) := by decide +kernel
theorem dX0_remember_14 : decode cX0_remember 14 = .ok (.iload_n 2, 1) := by decide +kernel
theorem dX0_remember_15 : decode cX0_remember 15 = .ok (.iload_n 3, 1) := by decide +kernel
theorem dX0_remember_16 : decode cX0_remember 16 = .ok (.invokestatic 38, 3) := by decide +kernel
theorem dX0_remember_19 : decode cX0_remember 19 = .ok (.istore 5, 2) := by decide +kernel
theorem dX0_remember_21 : decode cX0_remember 21 = .ok (.aload_n 0, 1) := by decide +kernel
theorem dX0_remember_22 : decode cX0_remember 22 = .ok (.getfield 19, 3) := by decide +kernel
theorem dX0_remember_25 : decode cX0_remember 25 = .ok (.iload 4, 2) := by decide +kernel
theorem dX0_remember_27 : decode cX0_remember 27 = .ok (.aload_n 1, 1) := by decide +kernel
theorem dX0_remember_28 : decode cX0_remember 28 = .ok (.getfield 43, 3) := by decide +kernel
theorem dX0_remember_31 : decode cX0_remember 31 = .ok (.iload 5, 2) := by decide +kernel
theorem dX0_remember_33 : decode cX0_remember 33 = .ok (.iaload, 1) := by decide +kernel
theorem dX0_remember_34 : decode cX0_remember 34 = .ok (.iastore, 1) := by decide +kernel
theorem dX0_remember_35 : decode cX0_remember 35 = .ok (.aload_n 0, 1) := by decide +kernel
theorem dX0_remember_36 : decode cX0_remember 36 = .ok (.getfield 22, 3) := by decide +kernel
theorem dX0_remember_39 : decode cX0_remember 39 = .ok (.iload 4, 2) := by decide +kernel
theorem dX0_remember_41 : decode cX0_remember 41 = .ok (.aload_n 1, 1) := by decide +kernel
theorem dX0_remember_42 : decode cX0_remember 42 = .ok (.getfield 46, 3) := by decide +kernel
theorem dX0_remember_45 : decode cX0_remember 45 = .ok (.iload 5, 2) := by decide +kernel
theorem dX0_remember_47 : decode cX0_remember 47 = .ok (.iaload, 1) := by decide +kernel
theorem dX0_remember_48 : decode cX0_remember 48 = .ok (.iastore, 1) := by decide +kernel
theorem dX0_remember_49 : decode cX0_remember 49 = .ok (.return_, 1) := by decide +kernel
theorem dX0_takeBack_0 : decode cX0_takeBack 0 = .ok (.aload_n 0, 1) := by decide +kernel
theorem dX0_takeBack_1 : decode cX0_takeBack 1 = .ok (.aload_n 0, 1) := by decide +kernel
theorem dX0_takeBack_2 : decode cX0_takeBack 2 = .ok (.getfield 29, 3) := by decide +kernel
theorem dX0_takeBack_5 : decode cX0_takeBack 5 = .ok (.bipush 24, 2) := by decide +kernel
theorem dX0_takeBack_7 : decode cX0_takeBack 7 = .ok (.iadd, 1) := by decide +kernel
theorem dX0_takeBack_8 : decode cX0_takeBack 8 = .ok (.iconst 1, 1) := by decide +kernel
theorem dX0_takeBack_9 : decode cX0_takeBack 9 = .ok (.isub, 1) := by decide +kernel
theorem dX0_takeBack_10 : decode cX0_takeBack 10 = .ok (.bipush 24, 2) := by decide +kernel
theorem dX0_takeBack_12 : decode cX0_takeBack 12 = .ok (.irem, 1) := by decide +kernel
theorem dX0_takeBack_13 : decode cX0_takeBack 13 = .ok (.putfield 29, 3) := by decide +kernel
theorem dX0_takeBack_16 : decode cX0_takeBack 16 = .ok (.aload_n 0, 1) := by decide +kernel
theorem dX0_takeBack_17 : decode cX0_takeBack 17 = .ok (.dup, 1) := by decide +kernel
theorem dX0_takeBack_18 : decode cX0_takeBack 18 = .ok (.getfield 25, 3) := by decide +kernel
theorem dX0_takeBack_21 : decode cX0_takeBack 21 = .ok (.iconst 1, 1) := by decide +kernel
theorem dX0_takeBack_22 : decode cX0_takeBack 22 = .ok (.isub, 1) := by decide +kernel
theorem dX0_takeBack_23 : decode cX0_takeBack 23 = .ok (.putfield 25, 3) := by decide +kernel
theorem dX0_takeBack_26 : decode cX0_takeBack 26 = .ok (.aload_n 0, 1) := by decide +kernel
theorem dX0_takeBack_27 : decode cX0_takeBack 27 = .ok (.getfield 9, 3) := by decide +kernel
theorem dX0_takeBack_30 : decode cX0_takeBack 30 = .ok (.aload_n 0, 1) := by decide +kernel
theorem dX0_takeBack_31 : decode cX0_takeBack 31 = .ok (.getfield 29, 3) := by decide +kernel
theorem dX0_takeBack_34 : decode cX0_takeBack 34 = .ok (.iaload, 1) := by decide +kernel
theorem dX0_takeBack_35 : decode cX0_takeBack 35 = .ok (.tableswitch 127 1 5 #[33, 59, 72, 93, 114], 33) := by decide +kernel
theorem dX0_takeBack_68 : decode cX0_takeBack 68 = .ok (.aload_n 0, 1) := by decide +kernel
theorem dX0_takeBack_69 : decode cX0_takeBack 69 = .ok (.aload_n 1, 1) := by decide +kernel
theorem dX0_takeBack_70 : decode cX0_takeBack 70 = .ok (.aload_n 0, 1) := by decide +kernel
theorem dX0_takeBack_71 : decode cX0_takeBack 71 = .ok (.getfield 13, 3) := by decide +kernel
theorem dX0_takeBack_74 : decode cX0_takeBack 74 = .ok (.aload_n 0, 1) := by decide +kernel
theorem dX0_takeBack_75 : decode cX0_takeBack 75 = .ok (.getfield 29, 3) := by decide +kernel
theorem dX0_takeBack_78 : decode cX0_takeBack 78 = .ok (.iaload, 1) := by decide +kernel
theorem dX0_takeBack_79 : decode cX0_takeBack 79 = .ok (.aload_n 0, 1) := by decide +kernel
theorem dX0_takeBack_80 : decode cX0_takeBack 80 = .ok (.getfield 16, 3) := by decide +kernel
theorem dX0_takeBack_83 : decode cX0_takeBack 83 = .ok (.aload_n 0, 1) := by decide +kernel
theorem dX0_takeBack_84 : decode cX0_takeBack 84 = .ok (.getfield 29, 3) := by decide +kernel
theorem dX0_takeBack_87 : decode cX0_takeBack 87 = .ok (.iaload, 1) := by decide +kernel
theorem dX0_takeBack_88 : decode cX0_takeBack 88 = .ok (.invokevirtual 49, 3) := by decide +kernel
theorem dX0_takeBack_91 : decode cX0_takeBack 91 = .ok (.goto 71, 3) := by decide +kernel
theorem dX0_takeBack_94 : decode cX0_takeBack 94 = .ok (.aload_n 1, 1) := by decide +kernel
theorem dX0_takeBack_95 : decode cX0_takeBack 95 = .ok (.dup, 1) := by decide +kernel
theorem dX0_takeBack_96 : decode cX0_takeBack 96 = .ok (.getfield 53, 3) := by decide +kernel
theorem dX0_takeBack_99 : decode cX0_takeBack 99 = .ok (.iconst 1, 1) := by decide +kernel
theorem dX0_takeBack_100 : decode cX0_takeBack 100 = .ok (.isub, 1) := by decide +kernel
theorem dX0_takeBack_101 : decode cX0_takeBack 101 = .ok (.putfield 53, 3) := by decide +kernel
theorem dX0_takeBack_104 : decode cX0_takeBack 104 = .ok (.goto 58, 3) := by decide +kernel
theorem dX0_takeBack_107 : decode cX0_takeBack 107 = .ok (.aload_n 1, 1) := by decide +kernel
theorem dX0_takeBack_108 : decode cX0_takeBack 108 = .ok (.getfield 56, 3) := by decide +kernel
theorem dX0_takeBack_111 : decode cX0_takeBack 111 = .ok (.aload_n 0, 1) := by decide +kernel
theorem dX0_takeBack_112 : decode cX0_takeBack 112 = .ok (.getfield 13, 3) := by decide +kernel
theorem dX0_takeBack_115 : decode cX0_takeBack 115 = .ok (.aload_n 0, 1) := by decide +kernel
theorem dX0_takeBack_116 : decode cX0_takeBack 116 = .ok (.getfield 29, 3) := by decide +kernel
theorem dX0_takeBack_119 : decode cX0_takeBack 119 = .ok (.iaload, 1) := by decide +kernel
theorem dX0_takeBack_120 : decode cX0_takeBack 120 = .ok (.dup2, 1) := by decide +kernel
theorem dX0_takeBack_121 : decode cX0_takeBack 121 = .ok (.iaload, 1) := by decide +kernel
theorem dX0_takeBack_122 : decode cX0_takeBack 122 = .ok (.iconst 1, 1) := by decide +kernel
theorem dX0_takeBack_123 : decode cX0_takeBack 123 = .ok (.isub, 1) := by decide +kernel
theorem dX0_takeBack_124 : decode cX0_takeBack 124 = .ok (.iastore, 1) := by decide +kernel
theorem dX0_takeBack_125 : decode cX0_takeBack 125 = .ok (.goto 37, 3) := by decide +kernel
theorem dX0_takeBack_128 : decode cX0_takeBack 128 = .ok (.aload_n 1, 1) := by decide +kernel
theorem dX0_takeBack_129 : decode cX0_takeBack 129 = .ok (.getfield 56, 3) := by decide +kernel
theorem dX0_takeBack_132 : decode cX0_takeBack 132 = .ok (.aload_n 0, 1) := by decide +kernel
theorem dX0_takeBack_133 : decode cX0_takeBack 133 = .ok (.getfield 13, 3) := by decide +kernel
theorem dX0_takeBack_136 : decode cX0_takeBack 136 = .ok (.aload_n 0, 1) := by decide +kernel
theorem dX0_takeBack_137 : decode cX0_takeBack 137 = .ok (.getfield 29, 3) := by decide +kernel
theorem dX0_takeBack_140 : decode cX0_takeBack 140 = .ok (.iaload, 1) := by decide +kernel
theorem dX0_takeBack_141 : decode cX0_takeBack 141 = .ok (.dup2, 1) := by decide +kernel
theorem dX0_takeBack_142 : decode cX0_takeBack 142 = .ok (.iaload, 1) := by decide +kernel
theorem dX0_takeBack_143 : decode cX0_takeBack 143 = .ok (.iconst 1, 1) := by decide +kernel
theorem dX0_takeBack_144 : decode cX0_takeBack 144 = .ok (.iadd, 1) := by decide +kernel
theorem dX0_takeBack_145 : decode cX0_takeBack 145 = .ok (.iastore, 1) := by decide +kernel
theorem dX0_takeBack_146 : decode cX0_takeBack 146 = .ok (.goto 16, 3) := by decide +kernel
theorem dX0_takeBack_149 : decode cX0_takeBack 149 = .ok (.aload_n 1, 1) := by decide +kernel
theorem dX0_takeBack_150 : decode cX0_takeBack 150 = .ok (.dup, 1) := by decide +kernel
theorem dX0_takeBack_151 : decode cX0_takeBack 151 = .ok (.getfield 59, 3) := by decide +kernel
theorem dX0_takeBack_154 : decode cX0_takeBack 154 = .ok (.iconst 1, 1) := by decide +kernel
theorem dX0_takeBack_155 : decode cX0_takeBack 155 = .ok (.isub, 1) := by decide +kernel
theorem dX0_takeBack_156 : decode cX0_takeBack 156 = .ok (.putfield 59, 3) := by decide +kernel
theorem dX0_takeBack_159 : decode cX0_takeBack 159 = .ok (.goto 3, 3) := by decide +kernel
theorem dX0_takeBack_162 : decode cX0_takeBack 162 = .ok (.return_, 1) := by decide +kernel
theorem dX0_stepBack_0 : decode cX0_stepBack 0 = .ok (.iload_n 2, 1) := by decide +kernel
theorem dX0_stepBack_1 : decode cX0_stepBack 1 = .ok (.iload_n 3, 1) := by decide +kernel
theorem dX0_stepBack_2 : decode cX0_stepBack 2 = .ok (.invokestatic 38, 3) := by decide +kernel
theorem dX0_stepBack_5 : decode cX0_stepBack 5 = .ok (.istore 4, 2) := by decide +kernel
theorem dX0_stepBack_7 : decode cX0_stepBack 7 = .ok (.aload_n 1, 1) := by decide +kernel
theorem dX0_stepBack_8 : decode cX0_stepBack 8 = .ok (.iload_n 2, 1) := by decide +kernel
theorem dX0_stepBack_9 : decode cX0_stepBack 9 = .ok (.iload_n 3, 1) := by decide +kernel
theorem dX0_stepBack_10 : decode cX0_stepBack 10 = .ok (.invokevirtual 62, 3) := by decide +kernel
theorem dX0_stepBack_13 : decode cX0_stepBack 13 = .ok (.aload_n 1, 1) := by decide +kernel
theorem dX0_stepBack_14 : decode cX0_stepBack 14 = .ok (.getfield 43, 3) := by decide +kernel
theorem dX0_stepBack_17 : decode cX0_stepBack 17 = .ok (.iload 4, 2) := by decide +kernel
theorem dX0_stepBack_19 : decode cX0_stepBack 19 = .ok (.aload_n 0, 1) := by decide +kernel
theorem dX0_stepBack_20 : decode cX0_stepBack 20 = .ok (.getfield 19, 3) := by decide +kernel
theorem dX0_stepBack_23 : decode cX0_stepBack 23 = .ok (.aload_n 0, 1) := by decide +kernel
theorem dX0_stepBack_24 : decode cX0_stepBack 24 = .ok (.getfield 29, 3) := by decide +kernel
theorem dX0_stepBack_27 : decode cX0_stepBack 27 = .ok (.iaload, 1) := by decide +kernel
theorem dX0_stepBack_28 : decode cX0_stepBack 28 = .ok (.iastore, 1) := by decide +kernel
theorem dX0_stepBack_29 : decode cX0_stepBack 29 = .ok (.aload_n 1, 1) := by decide +kernel
theorem dX0_stepBack_30 : decode cX0_stepBack 30 = .ok (.getfield 46, 3) := by decide +kernel
theorem dX0_stepBack_33 : decode cX0_stepBack 33 = .ok (.iload 4, 2) := by decide +kernel
theorem dX0_stepBack_35 : decode cX0_stepBack 35 = .ok (.aload_n 0, 1) := by decide +kernel
theorem dX0_stepBack_36 : decode cX0_stepBack 36 = .ok (.getfield 22, 3) := by decide +kernel
theorem dX0_stepBack_39 : decode cX0_stepBack 39 = .ok (.aload_n 0, 1) := by decide +kernel
theorem dX0_stepBack_40 : decode cX0_stepBack 40 = .ok (.getfield 29, 3) := by decide +kernel
theorem dX0_stepBack_43 : decode cX0_stepBack 43 = .ok (.iaload, 1) := by decide +kernel
theorem dX0_stepBack_44 : decode cX0_stepBack 44 = .ok (.iastore, 1) := by decide +kernel
theorem dX0_stepBack_45 : decode cX0_stepBack 45 = .ok (.return_, 1) := by decide +kernel
theorem dX1_init_0 : decode cX1_init 0 = .ok (.aload_n 0, 1) := by decide +kernel
theorem dX1_init_1 : decode cX1_init 1 = .ok (.invokespecial 3, 3) := by decide +kernel
theorem dX1_init_4 : decode cX1_init 4 = .ok (.aload_n 0, 1) := by decide +kernel
theorem dX1_init_5 : decode cX1_init 5 = .ok (.bipush 16, 2) := by decide +kernel
theorem dX1_init_7 : decode cX1_init 7 = .ok (.newarray .int, 2) := by decide +kernel
theorem dX1_init_9 : decode cX1_init 9 = .ok (.putfield 11, 3) := by decide +kernel
theorem dX1_init_12 : decode cX1_init 12 = .ok (.return_, 1) := by decide +kernel
theorem dX1_answer_0 : decode cX1_answer 0 = .ok (.aload_n 1, 1) := by decide +kernel
theorem dX1_answer_1 : decode cX1_answer 1 = .ok (.getfield 15, 3) := by decide +kernel
theorem dX1_answer_4 : decode cX1_answer 4 = .ok (.iload_n 2, 1) := by decide +kernel
theorem dX1_answer_5 : decode cX1_answer 5 = .ok (.iaload, 1) := by decide +kernel
theorem dX1_answer_6 : decode cX1_answer 6 = .ok (.istore 5, 2) := by decide +kernel
theorem dX1_answer_8 : decode cX1_answer 8 = .ok (.iconst 0, 1) := by decide +kernel
theorem dX1_answer_9 : decode cX1_answer 9 = .ok (.istore 6, 2) := by decide +kernel
theorem dX1_answer_11 : decode cX1_answer 11 = .ok (.iload 6, 2) := by decide +kernel
theorem dX1_answer_13 : decode cX1_answer 13 = .ok (.bipush 6, 2) := by decide +kernel
theorem dX1_answer_15 : decode cX1_answer 15 = .ok (.if_icmp .ge 68, 3) := by decide +kernel
theorem dX1_answer_18 : decode cX1_answer 18 = .ok (.iload 5, 2) := by decide +kernel
theorem dX1_answer_20 : decode cX1_answer 20 = .ok (.bipush 6, 2) := by decide +kernel
theorem dX1_answer_22 : decode cX1_answer 22 = .ok (.invokestatic 20, 3) := by decide +kernel
theorem dX1_answer_25 : decode cX1_answer 25 = .ok (.ifCond .eq 58, 3) := by decide +kernel
theorem dX1_answer_28 : decode cX1_answer 28 = .ok (.iload_n 3, 1) := by decide +kernel
theorem dX1_answer_29 : decode cX1_answer 29 = .ok (.ifCond .ne 12, 3) := by decide +kernel
theorem dX1_answer_32 : decode cX1_answer 32 = .ok (.getstatic 24, 3) := by decide +kernel
theorem dX1_answer_35 : decode cX1_answer 35 = .ok (.iload 5, 2) := by decide +kernel
theorem dX1_answer_37 : decode cX1_answer 37 = .ok (.iaload, 1) := by decide +kernel
theorem dX1_answer_38 : decode cX1_answer 38 = .ok (.goto 9, 3) := by decide +kernel
theorem dX1_answer_41 : decode cX1_answer 41 = .ok (.getstatic 27, 3) := by decide +kernel
theorem dX1_answer_44 : decode cX1_answer 44 = .ok (.iload 5, 2) := by decide +kernel
theorem dX1_answer_46 : decode cX1_answer 46 = .ok (.iaload, 1) := by decide +kernel
theorem dX1_answer_47 : decode cX1_answer 47 = .ok (.istore 7, 2) := by decide +kernel
theorem dX1_answer_49 : decode cX1_answer 49 = .ok (.iload 7, 2) := by decide +kernel
theorem dX1_answer_51 : decode cX1_answer 51 = .ok (.ldc 30, 2) := by decide +kernel
theorem dX1_answer_53 : decode cX1_answer 53 = .ok (.if_icmp .eq 16, 3) := by decide +kernel
theorem dX1_answer_56 : decode cX1_answer 56 = .ok (.aload_n 0, 1) := by decide +kernel
theorem dX1_answer_57 : decode cX1_answer 57 = .ok (.aload_n 1, 1) := by decide +kernel
theorem dX1_answer_58 : decode cX1_answer 58 = .ok (.iload_n 2, 1) := by decide +kernel
theorem dX1_answer_59 : decode cX1_answer 59 = .ok (.iload 7, 2) := by decide +kernel
theorem dX1_answer_61 : decode cX1_answer 61 = .ok (.iload 4, 2) := by decide +kernel
theorem dX1_answer_63 : decode cX1_answer 63 = .ok (.iconst 1, 1) := by decide +kernel
theorem dX1_answer_64 : decode cX1_answer 64 = .ok (.iadd, 1) := by decide +kernel
theorem dX1_answer_65 : decode cX1_answer 65 = .ok (.invokevirtual 31, 3) := by decide +kernel
theorem dX1_answer_68 : decode cX1_answer 68 = .ok (.ireturn, 1) := by decide +kernel
theorem dX1_answer_69 : decode cX1_answer 69 = .ok (.getstatic 35, 3) := by decide +kernel
theorem dX1_answer_72 : decode cX1_answer 72 = .ok (.iload 5, 2) := by decide +kernel
theorem dX1_answer_74 : decode cX1_answer 74 = .ok (.iaload, 1) := by decide +kernel
theorem dX1_answer_75 : decode cX1_answer 75 = .ok (.istore 5, 2) := by decide +kernel
theorem dX1_answer_77 : decode cX1_answer 77 = .ok (.iinc 6 1, 3) := by decide +kernel
theorem dX1_answer_80 : decode cX1_answer 80 = .ok (.goto (-69), 3) := by decide +kernel
theorem dX1_answer_83 : decode cX1_answer 83 = .ok (.ldc 30, 2) := by decide +kernel
theorem dX1_answer_85 : decode cX1_answer 85 = .ok (.ireturn, 1) := by decide +kernel
theorem dX1_give_0 : decode cX1_give 0 = .ok (.iload 4, 2) := by decide +kernel
theorem dX1_give_2 : decode cX1_give 2 = .ok (.bipush 16, 2) := by decide +kernel
theorem dX1_give_4 : decode cX1_give 4 = .ok (.if_icmp .le 6, 3) := by decide +kernel
theorem dX1_give_7 : decode cX1_give 7 = .ok (.ldc 30, 2) := by decide +kernel
theorem dX1_give_9 : decode cX1_give 9 = .ok (.ireturn, 1) := by decide +kernel
theorem dX1_give_10 : decode cX1_give 10 = .ok (.aload_n 0, 1) := by decide +kernel
theorem dX1_give_11 : decode cX1_give 11 = .ok (.iload_n 3, 1) := by decide +kernel
theorem dX1_give_12 : decode cX1_give 12 = .ok (.invokevirtual 38, 3) := by decide +kernel
theorem dX1_give_15 : decode cX1_give 15 = .ok (.iload_n 3, 1) := by decide +kernel
theorem dX1_give_16 : decode cX1_give 16 = .ok (.tableswitch 232 10 24 #[76, 82, 107, 122, 138, 232, 232, 232, 232, 232, 153, 155, 175, 192, 217], 76) := by decide +kernel
theorem dX1_give_92 : decode cX1_give 92 = .ok (.aload_n 1, 1) := by decide +kernel
theorem dX1_give_93 : decode cX1_give 93 = .ok (.iload_n 2, 1) := by decide +kernel
theorem dX1_give_94 : decode cX1_give 94 = .ok (.invokevirtual 42, 3) := by decide +kernel
theorem dX1_give_97 : decode cX1_give 97 = .ok (.ireturn, 1) := by decide +kernel
theorem dX1_give_98 : decode cX1_give 98 = .ok (.aload_n 0, 1) := by decide +kernel
theorem dX1_give_99 : decode cX1_give 99 = .ok (.aload_n 1, 1) := by decide +kernel
theorem dX1_give_100 : decode cX1_give 100 = .ok (.iload_n 2, 1) := by decide +kernel
theorem dX1_give_101 : decode cX1_give 101 = .ok (.bipush 10, 2) := by decide +kernel
theorem dX1_give_103 : decode cX1_give 103 = .ok (.iload 4, 2) := by decide +kernel
theorem dX1_give_105 : decode cX1_give 105 = .ok (.iconst 1, 1) := by decide +kernel
theorem dX1_give_106 : decode cX1_give 106 = .ok (.iadd, 1) := by decide +kernel
theorem dX1_give_107 : decode cX1_give 107 = .ok (.invokevirtual 31, 3) := by decide +kernel
theorem dX1_give_110 : decode cX1_give 110 = .ok (.aload_n 0, 1) := by decide +kernel
theorem dX1_give_111 : decode cX1_give 111 = .ok (.aload_n 1, 1) := by decide +kernel
theorem dX1_give_112 : decode cX1_give 112 = .ok (.iload_n 2, 1) := by decide +kernel
theorem dX1_give_113 : decode cX1_give 113 = .ok (.iconst 1, 1) := by decide +kernel
theorem dX1_give_114 : decode cX1_give 114 = .ok (.iload 4, 2) := by decide +kernel
theorem dX1_give_116 : decode cX1_give 116 = .ok (.iconst 1, 1) := by decide +kernel
theorem dX1_give_117 : decode cX1_give 117 = .ok (.iadd, 1) := by decide +kernel
theorem dX1_give_118 : decode cX1_give 118 = .ok (.invokevirtual 46, 3) := by decide +kernel
theorem dX1_give_121 : decode cX1_give 121 = .ok (.iadd, 1) := by decide +kernel
theorem dX1_give_122 : decode cX1_give 122 = .ok (.ireturn, 1) := by decide +kernel
theorem dX1_give_123 : decode cX1_give 123 = .ok (.iconst 0, 1) := by decide +kernel
theorem dX1_give_124 : decode cX1_give 124 = .ok (.aload_n 0, 1) := by decide +kernel
theorem dX1_give_125 : decode cX1_give 125 = .ok (.aload_n 1, 1) := by decide +kernel
theorem dX1_give_126 : decode cX1_give 126 = .ok (.iload_n 2, 1) := by decide +kernel
theorem dX1_give_127 : decode cX1_give 127 = .ok (.bipush 11, 2) := by decide +kernel
theorem dX1_give_129 : decode cX1_give 129 = .ok (.iload 4, 2) := by decide +kernel
theorem dX1_give_131 : decode cX1_give 131 = .ok (.iconst 1, 1) := by decide +kernel
theorem dX1_give_132 : decode cX1_give 132 = .ok (.iadd, 1) := by decide +kernel
theorem dX1_give_133 : decode cX1_give 133 = .ok (.invokevirtual 31, 3) := by decide +kernel
theorem dX1_give_136 : decode cX1_give 136 = .ok (.isub, 1) := by decide +kernel
theorem dX1_give_137 : decode cX1_give 137 = .ok (.ireturn, 1) := by decide +kernel
theorem dX1_give_138 : decode cX1_give 138 = .ok (.aload_n 0, 1) := by decide +kernel
theorem dX1_give_139 : decode cX1_give 139 = .ok (.aload_n 1, 1) := by decide +kernel
theorem dX1_give_140 : decode cX1_give 140 = .ok (.iload_n 2, 1) := by decide +kernel
theorem dX1_give_141 : decode cX1_give 141 = .ok (.bipush 10, 2) := by decide +kernel
theorem dX1_give_143 : decode cX1_give 143 = .ok (.iload 4, 2) := by decide +kernel
theorem dX1_give_145 : decode cX1_give 145 = .ok (.iconst 1, 1) := by decide +kernel
theorem dX1_give_146 : decode cX1_give 146 = .ok (.iadd, 1) := by decide +kernel
theorem dX1_give_147 : decode cX1_give 147 = .ok (.invokevirtual 31, 3) := by decide +kernel
theorem dX1_give_150 : decode cX1_give 150 = .ok (.bipush 100, 2) := by decide +kernel
theorem dX1_give_152 : decode cX1_give 152 = .ok (.isub, 1) := by decide +kernel
theorem dX1_give_153 : decode cX1_give 153 = .ok (.ireturn, 1) := by decide +kernel
theorem dX1_give_154 : decode cX1_give 154 = .ok (.iconst 2, 1) := by decide +kernel
theorem dX1_give_155 : decode cX1_give 155 = .ok (.aload_n 0, 1) := by decide +kernel
theorem dX1_give_156 : decode cX1_give 156 = .ok (.aload_n 1, 1) := by decide +kernel
theorem dX1_give_157 : decode cX1_give 157 = .ok (.iload_n 2, 1) := by decide +kernel
theorem dX1_give_158 : decode cX1_give 158 = .ok (.bipush 13, 2) := by decide +kernel
theorem dX1_give_160 : decode cX1_give 160 = .ok (.iload 4, 2) := by decide +kernel
theorem dX1_give_162 : decode cX1_give 162 = .ok (.iconst 1, 1) := by decide +kernel
theorem dX1_give_163 : decode cX1_give 163 = .ok (.iadd, 1) := by decide +kernel
theorem dX1_give_164 : decode cX1_give 164 = .ok (.invokevirtual 31, 3) := by decide +kernel
theorem dX1_give_167 : decode cX1_give 167 = .ok (.imul, 1) := by decide +kernel
theorem dX1_give_168 : decode cX1_give 168 = .ok (.ireturn, 1) := by decide +kernel
theorem dX1_give_169 : decode cX1_give 169 = .ok (.iload_n 2, 1) := by decide +kernel
theorem dX1_give_170 : decode cX1_give 170 = .ok (.ireturn, 1) := by decide +kernel
theorem dX1_give_171 : decode cX1_give 171 = .ok (.aload_n 0, 1) := by decide +kernel
theorem dX1_give_172 : decode cX1_give 172 = .ok (.aload_n 1, 1) := by decide +kernel
theorem dX1_give_173 : decode cX1_give 173 = .ok (.iload_n 2, 1) := by decide +kernel
theorem dX1_give_174 : decode cX1_give 174 = .ok (.bipush 20, 2) := by decide +kernel
theorem dX1_give_176 : decode cX1_give 176 = .ok (.iload 4, 2) := by decide +kernel
theorem dX1_give_178 : decode cX1_give 178 = .ok (.iconst 1, 1) := by decide +kernel
theorem dX1_give_179 : decode cX1_give 179 = .ok (.iadd, 1) := by decide +kernel
theorem dX1_give_180 : decode cX1_give 180 = .ok (.invokevirtual 31, 3) := by decide +kernel
theorem dX1_give_183 : decode cX1_give 183 = .ok (.aload_n 1, 1) := by decide +kernel
theorem dX1_give_184 : decode cX1_give 184 = .ok (.getfield 49, 3) := by decide +kernel
theorem dX1_give_187 : decode cX1_give 187 = .ok (.iload_n 2, 1) := by decide +kernel
theorem dX1_give_188 : decode cX1_give 188 = .ok (.iaload, 1) := by decide +kernel
theorem dX1_give_189 : decode cX1_give 189 = .ok (.iadd, 1) := by decide +kernel
theorem dX1_give_190 : decode cX1_give 190 = .ok (.ireturn, 1) := by decide +kernel
theorem dX1_give_191 : decode cX1_give 191 = .ok (.aload_n 0, 1) := by decide +kernel
theorem dX1_give_192 : decode cX1_give 192 = .ok (.aload_n 1, 1) := by decide +kernel
theorem dX1_give_193 : decode cX1_give 193 = .ok (.iload_n 2, 1) := by decide +kernel
theorem dX1_give_194 : decode cX1_give 194 = .ok (.bipush 21, 2) := by decide +kernel
theorem dX1_give_196 : decode cX1_give 196 = .ok (.iload 4, 2) := by decide +kernel
theorem dX1_give_198 : decode cX1_give 198 = .ok (.iconst 1, 1) := by decide +kernel
theorem dX1_give_199 : decode cX1_give 199 = .ok (.iadd, 1) := by decide +kernel
theorem dX1_give_200 : decode cX1_give 200 = .ok (.invokevirtual 31, 3) := by decide +kernel
theorem dX1_give_203 : decode cX1_give 203 = .ok (.sipush 1000, 3) := by decide +kernel
theorem dX1_give_206 : decode cX1_give 206 = .ok (.isub, 1) := by decide +kernel
theorem dX1_give_207 : decode cX1_give 207 = .ok (.ireturn, 1) := by decide +kernel
theorem dX1_give_208 : decode cX1_give 208 = .ok (.aload_n 0, 1) := by decide +kernel
theorem dX1_give_209 : decode cX1_give 209 = .ok (.aload_n 1, 1) := by decide +kernel
theorem dX1_give_210 : decode cX1_give 210 = .ok (.iload_n 2, 1) := by decide +kernel
theorem dX1_give_211 : decode cX1_give 211 = .ok (.bipush 20, 2) := by decide +kernel
theorem dX1_give_213 : decode cX1_give 213 = .ok (.iload 4, 2) := by decide +kernel
theorem dX1_give_215 : decode cX1_give 215 = .ok (.iconst 1, 1) := by decide +kernel
theorem dX1_give_216 : decode cX1_give 216 = .ok (.iadd, 1) := by decide +kernel
theorem dX1_give_217 : decode cX1_give 217 = .ok (.invokevirtual 31, 3) := by decide +kernel
theorem dX1_give_220 : decode cX1_give 220 = .ok (.aload_n 0, 1) := by decide +kernel
theorem dX1_give_221 : decode cX1_give 221 = .ok (.aload_n 1, 1) := by decide +kernel
theorem dX1_give_222 : decode cX1_give 222 = .ok (.iload_n 2, 1) := by decide +kernel
theorem dX1_give_223 : decode cX1_give 223 = .ok (.iconst 0, 1) := by decide +kernel
theorem dX1_give_224 : decode cX1_give 224 = .ok (.iload 4, 2) := by decide +kernel
theorem dX1_give_226 : decode cX1_give 226 = .ok (.iconst 1, 1) := by decide +kernel
theorem dX1_give_227 : decode cX1_give 227 = .ok (.iadd, 1) := by decide +kernel
theorem dX1_give_228 : decode cX1_give 228 = .ok (.invokevirtual 46, 3) := by decide +kernel
theorem dX1_give_231 : decode cX1_give 231 = .ok (.isub, 1) := by decide +kernel
theorem dX1_give_232 : decode cX1_give 232 = .ok (.ireturn, 1) := by decide +kernel
theorem dX1_give_233 : decode cX1_give 233 = .ok (.iconst 2, 1) := by decide +kernel
theorem dX1_give_234 : decode cX1_give 234 = .ok (.aload_n 0, 1) := by decide +kernel
theorem dX1_give_235 : decode cX1_give 235 = .ok (.aload_n 1, 1) := by decide +kernel
theorem dX1_give_236 : decode cX1_give 236 = .ok (.iload_n 2, 1) := by decide +kernel
theorem dX1_give_237 : decode cX1_give 237 = .ok (.bipush 21, 2) := by decide +kernel
theorem dX1_give_239 : decode cX1_give 239 = .ok (.iload 4, 2) := by decide +kernel
theorem dX1_give_241 : decode cX1_give 241 = .ok (.iconst 1, 1) := by decide +kernel
theorem dX1_give_242 : decode cX1_give 242 = .ok (.iadd, 1) := by decide +kernel
theorem dX1_give_243 : decode cX1_give 243 = .ok (.invokevirtual 31, 3) := by decide +kernel
theorem dX1_give_246 : decode cX1_give 246 = .ok (.imul, 1) := by decide +kernel
theorem dX1_give_247 : decode cX1_give 247 = .ok (.ireturn, 1) := by decide +kernel
theorem dX1_give_248 : decode cX1_give 248 = .ok (.ldc 30, 2) := by decide +kernel
theorem dX1_give_250 : decode cX1_give 250 = .ok (.ireturn, 1) := by decide +kernel
theorem dX1_leave_0 : decode cX1_leave 0 = .ok (.aload_n 0, 1) := by decide +kernel
theorem dX1_leave_1 : decode cX1_leave 1 = .ok (.getfield 52, 3) := by decide +kernel
theorem dX1_leave_4 : decode cX1_leave 4 = .ok (.bipush 16, 2) := by decide +kernel
theorem dX1_leave_6 : decode cX1_leave 6 = .ok (.if_icmp .ge 23, 3) := by decide +kernel
theorem dX1_leave_9 : decode cX1_leave 9 = .ok (.aload_n 0, 1) := by decide +kernel
theorem dX1_leave_10 : decode cX1_leave 10 = .ok (.getfield 11, 3) := by decide +kernel
theorem dX1_leave_13 : decode cX1_leave 13 = .ok (.aload_n 0, 1) := by decide +kernel
theorem dX1_leave_14 : decode cX1_leave 14 = .ok (.getfield 52, 3) := by decide +kernel
theorem dX1_leave_17 : decode cX1_leave 17 = .ok (.iload_n 1, 1) := by decide +kernel
theorem dX1_leave_18 : decode cX1_leave 18 = .ok (.iastore, 1) := by decide +kernel
theorem dX1_leave_19 : decode cX1_leave 19 = .ok (.aload_n 0, 1) := by decide +kernel
theorem dX1_leave_20 : decode cX1_leave 20 = .ok (.dup, 1) := by decide +kernel
theorem dX1_leave_21 : decode cX1_leave 21 = .ok (.getfield 52, 3) := by decide +kernel
theorem dX1_leave_24 : decode cX1_leave 24 = .ok (.iconst 1, 1) := by decide +kernel
theorem dX1_leave_25 : decode cX1_leave 25 = .ok (.iadd, 1) := by decide +kernel
theorem dX1_leave_26 : decode cX1_leave 26 = .ok (.putfield 52, 3) := by decide +kernel
theorem dX1_leave_29 : decode cX1_leave 29 = .ok (.return_, 1) := by decide +kernel
theorem dX2_init_0 : decode cX2_init 0 = .ok (.aload_n 0, 1) := by decide +kernel
theorem dX2_init_1 : decode cX2_init 1 = .ok (.invokespecial 3, 3) := by decide +kernel
theorem dX2_init_4 : decode cX2_init 4 = .ok (.aload_n 0, 1) := by decide +kernel
theorem dX2_init_5 : decode cX2_init 5 = .ok (.bipush 6, 2) := by decide +kernel
theorem dX2_init_7 : decode cX2_init 7 = .ok (.newarray .int, 2) := by decide +kernel
theorem dX2_init_9 : decode cX2_init 9 = .ok (.putfield 9, 3) := by decide +kernel
theorem dX2_init_12 : decode cX2_init 12 = .ok (.aload_n 0, 1) := by decide +kernel
theorem dX2_init_13 : decode cX2_init 13 = .ok (.bipush 6, 2) := by decide +kernel
theorem dX2_init_15 : decode cX2_init 15 = .ok (.newarray .int, 2) := by decide +kernel
theorem dX2_init_17 : decode cX2_init 17 = .ok (.putfield 15, 3) := by decide +kernel
theorem dX2_init_20 : decode cX2_init 20 = .ok (.return_, 1) := by decide +kernel
theorem dX2_hold_0 : decode cX2_hold 0 = .ok (.aload_n 0, 1) := by decide +kernel
theorem dX2_hold_1 : decode cX2_hold 1 = .ok (.aload_n 1, 1) := by decide +kernel
theorem dX2_hold_2 : decode cX2_hold 2 = .ok (.getfield 18, 3) := by decide +kernel
theorem dX2_hold_5 : decode cX2_hold 5 = .ok (.putfield 24, 3) := by decide +kernel
theorem dX2_hold_8 : decode cX2_hold 8 = .ok (.iconst 0, 1) := by decide +kernel
theorem dX2_hold_9 : decode cX2_hold 9 = .ok (.istore 4, 2) := by decide +kernel
theorem dX2_hold_11 : decode cX2_hold 11 = .ok (.iload 4, 2) := by decide +kernel
theorem dX2_hold_13 : decode cX2_hold 13 = .ok (.aload_n 0, 1) := by decide +kernel
theorem dX2_hold_14 : decode cX2_hold 14 = .ok (.getfield 24, 3) := by decide +kernel
theorem dX2_hold_17 : decode cX2_hold 17 = .ok (.if_icmp .ge 61, 3) := by decide +kernel
theorem dX2_hold_20 : decode cX2_hold 20 = .ok (.aload_n 0, 1) := by decide +kernel
theorem dX2_hold_21 : decode cX2_hold 21 = .ok (.getfield 9, 3) := by decide +kernel
theorem dX2_hold_24 : decode cX2_hold 24 = .ok (.iload 4, 2) := by decide +kernel
theorem dX2_hold_26 : decode cX2_hold 26 = .ok (.iload 4, 2) := by decide +kernel
theorem dX2_hold_28 : decode cX2_hold 28 = .ok (.iload_n 2, 1) := by decide +kernel
theorem dX2_hold_29 : decode cX2_hold 29 = .ok (.if_icmp .ne 7, 3) := by decide +kernel
theorem dX2_hold_32 : decode cX2_hold 32 = .ok (.iconst 0, 1) := by decide +kernel
theorem dX2_hold_33 : decode cX2_hold 33 = .ok (.goto 10, 3) := by decide +kernel
theorem dX2_hold_36 : decode cX2_hold 36 = .ok (.aload_n 1, 1) := by decide +kernel
theorem dX2_hold_37 : decode cX2_hold 37 = .ok (.iload 4, 2) := by decide +kernel
theorem dX2_hold_39 : decode cX2_hold 39 = .ok (.iload_n 3, 1) := by decide +kernel
theorem dX2_hold_40 : decode cX2_hold 40 = .ok (.invokevirtual 27, 3) := by decide +kernel
theorem dX2_hold_43 : decode cX2_hold 43 = .ok (.iastore, 1) := by decide +kernel
theorem dX2_hold_44 : decode cX2_hold 44 = .ok (.aload_n 0, 1) := by decide +kernel
theorem dX2_hold_45 : decode cX2_hold 45 = .ok (.getfield 15, 3) := by decide +kernel
theorem dX2_hold_48 : decode cX2_hold 48 = .ok (.iload 4, 2) := by decide +kernel
theorem dX2_hold_50 : decode cX2_hold 50 = .ok (.iload 4, 2) := by decide +kernel
theorem dX2_hold_52 : decode cX2_hold 52 = .ok (.iload_n 2, 1) := by decide +kernel
theorem dX2_hold_53 : decode cX2_hold 53 = .ok (.if_icmp .ne 7, 3) := by decide +kernel
theorem dX2_hold_56 : decode cX2_hold 56 = .ok (.iconst 0, 1) := by decide +kernel
theorem dX2_hold_57 : decode cX2_hold 57 = .ok (.goto 14, 3) := by decide +kernel
theorem dX2_hold_60 : decode cX2_hold 60 = .ok (.aload_n 1, 1) := by decide +kernel
theorem dX2_hold_61 : decode cX2_hold 61 = .ok (.iload 4, 2) := by decide +kernel
theorem dX2_hold_63 : decode cX2_hold 63 = .ok (.iload_n 2, 1) := by decide +kernel
theorem dX2_hold_64 : decode cX2_hold 64 = .ok (.invokevirtual 31, 3) := by decide +kernel
theorem dX2_hold_67 : decode cX2_hold 67 = .ok (.iconst 0, 1) := by decide +kernel
theorem dX2_hold_68 : decode cX2_hold 68 = .ok (.invokestatic 34, 3) := by decide +kernel
theorem dX2_hold_71 : decode cX2_hold 71 = .ok (.iastore, 1) := by decide +kernel
theorem dX2_hold_72 : decode cX2_hold 72 = .ok (.iinc 4 1, 3) := by decide +kernel
theorem dX2_hold_75 : decode cX2_hold 75 = .ok (.goto (-64), 3) := by decide +kernel
theorem dX2_hold_78 : decode cX2_hold 78 = .ok (.return_, 1) := by decide +kernel
theorem dX2_weightsOf_0 : decode cX2_weightsOf 0 = .ok (.iconst 0, 1) := by decide +kernel
theorem dX2_weightsOf_1 : decode cX2_weightsOf 1 = .ok (.istore_n 2, 1) := by decide +kernel
theorem dX2_weightsOf_2 : decode cX2_weightsOf 2 = .ok (.iconst 0, 1) := by decide +kernel
theorem dX2_weightsOf_3 : decode cX2_weightsOf 3 = .ok (.istore_n 3, 1) := by decide +kernel
theorem dX2_weightsOf_4 : decode cX2_weightsOf 4 = .ok (.iload_n 3, 1) := by decide +kernel
theorem dX2_weightsOf_5 : decode cX2_weightsOf 5 = .ok (.aload_n 0, 1) := by decide +kernel
theorem dX2_weightsOf_6 : decode cX2_weightsOf 6 = .ok (.getfield 24, 3) := by decide +kernel
theorem dX2_weightsOf_9 : decode cX2_weightsOf 9 = .ok (.if_icmp .ge 32, 3) := by decide +kernel
theorem dX2_weightsOf_12 : decode cX2_weightsOf 12 = .ok (.iload_n 2, 1) := by decide +kernel
theorem dX2_weightsOf_13 : decode cX2_weightsOf 13 = .ok (.aload_n 0, 1) := by decide +kernel
theorem dX2_weightsOf_14 : decode cX2_weightsOf 14 = .ok (.getfield 15, 3) := by decide +kernel
theorem dX2_weightsOf_17 : decode cX2_weightsOf 17 = .ok (.iload_n 3, 1) := by decide +kernel
theorem dX2_weightsOf_18 : decode cX2_weightsOf 18 = .ok (.iaload, 1) := by decide +kernel
theorem dX2_weightsOf_19 : decode cX2_weightsOf 19 = .ok (.iload_n 1, 1) := by decide +kernel
theorem dX2_weightsOf_20 : decode cX2_weightsOf 20 = .ok (.if_icmp .ne 12, 3) := by decide +kernel
theorem dX2_weightsOf_23 : decode cX2_weightsOf 23 = .ok (.aload_n 0, 1) := by decide +kernel
theorem dX2_weightsOf_24 : decode cX2_weightsOf 24 = .ok (.getfield 9, 3) := by decide +kernel
theorem dX2_weightsOf_27 : decode cX2_weightsOf 27 = .ok (.iload_n 3, 1) := by decide +kernel
theorem dX2_weightsOf_28 : decode cX2_weightsOf 28 = .ok (.iaload, 1) := by decide +kernel
theorem dX2_weightsOf_29 : decode cX2_weightsOf 29 = .ok (.goto 4, 3) := by decide +kernel
theorem dX2_weightsOf_32 : decode cX2_weightsOf 32 = .ok (.iconst 0, 1) := by decide +kernel
theorem dX2_weightsOf_33 : decode cX2_weightsOf 33 = .ok (.iadd, 1) := by decide +kernel
theorem dX2_weightsOf_34 : decode cX2_weightsOf 34 = .ok (.istore_n 2, 1) := by decide +kernel
theorem dX2_weightsOf_35 : decode cX2_weightsOf 35 = .ok (.iinc 3 1, 3) := by decide +kernel
theorem dX2_weightsOf_38 : decode cX2_weightsOf 38 = .ok (.goto (-34), 3) := by decide +kernel
theorem dX2_weightsOf_41 : decode cX2_weightsOf 41 = .ok (.iload_n 2, 1) := by decide +kernel
theorem dX2_weightsOf_42 : decode cX2_weightsOf 42 = .ok (.ireturn, 1) := by decide +kernel
theorem dX2_margin_0 : decode cX2_margin 0 = .ok (.aload_n 0, 1) := by decide +kernel
theorem dX2_margin_1 : decode cX2_margin 1 = .ok (.iconst 1, 1) := by decide +kernel
theorem dX2_margin_2 : decode cX2_margin 2 = .ok (.invokevirtual 39, 3) := by decide +kernel
theorem dX2_margin_5 : decode cX2_margin 5 = .ok (.aload_n 0, 1) := by decide +kernel
theorem dX2_margin_6 : decode cX2_margin 6 = .ok (.iconst (-1), 1) := by decide +kernel
theorem dX2_margin_7 : decode cX2_margin 7 = .ok (.invokevirtual 39, 3) := by decide +kernel
theorem dX2_margin_10 : decode cX2_margin 10 = .ok (.isub, 1) := by decide +kernel
theorem dX2_margin_11 : decode cX2_margin 11 = .ok (.ireturn, 1) := by decide +kernel
theorem dX2_opens_0 : decode cX2_opens 0 = .ok (.aload_n 0, 1) := by decide +kernel
theorem dX2_opens_1 : decode cX2_opens 1 = .ok (.iconst 1, 1) := by decide +kernel
theorem dX2_opens_2 : decode cX2_opens 2 = .ok (.aload_n 0, 1) := by decide +kernel
theorem dX2_opens_3 : decode cX2_opens 3 = .ok (.getfield 24, 3) := by decide +kernel
theorem dX2_opens_6 : decode cX2_opens 6 = .ok (.ishl, 1) := by decide +kernel
theorem dX2_opens_7 : decode cX2_opens 7 = .ok (.iconst 1, 1) := by decide +kernel
theorem dX2_opens_8 : decode cX2_opens 8 = .ok (.isub, 1) := by decide +kernel
theorem dX2_opens_9 : decode cX2_opens 9 = .ok (.invokevirtual 43, 3) := by decide +kernel
theorem dX2_opens_12 : decode cX2_opens 12 = .ok (.ireturn, 1) := by decide +kernel
theorem dX2_opensAwake_0 : decode cX2_opensAwake 0 = .ok (.iconst 0, 1) := by decide +kernel
theorem dX2_opensAwake_1 : decode cX2_opensAwake 1 = .ok (.istore_n 2, 1) := by decide +kernel
theorem dX2_opensAwake_2 : decode cX2_opensAwake 2 = .ok (.iconst 0, 1) := by decide +kernel
theorem dX2_opensAwake_3 : decode cX2_opensAwake 3 = .ok (.istore_n 3, 1) := by decide +kernel
theorem dX2_opensAwake_4 : decode cX2_opensAwake 4 = .ok (.iconst 0, 1) := by decide +kernel
theorem dX2_opensAwake_5 : decode cX2_opensAwake 5 = .ok (.istore 4, 2) := by decide +kernel
theorem dX2_opensAwake_7 : decode cX2_opensAwake 7 = .ok (.iload 4, 2) := by decide +kernel
theorem dX2_opensAwake_9 : decode cX2_opensAwake 9 = .ok (.aload_n 0, 1) := by decide +kernel
theorem dX2_opensAwake_10 : decode cX2_opensAwake 10 = .ok (.getfield 24, 3) := by decide +kernel
theorem dX2_opensAwake_13 : decode cX2_opensAwake 13 = .ok (.if_icmp .ge 46, 3) := by decide +kernel
theorem dX2_opensAwake_16 : decode cX2_opensAwake 16 = .ok (.iload_n 1, 1) := by decide +kernel
theorem dX2_opensAwake_17 : decode cX2_opensAwake 17 = .ok (.iload 4, 2) := by decide +kernel
theorem dX2_opensAwake_19 : decode cX2_opensAwake 19 = .ok (.ishr, 1) := by decide +kernel
theorem dX2_opensAwake_20 : decode cX2_opensAwake 20 = .ok (.iconst 1, 1) := by decide +kernel
theorem dX2_opensAwake_21 : decode cX2_opensAwake 21 = .ok (.iand, 1) := by decide +kernel
theorem dX2_opensAwake_22 : decode cX2_opensAwake 22 = .ok (.ifCond .eq 31, 3) := by decide +kernel
theorem dX2_opensAwake_25 : decode cX2_opensAwake 25 = .ok (.iload_n 2, 1) := by decide +kernel
theorem dX2_opensAwake_26 : decode cX2_opensAwake 26 = .ok (.aload_n 0, 1) := by decide +kernel
theorem dX2_opensAwake_27 : decode cX2_opensAwake 27 = .ok (.getfield 15, 3) := by decide +kernel
theorem dX2_opensAwake_30 : decode cX2_opensAwake 30 = .ok (.iload 4, 2) := by decide +kernel
theorem dX2_opensAwake_32 : decode cX2_opensAwake 32 = .ok (.iaload, 1) := by decide +kernel
theorem dX2_opensAwake_33 : decode cX2_opensAwake 33 = .ok (.aload_n 0, 1) := by decide +kernel
theorem dX2_opensAwake_34 : decode cX2_opensAwake 34 = .ok (.getfield 9, 3) := by decide +kernel
theorem dX2_opensAwake_37 : decode cX2_opensAwake 37 = .ok (.iload 4, 2) := by decide +kernel
theorem dX2_opensAwake_39 : decode cX2_opensAwake 39 = .ok (.iaload, 1) := by decide +kernel
theorem dX2_opensAwake_40 : decode cX2_opensAwake 40 = .ok (.imul, 1) := by decide +kernel
theorem dX2_opensAwake_41 : decode cX2_opensAwake 41 = .ok (.iadd, 1) := by decide +kernel
theorem dX2_opensAwake_42 : decode cX2_opensAwake 42 = .ok (.istore_n 2, 1) := by decide +kernel
theorem dX2_opensAwake_43 : decode cX2_opensAwake 43 = .ok (.iload_n 3, 1) := by decide +kernel
theorem dX2_opensAwake_44 : decode cX2_opensAwake 44 = .ok (.aload_n 0, 1) := by decide +kernel
theorem dX2_opensAwake_45 : decode cX2_opensAwake 45 = .ok (.getfield 9, 3) := by decide +kernel
theorem dX2_opensAwake_48 : decode cX2_opensAwake 48 = .ok (.iload 4, 2) := by decide +kernel
theorem dX2_opensAwake_50 : decode cX2_opensAwake 50 = .ok (.iaload, 1) := by decide +kernel
theorem dX2_opensAwake_51 : decode cX2_opensAwake 51 = .ok (.iadd, 1) := by decide +kernel
theorem dX2_opensAwake_52 : decode cX2_opensAwake 52 = .ok (.istore_n 3, 1) := by decide +kernel
theorem dX2_opensAwake_53 : decode cX2_opensAwake 53 = .ok (.iinc 4 1, 3) := by decide +kernel
theorem dX2_opensAwake_56 : decode cX2_opensAwake 56 = .ok (.goto (-49), 3) := by decide +kernel
theorem dX2_opensAwake_59 : decode cX2_opensAwake 59 = .ok (.iload_n 2, 1) := by decide +kernel
theorem dX2_opensAwake_60 : decode cX2_opensAwake 60 = .ok (.ifCond .gt 7, 3) := by decide +kernel
theorem dX2_opensAwake_63 : decode cX2_opensAwake 63 = .ok (.iload_n 3, 1) := by decide +kernel
theorem dX2_opensAwake_64 : decode cX2_opensAwake 64 = .ok (.ifCond .ne 7, 3) := by decide +kernel
theorem dX2_opensAwake_67 : decode cX2_opensAwake 67 = .ok (.iconst 1, 1) := by decide +kernel
theorem dX2_opensAwake_68 : decode cX2_opensAwake 68 = .ok (.goto 4, 3) := by decide +kernel
theorem dX2_opensAwake_71 : decode cX2_opensAwake 71 = .ok (.iconst 0, 1) := by decide +kernel
theorem dX2_opensAwake_72 : decode cX2_opensAwake 72 = .ok (.ireturn, 1) := by decide +kernel
theorem dX2_opensBehind_0 : decode cX2_opensBehind 0 = .ok (.iconst 0, 1) := by decide +kernel
theorem dX2_opensBehind_1 : decode cX2_opensBehind 1 = .ok (.istore 4, 2) := by decide +kernel
theorem dX2_opensBehind_3 : decode cX2_opensBehind 3 = .ok (.iconst 0, 1) := by decide +kernel
theorem dX2_opensBehind_4 : decode cX2_opensBehind 4 = .ok (.istore 5, 2) := by decide +kernel
theorem dX2_opensBehind_6 : decode cX2_opensBehind 6 = .ok (.iconst 0, 1) := by decide +kernel
theorem dX2_opensBehind_7 : decode cX2_opensBehind 7 = .ok (.istore 6, 2) := by decide +kernel
theorem dX2_opensBehind_9 : decode cX2_opensBehind 9 = .ok (.iload 6, 2) := by decide +kernel
theorem dX2_opensBehind_11 : decode cX2_opensBehind 11 = .ok (.aload_n 0, 1) := by decide +kernel
theorem dX2_opensBehind_12 : decode cX2_opensBehind 12 = .ok (.getfield 24, 3) := by decide +kernel
theorem dX2_opensBehind_15 : decode cX2_opensBehind 15 = .ok (.if_icmp .ge 59, 3) := by decide +kernel
theorem dX2_opensBehind_18 : decode cX2_opensBehind 18 = .ok (.iload_n 1, 1) := by decide +kernel
theorem dX2_opensBehind_19 : decode cX2_opensBehind 19 = .ok (.iload 6, 2) := by decide +kernel
theorem dX2_opensBehind_21 : decode cX2_opensBehind 21 = .ok (.ishr, 1) := by decide +kernel
theorem dX2_opensBehind_22 : decode cX2_opensBehind 22 = .ok (.iconst 1, 1) := by decide +kernel
theorem dX2_opensBehind_23 : decode cX2_opensBehind 23 = .ok (.iand, 1) := by decide +kernel
theorem dX2_opensBehind_24 : decode cX2_opensBehind 24 = .ok (.ifCond .eq 13, 3) := by decide +kernel
theorem dX2_opensBehind_27 : decode cX2_opensBehind 27 = .ok (.aload_n 2, 1) := by decide +kernel
theorem dX2_opensBehind_28 : decode cX2_opensBehind 28 = .ok (.iload 6, 2) := by decide +kernel
theorem dX2_opensBehind_30 : decode cX2_opensBehind 30 = .ok (.iload_n 3, 1) := by decide +kernel
theorem dX2_opensBehind_31 : decode cX2_opensBehind 31 = .ok (.invokevirtual 27, 3) := by decide +kernel
theorem dX2_opensBehind_34 : decode cX2_opensBehind 34 = .ok (.goto 10, 3) := by decide +kernel
theorem dX2_opensBehind_37 : decode cX2_opensBehind 37 = .ok (.aload_n 0, 1) := by decide +kernel
theorem dX2_opensBehind_38 : decode cX2_opensBehind 38 = .ok (.getfield 9, 3) := by decide +kernel
theorem dX2_opensBehind_41 : decode cX2_opensBehind 41 = .ok (.iload 6, 2) := by decide +kernel
theorem dX2_opensBehind_43 : decode cX2_opensBehind 43 = .ok (.iaload, 1) := by decide +kernel
theorem dX2_opensBehind_44 : decode cX2_opensBehind 44 = .ok (.istore 7, 2) := by decide +kernel
theorem dX2_opensBehind_46 : decode cX2_opensBehind 46 = .ok (.iload 4, 2) := by decide +kernel
theorem dX2_opensBehind_48 : decode cX2_opensBehind 48 = .ok (.aload_n 0, 1) := by decide +kernel
theorem dX2_opensBehind_49 : decode cX2_opensBehind 49 = .ok (.getfield 15, 3) := by decide +kernel
theorem dX2_opensBehind_52 : decode cX2_opensBehind 52 = .ok (.iload 6, 2) := by decide +kernel
theorem dX2_opensBehind_54 : decode cX2_opensBehind 54 = .ok (.iaload, 1) := by decide +kernel
theorem dX2_opensBehind_55 : decode cX2_opensBehind 55 = .ok (.iload 7, 2) := by decide +kernel
theorem dX2_opensBehind_57 : decode cX2_opensBehind 57 = .ok (.imul, 1) := by decide +kernel
theorem dX2_opensBehind_58 : decode cX2_opensBehind 58 = .ok (.iadd, 1) := by decide +kernel
theorem dX2_opensBehind_59 : decode cX2_opensBehind 59 = .ok (.istore 4, 2) := by decide +kernel
theorem dX2_opensBehind_61 : decode cX2_opensBehind 61 = .ok (.iload 5, 2) := by decide +kernel
theorem dX2_opensBehind_63 : decode cX2_opensBehind 63 = .ok (.iload 7, 2) := by decide +kernel
theorem dX2_opensBehind_65 : decode cX2_opensBehind 65 = .ok (.iadd, 1) := by decide +kernel
theorem dX2_opensBehind_66 : decode cX2_opensBehind 66 = .ok (.istore 5, 2) := by decide +kernel
theorem dX2_opensBehind_68 : decode cX2_opensBehind 68 = .ok (.iinc 6 1, 3) := by decide +kernel
theorem dX2_opensBehind_71 : decode cX2_opensBehind 71 = .ok (.goto (-62), 3) := by decide +kernel
theorem dX2_opensBehind_74 : decode cX2_opensBehind 74 = .ok (.iload 4, 2) := by decide +kernel
theorem dX2_opensBehind_76 : decode cX2_opensBehind 76 = .ok (.ifCond .gt 8, 3) := by decide +kernel
theorem dX2_opensBehind_79 : decode cX2_opensBehind 79 = .ok (.iload 5, 2) := by decide +kernel
theorem dX2_opensBehind_81 : decode cX2_opensBehind 81 = .ok (.ifCond .ne 7, 3) := by decide +kernel
theorem dX2_opensBehind_84 : decode cX2_opensBehind 84 = .ok (.iconst 1, 1) := by decide +kernel
theorem dX2_opensBehind_85 : decode cX2_opensBehind 85 = .ok (.goto 4, 3) := by decide +kernel
theorem dX2_opensBehind_88 : decode cX2_opensBehind 88 = .ok (.iconst 0, 1) := by decide +kernel
theorem dX2_opensBehind_89 : decode cX2_opensBehind 89 = .ok (.ireturn, 1) := by decide +kernel
theorem dX4_init_0 : decode cX4_init 0 = .ok (.aload_n 0, 1) := by decide +kernel
theorem dX4_init_1 : decode cX4_init 1 = .ok (.invokespecial 3, 3) := by decide +kernel
theorem dX4_init_4 : decode cX4_init 4 = .ok (.aload_n 0, 1) := by decide +kernel
theorem dX4_init_5 : decode cX4_init 5 = .ok (.bipush 40, 2) := by decide +kernel
theorem dX4_init_7 : decode cX4_init 7 = .ok (.newarray .int, 2) := by decide +kernel
theorem dX4_init_9 : decode cX4_init 9 = .ok (.putfield 11, 3) := by decide +kernel
theorem dX4_init_12 : decode cX4_init 12 = .ok (.aload_n 0, 1) := by decide +kernel
theorem dX4_init_13 : decode cX4_init 13 = .ok (.iconst (-1), 1) := by decide +kernel
theorem dX4_init_14 : decode cX4_init 14 = .ok (.putfield 15, 3) := by decide +kernel
theorem dX4_init_17 : decode cX4_init 17 = .ok (.return_, 1) := by decide +kernel
theorem dX4_isMissing_0 : decode cX4_isMissing 0 = .ok (.aload_n 0, 1) := by decide +kernel
theorem dX4_isMissing_1 : decode cX4_isMissing 1 = .ok (.getfield 15, 3) := by decide +kernel
theorem dX4_isMissing_4 : decode cX4_isMissing 4 = .ok (.iconst (-1), 1) := by decide +kernel
theorem dX4_isMissing_5 : decode cX4_isMissing 5 = .ok (.if_icmp .ne 7, 3) := by decide +kernel
theorem dX4_isMissing_8 : decode cX4_isMissing 8 = .ok (.iconst 1, 1) := by decide +kernel
theorem dX4_isMissing_9 : decode cX4_isMissing 9 = .ok (.goto 4, 3) := by decide +kernel
theorem dX4_isMissing_12 : decode cX4_isMissing 12 = .ok (.iconst 0, 1) := by decide +kernel
theorem dX4_isMissing_13 : decode cX4_isMissing 13 = .ok (.ireturn, 1) := by decide +kernel
theorem dX4_begin_0 : decode cX4_begin 0 = .ok (.aload_n 0, 1) := by decide +kernel
theorem dX4_begin_1 : decode cX4_begin 1 = .ok (.iload_n 1, 1) := by decide +kernel
theorem dX4_begin_2 : decode cX4_begin 2 = .ok (.putfield 15, 3) := by decide +kernel
theorem dX4_begin_5 : decode cX4_begin 5 = .ok (.aload_n 0, 1) := by decide +kernel
theorem dX4_begin_6 : decode cX4_begin 6 = .ok (.iload_n 2, 1) := by decide +kernel
theorem dX4_begin_7 : decode cX4_begin 7 = .ok (.putfield 19, 3) := by decide +kernel
theorem dX4_begin_10 : decode cX4_begin 10 = .ok (.aload_n 0, 1) := by decide +kernel
theorem dX4_begin_11 : decode cX4_begin 11 = .ok (.getfield 11, 3) := by decide +kernel
theorem dX4_begin_14 : decode cX4_begin 14 = .ok (.iconst 0, 1) := by decide +kernel
theorem dX4_begin_15 : decode cX4_begin 15 = .ok (.invokestatic 22, 3) := by decide +kernel
theorem dX4_begin_18 : decode cX4_begin 18 = .ok (.return_, 1) := by decide +kernel
theorem dX4_end_0 : decode cX4_end 0 = .ok (.aload_n 0, 1) := by decide +kernel
theorem dX4_end_1 : decode cX4_end 1 = .ok (.iconst (-1), 1) := by decide +kernel
theorem dX4_end_2 : decode cX4_end 2 = .ok (.putfield 15, 3) := by decide +kernel
theorem dX4_end_5 : decode cX4_end 5 = .ok (.aload_n 0, 1) := by decide +kernel
theorem dX4_end_6 : decode cX4_end 6 = .ok (.getfield 19, 3) := by decide +kernel
theorem dX4_end_9 : decode cX4_end 9 = .ok (.ireturn, 1) := by decide +kernel
theorem dX4_findingOf_0 : decode cX4_findingOf 0 = .ok (.aload_n 0, 1) := by decide +kernel
theorem dX4_findingOf_1 : decode cX4_findingOf 1 = .ok (.invokevirtual 28, 3) := by decide +kernel
theorem dX4_findingOf_4 : decode cX4_findingOf 4 = .ok (.ifCond .eq 5, 3) := by decide +kernel
theorem dX4_findingOf_7 : decode cX4_findingOf 7 = .ok (.iconst 1, 1) := by decide +kernel
theorem dX4_findingOf_8 : decode cX4_findingOf 8 = .ok (.ireturn, 1) := by decide +kernel
theorem dX4_findingOf_9 : decode cX4_findingOf 9 = .ok (.iload_n 1, 1) := by decide +kernel
theorem dX4_findingOf_10 : decode cX4_findingOf 10 = .ok (.ifCond .lt 25, 3) := by decide +kernel
theorem dX4_findingOf_13 : decode cX4_findingOf 13 = .ok (.iload_n 2, 1) := by decide +kernel
theorem dX4_findingOf_14 : decode cX4_findingOf 14 = .ok (.ifCond .lt 21, 3) := by decide +kernel
theorem dX4_findingOf_17 : decode cX4_findingOf 17 = .ok (.iload_n 2, 1) := by decide +kernel
theorem dX4_findingOf_18 : decode cX4_findingOf 18 = .ok (.aload_n 0, 1) := by decide +kernel
theorem dX4_findingOf_19 : decode cX4_findingOf 19 = .ok (.getfield 19, 3) := by decide +kernel
theorem dX4_findingOf_22 : decode cX4_findingOf 22 = .ok (.if_icmp .gt 13, 3) := by decide +kernel
theorem dX4_findingOf_25 : decode cX4_findingOf 25 = .ok (.iload_n 1, 1) := by decide +kernel
theorem dX4_findingOf_26 : decode cX4_findingOf 26 = .ok (.aload_n 0, 1) := by decide +kernel
theorem dX4_findingOf_27 : decode cX4_findingOf 27 = .ok (.getfield 19, 3) := by decide +kernel
theorem dX4_findingOf_30 : decode cX4_findingOf 30 = .ok (.iload_n 2, 1) := by decide +kernel
theorem dX4_findingOf_31 : decode cX4_findingOf 31 = .ok (.isub, 1) := by decide +kernel
theorem dX4_findingOf_32 : decode cX4_findingOf 32 = .ok (.if_icmp .le 7, 3) := by decide +kernel
theorem dX4_findingOf_35 : decode cX4_findingOf 35 = .ok (.iconst 2, 1) := by decide +kernel
theorem dX4_findingOf_36 : decode cX4_findingOf 36 = .ok (.goto 4, 3) := by decide +kernel
theorem dX4_findingOf_39 : decode cX4_findingOf 39 = .ok (.iconst 0, 1) := by decide +kernel
theorem dX4_findingOf_40 : decode cX4_findingOf 40 = .ok (.ireturn, 1) := by decide +kernel
theorem dX4_put_0 : decode cX4_put 0 = .ok (.aload_n 0, 1) := by decide +kernel
theorem dX4_put_1 : decode cX4_put 1 = .ok (.getfield 11, 3) := by decide +kernel
theorem dX4_put_4 : decode cX4_put 4 = .ok (.iload_n 1, 1) := by decide +kernel
theorem dX4_put_5 : decode cX4_put 5 = .ok (.aload_n 0, 1) := by decide +kernel
theorem dX4_put_6 : decode cX4_put 6 = .ok (.getfield 15, 3) := by decide +kernel
theorem dX4_put_9 : decode cX4_put 9 = .ok (.ifCond .ne 8, 3) := by decide +kernel
theorem dX4_put_12 : decode cX4_put 12 = .ok (.iload_n 2, 1) := by decide +kernel
theorem dX4_put_13 : decode cX4_put 13 = .ok (.i2b, 1) := by decide +kernel
theorem dX4_put_14 : decode cX4_put 14 = .ok (.goto 17, 3) := by decide +kernel
theorem dX4_put_17 : decode cX4_put 17 = .ok (.aload_n 0, 1) := by decide +kernel
theorem dX4_put_18 : decode cX4_put 18 = .ok (.getfield 15, 3) := by decide +kernel
theorem dX4_put_21 : decode cX4_put 21 = .ok (.iconst 1, 1) := by decide +kernel
theorem dX4_put_22 : decode cX4_put 22 = .ok (.if_icmp .ne 8, 3) := by decide +kernel
theorem dX4_put_25 : decode cX4_put 25 = .ok (.iload_n 2, 1) := by decide +kernel
theorem dX4_put_26 : decode cX4_put 26 = .ok (.i2s, 1) := by decide +kernel
theorem dX4_put_27 : decode cX4_put 27 = .ok (.goto 4, 3) := by decide +kernel
theorem dX4_put_30 : decode cX4_put 30 = .ok (.iload_n 2, 1) := by decide +kernel
theorem dX4_put_31 : decode cX4_put 31 = .ok (.iastore, 1) := by decide +kernel
theorem dX4_put_32 : decode cX4_put 32 = .ok (.aload_n 0, 1) := by decide +kernel
theorem dX4_put_33 : decode cX4_put 33 = .ok (.getfield 11, 3) := by decide +kernel
theorem dX4_put_36 : decode cX4_put 36 = .ok (.iload_n 1, 1) := by decide +kernel
theorem dX4_put_37 : decode cX4_put 37 = .ok (.iaload, 1) := by decide +kernel
theorem dX4_put_38 : decode cX4_put 38 = .ok (.ireturn, 1) := by decide +kernel
theorem dX5_init_0 : decode cX5_init 0 = .ok (.aload_n 0, 1) := by decide +kernel
theorem dX5_init_1 : decode cX5_init 1 = .ok (.invokespecial 3, 3) := by decide +kernel
theorem dX5_init_4 : decode cX5_init 4 = .ok (.aload_n 0, 1) := by decide +kernel
theorem dX5_init_5 : decode cX5_init 5 = .ok (.bipush 6, 2) := by decide +kernel
theorem dX5_init_7 : decode cX5_init 7 = .ok (.newarray .int, 2) := by decide +kernel
theorem dX5_init_9 : decode cX5_init 9 = .ok (.putfield 9, 3) := by decide +kernel
theorem dX5_init_12 : decode cX5_init 12 = .ok (.aload_n 0, 1) := by decide +kernel
theorem dX5_init_13 : decode cX5_init 13 = .ok (.bipush 18, 2) := by decide +kernel
theorem dX5_init_15 : decode cX5_init 15 = .ok (.newarray .int, 2) := by decide +kernel
theorem dX5_init_17 : decode cX5_init 17 = .ok (.putfield 15, 3) := by decide +kernel
theorem dX5_init_20 : decode cX5_init 20 = .ok (.aload_n 0, 1) := by decide +kernel
theorem dX5_init_21 : decode cX5_init 21 = .ok (.bipush 18, 2) := by decide +kernel
theorem dX5_init_23 : decode cX5_init 23 = .ok (.newarray .int, 2) := by decide +kernel
theorem dX5_init_25 : decode cX5_init 25 = .ok (.putfield 18, 3) := by decide +kernel
theorem dX5_init_28 : decode cX5_init 28 = .ok (.return_, 1) := by decide +kernel
theorem dX5_gather_0 : decode cX5_gather 0 = .ok (.aload_n 0, 1) := by decide +kernel
theorem dX5_gather_1 : decode cX5_gather 1 = .ok (.iconst 0, 1) := by decide +kernel
theorem dX5_gather_2 : decode cX5_gather 2 = .ok (.putfield 21, 3) := by decide +kernel
theorem dX5_gather_5 : decode cX5_gather 5 = .ok (.iconst 0, 1) := by decide +kernel
theorem dX5_gather_6 : decode cX5_gather 6 = .ok (.istore 4, 2) := by decide +kernel
theorem dX5_gather_8 : decode cX5_gather 8 = .ok (.iload 4, 2) := by decide +kernel
theorem dX5_gather_10 : decode cX5_gather 10 = .ok (.aload_n 1, 1) := by decide +kernel
theorem dX5_gather_11 : decode cX5_gather 11 = .ok (.getfield 25, 3) := by decide +kernel
theorem dX5_gather_14 : decode cX5_gather 14 = .ok (.if_icmp .ge 62, 3) := by decide +kernel
theorem dX5_gather_17 : decode cX5_gather 17 = .ok (.iload 4, 2) := by decide +kernel
theorem dX5_gather_19 : decode cX5_gather 19 = .ok (.iload_n 3, 1) := by decide +kernel
theorem dX5_gather_20 : decode cX5_gather 20 = .ok (.if_icmp .eq 50, 3) := by decide +kernel
theorem dX5_gather_23 : decode cX5_gather 23 = .ok (.aload_n 2, 1) := by decide +kernel
theorem dX5_gather_24 : decode cX5_gather 24 = .ok (.getfield 30, 3) := by decide +kernel
theorem dX5_gather_27 : decode cX5_gather 27 = .ok (.iload 4, 2) := by decide +kernel
theorem dX5_gather_29 : decode cX5_gather 29 = .ok (.iaload, 1) := by decide +kernel
theorem dX5_gather_30 : decode cX5_gather 30 = .ok (.ifCond .le 40, 3) := by decide +kernel
theorem dX5_gather_33 : decode cX5_gather 33 = .ok (.aload_n 2, 1) := by decide +kernel
theorem dX5_gather_34 : decode cX5_gather 34 = .ok (.getfield 35, 3) := by decide +kernel
theorem dX5_gather_37 : decode cX5_gather 37 = .ok (.iload 4, 2) := by decide +kernel
theorem dX5_gather_39 : decode cX5_gather 39 = .ok (.iaload, 1) := by decide +kernel
theorem dX5_gather_40 : decode cX5_gather 40 = .ok (.ifCond .gt 30, 3) := by decide +kernel
theorem dX5_gather_43 : decode cX5_gather 43 = .ok (.aload_n 0, 1) := by decide +kernel
theorem dX5_gather_44 : decode cX5_gather 44 = .ok (.iload 4, 2) := by decide +kernel
theorem dX5_gather_46 : decode cX5_gather 46 = .ok (.aload_n 1, 1) := by decide +kernel
theorem dX5_gather_47 : decode cX5_gather 47 = .ok (.iload 4, 2) := by decide +kernel
theorem dX5_gather_49 : decode cX5_gather 49 = .ok (.iload_n 3, 1) := by decide +kernel
theorem dX5_gather_50 : decode cX5_gather 50 = .ok (.invokevirtual 38, 3) := by decide +kernel
theorem dX5_gather_53 : decode cX5_gather 53 = .ok (.aload_n 2, 1) := by decide +kernel
theorem dX5_gather_54 : decode cX5_gather 54 = .ok (.getfield 35, 3) := by decide +kernel
theorem dX5_gather_57 : decode cX5_gather 57 = .ok (.iload 4, 2) := by decide +kernel
theorem dX5_gather_59 : decode cX5_gather 59 = .ok (.iaload, 1) := by decide +kernel
theorem dX5_gather_60 : decode cX5_gather 60 = .ok (.aload_n 2, 1) := by decide +kernel
theorem dX5_gather_61 : decode cX5_gather 61 = .ok (.getfield 30, 3) := by decide +kernel
theorem dX5_gather_64 : decode cX5_gather 64 = .ok (.iload 4, 2) := by decide +kernel
theorem dX5_gather_66 : decode cX5_gather 66 = .ok (.iaload, 1) := by decide +kernel
theorem dX5_gather_67 : decode cX5_gather 67 = .ok (.invokevirtual 42, 3) := by decide +kernel
theorem dX5_gather_70 : decode cX5_gather 70 = .ok (.iinc 4 1, 3) := by decide +kernel
theorem dX5_gather_73 : decode cX5_gather 73 = .ok (.goto (-65), 3) := by decide +kernel
theorem dX5_gather_76 : decode cX5_gather 76 = .ok (.return_, 1) := by decide +kernel
theorem dX5_offer_0 : decode cX5_offer 0 = .ok (.aload_n 0, 1) := by decide +kernel
theorem dX5_offer_1 : decode cX5_offer 1 = .ok (.getfield 21, 3) := by decide +kernel
theorem dX5_offer_4 : decode cX5_offer 4 = .ok (.iconst 3, 1) := by decide +kernel
theorem dX5_offer_5 : decode cX5_offer 5 = .ok (.imul, 1) := by decide +kernel
theorem dX5_offer_6 : decode cX5_offer 6 = .ok (.istore 5, 2) := by decide +kernel
theorem dX5_offer_8 : decode cX5_offer 8 = .ok (.aload_n 0, 1) := by decide +kernel
theorem dX5_offer_9 : decode cX5_offer 9 = .ok (.getfield 9, 3) := by decide +kernel
theorem dX5_offer_12 : decode cX5_offer 12 = .ok (.aload_n 0, 1) := by decide +kernel
theorem dX5_offer_13 : decode cX5_offer 13 = .ok (.getfield 21, 3) := by decide +kernel
theorem dX5_offer_16 : decode cX5_offer 16 = .ok (.iload_n 1, 1) := by decide +kernel
theorem dX5_offer_17 : decode cX5_offer 17 = .ok (.iastore, 1) := by decide +kernel
theorem dX5_offer_18 : decode cX5_offer 18 = .ok (.aload_n 0, 1) := by decide +kernel
theorem dX5_offer_19 : decode cX5_offer 19 = .ok (.getfield 15, 3) := by decide +kernel
theorem dX5_offer_22 : decode cX5_offer 22 = .ok (.iload 5, 2) := by decide +kernel
theorem dX5_offer_24 : decode cX5_offer 24 = .ok (.iconst 0, 1) := by decide +kernel
theorem dX5_offer_25 : decode cX5_offer 25 = .ok (.iastore, 1) := by decide +kernel
theorem dX5_offer_26 : decode cX5_offer 26 = .ok (.aload_n 0, 1) := by decide +kernel
theorem dX5_offer_27 : decode cX5_offer 27 = .ok (.getfield 18, 3) := by decide +kernel
theorem dX5_offer_30 : decode cX5_offer 30 = .ok (.iload 5, 2) := by decide +kernel
theorem dX5_offer_32 : decode cX5_offer 32 = .ok (.iconst 0, 1) := by decide +kernel
theorem dX5_offer_33 : decode cX5_offer 33 = .ok (.iastore, 1) := by decide +kernel
theorem dX5_offer_34 : decode cX5_offer 34 = .ok (.aload_n 0, 1) := by decide +kernel
theorem dX5_offer_35 : decode cX5_offer 35 = .ok (.getfield 15, 3) := by decide +kernel
theorem dX5_offer_38 : decode cX5_offer 38 = .ok (.iload 5, 2) := by decide +kernel
theorem dX5_offer_40 : decode cX5_offer 40 = .ok (.iconst 1, 1) := by decide +kernel
theorem dX5_offer_41 : decode cX5_offer 41 = .ok (.iadd, 1) := by decide +kernel
theorem dX5_offer_42 : decode cX5_offer 42 = .ok (.iload_n 3, 1) := by decide +kernel
theorem dX5_offer_43 : decode cX5_offer 43 = .ok (.ifCond .ge 8, 3) := by decide +kernel
theorem dX5_offer_46 : decode cX5_offer 46 = .ok (.iload_n 2, 1) := by decide +kernel
theorem dX5_offer_47 : decode cX5_offer 47 = .ok (.ineg, 1) := by decide +kernel
theorem dX5_offer_48 : decode cX5_offer 48 = .ok (.goto 5, 3) := by decide +kernel
theorem dX5_offer_51 : decode cX5_offer 51 = .ok (.bipush 21, 2) := by decide +kernel
theorem dX5_offer_53 : decode cX5_offer 53 = .ok (.iastore, 1) := by decide +kernel
theorem dX5_offer_54 : decode cX5_offer 54 = .ok (.aload_n 0, 1) := by decide +kernel
theorem dX5_offer_55 : decode cX5_offer 55 = .ok (.getfield 18, 3) := by decide +kernel
theorem dX5_offer_58 : decode cX5_offer 58 = .ok (.iload 5, 2) := by decide +kernel
theorem dX5_offer_60 : decode cX5_offer 60 = .ok (.iconst 1, 1) := by decide +kernel
theorem dX5_offer_61 : decode cX5_offer 61 = .ok (.iadd, 1) := by decide +kernel
theorem dX5_offer_62 : decode cX5_offer 62 = .ok (.iload 4, 2) := by decide +kernel
theorem dX5_offer_64 : decode cX5_offer 64 = .ok (.iastore, 1) := by decide +kernel
theorem dX5_offer_65 : decode cX5_offer 65 = .ok (.aload_n 0, 1) := by decide +kernel
theorem dX5_offer_66 : decode cX5_offer 66 = .ok (.getfield 15, 3) := by decide +kernel
theorem dX5_offer_69 : decode cX5_offer 69 = .ok (.iload 5, 2) := by decide +kernel
theorem dX5_offer_71 : decode cX5_offer 71 = .ok (.iconst 2, 1) := by decide +kernel
theorem dX5_offer_72 : decode cX5_offer 72 = .ok (.iadd, 1) := by decide +kernel
theorem dX5_offer_73 : decode cX5_offer 73 = .ok (.iconst 1, 1) := by decide +kernel
theorem dX5_offer_74 : decode cX5_offer 74 = .ok (.iload_n 2, 1) := by decide +kernel
theorem dX5_offer_75 : decode cX5_offer 75 = .ok (.isub, 1) := by decide +kernel
theorem dX5_offer_76 : decode cX5_offer 76 = .ok (.iastore, 1) := by decide +kernel
theorem dX5_offer_77 : decode cX5_offer 77 = .ok (.aload_n 0, 1) := by decide +kernel
theorem dX5_offer_78 : decode cX5_offer 78 = .ok (.getfield 18, 3) := by decide +kernel
theorem dX5_offer_81 : decode cX5_offer 81 = .ok (.iload 5, 2) := by decide +kernel
theorem dX5_offer_83 : decode cX5_offer 83 = .ok (.iconst 2, 1) := by decide +kernel
theorem dX5_offer_84 : decode cX5_offer 84 = .ok (.iadd, 1) := by decide +kernel
theorem dX5_offer_85 : decode cX5_offer 85 = .ok (.iload_n 3, 1) := by decide +kernel
theorem dX5_offer_86 : decode cX5_offer 86 = .ok (.ifCond .ge 10, 3) := by decide +kernel
theorem dX5_offer_89 : decode cX5_offer 89 = .ok (.iconst 2, 1) := by decide +kernel
theorem dX5_offer_90 : decode cX5_offer 90 = .ok (.iload 4, 2) := by decide +kernel
theorem dX5_offer_92 : decode cX5_offer 92 = .ok (.imul, 1) := by decide +kernel
theorem dX5_offer_93 : decode cX5_offer 93 = .ok (.goto 5, 3) := by decide +kernel
theorem dX5_offer_96 : decode cX5_offer 96 = .ok (.iload 4, 2) := by decide +kernel
theorem dX5_offer_98 : decode cX5_offer 98 = .ok (.iastore, 1) := by decide +kernel
theorem dX5_offer_99 : decode cX5_offer 99 = .ok (.aload_n 0, 1) := by decide +kernel
theorem dX5_offer_100 : decode cX5_offer 100 = .ok (.dup, 1) := by decide +kernel
theorem dX5_offer_101 : decode cX5_offer 101 = .ok (.getfield 21, 3) := by decide +kernel
theorem dX5_offer_104 : decode cX5_offer 104 = .ok (.iconst 1, 1) := by decide +kernel
theorem dX5_offer_105 : decode cX5_offer 105 = .ok (.iadd, 1) := by decide +kernel
theorem dX5_offer_106 : decode cX5_offer 106 = .ok (.putfield 21, 3) := by decide +kernel
theorem dX5_offer_109 : decode cX5_offer 109 = .ok (.return_, 1) := by decide +kernel
theorem dX5_seek_0 : decode cX5_seek 0 = .ok (.aload_n 0, 1) := by decide +kernel
theorem dX5_seek_1 : decode cX5_seek 1 = .ok (.aload_n 1, 1) := by decide +kernel
theorem dX5_seek_2 : decode cX5_seek 2 = .ok (.invokevirtual 46, 3) := by decide +kernel
theorem dX5_seek_5 : decode cX5_seek 5 = .ok (.ifCond .eq 7, 3) := by decide +kernel
theorem dX5_seek_8 : decode cX5_seek 8 = .ok (.iconst 0, 1) := by decide +kernel
theorem dX5_seek_9 : decode cX5_seek 9 = .ok (.goto 5, 3) := by decide +kernel
theorem dX5_seek_12 : decode cX5_seek 12 = .ok (.ldc 50, 2) := by decide +kernel
theorem dX5_seek_14 : decode cX5_seek 14 = .ok (.putfield 51, 3) := by decide +kernel
theorem dX5_seek_17 : decode cX5_seek 17 = .ok (.aload_n 0, 1) := by decide +kernel
theorem dX5_seek_18 : decode cX5_seek 18 = .ok (.aload_n 0, 1) := by decide +kernel
theorem dX5_seek_19 : decode cX5_seek 19 = .ok (.getfield 51, 3) := by decide +kernel
theorem dX5_seek_22 : decode cX5_seek 22 = .ok (.putfield 54, 3) := by decide +kernel
theorem dX5_seek_25 : decode cX5_seek 25 = .ok (.iconst 1, 1) := by decide +kernel
theorem dX5_seek_26 : decode cX5_seek 26 = .ok (.aload_n 1, 1) := by decide +kernel
theorem dX5_seek_27 : decode cX5_seek 27 = .ok (.invokevirtual 55, 3) := by decide +kernel
theorem dX5_seek_30 : decode cX5_seek 30 = .ok (.isub, 1) := by decide +kernel
theorem dX5_seek_31 : decode cX5_seek 31 = .ok (.istore_n 2, 1) := by decide +kernel
theorem dX5_seek_32 : decode cX5_seek 32 = .ok (.iconst 1, 1) := by decide +kernel
theorem dX5_seek_33 : decode cX5_seek 33 = .ok (.istore_n 3, 1) := by decide +kernel
theorem dX5_seek_34 : decode cX5_seek 34 = .ok (.iconst 0, 1) := by decide +kernel
theorem dX5_seek_35 : decode cX5_seek 35 = .ok (.istore 4, 2) := by decide +kernel
theorem dX5_seek_37 : decode cX5_seek 37 = .ok (.iload 4, 2) := by decide +kernel
theorem dX5_seek_39 : decode cX5_seek 39 = .ok (.aload_n 0, 1) := by decide +kernel
theorem dX5_seek_40 : decode cX5_seek 40 = .ok (.getfield 21, 3) := by decide +kernel
theorem dX5_seek_43 : decode cX5_seek 43 = .ok (.if_icmp .ge 13, 3) := by decide +kernel
theorem dX5_seek_46 : decode cX5_seek 46 = .ok (.iload_n 3, 1) := by decide +kernel
theorem dX5_seek_47 : decode cX5_seek 47 = .ok (.iconst 3, 1) := by decide +kernel
theorem dX5_seek_48 : decode cX5_seek 48 = .ok (.imul, 1) := by decide +kernel
theorem dX5_seek_49 : decode cX5_seek 49 = .ok (.istore_n 3, 1) := by decide +kernel
theorem dX5_seek_50 : decode cX5_seek 50 = .ok (.iinc 4 1, 3) := by decide +kernel
theorem dX5_seek_53 : decode cX5_seek 53 = .ok (.goto (-16), 3) := by decide +kernel
theorem dX5_seek_56 : decode cX5_seek 56 = .ok (.iconst 1, 1) := by decide +kernel
theorem dX5_seek_57 : decode cX5_seek 57 = .ok (.istore 4, 2) := by decide +kernel
theorem dX5_seek_59 : decode cX5_seek 59 = .ok (.iload 4, 2) := by decide +kernel
theorem dX5_seek_61 : decode cX5_seek 61 = .ok (.iload_n 3, 1) := by decide +kernel
theorem dX5_seek_62 : decode cX5_seek 62 = .ok (.if_icmp .ge 23, 3) := by decide +kernel
theorem dX5_seek_65 : decode cX5_seek 65 = .ok (.aload_n 0, 1) := by decide +kernel
theorem dX5_seek_66 : decode cX5_seek 66 = .ok (.getfield 51, 3) := by decide +kernel
theorem dX5_seek_69 : decode cX5_seek 69 = .ok (.ifCond .eq 16, 3) := by decide +kernel
theorem dX5_seek_72 : decode cX5_seek 72 = .ok (.aload_n 0, 1) := by decide +kernel
theorem dX5_seek_73 : decode cX5_seek 73 = .ok (.iload 4, 2) := by decide +kernel
theorem dX5_seek_75 : decode cX5_seek 75 = .ok (.iload_n 2, 1) := by decide +kernel
theorem dX5_seek_76 : decode cX5_seek 76 = .ok (.invokevirtual 59, 3) := by decide +kernel
theorem dX5_seek_79 : decode cX5_seek 79 = .ok (.iinc 4 1, 3) := by decide +kernel
theorem dX5_seek_82 : decode cX5_seek 82 = .ok (.goto (-23), 3) := by decide +kernel
theorem dX5_seek_85 : decode cX5_seek 85 = .ok (.return_, 1) := by decide +kernel
theorem dX5_weigh_0 : decode cX5_weigh 0 = .ok (.iload_n 1, 1) := by decide +kernel
theorem dX5_weigh_1 : decode cX5_weigh 1 = .ok (.istore_n 3, 1) := by decide +kernel
theorem dX5_weigh_2 : decode cX5_weigh 2 = .ok (.iconst 0, 1) := by decide +kernel
theorem dX5_weigh_3 : decode cX5_weigh 3 = .ok (.istore 4, 2) := by decide +kernel
theorem dX5_weigh_5 : decode cX5_weigh 5 = .ok (.iconst 0, 1) := by decide +kernel
theorem dX5_weigh_6 : decode cX5_weigh 6 = .ok (.istore 5, 2) := by decide +kernel
theorem dX5_weigh_8 : decode cX5_weigh 8 = .ok (.iconst 0, 1) := by decide +kernel
theorem dX5_weigh_9 : decode cX5_weigh 9 = .ok (.istore 6, 2) := by decide +kernel
theorem dX5_weigh_11 : decode cX5_weigh 11 = .ok (.iconst 0, 1) := by decide +kernel
theorem dX5_weigh_12 : decode cX5_weigh 12 = .ok (.istore 7, 2) := by decide +kernel
theorem dX5_weigh_14 : decode cX5_weigh 14 = .ok (.iload 7, 2) := by decide +kernel
theorem dX5_weigh_16 : decode cX5_weigh 16 = .ok (.aload_n 0, 1) := by decide +kernel
theorem dX5_weigh_17 : decode cX5_weigh 17 = .ok (.getfield 21, 3) := by decide +kernel
theorem dX5_weigh_20 : decode cX5_weigh 20 = .ok (.if_icmp .ge 88, 3) := by decide +kernel
theorem dX5_weigh_23 : decode cX5_weigh 23 = .ok (.iload 7, 2) := by decide +kernel
theorem dX5_weigh_25 : decode cX5_weigh 25 = .ok (.iconst 3, 1) := by decide +kernel
theorem dX5_weigh_26 : decode cX5_weigh 26 = .ok (.imul, 1) := by decide +kernel
theorem dX5_weigh_27 : decode cX5_weigh 27 = .ok (.iload_n 3, 1) := by decide +kernel
theorem dX5_weigh_28 : decode cX5_weigh 28 = .ok (.iconst 3, 1) := by decide +kernel
theorem dX5_weigh_29 : decode cX5_weigh 29 = .ok (.irem, 1) := by decide +kernel
theorem dX5_weigh_30 : decode cX5_weigh 30 = .ok (.iadd, 1) := by decide +kernel
theorem dX5_weigh_31 : decode cX5_weigh 31 = .ok (.istore 8, 2) := by decide +kernel
theorem dX5_weigh_33 : decode cX5_weigh 33 = .ok (.iload_n 3, 1) := by decide +kernel
theorem dX5_weigh_34 : decode cX5_weigh 34 = .ok (.iconst 3, 1) := by decide +kernel
theorem dX5_weigh_35 : decode cX5_weigh 35 = .ok (.idiv, 1) := by decide +kernel
theorem dX5_weigh_36 : decode cX5_weigh 36 = .ok (.istore_n 3, 1) := by decide +kernel
theorem dX5_weigh_37 : decode cX5_weigh 37 = .ok (.aload_n 0, 1) := by decide +kernel
theorem dX5_weigh_38 : decode cX5_weigh 38 = .ok (.getfield 15, 3) := by decide +kernel
theorem dX5_weigh_41 : decode cX5_weigh 41 = .ok (.iload 8, 2) := by decide +kernel
theorem dX5_weigh_43 : decode cX5_weigh 43 = .ok (.iaload, 1) := by decide +kernel
theorem dX5_weigh_44 : decode cX5_weigh 44 = .ok (.bipush 20, 2) := by decide +kernel
theorem dX5_weigh_46 : decode cX5_weigh 46 = .ok (.if_icmp .le 4, 3) := by decide +kernel
theorem dX5_weigh_49 : decode cX5_weigh 49 = .ok (.return_, 1) := by decide +kernel
theorem dX5_weigh_50 : decode cX5_weigh 50 = .ok (.iload 4, 2) := by decide +kernel
theorem dX5_weigh_52 : decode cX5_weigh 52 = .ok (.aload_n 0, 1) := by decide +kernel
theorem dX5_weigh_53 : decode cX5_weigh 53 = .ok (.getfield 15, 3) := by decide +kernel
theorem dX5_weigh_56 : decode cX5_weigh 56 = .ok (.iload 8, 2) := by decide +kernel
theorem dX5_weigh_58 : decode cX5_weigh 58 = .ok (.iaload, 1) := by decide +kernel
theorem dX5_weigh_59 : decode cX5_weigh 59 = .ok (.iadd, 1) := by decide +kernel
theorem dX5_weigh_60 : decode cX5_weigh 60 = .ok (.istore 4, 2) := by decide +kernel
theorem dX5_weigh_62 : decode cX5_weigh 62 = .ok (.iload 5, 2) := by decide +kernel
theorem dX5_weigh_64 : decode cX5_weigh 64 = .ok (.aload_n 0, 1) := by decide +kernel
theorem dX5_weigh_65 : decode cX5_weigh 65 = .ok (.getfield 18, 3) := by decide +kernel
theorem dX5_weigh_68 : decode cX5_weigh 68 = .ok (.iload 8, 2) := by decide +kernel
theorem dX5_weigh_70 : decode cX5_weigh 70 = .ok (.iaload, 1) := by decide +kernel
theorem dX5_weigh_71 : decode cX5_weigh 71 = .ok (.iadd, 1) := by decide +kernel
theorem dX5_weigh_72 : decode cX5_weigh 72 = .ok (.istore 5, 2) := by decide +kernel
theorem dX5_weigh_74 : decode cX5_weigh 74 = .ok (.iload 6, 2) := by decide +kernel
theorem dX5_weigh_76 : decode cX5_weigh 76 = .ok (.aload_n 0, 1) := by decide +kernel
theorem dX5_weigh_77 : decode cX5_weigh 77 = .ok (.getfield 15, 3) := by decide +kernel
theorem dX5_weigh_80 : decode cX5_weigh 80 = .ok (.iload 8, 2) := by decide +kernel
theorem dX5_weigh_82 : decode cX5_weigh 82 = .ok (.iaload, 1) := by decide +kernel
theorem dX5_weigh_83 : decode cX5_weigh 83 = .ok (.ifCond .le 15, 3) := by decide +kernel
theorem dX5_weigh_86 : decode cX5_weigh 86 = .ok (.iconst 1, 1) := by decide +kernel
theorem dX5_weigh_87 : decode cX5_weigh 87 = .ok (.aload_n 0, 1) := by decide +kernel
theorem dX5_weigh_88 : decode cX5_weigh 88 = .ok (.getfield 9, 3) := by decide +kernel
theorem dX5_weigh_91 : decode cX5_weigh 91 = .ok (.iload 7, 2) := by decide +kernel
theorem dX5_weigh_93 : decode cX5_weigh 93 = .ok (.iaload, 1) := by decide +kernel
theorem dX5_weigh_94 : decode cX5_weigh 94 = .ok (.ishl, 1) := by decide +kernel
theorem dX5_weigh_95 : decode cX5_weigh 95 = .ok (.goto 4, 3) := by decide +kernel
theorem dX5_weigh_98 : decode cX5_weigh 98 = .ok (.iconst 0, 1) := by decide +kernel
theorem dX5_weigh_99 : decode cX5_weigh 99 = .ok (.ior, 1) := by decide +kernel
theorem dX5_weigh_100 : decode cX5_weigh 100 = .ok (.istore 6, 2) := by decide +kernel
theorem dX5_weigh_102 : decode cX5_weigh 102 = .ok (.iinc 7 1, 3) := by decide +kernel
theorem dX5_weigh_105 : decode cX5_weigh 105 = .ok (.goto (-91), 3) := by decide +kernel
theorem dX5_weigh_108 : decode cX5_weigh 108 = .ok (.aload_n 0, 1) := by decide +kernel
theorem dX5_weigh_109 : decode cX5_weigh 109 = .ok (.getfield 51, 3) := by decide +kernel
theorem dX5_weigh_112 : decode cX5_weigh 112 = .ok (.ldc 50, 2) := by decide +kernel
theorem dX5_weigh_114 : decode cX5_weigh 114 = .ok (.if_icmp .eq 30, 3) := by decide +kernel
theorem dX5_weigh_117 : decode cX5_weigh 117 = .ok (.iload 4, 2) := by decide +kernel
theorem dX5_weigh_119 : decode cX5_weigh 119 = .ok (.aload_n 0, 1) := by decide +kernel
theorem dX5_weigh_120 : decode cX5_weigh 120 = .ok (.getfield 51, 3) := by decide +kernel
theorem dX5_weigh_123 : decode cX5_weigh 123 = .ok (.if_icmp .lt 21, 3) := by decide +kernel
theorem dX5_weigh_126 : decode cX5_weigh 126 = .ok (.iload 4, 2) := by decide +kernel
theorem dX5_weigh_128 : decode cX5_weigh 128 = .ok (.aload_n 0, 1) := by decide +kernel
theorem dX5_weigh_129 : decode cX5_weigh 129 = .ok (.getfield 51, 3) := by decide +kernel
theorem dX5_weigh_132 : decode cX5_weigh 132 = .ok (.if_icmp .ne 16, 3) := by decide +kernel
theorem dX5_weigh_135 : decode cX5_weigh 135 = .ok (.iload 6, 2) := by decide +kernel
theorem dX5_weigh_137 : decode cX5_weigh 137 = .ok (.aload_n 0, 1) := by decide +kernel
theorem dX5_weigh_138 : decode cX5_weigh 138 = .ok (.getfield 54, 3) := by decide +kernel
theorem dX5_weigh_141 : decode cX5_weigh 141 = .ok (.if_icmp .ge 7, 3) := by decide +kernel
theorem dX5_weigh_144 : decode cX5_weigh 144 = .ok (.iconst 1, 1) := by decide +kernel
theorem dX5_weigh_145 : decode cX5_weigh 145 = .ok (.goto 4, 3) := by decide +kernel
theorem dX5_weigh_148 : decode cX5_weigh 148 = .ok (.iconst 0, 1) := by decide +kernel
theorem dX5_weigh_149 : decode cX5_weigh 149 = .ok (.istore 7, 2) := by decide +kernel
theorem dX5_weigh_151 : decode cX5_weigh 151 = .ok (.iload 5, 2) := by decide +kernel
theorem dX5_weigh_153 : decode cX5_weigh 153 = .ok (.iload_n 2, 1) := by decide +kernel
theorem dX5_weigh_154 : decode cX5_weigh 154 = .ok (.if_icmp .lt 27, 3) := by decide +kernel
theorem dX5_weigh_157 : decode cX5_weigh 157 = .ok (.iload 4, 2) := by decide +kernel
theorem dX5_weigh_159 : decode cX5_weigh 159 = .ok (.bipush 40, 2) := by decide +kernel
theorem dX5_weigh_161 : decode cX5_weigh 161 = .ok (.if_icmp .gt 20, 3) := by decide +kernel
theorem dX5_weigh_164 : decode cX5_weigh 164 = .ok (.iload 7, 2) := by decide +kernel
theorem dX5_weigh_166 : decode cX5_weigh 166 = .ok (.ifCond .eq 15, 3) := by decide +kernel
theorem dX5_weigh_169 : decode cX5_weigh 169 = .ok (.aload_n 0, 1) := by decide +kernel
theorem dX5_weigh_170 : decode cX5_weigh 170 = .ok (.iload 4, 2) := by decide +kernel
theorem dX5_weigh_172 : decode cX5_weigh 172 = .ok (.putfield 51, 3) := by decide +kernel
theorem dX5_weigh_175 : decode cX5_weigh 175 = .ok (.aload_n 0, 1) := by decide +kernel
theorem dX5_weigh_176 : decode cX5_weigh 176 = .ok (.iload 6, 2) := by decide +kernel
theorem dX5_weigh_178 : decode cX5_weigh 178 = .ok (.putfield 54, 3) := by decide +kernel
theorem dX5_weigh_181 : decode cX5_weigh 181 = .ok (.return_, 1) := by decide +kernel
theorem dX6_init_0 : decode cX6_init 0 = .ok (.aload_n 0, 1) := by decide +kernel
theorem dX6_init_1 : decode cX6_init 1 = .ok (.invokespecial 3, 3) := by decide +kernel
theorem dX6_init_4 : decode cX6_init 4 = .ok (.aload_n 0, 1) := by decide +kernel
theorem dX6_init_5 : decode cX6_init 5 = .ok (.bipush 6, 2) := by decide +kernel
theorem dX6_init_7 : decode cX6_init 7 = .ok (.newarray .int, 2) := by decide +kernel
theorem dX6_init_9 : decode cX6_init 9 = .ok (.putfield 9, 3) := by decide +kernel
theorem dX6_init_12 : decode cX6_init 12 = .ok (.aload_n 0, 1) := by decide +kernel
theorem dX6_init_13 : decode cX6_init 13 = .ok (.bipush 6, 2) := by decide +kernel
theorem dX6_init_15 : decode cX6_init 15 = .ok (.newarray .int, 2) := by decide +kernel
theorem dX6_init_17 : decode cX6_init 17 = .ok (.putfield 15, 3) := by decide +kernel
theorem dX6_init_20 : decode cX6_init 20 = .ok (.aload_n 0, 1) := by decide +kernel
theorem dX6_init_21 : decode cX6_init 21 = .ok (.bipush 6, 2) := by decide +kernel
theorem dX6_init_23 : decode cX6_init 23 = .ok (.newarray .int, 2) := by decide +kernel
theorem dX6_init_25 : decode cX6_init 25 = .ok (.putfield 18, 3) := by decide +kernel
theorem dX6_init_28 : decode cX6_init 28 = .ok (.aload_n 0, 1) := by decide +kernel
theorem dX6_init_29 : decode cX6_init 29 = .ok (.bipush 6, 2) := by decide +kernel
theorem dX6_init_31 : decode cX6_init 31 = .ok (.newarray .int, 2) := by decide +kernel
theorem dX6_init_33 : decode cX6_init 33 = .ok (.putfield 21, 3) := by decide +kernel
theorem dX6_init_36 : decode cX6_init 36 = .ok (.aload_n 0, 1) := by decide +kernel
theorem dX6_init_37 : decode cX6_init 37 = .ok (.bipush 6, 2) := by decide +kernel
theorem dX6_init_39 : decode cX6_init 39 = .ok (.newarray .int, 2) := by decide +kernel
theorem dX6_init_41 : decode cX6_init 41 = .ok (.putfield 24, 3) := by decide +kernel
theorem dX6_init_44 : decode cX6_init 44 = .ok (.aload_n 0, 1) := by decide +kernel
theorem dX6_init_45 : decode cX6_init 45 = .ok (.bipush 6, 2) := by decide +kernel
theorem dX6_init_47 : decode cX6_init 47 = .ok (.newarray .int, 2) := by decide +kernel
theorem dX6_init_49 : decode cX6_init 49 = .ok (.putfield 27, 3) := by decide +kernel
theorem dX6_init_52 : decode cX6_init 52 = .ok (.aload_n 0, 1) := by decide +kernel
theorem dX6_init_53 : decode cX6_init 53 = .ok (.bipush 6, 2) := by decide +kernel
theorem dX6_init_55 : decode cX6_init 55 = .ok (.newarray .int, 2) := by decide +kernel
theorem dX6_init_57 : decode cX6_init 57 = .ok (.putfield 30, 3) := by decide +kernel
theorem dX6_init_60 : decode cX6_init 60 = .ok (.aload_n 0, 1) := by decide +kernel
theorem dX6_init_61 : decode cX6_init 61 = .ok (.bipush 6, 2) := by decide +kernel
theorem dX6_init_63 : decode cX6_init 63 = .ok (.newarray .int, 2) := by decide +kernel
theorem dX6_init_65 : decode cX6_init 65 = .ok (.putfield 33, 3) := by decide +kernel
theorem dX6_init_68 : decode cX6_init 68 = .ok (.aload_n 0, 1) := by decide +kernel
theorem dX6_init_69 : decode cX6_init 69 = .ok (.bipush 36, 2) := by decide +kernel
theorem dX6_init_71 : decode cX6_init 71 = .ok (.newarray .int, 2) := by decide +kernel
theorem dX6_init_73 : decode cX6_init 73 = .ok (.putfield 36, 3) := by decide +kernel
theorem dX6_init_76 : decode cX6_init 76 = .ok (.aload_n 0, 1) := by decide +kernel
theorem dX6_init_77 : decode cX6_init 77 = .ok (.bipush 36, 2) := by decide +kernel
theorem dX6_init_79 : decode cX6_init 79 = .ok (.newarray .int, 2) := by decide +kernel
theorem dX6_init_81 : decode cX6_init 81 = .ok (.putfield 39, 3) := by decide +kernel
theorem dX6_init_84 : decode cX6_init 84 = .ok (.return_, 1) := by decide +kernel
theorem dX6_cellOf_0 : decode cX6_cellOf 0 = .ok (.iload_n 0, 1) := by decide +kernel
theorem dX6_cellOf_1 : decode cX6_cellOf 1 = .ok (.bipush 6, 2) := by decide +kernel
theorem dX6_cellOf_3 : decode cX6_cellOf 3 = .ok (.imul, 1) := by decide +kernel
theorem dX6_cellOf_4 : decode cX6_cellOf 4 = .ok (.iload_n 1, 1) := by decide +kernel
theorem dX6_cellOf_5 : decode cX6_cellOf 5 = .ok (.iadd, 1) := by decide +kernel
theorem dX6_cellOf_6 : decode cX6_cellOf 6 = .ok (.ireturn, 1) := by decide +kernel
theorem dX6_become_0 : decode cX6_become 0 = .ok (.aload_n 0, 1) := by decide +kernel
theorem dX6_become_1 : decode cX6_become 1 = .ok (.aload_n 1, 1) := by decide +kernel
theorem dX6_become_2 : decode cX6_become 2 = .ok (.getfield 42, 3) := by decide +kernel
theorem dX6_become_5 : decode cX6_become 5 = .ok (.putfield 42, 3) := by decide +kernel
theorem dX6_become_8 : decode cX6_become 8 = .ok (.aload_n 0, 1) := by decide +kernel
theorem dX6_become_9 : decode cX6_become 9 = .ok (.aload_n 1, 1) := by decide +kernel
theorem dX6_become_10 : decode cX6_become 10 = .ok (.getfield 46, 3) := by decide +kernel
theorem dX6_become_13 : decode cX6_become 13 = .ok (.putfield 46, 3) := by decide +kernel
theorem dX6_become_16 : decode cX6_become 16 = .ok (.aload_n 0, 1) := by decide +kernel
theorem dX6_become_17 : decode cX6_become 17 = .ok (.aload_n 1, 1) := by decide +kernel
theorem dX6_become_18 : decode cX6_become 18 = .ok (.getfield 49, 3) := by decide +kernel
theorem dX6_become_21 : decode cX6_become 21 = .ok (.putfield 49, 3) := by decide +kernel
theorem dX6_become_24 : decode cX6_become 24 = .ok (.aload_n 0, 1) := by decide +kernel
theorem dX6_become_25 : decode cX6_become 25 = .ok (.aload_n 1, 1) := by decide +kernel
theorem dX6_become_26 : decode cX6_become 26 = .ok (.getfield 52, 3) := by decide +kernel
theorem dX6_become_29 : decode cX6_become 29 = .ok (.putfield 52, 3) := by decide +kernel
theorem dX6_become_32 : decode cX6_become 32 = .ok (.aload_n 0, 1) := by decide +kernel
theorem dX6_become_33 : decode cX6_become 33 = .ok (.aload_n 1, 1) := by decide +kernel
theorem dX6_become_34 : decode cX6_become 34 = .ok (.getfield 55, 3) := by decide +kernel
theorem dX6_become_37 : decode cX6_become 37 = .ok (.putfield 55, 3) := by decide +kernel
theorem dX6_become_40 : decode cX6_become 40 = .ok (.aload_n 0, 1) := by decide +kernel
theorem dX6_become_41 : decode cX6_become 41 = .ok (.aload_n 1, 1) := by decide +kernel
theorem dX6_become_42 : decode cX6_become 42 = .ok (.getfield 58, 3) := by decide +kernel
theorem dX6_become_45 : decode cX6_become 45 = .ok (.putfield 58, 3) := by decide +kernel
theorem dX6_become_48 : decode cX6_become 48 = .ok (.aload_n 1, 1) := by decide +kernel
theorem dX6_become_49 : decode cX6_become 49 = .ok (.getfield 9, 3) := by decide +kernel
theorem dX6_become_52 : decode cX6_become 52 = .ok (.iconst 0, 1) := by decide +kernel
theorem dX6_become_53 : decode cX6_become 53 = .ok (.aload_n 0, 1) := by decide +kernel
theorem dX6_become_54 : decode cX6_become 54 = .ok (.getfield 9, 3) := by decide +kernel
theorem dX6_become_57 : decode cX6_become 57 = .ok (.iconst 0, 1) := by decide +kernel
theorem dX6_become_58 : decode cX6_become 58 = .ok (.bipush 6, 2) := by decide +kernel
theorem dX6_become_60 : decode cX6_become 60 = .ok (.invokestatic 61, 3) := by decide +kernel
theorem dX6_become_63 : decode cX6_become 63 = .ok (.aload_n 1, 1) := by decide +kernel
theorem dX6_become_64 : decode cX6_become 64 = .ok (.getfield 15, 3) := by decide +kernel
theorem dX6_become_67 : decode cX6_become 67 = .ok (.iconst 0, 1) := by decide +kernel
theorem dX6_become_68 : decode cX6_become 68 = .ok (.aload_n 0, 1) := by decide +kernel
theorem dX6_become_69 : decode cX6_become 69 = .ok (.getfield 15, 3) := by decide +kernel
theorem dX6_become_72 : decode cX6_become 72 = .ok (.iconst 0, 1) := by decide +kernel
theorem dX6_become_73 : decode cX6_become 73 = .ok (.bipush 6, 2) := by decide +kernel
theorem dX6_become_75 : decode cX6_become 75 = .ok (.invokestatic 61, 3) := by decide +kernel
theorem dX6_become_78 : decode cX6_become 78 = .ok (.aload_n 1, 1) := by decide +kernel
theorem dX6_become_79 : decode cX6_become 79 = .ok (.getfield 18, 3) := by decide +kernel
theorem dX6_become_82 : decode cX6_become 82 = .ok (.iconst 0, 1) := by decide +kernel
theorem dX6_become_83 : decode cX6_become 83 = .ok (.aload_n 0, 1) := by decide +kernel
theorem dX6_become_84 : decode cX6_become 84 = .ok (.getfield 18, 3) := by decide +kernel
theorem dX6_become_87 : decode cX6_become 87 = .ok (.iconst 0, 1) := by decide +kernel
theorem dX6_become_88 : decode cX6_become 88 = .ok (.bipush 6, 2) := by decide +kernel
theorem dX6_become_90 : decode cX6_become 90 = .ok (.invokestatic 61, 3) := by decide +kernel
theorem dX6_become_93 : decode cX6_become 93 = .ok (.aload_n 1, 1) := by decide +kernel
theorem dX6_become_94 : decode cX6_become 94 = .ok (.getfield 21, 3) := by decide +kernel
theorem dX6_become_97 : decode cX6_become 97 = .ok (.iconst 0, 1) := by decide +kernel
theorem dX6_become_98 : decode cX6_become 98 = .ok (.aload_n 0, 1) := by decide +kernel
theorem dX6_become_99 : decode cX6_become 99 = .ok (.getfield 21, 3) := by decide +kernel
theorem dX6_become_102 : decode cX6_become 102 = .ok (.iconst 0, 1) := by decide +kernel
theorem dX6_become_103 : decode cX6_become 103 = .ok (.bipush 6, 2) := by decide +kernel
theorem dX6_become_105 : decode cX6_become 105 = .ok (.invokestatic 61, 3) := by decide +kernel
theorem dX6_become_108 : decode cX6_become 108 = .ok (.aload_n 1, 1) := by decide +kernel
theorem dX6_become_109 : decode cX6_become 109 = .ok (.getfield 24, 3) := by decide +kernel
theorem dX6_become_112 : decode cX6_become 112 = .ok (.iconst 0, 1) := by decide +kernel
theorem dX6_become_113 : decode cX6_become 113 = .ok (.aload_n 0, 1) := by decide +kernel
theorem dX6_become_114 : decode cX6_become 114 = .ok (.getfield 24, 3) := by decide +kernel
theorem dX6_become_117 : decode cX6_become 117 = .ok (.iconst 0, 1) := by decide +kernel
theorem dX6_become_118 : decode cX6_become 118 = .ok (.bipush 6, 2) := by decide +kernel
theorem dX6_become_120 : decode cX6_become 120 = .ok (.invokestatic 61, 3) := by decide +kernel
theorem dX6_become_123 : decode cX6_become 123 = .ok (.aload_n 1, 1) := by decide +kernel
theorem dX6_become_124 : decode cX6_become 124 = .ok (.getfield 27, 3) := by decide +kernel
theorem dX6_become_127 : decode cX6_become 127 = .ok (.iconst 0, 1) := by decide +kernel
theorem dX6_become_128 : decode cX6_become 128 = .ok (.aload_n 0, 1) := by decide +kernel
theorem dX6_become_129 : decode cX6_become 129 = .ok (.getfield 27, 3) := by decide +kernel
theorem dX6_become_132 : decode cX6_become 132 = .ok (.iconst 0, 1) := by decide +kernel
theorem dX6_become_133 : decode cX6_become 133 = .ok (.bipush 6, 2) := by decide +kernel
theorem dX6_become_135 : decode cX6_become 135 = .ok (.invokestatic 61, 3) := by decide +kernel
theorem dX6_become_138 : decode cX6_become 138 = .ok (.aload_n 1, 1) := by decide +kernel
theorem dX6_become_139 : decode cX6_become 139 = .ok (.getfield 30, 3) := by decide +kernel
theorem dX6_become_142 : decode cX6_become 142 = .ok (.iconst 0, 1) := by decide +kernel
theorem dX6_become_143 : decode cX6_become 143 = .ok (.aload_n 0, 1) := by decide +kernel
theorem dX6_become_144 : decode cX6_become 144 = .ok (.getfield 30, 3) := by decide +kernel
theorem dX6_become_147 : decode cX6_become 147 = .ok (.iconst 0, 1) := by decide +kernel
theorem dX6_become_148 : decode cX6_become 148 = .ok (.bipush 6, 2) := by decide +kernel
theorem dX6_become_150 : decode cX6_become 150 = .ok (.invokestatic 61, 3) := by decide +kernel
theorem dX6_become_153 : decode cX6_become 153 = .ok (.aload_n 1, 1) := by decide +kernel
theorem dX6_become_154 : decode cX6_become 154 = .ok (.getfield 33, 3) := by decide +kernel
theorem dX6_become_157 : decode cX6_become 157 = .ok (.iconst 0, 1) := by decide +kernel
theorem dX6_become_158 : decode cX6_become 158 = .ok (.aload_n 0, 1) := by decide +kernel
theorem dX6_become_159 : decode cX6_become 159 = .ok (.getfield 33, 3) := by decide +kernel
theorem dX6_become_162 : decode cX6_become 162 = .ok (.iconst 0, 1) := by decide +kernel
theorem dX6_become_163 : decode cX6_become 163 = .ok (.bipush 6, 2) := by decide +kernel
theorem dX6_become_165 : decode cX6_become 165 = .ok (.invokestatic 61, 3) := by decide +kernel
theorem dX6_become_168 : decode cX6_become 168 = .ok (.aload_n 1, 1) := by decide +kernel
theorem dX6_become_169 : decode cX6_become 169 = .ok (.getfield 36, 3) := by decide +kernel
theorem dX6_become_172 : decode cX6_become 172 = .ok (.iconst 0, 1) := by decide +kernel
theorem dX6_become_173 : decode cX6_become 173 = .ok (.aload_n 0, 1) := by decide +kernel
theorem dX6_become_174 : decode cX6_become 174 = .ok (.getfield 36, 3) := by decide +kernel
theorem dX6_become_177 : decode cX6_become 177 = .ok (.iconst 0, 1) := by decide +kernel
theorem dX6_become_178 : decode cX6_become 178 = .ok (.bipush 36, 2) := by decide +kernel
theorem dX6_become_180 : decode cX6_become 180 = .ok (.invokestatic 61, 3) := by decide +kernel
theorem dX6_become_183 : decode cX6_become 183 = .ok (.aload_n 1, 1) := by decide +kernel
theorem dX6_become_184 : decode cX6_become 184 = .ok (.getfield 39, 3) := by decide +kernel
theorem dX6_become_187 : decode cX6_become 187 = .ok (.iconst 0, 1) := by decide +kernel
theorem dX6_become_188 : decode cX6_become 188 = .ok (.aload_n 0, 1) := by decide +kernel
theorem dX6_become_189 : decode cX6_become 189 = .ok (.getfield 39, 3) := by decide +kernel
theorem dX6_become_192 : decode cX6_become 192 = .ok (.iconst 0, 1) := by decide +kernel
theorem dX6_become_193 : decode cX6_become 193 = .ok (.bipush 36, 2) := by decide +kernel
theorem dX6_become_195 : decode cX6_become 195 = .ok (.invokestatic 61, 3) := by decide +kernel
theorem dX6_become_198 : decode cX6_become 198 = .ok (.return_, 1) := by decide +kernel
theorem dX6_begin_0 : decode cX6_begin 0 = .ok (.aload_n 0, 1) := by decide +kernel
theorem dX6_begin_1 : decode cX6_begin 1 = .ok (.iload_n 1, 1) := by decide +kernel
theorem dX6_begin_2 : decode cX6_begin 2 = .ok (.putfield 42, 3) := by decide +kernel
theorem dX6_begin_5 : decode cX6_begin 5 = .ok (.aload_n 0, 1) := by decide +kernel
theorem dX6_begin_6 : decode cX6_begin 6 = .ok (.iload_n 2, 1) := by decide +kernel
theorem dX6_begin_7 : decode cX6_begin 7 = .ok (.putfield 46, 3) := by decide +kernel
theorem dX6_begin_10 : decode cX6_begin 10 = .ok (.aload_n 0, 1) := by decide +kernel
theorem dX6_begin_11 : decode cX6_begin 11 = .ok (.iconst 0, 1) := by decide +kernel
theorem dX6_begin_12 : decode cX6_begin 12 = .ok (.putfield 49, 3) := by decide +kernel
theorem dX6_begin_15 : decode cX6_begin 15 = .ok (.aload_n 0, 1) := by decide +kernel
theorem dX6_begin_16 : decode cX6_begin 16 = .ok (.iconst 0, 1) := by decide +kernel
theorem dX6_begin_17 : decode cX6_begin 17 = .ok (.putfield 52, 3) := by decide +kernel
theorem dX6_begin_20 : decode cX6_begin 20 = .ok (.aload_n 0, 1) := by decide +kernel
theorem dX6_begin_21 : decode cX6_begin 21 = .ok (.iconst 0, 1) := by decide +kernel
theorem dX6_begin_22 : decode cX6_begin 22 = .ok (.putfield 55, 3) := by decide +kernel
theorem dX6_begin_25 : decode cX6_begin 25 = .ok (.aload_n 0, 1) := by decide +kernel
theorem dX6_begin_26 : decode cX6_begin 26 = .ok (.iconst 0, 1) := by decide +kernel
theorem dX6_begin_27 : decode cX6_begin 27 = .ok (.putfield 58, 3) := by decide +kernel
theorem dX6_begin_30 : decode cX6_begin 30 = .ok (.return_, 1) := by decide +kernel
theorem dX6_addDoor_0 : decode cX6_addDoor 0 = .ok (.aload_n 0, 1) := by decide +kernel
theorem dX6_addDoor_1 : decode cX6_addDoor 1 = .ok (.getfield 9, 3) := by decide +kernel
theorem dX6_addDoor_4 : decode cX6_addDoor 4 = .ok (.aload_n 0, 1) := by decide +kernel
theorem dX6_addDoor_5 : decode cX6_addDoor 5 = .ok (.getfield 49, 3) := by decide +kernel
theorem dX6_addDoor_8 : decode cX6_addDoor 8 = .ok (.iload_n 1, 1) := by decide +kernel
theorem dX6_addDoor_9 : decode cX6_addDoor 9 = .ok (.iastore, 1) := by decide +kernel
theorem dX6_addDoor_10 : decode cX6_addDoor 10 = .ok (.aload_n 0, 1) := by decide +kernel
theorem dX6_addDoor_11 : decode cX6_addDoor 11 = .ok (.getfield 15, 3) := by decide +kernel
theorem dX6_addDoor_14 : decode cX6_addDoor 14 = .ok (.aload_n 0, 1) := by decide +kernel
theorem dX6_addDoor_15 : decode cX6_addDoor 15 = .ok (.getfield 49, 3) := by decide +kernel
theorem dX6_addDoor_18 : decode cX6_addDoor 18 = .ok (.iload_n 2, 1) := by decide +kernel
theorem dX6_addDoor_19 : decode cX6_addDoor 19 = .ok (.iastore, 1) := by decide +kernel
theorem dX6_addDoor_20 : decode cX6_addDoor 20 = .ok (.iconst 0, 1) := by decide +kernel
theorem dX6_addDoor_21 : decode cX6_addDoor 21 = .ok (.istore_n 3, 1) := by decide +kernel
theorem dX6_addDoor_22 : decode cX6_addDoor 22 = .ok (.iload_n 3, 1) := by decide +kernel
theorem dX6_addDoor_23 : decode cX6_addDoor 23 = .ok (.bipush 6, 2) := by decide +kernel
theorem dX6_addDoor_25 : decode cX6_addDoor 25 = .ok (.if_icmp .ge 38, 3) := by decide +kernel
theorem dX6_addDoor_28 : decode cX6_addDoor 28 = .ok (.aload_n 0, 1) := by decide +kernel
theorem dX6_addDoor_29 : decode cX6_addDoor 29 = .ok (.getfield 36, 3) := by decide +kernel
theorem dX6_addDoor_32 : decode cX6_addDoor 32 = .ok (.iload_n 3, 1) := by decide +kernel
theorem dX6_addDoor_33 : decode cX6_addDoor 33 = .ok (.aload_n 0, 1) := by decide +kernel
theorem dX6_addDoor_34 : decode cX6_addDoor 34 = .ok (.getfield 49, 3) := by decide +kernel
theorem dX6_addDoor_37 : decode cX6_addDoor 37 = .ok (.invokestatic 67, 3) := by decide +kernel
theorem dX6_addDoor_40 : decode cX6_addDoor 40 = .ok (.iconst 0, 1) := by decide +kernel
theorem dX6_addDoor_41 : decode cX6_addDoor 41 = .ok (.iastore, 1) := by decide +kernel
theorem dX6_addDoor_42 : decode cX6_addDoor 42 = .ok (.aload_n 0, 1) := by decide +kernel
theorem dX6_addDoor_43 : decode cX6_addDoor 43 = .ok (.getfield 39, 3) := by decide +kernel
theorem dX6_addDoor_46 : decode cX6_addDoor 46 = .ok (.iload_n 3, 1) := by decide +kernel
theorem dX6_addDoor_47 : decode cX6_addDoor 47 = .ok (.aload_n 0, 1) := by decide +kernel
theorem dX6_addDoor_48 : decode cX6_addDoor 48 = .ok (.getfield 49, 3) := by decide +kernel
theorem dX6_addDoor_51 : decode cX6_addDoor 51 = .ok (.invokestatic 67, 3) := by decide +kernel
theorem dX6_addDoor_54 : decode cX6_addDoor 54 = .ok (.ldc 71, 2) := by decide +kernel
theorem dX6_addDoor_56 : decode cX6_addDoor 56 = .ok (.iastore, 1) := by decide +kernel
theorem dX6_addDoor_57 : decode cX6_addDoor 57 = .ok (.iinc 3 1, 3) := by decide +kernel
theorem dX6_addDoor_60 : decode cX6_addDoor 60 = .ok (.goto (-38), 3) := by decide +kernel
theorem dX6_addDoor_63 : decode cX6_addDoor 63 = .ok (.aload_n 0, 1) := by decide +kernel
theorem dX6_addDoor_64 : decode cX6_addDoor 64 = .ok (.dup, 1) := by decide +kernel
theorem dX6_addDoor_65 : decode cX6_addDoor 65 = .ok (.getfield 49, 3) := by decide +kernel
theorem dX6_addDoor_68 : decode cX6_addDoor 68 = .ok (.iconst 1, 1) := by decide +kernel
theorem dX6_addDoor_69 : decode cX6_addDoor 69 = .ok (.iadd, 1) := by decide +kernel
theorem dX6_addDoor_70 : decode cX6_addDoor 70 = .ok (.putfield 49, 3) := by decide +kernel
theorem dX6_addDoor_73 : decode cX6_addDoor 73 = .ok (.return_, 1) := by decide +kernel
theorem dX6_addPerson_0 : decode cX6_addPerson 0 = .ok (.aload_n 0, 1) := by decide +kernel
theorem dX6_addPerson_1 : decode cX6_addPerson 1 = .ok (.getfield 18, 3) := by decide +kernel
theorem dX6_addPerson_4 : decode cX6_addPerson 4 = .ok (.aload_n 0, 1) := by decide +kernel
theorem dX6_addPerson_5 : decode cX6_addPerson 5 = .ok (.getfield 52, 3) := by decide +kernel
theorem dX6_addPerson_8 : decode cX6_addPerson 8 = .ok (.iload_n 1, 1) := by decide +kernel
theorem dX6_addPerson_9 : decode cX6_addPerson 9 = .ok (.iastore, 1) := by decide +kernel
theorem dX6_addPerson_10 : decode cX6_addPerson 10 = .ok (.aload_n 0, 1) := by decide +kernel
theorem dX6_addPerson_11 : decode cX6_addPerson 11 = .ok (.getfield 21, 3) := by decide +kernel
theorem dX6_addPerson_14 : decode cX6_addPerson 14 = .ok (.aload_n 0, 1) := by decide +kernel
theorem dX6_addPerson_15 : decode cX6_addPerson 15 = .ok (.getfield 52, 3) := by decide +kernel
theorem dX6_addPerson_18 : decode cX6_addPerson 18 = .ok (.iload_n 2, 1) := by decide +kernel
theorem dX6_addPerson_19 : decode cX6_addPerson 19 = .ok (.iastore, 1) := by decide +kernel
theorem dX6_addPerson_20 : decode cX6_addPerson 20 = .ok (.aload_n 0, 1) := by decide +kernel
theorem dX6_addPerson_21 : decode cX6_addPerson 21 = .ok (.getfield 24, 3) := by decide +kernel
theorem dX6_addPerson_24 : decode cX6_addPerson 24 = .ok (.aload_n 0, 1) := by decide +kernel
theorem dX6_addPerson_25 : decode cX6_addPerson 25 = .ok (.getfield 52, 3) := by decide +kernel
theorem dX6_addPerson_28 : decode cX6_addPerson 28 = .ok (.iload_n 3, 1) := by decide +kernel
theorem dX6_addPerson_29 : decode cX6_addPerson 29 = .ok (.iastore, 1) := by decide +kernel
theorem dX6_addPerson_30 : decode cX6_addPerson 30 = .ok (.aload_n 0, 1) := by decide +kernel
theorem dX6_addPerson_31 : decode cX6_addPerson 31 = .ok (.getfield 27, 3) := by decide +kernel
theorem dX6_addPerson_34 : decode cX6_addPerson 34 = .ok (.aload_n 0, 1) := by decide +kernel
theorem dX6_addPerson_35 : decode cX6_addPerson 35 = .ok (.getfield 52, 3) := by decide +kernel
theorem dX6_addPerson_38 : decode cX6_addPerson 38 = .ok (.iconst 0, 1) := by decide +kernel
theorem dX6_addPerson_39 : decode cX6_addPerson 39 = .ok (.iastore, 1) := by decide +kernel
theorem dX6_addPerson_40 : decode cX6_addPerson 40 = .ok (.aload_n 0, 1) := by decide +kernel
theorem dX6_addPerson_41 : decode cX6_addPerson 41 = .ok (.getfield 30, 3) := by decide +kernel
theorem dX6_addPerson_44 : decode cX6_addPerson 44 = .ok (.aload_n 0, 1) := by decide +kernel
theorem dX6_addPerson_45 : decode cX6_addPerson 45 = .ok (.getfield 52, 3) := by decide +kernel
theorem dX6_addPerson_48 : decode cX6_addPerson 48 = .ok (.iconst 0, 1) := by decide +kernel
theorem dX6_addPerson_49 : decode cX6_addPerson 49 = .ok (.iastore, 1) := by decide +kernel
theorem dX6_addPerson_50 : decode cX6_addPerson 50 = .ok (.aload_n 0, 1) := by decide +kernel
theorem dX6_addPerson_51 : decode cX6_addPerson 51 = .ok (.getfield 33, 3) := by decide +kernel
theorem dX6_addPerson_54 : decode cX6_addPerson 54 = .ok (.aload_n 0, 1) := by decide +kernel
theorem dX6_addPerson_55 : decode cX6_addPerson 55 = .ok (.getfield 52, 3) := by decide +kernel
theorem dX6_addPerson_58 : decode cX6_addPerson 58 = .ok (.iconst 0, 1) := by decide +kernel
theorem dX6_addPerson_59 : decode cX6_addPerson 59 = .ok (.iastore, 1) := by decide +kernel
theorem dX6_addPerson_60 : decode cX6_addPerson 60 = .ok (.aload_n 0, 1) := by decide +kernel
theorem dX6_addPerson_61 : decode cX6_addPerson 61 = .ok (.dup, 1) := by decide +kernel
theorem dX6_addPerson_62 : decode cX6_addPerson 62 = .ok (.getfield 52, 3) := by decide +kernel
theorem dX6_addPerson_65 : decode cX6_addPerson 65 = .ok (.iconst 1, 1) := by decide +kernel
theorem dX6_addPerson_66 : decode cX6_addPerson 66 = .ok (.iadd, 1) := by decide +kernel
theorem dX6_addPerson_67 : decode cX6_addPerson 67 = .ok (.putfield 52, 3) := by decide +kernel
theorem dX6_addPerson_70 : decode cX6_addPerson 70 = .ok (.return_, 1) := by decide +kernel
theorem dX6_addTie_0 : decode cX6_addTie 0 = .ok (.aload_n 1, 1) := by decide +kernel
theorem dX6_addTie_1 : decode cX6_addTie 1 = .ok (.iload_n 2, 1) := by decide +kernel
theorem dX6_addTie_2 : decode cX6_addTie 2 = .ok (.dup2, 1) := by decide +kernel
theorem dX6_addTie_3 : decode cX6_addTie 3 = .ok (.iaload, 1) := by decide +kernel
theorem dX6_addTie_4 : decode cX6_addTie 4 = .ok (.iconst 1, 1) := by decide +kernel
theorem dX6_addTie_5 : decode cX6_addTie 5 = .ok (.iload_n 3, 1) := by decide +kernel
theorem dX6_addTie_6 : decode cX6_addTie 6 = .ok (.ishl, 1) := by decide +kernel
theorem dX6_addTie_7 : decode cX6_addTie 7 = .ok (.ior, 1) := by decide +kernel
theorem dX6_addTie_8 : decode cX6_addTie 8 = .ok (.iastore, 1) := by decide +kernel
theorem dX6_addTie_9 : decode cX6_addTie 9 = .ok (.aload_n 1, 1) := by decide +kernel
theorem dX6_addTie_10 : decode cX6_addTie 10 = .ok (.iload_n 3, 1) := by decide +kernel
theorem dX6_addTie_11 : decode cX6_addTie 11 = .ok (.dup2, 1) := by decide +kernel
theorem dX6_addTie_12 : decode cX6_addTie 12 = .ok (.iaload, 1) := by decide +kernel
theorem dX6_addTie_13 : decode cX6_addTie 13 = .ok (.iconst 1, 1) := by decide +kernel
theorem dX6_addTie_14 : decode cX6_addTie 14 = .ok (.iload_n 2, 1) := by decide +kernel
theorem dX6_addTie_15 : decode cX6_addTie 15 = .ok (.ishl, 1) := by decide +kernel
theorem dX6_addTie_16 : decode cX6_addTie 16 = .ok (.ior, 1) := by decide +kernel
theorem dX6_addTie_17 : decode cX6_addTie 17 = .ok (.iastore, 1) := by decide +kernel
theorem dX6_addTie_18 : decode cX6_addTie 18 = .ok (.aload_n 0, 1) := by decide +kernel
theorem dX6_addTie_19 : decode cX6_addTie 19 = .ok (.dup, 1) := by decide +kernel
theorem dX6_addTie_20 : decode cX6_addTie 20 = .ok (.getfield 55, 3) := by decide +kernel
theorem dX6_addTie_23 : decode cX6_addTie 23 = .ok (.iconst 1, 1) := by decide +kernel
theorem dX6_addTie_24 : decode cX6_addTie 24 = .ok (.iadd, 1) := by decide +kernel
theorem dX6_addTie_25 : decode cX6_addTie 25 = .ok (.putfield 55, 3) := by decide +kernel
theorem dX6_addTie_28 : decode cX6_addTie 28 = .ok (.return_, 1) := by decide +kernel
theorem dX6_tiedTo_0 : decode cX6_tiedTo 0 = .ok (.aload_n 0, 1) := by decide +kernel
theorem dX6_tiedTo_1 : decode cX6_tiedTo 1 = .ok (.getfield 30, 3) := by decide +kernel
theorem dX6_tiedTo_4 : decode cX6_tiedTo 4 = .ok (.iload_n 1, 1) := by decide +kernel
theorem dX6_tiedTo_5 : decode cX6_tiedTo 5 = .ok (.iaload, 1) := by decide +kernel
theorem dX6_tiedTo_6 : decode cX6_tiedTo 6 = .ok (.aload_n 0, 1) := by decide +kernel
theorem dX6_tiedTo_7 : decode cX6_tiedTo 7 = .ok (.getfield 33, 3) := by decide +kernel
theorem dX6_tiedTo_10 : decode cX6_tiedTo 10 = .ok (.iload_n 1, 1) := by decide +kernel
theorem dX6_tiedTo_11 : decode cX6_tiedTo 11 = .ok (.iaload, 1) := by decide +kernel
theorem dX6_tiedTo_12 : decode cX6_tiedTo 12 = .ok (.ior, 1) := by decide +kernel
theorem dX6_tiedTo_13 : decode cX6_tiedTo 13 = .ok (.ireturn, 1) := by decide +kernel
theorem dX6_isAtDoor_0 : decode cX6_isAtDoor 0 = .ok (.aload_n 0, 1) := by decide +kernel
theorem dX6_isAtDoor_1 : decode cX6_isAtDoor 1 = .ok (.getfield 9, 3) := by decide +kernel
theorem dX6_isAtDoor_4 : decode cX6_isAtDoor 4 = .ok (.iload_n 2, 1) := by decide +kernel
theorem dX6_isAtDoor_5 : decode cX6_isAtDoor 5 = .ok (.iaload, 1) := by decide +kernel
theorem dX6_isAtDoor_6 : decode cX6_isAtDoor 6 = .ok (.aload_n 0, 1) := by decide +kernel
theorem dX6_isAtDoor_7 : decode cX6_isAtDoor 7 = .ok (.getfield 21, 3) := by decide +kernel
theorem dX6_isAtDoor_10 : decode cX6_isAtDoor 10 = .ok (.iload_n 1, 1) := by decide +kernel
theorem dX6_isAtDoor_11 : decode cX6_isAtDoor 11 = .ok (.iaload, 1) := by decide +kernel
theorem dX6_isAtDoor_12 : decode cX6_isAtDoor 12 = .ok (.if_icmp .eq 18, 3) := by decide +kernel
theorem dX6_isAtDoor_15 : decode cX6_isAtDoor 15 = .ok (.aload_n 0, 1) := by decide +kernel
theorem dX6_isAtDoor_16 : decode cX6_isAtDoor 16 = .ok (.getfield 15, 3) := by decide +kernel
theorem dX6_isAtDoor_19 : decode cX6_isAtDoor 19 = .ok (.iload_n 2, 1) := by decide +kernel
theorem dX6_isAtDoor_20 : decode cX6_isAtDoor 20 = .ok (.iaload, 1) := by decide +kernel
theorem dX6_isAtDoor_21 : decode cX6_isAtDoor 21 = .ok (.aload_n 0, 1) := by decide +kernel
theorem dX6_isAtDoor_22 : decode cX6_isAtDoor 22 = .ok (.getfield 21, 3) := by decide +kernel
theorem dX6_isAtDoor_25 : decode cX6_isAtDoor 25 = .ok (.iload_n 1, 1) := by decide +kernel
theorem dX6_isAtDoor_26 : decode cX6_isAtDoor 26 = .ok (.iaload, 1) := by decide +kernel
theorem dX6_isAtDoor_27 : decode cX6_isAtDoor 27 = .ok (.if_icmp .ne 7, 3) := by decide +kernel
theorem dX6_isAtDoor_30 : decode cX6_isAtDoor 30 = .ok (.iconst 1, 1) := by decide +kernel
theorem dX6_isAtDoor_31 : decode cX6_isAtDoor 31 = .ok (.goto 4, 3) := by decide +kernel
theorem dX6_isAtDoor_34 : decode cX6_isAtDoor 34 = .ok (.iconst 0, 1) := by decide +kernel
theorem dX6_isAtDoor_35 : decode cX6_isAtDoor 35 = .ok (.ireturn, 1) := by decide +kernel
theorem dX6_cross_0 : decode cX6_cross 0 = .ok (.aload_n 0, 1) := by decide +kernel
theorem dX6_cross_1 : decode cX6_cross 1 = .ok (.getfield 21, 3) := by decide +kernel
theorem dX6_cross_4 : decode cX6_cross 4 = .ok (.iload_n 1, 1) := by decide +kernel
theorem dX6_cross_5 : decode cX6_cross 5 = .ok (.aload_n 0, 1) := by decide +kernel
theorem dX6_cross_6 : decode cX6_cross 6 = .ok (.getfield 21, 3) := by decide +kernel
theorem dX6_cross_9 : decode cX6_cross 9 = .ok (.iload_n 1, 1) := by decide +kernel
theorem dX6_cross_10 : decode cX6_cross 10 = .ok (.iaload, 1) := by decide +kernel
theorem dX6_cross_11 : decode cX6_cross 11 = .ok (.aload_n 0, 1) := by decide +kernel
theorem dX6_cross_12 : decode cX6_cross 12 = .ok (.getfield 9, 3) := by decide +kernel
theorem dX6_cross_15 : decode cX6_cross 15 = .ok (.iload_n 2, 1) := by decide +kernel
theorem dX6_cross_16 : decode cX6_cross 16 = .ok (.iaload, 1) := by decide +kernel
theorem dX6_cross_17 : decode cX6_cross 17 = .ok (.if_icmp .ne 12, 3) := by decide +kernel
theorem dX6_cross_20 : decode cX6_cross 20 = .ok (.aload_n 0, 1) := by decide +kernel
theorem dX6_cross_21 : decode cX6_cross 21 = .ok (.getfield 15, 3) := by decide +kernel
theorem dX6_cross_24 : decode cX6_cross 24 = .ok (.iload_n 2, 1) := by decide +kernel
theorem dX6_cross_25 : decode cX6_cross 25 = .ok (.iaload, 1) := by decide +kernel
theorem dX6_cross_26 : decode cX6_cross 26 = .ok (.goto 9, 3) := by decide +kernel
theorem dX6_cross_29 : decode cX6_cross 29 = .ok (.aload_n 0, 1) := by decide +kernel
theorem dX6_cross_30 : decode cX6_cross 30 = .ok (.getfield 9, 3) := by decide +kernel
theorem dX6_cross_33 : decode cX6_cross 33 = .ok (.iload_n 2, 1) := by decide +kernel
theorem dX6_cross_34 : decode cX6_cross 34 = .ok (.iaload, 1) := by decide +kernel
theorem dX6_cross_35 : decode cX6_cross 35 = .ok (.iastore, 1) := by decide +kernel
theorem dX6_cross_36 : decode cX6_cross 36 = .ok (.return_, 1) := by decide +kernel
theorem dX6_mark_0 : decode cX6_mark 0 = .ok (.iload_n 1, 1) := by decide +kernel
theorem dX6_mark_1 : decode cX6_mark 1 = .ok (.iload_n 2, 1) := by decide +kernel
theorem dX6_mark_2 : decode cX6_mark 2 = .ok (.invokestatic 67, 3) := by decide +kernel
theorem dX6_mark_5 : decode cX6_mark 5 = .ok (.istore_n 3, 1) := by decide +kernel
theorem dX6_mark_6 : decode cX6_mark 6 = .ok (.aload_n 0, 1) := by decide +kernel
theorem dX6_mark_7 : decode cX6_mark 7 = .ok (.getfield 36, 3) := by decide +kernel
theorem dX6_mark_10 : decode cX6_mark 10 = .ok (.iload_n 3, 1) := by decide +kernel
theorem dX6_mark_11 : decode cX6_mark 11 = .ok (.aload_n 0, 1) := by decide +kernel
theorem dX6_mark_12 : decode cX6_mark 12 = .ok (.getfield 36, 3) := by decide +kernel
theorem dX6_mark_15 : decode cX6_mark 15 = .ok (.iload_n 3, 1) := by decide +kernel
theorem dX6_mark_16 : decode cX6_mark 16 = .ok (.iaload, 1) := by decide +kernel
theorem dX6_mark_17 : decode cX6_mark 17 = .ok (.iconst 1, 1) := by decide +kernel
theorem dX6_mark_18 : decode cX6_mark 18 = .ok (.iadd, 1) := by decide +kernel
theorem dX6_mark_19 : decode cX6_mark 19 = .ok (.bipush 99, 2) := by decide +kernel
theorem dX6_mark_21 : decode cX6_mark 21 = .ok (.invokestatic 72, 3) := by decide +kernel
theorem dX6_mark_24 : decode cX6_mark 24 = .ok (.iastore, 1) := by decide +kernel
theorem dX6_mark_25 : decode cX6_mark 25 = .ok (.aload_n 0, 1) := by decide +kernel
theorem dX6_mark_26 : decode cX6_mark 26 = .ok (.getfield 39, 3) := by decide +kernel
theorem dX6_mark_29 : decode cX6_mark 29 = .ok (.iload_n 3, 1) := by decide +kernel
theorem dX6_mark_30 : decode cX6_mark 30 = .ok (.aload_n 0, 1) := by decide +kernel
theorem dX6_mark_31 : decode cX6_mark 31 = .ok (.getfield 58, 3) := by decide +kernel
theorem dX6_mark_34 : decode cX6_mark 34 = .ok (.iastore, 1) := by decide +kernel
theorem dX6_mark_35 : decode cX6_mark 35 = .ok (.return_, 1) := by decide +kernel
theorem dX6_pass_0 : decode cX6_pass 0 = .ok (.aload_n 0, 1) := by decide +kernel
theorem dX6_pass_1 : decode cX6_pass 1 = .ok (.iload_n 1, 1) := by decide +kernel
theorem dX6_pass_2 : decode cX6_pass 2 = .ok (.iload_n 2, 1) := by decide +kernel
theorem dX6_pass_3 : decode cX6_pass 3 = .ok (.invokevirtual 77, 3) := by decide +kernel
theorem dX6_pass_6 : decode cX6_pass 6 = .ok (.aload_n 0, 1) := by decide +kernel
theorem dX6_pass_7 : decode cX6_pass 7 = .ok (.iload_n 1, 1) := by decide +kernel
theorem dX6_pass_8 : decode cX6_pass 8 = .ok (.iload_n 2, 1) := by decide +kernel
theorem dX6_pass_9 : decode cX6_pass 9 = .ok (.invokevirtual 81, 3) := by decide +kernel
theorem dX6_pass_12 : decode cX6_pass 12 = .ok (.return_, 1) := by decide +kernel
theorem dX6_freshIn_0 : decode cX6_freshIn 0 = .ok (.aload_n 0, 1) := by decide +kernel
theorem dX6_freshIn_1 : decode cX6_freshIn 1 = .ok (.getfield 46, 3) := by decide +kernel
theorem dX6_freshIn_4 : decode cX6_freshIn 4 = .ok (.ifCond .eq 21, 3) := by decide +kernel
theorem dX6_freshIn_7 : decode cX6_freshIn 7 = .ok (.aload_n 0, 1) := by decide +kernel
theorem dX6_freshIn_8 : decode cX6_freshIn 8 = .ok (.getfield 58, 3) := by decide +kernel
theorem dX6_freshIn_11 : decode cX6_freshIn 11 = .ok (.aload_n 0, 1) := by decide +kernel
theorem dX6_freshIn_12 : decode cX6_freshIn 12 = .ok (.getfield 39, 3) := by decide +kernel
theorem dX6_freshIn_15 : decode cX6_freshIn 15 = .ok (.iload_n 1, 1) := by decide +kernel
theorem dX6_freshIn_16 : decode cX6_freshIn 16 = .ok (.iaload, 1) := by decide +kernel
theorem dX6_freshIn_17 : decode cX6_freshIn 17 = .ok (.isub, 1) := by decide +kernel
theorem dX6_freshIn_18 : decode cX6_freshIn 18 = .ok (.aload_n 0, 1) := by decide +kernel
theorem dX6_freshIn_19 : decode cX6_freshIn 19 = .ok (.getfield 46, 3) := by decide +kernel
theorem dX6_freshIn_22 : decode cX6_freshIn 22 = .ok (.if_icmp .gt 7, 3) := by decide +kernel
theorem dX6_freshIn_25 : decode cX6_freshIn 25 = .ok (.iconst 1, 1) := by decide +kernel
theorem dX6_freshIn_26 : decode cX6_freshIn 26 = .ok (.goto 4, 3) := by decide +kernel
theorem dX6_freshIn_29 : decode cX6_freshIn 29 = .ok (.iconst 0, 1) := by decide +kernel
theorem dX6_freshIn_30 : decode cX6_freshIn 30 = .ok (.istore_n 2, 1) := by decide +kernel
theorem dX6_freshIn_31 : decode cX6_freshIn 31 = .ok (.iload_n 2, 1) := by decide +kernel
theorem dX6_freshIn_32 : decode cX6_freshIn 32 = .ok (.ifCond .eq 12, 3) := by decide +kernel
theorem dX6_freshIn_35 : decode cX6_freshIn 35 = .ok (.aload_n 0, 1) := by decide +kernel
theorem dX6_freshIn_36 : decode cX6_freshIn 36 = .ok (.getfield 36, 3) := by decide +kernel
theorem dX6_freshIn_39 : decode cX6_freshIn 39 = .ok (.iload_n 1, 1) := by decide +kernel
theorem dX6_freshIn_40 : decode cX6_freshIn 40 = .ok (.iaload, 1) := by decide +kernel
theorem dX6_freshIn_41 : decode cX6_freshIn 41 = .ok (.goto 11, 3) := by decide +kernel
theorem dX6_freshIn_44 : decode cX6_freshIn 44 = .ok (.aload_n 0, 1) := by decide +kernel
theorem dX6_freshIn_45 : decode cX6_freshIn 45 = .ok (.getfield 36, 3) := by decide +kernel
theorem dX6_freshIn_48 : decode cX6_freshIn 48 = .ok (.iload_n 1, 1) := by decide +kernel
theorem dX6_freshIn_49 : decode cX6_freshIn 49 = .ok (.iaload, 1) := by decide +kernel
theorem dX6_freshIn_50 : decode cX6_freshIn 50 = .ok (.iconst 2, 1) := by decide +kernel
theorem dX6_freshIn_51 : decode cX6_freshIn 51 = .ok (.idiv, 1) := by decide +kernel
theorem dX6_freshIn_52 : decode cX6_freshIn 52 = .ok (.ireturn, 1) := by decide +kernel
theorem dX6_weightOf_0 : decode cX6_weightOf 0 = .ok (.iload_n 1, 1) := by decide +kernel
theorem dX6_weightOf_1 : decode cX6_weightOf 1 = .ok (.iload_n 2, 1) := by decide +kernel
theorem dX6_weightOf_2 : decode cX6_weightOf 2 = .ok (.invokestatic 67, 3) := by decide +kernel
theorem dX6_weightOf_5 : decode cX6_weightOf 5 = .ok (.istore_n 3, 1) := by decide +kernel
theorem dX6_weightOf_6 : decode cX6_weightOf 6 = .ok (.aload_n 0, 1) := by decide +kernel
theorem dX6_weightOf_7 : decode cX6_weightOf 7 = .ok (.getfield 18, 3) := by decide +kernel
theorem dX6_weightOf_10 : decode cX6_weightOf 10 = .ok (.iload_n 1, 1) := by decide +kernel
theorem dX6_weightOf_11 : decode cX6_weightOf 11 = .ok (.iaload, 1) := by decide +kernel
theorem dX6_weightOf_12 : decode cX6_weightOf 12 = .ok (.tableswitch 100 2 5 #[32, 49, 70, 85], 32) := by decide +kernel
theorem dX6_weightOf_44 : decode cX6_weightOf 44 = .ok (.aload_n 0, 1) := by decide +kernel
theorem dX6_weightOf_45 : decode cX6_weightOf 45 = .ok (.iload_n 3, 1) := by decide +kernel
theorem dX6_weightOf_46 : decode cX6_weightOf 46 = .ok (.invokevirtual 84, 3) := by decide +kernel
theorem dX6_weightOf_49 : decode cX6_weightOf 49 = .ok (.iload_n 2, 1) := by decide +kernel
theorem dX6_weightOf_50 : decode cX6_weightOf 50 = .ok (.ifCond .ne 8, 3) := by decide +kernel
theorem dX6_weightOf_53 : decode cX6_weightOf 53 = .ok (.bipush 9, 2) := by decide +kernel
theorem dX6_weightOf_55 : decode cX6_weightOf 55 = .ok (.goto 4, 3) := by decide +kernel
theorem dX6_weightOf_58 : decode cX6_weightOf 58 = .ok (.iconst 0, 1) := by decide +kernel
theorem dX6_weightOf_59 : decode cX6_weightOf 59 = .ok (.iadd, 1) := by decide +kernel
theorem dX6_weightOf_60 : decode cX6_weightOf 60 = .ok (.ireturn, 1) := by decide +kernel
theorem dX6_weightOf_61 : decode cX6_weightOf 61 = .ok (.aload_n 0, 1) := by decide +kernel
theorem dX6_weightOf_62 : decode cX6_weightOf 62 = .ok (.getfield 36, 3) := by decide +kernel
theorem dX6_weightOf_65 : decode cX6_weightOf 65 = .ok (.iload_n 3, 1) := by decide +kernel
theorem dX6_weightOf_66 : decode cX6_weightOf 66 = .ok (.iaload, 1) := by decide +kernel
theorem dX6_weightOf_67 : decode cX6_weightOf 67 = .ok (.iconst 3, 1) := by decide +kernel
theorem dX6_weightOf_68 : decode cX6_weightOf 68 = .ok (.irem, 1) := by decide +kernel
theorem dX6_weightOf_69 : decode cX6_weightOf 69 = .ok (.ifCond .ne 7, 3) := by decide +kernel
theorem dX6_weightOf_72 : decode cX6_weightOf 72 = .ok (.iconst 0, 1) := by decide +kernel
theorem dX6_weightOf_73 : decode cX6_weightOf 73 = .ok (.goto 8, 3) := by decide +kernel
theorem dX6_weightOf_76 : decode cX6_weightOf 76 = .ok (.aload_n 0, 1) := by decide +kernel
theorem dX6_weightOf_77 : decode cX6_weightOf 77 = .ok (.iload_n 3, 1) := by decide +kernel
theorem dX6_weightOf_78 : decode cX6_weightOf 78 = .ok (.invokevirtual 84, 3) := by decide +kernel
theorem dX6_weightOf_81 : decode cX6_weightOf 81 = .ok (.ireturn, 1) := by decide +kernel
theorem dX6_weightOf_82 : decode cX6_weightOf 82 = .ok (.aload_n 0, 1) := by decide +kernel
theorem dX6_weightOf_83 : decode cX6_weightOf 83 = .ok (.getfield 36, 3) := by decide +kernel
theorem dX6_weightOf_86 : decode cX6_weightOf 86 = .ok (.iload_n 3, 1) := by decide +kernel
theorem dX6_weightOf_87 : decode cX6_weightOf 87 = .ok (.iaload, 1) := by decide +kernel
theorem dX6_weightOf_88 : decode cX6_weightOf 88 = .ok (.ifCond .ne 7, 3) := by decide +kernel
theorem dX6_weightOf_91 : decode cX6_weightOf 91 = .ok (.iconst 0, 1) := by decide +kernel
theorem dX6_weightOf_92 : decode cX6_weightOf 92 = .ok (.goto 4, 3) := by decide +kernel
theorem dX6_weightOf_95 : decode cX6_weightOf 95 = .ok (.iconst 1, 1) := by decide +kernel
theorem dX6_weightOf_96 : decode cX6_weightOf 96 = .ok (.ireturn, 1) := by decide +kernel
theorem dX6_weightOf_97 : decode cX6_weightOf 97 = .ok (.aload_n 0, 1) := by decide +kernel
theorem dX6_weightOf_98 : decode cX6_weightOf 98 = .ok (.getfield 36, 3) := by decide +kernel
theorem dX6_weightOf_101 : decode cX6_weightOf 101 = .ok (.iload_n 3, 1) := by decide +kernel
theorem dX6_weightOf_102 : decode cX6_weightOf 102 = .ok (.iaload, 1) := by decide +kernel
theorem dX6_weightOf_103 : decode cX6_weightOf 103 = .ok (.ifCond .ne 7, 3) := by decide +kernel
theorem dX6_weightOf_106 : decode cX6_weightOf 106 = .ok (.iconst 0, 1) := by decide +kernel
theorem dX6_weightOf_107 : decode cX6_weightOf 107 = .ok (.goto 4, 3) := by decide +kernel
theorem dX6_weightOf_110 : decode cX6_weightOf 110 = .ok (.iconst 2, 1) := by decide +kernel
theorem dX6_weightOf_111 : decode cX6_weightOf 111 = .ok (.ireturn, 1) := by decide +kernel
theorem dX6_weightOf_112 : decode cX6_weightOf 112 = .ok (.aload_n 0, 1) := by decide +kernel
theorem dX6_weightOf_113 : decode cX6_weightOf 113 = .ok (.iload_n 3, 1) := by decide +kernel
theorem dX6_weightOf_114 : decode cX6_weightOf 114 = .ok (.invokevirtual 84, 3) := by decide +kernel
theorem dX6_weightOf_117 : decode cX6_weightOf 117 = .ok (.ireturn, 1) := by decide +kernel
theorem dX6_leaningOf_0 : decode cX6_leaningOf 0 = .ok (.aload_n 0, 1) := by decide +kernel
theorem dX6_leaningOf_1 : decode cX6_leaningOf 1 = .ok (.getfield 24, 3) := by decide +kernel
theorem dX6_leaningOf_4 : decode cX6_leaningOf 4 = .ok (.iload_n 1, 1) := by decide +kernel
theorem dX6_leaningOf_5 : decode cX6_leaningOf 5 = .ok (.iaload, 1) := by decide +kernel
theorem dX6_leaningOf_6 : decode cX6_leaningOf 6 = .ok (.iconst 3, 1) := by decide +kernel
theorem dX6_leaningOf_7 : decode cX6_leaningOf 7 = .ok (.isub, 1) := by decide +kernel
theorem dX6_leaningOf_8 : decode cX6_leaningOf 8 = .ok (.aload_n 0, 1) := by decide +kernel
theorem dX6_leaningOf_9 : decode cX6_leaningOf 9 = .ok (.getfield 27, 3) := by decide +kernel
theorem dX6_leaningOf_12 : decode cX6_leaningOf 12 = .ok (.iload_n 1, 1) := by decide +kernel
theorem dX6_leaningOf_13 : decode cX6_leaningOf 13 = .ok (.iaload, 1) := by decide +kernel
theorem dX6_leaningOf_14 : decode cX6_leaningOf 14 = .ok (.iadd, 1) := by decide +kernel
theorem dX6_leaningOf_15 : decode cX6_leaningOf 15 = .ok (.istore_n 3, 1) := by decide +kernel
theorem dX6_leaningOf_16 : decode cX6_leaningOf 16 = .ok (.aload_n 0, 1) := by decide +kernel
theorem dX6_leaningOf_17 : decode cX6_leaningOf 17 = .ok (.getfield 30, 3) := by decide +kernel
theorem dX6_leaningOf_20 : decode cX6_leaningOf 20 = .ok (.iload_n 1, 1) := by decide +kernel
theorem dX6_leaningOf_21 : decode cX6_leaningOf 21 = .ok (.iaload, 1) := by decide +kernel
theorem dX6_leaningOf_22 : decode cX6_leaningOf 22 = .ok (.iload_n 2, 1) := by decide +kernel
theorem dX6_leaningOf_23 : decode cX6_leaningOf 23 = .ok (.ishr, 1) := by decide +kernel
theorem dX6_leaningOf_24 : decode cX6_leaningOf 24 = .ok (.iconst 1, 1) := by decide +kernel
theorem dX6_leaningOf_25 : decode cX6_leaningOf 25 = .ok (.iand, 1) := by decide +kernel
theorem dX6_leaningOf_26 : decode cX6_leaningOf 26 = .ok (.ifCond .eq 6, 3) := by decide +kernel
theorem dX6_leaningOf_29 : decode cX6_leaningOf 29 = .ok (.iinc 3 5, 3) := by decide +kernel
theorem dX6_leaningOf_32 : decode cX6_leaningOf 32 = .ok (.aload_n 0, 1) := by decide +kernel
theorem dX6_leaningOf_33 : decode cX6_leaningOf 33 = .ok (.getfield 33, 3) := by decide +kernel
theorem dX6_leaningOf_36 : decode cX6_leaningOf 36 = .ok (.iload_n 1, 1) := by decide +kernel
theorem dX6_leaningOf_37 : decode cX6_leaningOf 37 = .ok (.iaload, 1) := by decide +kernel
theorem dX6_leaningOf_38 : decode cX6_leaningOf 38 = .ok (.iload_n 2, 1) := by decide +kernel
theorem dX6_leaningOf_39 : decode cX6_leaningOf 39 = .ok (.ishr, 1) := by decide +kernel
theorem dX6_leaningOf_40 : decode cX6_leaningOf 40 = .ok (.iconst 1, 1) := by decide +kernel
theorem dX6_leaningOf_41 : decode cX6_leaningOf 41 = .ok (.iand, 1) := by decide +kernel
theorem dX6_leaningOf_42 : decode cX6_leaningOf 42 = .ok (.ifCond .eq 6, 3) := by decide +kernel
theorem dX6_leaningOf_45 : decode cX6_leaningOf 45 = .ok (.iinc 3 (-9), 3) := by decide +kernel
theorem dX6_leaningOf_48 : decode cX6_leaningOf 48 = .ok (.iload_n 3, 1) := by decide +kernel
theorem dX6_leaningOf_49 : decode cX6_leaningOf 49 = .ok (.ireturn, 1) := by decide +kernel
theorem dX6_favourOf_0 : decode cX6_favourOf 0 = .ok (.aload_n 0, 1) := by decide +kernel
theorem dX6_favourOf_1 : decode cX6_favourOf 1 = .ok (.iload_n 1, 1) := by decide +kernel
theorem dX6_favourOf_2 : decode cX6_favourOf 2 = .ok (.iload_n 2, 1) := by decide +kernel
theorem dX6_favourOf_3 : decode cX6_favourOf 3 = .ok (.invokevirtual 88, 3) := by decide +kernel
theorem dX6_favourOf_6 : decode cX6_favourOf 6 = .ok (.istore_n 3, 1) := by decide +kernel
theorem dX6_favourOf_7 : decode cX6_favourOf 7 = .ok (.aload_n 0, 1) := by decide +kernel
theorem dX6_favourOf_8 : decode cX6_favourOf 8 = .ok (.getfield 18, 3) := by decide +kernel
theorem dX6_favourOf_11 : decode cX6_favourOf 11 = .ok (.iload_n 1, 1) := by decide +kernel
theorem dX6_favourOf_12 : decode cX6_favourOf 12 = .ok (.iaload, 1) := by decide +kernel
theorem dX6_favourOf_13 : decode cX6_favourOf 13 = .ok (.iconst 5, 1) := by decide +kernel
theorem dX6_favourOf_14 : decode cX6_favourOf 14 = .ok (.if_icmp .ne 11, 3) := by decide +kernel
theorem dX6_favourOf_17 : decode cX6_favourOf 17 = .ok (.iload_n 3, 1) := by decide +kernel
theorem dX6_favourOf_18 : decode cX6_favourOf 18 = .ok (.iconst 0, 1) := by decide +kernel
theorem dX6_favourOf_19 : decode cX6_favourOf 19 = .ok (.invokestatic 91, 3) := by decide +kernel
theorem dX6_favourOf_22 : decode cX6_favourOf 22 = .ok (.goto 4, 3) := by decide +kernel
theorem dX6_favourOf_25 : decode cX6_favourOf 25 = .ok (.iload_n 3, 1) := by decide +kernel
theorem dX6_favourOf_26 : decode cX6_favourOf 26 = .ok (.ireturn, 1) := by decide +kernel
theorem dX6_timesOf_0 : decode cX6_timesOf 0 = .ok (.iconst 0, 1) := by decide +kernel
theorem dX6_timesOf_1 : decode cX6_timesOf 1 = .ok (.istore_n 2, 1) := by decide +kernel
theorem dX6_timesOf_2 : decode cX6_timesOf 2 = .ok (.iconst 0, 1) := by decide +kernel
theorem dX6_timesOf_3 : decode cX6_timesOf 3 = .ok (.istore_n 3, 1) := by decide +kernel
theorem dX6_timesOf_4 : decode cX6_timesOf 4 = .ok (.iload_n 3, 1) := by decide +kernel
theorem dX6_timesOf_5 : decode cX6_timesOf 5 = .ok (.aload_n 0, 1) := by decide +kernel
theorem dX6_timesOf_6 : decode cX6_timesOf 6 = .ok (.getfield 49, 3) := by decide +kernel
theorem dX6_timesOf_9 : decode cX6_timesOf 9 = .ok (.if_icmp .ge 22, 3) := by decide +kernel
theorem dX6_timesOf_12 : decode cX6_timesOf 12 = .ok (.iload_n 2, 1) := by decide +kernel
theorem dX6_timesOf_13 : decode cX6_timesOf 13 = .ok (.aload_n 0, 1) := by decide +kernel
theorem dX6_timesOf_14 : decode cX6_timesOf 14 = .ok (.getfield 36, 3) := by decide +kernel
theorem dX6_timesOf_17 : decode cX6_timesOf 17 = .ok (.iload_n 1, 1) := by decide +kernel
theorem dX6_timesOf_18 : decode cX6_timesOf 18 = .ok (.iload_n 3, 1) := by decide +kernel
theorem dX6_timesOf_19 : decode cX6_timesOf 19 = .ok (.invokestatic 67, 3) := by decide +kernel
theorem dX6_timesOf_22 : decode cX6_timesOf 22 = .ok (.iaload, 1) := by decide +kernel
theorem dX6_timesOf_23 : decode cX6_timesOf 23 = .ok (.iadd, 1) := by decide +kernel
theorem dX6_timesOf_24 : decode cX6_timesOf 24 = .ok (.istore_n 2, 1) := by decide +kernel
theorem dX6_timesOf_25 : decode cX6_timesOf 25 = .ok (.iinc 3 1, 3) := by decide +kernel
theorem dX6_timesOf_28 : decode cX6_timesOf 28 = .ok (.goto (-24), 3) := by decide +kernel
theorem dX6_timesOf_31 : decode cX6_timesOf 31 = .ok (.iload_n 2, 1) := by decide +kernel
theorem dX6_timesOf_32 : decode cX6_timesOf 32 = .ok (.ireturn, 1) := by decide +kernel
theorem dX6_allTimes_0 : decode cX6_allTimes 0 = .ok (.iconst 0, 1) := by decide +kernel
theorem dX6_allTimes_1 : decode cX6_allTimes 1 = .ok (.istore_n 1, 1) := by decide +kernel
theorem dX6_allTimes_2 : decode cX6_allTimes 2 = .ok (.iconst 0, 1) := by decide +kernel
theorem dX6_allTimes_3 : decode cX6_allTimes 3 = .ok (.istore_n 2, 1) := by decide +kernel
theorem dX6_allTimes_4 : decode cX6_allTimes 4 = .ok (.iload_n 2, 1) := by decide +kernel
theorem dX6_allTimes_5 : decode cX6_allTimes 5 = .ok (.aload_n 0, 1) := by decide +kernel
theorem dX6_allTimes_6 : decode cX6_allTimes 6 = .ok (.getfield 52, 3) := by decide +kernel
theorem dX6_allTimes_9 : decode cX6_allTimes 9 = .ok (.if_icmp .ge 17, 3) := by decide +kernel
theorem dX6_allTimes_12 : decode cX6_allTimes 12 = .ok (.iload_n 1, 1) := by decide +kernel
theorem dX6_allTimes_13 : decode cX6_allTimes 13 = .ok (.aload_n 0, 1) := by decide +kernel
theorem dX6_allTimes_14 : decode cX6_allTimes 14 = .ok (.iload_n 2, 1) := by decide +kernel
theorem dX6_allTimes_15 : decode cX6_allTimes 15 = .ok (.invokevirtual 94, 3) := by decide +kernel
theorem dX6_allTimes_18 : decode cX6_allTimes 18 = .ok (.iadd, 1) := by decide +kernel
theorem dX6_allTimes_19 : decode cX6_allTimes 19 = .ok (.istore_n 1, 1) := by decide +kernel
theorem dX6_allTimes_20 : decode cX6_allTimes 20 = .ok (.iinc 2 1, 3) := by decide +kernel
theorem dX6_allTimes_23 : decode cX6_allTimes 23 = .ok (.goto (-19), 3) := by decide +kernel
theorem dX6_allTimes_26 : decode cX6_allTimes 26 = .ok (.iload_n 1, 1) := by decide +kernel
theorem dX6_allTimes_27 : decode cX6_allTimes 27 = .ok (.ireturn, 1) := by decide +kernel
theorem dX6_passedThrough_0 : decode cX6_passedThrough 0 = .ok (.iconst 0, 1) := by decide +kernel
theorem dX6_passedThrough_1 : decode cX6_passedThrough 1 = .ok (.istore_n 2, 1) := by decide +kernel
theorem dX6_passedThrough_2 : decode cX6_passedThrough 2 = .ok (.iconst 0, 1) := by decide +kernel
theorem dX6_passedThrough_3 : decode cX6_passedThrough 3 = .ok (.istore_n 3, 1) := by decide +kernel
theorem dX6_passedThrough_4 : decode cX6_passedThrough 4 = .ok (.iload_n 3, 1) := by decide +kernel
theorem dX6_passedThrough_5 : decode cX6_passedThrough 5 = .ok (.aload_n 0, 1) := by decide +kernel
theorem dX6_passedThrough_6 : decode cX6_passedThrough 6 = .ok (.getfield 52, 3) := by decide +kernel
theorem dX6_passedThrough_9 : decode cX6_passedThrough 9 = .ok (.if_icmp .ge 28, 3) := by decide +kernel
theorem dX6_passedThrough_12 : decode cX6_passedThrough 12 = .ok (.aload_n 0, 1) := by decide +kernel
theorem dX6_passedThrough_13 : decode cX6_passedThrough 13 = .ok (.getfield 36, 3) := by decide +kernel
theorem dX6_passedThrough_16 : decode cX6_passedThrough 16 = .ok (.iload_n 3, 1) := by decide +kernel
theorem dX6_passedThrough_17 : decode cX6_passedThrough 17 = .ok (.iload_n 1, 1) := by decide +kernel
theorem dX6_passedThrough_18 : decode cX6_passedThrough 18 = .ok (.invokestatic 67, 3) := by decide +kernel
theorem dX6_passedThrough_21 : decode cX6_passedThrough 21 = .ok (.iaload, 1) := by decide +kernel
theorem dX6_passedThrough_22 : decode cX6_passedThrough 22 = .ok (.ifCond .eq 9, 3) := by decide +kernel
theorem dX6_passedThrough_25 : decode cX6_passedThrough 25 = .ok (.iload_n 2, 1) := by decide +kernel
theorem dX6_passedThrough_26 : decode cX6_passedThrough 26 = .ok (.iconst 1, 1) := by decide +kernel
theorem dX6_passedThrough_27 : decode cX6_passedThrough 27 = .ok (.iload_n 3, 1) := by decide +kernel
theorem dX6_passedThrough_28 : decode cX6_passedThrough 28 = .ok (.ishl, 1) := by decide +kernel
theorem dX6_passedThrough_29 : decode cX6_passedThrough 29 = .ok (.ior, 1) := by decide +kernel
theorem dX6_passedThrough_30 : decode cX6_passedThrough 30 = .ok (.istore_n 2, 1) := by decide +kernel
theorem dX6_passedThrough_31 : decode cX6_passedThrough 31 = .ok (.iinc 3 1, 3) := by decide +kernel
theorem dX6_passedThrough_34 : decode cX6_passedThrough 34 = .ok (.goto (-30), 3) := by decide +kernel
theorem dX6_passedThrough_37 : decode cX6_passedThrough 37 = .ok (.iload_n 2, 1) := by decide +kernel
theorem dX6_passedThrough_38 : decode cX6_passedThrough 38 = .ok (.ireturn, 1) := by decide +kernel
theorem dX6_roomsAdded_0 : decode cX6_roomsAdded 0 = .ok (.iconst 0, 1) := by decide +kernel
theorem dX6_roomsAdded_1 : decode cX6_roomsAdded 1 = .ok (.istore_n 1, 1) := by decide +kernel
theorem dX6_roomsAdded_2 : decode cX6_roomsAdded 2 = .ok (.iconst 0, 1) := by decide +kernel
theorem dX6_roomsAdded_3 : decode cX6_roomsAdded 3 = .ok (.istore_n 2, 1) := by decide +kernel
theorem dX6_roomsAdded_4 : decode cX6_roomsAdded 4 = .ok (.iload_n 2, 1) := by decide +kernel
theorem dX6_roomsAdded_5 : decode cX6_roomsAdded 5 = .ok (.aload_n 0, 1) := by decide +kernel
theorem dX6_roomsAdded_6 : decode cX6_roomsAdded 6 = .ok (.getfield 52, 3) := by decide +kernel
theorem dX6_roomsAdded_9 : decode cX6_roomsAdded 9 = .ok (.if_icmp .ge 18, 3) := by decide +kernel
theorem dX6_roomsAdded_12 : decode cX6_roomsAdded 12 = .ok (.iload_n 1, 1) := by decide +kernel
theorem dX6_roomsAdded_13 : decode cX6_roomsAdded 13 = .ok (.aload_n 0, 1) := by decide +kernel
theorem dX6_roomsAdded_14 : decode cX6_roomsAdded 14 = .ok (.getfield 21, 3) := by decide +kernel
theorem dX6_roomsAdded_17 : decode cX6_roomsAdded 17 = .ok (.iload_n 2, 1) := by decide +kernel
theorem dX6_roomsAdded_18 : decode cX6_roomsAdded 18 = .ok (.iaload, 1) := by decide +kernel
theorem dX6_roomsAdded_19 : decode cX6_roomsAdded 19 = .ok (.iadd, 1) := by decide +kernel
theorem dX6_roomsAdded_20 : decode cX6_roomsAdded 20 = .ok (.istore_n 1, 1) := by decide +kernel
theorem dX6_roomsAdded_21 : decode cX6_roomsAdded 21 = .ok (.iinc 2 1, 3) := by decide +kernel
theorem dX6_roomsAdded_24 : decode cX6_roomsAdded 24 = .ok (.goto (-20), 3) := by decide +kernel
theorem dX6_roomsAdded_27 : decode cX6_roomsAdded 27 = .ok (.iload_n 1, 1) := by decide +kernel
theorem dX6_roomsAdded_28 : decode cX6_roomsAdded 28 = .ok (.ireturn, 1) := by decide +kernel
theorem dX7_init_0 : decode cX7_init 0 = .ok (.aload_n 0, 1) := by decide +kernel
theorem dX7_init_1 : decode cX7_init 1 = .ok (.invokespecial 3, 3) := by decide +kernel
theorem dX7_init_4 : decode cX7_init 4 = .ok (.aload_n 0, 1) := by decide +kernel
theorem dX7_init_5 : decode cX7_init 5 = .ok (.bipush 7, 2) := by decide +kernel
theorem dX7_init_7 : decode cX7_init 7 = .ok (.newarray .int, 2) := by decide +kernel
theorem dX7_init_9 : decode cX7_init 9 = .ok (.putfield 11, 3) := by decide +kernel
theorem dX7_init_12 : decode cX7_init 12 = .ok (.aload_n 0, 1) := by decide +kernel
theorem dX7_init_13 : decode cX7_init 13 = .ok (.bipush 7, 2) := by decide +kernel
theorem dX7_init_15 : decode cX7_init 15 = .ok (.newarray .int, 2) := by decide +kernel
theorem dX7_init_17 : decode cX7_init 17 = .ok (.putfield 15, 3) := by decide +kernel
theorem dX7_init_20 : decode cX7_init 20 = .ok (.aload_n 0, 1) := by decide +kernel
theorem dX7_init_21 : decode cX7_init 21 = .ok (.bipush 7, 2) := by decide +kernel
theorem dX7_init_23 : decode cX7_init 23 = .ok (.newarray .int, 2) := by decide +kernel
theorem dX7_init_25 : decode cX7_init 25 = .ok (.putfield 18, 3) := by decide +kernel
theorem dX7_init_28 : decode cX7_init 28 = .ok (.aload_n 0, 1) := by decide +kernel
theorem dX7_init_29 : decode cX7_init 29 = .ok (.bipush 6, 2) := by decide +kernel
theorem dX7_init_31 : decode cX7_init 31 = .ok (.newarray .int, 2) := by decide +kernel
theorem dX7_init_33 : decode cX7_init 33 = .ok (.putfield 21, 3) := by decide +kernel
theorem dX7_init_36 : decode cX7_init 36 = .ok (.return_, 1) := by decide +kernel
theorem dX7_take_0 : decode cX7_take 0 = .ok (.aload_n 0, 1) := by decide +kernel
theorem dX7_take_1 : decode cX7_take 1 = .ok (.iconst 0, 1) := by decide +kernel
theorem dX7_take_2 : decode cX7_take 2 = .ok (.putfield 24, 3) := by decide +kernel
theorem dX7_take_5 : decode cX7_take 5 = .ok (.iconst 0, 1) := by decide +kernel
theorem dX7_take_6 : decode cX7_take 6 = .ok (.istore 4, 2) := by decide +kernel
theorem dX7_take_8 : decode cX7_take 8 = .ok (.iload 4, 2) := by decide +kernel
theorem dX7_take_10 : decode cX7_take 10 = .ok (.aload_n 1, 1) := by decide +kernel
theorem dX7_take_11 : decode cX7_take 11 = .ok (.getfield 28, 3) := by decide +kernel
theorem dX7_take_14 : decode cX7_take 14 = .ok (.if_icmp .ge 44, 3) := by decide +kernel
theorem dX7_take_17 : decode cX7_take 17 = .ok (.aload_n 2, 1) := by decide +kernel
theorem dX7_take_18 : decode cX7_take 18 = .ok (.aload_n 1, 1) := by decide +kernel
theorem dX7_take_19 : decode cX7_take 19 = .ok (.iload_n 3, 1) := by decide +kernel
theorem dX7_take_20 : decode cX7_take 20 = .ok (.iload 4, 2) := by decide +kernel
theorem dX7_take_22 : decode cX7_take 22 = .ok (.invokevirtual 33, 3) := by decide +kernel
theorem dX7_take_25 : decode cX7_take 25 = .ok (.aload_n 2, 1) := by decide +kernel
theorem dX7_take_26 : decode cX7_take 26 = .ok (.invokevirtual 39, 3) := by decide +kernel
theorem dX7_take_29 : decode cX7_take 29 = .ok (.ifCond .eq 23, 3) := by decide +kernel
theorem dX7_take_32 : decode cX7_take 32 = .ok (.aload_n 0, 1) := by decide +kernel
theorem dX7_take_33 : decode cX7_take 33 = .ok (.aload_n 1, 1) := by decide +kernel
theorem dX7_take_34 : decode cX7_take 34 = .ok (.getfield 43, 3) := by decide +kernel
theorem dX7_take_37 : decode cX7_take 37 = .ok (.iload 4, 2) := by decide +kernel
theorem dX7_take_39 : decode cX7_take 39 = .ok (.iaload, 1) := by decide +kernel
theorem dX7_take_40 : decode cX7_take 40 = .ok (.aload_n 1, 1) := by decide +kernel
theorem dX7_take_41 : decode cX7_take 41 = .ok (.getfield 44, 3) := by decide +kernel
theorem dX7_take_44 : decode cX7_take 44 = .ok (.iload 4, 2) := by decide +kernel
theorem dX7_take_46 : decode cX7_take 46 = .ok (.iaload, 1) := by decide +kernel
theorem dX7_take_47 : decode cX7_take 47 = .ok (.iload 4, 2) := by decide +kernel
theorem dX7_take_49 : decode cX7_take 49 = .ok (.invokevirtual 45, 3) := by decide +kernel
theorem dX7_take_52 : decode cX7_take 52 = .ok (.iinc 4 1, 3) := by decide +kernel
theorem dX7_take_55 : decode cX7_take 55 = .ok (.goto (-47), 3) := by decide +kernel
theorem dX7_take_58 : decode cX7_take 58 = .ok (.return_, 1) := by decide +kernel
theorem dX7_add_0 : decode cX7_add 0 = .ok (.aload_n 0, 1) := by decide +kernel
theorem dX7_add_1 : decode cX7_add 1 = .ok (.getfield 11, 3) := by decide +kernel
theorem dX7_add_4 : decode cX7_add 4 = .ok (.aload_n 0, 1) := by decide +kernel
theorem dX7_add_5 : decode cX7_add 5 = .ok (.getfield 24, 3) := by decide +kernel
theorem dX7_add_8 : decode cX7_add 8 = .ok (.iload_n 1, 1) := by decide +kernel
theorem dX7_add_9 : decode cX7_add 9 = .ok (.iastore, 1) := by decide +kernel
theorem dX7_add_10 : decode cX7_add 10 = .ok (.aload_n 0, 1) := by decide +kernel
theorem dX7_add_11 : decode cX7_add 11 = .ok (.getfield 15, 3) := by decide +kernel
theorem dX7_add_14 : decode cX7_add 14 = .ok (.aload_n 0, 1) := by decide +kernel
theorem dX7_add_15 : decode cX7_add 15 = .ok (.getfield 24, 3) := by decide +kernel
theorem dX7_add_18 : decode cX7_add 18 = .ok (.iload_n 2, 1) := by decide +kernel
theorem dX7_add_19 : decode cX7_add 19 = .ok (.iastore, 1) := by decide +kernel
theorem dX7_add_20 : decode cX7_add 20 = .ok (.aload_n 0, 1) := by decide +kernel
theorem dX7_add_21 : decode cX7_add 21 = .ok (.getfield 18, 3) := by decide +kernel
theorem dX7_add_24 : decode cX7_add 24 = .ok (.aload_n 0, 1) := by decide +kernel
theorem dX7_add_25 : decode cX7_add 25 = .ok (.getfield 24, 3) := by decide +kernel
theorem dX7_add_28 : decode cX7_add 28 = .ok (.iload_n 3, 1) := by decide +kernel
theorem dX7_add_29 : decode cX7_add 29 = .ok (.iastore, 1) := by decide +kernel
theorem dX7_add_30 : decode cX7_add 30 = .ok (.aload_n 0, 1) := by decide +kernel
theorem dX7_add_31 : decode cX7_add 31 = .ok (.dup, 1) := by decide +kernel
theorem dX7_add_32 : decode cX7_add 32 = .ok (.getfield 24, 3) := by decide +kernel
theorem dX7_add_35 : decode cX7_add 35 = .ok (.iconst 1, 1) := by decide +kernel
theorem dX7_add_36 : decode cX7_add 36 = .ok (.iadd, 1) := by decide +kernel
theorem dX7_add_37 : decode cX7_add 37 = .ok (.putfield 24, 3) := by decide +kernel
theorem dX7_add_40 : decode cX7_add 40 = .ok (.return_, 1) := by decide +kernel
theorem dX7_measureFrom_0 : decode cX7_measureFrom 0 = .ok (.aload_n 0, 1) := by decide +kernel
theorem dX7_measureFrom_1 : decode cX7_measureFrom 1 = .ok (.getfield 21, 3) := by decide +kernel
theorem dX7_measureFrom_4 : decode cX7_measureFrom 4 = .ok (.ldc 49, 2) := by decide +kernel
theorem dX7_measureFrom_6 : decode cX7_measureFrom 6 = .ok (.invokestatic 50, 3) := by decide +kernel
theorem dX7_measureFrom_9 : decode cX7_measureFrom 9 = .ok (.aload_n 0, 1) := by decide +kernel
theorem dX7_measureFrom_10 : decode cX7_measureFrom 10 = .ok (.getfield 21, 3) := by decide +kernel
theorem dX7_measureFrom_13 : decode cX7_measureFrom 13 = .ok (.iload_n 1, 1) := by decide +kernel
theorem dX7_measureFrom_14 : decode cX7_measureFrom 14 = .ok (.iconst 0, 1) := by decide +kernel
theorem dX7_measureFrom_15 : decode cX7_measureFrom 15 = .ok (.iastore, 1) := by decide +kernel
theorem dX7_measureFrom_16 : decode cX7_measureFrom 16 = .ok (.iconst 1, 1) := by decide +kernel
theorem dX7_measureFrom_17 : decode cX7_measureFrom 17 = .ok (.istore_n 2, 1) := by decide +kernel
theorem dX7_measureFrom_18 : decode cX7_measureFrom 18 = .ok (.iload_n 2, 1) := by decide +kernel
theorem dX7_measureFrom_19 : decode cX7_measureFrom 19 = .ok (.bipush 6, 2) := by decide +kernel
theorem dX7_measureFrom_21 : decode cX7_measureFrom 21 = .ok (.if_icmp .ge 59, 3) := by decide +kernel
theorem dX7_measureFrom_24 : decode cX7_measureFrom 24 = .ok (.iconst 0, 1) := by decide +kernel
theorem dX7_measureFrom_25 : decode cX7_measureFrom 25 = .ok (.istore_n 3, 1) := by decide +kernel
theorem dX7_measureFrom_26 : decode cX7_measureFrom 26 = .ok (.iload_n 3, 1) := by decide +kernel
theorem dX7_measureFrom_27 : decode cX7_measureFrom 27 = .ok (.aload_n 0, 1) := by decide +kernel
theorem dX7_measureFrom_28 : decode cX7_measureFrom 28 = .ok (.getfield 24, 3) := by decide +kernel
theorem dX7_measureFrom_31 : decode cX7_measureFrom 31 = .ok (.if_icmp .ge 43, 3) := by decide +kernel
theorem dX7_measureFrom_34 : decode cX7_measureFrom 34 = .ok (.aload_n 0, 1) := by decide +kernel
theorem dX7_measureFrom_35 : decode cX7_measureFrom 35 = .ok (.aload_n 0, 1) := by decide +kernel
theorem dX7_measureFrom_36 : decode cX7_measureFrom 36 = .ok (.getfield 11, 3) := by decide +kernel
theorem dX7_measureFrom_39 : decode cX7_measureFrom 39 = .ok (.iload_n 3, 1) := by decide +kernel
theorem dX7_measureFrom_40 : decode cX7_measureFrom 40 = .ok (.iaload, 1) := by decide +kernel
theorem dX7_measureFrom_41 : decode cX7_measureFrom 41 = .ok (.aload_n 0, 1) := by decide +kernel
theorem dX7_measureFrom_42 : decode cX7_measureFrom 42 = .ok (.getfield 15, 3) := by decide +kernel
theorem dX7_measureFrom_45 : decode cX7_measureFrom 45 = .ok (.iload_n 3, 1) := by decide +kernel
theorem dX7_measureFrom_46 : decode cX7_measureFrom 46 = .ok (.iaload, 1) := by decide +kernel
theorem dX7_measureFrom_47 : decode cX7_measureFrom 47 = .ok (.iload_n 2, 1) := by decide +kernel
theorem dX7_measureFrom_48 : decode cX7_measureFrom 48 = .ok (.invokevirtual 56, 3) := by decide +kernel
theorem dX7_measureFrom_51 : decode cX7_measureFrom 51 = .ok (.aload_n 0, 1) := by decide +kernel
theorem dX7_measureFrom_52 : decode cX7_measureFrom 52 = .ok (.aload_n 0, 1) := by decide +kernel
theorem dX7_measureFrom_53 : decode cX7_measureFrom 53 = .ok (.getfield 15, 3) := by decide +kernel
theorem dX7_measureFrom_56 : decode cX7_measureFrom 56 = .ok (.iload_n 3, 1) := by decide +kernel
theorem dX7_measureFrom_57 : decode cX7_measureFrom 57 = .ok (.iaload, 1) := by decide +kernel
theorem dX7_measureFrom_58 : decode cX7_measureFrom 58 = .ok (.aload_n 0, 1) := by decide +kernel
theorem dX7_measureFrom_59 : decode cX7_measureFrom 59 = .ok (.getfield 11, 3) := by decide +kernel
theorem dX7_measureFrom_62 : decode cX7_measureFrom 62 = .ok (.iload_n 3, 1) := by decide +kernel
theorem dX7_measureFrom_63 : decode cX7_measureFrom 63 = .ok (.iaload, 1) := by decide +kernel
theorem dX7_measureFrom_64 : decode cX7_measureFrom 64 = .ok (.iload_n 2, 1) := by decide +kernel
theorem dX7_measureFrom_65 : decode cX7_measureFrom 65 = .ok (.invokevirtual 56, 3) := by decide +kernel
theorem dX7_measureFrom_68 : decode cX7_measureFrom 68 = .ok (.iinc 3 1, 3) := by decide +kernel
theorem dX7_measureFrom_71 : decode cX7_measureFrom 71 = .ok (.goto (-45), 3) := by decide +kernel
theorem dX7_measureFrom_74 : decode cX7_measureFrom 74 = .ok (.iinc 2 1, 3) := by decide +kernel
theorem dX7_measureFrom_77 : decode cX7_measureFrom 77 = .ok (.goto (-59), 3) := by decide +kernel
theorem dX7_measureFrom_80 : decode cX7_measureFrom 80 = .ok (.return_, 1) := by decide +kernel
theorem dX7_spread_0 : decode cX7_spread 0 = .ok (.aload_n 0, 1) := by decide +kernel
theorem dX7_spread_1 : decode cX7_spread 1 = .ok (.getfield 21, 3) := by decide +kernel
theorem dX7_spread_4 : decode cX7_spread 4 = .ok (.iload_n 1, 1) := by decide +kernel
theorem dX7_spread_5 : decode cX7_spread 5 = .ok (.iaload, 1) := by decide +kernel
theorem dX7_spread_6 : decode cX7_spread 6 = .ok (.iload_n 3, 1) := by decide +kernel
theorem dX7_spread_7 : decode cX7_spread 7 = .ok (.iconst 1, 1) := by decide +kernel
theorem dX7_spread_8 : decode cX7_spread 8 = .ok (.isub, 1) := by decide +kernel
theorem dX7_spread_9 : decode cX7_spread 9 = .ok (.if_icmp .ne 21, 3) := by decide +kernel
theorem dX7_spread_12 : decode cX7_spread 12 = .ok (.aload_n 0, 1) := by decide +kernel
theorem dX7_spread_13 : decode cX7_spread 13 = .ok (.getfield 21, 3) := by decide +kernel
theorem dX7_spread_16 : decode cX7_spread 16 = .ok (.iload_n 2, 1) := by decide +kernel
theorem dX7_spread_17 : decode cX7_spread 17 = .ok (.iaload, 1) := by decide +kernel
theorem dX7_spread_18 : decode cX7_spread 18 = .ok (.ldc 49, 2) := by decide +kernel
theorem dX7_spread_20 : decode cX7_spread 20 = .ok (.if_icmp .ne 10, 3) := by decide +kernel
theorem dX7_spread_23 : decode cX7_spread 23 = .ok (.aload_n 0, 1) := by decide +kernel
theorem dX7_spread_24 : decode cX7_spread 24 = .ok (.getfield 21, 3) := by decide +kernel
theorem dX7_spread_27 : decode cX7_spread 27 = .ok (.iload_n 2, 1) := by decide +kernel
theorem dX7_spread_28 : decode cX7_spread 28 = .ok (.iload_n 3, 1) := by decide +kernel
theorem dX7_spread_29 : decode cX7_spread 29 = .ok (.iastore, 1) := by decide +kernel
theorem dX7_spread_30 : decode cX7_spread 30 = .ok (.return_, 1) := by decide +kernel
theorem dX7_roomsMeasured_0 : decode cX7_roomsMeasured 0 = .ok (.iconst 0, 1) := by decide +kernel
theorem dX7_roomsMeasured_1 : decode cX7_roomsMeasured 1 = .ok (.istore_n 1, 1) := by decide +kernel
theorem dX7_roomsMeasured_2 : decode cX7_roomsMeasured 2 = .ok (.iconst 0, 1) := by decide +kernel
theorem dX7_roomsMeasured_3 : decode cX7_roomsMeasured 3 = .ok (.istore_n 2, 1) := by decide +kernel
theorem dX7_roomsMeasured_4 : decode cX7_roomsMeasured 4 = .ok (.iload_n 2, 1) := by decide +kernel
theorem dX7_roomsMeasured_5 : decode cX7_roomsMeasured 5 = .ok (.bipush 6, 2) := by decide +kernel
theorem dX7_roomsMeasured_7 : decode cX7_roomsMeasured 7 = .ok (.if_icmp .ge 26, 3) := by decide +kernel
theorem dX7_roomsMeasured_10 : decode cX7_roomsMeasured 10 = .ok (.aload_n 0, 1) := by decide +kernel
theorem dX7_roomsMeasured_11 : decode cX7_roomsMeasured 11 = .ok (.getfield 21, 3) := by decide +kernel
theorem dX7_roomsMeasured_14 : decode cX7_roomsMeasured 14 = .ok (.iload_n 2, 1) := by decide +kernel
theorem dX7_roomsMeasured_15 : decode cX7_roomsMeasured 15 = .ok (.iaload, 1) := by decide +kernel
theorem dX7_roomsMeasured_16 : decode cX7_roomsMeasured 16 = .ok (.ldc 49, 2) := by decide +kernel
theorem dX7_roomsMeasured_18 : decode cX7_roomsMeasured 18 = .ok (.if_icmp .eq 9, 3) := by decide +kernel
theorem dX7_roomsMeasured_21 : decode cX7_roomsMeasured 21 = .ok (.iload_n 1, 1) := by decide +kernel
theorem dX7_roomsMeasured_22 : decode cX7_roomsMeasured 22 = .ok (.iconst 1, 1) := by decide +kernel
theorem dX7_roomsMeasured_23 : decode cX7_roomsMeasured 23 = .ok (.iload_n 2, 1) := by decide +kernel
theorem dX7_roomsMeasured_24 : decode cX7_roomsMeasured 24 = .ok (.ishl, 1) := by decide +kernel
theorem dX7_roomsMeasured_25 : decode cX7_roomsMeasured 25 = .ok (.ior, 1) := by decide +kernel
theorem dX7_roomsMeasured_26 : decode cX7_roomsMeasured 26 = .ok (.istore_n 1, 1) := by decide +kernel
theorem dX7_roomsMeasured_27 : decode cX7_roomsMeasured 27 = .ok (.iinc 2 1, 3) := by decide +kernel
theorem dX7_roomsMeasured_30 : decode cX7_roomsMeasured 30 = .ok (.goto (-26), 3) := by decide +kernel
theorem dX7_roomsMeasured_33 : decode cX7_roomsMeasured 33 = .ok (.iload_n 1, 1) := by decide +kernel
theorem dX7_roomsMeasured_34 : decode cX7_roomsMeasured 34 = .ok (.ireturn, 1) := by decide +kernel
theorem dX7_firstDoorFrom_0 : decode cX7_firstDoorFrom 0 = .ok (.aload_n 0, 1) := by decide +kernel
theorem dX7_firstDoorFrom_1 : decode cX7_firstDoorFrom 1 = .ok (.getfield 21, 3) := by decide +kernel
theorem dX7_firstDoorFrom_4 : decode cX7_firstDoorFrom 4 = .ok (.iload_n 1, 1) := by decide +kernel
theorem dX7_firstDoorFrom_5 : decode cX7_firstDoorFrom 5 = .ok (.iaload, 1) := by decide +kernel
theorem dX7_firstDoorFrom_6 : decode cX7_firstDoorFrom 6 = .ok (.iconst 1, 1) := by decide +kernel
theorem dX7_firstDoorFrom_7 : decode cX7_firstDoorFrom 7 = .ok (.isub, 1) := by decide +kernel
theorem dX7_firstDoorFrom_8 : decode cX7_firstDoorFrom 8 = .ok (.istore_n 2, 1) := by decide +kernel
theorem dX7_firstDoorFrom_9 : decode cX7_firstDoorFrom 9 = .ok (.iconst 0, 1) := by decide +kernel
theorem dX7_firstDoorFrom_10 : decode cX7_firstDoorFrom 10 = .ok (.istore_n 3, 1) := by decide +kernel
theorem dX7_firstDoorFrom_11 : decode cX7_firstDoorFrom 11 = .ok (.iload_n 3, 1) := by decide +kernel
theorem dX7_firstDoorFrom_12 : decode cX7_firstDoorFrom 12 = .ok (.aload_n 0, 1) := by decide +kernel
theorem dX7_firstDoorFrom_13 : decode cX7_firstDoorFrom 13 = .ok (.getfield 24, 3) := by decide +kernel
theorem dX7_firstDoorFrom_16 : decode cX7_firstDoorFrom 16 = .ok (.if_icmp .ge 90, 3) := by decide +kernel
theorem dX7_firstDoorFrom_19 : decode cX7_firstDoorFrom 19 = .ok (.aload_n 0, 1) := by decide +kernel
theorem dX7_firstDoorFrom_20 : decode cX7_firstDoorFrom 20 = .ok (.getfield 11, 3) := by decide +kernel
theorem dX7_firstDoorFrom_23 : decode cX7_firstDoorFrom 23 = .ok (.iload_n 3, 1) := by decide +kernel
theorem dX7_firstDoorFrom_24 : decode cX7_firstDoorFrom 24 = .ok (.iaload, 1) := by decide +kernel
theorem dX7_firstDoorFrom_25 : decode cX7_firstDoorFrom 25 = .ok (.iload_n 1, 1) := by decide +kernel
theorem dX7_firstDoorFrom_26 : decode cX7_firstDoorFrom 26 = .ok (.if_icmp .ne 22, 3) := by decide +kernel
theorem dX7_firstDoorFrom_29 : decode cX7_firstDoorFrom 29 = .ok (.aload_n 0, 1) := by decide +kernel
theorem dX7_firstDoorFrom_30 : decode cX7_firstDoorFrom 30 = .ok (.getfield 21, 3) := by decide +kernel
theorem dX7_firstDoorFrom_33 : decode cX7_firstDoorFrom 33 = .ok (.aload_n 0, 1) := by decide +kernel
theorem dX7_firstDoorFrom_34 : decode cX7_firstDoorFrom 34 = .ok (.getfield 15, 3) := by decide +kernel
theorem dX7_firstDoorFrom_37 : decode cX7_firstDoorFrom 37 = .ok (.iload_n 3, 1) := by decide +kernel
theorem dX7_firstDoorFrom_38 : decode cX7_firstDoorFrom 38 = .ok (.iaload, 1) := by decide +kernel
theorem dX7_firstDoorFrom_39 : decode cX7_firstDoorFrom 39 = .ok (.iaload, 1) := by decide +kernel
theorem dX7_firstDoorFrom_40 : decode cX7_firstDoorFrom 40 = .ok (.iload_n 2, 1) := by decide +kernel
theorem dX7_firstDoorFrom_41 : decode cX7_firstDoorFrom 41 = .ok (.if_icmp .ne 7, 3) := by decide +kernel
theorem dX7_firstDoorFrom_44 : decode cX7_firstDoorFrom 44 = .ok (.iconst 1, 1) := by decide +kernel
theorem dX7_firstDoorFrom_45 : decode cX7_firstDoorFrom 45 = .ok (.goto 4, 3) := by decide +kernel
theorem dX7_firstDoorFrom_48 : decode cX7_firstDoorFrom 48 = .ok (.iconst 0, 1) := by decide +kernel
theorem dX7_firstDoorFrom_49 : decode cX7_firstDoorFrom 49 = .ok (.istore 4, 2) := by decide +kernel
theorem dX7_firstDoorFrom_51 : decode cX7_firstDoorFrom 51 = .ok (.aload_n 0, 1) := by decide +kernel
theorem dX7_firstDoorFrom_52 : decode cX7_firstDoorFrom 52 = .ok (.getfield 15, 3) := by decide +kernel
theorem dX7_firstDoorFrom_55 : decode cX7_firstDoorFrom 55 = .ok (.iload_n 3, 1) := by decide +kernel
theorem dX7_firstDoorFrom_56 : decode cX7_firstDoorFrom 56 = .ok (.iaload, 1) := by decide +kernel
theorem dX7_firstDoorFrom_57 : decode cX7_firstDoorFrom 57 = .ok (.iload_n 1, 1) := by decide +kernel
theorem dX7_firstDoorFrom_58 : decode cX7_firstDoorFrom 58 = .ok (.if_icmp .ne 22, 3) := by decide +kernel
theorem dX7_firstDoorFrom_61 : decode cX7_firstDoorFrom 61 = .ok (.aload_n 0, 1) := by decide +kernel
theorem dX7_firstDoorFrom_62 : decode cX7_firstDoorFrom 62 = .ok (.getfield 21, 3) := by decide +kernel
theorem dX7_firstDoorFrom_65 : decode cX7_firstDoorFrom 65 = .ok (.aload_n 0, 1) := by decide +kernel
theorem dX7_firstDoorFrom_66 : decode cX7_firstDoorFrom 66 = .ok (.getfield 11, 3) := by decide +kernel
theorem dX7_firstDoorFrom_69 : decode cX7_firstDoorFrom 69 = .ok (.iload_n 3, 1) := by decide +kernel
theorem dX7_firstDoorFrom_70 : decode cX7_firstDoorFrom 70 = .ok (.iaload, 1) := by decide +kernel
theorem dX7_firstDoorFrom_71 : decode cX7_firstDoorFrom 71 = .ok (.iaload, 1) := by decide +kernel
theorem dX7_firstDoorFrom_72 : decode cX7_firstDoorFrom 72 = .ok (.iload_n 2, 1) := by decide +kernel
theorem dX7_firstDoorFrom_73 : decode cX7_firstDoorFrom 73 = .ok (.if_icmp .ne 7, 3) := by decide +kernel
theorem dX7_firstDoorFrom_76 : decode cX7_firstDoorFrom 76 = .ok (.iconst 1, 1) := by decide +kernel
theorem dX7_firstDoorFrom_77 : decode cX7_firstDoorFrom 77 = .ok (.goto 4, 3) := by decide +kernel
theorem dX7_firstDoorFrom_80 : decode cX7_firstDoorFrom 80 = .ok (.iconst 0, 1) := by decide +kernel
theorem dX7_firstDoorFrom_81 : decode cX7_firstDoorFrom 81 = .ok (.istore 5, 2) := by decide +kernel
theorem dX7_firstDoorFrom_83 : decode cX7_firstDoorFrom 83 = .ok (.iload 4, 2) := by decide +kernel
theorem dX7_firstDoorFrom_85 : decode cX7_firstDoorFrom 85 = .ok (.ifCond .ne 8, 3) := by decide +kernel
theorem dX7_firstDoorFrom_88 : decode cX7_firstDoorFrom 88 = .ok (.iload 5, 2) := by decide +kernel
theorem dX7_firstDoorFrom_90 : decode cX7_firstDoorFrom 90 = .ok (.ifCond .eq 10, 3) := by decide +kernel
theorem dX7_firstDoorFrom_93 : decode cX7_firstDoorFrom 93 = .ok (.aload_n 0, 1) := by decide +kernel
theorem dX7_firstDoorFrom_94 : decode cX7_firstDoorFrom 94 = .ok (.getfield 18, 3) := by decide +kernel
theorem dX7_firstDoorFrom_97 : decode cX7_firstDoorFrom 97 = .ok (.iload_n 3, 1) := by decide +kernel
theorem dX7_firstDoorFrom_98 : decode cX7_firstDoorFrom 98 = .ok (.iaload, 1) := by decide +kernel
theorem dX7_firstDoorFrom_99 : decode cX7_firstDoorFrom 99 = .ok (.ireturn, 1) := by decide +kernel
theorem dX7_firstDoorFrom_100 : decode cX7_firstDoorFrom 100 = .ok (.iinc 3 1, 3) := by decide +kernel
theorem dX7_firstDoorFrom_103 : decode cX7_firstDoorFrom 103 = .ok (.goto (-92), 3) := by decide +kernel
theorem dX7_firstDoorFrom_106 : decode cX7_firstDoorFrom 106 = .ok (.ldc 49, 2) := by decide +kernel
theorem dX7_firstDoorFrom_108 : decode cX7_firstDoorFrom 108 = .ok (.ireturn, 1) := by decide +kernel
theorem dX7_farWith_0 : decode cX7_farWith 0 = .ok (.aload_n 0, 1) := by decide +kernel
theorem dX7_farWith_1 : decode cX7_farWith 1 = .ok (.iload_n 1, 1) := by decide +kernel
theorem dX7_farWith_2 : decode cX7_farWith 2 = .ok (.iload_n 2, 1) := by decide +kernel
theorem dX7_farWith_3 : decode cX7_farWith 3 = .ok (.ldc 49, 2) := by decide +kernel
theorem dX7_farWith_5 : decode cX7_farWith 5 = .ok (.invokevirtual 45, 3) := by decide +kernel
theorem dX7_farWith_8 : decode cX7_farWith 8 = .ok (.aload_n 0, 1) := by decide +kernel
theorem dX7_farWith_9 : decode cX7_farWith 9 = .ok (.iload_n 3, 1) := by decide +kernel
theorem dX7_farWith_10 : decode cX7_farWith 10 = .ok (.invokevirtual 59, 3) := by decide +kernel
theorem dX7_farWith_13 : decode cX7_farWith 13 = .ok (.aload_n 0, 1) := by decide +kernel
theorem dX7_farWith_14 : decode cX7_farWith 14 = .ok (.dup, 1) := by decide +kernel
theorem dX7_farWith_15 : decode cX7_farWith 15 = .ok (.getfield 24, 3) := by decide +kernel
theorem dX7_farWith_18 : decode cX7_farWith 18 = .ok (.iconst 1, 1) := by decide +kernel
theorem dX7_farWith_19 : decode cX7_farWith 19 = .ok (.isub, 1) := by decide +kernel
theorem dX7_farWith_20 : decode cX7_farWith 20 = .ok (.putfield 24, 3) := by decide +kernel
theorem dX7_farWith_23 : decode cX7_farWith 23 = .ok (.aload_n 0, 1) := by decide +kernel
theorem dX7_farWith_24 : decode cX7_farWith 24 = .ok (.getfield 21, 3) := by decide +kernel
theorem dX7_farWith_27 : decode cX7_farWith 27 = .ok (.iload 4, 2) := by decide +kernel
theorem dX7_farWith_29 : decode cX7_farWith 29 = .ok (.iaload, 1) := by decide +kernel
theorem dX7_farWith_30 : decode cX7_farWith 30 = .ok (.ireturn, 1) := by decide +kernel
end
section
theorem yd_X6_cellOf : yX6_cellOf.cls ≠ "java/lang/invoke/MethodHandle" ∧ yX6_cellOf.cls ≠ "java/lang/invoke/VarHandle" ∧ (parseMethodDescriptor yX6_cellOf.desc).map (fun d => d.parameters.length) = some 2 := by decide +kernel
def w_X6_cellOf  (M : Mem) (x0 : Int32) (x1 : Int32) (Q : Int32 → Mem → Prop) : Prop :=
  Q ((x0 * 6) + x1) M
abbrev rm_X6_cellOf : Room := { frames := 3, cells := 0, slots := 0, locals := 60 }
set_option maxHeartbeats 4000000 in
set_option maxRecDepth 100000 in
theorem c_X6_cellOf (X : Cx)  (M : Mem) (x0 : Int32) (x1 : Int32) (Q : Int32 → Mem → Prop) (h : w_X6_cellOf  M x0 x1 Q) : Ct yX6_cellOf cX6_cellOf 2 (some .int) rm_X6_cellOf X M [.int x0, .int x1] (Qi X Q) := by
  refine ct_of (own := RX6) (lv := [(0, .int x0), (1, .int x1)]) rfl (by decide) (Nat.le_of_ble_eq_true rfl) rfl ?_
  intro K C
  unfold w_X6_cellOf at h
  refine r_iload_n (pc := 0) C 0 dX6_cellOf_0 rfl ?_
  refine r_bipush (pc := 1) (v := 6) C dX6_cellOf_1 (by decide) ?_
  refine r_imul (pc := 3) C dX6_cellOf_3 ?_
  refine r_iload_n (pc := 4) C 1 dX6_cellOf_4 rfl ?_
  refine r_iadd (pc := 5) C dX6_cellOf_5 ?_
  exact r_iret (pc := 6) C dX6_cellOf_6 h
theorem yd_X6_begin : yX6_begin.cls ≠ "java/lang/invoke/MethodHandle" ∧ yX6_begin.cls ≠ "java/lang/invoke/VarHandle" ∧ (parseMethodDescriptor yX6_begin.desc).map (fun d => d.parameters.length) = some 2 := by decide +kernel
def w_X6_begin (k0 : Nat) (M : Mem) (x1 : Int32) (x2 : Int32) (Q : Mem → Prop) : Prop :=
  ∀ M1 : Mem, M1 = ms M k0 0 x1 → (∀ M2 : Mem, M2 = ms M1 k0 1 x2 → (∀ M3 : Mem, M3 = ms M2 k0 2 0 → (∀ M4 : Mem, M4 = ms M3 k0 3 0 → (∀ M5 : Mem, M5 = ms M4 k0 4 0 → (∀ M6 : Mem, M6 = ms M5 k0 5 0 → (Q M6))))))
abbrev rm_X6_begin : Room := { frames := 3, cells := 0, slots := 0, locals := 60 }
set_option maxHeartbeats 4000000 in
set_option maxRecDepth 100000 in
theorem c_X6_begin (X : Cx) (k0 : Nat) (h0 : kd k0 = 6) (M : Mem) (x1 : Int32) (x2 : Int32) (Q : Mem → Prop) (h : w_X6_begin k0 M x1 x2 Q) : Ct yX6_begin cX6_begin 3 none rm_X6_begin X M [.ref (ad X k0), .int x1, .int x2] (Qv X Q) := by
  refine ct_of (own := RX6) (lv := [(0, .ref (ad X k0)), (1, .int x1), (2, .int x2)]) rfl (by decide) (Nat.le_of_ble_eq_true rfl) rfl ?_
  intro K C
  unfold w_X6_begin at h
  refine r_aload_n (pc := 0) C 0 dX6_begin_0 rfl ?_
  refine r_iload_n (pc := 1) C 1 dX6_begin_1 rfl ?_
  refine r_put (pc := 2) (k := k0) (j := 0) (Cn := RX6) (T := TX6) (N := 16) (host := "") C (bdT h0) (ceT h0 _) rfl iaX6 (by decide) (ceT h0 _) tyX6_ok nmX6 aw272 rfl rfl (tyX6_ok 0 (by decide)) (Nat.le_of_ble_eq_true rfl) dX6_begin_2 ?_
  refine r_topM (fun M1 eM1 => ?_)
  replace h := h M1 eM1
  refine r_aload_n (pc := 5) C 0 dX6_begin_5 rfl ?_
  refine r_iload_n (pc := 6) C 2 dX6_begin_6 rfl ?_
  refine r_put (pc := 7) (k := k0) (j := 1) (Cn := RX6) (T := TX6) (N := 16) (host := "") C (bdT h0) (ceT h0 _) rfl iaX6 (by decide) (ceT h0 _) tyX6_ok nmX6 aw273 rfl rfl (tyX6_ok 1 (by decide)) (Nat.le_of_ble_eq_true rfl) dX6_begin_7 ?_
  refine r_topM (fun M2 eM2 => ?_)
  replace h := h M2 eM2
  refine r_aload_n (pc := 10) C 0 dX6_begin_10 rfl ?_
  refine r_iconst (pc := 11) (v := 0) C dX6_begin_11 (by decide) ?_
  refine r_put (pc := 12) (k := k0) (j := 2) (Cn := RX6) (T := TX6) (N := 16) (host := "") C (bdT h0) (ceT h0 _) rfl iaX6 (by decide) (ceT h0 _) tyX6_ok nmX6 aw274 rfl rfl (tyX6_ok 2 (by decide)) (Nat.le_of_ble_eq_true rfl) dX6_begin_12 ?_
  refine r_topM (fun M3 eM3 => ?_)
  replace h := h M3 eM3
  refine r_aload_n (pc := 15) C 0 dX6_begin_15 rfl ?_
  refine r_iconst (pc := 16) (v := 0) C dX6_begin_16 (by decide) ?_
  refine r_put (pc := 17) (k := k0) (j := 3) (Cn := RX6) (T := TX6) (N := 16) (host := "") C (bdT h0) (ceT h0 _) rfl iaX6 (by decide) (ceT h0 _) tyX6_ok nmX6 aw275 rfl rfl (tyX6_ok 3 (by decide)) (Nat.le_of_ble_eq_true rfl) dX6_begin_17 ?_
  refine r_topM (fun M4 eM4 => ?_)
  replace h := h M4 eM4
  refine r_aload_n (pc := 20) C 0 dX6_begin_20 rfl ?_
  refine r_iconst (pc := 21) (v := 0) C dX6_begin_21 (by decide) ?_
  refine r_put (pc := 22) (k := k0) (j := 4) (Cn := RX6) (T := TX6) (N := 16) (host := "") C (bdT h0) (ceT h0 _) rfl iaX6 (by decide) (ceT h0 _) tyX6_ok nmX6 aw276 rfl rfl (tyX6_ok 4 (by decide)) (Nat.le_of_ble_eq_true rfl) dX6_begin_22 ?_
  refine r_topM (fun M5 eM5 => ?_)
  replace h := h M5 eM5
  refine r_aload_n (pc := 25) C 0 dX6_begin_25 rfl ?_
  refine r_iconst (pc := 26) (v := 0) C dX6_begin_26 (by decide) ?_
  refine r_put (pc := 27) (k := k0) (j := 5) (Cn := RX6) (T := TX6) (N := 16) (host := "") C (bdT h0) (ceT h0 _) rfl iaX6 (by decide) (ceT h0 _) tyX6_ok nmX6 aw277 rfl rfl (tyX6_ok 5 (by decide)) (Nat.le_of_ble_eq_true rfl) dX6_begin_27 ?_
  refine r_topM (fun M6 eM6 => ?_)
  replace h := h M6 eM6
  exact r_vret (pc := 30) C dX6_begin_30 h
theorem yd_X6_tiedTo : yX6_tiedTo.cls ≠ "java/lang/invoke/MethodHandle" ∧ yX6_tiedTo.cls ≠ "java/lang/invoke/VarHandle" ∧ (parseMethodDescriptor yX6_tiedTo.desc).map (fun d => d.parameters.length) = some 1 := by decide +kernel
def w_X6_tiedTo (k0 : Nat) (M : Mem) (x1 : Int32) (Q : Int32 → Mem → Prop) : Prop :=
  vp_in x1 6 ∧ (vp_in x1 6 ∧ (Q ((M (k0 + 7) (Int32.toNatClampNeg x1)) ||| (M (k0 + 8) (Int32.toNatClampNeg x1))) M))
abbrev rm_X6_tiedTo : Room := { frames := 3, cells := 0, slots := 0, locals := 60 }
set_option maxHeartbeats 4000000 in
set_option maxRecDepth 100000 in
theorem c_X6_tiedTo (X : Cx) (k0 : Nat) (h0 : kd k0 = 6) (M : Mem) (x1 : Int32) (Q : Int32 → Mem → Prop) (h : w_X6_tiedTo k0 M x1 Q) : Ct yX6_tiedTo cX6_tiedTo 2 (some .int) rm_X6_tiedTo X M [.ref (ad X k0), .int x1] (Qi X Q) := by
  refine ct_of (own := RX6) (lv := [(0, .ref (ad X k0)), (1, .int x1)]) rfl (by decide) (Nat.le_of_ble_eq_true rfl) rfl ?_
  intro K C
  unfold w_X6_tiedTo at h
  refine r_aload_n (pc := 0) C 0 dX6_tiedTo_0 rfl ?_
  refine r_get (pc := 1) (k := k0) (j := 12) (Cn := RX6) (T := TX6) (N := 16) C (bdT h0) (ceT h0 _) rfl iaX6 (by decide) aw72 rfl rfl dX6_tiedTo_1 ?_
  refine r_iload_n (pc := 4) C 1 dX6_tiedTo_4 rfl ?_
  obtain ⟨g1, h⟩ := h
  refine q_iald (pc := 5) (k := (k0 + 7)) (n := 6) (j := (Int32.toNatClampNeg x1)) C (bdT7 h0) (ceT7 h0 _) g1 rfl dX6_tiedTo_5 ?_
  refine r_aload_n (pc := 6) C 0 dX6_tiedTo_6 rfl ?_
  refine r_get (pc := 7) (k := k0) (j := 13) (Cn := RX6) (T := TX6) (N := 16) C (bdT h0) (ceT h0 _) rfl iaX6 (by decide) aw73 rfl rfl dX6_tiedTo_7 ?_
  refine r_iload_n (pc := 10) C 1 dX6_tiedTo_10 rfl ?_
  obtain ⟨g2, h⟩ := h
  refine q_iald (pc := 11) (k := (k0 + 8)) (n := 6) (j := (Int32.toNatClampNeg x1)) C (bdT8 h0) (ceT8 h0 _) g2 rfl dX6_tiedTo_11 ?_
  refine r_ior (pc := 12) C dX6_tiedTo_12 ?_
  exact r_iret (pc := 13) C dX6_tiedTo_13 h
theorem yd_X6_isAtDoor : yX6_isAtDoor.cls ≠ "java/lang/invoke/MethodHandle" ∧ yX6_isAtDoor.cls ≠ "java/lang/invoke/VarHandle" ∧ (parseMethodDescriptor yX6_isAtDoor.desc).map (fun d => d.parameters.length) = some 2 := by decide +kernel
def w_X6_isAtDoor (k0 : Nat) (M : Mem) (x1 : Int32) (x2 : Int32) (Q : Int32 → Mem → Prop) : Prop :=
  vp_in x2 6 ∧ (vp_in x1 6 ∧ ((((M (k0 + 1) (Int32.toNatClampNeg x2)) = (M (k0 + 4) (Int32.toNatClampNeg x1))) → (Q 1 M)) ∧ ((¬ (M (k0 + 1) (Int32.toNatClampNeg x2)) = (M (k0 + 4) (Int32.toNatClampNeg x1))) → (vp_in x2 6 ∧ (vp_in x1 6 ∧ (((¬ (M (k0 + 2) (Int32.toNatClampNeg x2)) = (M (k0 + 4) (Int32.toNatClampNeg x1))) → (Q 0 M)) ∧ (((M (k0 + 2) (Int32.toNatClampNeg x2)) = (M (k0 + 4) (Int32.toNatClampNeg x1))) → (Q 1 M))))))))
abbrev rm_X6_isAtDoor : Room := { frames := 3, cells := 0, slots := 0, locals := 60 }
set_option maxHeartbeats 4000000 in
set_option maxRecDepth 100000 in
theorem c_X6_isAtDoor (X : Cx) (k0 : Nat) (h0 : kd k0 = 6) (M : Mem) (x1 : Int32) (x2 : Int32) (Q : Int32 → Mem → Prop) (h : w_X6_isAtDoor k0 M x1 x2 Q) : Ct yX6_isAtDoor cX6_isAtDoor 3 (some .boolean) rm_X6_isAtDoor X M [.ref (ad X k0), .int x1, .int x2] (Qi X Q) := by
  refine ct_of (own := RX6) (lv := [(0, .ref (ad X k0)), (1, .int x1), (2, .int x2)]) rfl (by decide) (Nat.le_of_ble_eq_true rfl) rfl ?_
  intro K C
  unfold w_X6_isAtDoor at h
  refine r_aload_n (pc := 0) C 0 dX6_isAtDoor_0 rfl ?_
  refine r_get (pc := 1) (k := k0) (j := 6) (Cn := RX6) (T := TX6) (N := 16) C (bdT h0) (ceT h0 _) rfl iaX6 (by decide) aw66 rfl rfl dX6_isAtDoor_1 ?_
  refine r_iload_n (pc := 4) C 2 dX6_isAtDoor_4 rfl ?_
  obtain ⟨g1, h⟩ := h
  refine q_iald (pc := 5) (k := (k0 + 1)) (n := 6) (j := (Int32.toNatClampNeg x2)) C (bdT1 h0) (ceT1 h0 _) g1 rfl dX6_isAtDoor_5 ?_
  refine r_aload_n (pc := 6) C 0 dX6_isAtDoor_6 rfl ?_
  refine r_get (pc := 7) (k := k0) (j := 9) (Cn := RX6) (T := TX6) (N := 16) C (bdT h0) (ceT h0 _) rfl iaX6 (by decide) aw69 rfl rfl dX6_isAtDoor_7 ?_
  refine r_iload_n (pc := 10) C 1 dX6_isAtDoor_10 rfl ?_
  obtain ⟨g2, h⟩ := h
  refine q_iald (pc := 11) (k := (k0 + 4)) (n := 6) (j := (Int32.toNatClampNeg x1)) C (bdT4 h0) (ceT4 h0 _) g2 rfl dX6_isAtDoor_11 ?_
  refine r_icmp_eq (pc := 12) (tgt := 30) C dX6_isAtDoor_12 (by decide) (fun c3 => ?_) (fun c3 => ?_)
  · have h := h.1 c3
    refine r_iconst (pc := 30) (v := 1) C dX6_isAtDoor_30 (by decide) ?_
    refine r_goto (pc := 31) (tgt := 35) C dX6_isAtDoor_31 (by decide) ?_
    exact r_zret (pc := 35) C dX6_isAtDoor_35 (Or.inr rfl) h
  · have h := h.2 c3
    refine r_aload_n (pc := 15) C 0 dX6_isAtDoor_15 rfl ?_
    refine r_get (pc := 16) (k := k0) (j := 7) (Cn := RX6) (T := TX6) (N := 16) C (bdT h0) (ceT h0 _) rfl iaX6 (by decide) aw67 rfl rfl dX6_isAtDoor_16 ?_
    refine r_iload_n (pc := 19) C 2 dX6_isAtDoor_19 rfl ?_
    obtain ⟨g4, h⟩ := h
    refine q_iald (pc := 20) (k := (k0 + 2)) (n := 6) (j := (Int32.toNatClampNeg x2)) C (bdT2 h0) (ceT2 h0 _) g4 rfl dX6_isAtDoor_20 ?_
    refine r_aload_n (pc := 21) C 0 dX6_isAtDoor_21 rfl ?_
    refine r_get (pc := 22) (k := k0) (j := 9) (Cn := RX6) (T := TX6) (N := 16) C (bdT h0) (ceT h0 _) rfl iaX6 (by decide) aw69 rfl rfl dX6_isAtDoor_22 ?_
    refine r_iload_n (pc := 25) C 1 dX6_isAtDoor_25 rfl ?_
    obtain ⟨g5, h⟩ := h
    refine q_iald (pc := 26) (k := (k0 + 4)) (n := 6) (j := (Int32.toNatClampNeg x1)) C (bdT4 h0) (ceT4 h0 _) g5 rfl dX6_isAtDoor_26 ?_
    refine r_icmp_ne (pc := 27) (tgt := 34) C dX6_isAtDoor_27 (by decide) (fun c6 => ?_) (fun c6 => ?_)
    · have h := h.1 c6
      refine r_iconst (pc := 34) (v := 0) C dX6_isAtDoor_34 (by decide) ?_
      exact r_zret (pc := 35) C dX6_isAtDoor_35 (Or.inl rfl) h
    · have h := h.2 c6
      refine r_iconst (pc := 30) (v := 1) C dX6_isAtDoor_30 (by decide) ?_
      refine r_goto (pc := 31) (tgt := 35) C dX6_isAtDoor_31 (by decide) ?_
      exact r_zret (pc := 35) C dX6_isAtDoor_35 (Or.inr rfl) h
theorem yd_X6_cross : yX6_cross.cls ≠ "java/lang/invoke/MethodHandle" ∧ yX6_cross.cls ≠ "java/lang/invoke/VarHandle" ∧ (parseMethodDescriptor yX6_cross.desc).map (fun d => d.parameters.length) = some 2 := by decide +kernel
def w_X6_cross (k0 : Nat) (M : Mem) (x1 : Int32) (x2 : Int32) (Q : Mem → Prop) : Prop :=
  vp_in x1 6 ∧ (vp_in x2 6 ∧ (((¬ (M (k0 + 4) (Int32.toNatClampNeg x1)) = (M (k0 + 1) (Int32.toNatClampNeg x2))) → (vp_in x2 6 ∧ (∀ v5 : Int32, v5 = (M (k0 + 1) (Int32.toNatClampNeg x2)) → (vp_in x1 6 ∧ (∀ M7 : Mem, M7 = ms M (k0 + 4) (Int32.toNatClampNeg x1) v5 → (Q M7)))))) ∧ (((M (k0 + 4) (Int32.toNatClampNeg x1)) = (M (k0 + 1) (Int32.toNatClampNeg x2))) → (vp_in x2 6 ∧ (∀ v9 : Int32, v9 = (M (k0 + 2) (Int32.toNatClampNeg x2)) → (vp_in x1 6 ∧ (∀ M11 : Mem, M11 = ms M (k0 + 4) (Int32.toNatClampNeg x1) v9 → (Q M11))))))))
abbrev rm_X6_cross : Room := { frames := 3, cells := 0, slots := 0, locals := 60 }
set_option maxHeartbeats 4000000 in
set_option maxRecDepth 100000 in
theorem c_X6_cross (X : Cx) (k0 : Nat) (h0 : kd k0 = 6) (M : Mem) (x1 : Int32) (x2 : Int32) (Q : Mem → Prop) (h : w_X6_cross k0 M x1 x2 Q) : Ct yX6_cross cX6_cross 3 none rm_X6_cross X M [.ref (ad X k0), .int x1, .int x2] (Qv X Q) := by
  refine ct_of (own := RX6) (lv := [(0, .ref (ad X k0)), (1, .int x1), (2, .int x2)]) rfl (by decide) (Nat.le_of_ble_eq_true rfl) rfl ?_
  intro K C
  unfold w_X6_cross at h
  refine r_aload_n (pc := 0) C 0 dX6_cross_0 rfl ?_
  refine r_get (pc := 1) (k := k0) (j := 9) (Cn := RX6) (T := TX6) (N := 16) C (bdT h0) (ceT h0 _) rfl iaX6 (by decide) aw69 rfl rfl dX6_cross_1 ?_
  refine r_iload_n (pc := 4) C 1 dX6_cross_4 rfl ?_
  refine r_aload_n (pc := 5) C 0 dX6_cross_5 rfl ?_
  refine r_get (pc := 6) (k := k0) (j := 9) (Cn := RX6) (T := TX6) (N := 16) C (bdT h0) (ceT h0 _) rfl iaX6 (by decide) aw69 rfl rfl dX6_cross_6 ?_
  refine r_iload_n (pc := 9) C 1 dX6_cross_9 rfl ?_
  obtain ⟨g1, h⟩ := h
  refine q_iald (pc := 10) (k := (k0 + 4)) (n := 6) (j := (Int32.toNatClampNeg x1)) C (bdT4 h0) (ceT4 h0 _) g1 rfl dX6_cross_10 ?_
  refine r_aload_n (pc := 11) C 0 dX6_cross_11 rfl ?_
  refine r_get (pc := 12) (k := k0) (j := 6) (Cn := RX6) (T := TX6) (N := 16) C (bdT h0) (ceT h0 _) rfl iaX6 (by decide) aw66 rfl rfl dX6_cross_12 ?_
  refine r_iload_n (pc := 15) C 2 dX6_cross_15 rfl ?_
  obtain ⟨g2, h⟩ := h
  refine q_iald (pc := 16) (k := (k0 + 1)) (n := 6) (j := (Int32.toNatClampNeg x2)) C (bdT1 h0) (ceT1 h0 _) g2 rfl dX6_cross_16 ?_
  refine r_icmp_ne (pc := 17) (tgt := 29) C dX6_cross_17 (by decide) (fun c3 => ?_) (fun c3 => ?_)
  · have h := h.1 c3
    refine r_aload_n (pc := 29) C 0 dX6_cross_29 rfl ?_
    refine r_get (pc := 30) (k := k0) (j := 6) (Cn := RX6) (T := TX6) (N := 16) C (bdT h0) (ceT h0 _) rfl iaX6 (by decide) aw66 rfl rfl dX6_cross_30 ?_
    refine r_iload_n (pc := 33) C 2 dX6_cross_33 rfl ?_
    obtain ⟨g4, h⟩ := h
    refine q_iald (pc := 34) (k := (k0 + 1)) (n := 6) (j := (Int32.toNatClampNeg x2)) C (bdT1 h0) (ceT1 h0 _) g4 rfl dX6_cross_34 ?_
    refine r_topi (fun v5 ev5 => ?_)
    replace h := h v5 ev5
    obtain ⟨g6, h⟩ := h
    refine q_iast (pc := 35) (k := (k0 + 4)) (n := 6) (j := (Int32.toNatClampNeg x1)) C (bdT4 h0) (ceT4 h0) g6 rfl dX6_cross_35 ?_
    refine r_topM (fun M7 eM7 => ?_)
    replace h := h M7 eM7
    exact r_vret (pc := 36) C dX6_cross_36 h
  · have h := h.2 c3
    refine r_aload_n (pc := 20) C 0 dX6_cross_20 rfl ?_
    refine r_get (pc := 21) (k := k0) (j := 7) (Cn := RX6) (T := TX6) (N := 16) C (bdT h0) (ceT h0 _) rfl iaX6 (by decide) aw67 rfl rfl dX6_cross_21 ?_
    refine r_iload_n (pc := 24) C 2 dX6_cross_24 rfl ?_
    obtain ⟨g8, h⟩ := h
    refine q_iald (pc := 25) (k := (k0 + 2)) (n := 6) (j := (Int32.toNatClampNeg x2)) C (bdT2 h0) (ceT2 h0 _) g8 rfl dX6_cross_25 ?_
    refine r_goto (pc := 26) (tgt := 35) C dX6_cross_26 (by decide) ?_
    refine r_topi (fun v9 ev9 => ?_)
    replace h := h v9 ev9
    obtain ⟨g10, h⟩ := h
    refine q_iast (pc := 35) (k := (k0 + 4)) (n := 6) (j := (Int32.toNatClampNeg x1)) C (bdT4 h0) (ceT4 h0) g10 rfl dX6_cross_35 ?_
    refine r_topM (fun M11 eM11 => ?_)
    replace h := h M11 eM11
    exact r_vret (pc := 36) C dX6_cross_36 h
theorem yd_X6_mark : yX6_mark.cls ≠ "java/lang/invoke/MethodHandle" ∧ yX6_mark.cls ≠ "java/lang/invoke/VarHandle" ∧ (parseMethodDescriptor yX6_mark.desc).map (fun d => d.parameters.length) = some 2 := by decide +kernel
def w_X6_mark (k0 : Nat) (M : Mem) (x1 : Int32) (x2 : Int32) (Q : Mem → Prop) : Prop :=
  w_X6_cellOf  M x1 x2 (fun r2 M1 => vp_in r2 36 ∧ (∀ v4 : Int32, v4 = (if 99 < ((M1 (k0 + 9) (Int32.toNatClampNeg r2)) + 1) then 99 else ((M1 (k0 + 9) (Int32.toNatClampNeg r2)) + 1)) → (vp_in r2 36 ∧ (∀ M6 : Mem, M6 = ms M1 (k0 + 9) (Int32.toNatClampNeg r2) v4 → (∀ v7 : Int32, v7 = (M6 k0 5) → (vp_in r2 36 ∧ (∀ M9 : Mem, M9 = ms M6 (k0 + 10) (Int32.toNatClampNeg r2) v7 → (Q M9))))))))
abbrev rm_X6_mark : Room := { frames := 6, cells := 0, slots := 0, locals := 120 }
set_option maxHeartbeats 4000000 in
set_option maxRecDepth 100000 in
theorem c_X6_mark (X : Cx) (k0 : Nat) (h0 : kd k0 = 6) (M : Mem) (x1 : Int32) (x2 : Int32) (Q : Mem → Prop) (h : w_X6_mark k0 M x1 x2 Q) : Ct yX6_mark cX6_mark 4 none rm_X6_mark X M [.ref (ad X k0), .int x1, .int x2] (Qv X Q) := by
  refine ct_of (own := RX6) (lv := [(0, .ref (ad X k0)), (1, .int x1), (2, .int x2)]) rfl (by decide) (Nat.le_of_ble_eq_true rfl) rfl ?_
  intro K C
  unfold w_X6_mark at h
  refine r_iload_n (pc := 0) C 1 dX6_mark_0 rfl ?_
  refine r_iload_n (pc := 1) C 2 dX6_mark_1 rfl ?_
  have hM := c_X6_cellOf X  M x1 x2 _ h
  refine q_s0 (s1 := List.reverse [.int x1, .int x2] ++ []) rfl ?_
  refine r_callSi (pc := 2) (As := [.int x1, .int x2]) (st := []) C 2 hM aw286 aw287 aw288 aw28 yd_X6_cellOf ⟨rfl, rfl⟩ ⟨Nat.le_of_ble_eq_true rfl, Nat.le_of_ble_eq_true rfl⟩ rfl (Nat.le_of_ble_eq_true rfl) dX6_mark_2 (fun r2 M1 h => ?_)
  refine r_istore_n (pc := 5) (lv2 := [(3, .int r2), (0, .ref (ad X k0)), (1, .int x1), (2, .int x2)]) C dX6_mark_5 (by decide) rfl ?_
  refine r_aload_n (pc := 6) C 1 dX6_mark_6 rfl ?_
  refine r_get (pc := 7) (k := k0) (j := 14) (Cn := RX6) (T := TX6) (N := 16) C (bdT h0) (ceT h0 _) rfl iaX6 (by decide) aw74 rfl rfl dX6_mark_7 ?_
  refine r_iload_n (pc := 10) C 0 dX6_mark_10 rfl ?_
  refine r_aload_n (pc := 11) C 1 dX6_mark_11 rfl ?_
  refine r_get (pc := 12) (k := k0) (j := 14) (Cn := RX6) (T := TX6) (N := 16) C (bdT h0) (ceT h0 _) rfl iaX6 (by decide) aw74 rfl rfl dX6_mark_12 ?_
  refine r_iload_n (pc := 15) C 0 dX6_mark_15 rfl ?_
  obtain ⟨g3, h⟩ := h
  refine q_iald (pc := 16) (k := (k0 + 9)) (n := 36) (j := (Int32.toNatClampNeg r2)) C (bdT9 h0) (ceT9 h0 _) g3 rfl dX6_mark_16 ?_
  refine r_iconst (pc := 17) (v := 1) C dX6_mark_17 (by decide) ?_
  refine r_iadd (pc := 18) C dX6_mark_18 ?_
  refine r_bipush (pc := 19) (v := 99) C dX6_mark_19 (by decide) ?_
  refine r_min (pc := 21) C aw477 (Nat.le_of_ble_eq_true rfl) (Nat.le_of_ble_eq_true rfl) dX6_mark_21 ?_
  refine r_topi (fun v4 ev4 => ?_)
  replace h := h v4 ev4
  obtain ⟨g5, h⟩ := h
  refine q_iast (pc := 24) (k := (k0 + 9)) (n := 36) (j := (Int32.toNatClampNeg r2)) C (bdT9 h0) (ceT9 h0) g5 rfl dX6_mark_24 ?_
  refine r_topM (fun M6 eM6 => ?_)
  replace h := h M6 eM6
  refine r_aload_n (pc := 25) C 1 dX6_mark_25 rfl ?_
  refine r_get (pc := 26) (k := k0) (j := 15) (Cn := RX6) (T := TX6) (N := 16) C (bdT h0) (ceT h0 _) rfl iaX6 (by decide) aw75 rfl rfl dX6_mark_26 ?_
  refine r_iload_n (pc := 29) C 0 dX6_mark_29 rfl ?_
  refine r_aload_n (pc := 30) C 1 dX6_mark_30 rfl ?_
  refine r_get (pc := 31) (k := k0) (j := 5) (Cn := RX6) (T := TX6) (N := 16) C (bdT h0) (ceT h0 _) rfl iaX6 (by decide) aw277 rfl rfl dX6_mark_31 ?_
  refine r_topi (fun v7 ev7 => ?_)
  replace h := h v7 ev7
  obtain ⟨g8, h⟩ := h
  refine q_iast (pc := 34) (k := (k0 + 10)) (n := 36) (j := (Int32.toNatClampNeg r2)) C (bdT10 h0) (ceT10 h0) g8 rfl dX6_mark_34 ?_
  refine r_topM (fun M9 eM9 => ?_)
  replace h := h M9 eM9
  exact r_vret (pc := 35) C dX6_mark_35 h
theorem yd_X6_pass : yX6_pass.cls ≠ "java/lang/invoke/MethodHandle" ∧ yX6_pass.cls ≠ "java/lang/invoke/VarHandle" ∧ (parseMethodDescriptor yX6_pass.desc).map (fun d => d.parameters.length) = some 2 := by decide +kernel
def w_X6_pass (k0 : Nat) (M : Mem) (x1 : Int32) (x2 : Int32) (Q : Mem → Prop) : Prop :=
  w_X6_mark k0 M x1 x2 (fun M1 => w_X6_cross k0 M1 x1 x2 (fun M3 => Q M3))
abbrev rm_X6_pass : Room := { frames := 9, cells := 0, slots := 0, locals := 180 }
set_option maxHeartbeats 4000000 in
set_option maxRecDepth 100000 in
theorem c_X6_pass (X : Cx) (k0 : Nat) (h0 : kd k0 = 6) (M : Mem) (x1 : Int32) (x2 : Int32) (Q : Mem → Prop) (h : w_X6_pass k0 M x1 x2 Q) : Ct yX6_pass cX6_pass 3 none rm_X6_pass X M [.ref (ad X k0), .int x1, .int x2] (Qv X Q) := by
  refine ct_of (own := RX6) (lv := [(0, .ref (ad X k0)), (1, .int x1), (2, .int x2)]) rfl (by decide) (Nat.le_of_ble_eq_true rfl) rfl ?_
  intro K C
  unfold w_X6_pass at h
  refine r_aload_n (pc := 0) C 0 dX6_pass_0 rfl ?_
  refine r_iload_n (pc := 1) C 1 dX6_pass_1 rfl ?_
  refine r_iload_n (pc := 2) C 2 dX6_pass_2 rfl ?_
  have hM := c_X6_mark X k0 h0 M x1 x2 _ h
  refine q_s0 (s1 := List.reverse [.int x1, .int x2] ++ .ref (ad X k0) :: []) rfl ?_
  refine r_callVv (pc := 3) (k := k0) (As := [.int x1, .int x2]) (st := []) C 2 (bdT h0) (ceT h0 _) rfl aw474 aw475 hM aw473 aw476 aw28 yd_X6_mark ⟨rfl, rfl⟩ ⟨Nat.le_of_ble_eq_true rfl, Nat.le_of_ble_eq_true rfl⟩ rfl (Nat.le_of_ble_eq_true rfl) dX6_pass_3 (fun M1 h => ?_)
  refine r_aload_n (pc := 6) C 0 dX6_pass_6 rfl ?_
  refine r_iload_n (pc := 7) C 1 dX6_pass_7 rfl ?_
  refine r_iload_n (pc := 8) C 2 dX6_pass_8 rfl ?_
  have hM := c_X6_cross X k0 h0 M1 x1 x2 _ h
  refine q_s0 (s1 := List.reverse [.int x1, .int x2] ++ .ref (ad X k0) :: []) rfl ?_
  refine r_callVv (pc := 9) (k := k0) (As := [.int x1, .int x2]) (st := []) C 2 (bdT h0) (ceT h0 _) rfl aw401 aw402 hM aw478 aw403 aw28 yd_X6_cross ⟨rfl, rfl⟩ ⟨Nat.le_of_ble_eq_true rfl, Nat.le_of_ble_eq_true rfl⟩ rfl (Nat.le_of_ble_eq_true rfl) dX6_pass_9 (fun M3 h => ?_)
  exact r_vret (pc := 12) C dX6_pass_12 h
theorem yd_X6_freshIn : yX6_freshIn.cls ≠ "java/lang/invoke/MethodHandle" ∧ yX6_freshIn.cls ≠ "java/lang/invoke/VarHandle" ∧ (parseMethodDescriptor yX6_freshIn.desc).map (fun d => d.parameters.length) = some 1 := by decide +kernel
def wJ_X6_freshIn_30 (k0 : Nat) (Q : Int32 → Mem → Prop)  (M : Mem) (x1 : Int32) (s0 : Int32) : Prop :=
  ((s0 = 0) → (vp_in x1 36 ∧ (Q ((M (k0 + 9) (Int32.toNatClampNeg x1)) / 2) M))) ∧ ((¬ s0 = 0) → (vp_in x1 36 ∧ (Q (M (k0 + 9) (Int32.toNatClampNeg x1)) M)))
def wJ_X6_freshIn_25 (k0 : Nat) (Q : Int32 → Mem → Prop)  (M : Mem) (x1 : Int32) : Prop :=
  wJ_X6_freshIn_30 k0 Q  M x1 1
def w_X6_freshIn (k0 : Nat) (M : Mem) (x1 : Int32) (Q : Int32 → Mem → Prop) : Prop :=
  (((M k0 1) = 0) → (wJ_X6_freshIn_25 k0 Q  M x1)) ∧ ((¬ (M k0 1) = 0) → (vp_in x1 36 ∧ ((((M k0 1) < ((M k0 5) - (M (k0 + 10) (Int32.toNatClampNeg x1)))) → (wJ_X6_freshIn_30 k0 Q  M x1 0)) ∧ ((¬ (M k0 1) < ((M k0 5) - (M (k0 + 10) (Int32.toNatClampNeg x1)))) → (wJ_X6_freshIn_25 k0 Q  M x1)))))
abbrev rm_X6_freshIn : Room := { frames := 3, cells := 0, slots := 0, locals := 60 }
set_option maxHeartbeats 4000000 in
set_option maxRecDepth 100000 in
theorem c_X6_freshIn (X : Cx) (k0 : Nat) (h0 : kd k0 = 6) (M : Mem) (x1 : Int32) (Q : Int32 → Mem → Prop) (h : w_X6_freshIn k0 M x1 Q) : Ct yX6_freshIn cX6_freshIn 3 (some .int) rm_X6_freshIn X M [.ref (ad X k0), .int x1] (Qi X Q) := by
  refine ct_of (own := RX6) (lv := [(0, .ref (ad X k0)), (1, .int x1)]) rfl (by decide) (Nat.le_of_ble_eq_true rfl) rfl ?_
  intro K C
  have hJ30 : ∀  (M : Mem) (x1 : Int32) (s0 : Int32), wJ_X6_freshIn_30 k0 Q  M x1 s0 → WX K X 3 (Qi X Q) M 30 [(0, .ref (ad X k0)), (1, .int x1)] [.int s0] := by
    intro  M x1 s0 h
    unfold wJ_X6_freshIn_30 at h
    refine r_istore_n (pc := 30) (lv2 := [(2, .int s0), (0, .ref (ad X k0)), (1, .int x1)]) C dX6_freshIn_30 (by decide) rfl ?_
    refine r_iload_n (pc := 31) C 0 dX6_freshIn_31 rfl ?_
    refine r_if_eq (pc := 32) (tgt := 44) C dX6_freshIn_32 (by decide) (fun c1 => ?_) (fun c1 => ?_)
    · have h := h.1 c1
      refine r_aload_n (pc := 44) C 1 dX6_freshIn_44 rfl ?_
      refine r_get (pc := 45) (k := k0) (j := 14) (Cn := RX6) (T := TX6) (N := 16) C (bdT h0) (ceT h0 _) rfl iaX6 (by decide) aw74 rfl rfl dX6_freshIn_45 ?_
      refine r_iload_n (pc := 48) C 2 dX6_freshIn_48 rfl ?_
      obtain ⟨g2, h⟩ := h
      refine q_iald (pc := 49) (k := (k0 + 9)) (n := 36) (j := (Int32.toNatClampNeg x1)) C (bdT9 h0) (ceT9 h0 _) g2 rfl dX6_freshIn_49 ?_
      refine r_iconst (pc := 50) (v := 2) C dX6_freshIn_50 (by decide) ?_
      refine r_idiv (pc := 51) C dX6_freshIn_51 (by decide) ?_
      exact r_iret (pc := 52) C dX6_freshIn_52 h
    · have h := h.2 c1
      refine r_aload_n (pc := 35) C 1 dX6_freshIn_35 rfl ?_
      refine r_get (pc := 36) (k := k0) (j := 14) (Cn := RX6) (T := TX6) (N := 16) C (bdT h0) (ceT h0 _) rfl iaX6 (by decide) aw74 rfl rfl dX6_freshIn_36 ?_
      refine r_iload_n (pc := 39) C 2 dX6_freshIn_39 rfl ?_
      obtain ⟨g3, h⟩ := h
      refine q_iald (pc := 40) (k := (k0 + 9)) (n := 36) (j := (Int32.toNatClampNeg x1)) C (bdT9 h0) (ceT9 h0 _) g3 rfl dX6_freshIn_40 ?_
      refine r_goto (pc := 41) (tgt := 52) C dX6_freshIn_41 (by decide) ?_
      exact r_iret (pc := 52) C dX6_freshIn_52 h
  have hJ25 : ∀  (M : Mem) (x1 : Int32), wJ_X6_freshIn_25 k0 Q  M x1 → WX K X 3 (Qi X Q) M 25 [(0, .ref (ad X k0)), (1, .int x1)] [] := by
    intro  M x1 h
    unfold wJ_X6_freshIn_25 at h
    refine r_iconst (pc := 25) (v := 1) C dX6_freshIn_25 (by decide) ?_
    refine r_goto (pc := 26) (tgt := 30) C dX6_freshIn_26 (by decide) ?_
    refine r_sub (lv2 := [(0, .ref (ad X k0)), (1, .int x1)]) [0, 1] rfl ?_
    exact hJ30  _ _ _ h
  unfold w_X6_freshIn at h
  refine r_aload_n (pc := 0) C 0 dX6_freshIn_0 rfl ?_
  refine r_get (pc := 1) (k := k0) (j := 1) (Cn := RX6) (T := TX6) (N := 16) C (bdT h0) (ceT h0 _) rfl iaX6 (by decide) aw273 rfl rfl dX6_freshIn_1 ?_
  refine r_if_eq (pc := 4) (tgt := 25) C dX6_freshIn_4 (by decide) (fun c1 => ?_) (fun c1 => ?_)
  · have h := h.1 c1
    refine r_sub (lv2 := [(0, .ref (ad X k0)), (1, .int x1)]) [0, 1] rfl ?_
    exact hJ25  _ _ h
  · have h := h.2 c1
    refine r_aload_n (pc := 7) C 0 dX6_freshIn_7 rfl ?_
    refine r_get (pc := 8) (k := k0) (j := 5) (Cn := RX6) (T := TX6) (N := 16) C (bdT h0) (ceT h0 _) rfl iaX6 (by decide) aw277 rfl rfl dX6_freshIn_8 ?_
    refine r_aload_n (pc := 11) C 0 dX6_freshIn_11 rfl ?_
    refine r_get (pc := 12) (k := k0) (j := 15) (Cn := RX6) (T := TX6) (N := 16) C (bdT h0) (ceT h0 _) rfl iaX6 (by decide) aw75 rfl rfl dX6_freshIn_12 ?_
    refine r_iload_n (pc := 15) C 1 dX6_freshIn_15 rfl ?_
    obtain ⟨g2, h⟩ := h
    refine q_iald (pc := 16) (k := (k0 + 10)) (n := 36) (j := (Int32.toNatClampNeg x1)) C (bdT10 h0) (ceT10 h0 _) g2 rfl dX6_freshIn_16 ?_
    refine r_isub (pc := 17) C dX6_freshIn_17 ?_
    refine r_aload_n (pc := 18) C 0 dX6_freshIn_18 rfl ?_
    refine r_get (pc := 19) (k := k0) (j := 1) (Cn := RX6) (T := TX6) (N := 16) C (bdT h0) (ceT h0 _) rfl iaX6 (by decide) aw273 rfl rfl dX6_freshIn_19 ?_
    refine r_icmp_gt (pc := 22) (tgt := 29) C dX6_freshIn_22 (by decide) (fun c3 => ?_) (fun c3 => ?_)
    · have h := h.1 c3
      refine r_iconst (pc := 29) (v := 0) C dX6_freshIn_29 (by decide) ?_
      refine r_sub (lv2 := [(0, .ref (ad X k0)), (1, .int x1)]) [0, 1] rfl ?_
      exact hJ30  _ _ _ h
    · have h := h.2 c3
      refine r_sub (lv2 := [(0, .ref (ad X k0)), (1, .int x1)]) [0, 1] rfl ?_
      exact hJ25  _ _ h
theorem yd_X6_weightOf : yX6_weightOf.cls ≠ "java/lang/invoke/MethodHandle" ∧ yX6_weightOf.cls ≠ "java/lang/invoke/VarHandle" ∧ (parseMethodDescriptor yX6_weightOf.desc).map (fun d => d.parameters.length) = some 2 := by decide +kernel
def w_X6_weightOf (k0 : Nat) (M : Mem) (x1 : Int32) (x2 : Int32) (Q : Int32 → Mem → Prop) : Prop :=
  w_X6_cellOf  M x1 x2 (fun r2 M1 => vp_in x1 6 ∧ (∀ v4 : Int32, v4 = (M1 (k0 + 3) (Int32.toNatClampNeg x1)) → ((v4 = 2 → (w_X6_freshIn k0 M1 r2 (fun r7 M6 => ((¬ x2 = 0) → (Q (r7 + 0) M6)) ∧ ((x2 = 0) → (Q (r7 + 9) M6))))) ∧ (v4 = 3 → (vp_in r2 36 ∧ (((¬ ((M1 (k0 + 9) (Int32.toNatClampNeg r2)) - (M1 (k0 + 9) (Int32.toNatClampNeg r2)) / 3 * 3) = 0) → (w_X6_freshIn k0 M1 r2 (fun r13 M12 => Q r13 M12))) ∧ ((((M1 (k0 + 9) (Int32.toNatClampNeg r2)) - (M1 (k0 + 9) (Int32.toNatClampNeg r2)) / 3 * 3) = 0) → (Q 0 M1))))) ∧ (v4 = 4 → (vp_in r2 36 ∧ (((¬ (M1 (k0 + 9) (Int32.toNatClampNeg r2)) = 0) → (Q 1 M1)) ∧ (((M1 (k0 + 9) (Int32.toNatClampNeg r2)) = 0) → (Q 0 M1))))) ∧ (v4 = 5 → (vp_in r2 36 ∧ (((¬ (M1 (k0 + 9) (Int32.toNatClampNeg r2)) = 0) → (Q 2 M1)) ∧ (((M1 (k0 + 9) (Int32.toNatClampNeg r2)) = 0) → (Q 0 M1))))) ∧ (¬ v4 = 2 → ¬ v4 = 3 → ¬ v4 = 4 → ¬ v4 = 5 → (w_X6_freshIn k0 M1 r2 (fun r21 M20 => Q r21 M20))))))
abbrev rm_X6_weightOf : Room := { frames := 6, cells := 0, slots := 0, locals := 120 }
set_option maxHeartbeats 4000000 in
set_option maxRecDepth 100000 in
theorem c_X6_weightOf (X : Cx) (k0 : Nat) (h0 : kd k0 = 6) (M : Mem) (x1 : Int32) (x2 : Int32) (Q : Int32 → Mem → Prop) (h : w_X6_weightOf k0 M x1 x2 Q) : Ct yX6_weightOf cX6_weightOf 4 (some .int) rm_X6_weightOf X M [.ref (ad X k0), .int x1, .int x2] (Qi X Q) := by
  refine ct_of (own := RX6) (lv := [(0, .ref (ad X k0)), (1, .int x1), (2, .int x2)]) rfl (by decide) (Nat.le_of_ble_eq_true rfl) rfl ?_
  intro K C
  unfold w_X6_weightOf at h
  refine r_iload_n (pc := 0) C 1 dX6_weightOf_0 rfl ?_
  refine r_iload_n (pc := 1) C 2 dX6_weightOf_1 rfl ?_
  have hM := c_X6_cellOf X  M x1 x2 _ h
  refine q_s0 (s1 := List.reverse [.int x1, .int x2] ++ []) rfl ?_
  refine r_callSi (pc := 2) (As := [.int x1, .int x2]) (st := []) C 2 hM aw286 aw287 aw288 aw28 yd_X6_cellOf ⟨rfl, rfl⟩ ⟨Nat.le_of_ble_eq_true rfl, Nat.le_of_ble_eq_true rfl⟩ rfl (Nat.le_of_ble_eq_true rfl) dX6_weightOf_2 (fun r2 M1 h => ?_)
  refine r_istore_n (pc := 5) (lv2 := [(3, .int r2), (0, .ref (ad X k0)), (1, .int x1), (2, .int x2)]) C dX6_weightOf_5 (by decide) rfl ?_
  refine r_aload_n (pc := 6) C 1 dX6_weightOf_6 rfl ?_
  refine r_get (pc := 7) (k := k0) (j := 8) (Cn := RX6) (T := TX6) (N := 16) C (bdT h0) (ceT h0 _) rfl iaX6 (by decide) aw68 rfl rfl dX6_weightOf_7 ?_
  refine r_iload_n (pc := 10) C 2 dX6_weightOf_10 rfl ?_
  obtain ⟨g3, h⟩ := h
  refine q_iald (pc := 11) (k := (k0 + 3)) (n := 6) (j := (Int32.toNatClampNeg x1)) C (bdT3 h0) (ceT3 h0 _) g3 rfl dX6_weightOf_11 ?_
  refine r_topi (fun v4 ev4 => ?_)
  replace h := h v4 ev4
  by_cases e5 : v4 = 2
  · have h := h.1 e5
    refine r_tabIn (pc := 12) (off := 32) (tgt := 44) C 2 e5 dX6_weightOf_12 (by decide) (by decide) (by decide) (by decide) ?_
    refine r_aload_n (pc := 44) C 1 dX6_weightOf_44 rfl ?_
    refine r_iload_n (pc := 45) C 0 dX6_weightOf_45 rfl ?_
    have hM := c_X6_freshIn X k0 h0 M1 r2 _ h
    refine q_s0 (s1 := List.reverse [.int r2] ++ .ref (ad X k0) :: []) rfl ?_
    refine r_callVi (pc := 46) (k := k0) (As := [.int r2]) (st := []) C 1 (bdT h0) (ceT h0 _) rfl aw436 aw437 hM aw435 aw438 aw28 yd_X6_freshIn ⟨rfl, rfl⟩ ⟨Nat.le_of_ble_eq_true rfl, Nat.le_of_ble_eq_true rfl⟩ rfl (Nat.le_of_ble_eq_true rfl) dX6_weightOf_46 (fun r7 M6 h => ?_)
    refine r_iload_n (pc := 49) C 3 dX6_weightOf_49 rfl ?_
    refine r_if_ne (pc := 50) (tgt := 58) C dX6_weightOf_50 (by decide) (fun c8 => ?_) (fun c8 => ?_)
    · have h := h.1 c8
      refine r_iconst (pc := 58) (v := 0) C dX6_weightOf_58 (by decide) ?_
      refine r_iadd (pc := 59) C dX6_weightOf_59 ?_
      exact r_iret (pc := 60) C dX6_weightOf_60 h
    · have h := h.2 c8
      refine r_bipush (pc := 53) (v := 9) C dX6_weightOf_53 (by decide) ?_
      refine r_goto (pc := 55) (tgt := 59) C dX6_weightOf_55 (by decide) ?_
      refine r_iadd (pc := 59) C dX6_weightOf_59 ?_
      exact r_iret (pc := 60) C dX6_weightOf_60 h
  · skip
    by_cases e9 : v4 = 3
    · have h := h.2.1 e9
      refine r_tabIn (pc := 12) (off := 49) (tgt := 61) C 3 e9 dX6_weightOf_12 (by decide) (by decide) (by decide) (by decide) ?_
      refine r_aload_n (pc := 61) C 1 dX6_weightOf_61 rfl ?_
      refine r_get (pc := 62) (k := k0) (j := 14) (Cn := RX6) (T := TX6) (N := 16) C (bdT h0) (ceT h0 _) rfl iaX6 (by decide) aw74 rfl rfl dX6_weightOf_62 ?_
      refine r_iload_n (pc := 65) C 0 dX6_weightOf_65 rfl ?_
      obtain ⟨g10, h⟩ := h
      refine q_iald (pc := 66) (k := (k0 + 9)) (n := 36) (j := (Int32.toNatClampNeg r2)) C (bdT9 h0) (ceT9 h0 _) g10 rfl dX6_weightOf_66 ?_
      refine r_iconst (pc := 67) (v := 3) C dX6_weightOf_67 (by decide) ?_
      refine r_irem (pc := 68) C dX6_weightOf_68 (by decide) ?_
      refine r_if_ne (pc := 69) (tgt := 76) C dX6_weightOf_69 (by decide) (fun c11 => ?_) (fun c11 => ?_)
      · have h := h.1 c11
        refine r_aload_n (pc := 76) C 1 dX6_weightOf_76 rfl ?_
        refine r_iload_n (pc := 77) C 0 dX6_weightOf_77 rfl ?_
        have hM := c_X6_freshIn X k0 h0 M1 r2 _ h
        refine q_s0 (s1 := List.reverse [.int r2] ++ .ref (ad X k0) :: []) rfl ?_
        refine r_callVi (pc := 78) (k := k0) (As := [.int r2]) (st := []) C 1 (bdT h0) (ceT h0 _) rfl aw436 aw437 hM aw435 aw438 aw28 yd_X6_freshIn ⟨rfl, rfl⟩ ⟨Nat.le_of_ble_eq_true rfl, Nat.le_of_ble_eq_true rfl⟩ rfl (Nat.le_of_ble_eq_true rfl) dX6_weightOf_78 (fun r13 M12 h => ?_)
        exact r_iret (pc := 81) C dX6_weightOf_81 h
      · have h := h.2 c11
        refine r_iconst (pc := 72) (v := 0) C dX6_weightOf_72 (by decide) ?_
        refine r_goto (pc := 73) (tgt := 81) C dX6_weightOf_73 (by decide) ?_
        exact r_iret (pc := 81) C dX6_weightOf_81 h
    · skip
      by_cases e14 : v4 = 4
      · have h := h.2.2.1 e14
        refine r_tabIn (pc := 12) (off := 70) (tgt := 82) C 4 e14 dX6_weightOf_12 (by decide) (by decide) (by decide) (by decide) ?_
        refine r_aload_n (pc := 82) C 1 dX6_weightOf_82 rfl ?_
        refine r_get (pc := 83) (k := k0) (j := 14) (Cn := RX6) (T := TX6) (N := 16) C (bdT h0) (ceT h0 _) rfl iaX6 (by decide) aw74 rfl rfl dX6_weightOf_83 ?_
        refine r_iload_n (pc := 86) C 0 dX6_weightOf_86 rfl ?_
        obtain ⟨g15, h⟩ := h
        refine q_iald (pc := 87) (k := (k0 + 9)) (n := 36) (j := (Int32.toNatClampNeg r2)) C (bdT9 h0) (ceT9 h0 _) g15 rfl dX6_weightOf_87 ?_
        refine r_if_ne (pc := 88) (tgt := 95) C dX6_weightOf_88 (by decide) (fun c16 => ?_) (fun c16 => ?_)
        · have h := h.1 c16
          refine r_iconst (pc := 95) (v := 1) C dX6_weightOf_95 (by decide) ?_
          exact r_iret (pc := 96) C dX6_weightOf_96 h
        · have h := h.2 c16
          refine r_iconst (pc := 91) (v := 0) C dX6_weightOf_91 (by decide) ?_
          refine r_goto (pc := 92) (tgt := 96) C dX6_weightOf_92 (by decide) ?_
          exact r_iret (pc := 96) C dX6_weightOf_96 h
      · skip
        by_cases e17 : v4 = 5
        · have h := h.2.2.2.1 e17
          refine r_tabIn (pc := 12) (off := 85) (tgt := 97) C 5 e17 dX6_weightOf_12 (by decide) (by decide) (by decide) (by decide) ?_
          refine r_aload_n (pc := 97) C 1 dX6_weightOf_97 rfl ?_
          refine r_get (pc := 98) (k := k0) (j := 14) (Cn := RX6) (T := TX6) (N := 16) C (bdT h0) (ceT h0 _) rfl iaX6 (by decide) aw74 rfl rfl dX6_weightOf_98 ?_
          refine r_iload_n (pc := 101) C 0 dX6_weightOf_101 rfl ?_
          obtain ⟨g18, h⟩ := h
          refine q_iald (pc := 102) (k := (k0 + 9)) (n := 36) (j := (Int32.toNatClampNeg r2)) C (bdT9 h0) (ceT9 h0 _) g18 rfl dX6_weightOf_102 ?_
          refine r_if_ne (pc := 103) (tgt := 110) C dX6_weightOf_103 (by decide) (fun c19 => ?_) (fun c19 => ?_)
          · have h := h.1 c19
            refine r_iconst (pc := 110) (v := 2) C dX6_weightOf_110 (by decide) ?_
            exact r_iret (pc := 111) C dX6_weightOf_111 h
          · have h := h.2 c19
            refine r_iconst (pc := 106) (v := 0) C dX6_weightOf_106 (by decide) ?_
            refine r_goto (pc := 107) (tgt := 111) C dX6_weightOf_107 (by decide) ?_
            exact r_iret (pc := 111) C dX6_weightOf_111 h
        · skip
          have h := h.2.2.2.2 e5 e9 e14 e17
          refine r_tabOut (pc := 12) (tgt := 112) C dX6_weightOf_12 (by have ke5 := ne_toInt (n := 2) e5 (by decide); have ke9 := ne_toInt (n := 3) e9 (by decide); have ke14 := ne_toInt (n := 4) e14 (by decide); have ke17 := ne_toInt (n := 5) e17 (by decide); omega) (by decide) ?_
          refine r_aload_n (pc := 112) C 1 dX6_weightOf_112 rfl ?_
          refine r_iload_n (pc := 113) C 0 dX6_weightOf_113 rfl ?_
          have hM := c_X6_freshIn X k0 h0 M1 r2 _ h
          refine q_s0 (s1 := List.reverse [.int r2] ++ .ref (ad X k0) :: []) rfl ?_
          refine r_callVi (pc := 114) (k := k0) (As := [.int r2]) (st := []) C 1 (bdT h0) (ceT h0 _) rfl aw436 aw437 hM aw435 aw438 aw28 yd_X6_freshIn ⟨rfl, rfl⟩ ⟨Nat.le_of_ble_eq_true rfl, Nat.le_of_ble_eq_true rfl⟩ rfl (Nat.le_of_ble_eq_true rfl) dX6_weightOf_114 (fun r21 M20 h => ?_)
          exact r_iret (pc := 117) C dX6_weightOf_117 h
theorem yd_X6_timesOf : yX6_timesOf.cls ≠ "java/lang/invoke/MethodHandle" ∧ yX6_timesOf.cls ≠ "java/lang/invoke/VarHandle" ∧ (parseMethodDescriptor yX6_timesOf.desc).map (fun d => d.parameters.length) = some 1 := by decide +kernel
def wB_X6_timesOf_4 (k0 : Nat) (Q : Int32 → Mem → Prop)  (R4 : Mem → Int32 → Int32 → Int32 → Prop) (M : Mem) (x1 : Int32) (x2 : Int32) (x3 : Int32) : Prop :=
  (((M k0 2) ≤ x3) → (Q x2 M)) ∧ ((¬ (M k0 2) ≤ x3) → (w_X6_cellOf  M x1 x3 (fun r3 M2 => vp_in r3 36 ∧ (∀ v5 : Int32, v5 = (x2 + (M2 (k0 + 9) (Int32.toNatClampNeg r3))) → (∀ v6 : Int32, v6 = x3 + 1 → (R4 M2 x1 v5 v6))))))
def wL_X6_timesOf_4 (k0 : Nat) (Q : Int32 → Mem → Prop)  : Nat → Mem → Int32 → Int32 → Int32 → Prop
  | 0 => fun _ _ _ _ => False
  | n + 1 => fun M x1 x2 x3 => wB_X6_timesOf_4 k0 Q  (wL_X6_timesOf_4 k0 Q  n) M x1 x2 x3
theorem wL_X6_timesOf_4_s {k0 : Nat} {Q : Int32 → Mem → Prop}  {n : Nat} {M : Mem} {x1 : Int32} {x2 : Int32} {x3 : Int32} (h : wL_X6_timesOf_4 k0 Q  (n + 1) M x1 x2 x3) : wB_X6_timesOf_4 k0 Q  (wL_X6_timesOf_4 k0 Q  n) M x1 x2 x3 := h
def w_X6_timesOf (k0 : Nat) (M : Mem) (x1 : Int32) (Q : Int32 → Mem → Prop) : Prop :=
  ∃ n1 : Nat, wL_X6_timesOf_4 k0 Q  n1 M x1 0 0
abbrev rm_X6_timesOf : Room := { frames := 6, cells := 0, slots := 0, locals := 120 }
set_option maxHeartbeats 4000000 in
set_option maxRecDepth 100000 in
theorem c_X6_timesOf (X : Cx) (k0 : Nat) (h0 : kd k0 = 6) (M : Mem) (x1 : Int32) (Q : Int32 → Mem → Prop) (h : w_X6_timesOf k0 M x1 Q) : Ct yX6_timesOf cX6_timesOf 4 (some .int) rm_X6_timesOf X M [.ref (ad X k0), .int x1] (Qi X Q) := by
  refine ct_of (own := RX6) (lv := [(0, .ref (ad X k0)), (1, .int x1)]) rfl (by decide) (Nat.le_of_ble_eq_true rfl) rfl ?_
  intro K C
  have hL4 : ∀  (n : Nat) (M : Mem) (x1 : Int32) (x2 : Int32) (x3 : Int32), wL_X6_timesOf_4 k0 Q  n M x1 x2 x3 → WX K X 4 (Qi X Q) M 4 [(0, .ref (ad X k0)), (1, .int x1), (2, .int x2), (3, .int x3)] [] := by
    intro  n
    induction n with
    | zero => intro M x1 x2 x3 h; exact absurd h id
    | succ n ih =>
      intro M x1 x2 x3 h
      replace h := wL_X6_timesOf_4_s h
      unfold wB_X6_timesOf_4 at h
      refine r_iload_n (pc := 4) C 3 dX6_timesOf_4 rfl ?_
      refine r_aload_n (pc := 5) C 0 dX6_timesOf_5 rfl ?_
      refine r_get (pc := 6) (k := k0) (j := 2) (Cn := RX6) (T := TX6) (N := 16) C (bdT h0) (ceT h0 _) rfl iaX6 (by decide) aw274 rfl rfl dX6_timesOf_6 ?_
      refine r_icmp_ge (pc := 9) (tgt := 31) C dX6_timesOf_9 (by decide) (fun c1 => ?_) (fun c1 => ?_)
      · have h := h.1 c1
        refine r_iload_n (pc := 31) C 2 dX6_timesOf_31 rfl ?_
        exact r_iret (pc := 32) C dX6_timesOf_32 h
      · have h := h.2 c1
        refine r_iload_n (pc := 12) C 2 dX6_timesOf_12 rfl ?_
        refine r_aload_n (pc := 13) C 0 dX6_timesOf_13 rfl ?_
        refine r_get (pc := 14) (k := k0) (j := 14) (Cn := RX6) (T := TX6) (N := 16) C (bdT h0) (ceT h0 _) rfl iaX6 (by decide) aw74 rfl rfl dX6_timesOf_14 ?_
        refine r_iload_n (pc := 17) C 1 dX6_timesOf_17 rfl ?_
        refine r_iload_n (pc := 18) C 3 dX6_timesOf_18 rfl ?_
        have hM := c_X6_cellOf X  M x1 x3 _ h
        refine q_s0 (s1 := List.reverse [.int x1, .int x3] ++ [.ref (ad X (k0 + 9)), .int x2]) rfl ?_
        refine r_callSi (pc := 19) (As := [.int x1, .int x3]) (st := [.ref (ad X (k0 + 9)), .int x2]) C 2 hM aw286 aw287 aw288 aw28 yd_X6_cellOf ⟨rfl, rfl⟩ ⟨Nat.le_of_ble_eq_true rfl, Nat.le_of_ble_eq_true rfl⟩ rfl (Nat.le_of_ble_eq_true rfl) dX6_timesOf_19 (fun r3 M2 h => ?_)
        obtain ⟨g4, h⟩ := h
        refine q_iald (pc := 22) (k := (k0 + 9)) (n := 36) (j := (Int32.toNatClampNeg r3)) C (bdT9 h0) (ceT9 h0 _) g4 rfl dX6_timesOf_22 ?_
        refine r_iadd (pc := 23) C dX6_timesOf_23 ?_
        refine r_topi (fun v5 ev5 => ?_)
        replace h := h v5 ev5
        refine r_istore_n (pc := 24) (lv2 := [(2, .int v5), (0, .ref (ad X k0)), (1, .int x1), (3, .int x3)]) C dX6_timesOf_24 (by decide) rfl ?_
        obtain ⟨v6, ev6⟩ : ∃ z : Int32, z = x3 + 1 := ⟨_, rfl⟩
        replace h := h v6 ev6
        refine r_iinc (pc := 25) (v := v6) (lv2 := [(3, .int v6), (2, .int v5), (0, .ref (ad X k0)), (1, .int x1)]) C 3 dX6_timesOf_25 rfl (by rw [ev6]; rfl) (by decide) rfl ?_
        refine r_goto (pc := 28) (tgt := 4) C dX6_timesOf_28 (by decide) ?_
        refine r_sub (lv2 := [(0, .ref (ad X k0)), (1, .int x1), (2, .int v5), (3, .int v6)]) [2, 3, 1, 0] rfl ?_
        exact ih _ _ _ _ h
  unfold w_X6_timesOf at h
  refine r_iconst (pc := 0) (v := 0) C dX6_timesOf_0 (by decide) ?_
  refine r_istore_n (pc := 1) (lv2 := [(2, .int 0), (0, .ref (ad X k0)), (1, .int x1)]) C dX6_timesOf_1 (by decide) rfl ?_
  refine r_iconst (pc := 2) (v := 0) C dX6_timesOf_2 (by decide) ?_
  refine r_istore_n (pc := 3) (lv2 := [(3, .int 0), (2, .int 0), (0, .ref (ad X k0)), (1, .int x1)]) C dX6_timesOf_3 (by decide) rfl ?_
  obtain ⟨n1, h⟩ := h
  refine r_sub (lv2 := [(0, .ref (ad X k0)), (1, .int x1), (2, .int 0), (3, .int 0)]) [2, 3, 1, 0] rfl ?_
  exact hL4  _ _ _ _ _ h
theorem yd_X6_addTie : yX6_addTie.cls ≠ "java/lang/invoke/MethodHandle" ∧ yX6_addTie.cls ≠ "java/lang/invoke/VarHandle" ∧ (parseMethodDescriptor yX6_addTie.desc).map (fun d => d.parameters.length) = some 3 := by decide +kernel
def w_X6_addTie (k0 : Nat) (k1 : Nat) (M : Mem) (x2 : Int32) (x3 : Int32) (Q : Mem → Prop) : Prop :=
  vp_in x2 (ln k1) ∧ (∀ v2 : Int32, v2 = ((M k1 (Int32.toNatClampNeg x2)) ||| (1 <<< (x3 &&& 31))) → (vp_in x2 (ln k1) ∧ (∀ M4 : Mem, M4 = ms M k1 (Int32.toNatClampNeg x2) v2 → (vp_in x3 (ln k1) ∧ (∀ v6 : Int32, v6 = ((M4 k1 (Int32.toNatClampNeg x3)) ||| (1 <<< (x2 &&& 31))) → (vp_in x3 (ln k1) ∧ (∀ M8 : Mem, M8 = ms M4 k1 (Int32.toNatClampNeg x3) v6 → (∀ v9 : Int32, v9 = ((M8 k0 4) + 1) → (∀ M10 : Mem, M10 = ms M8 k0 4 v9 → (Q M10))))))))))
abbrev rm_X6_addTie : Room := { frames := 3, cells := 0, slots := 0, locals := 60 }
set_option maxHeartbeats 4000000 in
set_option maxRecDepth 100000 in
theorem c_X6_addTie (X : Cx) (k0 : Nat) (h0 : kd k0 = 6) (k1 : Nat) (h1 : kd k1 = 10) (M : Mem) (x2 : Int32) (x3 : Int32) (Q : Mem → Prop) (h : w_X6_addTie k0 k1 M x2 x3 Q) : Ct yX6_addTie cX6_addTie 4 none rm_X6_addTie X M [.ref (ad X k0), .ref (ad X k1), .int x2, .int x3] (Qv X Q) := by
  refine ct_of (own := RX6) (lv := [(0, .ref (ad X k0)), (1, .ref (ad X k1)), (2, .int x2), (3, .int x3)]) rfl (by decide) (Nat.le_of_ble_eq_true rfl) rfl ?_
  intro K C
  unfold w_X6_addTie at h
  refine r_aload_n (pc := 0) C 1 dX6_addTie_0 rfl ?_
  refine r_iload_n (pc := 1) C 2 dX6_addTie_1 rfl ?_
  refine r_dup2 (pc := 2) C dX6_addTie_2 rfl rfl ?_
  obtain ⟨g1, h⟩ := h
  refine q_iald (pc := 3) (k := k1) (n := (ln k1)) (j := (Int32.toNatClampNeg x2)) C (bdA h1) (ceA h1 _) g1 rfl dX6_addTie_3 ?_
  refine r_iconst (pc := 4) (v := 1) C dX6_addTie_4 (by decide) ?_
  refine r_iload_n (pc := 5) C 3 dX6_addTie_5 rfl ?_
  refine r_ishl (pc := 6) C dX6_addTie_6 ?_
  refine r_ior (pc := 7) C dX6_addTie_7 ?_
  refine r_topi (fun v2 ev2 => ?_)
  replace h := h v2 ev2
  obtain ⟨g3, h⟩ := h
  refine q_iast (pc := 8) (k := k1) (n := (ln k1)) (j := (Int32.toNatClampNeg x2)) C (bdA h1) (ceA h1) g3 rfl dX6_addTie_8 ?_
  refine r_topM (fun M4 eM4 => ?_)
  replace h := h M4 eM4
  refine r_aload_n (pc := 9) C 1 dX6_addTie_9 rfl ?_
  refine r_iload_n (pc := 10) C 3 dX6_addTie_10 rfl ?_
  refine r_dup2 (pc := 11) C dX6_addTie_11 rfl rfl ?_
  obtain ⟨g5, h⟩ := h
  refine q_iald (pc := 12) (k := k1) (n := (ln k1)) (j := (Int32.toNatClampNeg x3)) C (bdA h1) (ceA h1 _) g5 rfl dX6_addTie_12 ?_
  refine r_iconst (pc := 13) (v := 1) C dX6_addTie_13 (by decide) ?_
  refine r_iload_n (pc := 14) C 2 dX6_addTie_14 rfl ?_
  refine r_ishl (pc := 15) C dX6_addTie_15 ?_
  refine r_ior (pc := 16) C dX6_addTie_16 ?_
  refine r_topi (fun v6 ev6 => ?_)
  replace h := h v6 ev6
  obtain ⟨g7, h⟩ := h
  refine q_iast (pc := 17) (k := k1) (n := (ln k1)) (j := (Int32.toNatClampNeg x3)) C (bdA h1) (ceA h1) g7 rfl dX6_addTie_17 ?_
  refine r_topM (fun M8 eM8 => ?_)
  replace h := h M8 eM8
  refine r_aload_n (pc := 18) C 0 dX6_addTie_18 rfl ?_
  refine r_dup (pc := 19) C dX6_addTie_19 rfl ?_
  refine r_get (pc := 20) (k := k0) (j := 4) (Cn := RX6) (T := TX6) (N := 16) C (bdT h0) (ceT h0 _) rfl iaX6 (by decide) aw276 rfl rfl dX6_addTie_20 ?_
  refine r_iconst (pc := 23) (v := 1) C dX6_addTie_23 (by decide) ?_
  refine r_iadd (pc := 24) C dX6_addTie_24 ?_
  refine r_topi (fun v9 ev9 => ?_)
  replace h := h v9 ev9
  refine r_put (pc := 25) (k := k0) (j := 4) (Cn := RX6) (T := TX6) (N := 16) (host := "") C (bdT h0) (ceT h0 _) rfl iaX6 (by decide) (ceT h0 _) tyX6_ok nmX6 aw276 rfl rfl (tyX6_ok 4 (by decide)) (Nat.le_of_ble_eq_true rfl) dX6_addTie_25 ?_
  refine r_topM (fun M10 eM10 => ?_)
  replace h := h M10 eM10
  exact r_vret (pc := 28) C dX6_addTie_28 h
theorem yd_X6_become : yX6_become.cls ≠ "java/lang/invoke/MethodHandle" ∧ yX6_become.cls ≠ "java/lang/invoke/VarHandle" ∧ (parseMethodDescriptor yX6_become.desc).map (fun d => d.parameters.length) = some 1 := by decide +kernel
def w_X6_become (k0 : Nat) (k1 : Nat) (M : Mem)  (Q : Mem → Prop) : Prop :=
  ∀ v1 : Int32, v1 = (M k1 0) → (∀ M2 : Mem, M2 = ms M k0 0 v1 → (∀ v3 : Int32, v3 = (M2 k1 1) → (∀ M4 : Mem, M4 = ms M2 k0 1 v3 → (∀ v5 : Int32, v5 = (M4 k1 2) → (∀ M6 : Mem, M6 = ms M4 k0 2 v5 → (∀ v7 : Int32, v7 = (M6 k1 3) → (∀ M8 : Mem, M8 = ms M6 k0 3 v7 → (∀ v9 : Int32, v9 = (M8 k1 4) → (∀ M10 : Mem, M10 = ms M8 k0 4 v9 → (∀ v11 : Int32, v11 = (M10 k1 5) → (∀ M12 : Mem, M12 = ms M10 k0 5 v11 → (∀ M13 : Mem, M13 = mcp M12 (k1 + 1) (k0 + 1) 0 0 6 → (∀ M14 : Mem, M14 = mcp M13 (k1 + 2) (k0 + 2) 0 0 6 → (∀ M15 : Mem, M15 = mcp M14 (k1 + 3) (k0 + 3) 0 0 6 → (∀ M16 : Mem, M16 = mcp M15 (k1 + 4) (k0 + 4) 0 0 6 → (∀ M17 : Mem, M17 = mcp M16 (k1 + 5) (k0 + 5) 0 0 6 → (∀ M18 : Mem, M18 = mcp M17 (k1 + 6) (k0 + 6) 0 0 6 → (∀ M19 : Mem, M19 = mcp M18 (k1 + 7) (k0 + 7) 0 0 6 → (∀ M20 : Mem, M20 = mcp M19 (k1 + 8) (k0 + 8) 0 0 6 → (∀ M21 : Mem, M21 = mcp M20 (k1 + 9) (k0 + 9) 0 0 36 → (∀ M22 : Mem, M22 = mcp M21 (k1 + 10) (k0 + 10) 0 0 36 → (Q M22))))))))))))))))))))))
abbrev rm_X6_become : Room := { frames := 3, cells := 0, slots := 0, locals := 60 }
set_option maxHeartbeats 4000000 in
set_option maxRecDepth 100000 in
theorem c_X6_become (X : Cx) (k0 : Nat) (h0 : kd k0 = 6) (k1 : Nat) (h1 : kd k1 = 6) (M : Mem)  (Q : Mem → Prop) (h : w_X6_become k0 k1 M  Q) : Ct yX6_become cX6_become 2 none rm_X6_become X M [.ref (ad X k0), .ref (ad X k1)] (Qv X Q) := by
  refine ct_of (own := RX6) (lv := [(0, .ref (ad X k0)), (1, .ref (ad X k1))]) rfl (by decide) (Nat.le_of_ble_eq_true rfl) rfl ?_
  intro K C
  unfold w_X6_become at h
  refine r_aload_n (pc := 0) C 0 dX6_become_0 rfl ?_
  refine r_aload_n (pc := 1) C 1 dX6_become_1 rfl ?_
  refine r_get (pc := 2) (k := k1) (j := 0) (Cn := RX6) (T := TX6) (N := 16) C (bdT h1) (ceT h1 _) rfl iaX6 (by decide) aw272 rfl rfl dX6_become_2 ?_
  refine r_topi (fun v1 ev1 => ?_)
  replace h := h v1 ev1
  refine r_put (pc := 5) (k := k0) (j := 0) (Cn := RX6) (T := TX6) (N := 16) (host := "") C (bdT h0) (ceT h0 _) rfl iaX6 (by decide) (ceT h0 _) tyX6_ok nmX6 aw272 rfl rfl (tyX6_ok 0 (by decide)) (Nat.le_of_ble_eq_true rfl) dX6_become_5 ?_
  refine r_topM (fun M2 eM2 => ?_)
  replace h := h M2 eM2
  refine r_aload_n (pc := 8) C 0 dX6_become_8 rfl ?_
  refine r_aload_n (pc := 9) C 1 dX6_become_9 rfl ?_
  refine r_get (pc := 10) (k := k1) (j := 1) (Cn := RX6) (T := TX6) (N := 16) C (bdT h1) (ceT h1 _) rfl iaX6 (by decide) aw273 rfl rfl dX6_become_10 ?_
  refine r_topi (fun v3 ev3 => ?_)
  replace h := h v3 ev3
  refine r_put (pc := 13) (k := k0) (j := 1) (Cn := RX6) (T := TX6) (N := 16) (host := "") C (bdT h0) (ceT h0 _) rfl iaX6 (by decide) (ceT h0 _) tyX6_ok nmX6 aw273 rfl rfl (tyX6_ok 1 (by decide)) (Nat.le_of_ble_eq_true rfl) dX6_become_13 ?_
  refine r_topM (fun M4 eM4 => ?_)
  replace h := h M4 eM4
  refine r_aload_n (pc := 16) C 0 dX6_become_16 rfl ?_
  refine r_aload_n (pc := 17) C 1 dX6_become_17 rfl ?_
  refine r_get (pc := 18) (k := k1) (j := 2) (Cn := RX6) (T := TX6) (N := 16) C (bdT h1) (ceT h1 _) rfl iaX6 (by decide) aw274 rfl rfl dX6_become_18 ?_
  refine r_topi (fun v5 ev5 => ?_)
  replace h := h v5 ev5
  refine r_put (pc := 21) (k := k0) (j := 2) (Cn := RX6) (T := TX6) (N := 16) (host := "") C (bdT h0) (ceT h0 _) rfl iaX6 (by decide) (ceT h0 _) tyX6_ok nmX6 aw274 rfl rfl (tyX6_ok 2 (by decide)) (Nat.le_of_ble_eq_true rfl) dX6_become_21 ?_
  refine r_topM (fun M6 eM6 => ?_)
  replace h := h M6 eM6
  refine r_aload_n (pc := 24) C 0 dX6_become_24 rfl ?_
  refine r_aload_n (pc := 25) C 1 dX6_become_25 rfl ?_
  refine r_get (pc := 26) (k := k1) (j := 3) (Cn := RX6) (T := TX6) (N := 16) C (bdT h1) (ceT h1 _) rfl iaX6 (by decide) aw275 rfl rfl dX6_become_26 ?_
  refine r_topi (fun v7 ev7 => ?_)
  replace h := h v7 ev7
  refine r_put (pc := 29) (k := k0) (j := 3) (Cn := RX6) (T := TX6) (N := 16) (host := "") C (bdT h0) (ceT h0 _) rfl iaX6 (by decide) (ceT h0 _) tyX6_ok nmX6 aw275 rfl rfl (tyX6_ok 3 (by decide)) (Nat.le_of_ble_eq_true rfl) dX6_become_29 ?_
  refine r_topM (fun M8 eM8 => ?_)
  replace h := h M8 eM8
  refine r_aload_n (pc := 32) C 0 dX6_become_32 rfl ?_
  refine r_aload_n (pc := 33) C 1 dX6_become_33 rfl ?_
  refine r_get (pc := 34) (k := k1) (j := 4) (Cn := RX6) (T := TX6) (N := 16) C (bdT h1) (ceT h1 _) rfl iaX6 (by decide) aw276 rfl rfl dX6_become_34 ?_
  refine r_topi (fun v9 ev9 => ?_)
  replace h := h v9 ev9
  refine r_put (pc := 37) (k := k0) (j := 4) (Cn := RX6) (T := TX6) (N := 16) (host := "") C (bdT h0) (ceT h0 _) rfl iaX6 (by decide) (ceT h0 _) tyX6_ok nmX6 aw276 rfl rfl (tyX6_ok 4 (by decide)) (Nat.le_of_ble_eq_true rfl) dX6_become_37 ?_
  refine r_topM (fun M10 eM10 => ?_)
  replace h := h M10 eM10
  refine r_aload_n (pc := 40) C 0 dX6_become_40 rfl ?_
  refine r_aload_n (pc := 41) C 1 dX6_become_41 rfl ?_
  refine r_get (pc := 42) (k := k1) (j := 5) (Cn := RX6) (T := TX6) (N := 16) C (bdT h1) (ceT h1 _) rfl iaX6 (by decide) aw277 rfl rfl dX6_become_42 ?_
  refine r_topi (fun v11 ev11 => ?_)
  replace h := h v11 ev11
  refine r_put (pc := 45) (k := k0) (j := 5) (Cn := RX6) (T := TX6) (N := 16) (host := "") C (bdT h0) (ceT h0 _) rfl iaX6 (by decide) (ceT h0 _) tyX6_ok nmX6 aw277 rfl rfl (tyX6_ok 5 (by decide)) (Nat.le_of_ble_eq_true rfl) dX6_become_45 ?_
  refine r_topM (fun M12 eM12 => ?_)
  replace h := h M12 eM12
  refine r_aload_n (pc := 48) C 1 dX6_become_48 rfl ?_
  refine r_get (pc := 49) (k := k1) (j := 6) (Cn := RX6) (T := TX6) (N := 16) C (bdT h1) (ceT h1 _) rfl iaX6 (by decide) aw66 rfl rfl dX6_become_49 ?_
  refine r_iconst (pc := 52) (v := 0) C dX6_become_52 (by decide) ?_
  refine r_aload_n (pc := 53) C 0 dX6_become_53 rfl ?_
  refine r_get (pc := 54) (k := k0) (j := 6) (Cn := RX6) (T := TX6) (N := 16) C (bdT h0) (ceT h0 _) rfl iaX6 (by decide) aw66 rfl rfl dX6_become_54 ?_
  refine r_iconst (pc := 57) (v := 0) C dX6_become_57 (by decide) ?_
  refine r_bipush (pc := 58) (v := 6) C dX6_become_58 (by decide) ?_
  refine q_copy (a := 0) (b := 0) (n2 := 6) (by decide) (by decide) (by decide) (pc := 60) (k0 := (k1 + 1)) (k1 := (k0 + 1)) (n0 := 6) (n1 := 6) C (bdT1 h1) (bdT1 h0) (ceT1 h1 _) (ceT1 h0) aw312 (by decide) (Nat.le_of_ble_eq_true rfl) (Nat.le_of_ble_eq_true rfl) dX6_become_60 ?_
  refine r_topM (fun M13 eM13 => ?_)
  replace h := h M13 eM13
  refine r_aload_n (pc := 63) C 1 dX6_become_63 rfl ?_
  refine r_get (pc := 64) (k := k1) (j := 7) (Cn := RX6) (T := TX6) (N := 16) C (bdT h1) (ceT h1 _) rfl iaX6 (by decide) aw67 rfl rfl dX6_become_64 ?_
  refine r_iconst (pc := 67) (v := 0) C dX6_become_67 (by decide) ?_
  refine r_aload_n (pc := 68) C 0 dX6_become_68 rfl ?_
  refine r_get (pc := 69) (k := k0) (j := 7) (Cn := RX6) (T := TX6) (N := 16) C (bdT h0) (ceT h0 _) rfl iaX6 (by decide) aw67 rfl rfl dX6_become_69 ?_
  refine r_iconst (pc := 72) (v := 0) C dX6_become_72 (by decide) ?_
  refine r_bipush (pc := 73) (v := 6) C dX6_become_73 (by decide) ?_
  refine q_copy (a := 0) (b := 0) (n2 := 6) (by decide) (by decide) (by decide) (pc := 75) (k0 := (k1 + 2)) (k1 := (k0 + 2)) (n0 := 6) (n1 := 6) C (bdT2 h1) (bdT2 h0) (ceT2 h1 _) (ceT2 h0) aw312 (by decide) (Nat.le_of_ble_eq_true rfl) (Nat.le_of_ble_eq_true rfl) dX6_become_75 ?_
  refine r_topM (fun M14 eM14 => ?_)
  replace h := h M14 eM14
  refine r_aload_n (pc := 78) C 1 dX6_become_78 rfl ?_
  refine r_get (pc := 79) (k := k1) (j := 8) (Cn := RX6) (T := TX6) (N := 16) C (bdT h1) (ceT h1 _) rfl iaX6 (by decide) aw68 rfl rfl dX6_become_79 ?_
  refine r_iconst (pc := 82) (v := 0) C dX6_become_82 (by decide) ?_
  refine r_aload_n (pc := 83) C 0 dX6_become_83 rfl ?_
  refine r_get (pc := 84) (k := k0) (j := 8) (Cn := RX6) (T := TX6) (N := 16) C (bdT h0) (ceT h0 _) rfl iaX6 (by decide) aw68 rfl rfl dX6_become_84 ?_
  refine r_iconst (pc := 87) (v := 0) C dX6_become_87 (by decide) ?_
  refine r_bipush (pc := 88) (v := 6) C dX6_become_88 (by decide) ?_
  refine q_copy (a := 0) (b := 0) (n2 := 6) (by decide) (by decide) (by decide) (pc := 90) (k0 := (k1 + 3)) (k1 := (k0 + 3)) (n0 := 6) (n1 := 6) C (bdT3 h1) (bdT3 h0) (ceT3 h1 _) (ceT3 h0) aw312 (by decide) (Nat.le_of_ble_eq_true rfl) (Nat.le_of_ble_eq_true rfl) dX6_become_90 ?_
  refine r_topM (fun M15 eM15 => ?_)
  replace h := h M15 eM15
  refine r_aload_n (pc := 93) C 1 dX6_become_93 rfl ?_
  refine r_get (pc := 94) (k := k1) (j := 9) (Cn := RX6) (T := TX6) (N := 16) C (bdT h1) (ceT h1 _) rfl iaX6 (by decide) aw69 rfl rfl dX6_become_94 ?_
  refine r_iconst (pc := 97) (v := 0) C dX6_become_97 (by decide) ?_
  refine r_aload_n (pc := 98) C 0 dX6_become_98 rfl ?_
  refine r_get (pc := 99) (k := k0) (j := 9) (Cn := RX6) (T := TX6) (N := 16) C (bdT h0) (ceT h0 _) rfl iaX6 (by decide) aw69 rfl rfl dX6_become_99 ?_
  refine r_iconst (pc := 102) (v := 0) C dX6_become_102 (by decide) ?_
  refine r_bipush (pc := 103) (v := 6) C dX6_become_103 (by decide) ?_
  refine q_copy (a := 0) (b := 0) (n2 := 6) (by decide) (by decide) (by decide) (pc := 105) (k0 := (k1 + 4)) (k1 := (k0 + 4)) (n0 := 6) (n1 := 6) C (bdT4 h1) (bdT4 h0) (ceT4 h1 _) (ceT4 h0) aw312 (by decide) (Nat.le_of_ble_eq_true rfl) (Nat.le_of_ble_eq_true rfl) dX6_become_105 ?_
  refine r_topM (fun M16 eM16 => ?_)
  replace h := h M16 eM16
  refine r_aload_n (pc := 108) C 1 dX6_become_108 rfl ?_
  refine r_get (pc := 109) (k := k1) (j := 10) (Cn := RX6) (T := TX6) (N := 16) C (bdT h1) (ceT h1 _) rfl iaX6 (by decide) aw70 rfl rfl dX6_become_109 ?_
  refine r_iconst (pc := 112) (v := 0) C dX6_become_112 (by decide) ?_
  refine r_aload_n (pc := 113) C 0 dX6_become_113 rfl ?_
  refine r_get (pc := 114) (k := k0) (j := 10) (Cn := RX6) (T := TX6) (N := 16) C (bdT h0) (ceT h0 _) rfl iaX6 (by decide) aw70 rfl rfl dX6_become_114 ?_
  refine r_iconst (pc := 117) (v := 0) C dX6_become_117 (by decide) ?_
  refine r_bipush (pc := 118) (v := 6) C dX6_become_118 (by decide) ?_
  refine q_copy (a := 0) (b := 0) (n2 := 6) (by decide) (by decide) (by decide) (pc := 120) (k0 := (k1 + 5)) (k1 := (k0 + 5)) (n0 := 6) (n1 := 6) C (bdT5 h1) (bdT5 h0) (ceT5 h1 _) (ceT5 h0) aw312 (by decide) (Nat.le_of_ble_eq_true rfl) (Nat.le_of_ble_eq_true rfl) dX6_become_120 ?_
  refine r_topM (fun M17 eM17 => ?_)
  replace h := h M17 eM17
  refine r_aload_n (pc := 123) C 1 dX6_become_123 rfl ?_
  refine r_get (pc := 124) (k := k1) (j := 11) (Cn := RX6) (T := TX6) (N := 16) C (bdT h1) (ceT h1 _) rfl iaX6 (by decide) aw71 rfl rfl dX6_become_124 ?_
  refine r_iconst (pc := 127) (v := 0) C dX6_become_127 (by decide) ?_
  refine r_aload_n (pc := 128) C 0 dX6_become_128 rfl ?_
  refine r_get (pc := 129) (k := k0) (j := 11) (Cn := RX6) (T := TX6) (N := 16) C (bdT h0) (ceT h0 _) rfl iaX6 (by decide) aw71 rfl rfl dX6_become_129 ?_
  refine r_iconst (pc := 132) (v := 0) C dX6_become_132 (by decide) ?_
  refine r_bipush (pc := 133) (v := 6) C dX6_become_133 (by decide) ?_
  refine q_copy (a := 0) (b := 0) (n2 := 6) (by decide) (by decide) (by decide) (pc := 135) (k0 := (k1 + 6)) (k1 := (k0 + 6)) (n0 := 6) (n1 := 6) C (bdT6 h1) (bdT6 h0) (ceT6 h1 _) (ceT6 h0) aw312 (by decide) (Nat.le_of_ble_eq_true rfl) (Nat.le_of_ble_eq_true rfl) dX6_become_135 ?_
  refine r_topM (fun M18 eM18 => ?_)
  replace h := h M18 eM18
  refine r_aload_n (pc := 138) C 1 dX6_become_138 rfl ?_
  refine r_get (pc := 139) (k := k1) (j := 12) (Cn := RX6) (T := TX6) (N := 16) C (bdT h1) (ceT h1 _) rfl iaX6 (by decide) aw72 rfl rfl dX6_become_139 ?_
  refine r_iconst (pc := 142) (v := 0) C dX6_become_142 (by decide) ?_
  refine r_aload_n (pc := 143) C 0 dX6_become_143 rfl ?_
  refine r_get (pc := 144) (k := k0) (j := 12) (Cn := RX6) (T := TX6) (N := 16) C (bdT h0) (ceT h0 _) rfl iaX6 (by decide) aw72 rfl rfl dX6_become_144 ?_
  refine r_iconst (pc := 147) (v := 0) C dX6_become_147 (by decide) ?_
  refine r_bipush (pc := 148) (v := 6) C dX6_become_148 (by decide) ?_
  refine q_copy (a := 0) (b := 0) (n2 := 6) (by decide) (by decide) (by decide) (pc := 150) (k0 := (k1 + 7)) (k1 := (k0 + 7)) (n0 := 6) (n1 := 6) C (bdT7 h1) (bdT7 h0) (ceT7 h1 _) (ceT7 h0) aw312 (by decide) (Nat.le_of_ble_eq_true rfl) (Nat.le_of_ble_eq_true rfl) dX6_become_150 ?_
  refine r_topM (fun M19 eM19 => ?_)
  replace h := h M19 eM19
  refine r_aload_n (pc := 153) C 1 dX6_become_153 rfl ?_
  refine r_get (pc := 154) (k := k1) (j := 13) (Cn := RX6) (T := TX6) (N := 16) C (bdT h1) (ceT h1 _) rfl iaX6 (by decide) aw73 rfl rfl dX6_become_154 ?_
  refine r_iconst (pc := 157) (v := 0) C dX6_become_157 (by decide) ?_
  refine r_aload_n (pc := 158) C 0 dX6_become_158 rfl ?_
  refine r_get (pc := 159) (k := k0) (j := 13) (Cn := RX6) (T := TX6) (N := 16) C (bdT h0) (ceT h0 _) rfl iaX6 (by decide) aw73 rfl rfl dX6_become_159 ?_
  refine r_iconst (pc := 162) (v := 0) C dX6_become_162 (by decide) ?_
  refine r_bipush (pc := 163) (v := 6) C dX6_become_163 (by decide) ?_
  refine q_copy (a := 0) (b := 0) (n2 := 6) (by decide) (by decide) (by decide) (pc := 165) (k0 := (k1 + 8)) (k1 := (k0 + 8)) (n0 := 6) (n1 := 6) C (bdT8 h1) (bdT8 h0) (ceT8 h1 _) (ceT8 h0) aw312 (by decide) (Nat.le_of_ble_eq_true rfl) (Nat.le_of_ble_eq_true rfl) dX6_become_165 ?_
  refine r_topM (fun M20 eM20 => ?_)
  replace h := h M20 eM20
  refine r_aload_n (pc := 168) C 1 dX6_become_168 rfl ?_
  refine r_get (pc := 169) (k := k1) (j := 14) (Cn := RX6) (T := TX6) (N := 16) C (bdT h1) (ceT h1 _) rfl iaX6 (by decide) aw74 rfl rfl dX6_become_169 ?_
  refine r_iconst (pc := 172) (v := 0) C dX6_become_172 (by decide) ?_
  refine r_aload_n (pc := 173) C 0 dX6_become_173 rfl ?_
  refine r_get (pc := 174) (k := k0) (j := 14) (Cn := RX6) (T := TX6) (N := 16) C (bdT h0) (ceT h0 _) rfl iaX6 (by decide) aw74 rfl rfl dX6_become_174 ?_
  refine r_iconst (pc := 177) (v := 0) C dX6_become_177 (by decide) ?_
  refine r_bipush (pc := 178) (v := 36) C dX6_become_178 (by decide) ?_
  refine q_copy (a := 0) (b := 0) (n2 := 36) (by decide) (by decide) (by decide) (pc := 180) (k0 := (k1 + 9)) (k1 := (k0 + 9)) (n0 := 36) (n1 := 36) C (bdT9 h1) (bdT9 h0) (ceT9 h1 _) (ceT9 h0) aw312 (by decide) (Nat.le_of_ble_eq_true rfl) (Nat.le_of_ble_eq_true rfl) dX6_become_180 ?_
  refine r_topM (fun M21 eM21 => ?_)
  replace h := h M21 eM21
  refine r_aload_n (pc := 183) C 1 dX6_become_183 rfl ?_
  refine r_get (pc := 184) (k := k1) (j := 15) (Cn := RX6) (T := TX6) (N := 16) C (bdT h1) (ceT h1 _) rfl iaX6 (by decide) aw75 rfl rfl dX6_become_184 ?_
  refine r_iconst (pc := 187) (v := 0) C dX6_become_187 (by decide) ?_
  refine r_aload_n (pc := 188) C 0 dX6_become_188 rfl ?_
  refine r_get (pc := 189) (k := k0) (j := 15) (Cn := RX6) (T := TX6) (N := 16) C (bdT h0) (ceT h0 _) rfl iaX6 (by decide) aw75 rfl rfl dX6_become_189 ?_
  refine r_iconst (pc := 192) (v := 0) C dX6_become_192 (by decide) ?_
  refine r_bipush (pc := 193) (v := 36) C dX6_become_193 (by decide) ?_
  refine q_copy (a := 0) (b := 0) (n2 := 36) (by decide) (by decide) (by decide) (pc := 195) (k0 := (k1 + 10)) (k1 := (k0 + 10)) (n0 := 36) (n1 := 36) C (bdT10 h1) (bdT10 h0) (ceT10 h1 _) (ceT10 h0) aw312 (by decide) (Nat.le_of_ble_eq_true rfl) (Nat.le_of_ble_eq_true rfl) dX6_become_195 ?_
  refine r_topM (fun M22 eM22 => ?_)
  replace h := h M22 eM22
  exact r_vret (pc := 198) C dX6_become_198 h
theorem yd_X6_addDoor : yX6_addDoor.cls ≠ "java/lang/invoke/MethodHandle" ∧ yX6_addDoor.cls ≠ "java/lang/invoke/VarHandle" ∧ (parseMethodDescriptor yX6_addDoor.desc).map (fun d => d.parameters.length) = some 2 := by decide +kernel
def wB_X6_addDoor_22 (k0 : Nat) (Q : Mem → Prop)  (R22 : Mem → Int32 → Prop) (M : Mem) (x3 : Int32) : Prop :=
  ((6 ≤ x3) → (∀ v2 : Int32, v2 = ((M k0 2) + 1) → (∀ M3 : Mem, M3 = ms M k0 2 v2 → (Q M3)))) ∧ ((¬ 6 ≤ x3) → (w_X6_cellOf  M x3 (M k0 2) (fun r5 M4 => vp_in r5 36 ∧ (∀ M7 : Mem, M7 = ms M4 (k0 + 9) (Int32.toNatClampNeg r5) 0 → (w_X6_cellOf  M7 x3 (M7 k0 2) (fun r9 M8 => vp_in r9 36 ∧ (∀ M11 : Mem, M11 = ms M8 (k0 + 10) (Int32.toNatClampNeg r9) (-1000000) → (∀ v12 : Int32, v12 = x3 + 1 → (R22 M11 v12)))))))))
def wL_X6_addDoor_22 (k0 : Nat) (Q : Mem → Prop)  : Nat → Mem → Int32 → Prop
  | 0 => fun _ _ => False
  | n + 1 => fun M x3 => wB_X6_addDoor_22 k0 Q  (wL_X6_addDoor_22 k0 Q  n) M x3
theorem wL_X6_addDoor_22_s {k0 : Nat} {Q : Mem → Prop}  {n : Nat} {M : Mem} {x3 : Int32} (h : wL_X6_addDoor_22 k0 Q  (n + 1) M x3) : wB_X6_addDoor_22 k0 Q  (wL_X6_addDoor_22 k0 Q  n) M x3 := h
def w_X6_addDoor (k0 : Nat) (M : Mem) (x1 : Int32) (x2 : Int32) (Q : Mem → Prop) : Prop :=
  vp_in (M k0 2) 6 ∧ (∀ M2 : Mem, M2 = ms M (k0 + 1) (Int32.toNatClampNeg (M k0 2)) x1 → (vp_in (M2 k0 2) 6 ∧ (∀ M4 : Mem, M4 = ms M2 (k0 + 2) (Int32.toNatClampNeg (M2 k0 2)) x2 → (∃ n5 : Nat, wL_X6_addDoor_22 k0 Q  n5 M4 0))))
abbrev rm_X6_addDoor : Room := { frames := 6, cells := 0, slots := 0, locals := 120 }
set_option maxHeartbeats 4000000 in
set_option maxRecDepth 100000 in
theorem c_X6_addDoor (X : Cx) (k0 : Nat) (h0 : kd k0 = 6) (M : Mem) (x1 : Int32) (x2 : Int32) (Q : Mem → Prop) (h : w_X6_addDoor k0 M x1 x2 Q) : Ct yX6_addDoor cX6_addDoor 4 none rm_X6_addDoor X M [.ref (ad X k0), .int x1, .int x2] (Qv X Q) := by
  refine ct_of (own := RX6) (lv := [(0, .ref (ad X k0)), (1, .int x1), (2, .int x2)]) rfl (by decide) (Nat.le_of_ble_eq_true rfl) rfl ?_
  intro K C
  have hL22 : ∀  (n : Nat) (M : Mem) (x3 : Int32), wL_X6_addDoor_22 k0 Q  n M x3 → WX K X 4 (Qv X Q) M 22 [(0, .ref (ad X k0)), (3, .int x3)] [] := by
    intro  n
    induction n with
    | zero => intro M x3 h; exact absurd h id
    | succ n ih =>
      intro M x3 h
      replace h := wL_X6_addDoor_22_s h
      unfold wB_X6_addDoor_22 at h
      refine r_iload_n (pc := 22) C 1 dX6_addDoor_22 rfl ?_
      refine r_bipush (pc := 23) (v := 6) C dX6_addDoor_23 (by decide) ?_
      refine r_icmp_ge (pc := 25) (tgt := 63) C dX6_addDoor_25 (by decide) (fun c1 => ?_) (fun c1 => ?_)
      · have h := h.1 c1
        refine r_aload_n (pc := 63) C 0 dX6_addDoor_63 rfl ?_
        refine r_dup (pc := 64) C dX6_addDoor_64 rfl ?_
        refine r_get (pc := 65) (k := k0) (j := 2) (Cn := RX6) (T := TX6) (N := 16) C (bdT h0) (ceT h0 _) rfl iaX6 (by decide) aw274 rfl rfl dX6_addDoor_65 ?_
        refine r_iconst (pc := 68) (v := 1) C dX6_addDoor_68 (by decide) ?_
        refine r_iadd (pc := 69) C dX6_addDoor_69 ?_
        refine r_topi (fun v2 ev2 => ?_)
        replace h := h v2 ev2
        refine r_put (pc := 70) (k := k0) (j := 2) (Cn := RX6) (T := TX6) (N := 16) (host := "") C (bdT h0) (ceT h0 _) rfl iaX6 (by decide) (ceT h0 _) tyX6_ok nmX6 aw274 rfl rfl (tyX6_ok 2 (by decide)) (Nat.le_of_ble_eq_true rfl) dX6_addDoor_70 ?_
        refine r_topM (fun M3 eM3 => ?_)
        replace h := h M3 eM3
        exact r_vret (pc := 73) C dX6_addDoor_73 h
      · have h := h.2 c1
        refine r_aload_n (pc := 28) C 0 dX6_addDoor_28 rfl ?_
        refine r_get (pc := 29) (k := k0) (j := 14) (Cn := RX6) (T := TX6) (N := 16) C (bdT h0) (ceT h0 _) rfl iaX6 (by decide) aw74 rfl rfl dX6_addDoor_29 ?_
        refine r_iload_n (pc := 32) C 1 dX6_addDoor_32 rfl ?_
        refine r_aload_n (pc := 33) C 0 dX6_addDoor_33 rfl ?_
        refine r_get (pc := 34) (k := k0) (j := 2) (Cn := RX6) (T := TX6) (N := 16) C (bdT h0) (ceT h0 _) rfl iaX6 (by decide) aw274 rfl rfl dX6_addDoor_34 ?_
        have hM := c_X6_cellOf X  M x3 (M k0 2) _ h
        refine q_s0 (s1 := List.reverse [.int x3, .int (M k0 2)] ++ [.ref (ad X (k0 + 9))]) rfl ?_
        refine r_callSi (pc := 37) (As := [.int x3, .int (M k0 2)]) (st := [.ref (ad X (k0 + 9))]) C 2 hM aw286 aw287 aw288 aw28 yd_X6_cellOf ⟨rfl, rfl⟩ ⟨Nat.le_of_ble_eq_true rfl, Nat.le_of_ble_eq_true rfl⟩ rfl (Nat.le_of_ble_eq_true rfl) dX6_addDoor_37 (fun r5 M4 h => ?_)
        refine r_iconst (pc := 40) (v := 0) C dX6_addDoor_40 (by decide) ?_
        obtain ⟨g6, h⟩ := h
        refine q_iast (pc := 41) (k := (k0 + 9)) (n := 36) (j := (Int32.toNatClampNeg r5)) C (bdT9 h0) (ceT9 h0) g6 rfl dX6_addDoor_41 ?_
        refine r_topM (fun M7 eM7 => ?_)
        replace h := h M7 eM7
        refine r_aload_n (pc := 42) C 0 dX6_addDoor_42 rfl ?_
        refine r_get (pc := 43) (k := k0) (j := 15) (Cn := RX6) (T := TX6) (N := 16) C (bdT h0) (ceT h0 _) rfl iaX6 (by decide) aw75 rfl rfl dX6_addDoor_43 ?_
        refine r_iload_n (pc := 46) C 1 dX6_addDoor_46 rfl ?_
        refine r_aload_n (pc := 47) C 0 dX6_addDoor_47 rfl ?_
        refine r_get (pc := 48) (k := k0) (j := 2) (Cn := RX6) (T := TX6) (N := 16) C (bdT h0) (ceT h0 _) rfl iaX6 (by decide) aw274 rfl rfl dX6_addDoor_48 ?_
        have hM := c_X6_cellOf X  M7 x3 (M7 k0 2) _ h
        refine q_s0 (s1 := List.reverse [.int x3, .int (M7 k0 2)] ++ [.ref (ad X (k0 + 10))]) rfl ?_
        refine r_callSi (pc := 51) (As := [.int x3, .int (M7 k0 2)]) (st := [.ref (ad X (k0 + 10))]) C 2 hM aw286 aw287 aw288 aw28 yd_X6_cellOf ⟨rfl, rfl⟩ ⟨Nat.le_of_ble_eq_true rfl, Nat.le_of_ble_eq_true rfl⟩ rfl (Nat.le_of_ble_eq_true rfl) dX6_addDoor_51 (fun r9 M8 h => ?_)
        refine r_ldc (pc := 54) C aw285 dX6_addDoor_54 ?_
        obtain ⟨g10, h⟩ := h
        refine q_iast (pc := 56) (k := (k0 + 10)) (n := 36) (j := (Int32.toNatClampNeg r9)) C (bdT10 h0) (ceT10 h0) g10 rfl dX6_addDoor_56 ?_
        refine r_topM (fun M11 eM11 => ?_)
        replace h := h M11 eM11
        obtain ⟨v12, ev12⟩ : ∃ z : Int32, z = x3 + 1 := ⟨_, rfl⟩
        replace h := h v12 ev12
        refine r_iinc (pc := 57) (v := v12) (lv2 := [(3, .int v12), (0, .ref (ad X k0))]) C 1 dX6_addDoor_57 rfl (by rw [ev12]; rfl) (by decide) rfl ?_
        refine r_goto (pc := 60) (tgt := 22) C dX6_addDoor_60 (by decide) ?_
        refine r_sub (lv2 := [(0, .ref (ad X k0)), (3, .int v12)]) [1, 0] rfl ?_
        exact ih _ _ h
  unfold w_X6_addDoor at h
  refine r_aload_n (pc := 0) C 0 dX6_addDoor_0 rfl ?_
  refine r_get (pc := 1) (k := k0) (j := 6) (Cn := RX6) (T := TX6) (N := 16) C (bdT h0) (ceT h0 _) rfl iaX6 (by decide) aw66 rfl rfl dX6_addDoor_1 ?_
  refine r_aload_n (pc := 4) C 0 dX6_addDoor_4 rfl ?_
  refine r_get (pc := 5) (k := k0) (j := 2) (Cn := RX6) (T := TX6) (N := 16) C (bdT h0) (ceT h0 _) rfl iaX6 (by decide) aw274 rfl rfl dX6_addDoor_5 ?_
  refine r_iload_n (pc := 8) C 1 dX6_addDoor_8 rfl ?_
  obtain ⟨g1, h⟩ := h
  refine q_iast (pc := 9) (k := (k0 + 1)) (n := 6) (j := (Int32.toNatClampNeg (M k0 2))) C (bdT1 h0) (ceT1 h0) g1 rfl dX6_addDoor_9 ?_
  refine r_topM (fun M2 eM2 => ?_)
  replace h := h M2 eM2
  refine r_aload_n (pc := 10) C 0 dX6_addDoor_10 rfl ?_
  refine r_get (pc := 11) (k := k0) (j := 7) (Cn := RX6) (T := TX6) (N := 16) C (bdT h0) (ceT h0 _) rfl iaX6 (by decide) aw67 rfl rfl dX6_addDoor_11 ?_
  refine r_aload_n (pc := 14) C 0 dX6_addDoor_14 rfl ?_
  refine r_get (pc := 15) (k := k0) (j := 2) (Cn := RX6) (T := TX6) (N := 16) C (bdT h0) (ceT h0 _) rfl iaX6 (by decide) aw274 rfl rfl dX6_addDoor_15 ?_
  refine r_iload_n (pc := 18) C 2 dX6_addDoor_18 rfl ?_
  obtain ⟨g3, h⟩ := h
  refine q_iast (pc := 19) (k := (k0 + 2)) (n := 6) (j := (Int32.toNatClampNeg (M2 k0 2))) C (bdT2 h0) (ceT2 h0) g3 rfl dX6_addDoor_19 ?_
  refine r_topM (fun M4 eM4 => ?_)
  replace h := h M4 eM4
  refine r_iconst (pc := 20) (v := 0) C dX6_addDoor_20 (by decide) ?_
  refine r_istore_n (pc := 21) (lv2 := [(3, .int 0), (0, .ref (ad X k0)), (1, .int x1), (2, .int x2)]) C dX6_addDoor_21 (by decide) rfl ?_
  obtain ⟨n5, h⟩ := h
  refine r_sub (lv2 := [(0, .ref (ad X k0)), (3, .int 0)]) [1, 0] rfl ?_
  exact hL22  _ _ _ h
theorem yd_X6_addPerson : yX6_addPerson.cls ≠ "java/lang/invoke/MethodHandle" ∧ yX6_addPerson.cls ≠ "java/lang/invoke/VarHandle" ∧ (parseMethodDescriptor yX6_addPerson.desc).map (fun d => d.parameters.length) = some 3 := by decide +kernel
def w_X6_addPerson (k0 : Nat) (M : Mem) (x1 : Int32) (x2 : Int32) (x3 : Int32) (Q : Mem → Prop) : Prop :=
  vp_in (M k0 3) 6 ∧ (∀ M2 : Mem, M2 = ms M (k0 + 3) (Int32.toNatClampNeg (M k0 3)) x1 → (vp_in (M2 k0 3) 6 ∧ (∀ M4 : Mem, M4 = ms M2 (k0 + 4) (Int32.toNatClampNeg (M2 k0 3)) x2 → (vp_in (M4 k0 3) 6 ∧ (∀ M6 : Mem, M6 = ms M4 (k0 + 5) (Int32.toNatClampNeg (M4 k0 3)) x3 → (vp_in (M6 k0 3) 6 ∧ (∀ M8 : Mem, M8 = ms M6 (k0 + 6) (Int32.toNatClampNeg (M6 k0 3)) 0 → (vp_in (M8 k0 3) 6 ∧ (∀ M10 : Mem, M10 = ms M8 (k0 + 7) (Int32.toNatClampNeg (M8 k0 3)) 0 → (vp_in (M10 k0 3) 6 ∧ (∀ M12 : Mem, M12 = ms M10 (k0 + 8) (Int32.toNatClampNeg (M10 k0 3)) 0 → (∀ v13 : Int32, v13 = ((M12 k0 3) + 1) → (∀ M14 : Mem, M14 = ms M12 k0 3 v13 → (Q M14))))))))))))))
abbrev rm_X6_addPerson : Room := { frames := 3, cells := 0, slots := 0, locals := 60 }
set_option maxHeartbeats 4000000 in
set_option maxRecDepth 100000 in
theorem c_X6_addPerson (X : Cx) (k0 : Nat) (h0 : kd k0 = 6) (M : Mem) (x1 : Int32) (x2 : Int32) (x3 : Int32) (Q : Mem → Prop) (h : w_X6_addPerson k0 M x1 x2 x3 Q) : Ct yX6_addPerson cX6_addPerson 4 none rm_X6_addPerson X M [.ref (ad X k0), .int x1, .int x2, .int x3] (Qv X Q) := by
  refine ct_of (own := RX6) (lv := [(0, .ref (ad X k0)), (1, .int x1), (2, .int x2), (3, .int x3)]) rfl (by decide) (Nat.le_of_ble_eq_true rfl) rfl ?_
  intro K C
  unfold w_X6_addPerson at h
  refine r_aload_n (pc := 0) C 0 dX6_addPerson_0 rfl ?_
  refine r_get (pc := 1) (k := k0) (j := 8) (Cn := RX6) (T := TX6) (N := 16) C (bdT h0) (ceT h0 _) rfl iaX6 (by decide) aw68 rfl rfl dX6_addPerson_1 ?_
  refine r_aload_n (pc := 4) C 0 dX6_addPerson_4 rfl ?_
  refine r_get (pc := 5) (k := k0) (j := 3) (Cn := RX6) (T := TX6) (N := 16) C (bdT h0) (ceT h0 _) rfl iaX6 (by decide) aw275 rfl rfl dX6_addPerson_5 ?_
  refine r_iload_n (pc := 8) C 1 dX6_addPerson_8 rfl ?_
  obtain ⟨g1, h⟩ := h
  refine q_iast (pc := 9) (k := (k0 + 3)) (n := 6) (j := (Int32.toNatClampNeg (M k0 3))) C (bdT3 h0) (ceT3 h0) g1 rfl dX6_addPerson_9 ?_
  refine r_topM (fun M2 eM2 => ?_)
  replace h := h M2 eM2
  refine r_aload_n (pc := 10) C 0 dX6_addPerson_10 rfl ?_
  refine r_get (pc := 11) (k := k0) (j := 9) (Cn := RX6) (T := TX6) (N := 16) C (bdT h0) (ceT h0 _) rfl iaX6 (by decide) aw69 rfl rfl dX6_addPerson_11 ?_
  refine r_aload_n (pc := 14) C 0 dX6_addPerson_14 rfl ?_
  refine r_get (pc := 15) (k := k0) (j := 3) (Cn := RX6) (T := TX6) (N := 16) C (bdT h0) (ceT h0 _) rfl iaX6 (by decide) aw275 rfl rfl dX6_addPerson_15 ?_
  refine r_iload_n (pc := 18) C 2 dX6_addPerson_18 rfl ?_
  obtain ⟨g3, h⟩ := h
  refine q_iast (pc := 19) (k := (k0 + 4)) (n := 6) (j := (Int32.toNatClampNeg (M2 k0 3))) C (bdT4 h0) (ceT4 h0) g3 rfl dX6_addPerson_19 ?_
  refine r_topM (fun M4 eM4 => ?_)
  replace h := h M4 eM4
  refine r_aload_n (pc := 20) C 0 dX6_addPerson_20 rfl ?_
  refine r_get (pc := 21) (k := k0) (j := 10) (Cn := RX6) (T := TX6) (N := 16) C (bdT h0) (ceT h0 _) rfl iaX6 (by decide) aw70 rfl rfl dX6_addPerson_21 ?_
  refine r_aload_n (pc := 24) C 0 dX6_addPerson_24 rfl ?_
  refine r_get (pc := 25) (k := k0) (j := 3) (Cn := RX6) (T := TX6) (N := 16) C (bdT h0) (ceT h0 _) rfl iaX6 (by decide) aw275 rfl rfl dX6_addPerson_25 ?_
  refine r_iload_n (pc := 28) C 3 dX6_addPerson_28 rfl ?_
  obtain ⟨g5, h⟩ := h
  refine q_iast (pc := 29) (k := (k0 + 5)) (n := 6) (j := (Int32.toNatClampNeg (M4 k0 3))) C (bdT5 h0) (ceT5 h0) g5 rfl dX6_addPerson_29 ?_
  refine r_topM (fun M6 eM6 => ?_)
  replace h := h M6 eM6
  refine r_aload_n (pc := 30) C 0 dX6_addPerson_30 rfl ?_
  refine r_get (pc := 31) (k := k0) (j := 11) (Cn := RX6) (T := TX6) (N := 16) C (bdT h0) (ceT h0 _) rfl iaX6 (by decide) aw71 rfl rfl dX6_addPerson_31 ?_
  refine r_aload_n (pc := 34) C 0 dX6_addPerson_34 rfl ?_
  refine r_get (pc := 35) (k := k0) (j := 3) (Cn := RX6) (T := TX6) (N := 16) C (bdT h0) (ceT h0 _) rfl iaX6 (by decide) aw275 rfl rfl dX6_addPerson_35 ?_
  refine r_iconst (pc := 38) (v := 0) C dX6_addPerson_38 (by decide) ?_
  obtain ⟨g7, h⟩ := h
  refine q_iast (pc := 39) (k := (k0 + 6)) (n := 6) (j := (Int32.toNatClampNeg (M6 k0 3))) C (bdT6 h0) (ceT6 h0) g7 rfl dX6_addPerson_39 ?_
  refine r_topM (fun M8 eM8 => ?_)
  replace h := h M8 eM8
  refine r_aload_n (pc := 40) C 0 dX6_addPerson_40 rfl ?_
  refine r_get (pc := 41) (k := k0) (j := 12) (Cn := RX6) (T := TX6) (N := 16) C (bdT h0) (ceT h0 _) rfl iaX6 (by decide) aw72 rfl rfl dX6_addPerson_41 ?_
  refine r_aload_n (pc := 44) C 0 dX6_addPerson_44 rfl ?_
  refine r_get (pc := 45) (k := k0) (j := 3) (Cn := RX6) (T := TX6) (N := 16) C (bdT h0) (ceT h0 _) rfl iaX6 (by decide) aw275 rfl rfl dX6_addPerson_45 ?_
  refine r_iconst (pc := 48) (v := 0) C dX6_addPerson_48 (by decide) ?_
  obtain ⟨g9, h⟩ := h
  refine q_iast (pc := 49) (k := (k0 + 7)) (n := 6) (j := (Int32.toNatClampNeg (M8 k0 3))) C (bdT7 h0) (ceT7 h0) g9 rfl dX6_addPerson_49 ?_
  refine r_topM (fun M10 eM10 => ?_)
  replace h := h M10 eM10
  refine r_aload_n (pc := 50) C 0 dX6_addPerson_50 rfl ?_
  refine r_get (pc := 51) (k := k0) (j := 13) (Cn := RX6) (T := TX6) (N := 16) C (bdT h0) (ceT h0 _) rfl iaX6 (by decide) aw73 rfl rfl dX6_addPerson_51 ?_
  refine r_aload_n (pc := 54) C 0 dX6_addPerson_54 rfl ?_
  refine r_get (pc := 55) (k := k0) (j := 3) (Cn := RX6) (T := TX6) (N := 16) C (bdT h0) (ceT h0 _) rfl iaX6 (by decide) aw275 rfl rfl dX6_addPerson_55 ?_
  refine r_iconst (pc := 58) (v := 0) C dX6_addPerson_58 (by decide) ?_
  obtain ⟨g11, h⟩ := h
  refine q_iast (pc := 59) (k := (k0 + 8)) (n := 6) (j := (Int32.toNatClampNeg (M10 k0 3))) C (bdT8 h0) (ceT8 h0) g11 rfl dX6_addPerson_59 ?_
  refine r_topM (fun M12 eM12 => ?_)
  replace h := h M12 eM12
  refine r_aload_n (pc := 60) C 0 dX6_addPerson_60 rfl ?_
  refine r_dup (pc := 61) C dX6_addPerson_61 rfl ?_
  refine r_get (pc := 62) (k := k0) (j := 3) (Cn := RX6) (T := TX6) (N := 16) C (bdT h0) (ceT h0 _) rfl iaX6 (by decide) aw275 rfl rfl dX6_addPerson_62 ?_
  refine r_iconst (pc := 65) (v := 1) C dX6_addPerson_65 (by decide) ?_
  refine r_iadd (pc := 66) C dX6_addPerson_66 ?_
  refine r_topi (fun v13 ev13 => ?_)
  replace h := h v13 ev13
  refine r_put (pc := 67) (k := k0) (j := 3) (Cn := RX6) (T := TX6) (N := 16) (host := "") C (bdT h0) (ceT h0 _) rfl iaX6 (by decide) (ceT h0 _) tyX6_ok nmX6 aw275 rfl rfl (tyX6_ok 3 (by decide)) (Nat.le_of_ble_eq_true rfl) dX6_addPerson_67 ?_
  refine r_topM (fun M14 eM14 => ?_)
  replace h := h M14 eM14
  exact r_vret (pc := 70) C dX6_addPerson_70 h
theorem yd_X6_leaningOf : yX6_leaningOf.cls ≠ "java/lang/invoke/MethodHandle" ∧ yX6_leaningOf.cls ≠ "java/lang/invoke/VarHandle" ∧ (parseMethodDescriptor yX6_leaningOf.desc).map (fun d => d.parameters.length) = some 2 := by decide +kernel
def wJ_X6_leaningOf_32 (k0 : Nat) (Q : Int32 → Mem → Prop)  (M : Mem) (x1 : Int32) (x2 : Int32) (x3 : Int32) : Prop :=
  vp_in x1 6 ∧ ((((((M (k0 + 8) (Int32.toNatClampNeg x1)) >>> (x2 &&& 31)) &&& 1) = 0) → (Q x3 M)) ∧ ((¬ (((M (k0 + 8) (Int32.toNatClampNeg x1)) >>> (x2 &&& 31)) &&& 1) = 0) → (∀ v3 : Int32, v3 = x3 + (-9) → (Q v3 M))))
def w_X6_leaningOf (k0 : Nat) (M : Mem) (x1 : Int32) (x2 : Int32) (Q : Int32 → Mem → Prop) : Prop :=
  vp_in x1 6 ∧ (vp_in x1 6 ∧ (∀ v3 : Int32, v3 = (((M (k0 + 5) (Int32.toNatClampNeg x1)) - 3) + (M (k0 + 6) (Int32.toNatClampNeg x1))) → (vp_in x1 6 ∧ ((((((M (k0 + 7) (Int32.toNatClampNeg x1)) >>> (x2 &&& 31)) &&& 1) = 0) → (wJ_X6_leaningOf_32 k0 Q  M x1 x2 v3)) ∧ ((¬ (((M (k0 + 7) (Int32.toNatClampNeg x1)) >>> (x2 &&& 31)) &&& 1) = 0) → (∀ v6 : Int32, v6 = v3 + 5 → (wJ_X6_leaningOf_32 k0 Q  M x1 x2 v6)))))))
abbrev rm_X6_leaningOf : Room := { frames := 3, cells := 0, slots := 0, locals := 60 }
set_option maxHeartbeats 4000000 in
set_option maxRecDepth 100000 in
theorem c_X6_leaningOf (X : Cx) (k0 : Nat) (h0 : kd k0 = 6) (M : Mem) (x1 : Int32) (x2 : Int32) (Q : Int32 → Mem → Prop) (h : w_X6_leaningOf k0 M x1 x2 Q) : Ct yX6_leaningOf cX6_leaningOf 4 (some .int) rm_X6_leaningOf X M [.ref (ad X k0), .int x1, .int x2] (Qi X Q) := by
  refine ct_of (own := RX6) (lv := [(0, .ref (ad X k0)), (1, .int x1), (2, .int x2)]) rfl (by decide) (Nat.le_of_ble_eq_true rfl) rfl ?_
  intro K C
  have hJ32 : ∀  (M : Mem) (x1 : Int32) (x2 : Int32) (x3 : Int32), wJ_X6_leaningOf_32 k0 Q  M x1 x2 x3 → WX K X 4 (Qi X Q) M 32 [(0, .ref (ad X k0)), (1, .int x1), (2, .int x2), (3, .int x3)] [] := by
    intro  M x1 x2 x3 h
    unfold wJ_X6_leaningOf_32 at h
    refine r_aload_n (pc := 32) C 0 dX6_leaningOf_32 rfl ?_
    refine r_get (pc := 33) (k := k0) (j := 13) (Cn := RX6) (T := TX6) (N := 16) C (bdT h0) (ceT h0 _) rfl iaX6 (by decide) aw73 rfl rfl dX6_leaningOf_33 ?_
    refine r_iload_n (pc := 36) C 1 dX6_leaningOf_36 rfl ?_
    obtain ⟨g1, h⟩ := h
    refine q_iald (pc := 37) (k := (k0 + 8)) (n := 6) (j := (Int32.toNatClampNeg x1)) C (bdT8 h0) (ceT8 h0 _) g1 rfl dX6_leaningOf_37 ?_
    refine r_iload_n (pc := 38) C 2 dX6_leaningOf_38 rfl ?_
    refine r_ishr (pc := 39) C dX6_leaningOf_39 ?_
    refine r_iconst (pc := 40) (v := 1) C dX6_leaningOf_40 (by decide) ?_
    refine r_iand (pc := 41) C dX6_leaningOf_41 ?_
    refine r_if_eq (pc := 42) (tgt := 48) C dX6_leaningOf_42 (by decide) (fun c2 => ?_) (fun c2 => ?_)
    · have h := h.1 c2
      refine r_iload_n (pc := 48) C 3 dX6_leaningOf_48 rfl ?_
      exact r_iret (pc := 49) C dX6_leaningOf_49 h
    · have h := h.2 c2
      obtain ⟨v3, ev3⟩ : ∃ z : Int32, z = x3 + (-9) := ⟨_, rfl⟩
      replace h := h v3 ev3
      refine r_iinc (pc := 45) (v := v3) (lv2 := [(3, .int v3), (0, .ref (ad X k0)), (1, .int x1), (2, .int x2)]) C 3 dX6_leaningOf_45 rfl (by rw [ev3]; rfl) (by decide) rfl ?_
      refine r_iload_n (pc := 48) C 0 dX6_leaningOf_48 rfl ?_
      exact r_iret (pc := 49) C dX6_leaningOf_49 h
  unfold w_X6_leaningOf at h
  refine r_aload_n (pc := 0) C 0 dX6_leaningOf_0 rfl ?_
  refine r_get (pc := 1) (k := k0) (j := 10) (Cn := RX6) (T := TX6) (N := 16) C (bdT h0) (ceT h0 _) rfl iaX6 (by decide) aw70 rfl rfl dX6_leaningOf_1 ?_
  refine r_iload_n (pc := 4) C 1 dX6_leaningOf_4 rfl ?_
  obtain ⟨g1, h⟩ := h
  refine q_iald (pc := 5) (k := (k0 + 5)) (n := 6) (j := (Int32.toNatClampNeg x1)) C (bdT5 h0) (ceT5 h0 _) g1 rfl dX6_leaningOf_5 ?_
  refine r_iconst (pc := 6) (v := 3) C dX6_leaningOf_6 (by decide) ?_
  refine r_isub (pc := 7) C dX6_leaningOf_7 ?_
  refine r_aload_n (pc := 8) C 0 dX6_leaningOf_8 rfl ?_
  refine r_get (pc := 9) (k := k0) (j := 11) (Cn := RX6) (T := TX6) (N := 16) C (bdT h0) (ceT h0 _) rfl iaX6 (by decide) aw71 rfl rfl dX6_leaningOf_9 ?_
  refine r_iload_n (pc := 12) C 1 dX6_leaningOf_12 rfl ?_
  obtain ⟨g2, h⟩ := h
  refine q_iald (pc := 13) (k := (k0 + 6)) (n := 6) (j := (Int32.toNatClampNeg x1)) C (bdT6 h0) (ceT6 h0 _) g2 rfl dX6_leaningOf_13 ?_
  refine r_iadd (pc := 14) C dX6_leaningOf_14 ?_
  refine r_topi (fun v3 ev3 => ?_)
  replace h := h v3 ev3
  refine r_istore_n (pc := 15) (lv2 := [(3, .int v3), (0, .ref (ad X k0)), (1, .int x1), (2, .int x2)]) C dX6_leaningOf_15 (by decide) rfl ?_
  refine r_aload_n (pc := 16) C 1 dX6_leaningOf_16 rfl ?_
  refine r_get (pc := 17) (k := k0) (j := 12) (Cn := RX6) (T := TX6) (N := 16) C (bdT h0) (ceT h0 _) rfl iaX6 (by decide) aw72 rfl rfl dX6_leaningOf_17 ?_
  refine r_iload_n (pc := 20) C 2 dX6_leaningOf_20 rfl ?_
  obtain ⟨g4, h⟩ := h
  refine q_iald (pc := 21) (k := (k0 + 7)) (n := 6) (j := (Int32.toNatClampNeg x1)) C (bdT7 h0) (ceT7 h0 _) g4 rfl dX6_leaningOf_21 ?_
  refine r_iload_n (pc := 22) C 3 dX6_leaningOf_22 rfl ?_
  refine r_ishr (pc := 23) C dX6_leaningOf_23 ?_
  refine r_iconst (pc := 24) (v := 1) C dX6_leaningOf_24 (by decide) ?_
  refine r_iand (pc := 25) C dX6_leaningOf_25 ?_
  refine r_if_eq (pc := 26) (tgt := 32) C dX6_leaningOf_26 (by decide) (fun c5 => ?_) (fun c5 => ?_)
  · have h := h.1 c5
    refine r_sub (lv2 := [(0, .ref (ad X k0)), (1, .int x1), (2, .int x2), (3, .int v3)]) [1, 2, 3, 0] rfl ?_
    exact hJ32  _ _ _ _ h
  · have h := h.2 c5
    obtain ⟨v6, ev6⟩ : ∃ z : Int32, z = v3 + 5 := ⟨_, rfl⟩
    replace h := h v6 ev6
    refine r_iinc (pc := 29) (v := v6) (lv2 := [(3, .int v6), (0, .ref (ad X k0)), (1, .int x1), (2, .int x2)]) C 0 dX6_leaningOf_29 rfl (by rw [ev6]; rfl) (by decide) rfl ?_
    refine r_sub (lv2 := [(0, .ref (ad X k0)), (1, .int x1), (2, .int x2), (3, .int v6)]) [1, 2, 3, 0] rfl ?_
    exact hJ32  _ _ _ _ h
theorem yd_X6_favourOf : yX6_favourOf.cls ≠ "java/lang/invoke/MethodHandle" ∧ yX6_favourOf.cls ≠ "java/lang/invoke/VarHandle" ∧ (parseMethodDescriptor yX6_favourOf.desc).map (fun d => d.parameters.length) = some 2 := by decide +kernel
def w_X6_favourOf (k0 : Nat) (M : Mem) (x1 : Int32) (x2 : Int32) (Q : Int32 → Mem → Prop) : Prop :=
  w_X6_leaningOf k0 M x1 x2 (fun r2 M1 => vp_in x1 6 ∧ (((¬ (M1 (k0 + 3) (Int32.toNatClampNeg x1)) = 5) → (Q r2 M1)) ∧ (((M1 (k0 + 3) (Int32.toNatClampNeg x1)) = 5) → (Q (if r2 < 0 then 0 else r2) M1))))
abbrev rm_X6_favourOf : Room := { frames := 6, cells := 0, slots := 0, locals := 120 }
set_option maxHeartbeats 4000000 in
set_option maxRecDepth 100000 in
theorem c_X6_favourOf (X : Cx) (k0 : Nat) (h0 : kd k0 = 6) (M : Mem) (x1 : Int32) (x2 : Int32) (Q : Int32 → Mem → Prop) (h : w_X6_favourOf k0 M x1 x2 Q) : Ct yX6_favourOf cX6_favourOf 4 (some .int) rm_X6_favourOf X M [.ref (ad X k0), .int x1, .int x2] (Qi X Q) := by
  refine ct_of (own := RX6) (lv := [(0, .ref (ad X k0)), (1, .int x1), (2, .int x2)]) rfl (by decide) (Nat.le_of_ble_eq_true rfl) rfl ?_
  intro K C
  unfold w_X6_favourOf at h
  refine r_aload_n (pc := 0) C 0 dX6_favourOf_0 rfl ?_
  refine r_iload_n (pc := 1) C 1 dX6_favourOf_1 rfl ?_
  refine r_iload_n (pc := 2) C 2 dX6_favourOf_2 rfl ?_
  have hM := c_X6_leaningOf X k0 h0 M x1 x2 _ h
  refine q_s0 (s1 := List.reverse [.int x1, .int x2] ++ .ref (ad X k0) :: []) rfl ?_
  refine r_callVi (pc := 3) (k := k0) (As := [.int x1, .int x2]) (st := []) C 2 (bdT h0) (ceT h0 _) rfl aw447 aw448 hM aw446 aw449 aw28 yd_X6_leaningOf ⟨rfl, rfl⟩ ⟨Nat.le_of_ble_eq_true rfl, Nat.le_of_ble_eq_true rfl⟩ rfl (Nat.le_of_ble_eq_true rfl) dX6_favourOf_3 (fun r2 M1 h => ?_)
  refine r_istore_n (pc := 6) (lv2 := [(3, .int r2), (0, .ref (ad X k0)), (1, .int x1), (2, .int x2)]) C dX6_favourOf_6 (by decide) rfl ?_
  refine r_aload_n (pc := 7) C 1 dX6_favourOf_7 rfl ?_
  refine r_get (pc := 8) (k := k0) (j := 8) (Cn := RX6) (T := TX6) (N := 16) C (bdT h0) (ceT h0 _) rfl iaX6 (by decide) aw68 rfl rfl dX6_favourOf_8 ?_
  refine r_iload_n (pc := 11) C 2 dX6_favourOf_11 rfl ?_
  obtain ⟨g3, h⟩ := h
  refine q_iald (pc := 12) (k := (k0 + 3)) (n := 6) (j := (Int32.toNatClampNeg x1)) C (bdT3 h0) (ceT3 h0 _) g3 rfl dX6_favourOf_12 ?_
  refine r_iconst (pc := 13) (v := 5) C dX6_favourOf_13 (by decide) ?_
  refine r_icmp_ne (pc := 14) (tgt := 25) C dX6_favourOf_14 (by decide) (fun c4 => ?_) (fun c4 => ?_)
  · have h := h.1 c4
    refine r_iload_n (pc := 25) C 0 dX6_favourOf_25 rfl ?_
    exact r_iret (pc := 26) C dX6_favourOf_26 h
  · have h := h.2 c4
    refine r_iload_n (pc := 17) C 0 dX6_favourOf_17 rfl ?_
    refine r_iconst (pc := 18) (v := 0) C dX6_favourOf_18 (by decide) ?_
    refine r_max (pc := 19) C aw442 (Nat.le_of_ble_eq_true rfl) (Nat.le_of_ble_eq_true rfl) dX6_favourOf_19 ?_
    refine r_goto (pc := 22) (tgt := 26) C dX6_favourOf_22 (by decide) ?_
    exact r_iret (pc := 26) C dX6_favourOf_26 h
theorem yd_X6_allTimes : yX6_allTimes.cls ≠ "java/lang/invoke/MethodHandle" ∧ yX6_allTimes.cls ≠ "java/lang/invoke/VarHandle" ∧ (parseMethodDescriptor yX6_allTimes.desc).map (fun d => d.parameters.length) = some 0 := by decide +kernel
def wB_X6_allTimes_4 (k0 : Nat) (Q : Int32 → Mem → Prop)  (R4 : Mem → Int32 → Int32 → Prop) (M : Mem) (x1 : Int32) (x2 : Int32) : Prop :=
  (((M k0 3) ≤ x2) → (Q x1 M)) ∧ ((¬ (M k0 3) ≤ x2) → (w_X6_timesOf k0 M x2 (fun r3 M2 => ∀ v4 : Int32, v4 = (x1 + r3) → (∀ v5 : Int32, v5 = x2 + 1 → (R4 M2 v4 v5)))))
def wL_X6_allTimes_4 (k0 : Nat) (Q : Int32 → Mem → Prop)  : Nat → Mem → Int32 → Int32 → Prop
  | 0 => fun _ _ _ => False
  | n + 1 => fun M x1 x2 => wB_X6_allTimes_4 k0 Q  (wL_X6_allTimes_4 k0 Q  n) M x1 x2
theorem wL_X6_allTimes_4_s {k0 : Nat} {Q : Int32 → Mem → Prop}  {n : Nat} {M : Mem} {x1 : Int32} {x2 : Int32} (h : wL_X6_allTimes_4 k0 Q  (n + 1) M x1 x2) : wB_X6_allTimes_4 k0 Q  (wL_X6_allTimes_4 k0 Q  n) M x1 x2 := h
def w_X6_allTimes (k0 : Nat) (M : Mem)  (Q : Int32 → Mem → Prop) : Prop :=
  ∃ n1 : Nat, wL_X6_allTimes_4 k0 Q  n1 M 0 0
abbrev rm_X6_allTimes : Room := { frames := 9, cells := 0, slots := 0, locals := 180 }
set_option maxHeartbeats 4000000 in
set_option maxRecDepth 100000 in
theorem c_X6_allTimes (X : Cx) (k0 : Nat) (h0 : kd k0 = 6) (M : Mem)  (Q : Int32 → Mem → Prop) (h : w_X6_allTimes k0 M  Q) : Ct yX6_allTimes cX6_allTimes 3 (some .int) rm_X6_allTimes X M [.ref (ad X k0)] (Qi X Q) := by
  refine ct_of (own := RX6) (lv := [(0, .ref (ad X k0))]) rfl (by decide) (Nat.le_of_ble_eq_true rfl) rfl ?_
  intro K C
  have hL4 : ∀  (n : Nat) (M : Mem) (x1 : Int32) (x2 : Int32), wL_X6_allTimes_4 k0 Q  n M x1 x2 → WX K X 3 (Qi X Q) M 4 [(0, .ref (ad X k0)), (1, .int x1), (2, .int x2)] [] := by
    intro  n
    induction n with
    | zero => intro M x1 x2 h; exact absurd h id
    | succ n ih =>
      intro M x1 x2 h
      replace h := wL_X6_allTimes_4_s h
      unfold wB_X6_allTimes_4 at h
      refine r_iload_n (pc := 4) C 2 dX6_allTimes_4 rfl ?_
      refine r_aload_n (pc := 5) C 0 dX6_allTimes_5 rfl ?_
      refine r_get (pc := 6) (k := k0) (j := 3) (Cn := RX6) (T := TX6) (N := 16) C (bdT h0) (ceT h0 _) rfl iaX6 (by decide) aw275 rfl rfl dX6_allTimes_6 ?_
      refine r_icmp_ge (pc := 9) (tgt := 26) C dX6_allTimes_9 (by decide) (fun c1 => ?_) (fun c1 => ?_)
      · have h := h.1 c1
        refine r_iload_n (pc := 26) C 1 dX6_allTimes_26 rfl ?_
        exact r_iret (pc := 27) C dX6_allTimes_27 h
      · have h := h.2 c1
        refine r_iload_n (pc := 12) C 1 dX6_allTimes_12 rfl ?_
        refine r_aload_n (pc := 13) C 0 dX6_allTimes_13 rfl ?_
        refine r_iload_n (pc := 14) C 2 dX6_allTimes_14 rfl ?_
        have hM := c_X6_timesOf X k0 h0 M x2 _ h
        refine q_s0 (s1 := List.reverse [.int x2] ++ .ref (ad X k0) :: [.int x1]) rfl ?_
        refine r_callVi (pc := 15) (k := k0) (As := [.int x2]) (st := [.int x1]) C 1 (bdT h0) (ceT h0 _) rfl aw583 aw584 hM aw974 aw585 aw28 yd_X6_timesOf ⟨rfl, rfl⟩ ⟨Nat.le_of_ble_eq_true rfl, Nat.le_of_ble_eq_true rfl⟩ rfl (Nat.le_of_ble_eq_true rfl) dX6_allTimes_15 (fun r3 M2 h => ?_)
        refine r_iadd (pc := 18) C dX6_allTimes_18 ?_
        refine r_topi (fun v4 ev4 => ?_)
        replace h := h v4 ev4
        refine r_istore_n (pc := 19) (lv2 := [(1, .int v4), (0, .ref (ad X k0)), (2, .int x2)]) C dX6_allTimes_19 (by decide) rfl ?_
        obtain ⟨v5, ev5⟩ : ∃ z : Int32, z = x2 + 1 := ⟨_, rfl⟩
        replace h := h v5 ev5
        refine r_iinc (pc := 20) (v := v5) (lv2 := [(2, .int v5), (1, .int v4), (0, .ref (ad X k0))]) C 2 dX6_allTimes_20 rfl (by rw [ev5]; rfl) (by decide) rfl ?_
        refine r_goto (pc := 23) (tgt := 4) C dX6_allTimes_23 (by decide) ?_
        refine r_sub (lv2 := [(0, .ref (ad X k0)), (1, .int v4), (2, .int v5)]) [2, 1, 0] rfl ?_
        exact ih _ _ _ h
  unfold w_X6_allTimes at h
  refine r_iconst (pc := 0) (v := 0) C dX6_allTimes_0 (by decide) ?_
  refine r_istore_n (pc := 1) (lv2 := [(1, .int 0), (0, .ref (ad X k0))]) C dX6_allTimes_1 (by decide) rfl ?_
  refine r_iconst (pc := 2) (v := 0) C dX6_allTimes_2 (by decide) ?_
  refine r_istore_n (pc := 3) (lv2 := [(2, .int 0), (1, .int 0), (0, .ref (ad X k0))]) C dX6_allTimes_3 (by decide) rfl ?_
  obtain ⟨n1, h⟩ := h
  refine r_sub (lv2 := [(0, .ref (ad X k0)), (1, .int 0), (2, .int 0)]) [2, 1, 0] rfl ?_
  exact hL4  _ _ _ _ h
theorem yd_X6_passedThrough : yX6_passedThrough.cls ≠ "java/lang/invoke/MethodHandle" ∧ yX6_passedThrough.cls ≠ "java/lang/invoke/VarHandle" ∧ (parseMethodDescriptor yX6_passedThrough.desc).map (fun d => d.parameters.length) = some 1 := by decide +kernel
def wB_X6_passedThrough_4 (k0 : Nat) (Q : Int32 → Mem → Prop)  (R4 : Mem → Int32 → Int32 → Int32 → Prop) (M : Mem) (x1 : Int32) (x2 : Int32) (x3 : Int32) : Prop :=
  (((M k0 3) ≤ x3) → (Q x2 M)) ∧ ((¬ (M k0 3) ≤ x3) → (w_X6_cellOf  M x3 x1 (fun r3 M2 => vp_in r3 36 ∧ ((((M2 (k0 + 9) (Int32.toNatClampNeg r3)) = 0) → (∀ v6 : Int32, v6 = x3 + 1 → (R4 M2 x1 x2 v6))) ∧ ((¬ (M2 (k0 + 9) (Int32.toNatClampNeg r3)) = 0) → (∀ v7 : Int32, v7 = (x2 ||| (1 <<< (x3 &&& 31))) → (∀ v8 : Int32, v8 = x3 + 1 → (R4 M2 x1 v7 v8))))))))
def wL_X6_passedThrough_4 (k0 : Nat) (Q : Int32 → Mem → Prop)  : Nat → Mem → Int32 → Int32 → Int32 → Prop
  | 0 => fun _ _ _ _ => False
  | n + 1 => fun M x1 x2 x3 => wB_X6_passedThrough_4 k0 Q  (wL_X6_passedThrough_4 k0 Q  n) M x1 x2 x3
theorem wL_X6_passedThrough_4_s {k0 : Nat} {Q : Int32 → Mem → Prop}  {n : Nat} {M : Mem} {x1 : Int32} {x2 : Int32} {x3 : Int32} (h : wL_X6_passedThrough_4 k0 Q  (n + 1) M x1 x2 x3) : wB_X6_passedThrough_4 k0 Q  (wL_X6_passedThrough_4 k0 Q  n) M x1 x2 x3 := h
def w_X6_passedThrough (k0 : Nat) (M : Mem) (x1 : Int32) (Q : Int32 → Mem → Prop) : Prop :=
  ∃ n1 : Nat, wL_X6_passedThrough_4 k0 Q  n1 M x1 0 0
abbrev rm_X6_passedThrough : Room := { frames := 6, cells := 0, slots := 0, locals := 120 }
set_option maxHeartbeats 4000000 in
set_option maxRecDepth 100000 in
theorem c_X6_passedThrough (X : Cx) (k0 : Nat) (h0 : kd k0 = 6) (M : Mem) (x1 : Int32) (Q : Int32 → Mem → Prop) (h : w_X6_passedThrough k0 M x1 Q) : Ct yX6_passedThrough cX6_passedThrough 4 (some .int) rm_X6_passedThrough X M [.ref (ad X k0), .int x1] (Qi X Q) := by
  refine ct_of (own := RX6) (lv := [(0, .ref (ad X k0)), (1, .int x1)]) rfl (by decide) (Nat.le_of_ble_eq_true rfl) rfl ?_
  intro K C
  have hL4 : ∀  (n : Nat) (M : Mem) (x1 : Int32) (x2 : Int32) (x3 : Int32), wL_X6_passedThrough_4 k0 Q  n M x1 x2 x3 → WX K X 4 (Qi X Q) M 4 [(0, .ref (ad X k0)), (1, .int x1), (2, .int x2), (3, .int x3)] [] := by
    intro  n
    induction n with
    | zero => intro M x1 x2 x3 h; exact absurd h id
    | succ n ih =>
      intro M x1 x2 x3 h
      replace h := wL_X6_passedThrough_4_s h
      unfold wB_X6_passedThrough_4 at h
      refine r_iload_n (pc := 4) C 3 dX6_passedThrough_4 rfl ?_
      refine r_aload_n (pc := 5) C 0 dX6_passedThrough_5 rfl ?_
      refine r_get (pc := 6) (k := k0) (j := 3) (Cn := RX6) (T := TX6) (N := 16) C (bdT h0) (ceT h0 _) rfl iaX6 (by decide) aw275 rfl rfl dX6_passedThrough_6 ?_
      refine r_icmp_ge (pc := 9) (tgt := 37) C dX6_passedThrough_9 (by decide) (fun c1 => ?_) (fun c1 => ?_)
      · have h := h.1 c1
        refine r_iload_n (pc := 37) C 2 dX6_passedThrough_37 rfl ?_
        exact r_iret (pc := 38) C dX6_passedThrough_38 h
      · have h := h.2 c1
        refine r_aload_n (pc := 12) C 0 dX6_passedThrough_12 rfl ?_
        refine r_get (pc := 13) (k := k0) (j := 14) (Cn := RX6) (T := TX6) (N := 16) C (bdT h0) (ceT h0 _) rfl iaX6 (by decide) aw74 rfl rfl dX6_passedThrough_13 ?_
        refine r_iload_n (pc := 16) C 3 dX6_passedThrough_16 rfl ?_
        refine r_iload_n (pc := 17) C 1 dX6_passedThrough_17 rfl ?_
        have hM := c_X6_cellOf X  M x3 x1 _ h
        refine q_s0 (s1 := List.reverse [.int x3, .int x1] ++ [.ref (ad X (k0 + 9))]) rfl ?_
        refine r_callSi (pc := 18) (As := [.int x3, .int x1]) (st := [.ref (ad X (k0 + 9))]) C 2 hM aw286 aw287 aw288 aw28 yd_X6_cellOf ⟨rfl, rfl⟩ ⟨Nat.le_of_ble_eq_true rfl, Nat.le_of_ble_eq_true rfl⟩ rfl (Nat.le_of_ble_eq_true rfl) dX6_passedThrough_18 (fun r3 M2 h => ?_)
        obtain ⟨g4, h⟩ := h
        refine q_iald (pc := 21) (k := (k0 + 9)) (n := 36) (j := (Int32.toNatClampNeg r3)) C (bdT9 h0) (ceT9 h0 _) g4 rfl dX6_passedThrough_21 ?_
        refine r_if_eq (pc := 22) (tgt := 31) C dX6_passedThrough_22 (by decide) (fun c5 => ?_) (fun c5 => ?_)
        · have h := h.1 c5
          obtain ⟨v6, ev6⟩ : ∃ z : Int32, z = x3 + 1 := ⟨_, rfl⟩
          replace h := h v6 ev6
          refine r_iinc (pc := 31) (v := v6) (lv2 := [(3, .int v6), (0, .ref (ad X k0)), (1, .int x1), (2, .int x2)]) C 3 dX6_passedThrough_31 rfl (by rw [ev6]; rfl) (by decide) rfl ?_
          refine r_goto (pc := 34) (tgt := 4) C dX6_passedThrough_34 (by decide) ?_
          refine r_sub (lv2 := [(0, .ref (ad X k0)), (1, .int x1), (2, .int x2), (3, .int v6)]) [1, 2, 3, 0] rfl ?_
          exact ih _ _ _ _ h
        · have h := h.2 c5
          refine r_iload_n (pc := 25) C 2 dX6_passedThrough_25 rfl ?_
          refine r_iconst (pc := 26) (v := 1) C dX6_passedThrough_26 (by decide) ?_
          refine r_iload_n (pc := 27) C 3 dX6_passedThrough_27 rfl ?_
          refine r_ishl (pc := 28) C dX6_passedThrough_28 ?_
          refine r_ior (pc := 29) C dX6_passedThrough_29 ?_
          refine r_topi (fun v7 ev7 => ?_)
          replace h := h v7 ev7
          refine r_istore_n (pc := 30) (lv2 := [(2, .int v7), (0, .ref (ad X k0)), (1, .int x1), (3, .int x3)]) C dX6_passedThrough_30 (by decide) rfl ?_
          obtain ⟨v8, ev8⟩ : ∃ z : Int32, z = x3 + 1 := ⟨_, rfl⟩
          replace h := h v8 ev8
          refine r_iinc (pc := 31) (v := v8) (lv2 := [(3, .int v8), (2, .int v7), (0, .ref (ad X k0)), (1, .int x1)]) C 3 dX6_passedThrough_31 rfl (by rw [ev8]; rfl) (by decide) rfl ?_
          refine r_goto (pc := 34) (tgt := 4) C dX6_passedThrough_34 (by decide) ?_
          refine r_sub (lv2 := [(0, .ref (ad X k0)), (1, .int x1), (2, .int v7), (3, .int v8)]) [2, 3, 1, 0] rfl ?_
          exact ih _ _ _ _ h
  unfold w_X6_passedThrough at h
  refine r_iconst (pc := 0) (v := 0) C dX6_passedThrough_0 (by decide) ?_
  refine r_istore_n (pc := 1) (lv2 := [(2, .int 0), (0, .ref (ad X k0)), (1, .int x1)]) C dX6_passedThrough_1 (by decide) rfl ?_
  refine r_iconst (pc := 2) (v := 0) C dX6_passedThrough_2 (by decide) ?_
  refine r_istore_n (pc := 3) (lv2 := [(3, .int 0), (2, .int 0), (0, .ref (ad X k0)), (1, .int x1)]) C dX6_passedThrough_3 (by decide) rfl ?_
  obtain ⟨n1, h⟩ := h
  refine r_sub (lv2 := [(0, .ref (ad X k0)), (1, .int x1), (2, .int 0), (3, .int 0)]) [2, 3, 1, 0] rfl ?_
  exact hL4  _ _ _ _ _ h
theorem yd_X6_roomsAdded : yX6_roomsAdded.cls ≠ "java/lang/invoke/MethodHandle" ∧ yX6_roomsAdded.cls ≠ "java/lang/invoke/VarHandle" ∧ (parseMethodDescriptor yX6_roomsAdded.desc).map (fun d => d.parameters.length) = some 0 := by decide +kernel
def wB_X6_roomsAdded_4 (k0 : Nat) (Q : Int32 → Mem → Prop)  (R4 : Mem → Int32 → Int32 → Prop) (M : Mem) (x1 : Int32) (x2 : Int32) : Prop :=
  (((M k0 3) ≤ x2) → (Q x1 M)) ∧ ((¬ (M k0 3) ≤ x2) → (vp_in x2 6 ∧ (∀ v3 : Int32, v3 = (x1 + (M (k0 + 4) (Int32.toNatClampNeg x2))) → (∀ v4 : Int32, v4 = x2 + 1 → (R4 M v3 v4)))))
def wL_X6_roomsAdded_4 (k0 : Nat) (Q : Int32 → Mem → Prop)  : Nat → Mem → Int32 → Int32 → Prop
  | 0 => fun _ _ _ => False
  | n + 1 => fun M x1 x2 => wB_X6_roomsAdded_4 k0 Q  (wL_X6_roomsAdded_4 k0 Q  n) M x1 x2
theorem wL_X6_roomsAdded_4_s {k0 : Nat} {Q : Int32 → Mem → Prop}  {n : Nat} {M : Mem} {x1 : Int32} {x2 : Int32} (h : wL_X6_roomsAdded_4 k0 Q  (n + 1) M x1 x2) : wB_X6_roomsAdded_4 k0 Q  (wL_X6_roomsAdded_4 k0 Q  n) M x1 x2 := h
def w_X6_roomsAdded (k0 : Nat) (M : Mem)  (Q : Int32 → Mem → Prop) : Prop :=
  ∃ n1 : Nat, wL_X6_roomsAdded_4 k0 Q  n1 M 0 0
abbrev rm_X6_roomsAdded : Room := { frames := 3, cells := 0, slots := 0, locals := 60 }
set_option maxHeartbeats 4000000 in
set_option maxRecDepth 100000 in
theorem c_X6_roomsAdded (X : Cx) (k0 : Nat) (h0 : kd k0 = 6) (M : Mem)  (Q : Int32 → Mem → Prop) (h : w_X6_roomsAdded k0 M  Q) : Ct yX6_roomsAdded cX6_roomsAdded 3 (some .int) rm_X6_roomsAdded X M [.ref (ad X k0)] (Qi X Q) := by
  refine ct_of (own := RX6) (lv := [(0, .ref (ad X k0))]) rfl (by decide) (Nat.le_of_ble_eq_true rfl) rfl ?_
  intro K C
  have hL4 : ∀  (n : Nat) (M : Mem) (x1 : Int32) (x2 : Int32), wL_X6_roomsAdded_4 k0 Q  n M x1 x2 → WX K X 3 (Qi X Q) M 4 [(0, .ref (ad X k0)), (1, .int x1), (2, .int x2)] [] := by
    intro  n
    induction n with
    | zero => intro M x1 x2 h; exact absurd h id
    | succ n ih =>
      intro M x1 x2 h
      replace h := wL_X6_roomsAdded_4_s h
      unfold wB_X6_roomsAdded_4 at h
      refine r_iload_n (pc := 4) C 2 dX6_roomsAdded_4 rfl ?_
      refine r_aload_n (pc := 5) C 0 dX6_roomsAdded_5 rfl ?_
      refine r_get (pc := 6) (k := k0) (j := 3) (Cn := RX6) (T := TX6) (N := 16) C (bdT h0) (ceT h0 _) rfl iaX6 (by decide) aw275 rfl rfl dX6_roomsAdded_6 ?_
      refine r_icmp_ge (pc := 9) (tgt := 27) C dX6_roomsAdded_9 (by decide) (fun c1 => ?_) (fun c1 => ?_)
      · have h := h.1 c1
        refine r_iload_n (pc := 27) C 1 dX6_roomsAdded_27 rfl ?_
        exact r_iret (pc := 28) C dX6_roomsAdded_28 h
      · have h := h.2 c1
        refine r_iload_n (pc := 12) C 1 dX6_roomsAdded_12 rfl ?_
        refine r_aload_n (pc := 13) C 0 dX6_roomsAdded_13 rfl ?_
        refine r_get (pc := 14) (k := k0) (j := 9) (Cn := RX6) (T := TX6) (N := 16) C (bdT h0) (ceT h0 _) rfl iaX6 (by decide) aw69 rfl rfl dX6_roomsAdded_14 ?_
        refine r_iload_n (pc := 17) C 2 dX6_roomsAdded_17 rfl ?_
        obtain ⟨g2, h⟩ := h
        refine q_iald (pc := 18) (k := (k0 + 4)) (n := 6) (j := (Int32.toNatClampNeg x2)) C (bdT4 h0) (ceT4 h0 _) g2 rfl dX6_roomsAdded_18 ?_
        refine r_iadd (pc := 19) C dX6_roomsAdded_19 ?_
        refine r_topi (fun v3 ev3 => ?_)
        replace h := h v3 ev3
        refine r_istore_n (pc := 20) (lv2 := [(1, .int v3), (0, .ref (ad X k0)), (2, .int x2)]) C dX6_roomsAdded_20 (by decide) rfl ?_
        obtain ⟨v4, ev4⟩ : ∃ z : Int32, z = x2 + 1 := ⟨_, rfl⟩
        replace h := h v4 ev4
        refine r_iinc (pc := 21) (v := v4) (lv2 := [(2, .int v4), (1, .int v3), (0, .ref (ad X k0))]) C 2 dX6_roomsAdded_21 rfl (by rw [ev4]; rfl) (by decide) rfl ?_
        refine r_goto (pc := 24) (tgt := 4) C dX6_roomsAdded_24 (by decide) ?_
        refine r_sub (lv2 := [(0, .ref (ad X k0)), (1, .int v3), (2, .int v4)]) [2, 1, 0] rfl ?_
        exact ih _ _ _ h
  unfold w_X6_roomsAdded at h
  refine r_iconst (pc := 0) (v := 0) C dX6_roomsAdded_0 (by decide) ?_
  refine r_istore_n (pc := 1) (lv2 := [(1, .int 0), (0, .ref (ad X k0))]) C dX6_roomsAdded_1 (by decide) rfl ?_
  refine r_iconst (pc := 2) (v := 0) C dX6_roomsAdded_2 (by decide) ?_
  refine r_istore_n (pc := 3) (lv2 := [(2, .int 0), (1, .int 0), (0, .ref (ad X k0))]) C dX6_roomsAdded_3 (by decide) rfl ?_
  obtain ⟨n1, h⟩ := h
  refine r_sub (lv2 := [(0, .ref (ad X k0)), (1, .int 0), (2, .int 0)]) [2, 1, 0] rfl ?_
  exact hL4  _ _ _ _ h
theorem yd_J6_compare_7cf53 : yJ6_compare_7cf53.cls ≠ "java/lang/invoke/MethodHandle" ∧ yJ6_compare_7cf53.cls ≠ "java/lang/invoke/VarHandle" ∧ (parseMethodDescriptor yJ6_compare_7cf53.desc).map (fun d => d.parameters.length) = some 2 := by decide +kernel
def w_J6_compare_7cf53  (M : Mem) (x0 : Int32) (x1 : Int32) (Q : Int32 → Mem → Prop) : Prop :=
  ((x1 ≤ x0) → (((¬ x0 = x1) → (Q 1 M)) ∧ ((x0 = x1) → (Q 0 M)))) ∧ ((¬ x1 ≤ x0) → (Q (-1) M))
abbrev rm_J6_compare_7cf53 : Room := { frames := 3, cells := 0, slots := 0, locals := 60 }
set_option maxHeartbeats 4000000 in
set_option maxRecDepth 100000 in
theorem c_J6_compare_7cf53 (X : Cx)  (M : Mem) (x0 : Int32) (x1 : Int32) (Q : Int32 → Mem → Prop) (h : w_J6_compare_7cf53  M x0 x1 Q) : Ct yJ6_compare_7cf53 cJ6_compare_7cf53 2 (some .int) rm_J6_compare_7cf53 X M [.int x0, .int x1] (Qi X Q) := by
  refine ct_of (own := RJ6) (lv := [(0, .int x0), (1, .int x1)]) rfl (by decide) (Nat.le_of_ble_eq_true rfl) rfl ?_
  intro K C
  unfold w_J6_compare_7cf53 at h
  refine r_iload_n (pc := 0) C 0 dJ6_compare_7cf53_0 rfl ?_
  refine r_iload_n (pc := 1) C 1 dJ6_compare_7cf53_1 rfl ?_
  refine r_icmp_ge (pc := 2) (tgt := 9) C dJ6_compare_7cf53_2 (by decide) (fun c1 => ?_) (fun c1 => ?_)
  · have h := h.1 c1
    refine r_iload_n (pc := 9) C 0 dJ6_compare_7cf53_9 rfl ?_
    refine r_iload_n (pc := 10) C 1 dJ6_compare_7cf53_10 rfl ?_
    refine r_icmp_ne (pc := 11) (tgt := 18) C dJ6_compare_7cf53_11 (by decide) (fun c2 => ?_) (fun c2 => ?_)
    · have h := h.1 c2
      refine r_iconst (pc := 18) (v := 1) C dJ6_compare_7cf53_18 (by decide) ?_
      exact r_iret (pc := 19) C dJ6_compare_7cf53_19 h
    · have h := h.2 c2
      refine r_iconst (pc := 14) (v := 0) C dJ6_compare_7cf53_14 (by decide) ?_
      refine r_goto (pc := 15) (tgt := 19) C dJ6_compare_7cf53_15 (by decide) ?_
      exact r_iret (pc := 19) C dJ6_compare_7cf53_19 h
  · have h := h.2 c1
    refine r_iconst (pc := 5) (v := (-1)) C dJ6_compare_7cf53_5 (by decide) ?_
    refine r_goto (pc := 6) (tgt := 19) C dJ6_compare_7cf53_6 (by decide) ?_
    exact r_iret (pc := 19) C dJ6_compare_7cf53_19 h
theorem yd_J6_bitCount_0f7a4 : yJ6_bitCount_0f7a4.cls ≠ "java/lang/invoke/MethodHandle" ∧ yJ6_bitCount_0f7a4.cls ≠ "java/lang/invoke/VarHandle" ∧ (parseMethodDescriptor yJ6_bitCount_0f7a4.desc).map (fun d => d.parameters.length) = some 1 := by decide +kernel
def w_J6_bitCount_0f7a4  (M : Mem) (x0 : Int32) (Q : Int32 → Mem → Prop) : Prop :=
  ∀ v1 : Int32, v1 = (x0 - (((Int32.toUInt32 x0 >>> (Int32.toUInt32 1 &&& Int32.toUInt32 31)).toInt32) &&& 1431655765)) → (∀ v2 : Int32, v2 = ((v1 &&& 858993459) + (((Int32.toUInt32 v1 >>> (Int32.toUInt32 2 &&& Int32.toUInt32 31)).toInt32) &&& 858993459)) → (∀ v3 : Int32, v3 = ((v2 + ((Int32.toUInt32 v2 >>> (Int32.toUInt32 4 &&& Int32.toUInt32 31)).toInt32)) &&& 252645135) → (∀ v4 : Int32, v4 = (v3 + ((Int32.toUInt32 v3 >>> (Int32.toUInt32 8 &&& Int32.toUInt32 31)).toInt32)) → (∀ v5 : Int32, v5 = (v4 + ((Int32.toUInt32 v4 >>> (Int32.toUInt32 16 &&& Int32.toUInt32 31)).toInt32)) → (Q (v5 &&& 63) M)))))
abbrev rm_J6_bitCount_0f7a4 : Room := { frames := 3, cells := 0, slots := 0, locals := 60 }
set_option maxHeartbeats 4000000 in
set_option maxRecDepth 100000 in
theorem c_J6_bitCount_0f7a4 (X : Cx)  (M : Mem) (x0 : Int32) (Q : Int32 → Mem → Prop) (h : w_J6_bitCount_0f7a4  M x0 Q) : Ct yJ6_bitCount_0f7a4 cJ6_bitCount_0f7a4 1 (some .int) rm_J6_bitCount_0f7a4 X M [.int x0] (Qi X Q) := by
  refine ct_of (own := RJ6) (lv := [(0, .int x0)]) rfl (by decide) (Nat.le_of_ble_eq_true rfl) rfl ?_
  intro K C
  unfold w_J6_bitCount_0f7a4 at h
  refine r_iload_n (pc := 0) C 0 dJ6_bitCount_0f7a4_0 rfl ?_
  refine r_iload_n (pc := 1) C 0 dJ6_bitCount_0f7a4_1 rfl ?_
  refine r_iconst (pc := 2) (v := 1) C dJ6_bitCount_0f7a4_2 (by decide) ?_
  refine r_iushr (pc := 3) C dJ6_bitCount_0f7a4_3 ?_
  refine r_ldcw (pc := 4) C aw757 dJ6_bitCount_0f7a4_4 ?_
  refine r_iand (pc := 7) C dJ6_bitCount_0f7a4_7 ?_
  refine r_isub (pc := 8) C dJ6_bitCount_0f7a4_8 ?_
  refine r_topi (fun v1 ev1 => ?_)
  replace h := h v1 ev1
  refine r_istore_n (pc := 9) (lv2 := [(0, .int v1)]) C dJ6_bitCount_0f7a4_9 (by decide) rfl ?_
  refine r_iload_n (pc := 10) C 0 dJ6_bitCount_0f7a4_10 rfl ?_
  refine r_ldcw (pc := 11) C aw758 dJ6_bitCount_0f7a4_11 ?_
  refine r_iand (pc := 14) C dJ6_bitCount_0f7a4_14 ?_
  refine r_iload_n (pc := 15) C 0 dJ6_bitCount_0f7a4_15 rfl ?_
  refine r_iconst (pc := 16) (v := 2) C dJ6_bitCount_0f7a4_16 (by decide) ?_
  refine r_iushr (pc := 17) C dJ6_bitCount_0f7a4_17 ?_
  refine r_ldcw (pc := 18) C aw758 dJ6_bitCount_0f7a4_18 ?_
  refine r_iand (pc := 21) C dJ6_bitCount_0f7a4_21 ?_
  refine r_iadd (pc := 22) C dJ6_bitCount_0f7a4_22 ?_
  refine r_topi (fun v2 ev2 => ?_)
  replace h := h v2 ev2
  refine r_istore_n (pc := 23) (lv2 := [(0, .int v2)]) C dJ6_bitCount_0f7a4_23 (by decide) rfl ?_
  refine r_iload_n (pc := 24) C 0 dJ6_bitCount_0f7a4_24 rfl ?_
  refine r_iload_n (pc := 25) C 0 dJ6_bitCount_0f7a4_25 rfl ?_
  refine r_iconst (pc := 26) (v := 4) C dJ6_bitCount_0f7a4_26 (by decide) ?_
  refine r_iushr (pc := 27) C dJ6_bitCount_0f7a4_27 ?_
  refine r_iadd (pc := 28) C dJ6_bitCount_0f7a4_28 ?_
  refine r_ldcw (pc := 29) C aw759 dJ6_bitCount_0f7a4_29 ?_
  refine r_iand (pc := 32) C dJ6_bitCount_0f7a4_32 ?_
  refine r_topi (fun v3 ev3 => ?_)
  replace h := h v3 ev3
  refine r_istore_n (pc := 33) (lv2 := [(0, .int v3)]) C dJ6_bitCount_0f7a4_33 (by decide) rfl ?_
  refine r_iload_n (pc := 34) C 0 dJ6_bitCount_0f7a4_34 rfl ?_
  refine r_iload_n (pc := 35) C 0 dJ6_bitCount_0f7a4_35 rfl ?_
  refine r_bipush (pc := 36) (v := 8) C dJ6_bitCount_0f7a4_36 (by decide) ?_
  refine r_iushr (pc := 38) C dJ6_bitCount_0f7a4_38 ?_
  refine r_iadd (pc := 39) C dJ6_bitCount_0f7a4_39 ?_
  refine r_topi (fun v4 ev4 => ?_)
  replace h := h v4 ev4
  refine r_istore_n (pc := 40) (lv2 := [(0, .int v4)]) C dJ6_bitCount_0f7a4_40 (by decide) rfl ?_
  refine r_iload_n (pc := 41) C 0 dJ6_bitCount_0f7a4_41 rfl ?_
  refine r_iload_n (pc := 42) C 0 dJ6_bitCount_0f7a4_42 rfl ?_
  refine r_bipush (pc := 43) (v := 16) C dJ6_bitCount_0f7a4_43 (by decide) ?_
  refine r_iushr (pc := 45) C dJ6_bitCount_0f7a4_45 ?_
  refine r_iadd (pc := 46) C dJ6_bitCount_0f7a4_46 ?_
  refine r_topi (fun v5 ev5 => ?_)
  replace h := h v5 ev5
  refine r_istore_n (pc := 47) (lv2 := [(0, .int v5)]) C dJ6_bitCount_0f7a4_47 (by decide) rfl ?_
  refine r_iload_n (pc := 48) C 0 dJ6_bitCount_0f7a4_48 rfl ?_
  refine r_bipush (pc := 49) (v := 63) C dJ6_bitCount_0f7a4_49 (by decide) ?_
  refine r_iand (pc := 51) C dJ6_bitCount_0f7a4_51 ?_
  exact r_iret (pc := 52) C dJ6_bitCount_0f7a4_52 h
theorem yd_J7_fill_53178 : yJ7_fill_53178.cls ≠ "java/lang/invoke/MethodHandle" ∧ yJ7_fill_53178.cls ≠ "java/lang/invoke/VarHandle" ∧ (parseMethodDescriptor yJ7_fill_53178.desc).map (fun d => d.parameters.length) = some 2 := by decide +kernel
def wB_J7_fill_53178_5 (k0 : Nat) (Q : Mem → Prop)  (R5 : Mem → Int32 → Int32 → Int32 → Prop) (M : Mem) (x1 : Int32) (x2 : Int32) (x3 : Int32) : Prop :=
  ((x3 ≤ x2) → (Q M)) ∧ ((¬ x3 ≤ x2) → (vp_in x2 (ln k0) ∧ (∀ M3 : Mem, M3 = ms M k0 (Int32.toNatClampNeg x2) x1 → (∀ v4 : Int32, v4 = x2 + 1 → (R5 M3 x1 v4 x3)))))
def wL_J7_fill_53178_5 (k0 : Nat) (Q : Mem → Prop)  : Nat → Mem → Int32 → Int32 → Int32 → Prop
  | 0 => fun _ _ _ _ => False
  | n + 1 => fun M x1 x2 x3 => wB_J7_fill_53178_5 k0 Q  (wL_J7_fill_53178_5 k0 Q  n) M x1 x2 x3
theorem wL_J7_fill_53178_5_s {k0 : Nat} {Q : Mem → Prop}  {n : Nat} {M : Mem} {x1 : Int32} {x2 : Int32} {x3 : Int32} (h : wL_J7_fill_53178_5 k0 Q  (n + 1) M x1 x2 x3) : wB_J7_fill_53178_5 k0 Q  (wL_J7_fill_53178_5 k0 Q  n) M x1 x2 x3 := h
def w_J7_fill_53178 (k0 : Nat) (M : Mem) (x1 : Int32) (Q : Mem → Prop) : Prop :=
  ∀ v1 : Int32, v1 = (Int32.ofNat (ln k0)) → (∃ n2 : Nat, wL_J7_fill_53178_5 k0 Q  n2 M x1 0 v1)
abbrev rm_J7_fill_53178 : Room := { frames := 3, cells := 0, slots := 0, locals := 60 }
set_option maxHeartbeats 4000000 in
set_option maxRecDepth 100000 in
theorem c_J7_fill_53178 (X : Cx) (k0 : Nat) (h0 : kd k0 = 10) (M : Mem) (x1 : Int32) (Q : Mem → Prop) (h : w_J7_fill_53178 k0 M x1 Q) : Ct yJ7_fill_53178 cJ7_fill_53178 4 none rm_J7_fill_53178 X M [.ref (ad X k0), .int x1] (Qv X Q) := by
  refine ct_of (own := RJ7) (lv := [(0, .ref (ad X k0)), (1, .int x1)]) rfl (by decide) (Nat.le_of_ble_eq_true rfl) rfl ?_
  intro K C
  have hL5 : ∀  (n : Nat) (M : Mem) (x1 : Int32) (x2 : Int32) (x3 : Int32), wL_J7_fill_53178_5 k0 Q  n M x1 x2 x3 → WX K X 4 (Qv X Q) M 5 [(0, .ref (ad X k0)), (1, .int x1), (2, .int x2), (3, .int x3)] [] := by
    intro  n
    induction n with
    | zero => intro M x1 x2 x3 h; exact absurd h id
    | succ n ih =>
      intro M x1 x2 x3 h
      replace h := wL_J7_fill_53178_5_s h
      unfold wB_J7_fill_53178_5 at h
      refine r_iload_n (pc := 5) C 2 dJ7_fill_53178_5 rfl ?_
      refine r_iload_n (pc := 6) C 3 dJ7_fill_53178_6 rfl ?_
      refine r_icmp_ge (pc := 7) (tgt := 20) C dJ7_fill_53178_7 (by decide) (fun c1 => ?_) (fun c1 => ?_)
      · have h := h.1 c1
        exact r_vret (pc := 20) C dJ7_fill_53178_20 h
      · have h := h.2 c1
        refine r_aload_n (pc := 10) C 0 dJ7_fill_53178_10 rfl ?_
        refine r_iload_n (pc := 11) C 2 dJ7_fill_53178_11 rfl ?_
        refine r_iload_n (pc := 12) C 1 dJ7_fill_53178_12 rfl ?_
        obtain ⟨g2, h⟩ := h
        refine q_iast (pc := 13) (k := k0) (n := (ln k0)) (j := (Int32.toNatClampNeg x2)) C (bdA h0) (ceA h0) g2 rfl dJ7_fill_53178_13 ?_
        refine r_topM (fun M3 eM3 => ?_)
        replace h := h M3 eM3
        obtain ⟨v4, ev4⟩ : ∃ z : Int32, z = x2 + 1 := ⟨_, rfl⟩
        replace h := h v4 ev4
        refine r_iinc (pc := 14) (v := v4) (lv2 := [(2, .int v4), (0, .ref (ad X k0)), (1, .int x1), (3, .int x3)]) C 2 dJ7_fill_53178_14 rfl (by rw [ev4]; rfl) (by decide) rfl ?_
        refine r_goto (pc := 17) (tgt := 5) C dJ7_fill_53178_17 (by decide) ?_
        refine r_sub (lv2 := [(0, .ref (ad X k0)), (1, .int x1), (2, .int v4), (3, .int x3)]) [1, 2, 0, 3] rfl ?_
        exact ih _ _ _ _ h
  unfold w_J7_fill_53178 at h
  refine r_iconst (pc := 0) (v := 0) C dJ7_fill_53178_0 (by decide) ?_
  refine r_istore_n (pc := 1) (lv2 := [(2, .int 0), (0, .ref (ad X k0)), (1, .int x1)]) C dJ7_fill_53178_1 (by decide) rfl ?_
  refine r_aload_n (pc := 2) C 1 dJ7_fill_53178_2 rfl ?_
  refine r_alen (pc := 3) (k := k0) (n := (ln k0)) C (bdA h0) (ceA h0 _) dJ7_fill_53178_3 ?_
  refine r_topi (fun v1 ev1 => ?_)
  replace h := h v1 ev1
  refine r_istore_n (pc := 4) (lv2 := [(3, .int v1), (2, .int 0), (0, .ref (ad X k0)), (1, .int x1)]) C dJ7_fill_53178_4 (by decide) rfl ?_
  obtain ⟨n2, h⟩ := h
  refine r_sub (lv2 := [(0, .ref (ad X k0)), (1, .int x1), (2, .int 0), (3, .int v1)]) [2, 3, 1, 0] rfl ?_
  exact hL5  _ _ _ _ _ h
end
