theorem AWcall {cy : Cond} (h : cy ∈ AW) : GoodIn AW (cy :: AW) := fun w hw => by
  rcases List.mem_cons.mp hw with e | e
  · rw [e]; exact ⟨h, (AWgood cy h).2⟩
  · exact ⟨e, (AWgood w e).2⟩
def NF : List (String × Nat × String × String × String × String) := [(RX8, 117, "DoorVotes$Reader", "length", "I", "DoorVotes"), (RX8, 135, "DoorVotes$Reader", "place", "I", "DoorVotes"), (RX8, 128, "DoorVotes$Reader", "fault", "I", "DoorVotes"), (RX8, 148, "DoorVotes$Acts", "kept", "I", "DoorVotes"), (RX8, 340, "DoorVotes$Asker", "trace", "[I", "DoorVotes"), (RX8, 333, "DoorVotes$Asker", "traced", "I", "DoorVotes"), (RX3, 68, "DoorVotes$Town", "rooms", "I", "DoorVotes"), (RX8, 287, "DoorVotes$Town", "rooms", "I", "DoorVotes"), (RX7, 28, "DoorVotes$Town", "doors", "I", "DoorVotes"), (RX3, 65, "DoorVotes$Town", "doors", "I", "DoorVotes"), (RX0, 59, "DoorVotes$Town", "doors", "I", "DoorVotes"), (RX8, 192, "DoorVotes$Town", "doors", "I", "DoorVotes"), (RX2, 18, "DoorVotes$Town", "people", "I", "DoorVotes"), (RX5, 25, "DoorVotes$Town", "people", "I", "DoorVotes"), (RX3, 78, "DoorVotes$Town", "people", "I", "DoorVotes"), (RX8, 145, "DoorVotes$Town", "people", "I", "DoorVotes"), (RX3, 85, "DoorVotes$Town", "ties", "I", "DoorVotes"), (RX8, 349, "DoorVotes$Town", "ties", "I", "DoorVotes"), (RX0, 53, "DoorVotes$Town", "day", "I", "DoorVotes"), (RX8, 183, "DoorVotes$Town", "day", "I", "DoorVotes"), (RX7, 43, "DoorVotes$Town", "sideA", "[I", "DoorVotes"), (RX8, 213, "DoorVotes$Town", "sideA", "[I", "DoorVotes"), (RX7, 44, "DoorVotes$Town", "sideB", "[I", "DoorVotes"), (RX8, 216, "DoorVotes$Town", "sideB", "[I", "DoorVotes"), (RX1, 15, "DoorVotes$Town", "kind", "[I", "DoorVotes"), (RX8, 302, "DoorVotes$Town", "kind", "[I", "DoorVotes"), (RX8, 198, "DoorVotes$Town", "room", "[I", "DoorVotes"), (RX1, 49, "DoorVotes$Town", "bent", "[I", "DoorVotes"), (RX8, 201, "DoorVotes$Town", "bent", "[I", "DoorVotes"), (RX0, 56, "DoorVotes$Town", "gifts", "[I", "DoorVotes"), (RX8, 186, "DoorVotes$Town", "gifts", "[I", "DoorVotes"), (RX3, 91, "DoorVotes$Town", "kin", "[I", "DoorVotes"), (RX8, 207, "DoorVotes$Town", "kin", "[I", "DoorVotes"), (RX3, 94, "DoorVotes$Town", "feuds", "[I", "DoorVotes"), (RX8, 210, "DoorVotes$Town", "feuds", "[I", "DoorVotes"), (RX0, 43, "DoorVotes$Town", "times", "[I", "DoorVotes"), (RX8, 225, "DoorVotes$Town", "times", "[I", "DoorVotes"), (RX0, 46, "DoorVotes$Town", "last", "[I", "DoorVotes"), (RX8, 228, "DoorVotes$Town", "last", "[I", "DoorVotes"), (RX5, 30, "DoorVotes$Ballot", "weight", "[I", "DoorVotes"), (RX5, 35, "DoorVotes$Ballot", "vote", "[I", "DoorVotes"), (RX8, 251, "DoorVotes$Ways", "far", "[I", "DoorVotes"), (RX8, 270, "DoorVotes$Sway", "fewest", "I", "DoorVotes"), (RX8, 273, "DoorVotes$Sway", "people", "I", "DoorVotes"), (RX8, 103, "DoorVotes$Row", "items", "[I", "DoorVotes"), (RX8, 99, "DoorVotes$Row", "lane", "I", "DoorVotes"), (RX1, 35, "DoorVotes", "KIND_ABOVE", "[I", "DoorVotes")]
def NM : List (String × Nat × MethodName × String) := [(RX8, 17, yX3_init, "DoorVotes"), (RX8, 24, yX0_init, "DoorVotes"), (RX8, 31, yX1_init, "DoorVotes"), (RX8, 38, yX6_init, "DoorVotes"), (RX8, 52, yX2_init, "DoorVotes"), (RX8, 59, yX7_init, "DoorVotes"), (RX8, 66, yX5_init, "DoorVotes"), (RX8, 71, yX4_init, "DoorVotes"), (RX8, 81, yX4_begin, "DoorVotes"), (RX8, 88, yX4_findingOf, "DoorVotes"), (RX8, 92, yX4_put, "DoorVotes"), (RX8, 95, yX4_isMissing, "DoorVotes"), (RX8, 113, yX4_end, "DoorVotes"), (RX8, 121, yX3_take, "DoorVotes"), (RX8, 124, yX3_readInto, "DoorVotes"), (RX3, 108, yX8_within, "DoorVotes"), (RX3, 52, yX6_begin, "DoorVotes"), (RX3, 71, yX6_addDoor, "DoorVotes"), (RX3, 81, yX6_addPerson, "DoorVotes"), (RX3, 88, yX6_tiedTo, "DoorVotes"), (RX3, 97, yX6_addTie, "DoorVotes"), (RX8, 138, yX6_become, "DoorVotes"), (RX8, 142, yX0_forget, "DoorVotes"), (RX8, 152, yX0_takeBack, "DoorVotes"), (RX0, 38, yX6_cellOf, "DoorVotes"), (RX0, 62, yX6_cross, "DoorVotes"), (RX8, 162, yX6_isAtDoor, "DoorVotes"), (RX8, 260, yX2_hold, "DoorVotes"), (RX2, 27, yX6_weightOf, "DoorVotes"), (RX2, 31, yX6_favourOf, "DoorVotes"), (RX8, 356, yX2_opens, "DoorVotes"), (RX8, 169, yX0_keep, "DoorVotes"), (RX8, 173, yX0_remember, "DoorVotes"), (RX8, 177, yX6_pass, "DoorVotes"), (RX8, 195, yX6_addDoor, "DoorVotes"), (RX8, 204, yX6_timesOf, "DoorVotes"), (RX8, 219, yX6_passedThrough, "DoorVotes"), (RX8, 222, yX6_cellOf, "DoorVotes"), (RX8, 231, yX6_freshIn, "DoorVotes"), (RX8, 234, yX6_weightOf, "DoorVotes"), (RX8, 358, yX2_weightsOf, "DoorVotes"), (RX8, 241, yX6_favourOf, "DoorVotes"), (RX8, 244, yX7_take, "DoorVotes"), (RX7, 33, yX2_hold, "DoorVotes"), (RX7, 39, yX2_opens, "DoorVotes"), (RX8, 247, yX7_measureFrom, "DoorVotes"), (RX8, 254, yX7_firstDoorFrom, "DoorVotes"), (RX8, 361, yX7_roomsMeasured, "DoorVotes"), (RX8, 263, yX5_gather, "DoorVotes"), (RX5, 38, yX6_leaningOf, "DoorVotes"), (RX8, 266, yX5_seek, "DoorVotes"), (RX5, 46, yX2_opens, "DoorVotes"), (RX5, 55, yX2_margin, "DoorVotes"), (RX8, 274, yX6_mark, "DoorVotes"), (RX8, 283, yX2_opensBehind, "DoorVotes"), (RX8, 290, yX7_farWith, "DoorVotes"), (RX8, 309, yX2_opensAwake, "DoorVotes"), (RX8, 327, yX6_roomsAdded, "DoorVotes"), (RX8, 336, yX1_answer, "DoorVotes"), (RX1, 20, yX8_within, "DoorVotes"), (RX1, 42, yX6_timesOf, "DoorVotes"), (RX8, 346, yX6_allTimes, "DoorVotes")]
theorem nf0 : (RX8, 117, "DoorVotes$Reader", "length", "I", "DoorVotes") ∈ NF := List.mem_of_getElem? (i := 0) rfl
theorem nf1 : (RX8, 135, "DoorVotes$Reader", "place", "I", "DoorVotes") ∈ NF := List.mem_of_getElem? (i := 1) rfl
theorem nf2 : (RX8, 128, "DoorVotes$Reader", "fault", "I", "DoorVotes") ∈ NF := List.mem_of_getElem? (i := 2) rfl
theorem nf3 : (RX8, 148, "DoorVotes$Acts", "kept", "I", "DoorVotes") ∈ NF := List.mem_of_getElem? (i := 3) rfl
theorem nf4 : (RX8, 340, "DoorVotes$Asker", "trace", "[I", "DoorVotes") ∈ NF := List.mem_of_getElem? (i := 4) rfl
theorem nf5 : (RX8, 333, "DoorVotes$Asker", "traced", "I", "DoorVotes") ∈ NF := List.mem_of_getElem? (i := 5) rfl
theorem nf6 : (RX3, 68, "DoorVotes$Town", "rooms", "I", "DoorVotes") ∈ NF := List.mem_of_getElem? (i := 6) rfl
theorem nf7 : (RX8, 287, "DoorVotes$Town", "rooms", "I", "DoorVotes") ∈ NF := List.mem_of_getElem? (i := 7) rfl
theorem nf8 : (RX7, 28, "DoorVotes$Town", "doors", "I", "DoorVotes") ∈ NF := List.mem_of_getElem? (i := 8) rfl
theorem nf9 : (RX3, 65, "DoorVotes$Town", "doors", "I", "DoorVotes") ∈ NF := List.mem_of_getElem? (i := 9) rfl
theorem nf10 : (RX0, 59, "DoorVotes$Town", "doors", "I", "DoorVotes") ∈ NF := List.mem_of_getElem? (i := 10) rfl
theorem nf11 : (RX8, 192, "DoorVotes$Town", "doors", "I", "DoorVotes") ∈ NF := List.mem_of_getElem? (i := 11) rfl
theorem nf12 : (RX2, 18, "DoorVotes$Town", "people", "I", "DoorVotes") ∈ NF := List.mem_of_getElem? (i := 12) rfl
theorem nf13 : (RX5, 25, "DoorVotes$Town", "people", "I", "DoorVotes") ∈ NF := List.mem_of_getElem? (i := 13) rfl
theorem nf14 : (RX3, 78, "DoorVotes$Town", "people", "I", "DoorVotes") ∈ NF := List.mem_of_getElem? (i := 14) rfl
theorem nf15 : (RX8, 145, "DoorVotes$Town", "people", "I", "DoorVotes") ∈ NF := List.mem_of_getElem? (i := 15) rfl
theorem nf16 : (RX3, 85, "DoorVotes$Town", "ties", "I", "DoorVotes") ∈ NF := List.mem_of_getElem? (i := 16) rfl
theorem nf17 : (RX8, 349, "DoorVotes$Town", "ties", "I", "DoorVotes") ∈ NF := List.mem_of_getElem? (i := 17) rfl
theorem nf18 : (RX0, 53, "DoorVotes$Town", "day", "I", "DoorVotes") ∈ NF := List.mem_of_getElem? (i := 18) rfl
theorem nf19 : (RX8, 183, "DoorVotes$Town", "day", "I", "DoorVotes") ∈ NF := List.mem_of_getElem? (i := 19) rfl
theorem nf20 : (RX7, 43, "DoorVotes$Town", "sideA", "[I", "DoorVotes") ∈ NF := List.mem_of_getElem? (i := 20) rfl
theorem nf21 : (RX8, 213, "DoorVotes$Town", "sideA", "[I", "DoorVotes") ∈ NF := List.mem_of_getElem? (i := 21) rfl
theorem nf22 : (RX7, 44, "DoorVotes$Town", "sideB", "[I", "DoorVotes") ∈ NF := List.mem_of_getElem? (i := 22) rfl
theorem nf23 : (RX8, 216, "DoorVotes$Town", "sideB", "[I", "DoorVotes") ∈ NF := List.mem_of_getElem? (i := 23) rfl
theorem nf24 : (RX1, 15, "DoorVotes$Town", "kind", "[I", "DoorVotes") ∈ NF := List.mem_of_getElem? (i := 24) rfl
theorem nf25 : (RX8, 302, "DoorVotes$Town", "kind", "[I", "DoorVotes") ∈ NF := List.mem_of_getElem? (i := 25) rfl
theorem nf26 : (RX8, 198, "DoorVotes$Town", "room", "[I", "DoorVotes") ∈ NF := List.mem_of_getElem? (i := 26) rfl
theorem nf27 : (RX1, 49, "DoorVotes$Town", "bent", "[I", "DoorVotes") ∈ NF := List.mem_of_getElem? (i := 27) rfl
theorem nf28 : (RX8, 201, "DoorVotes$Town", "bent", "[I", "DoorVotes") ∈ NF := List.mem_of_getElem? (i := 28) rfl
theorem nf29 : (RX0, 56, "DoorVotes$Town", "gifts", "[I", "DoorVotes") ∈ NF := List.mem_of_getElem? (i := 29) rfl
theorem nf30 : (RX8, 186, "DoorVotes$Town", "gifts", "[I", "DoorVotes") ∈ NF := List.mem_of_getElem? (i := 30) rfl
theorem nf31 : (RX3, 91, "DoorVotes$Town", "kin", "[I", "DoorVotes") ∈ NF := List.mem_of_getElem? (i := 31) rfl
theorem nf32 : (RX8, 207, "DoorVotes$Town", "kin", "[I", "DoorVotes") ∈ NF := List.mem_of_getElem? (i := 32) rfl
theorem nf33 : (RX3, 94, "DoorVotes$Town", "feuds", "[I", "DoorVotes") ∈ NF := List.mem_of_getElem? (i := 33) rfl
theorem nf34 : (RX8, 210, "DoorVotes$Town", "feuds", "[I", "DoorVotes") ∈ NF := List.mem_of_getElem? (i := 34) rfl
theorem nf35 : (RX0, 43, "DoorVotes$Town", "times", "[I", "DoorVotes") ∈ NF := List.mem_of_getElem? (i := 35) rfl
theorem nf36 : (RX8, 225, "DoorVotes$Town", "times", "[I", "DoorVotes") ∈ NF := List.mem_of_getElem? (i := 36) rfl
theorem nf37 : (RX0, 46, "DoorVotes$Town", "last", "[I", "DoorVotes") ∈ NF := List.mem_of_getElem? (i := 37) rfl
theorem nf38 : (RX8, 228, "DoorVotes$Town", "last", "[I", "DoorVotes") ∈ NF := List.mem_of_getElem? (i := 38) rfl
theorem nf39 : (RX5, 30, "DoorVotes$Ballot", "weight", "[I", "DoorVotes") ∈ NF := List.mem_of_getElem? (i := 39) rfl
theorem nf40 : (RX5, 35, "DoorVotes$Ballot", "vote", "[I", "DoorVotes") ∈ NF := List.mem_of_getElem? (i := 40) rfl
theorem nf41 : (RX8, 251, "DoorVotes$Ways", "far", "[I", "DoorVotes") ∈ NF := List.mem_of_getElem? (i := 41) rfl
theorem nf42 : (RX8, 270, "DoorVotes$Sway", "fewest", "I", "DoorVotes") ∈ NF := List.mem_of_getElem? (i := 42) rfl
theorem nf43 : (RX8, 273, "DoorVotes$Sway", "people", "I", "DoorVotes") ∈ NF := List.mem_of_getElem? (i := 43) rfl
theorem nf44 : (RX8, 103, "DoorVotes$Row", "items", "[I", "DoorVotes") ∈ NF := List.mem_of_getElem? (i := 44) rfl
theorem nf45 : (RX8, 99, "DoorVotes$Row", "lane", "I", "DoorVotes") ∈ NF := List.mem_of_getElem? (i := 45) rfl
theorem nf46 : (RX1, 35, "DoorVotes", "KIND_ABOVE", "[I", "DoorVotes") ∈ NF := List.mem_of_getElem? (i := 46) rfl
theorem nm0 : (RX8, 17, yX3_init, "DoorVotes") ∈ NM := List.mem_of_getElem? (i := 0) rfl
theorem nm1 : (RX8, 24, yX0_init, "DoorVotes") ∈ NM := List.mem_of_getElem? (i := 1) rfl
theorem nm2 : (RX8, 31, yX1_init, "DoorVotes") ∈ NM := List.mem_of_getElem? (i := 2) rfl
theorem nm3 : (RX8, 38, yX6_init, "DoorVotes") ∈ NM := List.mem_of_getElem? (i := 3) rfl
theorem nm4 : (RX8, 52, yX2_init, "DoorVotes") ∈ NM := List.mem_of_getElem? (i := 4) rfl
theorem nm5 : (RX8, 59, yX7_init, "DoorVotes") ∈ NM := List.mem_of_getElem? (i := 5) rfl
theorem nm6 : (RX8, 66, yX5_init, "DoorVotes") ∈ NM := List.mem_of_getElem? (i := 6) rfl
theorem nm7 : (RX8, 71, yX4_init, "DoorVotes") ∈ NM := List.mem_of_getElem? (i := 7) rfl
theorem nm8 : (RX8, 81, yX4_begin, "DoorVotes") ∈ NM := List.mem_of_getElem? (i := 8) rfl
theorem nm9 : (RX8, 88, yX4_findingOf, "DoorVotes") ∈ NM := List.mem_of_getElem? (i := 9) rfl
theorem nm10 : (RX8, 92, yX4_put, "DoorVotes") ∈ NM := List.mem_of_getElem? (i := 10) rfl
theorem nm11 : (RX8, 95, yX4_isMissing, "DoorVotes") ∈ NM := List.mem_of_getElem? (i := 11) rfl
theorem nm12 : (RX8, 113, yX4_end, "DoorVotes") ∈ NM := List.mem_of_getElem? (i := 12) rfl
theorem nm13 : (RX8, 121, yX3_take, "DoorVotes") ∈ NM := List.mem_of_getElem? (i := 13) rfl
theorem nm14 : (RX8, 124, yX3_readInto, "DoorVotes") ∈ NM := List.mem_of_getElem? (i := 14) rfl
theorem nm15 : (RX3, 108, yX8_within, "DoorVotes") ∈ NM := List.mem_of_getElem? (i := 15) rfl
theorem nm16 : (RX3, 52, yX6_begin, "DoorVotes") ∈ NM := List.mem_of_getElem? (i := 16) rfl
theorem nm17 : (RX3, 71, yX6_addDoor, "DoorVotes") ∈ NM := List.mem_of_getElem? (i := 17) rfl
theorem nm18 : (RX3, 81, yX6_addPerson, "DoorVotes") ∈ NM := List.mem_of_getElem? (i := 18) rfl
theorem nm19 : (RX3, 88, yX6_tiedTo, "DoorVotes") ∈ NM := List.mem_of_getElem? (i := 19) rfl
theorem nm20 : (RX3, 97, yX6_addTie, "DoorVotes") ∈ NM := List.mem_of_getElem? (i := 20) rfl
theorem nm21 : (RX8, 138, yX6_become, "DoorVotes") ∈ NM := List.mem_of_getElem? (i := 21) rfl
theorem nm22 : (RX8, 142, yX0_forget, "DoorVotes") ∈ NM := List.mem_of_getElem? (i := 22) rfl
theorem nm23 : (RX8, 152, yX0_takeBack, "DoorVotes") ∈ NM := List.mem_of_getElem? (i := 23) rfl
theorem nm24 : (RX0, 38, yX6_cellOf, "DoorVotes") ∈ NM := List.mem_of_getElem? (i := 24) rfl
theorem nm25 : (RX0, 62, yX6_cross, "DoorVotes") ∈ NM := List.mem_of_getElem? (i := 25) rfl
theorem nm26 : (RX8, 162, yX6_isAtDoor, "DoorVotes") ∈ NM := List.mem_of_getElem? (i := 26) rfl
theorem nm27 : (RX8, 260, yX2_hold, "DoorVotes") ∈ NM := List.mem_of_getElem? (i := 27) rfl
theorem nm28 : (RX2, 27, yX6_weightOf, "DoorVotes") ∈ NM := List.mem_of_getElem? (i := 28) rfl
theorem nm29 : (RX2, 31, yX6_favourOf, "DoorVotes") ∈ NM := List.mem_of_getElem? (i := 29) rfl
theorem nm30 : (RX8, 356, yX2_opens, "DoorVotes") ∈ NM := List.mem_of_getElem? (i := 30) rfl
theorem nm31 : (RX8, 169, yX0_keep, "DoorVotes") ∈ NM := List.mem_of_getElem? (i := 31) rfl
theorem nm32 : (RX8, 173, yX0_remember, "DoorVotes") ∈ NM := List.mem_of_getElem? (i := 32) rfl
theorem nm33 : (RX8, 177, yX6_pass, "DoorVotes") ∈ NM := List.mem_of_getElem? (i := 33) rfl
theorem nm34 : (RX8, 195, yX6_addDoor, "DoorVotes") ∈ NM := List.mem_of_getElem? (i := 34) rfl
theorem nm35 : (RX8, 204, yX6_timesOf, "DoorVotes") ∈ NM := List.mem_of_getElem? (i := 35) rfl
theorem nm36 : (RX8, 219, yX6_passedThrough, "DoorVotes") ∈ NM := List.mem_of_getElem? (i := 36) rfl
theorem nm37 : (RX8, 222, yX6_cellOf, "DoorVotes") ∈ NM := List.mem_of_getElem? (i := 37) rfl
theorem nm38 : (RX8, 231, yX6_freshIn, "DoorVotes") ∈ NM := List.mem_of_getElem? (i := 38) rfl
theorem nm39 : (RX8, 234, yX6_weightOf, "DoorVotes") ∈ NM := List.mem_of_getElem? (i := 39) rfl
theorem nm40 : (RX8, 358, yX2_weightsOf, "DoorVotes") ∈ NM := List.mem_of_getElem? (i := 40) rfl
theorem nm41 : (RX8, 241, yX6_favourOf, "DoorVotes") ∈ NM := List.mem_of_getElem? (i := 41) rfl
theorem nm42 : (RX8, 244, yX7_take, "DoorVotes") ∈ NM := List.mem_of_getElem? (i := 42) rfl
theorem nm43 : (RX7, 33, yX2_hold, "DoorVotes") ∈ NM := List.mem_of_getElem? (i := 43) rfl
theorem nm44 : (RX7, 39, yX2_opens, "DoorVotes") ∈ NM := List.mem_of_getElem? (i := 44) rfl
theorem nm45 : (RX8, 247, yX7_measureFrom, "DoorVotes") ∈ NM := List.mem_of_getElem? (i := 45) rfl
theorem nm46 : (RX8, 254, yX7_firstDoorFrom, "DoorVotes") ∈ NM := List.mem_of_getElem? (i := 46) rfl
theorem nm47 : (RX8, 361, yX7_roomsMeasured, "DoorVotes") ∈ NM := List.mem_of_getElem? (i := 47) rfl
theorem nm48 : (RX8, 263, yX5_gather, "DoorVotes") ∈ NM := List.mem_of_getElem? (i := 48) rfl
theorem nm49 : (RX5, 38, yX6_leaningOf, "DoorVotes") ∈ NM := List.mem_of_getElem? (i := 49) rfl
theorem nm50 : (RX8, 266, yX5_seek, "DoorVotes") ∈ NM := List.mem_of_getElem? (i := 50) rfl
theorem nm51 : (RX5, 46, yX2_opens, "DoorVotes") ∈ NM := List.mem_of_getElem? (i := 51) rfl
theorem nm52 : (RX5, 55, yX2_margin, "DoorVotes") ∈ NM := List.mem_of_getElem? (i := 52) rfl
theorem nm53 : (RX8, 274, yX6_mark, "DoorVotes") ∈ NM := List.mem_of_getElem? (i := 53) rfl
theorem nm54 : (RX8, 283, yX2_opensBehind, "DoorVotes") ∈ NM := List.mem_of_getElem? (i := 54) rfl
theorem nm55 : (RX8, 290, yX7_farWith, "DoorVotes") ∈ NM := List.mem_of_getElem? (i := 55) rfl
theorem nm56 : (RX8, 309, yX2_opensAwake, "DoorVotes") ∈ NM := List.mem_of_getElem? (i := 56) rfl
theorem nm57 : (RX8, 327, yX6_roomsAdded, "DoorVotes") ∈ NM := List.mem_of_getElem? (i := 57) rfl
theorem nm58 : (RX8, 336, yX1_answer, "DoorVotes") ∈ NM := List.mem_of_getElem? (i := 58) rfl
theorem nm59 : (RX1, 20, yX8_within, "DoorVotes") ∈ NM := List.mem_of_getElem? (i := 59) rfl
theorem nm60 : (RX1, 42, yX6_timesOf, "DoorVotes") ∈ NM := List.mem_of_getElem? (i := 60) rfl
theorem nm61 : (RX8, 346, yX6_allTimes, "DoorVotes") ∈ NM := List.mem_of_getElem? (i := 61) rfl
abbrev Mem : Type := Nat → Nat → Int32
abbrev Cx : Type := (Nat → ClassId) × (Nat → Nat → Nat) × (Nat → Nat) × (Nat → ClassId) × (Nat → Nat)
def ad (X : Cx) (k : Nat) : Nat := X.2.2.1 k
def cy (X : Cx) (k : Nat) : ClassId := X.2.2.2.1 k
def sa (X : Cx) (k : Nat) : Nat := X.2.2.2.2 k
abbrev dg (X : Cx) : va_G := (X.1, X.2.1)
def kdL : List Nat := [8, 12, 13, 4, 10, 4, 10, 4, 10, 4, 10, 4, 10, 4, 10, 4, 10, 4, 10, 3, 10, 0, 10, 10, 10, 10, 10, 1, 10, 2, 10, 10, 7, 10, 10, 10, 10, 5, 10, 10, 10, 6, 10, 10, 10, 10, 10, 10, 10, 10, 10, 10, 6, 10, 10, 10, 10, 10, 10, 10, 10, 10, 10, 6, 10, 10, 10, 10, 10, 10, 10, 10, 10, 10, 6, 10, 10, 10, 10, 10, 10, 10, 10, 10, 10, 9, 10, 11, 10, 10, 10, 10, 10]
def kd (k : Nat) : Nat := kdL.getD k 99
def lnL : List Nat := [0, 8, 2, 0, 40, 0, 40, 0, 40, 0, 40, 0, 40, 0, 40, 0, 40, 0, 40, 0, 120, 0, 24, 24, 24, 24, 24, 0, 16, 0, 6, 6, 0, 7, 7, 7, 6, 0, 6, 18, 18, 0, 6, 6, 6, 6, 6, 6, 6, 6, 36, 36, 0, 6, 6, 6, 6, 6, 6, 6, 6, 36, 36, 0, 6, 6, 6, 6, 6, 6, 6, 6, 36, 36, 0, 6, 6, 6, 6, 6, 6, 6, 6, 36, 36, 0, 3528, 2, 8, 8, 320, 120, 16]
def ln (k : Nat) : Nat := lnL.getD k 0
def cellA (X : Cx) (f : Nat → Int32) (k : Nat) : va_E := match kd k with
  | 0 => .inr (0, [.ref (ad X (k + 1)), .ref (ad X (k + 2)), .ref (ad X (k + 3)), .ref (ad X (k + 4)), .ref (ad X (k + 5)), .int (f 5), .int (f 6)])
  | 1 => .inr (1, [.ref (ad X (k + 1)), .int (f 1)])
  | 2 => .inr (2, [.ref (ad X (k + 1)), .ref (ad X (k + 2)), .int (f 2)])
  | 3 => .inr (3, [.ref (ad X (k + 1)), .int (f 1), .int (f 2), .int (f 3), .int (f 4), .int (f 5)])
  | 4 => .inr (4, [.ref (ad X (k + 1)), .int (f 1), .int (f 2)])
  | 5 => .inr (5, [.ref (ad X (k + 1)), .ref (ad X (k + 2)), .ref (ad X (k + 3)), .int (f 3), .int (f 4), .int (f 5)])
  | 6 => .inr (6, [.int (f 0), .int (f 1), .int (f 2), .int (f 3), .int (f 4), .int (f 5), .ref (ad X (k + 1)), .ref (ad X (k + 2)), .ref (ad X (k + 3)), .ref (ad X (k + 4)), .ref (ad X (k + 5)), .ref (ad X (k + 6)), .ref (ad X (k + 7)), .ref (ad X (k + 8)), .ref (ad X (k + 9)), .ref (ad X (k + 10))])
  | 7 => .inr (7, [.ref (ad X (k + 1)), .ref (ad X (k + 2)), .ref (ad X (k + 3)), .ref (ad X (k + 4)), .int (f 4)])
  | 8 => .inr (8, [.ref (ad X 1), .ref (ad X 19), .ref (ad X 21), .ref (ad X 27), .ref (ad X 41), .ref (ad X 52), .ref (ad X 2), .ref (ad X 29), .ref (ad X 32), .ref (ad X 37), .int (f 10), .int (f 11)])
  | 9 => .inr (9, [.ref (ad X (k + 1)), .int (f 1), .ref (ad X (k + 2)), .ref (ad X (k + 3)), .ref (ad X (k + 4)), .ref (ad X (k + 5)), .ref (ad X (k + 6)), .int (f 7), .int (f 8), .int (f 9), .ref (ad X (k + 7)), .int (f 11), .int (f 12), .int (f 13), .int (f 14), .int (f 15), .int (f 16), .int (f 17), .int (f 18), .int (f 19), .int (f 20)])
  | 10 => .inl (cy X 0, ln k, .inl f)
  | 11 => .inl (cy X 1, ln k, .inl f)
  | 12 => .inl (cy X 2, ln k, .inr (.inr (.inr (.inr (fun i => some (ad X (3 + 2 * i)))))))
  | _ => .inl (cy X 3, ln k, .inr (.inr (.inr (.inr (fun i => some (ad X (63 + 11 * i)))))))
def wsA (X : Cx) (M : Mem) : va_W := (List.range 93).map (fun k => (ad X k, cellA X (M k) k))
def ms (M : Mem) (k j : Nat) (v : Int32) : Mem := va_up M k (upd (M k) j v)
def mcp (M : Mem) (k0 k1 sp dp n : Nat) : Mem := va_up M k1 (va_cpy (M k0) (M k1) sp dp n)
theorem wsA_at {X : Cx} {M : Mem} {k : Nat} (hk : k < 93) : (wsA X M)[k]? = some (ad X k, cellA X (M k) k) := by
  simp [wsA, hk]
theorem wsA_some {X : Cx} {M : Mem} {k : Nat} {q : Nat × va_E} (h : (wsA X M)[k]? = some q) : k < 93 ∧ q = (ad X k, cellA X (M k) k) := by
  by_cases hk : k < 93
  · rw [wsA_at hk] at h
    exact ⟨hk, (Option.some.inj h).symm⟩
  · have : (wsA X M)[k]? = none := by simp [wsA]; omega
    rw [this] at h
    cases h
theorem wsA_set {X : Cx} {M : Mem} {k : Nat} (hk : k < 93) (f : Nat → Int32) : (wsA X M).set k (ad X k, cellA X f k) = wsA X (va_up M k f) := by
  apply List.ext_getElem?
  intro i
  rw [List.getElem?_set]
  by_cases h : k = i
  · subst h
    have hl : k < (wsA X M).length := by simp [wsA, hk]
    rw [if_pos rfl, if_pos hl, wsA_at hk, va_up_self]
  · rw [if_neg h]
    by_cases hi : i < 93
    · rw [wsA_at hi, wsA_at hi, va_up_ne _ _ (fun e => h e.symm)]
    · have h1 : (wsA X M)[i]? = none := by simp [wsA]; omega
      have h2 : (wsA X (va_up M k f))[i]? = none := by simp [wsA]; omega
      rw [h1, h2]
def AX (X : Cx) : Nat → Prop := fun q => ∃ k, k < 93 ∧ q = ad X k
def OkX (X : Cx) : Prop := ∀ i j : Nat, i < 93 → j < 93 → ad X i = ad X j → i = j
theorem wsA_D {X : Cx} {M : Mem} (h : OkX X) : va_D (AX X) (wsA X M) := by
  refine ⟨fun i j p q hi hj e => ?_, fun k q hk => ?_⟩
  · obtain ⟨a1, rfl⟩ := wsA_some hi
    obtain ⟨a2, rfl⟩ := wsA_some hj
    exact h i j a1 a2 e
  · obtain ⟨a1, rfl⟩ := wsA_some hk
    exact ⟨k, a1, rfl⟩
def PX (X : Cx) (M : Mem) (H : Heap) : Prop := va_P (dg X) vwCl (wsA X M) H
def Hx (X : Cx) (M : Mem) (s : State) (H : Heap) (locs : List Loc) : Prop := PX X M H ∧ va_S (AX X) s.heap H locs
def sc (z : Nat) : String := if z = 0 then "DoorVotes" else "DoorVotes$Asker"
def sn (z : Nat) : String := if z = 0 then "KIND_ABOVE" else if z = 1 then "SIZE_BODIES" else "MARK_BODIES"
def tbL (z : Nat) : List Int32 := if z = 0 then [-1000000, 0, 1, 1, 0, 4] else if z = 1 then [10, 11, 12, -1000000, 13, 14] else [20, 21, 24, 22, 23, -1000000]
def tb (z j : Nat) : Int32 := (tbL z).getD j 0
def tysA (X : Cx) : List (ClassId × FieldType) := [(cy X 0, .int), (cy X 1, .boolean), (cy X 2, .object "DoorVotes$Row"), (cy X 3, .object "DoorVotes$Town")]
def Sx (X : Cx) (U : State) (H : Heap) : Prop := ∀ z : Nat, z < 3 → va_Z (sc z) (sn z) "[I" (.ref (sa X z)) (AX X) U H ∧ va_T .int (sa X z) 6 (fun j => .int (tb z j)) (AX X) U H
def Fx (X : Cx) (U : State) : Prop := OkX X ∧ va_K (dg X) vwCl (tysA X) U ∧ (∀ q ∈ NF, va_Nw (.fieldLinkNest q.1 q.2.1 q.2.2.1 q.2.2.2.1 q.2.2.2.2.1 q.2.2.2.2.2) U) ∧ (∀ q ∈ NM, va_Nw (.methodLinkNest q.1 q.2.1 q.2.2.1 q.2.2.2) U) ∧ Sx X U U.heap
theorem Fx_blind {X : Cx} {U : State} {g : JFrame} {mk : MethodId} {a : Array Value} (h : Fx X U) : Fx X (U.calling g mk a) :=
  ⟨h.1, va_K.moved (u := U) (U := U.calling g mk a) (Vm.Alike.refl U.vm) h.2.1, fun q hq => va_Nw.same rfl (u := U) (U := U.calling g mk a) rfl (h.2.2.1 q hq), fun q hq => va_Nw.same rfl (u := U) (U := U.calling g mk a) rfl (h.2.2.2.1 q hq), fun z hz => ⟨va_Z.moved (u := U) (U := U.calling g mk a) (Vm.Alike.refl U.vm) (h.2.2.2.2 z hz).1, va_T.moved (u := U) (U := U.calling g mk a) (Vm.Alike.refl U.vm) (h.2.2.2.2 z hz).2⟩⟩
theorem Fx_call {X : Cx} {s U : State} {H : Heap} {locs : List Loc} (h : Fx X s) (hS : va_S (AX X) s.heap H locs) (hU : U.heap = H) (hW : s.WarmedH U.vm) : Fx X U := by
  refine ⟨h.1, va_K.moved hW.alike h.2.1, fun q hq => va_Nw.warmF hW (h.2.2.1 q hq), fun q hq => va_Nw.warmM hW (h.2.2.2.1 q hq), fun z hz => ⟨?_, ?_⟩⟩
  · rw [hU]
    exact (va_Z.moved hW.alike (h.2.2.2.2 z hz).1).kept hS.2.1
  · rw [hU]
    exact (va_T.moved hW.alike (h.2.2.2.2 z hz).2).kept hS.2.1
abbrev Kt : Type := Program × Launch × Env × Room × State × MethodId × Array Value × List Frame × Method × Code
def WX (K : Kt) (X : Cx) (nL : Nat) (Qc : Array Value → State → Outcome → State → Prop) (M : Mem) (pc : Nat) (lv : List (Nat × Value)) (st : List Value) : Prop := match K with
  | (p, l, e, R, s, m, args, below, meth, c) => ∀ (H : Heap) (locs : List Loc) (ls : Array Slot), Hx X M s H locs → lv_has ls nL lv → W p l e R s m args below meth c H locs 0 0 (MQ below Qc args s 0 0 (AX X)) (F0 m pc ls st)
def Kok (K : Kt) (X : Cx) (nL : Nat) (cc : ByteArray) (own : String) (rm : Room) (rt : Option FieldType) : Prop := match K with
  | (p, _, _, R, s, m, args, _, meth, c) => p.tables.exec = Jvm.exec ∧ c.code = cc ∧ c.maxLocals = nL ∧ s.vm.findClass own = some m.cls ∧ (∀ w ∈ AW, w.before args s = true) ∧ Fx X s ∧ R = rm ∧ meth.sig.returnType = rt ∧ meth.locks = false
abbrev Qi (X : Cx) (Q : Int32 → Mem → Prop) : Array Value → State → Outcome → State → Prop := va_Qi Q (fun M' t => PX X M' t.heap) (AX X)
abbrev Ql (X : Cx) (Q : Int64 → Mem → Prop) : Array Value → State → Outcome → State → Prop := va_Ql Q (fun M' t => PX X M' t.heap) (AX X)
abbrev Qv (X : Cx) (Q : Mem → Prop) : Array Value → State → Outcome → State → Prop := va_Qv Q (fun M' t => PX X M' t.heap) (AX X)
/-- a method's contract over the one world: from M with the arguments av it comes to Qc; nothing is made -/
def Ct (y : MethodName) (cc : ByteArray) (maxL : Nat) (ret : Option FieldType) (rm : Room) (X : Cx) (M : Mem) (av : List Value) (Qc : Array Value → State → Outcome → State → Prop) : Prop := ∀ l : Launch, Met l y (.code y cc maxL ret :: AW) rm (va_Pc av (fun U => PX X M U.heap ∧ Fx X U)) Qc 0 0 (AX X)
theorem ct_of {y : MethodName} {cc : ByteArray} {maxL : Nat} {ret : Option FieldType} {rm : Room} {X : Cx} {M : Mem} {av : List Value} {Qc : Array Value → State → Outcome → State → Prop} {own : String} {lv : List (Nat × Value)} (hown : y.cls = own) (hy : plainName y.cls = true) (hav : (lg_sl av).length ≤ maxL) (hlv : lv_args 0 av = lv) (h : ∀ K : Kt, Kok K X maxL cc own rm ret → WX K X maxL Qc M 0 lv []) : Ct y cc maxL ret rm X M av Qc := by
  intro l
  refine Met.ofW (cc := cc) (maxL := maxL) (ret := ret) hy rfl ?_
  intro p e s m args below meth c s₁ B hml hv
  obtain ⟨rfl, hP, hF⟩ := hv
  have hl := lv_entry av (n := maxL) hav
  rw [hlv] at hl
  rw [lg_entry_eq]
  have hts := atoms_spec (ws := Cond.code y cc maxL ret :: AW) B.pre
  exact h (p, l, e, (headSpec (Cond.code y cc maxL ret :: AW) rm).room, s, m, av.toArray, below, meth, c) ⟨B.exec, B.bytes, hml, by rw [← hown]; exact findClass_of_methodNamed B.named, fun w hw => hts w (List.mem_cons_of_mem _ hw), hF, rfl, B.returns, B.notSynchronized⟩ s.heap [] _ ⟨hP, va_S.rf⟩ hl
section ROWS
variable {K : Kt} {X : Cx} {nL : Nat} {cc : ByteArray} {own : String} {rm : Room} {rt : Option FieldType} {Qc : Array Value → State → Outcome → State → Prop} {M : Mem} {pc : Nat} {lv lv2 : List (Nat × Value)} {st : List Value}
theorem r_iconst (C : Kok K X nL cc own rm rt) {n : Int} {v : Int32} (hd : decode cc pc = .ok (.iconst n, 1)) (hv : Int32.ofInt n = v) (kk : WX K X nL Qc M (pc + 1) lv (.int v :: st)) : WX K X nL Qc M pc lv st := by
  obtain ⟨p, l, e, R, s, m, args, below, meth, c⟩ := K
  obtain ⟨hx, hb, hml, hown, hts, hF, rfl, hr, hlk⟩ := C
  intro H locs ls hH hl
  exact lv_iconst hx hb hd hv (kk H locs ls hH hl)
theorem r_bipush (C : Kok K X nL cc own rm rt) {n : Int} {v : Int32} (hd : decode cc pc = .ok (.bipush n, 2)) (hv : (Int8.ofInt n).toInt32 = v) (kk : WX K X nL Qc M (pc + 2) lv (.int v :: st)) : WX K X nL Qc M pc lv st := by
  obtain ⟨p, l, e, R, s, m, args, below, meth, c⟩ := K
  obtain ⟨hx, hb, hml, hown, hts, hF, rfl, hr, hlk⟩ := C
  intro H locs ls hH hl
  exact lv_bipush hx hb hd hv (kk H locs ls hH hl)
theorem r_sipush (C : Kok K X nL cc own rm rt) {n : Int} {v : Int32} (hd : decode cc pc = .ok (.sipush n, 3)) (hv : (Int16.ofInt n).toInt32 = v) (kk : WX K X nL Qc M (pc + 3) lv (.int v :: st)) : WX K X nL Qc M pc lv st := by
  obtain ⟨p, l, e, R, s, m, args, below, meth, c⟩ := K
  obtain ⟨hx, hb, hml, hown, hts, hF, rfl, hr, hlk⟩ := C
  intro H locs ls hH hl
  exact lv_sipush hx hb hd hv (kk H locs ls hH hl)
theorem r_lconst (C : Kok K X nL cc own rm rt) {n : Fin 2} {v : Int64} (hd : decode cc pc = .ok (.lconst n, 1)) (hv : Int64.ofNat (n : Nat) = v) (kk : WX K X nL Qc M (pc + 1) lv (.long v :: st)) : WX K X nL Qc M pc lv st := by
  obtain ⟨p, l, e, R, s, m, args, below, meth, c⟩ := K
  obtain ⟨hx, hb, hml, hown, hts, hF, rfl, hr, hlk⟩ := C
  intro H locs ls hH hl
  exact lv_lconst hx hb hd hv (kk H locs ls hH hl)
theorem r_ldc (C : Kok K X nL cc own rm rt) {i : Nat} {v : Int32} (hw : Cond.constant own i v ∈ AW) (hd : decode cc pc = .ok (.ldc i, 2)) (kk : WX K X nL Qc M (pc + 2) lv (.int v :: st)) : WX K X nL Qc M pc lv st := by
  obtain ⟨p, l, e, R, s, m, args, below, meth, c⟩ := K
  obtain ⟨hx, hb, hml, hown, hts, hF, rfl, hr, hlk⟩ := C
  intro H locs ls hH hl
  exact lv_ldc hx hb hown (hts _ hw) hd (kk H locs ls hH hl)
theorem r_ldcw (C : Kok K X nL cc own rm rt) {i : Nat} {v : Int32} (hw : Cond.constant own i v ∈ AW) (hd : decode cc pc = .ok (.ldc_w i, 3)) (kk : WX K X nL Qc M (pc + 3) lv (.int v :: st)) : WX K X nL Qc M pc lv st := by
  obtain ⟨p, l, e, R, s, m, args, below, meth, c⟩ := K
  obtain ⟨hx, hb, hml, hown, hts, hF, rfl, hr, hlk⟩ := C
  intro H locs ls hH hl
  exact lv_ldcw hx hb hown (hts _ hw) hd (kk H locs ls hH hl)
theorem r_ldc2 (C : Kok K X nL cc own rm rt) {i : Nat} {v : Int64} (hw : Cond.constantLong own i v ∈ AW) (hd : decode cc pc = .ok (.ldc2_w i, 3)) (kk : WX K X nL Qc M (pc + 3) lv (.long v :: st)) : WX K X nL Qc M pc lv st := by
  obtain ⟨p, l, e, R, s, m, args, below, meth, c⟩ := K
  obtain ⟨hx, hb, hml, hown, hts, hF, rfl, hr, hlk⟩ := C
  intro H locs ls hH hl
  exact lv_ldc2 hx hb hown (hts _ hw) hd (kk H locs ls hH hl)
theorem r_iload_n (C : Kok K X nL cc own rm rt) {k : Fin 4} {x : Int32} (j : Nat) (hd : decode cc pc = .ok (.iload_n k, 1)) (hj : lv[j]? = some ((k : Nat), .int x)) (kk : WX K X nL Qc M (pc + 1) lv (.int x :: st)) : WX K X nL Qc M pc lv st := by
  obtain ⟨p, l, e, R, s, m, args, below, meth, c⟩ := K
  obtain ⟨hx, hb, hml, hown, hts, hF, rfl, hr, hlk⟩ := C
  intro H locs ls hH hl
  exact lv_iload_n hx hb hd rfl (lv_at hl j hj) (kk H locs ls hH hl)
theorem r_iload (C : Kok K X nL cc own rm rt) {k : Nat} {x : Int32} (j : Nat) (hd : decode cc pc = .ok (.iload k, 2)) (hj : lv[j]? = some (k, .int x)) (kk : WX K X nL Qc M (pc + 2) lv (.int x :: st)) : WX K X nL Qc M pc lv st := by
  obtain ⟨p, l, e, R, s, m, args, below, meth, c⟩ := K
  obtain ⟨hx, hb, hml, hown, hts, hF, rfl, hr, hlk⟩ := C
  intro H locs ls hH hl
  exact lv_iload hx hb hd (lv_at hl j hj) (kk H locs ls hH hl)
theorem r_lload_n (C : Kok K X nL cc own rm rt) {k : Fin 4} {x : Int64} (j : Nat) (hd : decode cc pc = .ok (.lload_n k, 1)) (hj : lv[j]? = some ((k : Nat), .long x)) (kk : WX K X nL Qc M (pc + 1) lv (.long x :: st)) : WX K X nL Qc M pc lv st := by
  obtain ⟨p, l, e, R, s, m, args, below, meth, c⟩ := K
  obtain ⟨hx, hb, hml, hown, hts, hF, rfl, hr, hlk⟩ := C
  intro H locs ls hH hl
  exact lv_lload_n hx hb hd rfl (lv_at hl j hj) (kk H locs ls hH hl)
theorem r_lload (C : Kok K X nL cc own rm rt) {k : Nat} {x : Int64} (j : Nat) (hd : decode cc pc = .ok (.lload k, 2)) (hj : lv[j]? = some (k, .long x)) (kk : WX K X nL Qc M (pc + 2) lv (.long x :: st)) : WX K X nL Qc M pc lv st := by
  obtain ⟨p, l, e, R, s, m, args, below, meth, c⟩ := K
  obtain ⟨hx, hb, hml, hown, hts, hF, rfl, hr, hlk⟩ := C
  intro H locs ls hH hl
  exact lv_lload hx hb hd (lv_at hl j hj) (kk H locs ls hH hl)
theorem r_aload_n (C : Kok K X nL cc own rm rt) {k : Fin 4} {x : Nat} (j : Nat) (hd : decode cc pc = .ok (.aload_n k, 1)) (hj : lv[j]? = some ((k : Nat), .ref x)) (kk : WX K X nL Qc M (pc + 1) lv (.ref x :: st)) : WX K X nL Qc M pc lv st := by
  obtain ⟨p, l, e, R, s, m, args, below, meth, c⟩ := K
  obtain ⟨hx, hb, hml, hown, hts, hF, rfl, hr, hlk⟩ := C
  intro H locs ls hH hl
  exact lv_aload_n hx hb hd rfl (lv_at hl j hj) (kk H locs ls hH hl)
theorem r_aload (C : Kok K X nL cc own rm rt) {k : Nat} {x : Nat} (j : Nat) (hd : decode cc pc = .ok (.aload k, 2)) (hj : lv[j]? = some (k, .ref x)) (kk : WX K X nL Qc M (pc + 2) lv (.ref x :: st)) : WX K X nL Qc M pc lv st := by
  obtain ⟨p, l, e, R, s, m, args, below, meth, c⟩ := K
  obtain ⟨hx, hb, hml, hown, hts, hF, rfl, hr, hlk⟩ := C
  intro H locs ls hH hl
  exact lv_aload hx hb hd (lv_at hl j hj) (kk H locs ls hH hl)
theorem r_istore_n (C : Kok K X nL cc own rm rt) {k : Fin 4} {x : Int32} (hd : decode cc pc = .ok (.istore_n k, 1)) (hn : (k : Nat) < nL) (h2 : ((k : Nat), Value.int x) :: lv.filter (fun q => !(q.1 == (k : Nat)) && !(q.1 + 1 == (k : Nat) && q.2.category == 2)) = lv2) (kk : WX K X nL Qc M (pc + 1) lv2 st) : WX K X nL Qc M pc lv (.int x :: st) := by
  obtain ⟨p, l, e, R, s, m, args, below, meth, c⟩ := K
  obtain ⟨hx, hb, hml, hown, hts, hF, rfl, hr, hlk⟩ := C
  intro H locs ls hH hl
  exact lv_istore_n hx hb hd rfl hl hn h2 (fun ls hl => kk H locs ls hH hl)
theorem r_istore (C : Kok K X nL cc own rm rt) {k : Nat} {x : Int32} (hd : decode cc pc = .ok (.istore k, 2)) (hn : k < nL) (h2 : (k, Value.int x) :: lv.filter (fun q => !(q.1 == k) && !(q.1 + 1 == k && q.2.category == 2)) = lv2) (kk : WX K X nL Qc M (pc + 2) lv2 st) : WX K X nL Qc M pc lv (.int x :: st) := by
  obtain ⟨p, l, e, R, s, m, args, below, meth, c⟩ := K
  obtain ⟨hx, hb, hml, hown, hts, hF, rfl, hr, hlk⟩ := C
  intro H locs ls hH hl
  exact lv_istore hx hb hd hl hn h2 (fun ls hl => kk H locs ls hH hl)
theorem r_lstore_n (C : Kok K X nL cc own rm rt) {k : Fin 4} {x : Int64} (hd : decode cc pc = .ok (.lstore_n k, 1)) (hn : (k : Nat) + 1 < nL) (h2 : ((k : Nat), Value.long x) :: lv.filter (fun q => !(q.1 == (k : Nat)) && (!(q.1 == (k : Nat) + 1) && !(q.1 + 1 == (k : Nat) && q.2.category == 2))) = lv2) (kk : WX K X nL Qc M (pc + 1) lv2 st) : WX K X nL Qc M pc lv (.long x :: st) := by
  obtain ⟨p, l, e, R, s, m, args, below, meth, c⟩ := K
  obtain ⟨hx, hb, hml, hown, hts, hF, rfl, hr, hlk⟩ := C
  intro H locs ls hH hl
  exact lv_lstore_n hx hb hd rfl hl hn h2 (fun ls hl => kk H locs ls hH hl)
theorem r_lstore (C : Kok K X nL cc own rm rt) {k : Nat} {x : Int64} (hd : decode cc pc = .ok (.lstore k, 2)) (hn : k + 1 < nL) (h2 : (k, Value.long x) :: lv.filter (fun q => !(q.1 == k) && (!(q.1 == k + 1) && !(q.1 + 1 == k && q.2.category == 2))) = lv2) (kk : WX K X nL Qc M (pc + 2) lv2 st) : WX K X nL Qc M pc lv (.long x :: st) := by
  obtain ⟨p, l, e, R, s, m, args, below, meth, c⟩ := K
  obtain ⟨hx, hb, hml, hown, hts, hF, rfl, hr, hlk⟩ := C
  intro H locs ls hH hl
  exact lv_lstore hx hb hd hl hn h2 (fun ls hl => kk H locs ls hH hl)
theorem r_iinc (C : Kok K X nL cc own rm rt) {i : Nat} {n : Int} {x v : Int32} (j : Nat) (hd : decode cc pc = .ok (.iinc i n, 3)) (hj : lv[j]? = some (i, .int x)) (hv : x + Int32.ofInt n = v) (hn : i < nL) (h2 : (i, Value.int v) :: lv.filter (fun q => !(q.1 == i) && !(q.1 + 1 == i && q.2.category == 2)) = lv2) (kk : WX K X nL Qc M (pc + 3) lv2 st) : WX K X nL Qc M pc lv st := by
  obtain ⟨p, l, e, R, s, m, args, below, meth, c⟩ := K
  obtain ⟨hx, hb, hml, hown, hts, hF, rfl, hr, hlk⟩ := C
  intro H locs ls hH hl
  exact lv_iinc hx hb hd hl hj hv hn h2 (fun ls hl => kk H locs ls hH hl)
theorem r_iadd (C : Kok K X nL cc own rm rt) {x y : Int32} (hd : decode cc pc = .ok (.iadd, 1)) (kk : WX K X nL Qc M (pc + 1) lv (.int (x + y) :: st)) : WX K X nL Qc M pc lv (.int y :: .int x :: st) := by
  obtain ⟨p, l, e, R, s, m, args, below, meth, c⟩ := K
  obtain ⟨hx, hb, hml, hown, hts, hF, rfl, hr, hlk⟩ := C
  intro H locs ls hH hl
  exact lv_iadd hx hb hd (kk H locs ls hH hl)
theorem r_isub (C : Kok K X nL cc own rm rt) {x y : Int32} (hd : decode cc pc = .ok (.isub, 1)) (kk : WX K X nL Qc M (pc + 1) lv (.int (x - y) :: st)) : WX K X nL Qc M pc lv (.int y :: .int x :: st) := by
  obtain ⟨p, l, e, R, s, m, args, below, meth, c⟩ := K
  obtain ⟨hx, hb, hml, hown, hts, hF, rfl, hr, hlk⟩ := C
  intro H locs ls hH hl
  exact lv_isub hx hb hd (kk H locs ls hH hl)
theorem r_imul (C : Kok K X nL cc own rm rt) {x y : Int32} (hd : decode cc pc = .ok (.imul, 1)) (kk : WX K X nL Qc M (pc + 1) lv (.int (x * y) :: st)) : WX K X nL Qc M pc lv (.int y :: .int x :: st) := by
  obtain ⟨p, l, e, R, s, m, args, below, meth, c⟩ := K
  obtain ⟨hx, hb, hml, hown, hts, hF, rfl, hr, hlk⟩ := C
  intro H locs ls hH hl
  exact lv_imul hx hb hd (kk H locs ls hH hl)
theorem r_iand (C : Kok K X nL cc own rm rt) {x y : Int32} (hd : decode cc pc = .ok (.iand, 1)) (kk : WX K X nL Qc M (pc + 1) lv (.int (x &&& y) :: st)) : WX K X nL Qc M pc lv (.int y :: .int x :: st) := by
  obtain ⟨p, l, e, R, s, m, args, below, meth, c⟩ := K
  obtain ⟨hx, hb, hml, hown, hts, hF, rfl, hr, hlk⟩ := C
  intro H locs ls hH hl
  exact lv_iand hx hb hd (kk H locs ls hH hl)
theorem r_ior (C : Kok K X nL cc own rm rt) {x y : Int32} (hd : decode cc pc = .ok (.ior, 1)) (kk : WX K X nL Qc M (pc + 1) lv (.int (x ||| y) :: st)) : WX K X nL Qc M pc lv (.int y :: .int x :: st) := by
  obtain ⟨p, l, e, R, s, m, args, below, meth, c⟩ := K
  obtain ⟨hx, hb, hml, hown, hts, hF, rfl, hr, hlk⟩ := C
  intro H locs ls hH hl
  exact lv_ior hx hb hd (kk H locs ls hH hl)
theorem r_ishl (C : Kok K X nL cc own rm rt) {x y : Int32} (hd : decode cc pc = .ok (.ishl, 1)) (kk : WX K X nL Qc M (pc + 1) lv (.int (x <<< (y &&& 31)) :: st)) : WX K X nL Qc M pc lv (.int y :: .int x :: st) := by
  obtain ⟨p, l, e, R, s, m, args, below, meth, c⟩ := K
  obtain ⟨hx, hb, hml, hown, hts, hF, rfl, hr, hlk⟩ := C
  intro H locs ls hH hl
  exact lv_ishl hx hb hd (kk H locs ls hH hl)
theorem r_ishr (C : Kok K X nL cc own rm rt) {x y : Int32} (hd : decode cc pc = .ok (.ishr, 1)) (kk : WX K X nL Qc M (pc + 1) lv (.int (x >>> (y &&& 31)) :: st)) : WX K X nL Qc M pc lv (.int y :: .int x :: st) := by
  obtain ⟨p, l, e, R, s, m, args, below, meth, c⟩ := K
  obtain ⟨hx, hb, hml, hown, hts, hF, rfl, hr, hlk⟩ := C
  intro H locs ls hH hl
  exact lv_ishr hx hb hd (kk H locs ls hH hl)
theorem r_iushr (C : Kok K X nL cc own rm rt) {x y : Int32} (hd : decode cc pc = .ok (.iushr, 1)) (kk : WX K X nL Qc M (pc + 1) lv (.int ((x.toUInt32 >>> (y.toUInt32 &&& Int32.toUInt32 31)).toInt32) :: st)) : WX K X nL Qc M pc lv (.int y :: .int x :: st) := by
  obtain ⟨p, l, e, R, s, m, args, below, meth, c⟩ := K
  obtain ⟨hx, hb, hml, hown, hts, hF, rfl, hr, hlk⟩ := C
  intro H locs ls hH hl
  exact lv_iushr hx hb hd rfl (kk H locs ls hH hl)
theorem r_ineg (C : Kok K X nL cc own rm rt) {x : Int32} (hd : decode cc pc = .ok (.ineg, 1)) (kk : WX K X nL Qc M (pc + 1) lv (.int (-x) :: st)) : WX K X nL Qc M pc lv (.int x :: st) := by
  obtain ⟨p, l, e, R, s, m, args, below, meth, c⟩ := K
  obtain ⟨hx, hb, hml, hown, hts, hF, rfl, hr, hlk⟩ := C
  intro H locs ls hH hl
  exact lv_ineg hx hb hd (kk H locs ls hH hl)
theorem r_idiv (C : Kok K X nL cc own rm rt) {x y : Int32} (hd : decode cc pc = .ok (.idiv, 1)) (hn : ¬ y = 0) (kk : WX K X nL Qc M (pc + 1) lv (.int (x / y) :: st)) : WX K X nL Qc M pc lv (.int y :: .int x :: st) := by
  obtain ⟨p, l, e, R, s, m, args, below, meth, c⟩ := K
  obtain ⟨hx, hb, hml, hown, hts, hF, rfl, hr, hlk⟩ := C
  intro H locs ls hH hl
  exact lv_idiv hx hb hd hn (kk H locs ls hH hl)
theorem r_irem (C : Kok K X nL cc own rm rt) {x y : Int32} (hd : decode cc pc = .ok (.irem, 1)) (hn : ¬ y = 0) (kk : WX K X nL Qc M (pc + 1) lv (.int (x - x / y * y) :: st)) : WX K X nL Qc M pc lv (.int y :: .int x :: st) := by
  obtain ⟨p, l, e, R, s, m, args, below, meth, c⟩ := K
  obtain ⟨hx, hb, hml, hown, hts, hF, rfl, hr, hlk⟩ := C
  intro H locs ls hH hl
  exact lv_irem hx hb hd hn (kk H locs ls hH hl)
theorem r_ladd (C : Kok K X nL cc own rm rt) {x y : Int64} (hd : decode cc pc = .ok (.ladd, 1)) (kk : WX K X nL Qc M (pc + 1) lv (.long (x + y) :: st)) : WX K X nL Qc M pc lv (.long y :: .long x :: st) := by
  obtain ⟨p, l, e, R, s, m, args, below, meth, c⟩ := K
  obtain ⟨hx, hb, hml, hown, hts, hF, rfl, hr, hlk⟩ := C
  intro H locs ls hH hl
  exact lv_ladd hx hb hd (kk H locs ls hH hl)
theorem r_lmul (C : Kok K X nL cc own rm rt) {x y : Int64} (hd : decode cc pc = .ok (.lmul, 1)) (kk : WX K X nL Qc M (pc + 1) lv (.long (x * y) :: st)) : WX K X nL Qc M pc lv (.long y :: .long x :: st) := by
  obtain ⟨p, l, e, R, s, m, args, below, meth, c⟩ := K
  obtain ⟨hx, hb, hml, hown, hts, hF, rfl, hr, hlk⟩ := C
  intro H locs ls hH hl
  exact lv_lmul hx hb hd (kk H locs ls hH hl)
theorem r_ldiv (C : Kok K X nL cc own rm rt) {x y : Int64} (hd : decode cc pc = .ok (.ldiv, 1)) (hn : ¬ y = 0) (kk : WX K X nL Qc M (pc + 1) lv (.long (x / y) :: st)) : WX K X nL Qc M pc lv (.long y :: .long x :: st) := by
  obtain ⟨p, l, e, R, s, m, args, below, meth, c⟩ := K
  obtain ⟨hx, hb, hml, hown, hts, hF, rfl, hr, hlk⟩ := C
  intro H locs ls hH hl
  exact lv_ldiv hx hb hd hn (kk H locs ls hH hl)
theorem r_lrem (C : Kok K X nL cc own rm rt) {x y : Int64} (hd : decode cc pc = .ok (.lrem, 1)) (hn : ¬ y = 0) (kk : WX K X nL Qc M (pc + 1) lv (.long (x - x / y * y) :: st)) : WX K X nL Qc M pc lv (.long y :: .long x :: st) := by
  obtain ⟨p, l, e, R, s, m, args, below, meth, c⟩ := K
  obtain ⟨hx, hb, hml, hown, hts, hF, rfl, hr, hlk⟩ := C
  intro H locs ls hH hl
  exact lv_lrem hx hb hd hn (kk H locs ls hH hl)
theorem r_i2l (C : Kok K X nL cc own rm rt) {x : Int32} (hd : decode cc pc = .ok (.i2l, 1)) (kk : WX K X nL Qc M (pc + 1) lv (.long x.toInt64 :: st)) : WX K X nL Qc M pc lv (.int x :: st) := by
  obtain ⟨p, l, e, R, s, m, args, below, meth, c⟩ := K
  obtain ⟨hx, hb, hml, hown, hts, hF, rfl, hr, hlk⟩ := C
  intro H locs ls hH hl
  exact lv_i2l hx hb hd rfl (kk H locs ls hH hl)
theorem r_l2i (C : Kok K X nL cc own rm rt) {x : Int64} (hd : decode cc pc = .ok (.l2i, 1)) (kk : WX K X nL Qc M (pc + 1) lv (.int x.toInt32 :: st)) : WX K X nL Qc M pc lv (.long x :: st) := by
  obtain ⟨p, l, e, R, s, m, args, below, meth, c⟩ := K
  obtain ⟨hx, hb, hml, hown, hts, hF, rfl, hr, hlk⟩ := C
  intro H locs ls hH hl
  exact lv_l2i hx hb hd rfl (kk H locs ls hH hl)
theorem r_i2b (C : Kok K X nL cc own rm rt) {x : Int32} (hd : decode cc pc = .ok (.i2b, 1)) (kk : WX K X nL Qc M (pc + 1) lv (.int x.toInt8.toInt32 :: st)) : WX K X nL Qc M pc lv (.int x :: st) := by
  obtain ⟨p, l, e, R, s, m, args, below, meth, c⟩ := K
  obtain ⟨hx, hb, hml, hown, hts, hF, rfl, hr, hlk⟩ := C
  intro H locs ls hH hl
  exact lv_i2b hx hb hd rfl (kk H locs ls hH hl)
theorem r_i2s (C : Kok K X nL cc own rm rt) {x : Int32} (hd : decode cc pc = .ok (.i2s, 1)) (kk : WX K X nL Qc M (pc + 1) lv (.int x.toInt16.toInt32 :: st)) : WX K X nL Qc M pc lv (.int x :: st) := by
  obtain ⟨p, l, e, R, s, m, args, below, meth, c⟩ := K
  obtain ⟨hx, hb, hml, hown, hts, hF, rfl, hr, hlk⟩ := C
  intro H locs ls hH hl
  exact lv_i2s hx hb hd rfl (kk H locs ls hH hl)
theorem r_lcmp (C : Kok K X nL cc own rm rt) {x y : Int64} (hd : decode cc pc = .ok (.lcmp, 1)) (kk : WX K X nL Qc M (pc + 1) lv (.int (lg_cmp x y) :: st)) : WX K X nL Qc M pc lv (.long y :: .long x :: st) := by
  obtain ⟨p, l, e, R, s, m, args, below, meth, c⟩ := K
  obtain ⟨hx, hb, hml, hown, hts, hF, rfl, hr, hlk⟩ := C
  intro H locs ls hH hl
  exact W.lcmp hx hb hd (kk H locs ls hH hl)
theorem r_dup (C : Kok K X nL cc own rm rt) {u : Value} (hd : decode cc pc = .ok (.dup, 1)) (h1 : u.category = 1) (kk : WX K X nL Qc M (pc + 1) lv (u :: u :: st)) : WX K X nL Qc M pc lv (u :: st) := by
  obtain ⟨p, l, e, R, s, m, args, below, meth, c⟩ := K
  obtain ⟨hx, hb, hml, hown, hts, hF, rfl, hr, hlk⟩ := C
  intro H locs ls hH hl
  exact lv_dup hx hb hd h1 (kk H locs ls hH hl)
theorem r_pop (C : Kok K X nL cc own rm rt) {u : Value} (hd : decode cc pc = .ok (.pop, 1)) (h1 : u.category = 1) (kk : WX K X nL Qc M (pc + 1) lv st) : WX K X nL Qc M pc lv (u :: st) := by
  obtain ⟨p, l, e, R, s, m, args, below, meth, c⟩ := K
  obtain ⟨hx, hb, hml, hown, hts, hF, rfl, hr, hlk⟩ := C
  intro H locs ls hH hl
  exact lv_pop hx hb hd h1 (kk H locs ls hH hl)
theorem r_dup2 (C : Kok K X nL cc own rm rt) {u v : Value} (hd : decode cc pc = .ok (.dup2, 1)) (h1 : u.category = 1) (h2 : v.category = 1) (kk : WX K X nL Qc M (pc + 1) lv (u :: v :: u :: v :: st)) : WX K X nL Qc M pc lv (u :: v :: st) := by
  obtain ⟨p, l, e, R, s, m, args, below, meth, c⟩ := K
  obtain ⟨hx, hb, hml, hown, hts, hF, rfl, hr, hlk⟩ := C
  intro H locs ls hH hl
  exact lv_dup2_11 hx hb hd h1 h2 (kk H locs ls hH hl)
theorem r_if_eq (C : Kok K X nL cc own rm rt) {x : Int32} {off : Int} {tgt : Nat} (hd : decode cc pc = .ok (.ifCond .eq off, 3)) (ht : (pc : Int) + off = (tgt : Int)) (kt : x = 0 → WX K X nL Qc M tgt lv st) (kf : ¬ x = 0 → WX K X nL Qc M (pc + 3) lv st) : WX K X nL Qc M pc lv (.int x :: st) := by
  obtain ⟨p, l, e, R, s, m, args, below, meth, c⟩ := K
  obtain ⟨hx, hb, hml, hown, hts, hF, rfl, hr, hlk⟩ := C
  intro H locs ls hH hl
  exact lv_if_eq hx hb hd ht (fun z => kt z H locs ls hH hl) (fun z => kf z H locs ls hH hl)
theorem r_icmp_eq (C : Kok K X nL cc own rm rt) {x y : Int32} {off : Int} {tgt : Nat} (hd : decode cc pc = .ok (.if_icmp .eq off, 3)) (ht : (pc : Int) + off = (tgt : Int)) (kt : x = y → WX K X nL Qc M tgt lv st) (kf : ¬ x = y → WX K X nL Qc M (pc + 3) lv st) : WX K X nL Qc M pc lv (.int y :: .int x :: st) := by
  obtain ⟨p, l, e, R, s, m, args, below, meth, c⟩ := K
  obtain ⟨hx, hb, hml, hown, hts, hF, rfl, hr, hlk⟩ := C
  intro H locs ls hH hl
  exact lv_icmp_eq hx hb hd ht (fun z => kt z H locs ls hH hl) (fun z => kf z H locs ls hH hl)
theorem r_if_ne (C : Kok K X nL cc own rm rt) {x : Int32} {off : Int} {tgt : Nat} (hd : decode cc pc = .ok (.ifCond .ne off, 3)) (ht : (pc : Int) + off = (tgt : Int)) (kt : ¬ x = 0 → WX K X nL Qc M tgt lv st) (kf : x = 0 → WX K X nL Qc M (pc + 3) lv st) : WX K X nL Qc M pc lv (.int x :: st) := by
  obtain ⟨p, l, e, R, s, m, args, below, meth, c⟩ := K
  obtain ⟨hx, hb, hml, hown, hts, hF, rfl, hr, hlk⟩ := C
  intro H locs ls hH hl
  exact lv_if_ne hx hb hd ht (fun z => kt z H locs ls hH hl) (fun z => kf z H locs ls hH hl)
theorem r_icmp_ne (C : Kok K X nL cc own rm rt) {x y : Int32} {off : Int} {tgt : Nat} (hd : decode cc pc = .ok (.if_icmp .ne off, 3)) (ht : (pc : Int) + off = (tgt : Int)) (kt : ¬ x = y → WX K X nL Qc M tgt lv st) (kf : x = y → WX K X nL Qc M (pc + 3) lv st) : WX K X nL Qc M pc lv (.int y :: .int x :: st) := by
  obtain ⟨p, l, e, R, s, m, args, below, meth, c⟩ := K
  obtain ⟨hx, hb, hml, hown, hts, hF, rfl, hr, hlk⟩ := C
  intro H locs ls hH hl
  exact lv_icmp_ne hx hb hd ht (fun z => kt z H locs ls hH hl) (fun z => kf z H locs ls hH hl)
theorem r_if_lt (C : Kok K X nL cc own rm rt) {x : Int32} {off : Int} {tgt : Nat} (hd : decode cc pc = .ok (.ifCond .lt off, 3)) (ht : (pc : Int) + off = (tgt : Int)) (kt : x < 0 → WX K X nL Qc M tgt lv st) (kf : ¬ x < 0 → WX K X nL Qc M (pc + 3) lv st) : WX K X nL Qc M pc lv (.int x :: st) := by
  obtain ⟨p, l, e, R, s, m, args, below, meth, c⟩ := K
  obtain ⟨hx, hb, hml, hown, hts, hF, rfl, hr, hlk⟩ := C
  intro H locs ls hH hl
  exact lv_if_lt hx hb hd ht (fun z => kt z H locs ls hH hl) (fun z => kf z H locs ls hH hl)
theorem r_icmp_lt (C : Kok K X nL cc own rm rt) {x y : Int32} {off : Int} {tgt : Nat} (hd : decode cc pc = .ok (.if_icmp .lt off, 3)) (ht : (pc : Int) + off = (tgt : Int)) (kt : x < y → WX K X nL Qc M tgt lv st) (kf : ¬ x < y → WX K X nL Qc M (pc + 3) lv st) : WX K X nL Qc M pc lv (.int y :: .int x :: st) := by
  obtain ⟨p, l, e, R, s, m, args, below, meth, c⟩ := K
  obtain ⟨hx, hb, hml, hown, hts, hF, rfl, hr, hlk⟩ := C
  intro H locs ls hH hl
  exact lv_icmp_lt hx hb hd ht (fun z => kt z H locs ls hH hl) (fun z => kf z H locs ls hH hl)
theorem r_if_ge (C : Kok K X nL cc own rm rt) {x : Int32} {off : Int} {tgt : Nat} (hd : decode cc pc = .ok (.ifCond .ge off, 3)) (ht : (pc : Int) + off = (tgt : Int)) (kt : 0 ≤ x → WX K X nL Qc M tgt lv st) (kf : ¬ 0 ≤ x → WX K X nL Qc M (pc + 3) lv st) : WX K X nL Qc M pc lv (.int x :: st) := by
  obtain ⟨p, l, e, R, s, m, args, below, meth, c⟩ := K
  obtain ⟨hx, hb, hml, hown, hts, hF, rfl, hr, hlk⟩ := C
  intro H locs ls hH hl
  exact lv_if_ge hx hb hd ht (fun z => kt z H locs ls hH hl) (fun z => kf z H locs ls hH hl)
theorem r_icmp_ge (C : Kok K X nL cc own rm rt) {x y : Int32} {off : Int} {tgt : Nat} (hd : decode cc pc = .ok (.if_icmp .ge off, 3)) (ht : (pc : Int) + off = (tgt : Int)) (kt : y ≤ x → WX K X nL Qc M tgt lv st) (kf : ¬ y ≤ x → WX K X nL Qc M (pc + 3) lv st) : WX K X nL Qc M pc lv (.int y :: .int x :: st) := by
  obtain ⟨p, l, e, R, s, m, args, below, meth, c⟩ := K
  obtain ⟨hx, hb, hml, hown, hts, hF, rfl, hr, hlk⟩ := C
  intro H locs ls hH hl
  exact lv_icmp_ge hx hb hd ht (fun z => kt z H locs ls hH hl) (fun z => kf z H locs ls hH hl)
theorem r_if_gt (C : Kok K X nL cc own rm rt) {x : Int32} {off : Int} {tgt : Nat} (hd : decode cc pc = .ok (.ifCond .gt off, 3)) (ht : (pc : Int) + off = (tgt : Int)) (kt : 0 < x → WX K X nL Qc M tgt lv st) (kf : ¬ 0 < x → WX K X nL Qc M (pc + 3) lv st) : WX K X nL Qc M pc lv (.int x :: st) := by
  obtain ⟨p, l, e, R, s, m, args, below, meth, c⟩ := K
  obtain ⟨hx, hb, hml, hown, hts, hF, rfl, hr, hlk⟩ := C
  intro H locs ls hH hl
  exact lv_if_gt hx hb hd ht (fun z => kt z H locs ls hH hl) (fun z => kf z H locs ls hH hl)
theorem r_icmp_gt (C : Kok K X nL cc own rm rt) {x y : Int32} {off : Int} {tgt : Nat} (hd : decode cc pc = .ok (.if_icmp .gt off, 3)) (ht : (pc : Int) + off = (tgt : Int)) (kt : y < x → WX K X nL Qc M tgt lv st) (kf : ¬ y < x → WX K X nL Qc M (pc + 3) lv st) : WX K X nL Qc M pc lv (.int y :: .int x :: st) := by
  obtain ⟨p, l, e, R, s, m, args, below, meth, c⟩ := K
  obtain ⟨hx, hb, hml, hown, hts, hF, rfl, hr, hlk⟩ := C
  intro H locs ls hH hl
  exact lv_icmp_gt hx hb hd ht (fun z => kt z H locs ls hH hl) (fun z => kf z H locs ls hH hl)
theorem r_if_le (C : Kok K X nL cc own rm rt) {x : Int32} {off : Int} {tgt : Nat} (hd : decode cc pc = .ok (.ifCond .le off, 3)) (ht : (pc : Int) + off = (tgt : Int)) (kt : x ≤ 0 → WX K X nL Qc M tgt lv st) (kf : ¬ x ≤ 0 → WX K X nL Qc M (pc + 3) lv st) : WX K X nL Qc M pc lv (.int x :: st) := by
  obtain ⟨p, l, e, R, s, m, args, below, meth, c⟩ := K
  obtain ⟨hx, hb, hml, hown, hts, hF, rfl, hr, hlk⟩ := C
  intro H locs ls hH hl
  exact lv_if_le hx hb hd ht (fun z => kt z H locs ls hH hl) (fun z => kf z H locs ls hH hl)
theorem r_icmp_le (C : Kok K X nL cc own rm rt) {x y : Int32} {off : Int} {tgt : Nat} (hd : decode cc pc = .ok (.if_icmp .le off, 3)) (ht : (pc : Int) + off = (tgt : Int)) (kt : x ≤ y → WX K X nL Qc M tgt lv st) (kf : ¬ x ≤ y → WX K X nL Qc M (pc + 3) lv st) : WX K X nL Qc M pc lv (.int y :: .int x :: st) := by
  obtain ⟨p, l, e, R, s, m, args, below, meth, c⟩ := K
  obtain ⟨hx, hb, hml, hown, hts, hF, rfl, hr, hlk⟩ := C
  intro H locs ls hH hl
  exact lv_icmp_le hx hb hd ht (fun z => kt z H locs ls hH hl) (fun z => kf z H locs ls hH hl)
theorem r_goto (C : Kok K X nL cc own rm rt) {off : Int} {tgt : Nat} (hd : decode cc pc = .ok (.goto off, 3)) (ht : (pc : Int) + off = (tgt : Int)) (kk : WX K X nL Qc M tgt lv st) : WX K X nL Qc M pc lv st := by
  obtain ⟨p, l, e, R, s, m, args, below, meth, c⟩ := K
  obtain ⟨hx, hb, hml, hown, hts, hF, rfl, hr, hlk⟩ := C
  intro H locs ls hH hl
  exact lv_goto hx hb hd ht (kk H locs ls hH hl)
theorem r_tabIn (C : Kok K X nL cc own rm rt) {dflt lo hi : Int} {offs : Array Int} {len : Nat} {x : Int32} (v : Int32) {off : Int} {tgt : Nat} (hx0 : x = v) (hd : decode cc pc = .ok (.tableswitch dflt lo hi offs, len)) (h1 : ¬ v.toInt < lo) (h2 : ¬ hi < v.toInt) (ho : offs[(v.toInt - lo).toNat]? = some off) (ht : (pc : Int) + off = (tgt : Int)) (kk : WX K X nL Qc M tgt lv st) : WX K X nL Qc M pc lv (.int x :: st) := by
  subst hx0
  obtain ⟨p, l, e, R, s, m, args, below, meth, c⟩ := K
  obtain ⟨hx, hb, hml, hown, hts, hF, rfl, hr, hlk⟩ := C
  intro H locs ls hH hl
  exact lv_tableIn hx hb hd h1 h2 ho ht (kk H locs ls hH hl)
theorem r_tabOut (C : Kok K X nL cc own rm rt) {dflt lo hi : Int} {offs : Array Int} {len : Nat} {x : Int32} {tgt : Nat} (hd : decode cc pc = .ok (.tableswitch dflt lo hi offs, len)) (h : x.toInt < lo ∨ hi < x.toInt) (ht : (pc : Int) + dflt = (tgt : Int)) (kk : WX K X nL Qc M tgt lv st) : WX K X nL Qc M pc lv (.int x :: st) := by
  obtain ⟨p, l, e, R, s, m, args, below, meth, c⟩ := K
  obtain ⟨hx, hb, hml, hown, hts, hF, rfl, hr, hlk⟩ := C
  intro H locs ls hH hl
  exact lv_tableOut hx hb hd h ht (kk H locs ls hH hl)
theorem r_look (C : Kok K X nL cc own rm rt) {dflt : Int} {ps : Array (Int × Int)} {len : Nat} {x : Int32} {off : Int} {tgt : Nat} (hd : decode cc pc = .ok (.lookupswitch dflt ps, len)) (hp : (ps.toList.zip (ps.toList.drop 1)).all (fun (a, next) => a.1 < next.1) = true) (ho : Op.lookupswitch.offset ps.toList dflt x.toInt = off) (ht : (pc : Int) + off = (tgt : Int)) (kk : WX K X nL Qc M tgt lv st) : WX K X nL Qc M pc lv (.int x :: st) := by
  obtain ⟨p, l, e, R, s, m, args, below, meth, c⟩ := K
  obtain ⟨hx, hb, hml, hown, hts, hF, rfl, hr, hlk⟩ := C
  intro H locs ls hH hl
  exact lv_lookup hx hb hd hp ho ht (kk H locs ls hH hl)
theorem ne_toInt {x v : Int32} {n : Int} (h : ¬ x = v) (hv : v.toInt = n) : x.toInt ≠ n := fun e => h (Int32.toInt_inj.mp (e.trans hv.symm))
theorem r_topi {x : Int32} (k : ∀ y : Int32, y = x → WX K X nL Qc M pc lv (.int y :: st)) : WX K X nL Qc M pc lv (.int x :: st) := k x rfl
theorem r_topl {x : Int64} (k : ∀ y : Int64, y = x → WX K X nL Qc M pc lv (.long y :: st)) : WX K X nL Qc M pc lv (.long x :: st) := k x rfl
theorem r_sub (ks : List Nat) (h : lv_pick lv ks = lv2) (kk : WX K X nL Qc M pc lv2 st) : WX K X nL Qc M pc lv st := by
  obtain ⟨p, l, e, R, s, m, args, below, meth, c⟩ := K
  intro H locs ls hH hl
  exact kk H locs ls hH (lv_sub hl ks h)
theorem r_get (C : Kok K X nL cc own rm rt) {k ci j idx N : Nat} {fs : List Value} {Cn ref : String} {T : u_T} {v : Value} (hk : k < 93) (hc : cellA X (M k) k = .inr (ci, fs)) (hcl : vwCl[ci]? = some (Cn, T, N)) (hin : ∀ w ∈ u_ws Cn T N, w ∈ AW) (hj : j < N) (hw : Cond.fieldLink own idx ref (T j).2.1 (T j).2.2.1 ∈ AW) (hrf : (T j).1 = ref) (hv : fs[j]? = some v) (hd : decode cc pc = .ok (.getfield idx, 3)) (kk : WX K X nL Qc M (pc + 3) lv (v :: st)) : WX K X nL Qc M pc lv (.ref (ad X k) :: st) := by
  obtain ⟨p, l, e, R, s, m, args, below, meth, c⟩ := K
  obtain ⟨hx, hb, hml, hown, hts, hF, rfl, hr, hlk⟩ := C
  intro H locs ls hH hl
  exact va_get hx hb hts hin hown hF.2.1 hH.1 k (by rw [wsA_at hk, hc]) hcl j hj (hts _ hw) (fun x h => by rw [← hrf]; exact h) hv hd (kk H locs ls hH hl)
theorem r_getN (C : Kok K X nL cc own rm rt) {k ci j idx N : Nat} {fs : List Value} {Cn ref : String} {T : u_T} {host : String} {v : Value} (hk : k < 93) (hc : cellA X (M k) k = .inr (ci, fs)) (hcl : vwCl[ci]? = some (Cn, T, N)) (hin : ∀ w ∈ u_ws Cn T N, w ∈ AW) (hj : j < N) (hw : (own, idx, ref, (T j).2.1, (T j).2.2.1, host) ∈ NF) (hrf : (T j).1 = ref) (hv : fs[j]? = some v) (hd : decode cc pc = .ok (.getfield idx, 3)) (kk : WX K X nL Qc M (pc + 3) lv (v :: st)) : WX K X nL Qc M pc lv (.ref (ad X k) :: st) := by
  obtain ⟨p, l, e, R, s, m, args, below, meth, c⟩ := K
  obtain ⟨hx, hb, hml, hown, hts, hF, rfl, hr, hlk⟩ := C
  intro H locs ls hH hl
  exact va_getN hx hb hts hin hown hF.2.1 hH.1 k (by rw [wsA_at hk, hc]) hcl j hj (va_Nw.use rfl (hF.2.2.1 _ hw)) (fun x h => by rw [← hrf]; exact h) hv hd (kk H locs ls hH hl)
theorem r_put (C : Kok K X nL cc own rm rt) {k ci j idx N : Nat} {fs : List Value} {Cn ref : String} {T : u_T} {host : String} {v : Int32} (hk : k < 93) (hc : cellA X (M k) k = .inr (ci, fs)) (hcl : vwCl[ci]? = some (Cn, T, N)) (hin : ∀ w ∈ u_ws Cn T N, w ∈ AW) (hj : j < N) (hc2 : cellA X (upd (M k) j v) k = .inr (ci, fs.set j (.int v))) {ty0 : Nat → FieldType} (hty : ∀ k, k < N → parseFieldDescriptor (T k).2.2.1 = some (ty0 k)) (hnm : ∀ a, a < N → ∀ b, b < N → a ≠ b → (T a).2.1 ≠ (T b).2.1) (hw : Cond.fieldLink own idx ref (T j).2.1 (T j).2.2.1 ∈ AW) (hrf : (T j).1 = ref) (hfin : (T j).2.2.2 = false) (hI : parseFieldDescriptor (T j).2.2.1 = some .int) (hlen : j < fs.length) (hd : decode cc pc = .ok (.putfield idx, 3)) (kk : WX K X nL Qc (ms M k j v) (pc + 3) lv st) : WX K X nL Qc M pc lv (.int v :: .ref (ad X k) :: st) := by
  obtain ⟨p, l, e, R, s, m, args, below, meth, c⟩ := K
  obtain ⟨hx, hb, hml, hown, hts, hF, rfl, hr, hlk⟩ := C
  intro H locs ls hH hl
  exact va_put hx hb hts hin ty0 hty hnm hown hF.2.1 hH.1 (wsA_D hF.1) hH.2 k (by rw [wsA_at hk, hc]) hcl j hj (hts _ hw) (fun x h => by rw [← hrf]; exact h) hfin hI (vp_nar_int v) rfl hlen hd (fun H1 locs1 hP _ hS => kk H1 locs1 ls ⟨by rw [← hc2, wsA_set hk] at hP; exact hP, hS⟩ hl)
theorem r_putN (C : Kok K X nL cc own rm rt) {k ci j idx N : Nat} {fs : List Value} {Cn ref : String} {T : u_T} {host : String} {v : Int32} (hk : k < 93) (hc : cellA X (M k) k = .inr (ci, fs)) (hcl : vwCl[ci]? = some (Cn, T, N)) (hin : ∀ w ∈ u_ws Cn T N, w ∈ AW) (hj : j < N) (hc2 : cellA X (upd (M k) j v) k = .inr (ci, fs.set j (.int v))) {ty0 : Nat → FieldType} (hty : ∀ k, k < N → parseFieldDescriptor (T k).2.2.1 = some (ty0 k)) (hnm : ∀ a, a < N → ∀ b, b < N → a ≠ b → (T a).2.1 ≠ (T b).2.1) (hw : (own, idx, ref, (T j).2.1, (T j).2.2.1, host) ∈ NF) (hrf : (T j).1 = ref) (hfin : (T j).2.2.2 = false) (hI : parseFieldDescriptor (T j).2.2.1 = some .int) (hlen : j < fs.length) (hd : decode cc pc = .ok (.putfield idx, 3)) (kk : WX K X nL Qc (ms M k j v) (pc + 3) lv st) : WX K X nL Qc M pc lv (.int v :: .ref (ad X k) :: st) := by
  obtain ⟨p, l, e, R, s, m, args, below, meth, c⟩ := K
  obtain ⟨hx, hb, hml, hown, hts, hF, rfl, hr, hlk⟩ := C
  intro H locs ls hH hl
  exact va_putN hx hb hts hin ty0 hty hnm hown hF.2.1 hH.1 (wsA_D hF.1) hH.2 k (by rw [wsA_at hk, hc]) hcl j hj (va_Nw.use rfl (hF.2.2.1 _ hw)) (fun x h => by rw [← hrf]; exact h) hfin hI (vp_nar_int v) rfl hlen hd (fun H1 locs1 hP _ hS => kk H1 locs1 ls ⟨by rw [← hc2, wsA_set hk] at hP; exact hP, hS⟩ hl)
theorem r_iald (C : Kok K X nL cc own rm rt) {k n : Nat} {i : Int32} (hk : k < 93) (hc : cellA X (M k) k = .inl (cy X 0, n, .inl (M k))) (hi : vp_in i n) (hd : decode cc pc = .ok (.iaload, 1)) (kk : WX K X nL Qc M (pc + 1) lv (.int (M k i.toNatClampNeg) :: st)) : WX K X nL Qc M pc lv (.int i :: .ref (ad X k) :: st) := by
  obtain ⟨p, l, e, R, s, m, args, below, meth, c⟩ := K
  obtain ⟨hx, hb, hml, hown, hts, hF, rfl, hr, hlk⟩ := C
  intro H locs ls hH hl
  exact va_iald hx hb hF.2.1 hH.1 k 0 (by rw [wsA_at hk, hc]) rfl hi hd (kk H locs ls hH hl)
theorem r_zald (C : Kok K X nL cc own rm rt) {k n : Nat} {i : Int32} (hk : k < 93) (hc : cellA X (M k) k = .inl (cy X 1, n, .inl (M k))) (hi : vp_in i n) (hd : decode cc pc = .ok (.baload, 1)) (kk : WX K X nL Qc M (pc + 1) lv (.int (M k i.toNatClampNeg) :: st)) : WX K X nL Qc M pc lv (.int i :: .ref (ad X k) :: st) := by
  obtain ⟨p, l, e, R, s, m, args, below, meth, c⟩ := K
  obtain ⟨hx, hb, hml, hown, hts, hF, rfl, hr, hlk⟩ := C
  intro H locs ls hH hl
  exact va_zald hx hb hF.2.1 hH.1 k 1 (by rw [wsA_at hk, hc]) rfl hi hd (kk H locs ls hH hl)
theorem r_iast (C : Kok K X nL cc own rm rt) {k n : Nat} {i x : Int32} (hk : k < 93) (hc : ∀ f, cellA X f k = .inl (cy X 0, n, .inl f)) (hi : vp_in i n) (hd : decode cc pc = .ok (.iastore, 1)) (kk : WX K X nL Qc (ms M k i.toNatClampNeg x) (pc + 1) lv st) : WX K X nL Qc M pc lv (.int x :: .int i :: .ref (ad X k) :: st) := by
  obtain ⟨p, l, e, R, s, m, args, below, meth, c⟩ := K
  obtain ⟨hx, hb, hml, hown, hts, hF, rfl, hr, hlk⟩ := C
  intro H locs ls hH hl
  exact va_iast hx hb hF.2.1 hH.1 (wsA_D hF.1) hH.2 k 0 (by rw [wsA_at hk, hc]) rfl hi hd (fun H1 locs1 hP _ hS => kk H1 locs1 ls ⟨by rw [← hc, wsA_set hk] at hP; exact hP, hS⟩ hl)
theorem r_zast (C : Kok K X nL cc own rm rt) {k n : Nat} {i x : Int32} (hk : k < 93) (hc : ∀ f, cellA X f k = .inl (cy X 1, n, .inl f)) (hi : vp_in i n) (hd : decode cc pc = .ok (.bastore, 1)) (kk : WX K X nL Qc (ms M k i.toNatClampNeg (vp_nar .boolean x)) (pc + 1) lv st) : WX K X nL Qc M pc lv (.int x :: .int i :: .ref (ad X k) :: st) := by
  obtain ⟨p, l, e, R, s, m, args, below, meth, c⟩ := K
  obtain ⟨hx, hb, hml, hown, hts, hF, rfl, hr, hlk⟩ := C
  intro H locs ls hH hl
  exact va_zast hx hb hF.2.1 hH.1 (wsA_D hF.1) hH.2 k 1 (by rw [wsA_at hk, hc]) rfl hi hd (fun H1 locs1 hP _ hS => kk H1 locs1 ls ⟨by rw [← hc, wsA_set hk] at hP; exact hP, hS⟩ hl)
theorem r_aldR (C : Kok K X nL cc own rm rt) {i : Int32} (hi : vp_in i 8) (hd : decode cc pc = .ok (.aaload, 1)) (kk : WX K X nL Qc M (pc + 1) lv (.ref (ad X (3 + 2 * i.toNatClampNeg)) :: st)) : WX K X nL Qc M pc lv (.int i :: .ref (ad X 1) :: st) := by
  obtain ⟨p, l, e, R, s, m, args, below, meth, c⟩ := K
  obtain ⟨hx, hb, hml, hown, hts, hF, rfl, hr, hlk⟩ := C
  intro H locs ls hH hl
  exact va_aldq hx hb hF.2.1 hH.1 1 2 (wsA_at (by decide)) rfl hi hd (kk H locs ls hH hl)
theorem r_aldT (C : Kok K X nL cc own rm rt) {i : Int32} (hi : vp_in i 2) (hd : decode cc pc = .ok (.aaload, 1)) (kk : WX K X nL Qc M (pc + 1) lv (.ref (ad X (63 + 11 * i.toNatClampNeg)) :: st)) : WX K X nL Qc M pc lv (.int i :: .ref (ad X 2) :: st) := by
  obtain ⟨p, l, e, R, s, m, args, below, meth, c⟩ := K
  obtain ⟨hx, hb, hml, hown, hts, hF, rfl, hr, hlk⟩ := C
  intro H locs ls hH hl
  exact va_aldq hx hb hF.2.1 hH.1 2 3 (wsA_at (by decide)) rfl hi hd (kk H locs ls hH hl)
theorem r_alen (C : Kok K X nL cc own rm rt) {k n : Nat} (hk : k < 93) (hc : cellA X (M k) k = .inl (cy X 0, n, .inl (M k))) (hd : decode cc pc = .ok (.arraylength, 1)) (kk : WX K X nL Qc M (pc + 1) lv (.int (Int32.ofNat n) :: st)) : WX K X nL Qc M pc lv (.ref (ad X k) :: st) := by
  obtain ⟨p, l, e, R, s, m, args, below, meth, c⟩ := K
  obtain ⟨hx, hb, hml, hown, hts, hF, rfl, hr, hlk⟩ := C
  intro H locs ls hH hl
  exact va_alen hx hb hF.2.1 hH.1 k 0 (by rw [wsA_at hk, hc]) rfl rfl hd (kk H locs ls hH hl)
theorem r_gets (C : Kok K X nL cc own rm rt) (z : Nat) {idx : Nat} (hz : z < 3) (hw : Cond.fieldLink own idx (sc z) (sn z) "[I" ∈ AW) (hd : decode cc pc = .ok (.getstatic idx, 3)) (kk : WX K X nL Qc M (pc + 3) lv (.ref (sa X z) :: st)) : WX K X nL Qc M pc lv st := by
  obtain ⟨p, l, e, R, s, m, args, below, meth, c⟩ := K
  obtain ⟨hx, hb, hml, hown, hts, hF, rfl, hr, hlk⟩ := C
  intro H locs ls hH hl
  exact va_gets hx hb (hF.2.2.2.2 z hz).1 hH.2 hown (hts _ hw) (fun _ h => h) hd (kk H locs ls hH hl)
theorem r_getsN (C : Kok K X nL cc own rm rt) (z : Nat) {idx : Nat} {host : String} (hz : z < 3) (hw : (own, idx, sc z, sn z, "[I", host) ∈ NF) (hd : decode cc pc = .ok (.getstatic idx, 3)) (kk : WX K X nL Qc M (pc + 3) lv (.ref (sa X z) :: st)) : WX K X nL Qc M pc lv st := by
  obtain ⟨p, l, e, R, s, m, args, below, meth, c⟩ := K
  obtain ⟨hx, hb, hml, hown, hts, hF, rfl, hr, hlk⟩ := C
  intro H locs ls hH hl
  exact va_getsN hx hb (hF.2.2.2.2 z hz).1 hH.2 hown (va_Nw.use rfl (hF.2.2.1 _ hw)) (fun _ h => h) hd (kk H locs ls hH hl)
theorem r_tald (C : Kok K X nL cc own rm rt) (z : Nat) {i : Int32} (hz : z < 3) (hi : vp_in i 6) (hd : decode cc pc = .ok (.iaload, 1)) (kk : WX K X nL Qc M (pc + 1) lv (.int (tb z i.toNatClampNeg) :: st)) : WX K X nL Qc M pc lv (.int i :: .ref (sa X z) :: st) := by
  obtain ⟨p, l, e, R, s, m, args, below, meth, c⟩ := K
  obtain ⟨hx, hb, hml, hown, hts, hF, rfl, hr, hlk⟩ := C
  intro H locs ls hH hl
  exact va_ti hx hb (hF.2.2.2.2 z hz).2 hH.2 hi rfl hd (kk H locs ls hH hl)
theorem r_copy (C : Kok K X nL cc own rm rt) {k0 k1 n0 n1 idx : Nat} {sp dp n : Int32} (hk0 : k0 < 93) (hk1 : k1 < 93) (hc0 : cellA X (M k0) k0 = .inl (cy X 0, n0, .inl (M k0))) (hc1 : ∀ f, cellA X f k1 = .inl (cy X 0, n1, .inl f)) (hw : Cond.methodLink own idx arraycopyName ∈ AW) (hg : ¬ sp < 0 ∧ ¬ dp < 0 ∧ ¬ n < 0 ∧ sp.toNatClampNeg + n.toNatClampNeg ≤ n0 ∧ dp.toNatClampNeg + n.toNatClampNeg ≤ n1) (hfr : 1 ≤ rm.frames) (hlo : (st.map fun v => v.category).sum + (nativeFrameWords "java/lang/System" "arraycopy" 5 + 11) ≤ rm.locals) (hd : decode cc pc = .ok (.invokestatic idx, 3)) (kk : WX K X nL Qc (mcp M k0 k1 sp.toNatClampNeg dp.toNatClampNeg n.toNatClampNeg) (pc + 3) lv st) : WX K X nL Qc M pc lv (.int n :: .int dp :: .ref (ad X k1) :: .int sp :: .ref (ad X k0) :: st) := by
  obtain ⟨p, l, e, R, s, m, args, below, meth, c⟩ := K
  obtain ⟨hx, hb, hml, hown, hts, hF, rfl, hr, hlk⟩ := C
  intro H locs ls hH hl
  exact va_copyi hx hb (hml.trans hl.1.symm) hown (hts _ hw) (hts _ aw186) (hts _ aw187) (hts _ aw188) hF.2.1 hH.1 (wsA_D hF.1) hH.2 k0 k1 0 0 (by rw [wsA_at hk0, hc0]) (by rw [wsA_at hk1, hc1]) rfl rfl rfl hg.1 hg.2.1 hg.2.2.1 hg.2.2.2.1 hg.2.2.2.2 (fun _ _ => rfl) hfr hlo hd (fun H1 locs1 hP _ hS => kk H1 locs1 ls ⟨by rw [← hc1, wsA_set hk1] at hP; exact hP, hS⟩ hl)
theorem r_min (C : Kok K X nL cc own rm rt) {idx : Nat} {x y : Int32} (hw : Cond.methodLink own idx Lib.Math.min.name ∈ AW) (hfr : 1 ≤ rm.frames) (hlo : (st.map fun v => v.category).sum + 13 ≤ rm.locals) (hd : decode cc pc = .ok (.invokestatic idx, 3)) (kk : WX K X nL Qc M (pc + 3) lv (.int (if y < x then y else x) :: st)) : WX K X nL Qc M pc lv (.int y :: .int x :: st) := by
  obtain ⟨p, l, e, R, s, m, args, below, meth, c⟩ := K
  obtain ⟨hx, hb, hml, hown, hts, hF, rfl, hr, hlk⟩ := C
  intro H locs ls hH hl
  exact va_mmin hx hb (hml.trans hl.1.symm) hown (hts _ hw) (hts _ aw465) (hts _ aw444) (hts _ aw466) hfr hlo (Nat.zero_le _) (Nat.zero_le _) hd (kk H locs ls hH hl)
theorem r_max (C : Kok K X nL cc own rm rt) {idx : Nat} {x y : Int32} (hw : Cond.methodLink own idx Lib.Math.max.name ∈ AW) (hfr : 1 ≤ rm.frames) (hlo : (st.map fun v => v.category).sum + 13 ≤ rm.locals) (hd : decode cc pc = .ok (.invokestatic idx, 3)) (kk : WX K X nL Qc M (pc + 3) lv (.int (if x < y then y else x) :: st)) : WX K X nL Qc M pc lv (.int y :: .int x :: st) := by
  obtain ⟨p, l, e, R, s, m, args, below, meth, c⟩ := K
  obtain ⟨hx, hb, hml, hown, hts, hF, rfl, hr, hlk⟩ := C
  intro H locs ls hH hl
  exact va_mmax hx hb (hml.trans hl.1.symm) hown (hts _ hw) (hts _ aw443) (hts _ aw444) (hts _ aw445) hfr hlo (Nat.zero_le _) (Nat.zero_le _) hd (kk H locs ls hH hl)
theorem r_callVi (C : Kok K X nL cc own rm rt) {y : MethodName} {bytes : ByteArray} {maxL idx : Nat} {ret : Option FieldType} {rmc : Room} (n : Nat) {As : List Value} {k ci N : Nat} {fs : List Value} {T : u_T} (hk : k < 93) (hc : cellA X (M k) k = .inr (ci, fs)) (hcl : vwCl[ci]? = some (y.cls, T, N)) (hinst : Cond.instanceMethod y ∈ AW) (hsel : Cond.selects y.cls y y ∈ AW) {Q : Int32 → Mem → Prop} (hM : Ct y bytes maxL ret rmc X M (.ref (ad X k) :: As) (Qi X Q)) (hw : Cond.methodLink own idx y ∈ AW)  (hcode : Cond.code y bytes maxL ret ∈ AW) (hini : Cond.initialized y.cls ∈ AW) (hdy : y.cls ≠ "java/lang/invoke/MethodHandle" ∧ y.cls ≠ "java/lang/invoke/VarHandle" ∧ (parseMethodDescriptor y.desc).map (fun d => d.parameters.length) = some n) (h0 : rmc.cells = 0 ∧ rmc.slots = 0) (hR : rmc.frames + 1 ≤ rm.frames ∧ 8 + (maxL + 11) + rmc.locals ≤ rm.locals) (hn : As.length = n) (hst : (st.map fun v => v.category).sum ≤ 8) (hd : decode cc pc = .ok (.invokevirtual idx, 3)) (kk : ∀ (r : Int32) (M2 : Mem), Q r M2 → WX K X nL Qc M2 (pc + 3) lv (.int r :: st)) : WX K X nL Qc M pc lv (As.reverse ++ .ref (ad X k) :: st) := by
  obtain ⟨p, l, e, R, s, m, args, below, meth, c⟩ := K
  obtain ⟨hx, hb, hml, hown, hts, hF, rfl, hr, hlk⟩ := C
  intro H locs ls hH hl
  refine va_calli (va_runV (As := As) (rest := st) ⟨hx, hb, hml, hown, hts⟩ (hM l) (⟨callB_of n hts (AWcall hcode) rfl h0.1 h0.2 (hts _ hini) (hts _ hw) hdy hR, hts _ hinst, hts _ hsel⟩) ⟨fun a U g mk q => ⟨q.1, q.2.1, Fx_blind q.2.2⟩, va_recv hF.2.1 hH.1 hcl (by rw [wsA_at hk, hc]), fun U hU hW => ⟨rfl, by rw [hU]; exact hH.1, Fx_call hF hH.2 hU hW⟩⟩ rfl hn hl.1 rfl (lv_room hst) hd ⟨Nat.zero_le _, Nat.zero_le _⟩) hH.2 (fun q _ h => h) (fun q h => h) (fun r M2 t H1 locs1 ht hvm hq hB hz hk2 hS => ?_)
  exact kk r M2 hq H1 locs1 ls ⟨by rw [← ht]; exact hB, hS⟩ hl
theorem r_callVNi (C : Kok K X nL cc own rm rt) {y : MethodName} {bytes : ByteArray} {maxL idx : Nat} {ret : Option FieldType} {rmc : Room} (n : Nat) {As : List Value} {k ci N : Nat} {fs : List Value} {T : u_T} (hk : k < 93) (hc : cellA X (M k) k = .inr (ci, fs)) (hcl : vwCl[ci]? = some (y.cls, T, N)) (hinst : Cond.instanceMethod y ∈ AW) (hsel : Cond.selects y.cls y y ∈ AW) {Q : Int32 → Mem → Prop} (hM : Ct y bytes maxL ret rmc X M (.ref (ad X k) :: As) (Qi X Q)) {host : String} (hw : (own, idx, y, host) ∈ NM)  (hcode : Cond.code y bytes maxL ret ∈ AW) (hini : Cond.initialized y.cls ∈ AW) (hdy : y.cls ≠ "java/lang/invoke/MethodHandle" ∧ y.cls ≠ "java/lang/invoke/VarHandle" ∧ (parseMethodDescriptor y.desc).map (fun d => d.parameters.length) = some n) (h0 : rmc.cells = 0 ∧ rmc.slots = 0) (hR : rmc.frames + 1 ≤ rm.frames ∧ 8 + (maxL + 11) + rmc.locals ≤ rm.locals) (hn : As.length = n) (hst : (st.map fun v => v.category).sum ≤ 8) (hd : decode cc pc = .ok (.invokevirtual idx, 3)) (kk : ∀ (r : Int32) (M2 : Mem), Q r M2 → WX K X nL Qc M2 (pc + 3) lv (.int r :: st)) : WX K X nL Qc M pc lv (As.reverse ++ .ref (ad X k) :: st) := by
  obtain ⟨p, l, e, R, s, m, args, below, meth, c⟩ := K
  obtain ⟨hx, hb, hml, hown, hts, hF, rfl, hr, hlk⟩ := C
  intro H locs ls hH hl
  refine va_calli (va_runVN (As := As) (rest := st) ⟨hx, hb, hml, hown, hts⟩ (hM l) (⟨va_cnB n hts (AWcall hcode) rfl h0.1 h0.2 (hF.2.2.2.1 _ hw) (hts _ hini) hdy hR, hts _ hinst, hts _ hsel⟩) ⟨fun a U g mk q => ⟨q.1, q.2.1, Fx_blind q.2.2⟩, va_recv hF.2.1 hH.1 hcl (by rw [wsA_at hk, hc]), fun U hU hW => ⟨rfl, by rw [hU]; exact hH.1, Fx_call hF hH.2 hU hW⟩⟩ rfl hn hl.1 rfl (lv_room hst) hd ⟨Nat.zero_le _, Nat.zero_le _⟩) hH.2 (fun q _ h => h) (fun q h => h) (fun r M2 t H1 locs1 ht hvm hq hB hz hk2 hS => ?_)
  exact kk r M2 hq H1 locs1 ls ⟨by rw [← ht]; exact hB, hS⟩ hl
theorem r_callSi (C : Kok K X nL cc own rm rt) {y : MethodName} {bytes : ByteArray} {maxL idx : Nat} {ret : Option FieldType} {rmc : Room} (n : Nat) {As : List Value}  {Q : Int32 → Mem → Prop} (hM : Ct y bytes maxL ret rmc X M As (Qi X Q)) (hw : Cond.methodLink own idx y ∈ AW) (hstat : Cond.static y ∈ AW) (hcode : Cond.code y bytes maxL ret ∈ AW) (hini : Cond.initialized y.cls ∈ AW) (hdy : y.cls ≠ "java/lang/invoke/MethodHandle" ∧ y.cls ≠ "java/lang/invoke/VarHandle" ∧ (parseMethodDescriptor y.desc).map (fun d => d.parameters.length) = some n) (h0 : rmc.cells = 0 ∧ rmc.slots = 0) (hR : rmc.frames + 1 ≤ rm.frames ∧ 8 + (maxL + 11) + rmc.locals ≤ rm.locals) (hn : As.length = n) (hst : (st.map fun v => v.category).sum ≤ 8) (hd : decode cc pc = .ok (.invokestatic idx, 3)) (kk : ∀ (r : Int32) (M2 : Mem), Q r M2 → WX K X nL Qc M2 (pc + 3) lv (.int r :: st)) : WX K X nL Qc M pc lv (As.reverse ++ st) := by
  obtain ⟨p, l, e, R, s, m, args, below, meth, c⟩ := K
  obtain ⟨hx, hb, hml, hown, hts, hF, rfl, hr, hlk⟩ := C
  intro H locs ls hH hl
  refine va_calli (va_runS (As := As) (rest := st) ⟨hx, hb, hml, hown, hts⟩ (hM l) (⟨callB_of n hts (AWcall hcode) rfl h0.1 h0.2 (hts _ hini) (hts _ hw) hdy hR, hts _ hstat⟩) ⟨fun a U g mk q => ⟨q.1, q.2.1, Fx_blind q.2.2⟩, fun U hU hW => ⟨rfl, by rw [hU]; exact hH.1, Fx_call hF hH.2 hU hW⟩⟩ rfl hn hl.1 rfl (lv_room hst) hd ⟨Nat.zero_le _, Nat.zero_le _⟩) hH.2 (fun q _ h => h) (fun q h => h) (fun r M2 t H1 locs1 ht hvm hq hB hz hk2 hS => ?_)
  exact kk r M2 hq H1 locs1 ls ⟨by rw [← ht]; exact hB, hS⟩ hl
theorem r_callSNi (C : Kok K X nL cc own rm rt) {y : MethodName} {bytes : ByteArray} {maxL idx : Nat} {ret : Option FieldType} {rmc : Room} (n : Nat) {As : List Value}  {Q : Int32 → Mem → Prop} (hM : Ct y bytes maxL ret rmc X M As (Qi X Q)) {host : String} (hw : (own, idx, y, host) ∈ NM) (hstat : Cond.static y ∈ AW) (hcode : Cond.code y bytes maxL ret ∈ AW) (hini : Cond.initialized y.cls ∈ AW) (hdy : y.cls ≠ "java/lang/invoke/MethodHandle" ∧ y.cls ≠ "java/lang/invoke/VarHandle" ∧ (parseMethodDescriptor y.desc).map (fun d => d.parameters.length) = some n) (h0 : rmc.cells = 0 ∧ rmc.slots = 0) (hR : rmc.frames + 1 ≤ rm.frames ∧ 8 + (maxL + 11) + rmc.locals ≤ rm.locals) (hn : As.length = n) (hst : (st.map fun v => v.category).sum ≤ 8) (hd : decode cc pc = .ok (.invokestatic idx, 3)) (kk : ∀ (r : Int32) (M2 : Mem), Q r M2 → WX K X nL Qc M2 (pc + 3) lv (.int r :: st)) : WX K X nL Qc M pc lv (As.reverse ++ st) := by
  obtain ⟨p, l, e, R, s, m, args, below, meth, c⟩ := K
  obtain ⟨hx, hb, hml, hown, hts, hF, rfl, hr, hlk⟩ := C
  intro H locs ls hH hl
  refine va_calli (va_runSN (As := As) (rest := st) ⟨hx, hb, hml, hown, hts⟩ (hM l) (⟨va_cnB n hts (AWcall hcode) rfl h0.1 h0.2 (hF.2.2.2.1 _ hw) (hts _ hini) hdy hR, hts _ hstat, trivial⟩) ⟨fun a U g mk q => ⟨q.1, q.2.1, Fx_blind q.2.2⟩, fun U hU hW => ⟨rfl, by rw [hU]; exact hH.1, Fx_call hF hH.2 hU hW⟩⟩ rfl hn hl.1 rfl (lv_room hst) hd ⟨Nat.zero_le _, Nat.zero_le _⟩) hH.2 (fun q _ h => h) (fun q h => h) (fun r M2 t H1 locs1 ht hvm hq hB hz hk2 hS => ?_)
  exact kk r M2 hq H1 locs1 ls ⟨by rw [← ht]; exact hB, hS⟩ hl
theorem r_callVl (C : Kok K X nL cc own rm rt) {y : MethodName} {bytes : ByteArray} {maxL idx : Nat} {ret : Option FieldType} {rmc : Room} (n : Nat) {As : List Value} {k ci N : Nat} {fs : List Value} {T : u_T} (hk : k < 93) (hc : cellA X (M k) k = .inr (ci, fs)) (hcl : vwCl[ci]? = some (y.cls, T, N)) (hinst : Cond.instanceMethod y ∈ AW) (hsel : Cond.selects y.cls y y ∈ AW) {Q : Int64 → Mem → Prop} (hM : Ct y bytes maxL ret rmc X M (.ref (ad X k) :: As) (Ql X Q)) (hw : Cond.methodLink own idx y ∈ AW)  (hcode : Cond.code y bytes maxL ret ∈ AW) (hini : Cond.initialized y.cls ∈ AW) (hdy : y.cls ≠ "java/lang/invoke/MethodHandle" ∧ y.cls ≠ "java/lang/invoke/VarHandle" ∧ (parseMethodDescriptor y.desc).map (fun d => d.parameters.length) = some n) (h0 : rmc.cells = 0 ∧ rmc.slots = 0) (hR : rmc.frames + 1 ≤ rm.frames ∧ 8 + (maxL + 11) + rmc.locals ≤ rm.locals) (hn : As.length = n) (hst : (st.map fun v => v.category).sum ≤ 8) (hd : decode cc pc = .ok (.invokevirtual idx, 3)) (kk : ∀ (r : Int64) (M2 : Mem), Q r M2 → WX K X nL Qc M2 (pc + 3) lv (.long r :: st)) : WX K X nL Qc M pc lv (As.reverse ++ .ref (ad X k) :: st) := by
  obtain ⟨p, l, e, R, s, m, args, below, meth, c⟩ := K
  obtain ⟨hx, hb, hml, hown, hts, hF, rfl, hr, hlk⟩ := C
  intro H locs ls hH hl
  refine va_calll (va_runV (As := As) (rest := st) ⟨hx, hb, hml, hown, hts⟩ (hM l) (⟨callB_of n hts (AWcall hcode) rfl h0.1 h0.2 (hts _ hini) (hts _ hw) hdy hR, hts _ hinst, hts _ hsel⟩) ⟨fun a U g mk q => ⟨q.1, q.2.1, Fx_blind q.2.2⟩, va_recv hF.2.1 hH.1 hcl (by rw [wsA_at hk, hc]), fun U hU hW => ⟨rfl, by rw [hU]; exact hH.1, Fx_call hF hH.2 hU hW⟩⟩ rfl hn hl.1 rfl (lv_room hst) hd ⟨Nat.zero_le _, Nat.zero_le _⟩) hH.2 (fun q _ h => h) (fun q h => h) (fun r M2 t H1 locs1 ht hvm hq hB hz hk2 hS => ?_)
  exact kk r M2 hq H1 locs1 ls ⟨by rw [← ht]; exact hB, hS⟩ hl
theorem r_callVNl (C : Kok K X nL cc own rm rt) {y : MethodName} {bytes : ByteArray} {maxL idx : Nat} {ret : Option FieldType} {rmc : Room} (n : Nat) {As : List Value} {k ci N : Nat} {fs : List Value} {T : u_T} (hk : k < 93) (hc : cellA X (M k) k = .inr (ci, fs)) (hcl : vwCl[ci]? = some (y.cls, T, N)) (hinst : Cond.instanceMethod y ∈ AW) (hsel : Cond.selects y.cls y y ∈ AW) {Q : Int64 → Mem → Prop} (hM : Ct y bytes maxL ret rmc X M (.ref (ad X k) :: As) (Ql X Q)) {host : String} (hw : (own, idx, y, host) ∈ NM)  (hcode : Cond.code y bytes maxL ret ∈ AW) (hini : Cond.initialized y.cls ∈ AW) (hdy : y.cls ≠ "java/lang/invoke/MethodHandle" ∧ y.cls ≠ "java/lang/invoke/VarHandle" ∧ (parseMethodDescriptor y.desc).map (fun d => d.parameters.length) = some n) (h0 : rmc.cells = 0 ∧ rmc.slots = 0) (hR : rmc.frames + 1 ≤ rm.frames ∧ 8 + (maxL + 11) + rmc.locals ≤ rm.locals) (hn : As.length = n) (hst : (st.map fun v => v.category).sum ≤ 8) (hd : decode cc pc = .ok (.invokevirtual idx, 3)) (kk : ∀ (r : Int64) (M2 : Mem), Q r M2 → WX K X nL Qc M2 (pc + 3) lv (.long r :: st)) : WX K X nL Qc M pc lv (As.reverse ++ .ref (ad X k) :: st) := by
  obtain ⟨p, l, e, R, s, m, args, below, meth, c⟩ := K
  obtain ⟨hx, hb, hml, hown, hts, hF, rfl, hr, hlk⟩ := C
  intro H locs ls hH hl
  refine va_calll (va_runVN (As := As) (rest := st) ⟨hx, hb, hml, hown, hts⟩ (hM l) (⟨va_cnB n hts (AWcall hcode) rfl h0.1 h0.2 (hF.2.2.2.1 _ hw) (hts _ hini) hdy hR, hts _ hinst, hts _ hsel⟩) ⟨fun a U g mk q => ⟨q.1, q.2.1, Fx_blind q.2.2⟩, va_recv hF.2.1 hH.1 hcl (by rw [wsA_at hk, hc]), fun U hU hW => ⟨rfl, by rw [hU]; exact hH.1, Fx_call hF hH.2 hU hW⟩⟩ rfl hn hl.1 rfl (lv_room hst) hd ⟨Nat.zero_le _, Nat.zero_le _⟩) hH.2 (fun q _ h => h) (fun q h => h) (fun r M2 t H1 locs1 ht hvm hq hB hz hk2 hS => ?_)
  exact kk r M2 hq H1 locs1 ls ⟨by rw [← ht]; exact hB, hS⟩ hl
theorem r_callSl (C : Kok K X nL cc own rm rt) {y : MethodName} {bytes : ByteArray} {maxL idx : Nat} {ret : Option FieldType} {rmc : Room} (n : Nat) {As : List Value}  {Q : Int64 → Mem → Prop} (hM : Ct y bytes maxL ret rmc X M As (Ql X Q)) (hw : Cond.methodLink own idx y ∈ AW) (hstat : Cond.static y ∈ AW) (hcode : Cond.code y bytes maxL ret ∈ AW) (hini : Cond.initialized y.cls ∈ AW) (hdy : y.cls ≠ "java/lang/invoke/MethodHandle" ∧ y.cls ≠ "java/lang/invoke/VarHandle" ∧ (parseMethodDescriptor y.desc).map (fun d => d.parameters.length) = some n) (h0 : rmc.cells = 0 ∧ rmc.slots = 0) (hR : rmc.frames + 1 ≤ rm.frames ∧ 8 + (maxL + 11) + rmc.locals ≤ rm.locals) (hn : As.length = n) (hst : (st.map fun v => v.category).sum ≤ 8) (hd : decode cc pc = .ok (.invokestatic idx, 3)) (kk : ∀ (r : Int64) (M2 : Mem), Q r M2 → WX K X nL Qc M2 (pc + 3) lv (.long r :: st)) : WX K X nL Qc M pc lv (As.reverse ++ st) := by
  obtain ⟨p, l, e, R, s, m, args, below, meth, c⟩ := K
  obtain ⟨hx, hb, hml, hown, hts, hF, rfl, hr, hlk⟩ := C
  intro H locs ls hH hl
  refine va_calll (va_runS (As := As) (rest := st) ⟨hx, hb, hml, hown, hts⟩ (hM l) (⟨callB_of n hts (AWcall hcode) rfl h0.1 h0.2 (hts _ hini) (hts _ hw) hdy hR, hts _ hstat⟩) ⟨fun a U g mk q => ⟨q.1, q.2.1, Fx_blind q.2.2⟩, fun U hU hW => ⟨rfl, by rw [hU]; exact hH.1, Fx_call hF hH.2 hU hW⟩⟩ rfl hn hl.1 rfl (lv_room hst) hd ⟨Nat.zero_le _, Nat.zero_le _⟩) hH.2 (fun q _ h => h) (fun q h => h) (fun r M2 t H1 locs1 ht hvm hq hB hz hk2 hS => ?_)
  exact kk r M2 hq H1 locs1 ls ⟨by rw [← ht]; exact hB, hS⟩ hl
theorem r_callSNl (C : Kok K X nL cc own rm rt) {y : MethodName} {bytes : ByteArray} {maxL idx : Nat} {ret : Option FieldType} {rmc : Room} (n : Nat) {As : List Value}  {Q : Int64 → Mem → Prop} (hM : Ct y bytes maxL ret rmc X M As (Ql X Q)) {host : String} (hw : (own, idx, y, host) ∈ NM) (hstat : Cond.static y ∈ AW) (hcode : Cond.code y bytes maxL ret ∈ AW) (hini : Cond.initialized y.cls ∈ AW) (hdy : y.cls ≠ "java/lang/invoke/MethodHandle" ∧ y.cls ≠ "java/lang/invoke/VarHandle" ∧ (parseMethodDescriptor y.desc).map (fun d => d.parameters.length) = some n) (h0 : rmc.cells = 0 ∧ rmc.slots = 0) (hR : rmc.frames + 1 ≤ rm.frames ∧ 8 + (maxL + 11) + rmc.locals ≤ rm.locals) (hn : As.length = n) (hst : (st.map fun v => v.category).sum ≤ 8) (hd : decode cc pc = .ok (.invokestatic idx, 3)) (kk : ∀ (r : Int64) (M2 : Mem), Q r M2 → WX K X nL Qc M2 (pc + 3) lv (.long r :: st)) : WX K X nL Qc M pc lv (As.reverse ++ st) := by
  obtain ⟨p, l, e, R, s, m, args, below, meth, c⟩ := K
  obtain ⟨hx, hb, hml, hown, hts, hF, rfl, hr, hlk⟩ := C
  intro H locs ls hH hl
  refine va_calll (va_runSN (As := As) (rest := st) ⟨hx, hb, hml, hown, hts⟩ (hM l) (⟨va_cnB n hts (AWcall hcode) rfl h0.1 h0.2 (hF.2.2.2.1 _ hw) (hts _ hini) hdy hR, hts _ hstat, trivial⟩) ⟨fun a U g mk q => ⟨q.1, q.2.1, Fx_blind q.2.2⟩, fun U hU hW => ⟨rfl, by rw [hU]; exact hH.1, Fx_call hF hH.2 hU hW⟩⟩ rfl hn hl.1 rfl (lv_room hst) hd ⟨Nat.zero_le _, Nat.zero_le _⟩) hH.2 (fun q _ h => h) (fun q h => h) (fun r M2 t H1 locs1 ht hvm hq hB hz hk2 hS => ?_)
  exact kk r M2 hq H1 locs1 ls ⟨by rw [← ht]; exact hB, hS⟩ hl
theorem r_callVv (C : Kok K X nL cc own rm rt) {y : MethodName} {bytes : ByteArray} {maxL idx : Nat} {ret : Option FieldType} {rmc : Room} (n : Nat) {As : List Value} {k ci N : Nat} {fs : List Value} {T : u_T} (hk : k < 93) (hc : cellA X (M k) k = .inr (ci, fs)) (hcl : vwCl[ci]? = some (y.cls, T, N)) (hinst : Cond.instanceMethod y ∈ AW) (hsel : Cond.selects y.cls y y ∈ AW) {Q : Mem → Prop} (hM : Ct y bytes maxL ret rmc X M (.ref (ad X k) :: As) (Qv X Q)) (hw : Cond.methodLink own idx y ∈ AW)  (hcode : Cond.code y bytes maxL ret ∈ AW) (hini : Cond.initialized y.cls ∈ AW) (hdy : y.cls ≠ "java/lang/invoke/MethodHandle" ∧ y.cls ≠ "java/lang/invoke/VarHandle" ∧ (parseMethodDescriptor y.desc).map (fun d => d.parameters.length) = some n) (h0 : rmc.cells = 0 ∧ rmc.slots = 0) (hR : rmc.frames + 1 ≤ rm.frames ∧ 8 + (maxL + 11) + rmc.locals ≤ rm.locals) (hn : As.length = n) (hst : (st.map fun v => v.category).sum ≤ 8) (hd : decode cc pc = .ok (.invokevirtual idx, 3)) (kk : ∀ (M2 : Mem), Q M2 → WX K X nL Qc M2 (pc + 3) lv st) : WX K X nL Qc M pc lv (As.reverse ++ .ref (ad X k) :: st) := by
  obtain ⟨p, l, e, R, s, m, args, below, meth, c⟩ := K
  obtain ⟨hx, hb, hml, hown, hts, hF, rfl, hr, hlk⟩ := C
  intro H locs ls hH hl
  refine va_callv (va_runV (As := As) (rest := st) ⟨hx, hb, hml, hown, hts⟩ (hM l) (⟨callB_of n hts (AWcall hcode) rfl h0.1 h0.2 (hts _ hini) (hts _ hw) hdy hR, hts _ hinst, hts _ hsel⟩) ⟨fun a U g mk q => ⟨q.1, q.2.1, Fx_blind q.2.2⟩, va_recv hF.2.1 hH.1 hcl (by rw [wsA_at hk, hc]), fun U hU hW => ⟨rfl, by rw [hU]; exact hH.1, Fx_call hF hH.2 hU hW⟩⟩ rfl hn hl.1 rfl (lv_room hst) hd ⟨Nat.zero_le _, Nat.zero_le _⟩) hH.2 (fun q _ h => h) (fun q h => h) (fun M2 t H1 locs1 ht hvm hq hB hz hk2 hS => ?_)
  exact kk M2 hq H1 locs1 ls ⟨by rw [← ht]; exact hB, hS⟩ hl
theorem r_callVNv (C : Kok K X nL cc own rm rt) {y : MethodName} {bytes : ByteArray} {maxL idx : Nat} {ret : Option FieldType} {rmc : Room} (n : Nat) {As : List Value} {k ci N : Nat} {fs : List Value} {T : u_T} (hk : k < 93) (hc : cellA X (M k) k = .inr (ci, fs)) (hcl : vwCl[ci]? = some (y.cls, T, N)) (hinst : Cond.instanceMethod y ∈ AW) (hsel : Cond.selects y.cls y y ∈ AW) {Q : Mem → Prop} (hM : Ct y bytes maxL ret rmc X M (.ref (ad X k) :: As) (Qv X Q)) {host : String} (hw : (own, idx, y, host) ∈ NM)  (hcode : Cond.code y bytes maxL ret ∈ AW) (hini : Cond.initialized y.cls ∈ AW) (hdy : y.cls ≠ "java/lang/invoke/MethodHandle" ∧ y.cls ≠ "java/lang/invoke/VarHandle" ∧ (parseMethodDescriptor y.desc).map (fun d => d.parameters.length) = some n) (h0 : rmc.cells = 0 ∧ rmc.slots = 0) (hR : rmc.frames + 1 ≤ rm.frames ∧ 8 + (maxL + 11) + rmc.locals ≤ rm.locals) (hn : As.length = n) (hst : (st.map fun v => v.category).sum ≤ 8) (hd : decode cc pc = .ok (.invokevirtual idx, 3)) (kk : ∀ (M2 : Mem), Q M2 → WX K X nL Qc M2 (pc + 3) lv st) : WX K X nL Qc M pc lv (As.reverse ++ .ref (ad X k) :: st) := by
  obtain ⟨p, l, e, R, s, m, args, below, meth, c⟩ := K
  obtain ⟨hx, hb, hml, hown, hts, hF, rfl, hr, hlk⟩ := C
  intro H locs ls hH hl
  refine va_callv (va_runVN (As := As) (rest := st) ⟨hx, hb, hml, hown, hts⟩ (hM l) (⟨va_cnB n hts (AWcall hcode) rfl h0.1 h0.2 (hF.2.2.2.1 _ hw) (hts _ hini) hdy hR, hts _ hinst, hts _ hsel⟩) ⟨fun a U g mk q => ⟨q.1, q.2.1, Fx_blind q.2.2⟩, va_recv hF.2.1 hH.1 hcl (by rw [wsA_at hk, hc]), fun U hU hW => ⟨rfl, by rw [hU]; exact hH.1, Fx_call hF hH.2 hU hW⟩⟩ rfl hn hl.1 rfl (lv_room hst) hd ⟨Nat.zero_le _, Nat.zero_le _⟩) hH.2 (fun q _ h => h) (fun q h => h) (fun M2 t H1 locs1 ht hvm hq hB hz hk2 hS => ?_)
  exact kk M2 hq H1 locs1 ls ⟨by rw [← ht]; exact hB, hS⟩ hl
theorem r_callSv (C : Kok K X nL cc own rm rt) {y : MethodName} {bytes : ByteArray} {maxL idx : Nat} {ret : Option FieldType} {rmc : Room} (n : Nat) {As : List Value}  {Q : Mem → Prop} (hM : Ct y bytes maxL ret rmc X M As (Qv X Q)) (hw : Cond.methodLink own idx y ∈ AW) (hstat : Cond.static y ∈ AW) (hcode : Cond.code y bytes maxL ret ∈ AW) (hini : Cond.initialized y.cls ∈ AW) (hdy : y.cls ≠ "java/lang/invoke/MethodHandle" ∧ y.cls ≠ "java/lang/invoke/VarHandle" ∧ (parseMethodDescriptor y.desc).map (fun d => d.parameters.length) = some n) (h0 : rmc.cells = 0 ∧ rmc.slots = 0) (hR : rmc.frames + 1 ≤ rm.frames ∧ 8 + (maxL + 11) + rmc.locals ≤ rm.locals) (hn : As.length = n) (hst : (st.map fun v => v.category).sum ≤ 8) (hd : decode cc pc = .ok (.invokestatic idx, 3)) (kk : ∀ (M2 : Mem), Q M2 → WX K X nL Qc M2 (pc + 3) lv st) : WX K X nL Qc M pc lv (As.reverse ++ st) := by
  obtain ⟨p, l, e, R, s, m, args, below, meth, c⟩ := K
  obtain ⟨hx, hb, hml, hown, hts, hF, rfl, hr, hlk⟩ := C
  intro H locs ls hH hl
  refine va_callv (va_runS (As := As) (rest := st) ⟨hx, hb, hml, hown, hts⟩ (hM l) (⟨callB_of n hts (AWcall hcode) rfl h0.1 h0.2 (hts _ hini) (hts _ hw) hdy hR, hts _ hstat⟩) ⟨fun a U g mk q => ⟨q.1, q.2.1, Fx_blind q.2.2⟩, fun U hU hW => ⟨rfl, by rw [hU]; exact hH.1, Fx_call hF hH.2 hU hW⟩⟩ rfl hn hl.1 rfl (lv_room hst) hd ⟨Nat.zero_le _, Nat.zero_le _⟩) hH.2 (fun q _ h => h) (fun q h => h) (fun M2 t H1 locs1 ht hvm hq hB hz hk2 hS => ?_)
  exact kk M2 hq H1 locs1 ls ⟨by rw [← ht]; exact hB, hS⟩ hl
theorem r_callSNv (C : Kok K X nL cc own rm rt) {y : MethodName} {bytes : ByteArray} {maxL idx : Nat} {ret : Option FieldType} {rmc : Room} (n : Nat) {As : List Value}  {Q : Mem → Prop} (hM : Ct y bytes maxL ret rmc X M As (Qv X Q)) {host : String} (hw : (own, idx, y, host) ∈ NM) (hstat : Cond.static y ∈ AW) (hcode : Cond.code y bytes maxL ret ∈ AW) (hini : Cond.initialized y.cls ∈ AW) (hdy : y.cls ≠ "java/lang/invoke/MethodHandle" ∧ y.cls ≠ "java/lang/invoke/VarHandle" ∧ (parseMethodDescriptor y.desc).map (fun d => d.parameters.length) = some n) (h0 : rmc.cells = 0 ∧ rmc.slots = 0) (hR : rmc.frames + 1 ≤ rm.frames ∧ 8 + (maxL + 11) + rmc.locals ≤ rm.locals) (hn : As.length = n) (hst : (st.map fun v => v.category).sum ≤ 8) (hd : decode cc pc = .ok (.invokestatic idx, 3)) (kk : ∀ (M2 : Mem), Q M2 → WX K X nL Qc M2 (pc + 3) lv st) : WX K X nL Qc M pc lv (As.reverse ++ st) := by
  obtain ⟨p, l, e, R, s, m, args, below, meth, c⟩ := K
  obtain ⟨hx, hb, hml, hown, hts, hF, rfl, hr, hlk⟩ := C
  intro H locs ls hH hl
  refine va_callv (va_runSN (As := As) (rest := st) ⟨hx, hb, hml, hown, hts⟩ (hM l) (⟨va_cnB n hts (AWcall hcode) rfl h0.1 h0.2 (hF.2.2.2.1 _ hw) (hts _ hini) hdy hR, hts _ hstat, trivial⟩) ⟨fun a U g mk q => ⟨q.1, q.2.1, Fx_blind q.2.2⟩, fun U hU hW => ⟨rfl, by rw [hU]; exact hH.1, Fx_call hF hH.2 hU hW⟩⟩ rfl hn hl.1 rfl (lv_room hst) hd ⟨Nat.zero_le _, Nat.zero_le _⟩) hH.2 (fun q _ h => h) (fun q h => h) (fun M2 t H1 locs1 ht hvm hq hB hz hk2 hS => ?_)
  exact kk M2 hq H1 locs1 ls ⟨by rw [← ht]; exact hB, hS⟩ hl
theorem r_iret {Q : Int32 → Mem → Prop} {v : Int32} (C : Kok K X nL cc own rm (some .int)) (hd : decode cc pc = .ok (.ireturn, 1)) (h : Q v M) : WX K X nL (Qi X Q) M pc lv [.int v] := by
  obtain ⟨p, l, e, R, s, m, args, below, meth, c⟩ := K
  obtain ⟨hx, hb, hml, hown, hts, hF, rfl, hr, hlk⟩ := C
  intro H locs ls hH hl
  exact W.iret hx hb hr (fun t ht hW => ⟨⟨v, M, rfl, h, by show PX X M t.heap; rw [ht]; exact hH.1⟩, hH.2.F ht⟩) hH.2.2.2 hd hlk
def vz (v : Int32) : Prop := v = 0 ∨ v = 1
theorem vz_n {v : Int32} (h : vz v) : narrow .boolean (.int v) = .int v := by
  rcases h with rfl | rfl <;> rfl
theorem r_zret {Q : Int32 → Mem → Prop} {v : Int32} (C : Kok K X nL cc own rm (some .boolean)) (hd : decode cc pc = .ok (.ireturn, 1)) (hz : vz v) (h : Q v M) : WX K X nL (Qi X Q) M pc lv [.int v] := by
  obtain ⟨p, l, e, R, s, m, args, below, meth, c⟩ := K
  obtain ⟨hx, hb, hml, hown, hts, hF, rfl, hr, hlk⟩ := C
  intro H locs ls hH hl
  exact W.zret hx hb hr (vz_n hz) (fun t ht hW => ⟨⟨v, M, rfl, h, by show PX X M t.heap; rw [ht]; exact hH.1⟩, hH.2.F ht⟩) hH.2.2.2 hd hlk
theorem r_lret {Q : Int64 → Mem → Prop} {v : Int64} (C : Kok K X nL cc own rm (some .long)) (hd : decode cc pc = .ok (.lreturn, 1)) (h : Q v M) : WX K X nL (Ql X Q) M pc lv [.long v] := by
  obtain ⟨p, l, e, R, s, m, args, below, meth, c⟩ := K
  obtain ⟨hx, hb, hml, hown, hts, hF, rfl, hr, hlk⟩ := C
  intro H locs ls hH hl
  exact W.lret hx hb hr (fun t ht hW => ⟨⟨v, M, rfl, h, by show PX X M t.heap; rw [ht]; exact hH.1⟩, hH.2.F ht⟩) hH.2.2.2 hd hlk
theorem r_vret {Q : Mem → Prop} (C : Kok K X nL cc own rm none) (hd : decode cc pc = .ok (.return_, 1)) (h : Q M) : WX K X nL (Qv X Q) M pc lv [] := by
  obtain ⟨p, l, e, R, s, m, args, below, meth, c⟩ := K
  obtain ⟨hx, hb, hml, hown, hts, hF, rfl, hr, hlk⟩ := C
  intro H locs ls hH hl
  exact W.vret hx hb hr (fun t ht hW => ⟨⟨M, rfl, h, by show PX X M t.heap; rw [ht]; exact hH.1⟩, hH.2.F ht⟩) hH.2.2.2 hd hlk
end ROWS
section CELLS
variable {X : Cx}
theorem ce0 (f : Nat → Int32) : cellA X f 0 = .inr (8, [.ref (ad X 1), .ref (ad X 19), .ref (ad X 21), .ref (ad X 27), .ref (ad X 41), .ref (ad X 52), .ref (ad X 2), .ref (ad X 29), .ref (ad X 32), .ref (ad X 37), .int (f 10), .int (f 11)]) := rfl
theorem ce4 (f : Nat → Int32) : cellA X f 4 = .inl (cy X 0, 40, .inl f) := rfl
theorem ce6 (f : Nat → Int32) : cellA X f 6 = .inl (cy X 0, 40, .inl f) := rfl
theorem ce8 (f : Nat → Int32) : cellA X f 8 = .inl (cy X 0, 40, .inl f) := rfl
theorem ce10 (f : Nat → Int32) : cellA X f 10 = .inl (cy X 0, 40, .inl f) := rfl
theorem ce12 (f : Nat → Int32) : cellA X f 12 = .inl (cy X 0, 40, .inl f) := rfl
theorem ce14 (f : Nat → Int32) : cellA X f 14 = .inl (cy X 0, 40, .inl f) := rfl
theorem ce16 (f : Nat → Int32) : cellA X f 16 = .inl (cy X 0, 40, .inl f) := rfl
theorem ce18 (f : Nat → Int32) : cellA X f 18 = .inl (cy X 0, 40, .inl f) := rfl
theorem ce19 (f : Nat → Int32) : cellA X f 19 = .inr (3, [.ref (ad X 20), .int (f 1), .int (f 2), .int (f 3), .int (f 4), .int (f 5)]) := rfl
theorem ce20 (f : Nat → Int32) : cellA X f 20 = .inl (cy X 0, 120, .inl f) := rfl
theorem ce21 (f : Nat → Int32) : cellA X f 21 = .inr (0, [.ref (ad X 22), .ref (ad X 23), .ref (ad X 24), .ref (ad X 25), .ref (ad X 26), .int (f 5), .int (f 6)]) := rfl
theorem ce22 (f : Nat → Int32) : cellA X f 22 = .inl (cy X 0, 24, .inl f) := rfl
theorem ce23 (f : Nat → Int32) : cellA X f 23 = .inl (cy X 0, 24, .inl f) := rfl
theorem ce24 (f : Nat → Int32) : cellA X f 24 = .inl (cy X 0, 24, .inl f) := rfl
theorem ce25 (f : Nat → Int32) : cellA X f 25 = .inl (cy X 0, 24, .inl f) := rfl
theorem ce26 (f : Nat → Int32) : cellA X f 26 = .inl (cy X 0, 24, .inl f) := rfl
theorem ce27 (f : Nat → Int32) : cellA X f 27 = .inr (1, [.ref (ad X 28), .int (f 1)]) := rfl
theorem ce28 (f : Nat → Int32) : cellA X f 28 = .inl (cy X 0, 16, .inl f) := rfl
theorem ce29 (f : Nat → Int32) : cellA X f 29 = .inr (2, [.ref (ad X 30), .ref (ad X 31), .int (f 2)]) := rfl
theorem ce30 (f : Nat → Int32) : cellA X f 30 = .inl (cy X 0, 6, .inl f) := rfl
theorem ce31 (f : Nat → Int32) : cellA X f 31 = .inl (cy X 0, 6, .inl f) := rfl
theorem ce32 (f : Nat → Int32) : cellA X f 32 = .inr (7, [.ref (ad X 33), .ref (ad X 34), .ref (ad X 35), .ref (ad X 36), .int (f 4)]) := rfl
theorem ce33 (f : Nat → Int32) : cellA X f 33 = .inl (cy X 0, 7, .inl f) := rfl
theorem ce34 (f : Nat → Int32) : cellA X f 34 = .inl (cy X 0, 7, .inl f) := rfl
theorem ce35 (f : Nat → Int32) : cellA X f 35 = .inl (cy X 0, 7, .inl f) := rfl
theorem ce36 (f : Nat → Int32) : cellA X f 36 = .inl (cy X 0, 6, .inl f) := rfl
theorem ce37 (f : Nat → Int32) : cellA X f 37 = .inr (5, [.ref (ad X 38), .ref (ad X 39), .ref (ad X 40), .int (f 3), .int (f 4), .int (f 5)]) := rfl
theorem ce38 (f : Nat → Int32) : cellA X f 38 = .inl (cy X 0, 6, .inl f) := rfl
theorem ce39 (f : Nat → Int32) : cellA X f 39 = .inl (cy X 0, 18, .inl f) := rfl
theorem ce40 (f : Nat → Int32) : cellA X f 40 = .inl (cy X 0, 18, .inl f) := rfl
theorem ce42 (f : Nat → Int32) : cellA X f 42 = .inl (cy X 0, 6, .inl f) := rfl
theorem ce43 (f : Nat → Int32) : cellA X f 43 = .inl (cy X 0, 6, .inl f) := rfl
theorem ce44 (f : Nat → Int32) : cellA X f 44 = .inl (cy X 0, 6, .inl f) := rfl
theorem ce45 (f : Nat → Int32) : cellA X f 45 = .inl (cy X 0, 6, .inl f) := rfl
theorem ce46 (f : Nat → Int32) : cellA X f 46 = .inl (cy X 0, 6, .inl f) := rfl
theorem ce47 (f : Nat → Int32) : cellA X f 47 = .inl (cy X 0, 6, .inl f) := rfl
theorem ce48 (f : Nat → Int32) : cellA X f 48 = .inl (cy X 0, 6, .inl f) := rfl
theorem ce49 (f : Nat → Int32) : cellA X f 49 = .inl (cy X 0, 6, .inl f) := rfl
theorem ce50 (f : Nat → Int32) : cellA X f 50 = .inl (cy X 0, 36, .inl f) := rfl
theorem ce51 (f : Nat → Int32) : cellA X f 51 = .inl (cy X 0, 36, .inl f) := rfl
theorem ce53 (f : Nat → Int32) : cellA X f 53 = .inl (cy X 0, 6, .inl f) := rfl
theorem ce54 (f : Nat → Int32) : cellA X f 54 = .inl (cy X 0, 6, .inl f) := rfl
theorem ce55 (f : Nat → Int32) : cellA X f 55 = .inl (cy X 0, 6, .inl f) := rfl
theorem ce56 (f : Nat → Int32) : cellA X f 56 = .inl (cy X 0, 6, .inl f) := rfl
theorem ce57 (f : Nat → Int32) : cellA X f 57 = .inl (cy X 0, 6, .inl f) := rfl
theorem ce58 (f : Nat → Int32) : cellA X f 58 = .inl (cy X 0, 6, .inl f) := rfl
theorem ce59 (f : Nat → Int32) : cellA X f 59 = .inl (cy X 0, 6, .inl f) := rfl
theorem ce60 (f : Nat → Int32) : cellA X f 60 = .inl (cy X 0, 6, .inl f) := rfl
theorem ce61 (f : Nat → Int32) : cellA X f 61 = .inl (cy X 0, 36, .inl f) := rfl
theorem ce62 (f : Nat → Int32) : cellA X f 62 = .inl (cy X 0, 36, .inl f) := rfl
theorem ce64 (f : Nat → Int32) : cellA X f 64 = .inl (cy X 0, 6, .inl f) := rfl
theorem ce65 (f : Nat → Int32) : cellA X f 65 = .inl (cy X 0, 6, .inl f) := rfl
theorem ce66 (f : Nat → Int32) : cellA X f 66 = .inl (cy X 0, 6, .inl f) := rfl
theorem ce67 (f : Nat → Int32) : cellA X f 67 = .inl (cy X 0, 6, .inl f) := rfl
theorem ce68 (f : Nat → Int32) : cellA X f 68 = .inl (cy X 0, 6, .inl f) := rfl
theorem ce69 (f : Nat → Int32) : cellA X f 69 = .inl (cy X 0, 6, .inl f) := rfl
theorem ce70 (f : Nat → Int32) : cellA X f 70 = .inl (cy X 0, 6, .inl f) := rfl
theorem ce71 (f : Nat → Int32) : cellA X f 71 = .inl (cy X 0, 6, .inl f) := rfl
theorem ce72 (f : Nat → Int32) : cellA X f 72 = .inl (cy X 0, 36, .inl f) := rfl
theorem ce73 (f : Nat → Int32) : cellA X f 73 = .inl (cy X 0, 36, .inl f) := rfl
theorem ce75 (f : Nat → Int32) : cellA X f 75 = .inl (cy X 0, 6, .inl f) := rfl
theorem ce76 (f : Nat → Int32) : cellA X f 76 = .inl (cy X 0, 6, .inl f) := rfl
theorem ce77 (f : Nat → Int32) : cellA X f 77 = .inl (cy X 0, 6, .inl f) := rfl
theorem ce78 (f : Nat → Int32) : cellA X f 78 = .inl (cy X 0, 6, .inl f) := rfl
theorem ce79 (f : Nat → Int32) : cellA X f 79 = .inl (cy X 0, 6, .inl f) := rfl
theorem ce80 (f : Nat → Int32) : cellA X f 80 = .inl (cy X 0, 6, .inl f) := rfl
theorem ce81 (f : Nat → Int32) : cellA X f 81 = .inl (cy X 0, 6, .inl f) := rfl
theorem ce82 (f : Nat → Int32) : cellA X f 82 = .inl (cy X 0, 6, .inl f) := rfl
theorem ce83 (f : Nat → Int32) : cellA X f 83 = .inl (cy X 0, 36, .inl f) := rfl
theorem ce84 (f : Nat → Int32) : cellA X f 84 = .inl (cy X 0, 36, .inl f) := rfl
theorem ce85 (f : Nat → Int32) : cellA X f 85 = .inr (9, [.ref (ad X 86), .int (f 1), .ref (ad X 87), .ref (ad X 88), .ref (ad X 89), .ref (ad X 90), .ref (ad X 91), .int (f 7), .int (f 8), .int (f 9), .ref (ad X 92), .int (f 11), .int (f 12), .int (f 13), .int (f 14), .int (f 15), .int (f 16), .int (f 17), .int (f 18), .int (f 19), .int (f 20)]) := rfl
theorem ce86 (f : Nat → Int32) : cellA X f 86 = .inl (cy X 0, 3528, .inl f) := rfl
theorem ce87 (f : Nat → Int32) : cellA X f 87 = .inl (cy X 1, 2, .inl f) := rfl
theorem ce88 (f : Nat → Int32) : cellA X f 88 = .inl (cy X 0, 8, .inl f) := rfl
theorem ce89 (f : Nat → Int32) : cellA X f 89 = .inl (cy X 0, 8, .inl f) := rfl
theorem ce90 (f : Nat → Int32) : cellA X f 90 = .inl (cy X 0, 320, .inl f) := rfl
theorem ce91 (f : Nat → Int32) : cellA X f 91 = .inl (cy X 0, 120, .inl f) := rfl
theorem ce92 (f : Nat → Int32) : cellA X f 92 = .inl (cy X 0, 16, .inl f) := rfl
theorem kdlt {k : Nat} (h : kd k ≠ 99) : k < 93 := by
  by_cases hk : k < 93
  · exact hk
  · refine absurd ?_ h
    unfold kd
    rw [List.getD_eq_getElem?_getD, List.getElem?_eq_none (by simp [kdL]; omega)]
    rfl
theorem ceT {k : Nat} (h : kd k = 6) (f : Nat → Int32) : cellA X f k = .inr (6, [.int (f 0), .int (f 1), .int (f 2), .int (f 3), .int (f 4), .int (f 5), .ref (ad X (k + 1)), .ref (ad X (k + 2)), .ref (ad X (k + 3)), .ref (ad X (k + 4)), .ref (ad X (k + 5)), .ref (ad X (k + 6)), .ref (ad X (k + 7)), .ref (ad X (k + 8)), .ref (ad X (k + 9)), .ref (ad X (k + 10))]) := by
  unfold cellA
  rw [h]
  rfl
theorem bdT {k : Nat} (h : kd k = 6) : k < 93 := kdlt (by rw [h]; decide)
theorem alT1 : ∀ k, k < 93 → kd k = 6 → kd (k + 1) = 10 ∧ ln (k + 1) = 6 := by decide +kernel
theorem bdT1 {k : Nat} (h : kd k = 6) : k + 1 < 93 := kdlt (by rw [(alT1 k (bdT h) h).1]; decide)
theorem ceT1 {k : Nat} (h : kd k = 6) (f : Nat → Int32) : cellA X f (k + 1) = .inl (cy X 0, 6, .inl f) := by
  unfold cellA
  rw [(alT1 k (bdT h) h).1, show ln (k + 1) = 6 from (alT1 k (bdT h) h).2]
  rfl
theorem alT2 : ∀ k, k < 93 → kd k = 6 → kd (k + 2) = 10 ∧ ln (k + 2) = 6 := by decide +kernel
theorem bdT2 {k : Nat} (h : kd k = 6) : k + 2 < 93 := kdlt (by rw [(alT2 k (bdT h) h).1]; decide)
theorem ceT2 {k : Nat} (h : kd k = 6) (f : Nat → Int32) : cellA X f (k + 2) = .inl (cy X 0, 6, .inl f) := by
  unfold cellA
  rw [(alT2 k (bdT h) h).1, show ln (k + 2) = 6 from (alT2 k (bdT h) h).2]
  rfl
theorem alT3 : ∀ k, k < 93 → kd k = 6 → kd (k + 3) = 10 ∧ ln (k + 3) = 6 := by decide +kernel
theorem bdT3 {k : Nat} (h : kd k = 6) : k + 3 < 93 := kdlt (by rw [(alT3 k (bdT h) h).1]; decide)
theorem ceT3 {k : Nat} (h : kd k = 6) (f : Nat → Int32) : cellA X f (k + 3) = .inl (cy X 0, 6, .inl f) := by
  unfold cellA
  rw [(alT3 k (bdT h) h).1, show ln (k + 3) = 6 from (alT3 k (bdT h) h).2]
  rfl
theorem alT4 : ∀ k, k < 93 → kd k = 6 → kd (k + 4) = 10 ∧ ln (k + 4) = 6 := by decide +kernel
theorem bdT4 {k : Nat} (h : kd k = 6) : k + 4 < 93 := kdlt (by rw [(alT4 k (bdT h) h).1]; decide)
theorem ceT4 {k : Nat} (h : kd k = 6) (f : Nat → Int32) : cellA X f (k + 4) = .inl (cy X 0, 6, .inl f) := by
  unfold cellA
  rw [(alT4 k (bdT h) h).1, show ln (k + 4) = 6 from (alT4 k (bdT h) h).2]
  rfl
theorem alT5 : ∀ k, k < 93 → kd k = 6 → kd (k + 5) = 10 ∧ ln (k + 5) = 6 := by decide +kernel
theorem bdT5 {k : Nat} (h : kd k = 6) : k + 5 < 93 := kdlt (by rw [(alT5 k (bdT h) h).1]; decide)
theorem ceT5 {k : Nat} (h : kd k = 6) (f : Nat → Int32) : cellA X f (k + 5) = .inl (cy X 0, 6, .inl f) := by
  unfold cellA
  rw [(alT5 k (bdT h) h).1, show ln (k + 5) = 6 from (alT5 k (bdT h) h).2]
  rfl
theorem alT6 : ∀ k, k < 93 → kd k = 6 → kd (k + 6) = 10 ∧ ln (k + 6) = 6 := by decide +kernel
theorem bdT6 {k : Nat} (h : kd k = 6) : k + 6 < 93 := kdlt (by rw [(alT6 k (bdT h) h).1]; decide)
theorem ceT6 {k : Nat} (h : kd k = 6) (f : Nat → Int32) : cellA X f (k + 6) = .inl (cy X 0, 6, .inl f) := by
  unfold cellA
  rw [(alT6 k (bdT h) h).1, show ln (k + 6) = 6 from (alT6 k (bdT h) h).2]
  rfl
theorem alT7 : ∀ k, k < 93 → kd k = 6 → kd (k + 7) = 10 ∧ ln (k + 7) = 6 := by decide +kernel
theorem bdT7 {k : Nat} (h : kd k = 6) : k + 7 < 93 := kdlt (by rw [(alT7 k (bdT h) h).1]; decide)
theorem ceT7 {k : Nat} (h : kd k = 6) (f : Nat → Int32) : cellA X f (k + 7) = .inl (cy X 0, 6, .inl f) := by
  unfold cellA
  rw [(alT7 k (bdT h) h).1, show ln (k + 7) = 6 from (alT7 k (bdT h) h).2]
  rfl
theorem alT8 : ∀ k, k < 93 → kd k = 6 → kd (k + 8) = 10 ∧ ln (k + 8) = 6 := by decide +kernel
theorem bdT8 {k : Nat} (h : kd k = 6) : k + 8 < 93 := kdlt (by rw [(alT8 k (bdT h) h).1]; decide)
theorem ceT8 {k : Nat} (h : kd k = 6) (f : Nat → Int32) : cellA X f (k + 8) = .inl (cy X 0, 6, .inl f) := by
  unfold cellA
  rw [(alT8 k (bdT h) h).1, show ln (k + 8) = 6 from (alT8 k (bdT h) h).2]
  rfl
theorem alT9 : ∀ k, k < 93 → kd k = 6 → kd (k + 9) = 10 ∧ ln (k + 9) = 36 := by decide +kernel
theorem bdT9 {k : Nat} (h : kd k = 6) : k + 9 < 93 := kdlt (by rw [(alT9 k (bdT h) h).1]; decide)
theorem ceT9 {k : Nat} (h : kd k = 6) (f : Nat → Int32) : cellA X f (k + 9) = .inl (cy X 0, 36, .inl f) := by
  unfold cellA
  rw [(alT9 k (bdT h) h).1, show ln (k + 9) = 36 from (alT9 k (bdT h) h).2]
  rfl
theorem alT10 : ∀ k, k < 93 → kd k = 6 → kd (k + 10) = 10 ∧ ln (k + 10) = 36 := by decide +kernel
theorem bdT10 {k : Nat} (h : kd k = 6) : k + 10 < 93 := kdlt (by rw [(alT10 k (bdT h) h).1]; decide)
theorem ceT10 {k : Nat} (h : kd k = 6) (f : Nat → Int32) : cellA X f (k + 10) = .inl (cy X 0, 36, .inl f) := by
  unfold cellA
  rw [(alT10 k (bdT h) h).1, show ln (k + 10) = 36 from (alT10 k (bdT h) h).2]
  rfl
theorem ceR {k : Nat} (h : kd k = 4) (f : Nat → Int32) : cellA X f k = .inr (4, [.ref (ad X (k + 1)), .int (f 1), .int (f 2)]) := by
  unfold cellA
  rw [h]
  rfl
theorem bdR {k : Nat} (h : kd k = 4) : k < 93 := kdlt (by rw [h]; decide)
theorem alR1 : ∀ k, k < 93 → kd k = 4 → kd (k + 1) = 10 ∧ ln (k + 1) = 40 := by decide +kernel
theorem bdR1 {k : Nat} (h : kd k = 4) : k + 1 < 93 := kdlt (by rw [(alR1 k (bdR h) h).1]; decide)
theorem ceR1 {k : Nat} (h : kd k = 4) (f : Nat → Int32) : cellA X f (k + 1) = .inl (cy X 0, 40, .inl f) := by
  unfold cellA
  rw [(alR1 k (bdR h) h).1, show ln (k + 1) = 40 from (alR1 k (bdR h) h).2]
  rfl
theorem ceA {k : Nat} (h : kd k = 10) (f : Nat → Int32) : cellA X f k = .inl (cy X 0, ln k, .inl f) := by
  unfold cellA
  rw [h]
  rfl
theorem bdA {k : Nat} (h : kd k = 10) : k < 93 := kdlt (by rw [h]; decide)
theorem in_nat {i : Int32} {n : Nat} (h : vp_in i n) : i.toNatClampNeg < n := by
  unfold vp_in at h
  omega
theorem kdRow {i : Int32} (h : vp_in i 8) : kd (3 + 2 * i.toNatClampNeg) = 4 := by
  have h1 := in_nat h
  generalize i.toNatClampNeg = n at h1 ⊢
  revert n
  decide
theorem kdImg {i : Int32} (h : vp_in i 2) : kd (63 + 11 * i.toNatClampNeg) = 6 := by
  have h1 := in_nat h
  generalize i.toNatClampNeg = n at h1 ⊢
  revert n
  decide
end CELLS
