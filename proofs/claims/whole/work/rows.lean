section
-- ===== PART A: goes FIRST, ahead of the names: the tables' words, and 'selects' of the private methods out of them =====
/-- a private method of a class that the tables say can be made, by its rows of tables_1 -/
def lw_okq (q : MethodName × Nat) : Prop := (q.1.cls ≠ "java/lang/invoke/MethodHandle" ∧ q.1.cls ≠ "java/lang/invoke/VarHandle") ∧ Cond.instantiable q.1.cls q.2 ∈ tables_1 ∧ Cond.privateMethod q.1 ∈ tables_1 ∧ Cond.instanceMethod q.1 ∈ tables_1
theorem lw_p0 : lw_okq (⟨"MeetingGroups", "strength", "(I)I"⟩, 11) := ⟨⟨by decide +kernel, by decide +kernel⟩, List.mem_of_getElem? (i := 21) (by decide +kernel), List.mem_of_getElem? (i := 349) (by decide +kernel), List.mem_of_getElem? (i := 350) (by decide +kernel)⟩
theorem lw_p1 : lw_okq (⟨"MeetingGroups$Packing", "begin", "(LMeetingGroups$State;)V"⟩, 6) := ⟨⟨by decide +kernel, by decide +kernel⟩, List.mem_of_getElem? (i := 192) (by decide +kernel), List.mem_of_getElem? (i := 368) (by decide +kernel), List.mem_of_getElem? (i := 369) (by decide +kernel)⟩
theorem lw_p2 : lw_okq (⟨"MeetingGroups$Packing", "entering", "()I"⟩, 6) := ⟨⟨by decide +kernel, by decide +kernel⟩, List.mem_of_getElem? (i := 192) (by decide +kernel), List.mem_of_getElem? (i := 372) (by decide +kernel), List.mem_of_getElem? (i := 373) (by decide +kernel)⟩
theorem lw_p3 : lw_okq (⟨"MeetingGroups$Packing", "leaving", "(I)I"⟩, 6) := ⟨⟨by decide +kernel, by decide +kernel⟩, List.mem_of_getElem? (i := 192) (by decide +kernel), List.mem_of_getElem? (i := 377) (by decide +kernel), List.mem_of_getElem? (i := 378) (by decide +kernel)⟩
theorem lw_p4 : lw_okq (⟨"MeetingGroups$Packing", "isAhead", "(III)Z"⟩, 6) := ⟨⟨by decide +kernel, by decide +kernel⟩, List.mem_of_getElem? (i := 192) (by decide +kernel), List.mem_of_getElem? (i := 381) (by decide +kernel), List.mem_of_getElem? (i := 382) (by decide +kernel)⟩
theorem lw_p5 : lw_okq (⟨"MeetingGroups$Packing", "pivot", "(II)V"⟩, 6) := ⟨⟨by decide +kernel, by decide +kernel⟩, List.mem_of_getElem? (i := 192) (by decide +kernel), List.mem_of_getElem? (i := 385) (by decide +kernel), List.mem_of_getElem? (i := 386) (by decide +kernel)⟩
theorem lw_p6 : lw_okq (⟨"MeetingGroups$Packing", "clearBy", "(III)V"⟩, 6) := ⟨⟨by decide +kernel, by decide +kernel⟩, List.mem_of_getElem? (i := 192) (by decide +kernel), List.mem_of_getElem? (i := 389) (by decide +kernel), List.mem_of_getElem? (i := 390) (by decide +kernel)⟩
theorem lw_p7 : lw_okq (⟨"MeetingGroups$Holding", "isFree", "(I)Z"⟩, 2) := ⟨⟨by decide +kernel, by decide +kernel⟩, List.mem_of_getElem? (i := 151) (by decide +kernel), List.mem_of_getElem? (i := 451) (by decide +kernel), List.mem_of_getElem? (i := 452) (by decide +kernel)⟩
theorem lw_p8 : lw_okq (⟨"MeetingGroups$Probing", "openOf", "(II)I"⟩, 5) := ⟨⟨by decide +kernel, by decide +kernel⟩, List.mem_of_getElem? (i := 167) (by decide +kernel), List.mem_of_getElem? (i := 473) (by decide +kernel), List.mem_of_getElem? (i := 474) (by decide +kernel)⟩
theorem lw_p9 : lw_okq (⟨"MeetingGroups$Probing", "playLost", "(II)V"⟩, 5) := ⟨⟨by decide +kernel, by decide +kernel⟩, List.mem_of_getElem? (i := 167) (by decide +kernel), List.mem_of_getElem? (i := 477) (by decide +kernel), List.mem_of_getElem? (i := 478) (by decide +kernel)⟩
theorem lw_p10 : lw_okq (⟨"MeetingGroups$Probing", "placeOf", "(II)I"⟩, 5) := ⟨⟨by decide +kernel, by decide +kernel⟩, List.mem_of_getElem? (i := 167) (by decide +kernel), List.mem_of_getElem? (i := 481) (by decide +kernel), List.mem_of_getElem? (i := 482) (by decide +kernel)⟩
theorem lw_p11 : lw_okq (⟨"MeetingGroups$Probing", "probesFrom", "(II)I"⟩, 5) := ⟨⟨by decide +kernel, by decide +kernel⟩, List.mem_of_getElem? (i := 167) (by decide +kernel), List.mem_of_getElem? (i := 485) (by decide +kernel), List.mem_of_getElem? (i := 486) (by decide +kernel)⟩
theorem lw_p12 : lw_okq (⟨"MeetingGroups$Probing", "isOver", "(II)Z"⟩, 5) := ⟨⟨by decide +kernel, by decide +kernel⟩, List.mem_of_getElem? (i := 167) (by decide +kernel), List.mem_of_getElem? (i := 489) (by decide +kernel), List.mem_of_getElem? (i := 490) (by decide +kernel)⟩
theorem lw_p13 : lw_okq (⟨"MeetingGroups$Probing", "probesBy", "(III)I"⟩, 5) := ⟨⟨by decide +kernel, by decide +kernel⟩, List.mem_of_getElem? (i := 167) (by decide +kernel), List.mem_of_getElem? (i := 493) (by decide +kernel), List.mem_of_getElem? (i := 494) (by decide +kernel)⟩
theorem lw_p14 : lw_okq (⟨"MeetingGroups$History", "loseOldest", "()V"⟩, 2) := ⟨⟨by decide +kernel, by decide +kernel⟩, List.mem_of_getElem? (i := 87) (by decide +kernel), List.mem_of_getElem? (i := 522) (by decide +kernel), List.mem_of_getElem? (i := 523) (by decide +kernel)⟩
theorem lw_p15 : lw_okq (⟨"MeetingGroups$Plans", "moveIn", "(ILMeetingGroups$Plans;I)V"⟩, 4) := ⟨⟨by decide +kernel, by decide +kernel⟩, List.mem_of_getElem? (i := 35) (by decide +kernel), List.mem_of_getElem? (i := 537) (by decide +kernel), List.mem_of_getElem? (i := 538) (by decide +kernel)⟩
def lw_privs_1 : List (MethodName × Nat) := [(⟨"MeetingGroups", "strength", "(I)I"⟩, 11), (⟨"MeetingGroups$Packing", "begin", "(LMeetingGroups$State;)V"⟩, 6), (⟨"MeetingGroups$Packing", "entering", "()I"⟩, 6), (⟨"MeetingGroups$Packing", "leaving", "(I)I"⟩, 6), (⟨"MeetingGroups$Packing", "isAhead", "(III)Z"⟩, 6), (⟨"MeetingGroups$Packing", "pivot", "(II)V"⟩, 6), (⟨"MeetingGroups$Packing", "clearBy", "(III)V"⟩, 6), (⟨"MeetingGroups$Holding", "isFree", "(I)Z"⟩, 2), (⟨"MeetingGroups$Probing", "openOf", "(II)I"⟩, 5), (⟨"MeetingGroups$Probing", "playLost", "(II)V"⟩, 5), (⟨"MeetingGroups$Probing", "placeOf", "(II)I"⟩, 5), (⟨"MeetingGroups$Probing", "probesFrom", "(II)I"⟩, 5), (⟨"MeetingGroups$Probing", "isOver", "(II)Z"⟩, 5), (⟨"MeetingGroups$Probing", "probesBy", "(III)I"⟩, 5), (⟨"MeetingGroups$History", "loseOldest", "()V"⟩, 2), (⟨"MeetingGroups$Plans", "moveIn", "(ILMeetingGroups$Plans;I)V"⟩, 4)]
theorem lw_r1 : ∀ q ∈ lw_privs_1, lw_okq q := List.forall_mem_cons.mpr ⟨lw_p0, List.forall_mem_cons.mpr ⟨lw_p1, List.forall_mem_cons.mpr ⟨lw_p2, List.forall_mem_cons.mpr ⟨lw_p3, List.forall_mem_cons.mpr ⟨lw_p4, List.forall_mem_cons.mpr ⟨lw_p5, List.forall_mem_cons.mpr ⟨lw_p6, List.forall_mem_cons.mpr ⟨lw_p7, List.forall_mem_cons.mpr ⟨lw_p8, List.forall_mem_cons.mpr ⟨lw_p9, List.forall_mem_cons.mpr ⟨lw_p10, List.forall_mem_cons.mpr ⟨lw_p11, List.forall_mem_cons.mpr ⟨lw_p12, List.forall_mem_cons.mpr ⟨lw_p13, List.forall_mem_cons.mpr ⟨lw_p14, List.forall_mem_cons.mpr ⟨lw_p15, fun _ h => absurd h List.not_mem_nil⟩⟩⟩⟩⟩⟩⟩⟩⟩⟩⟩⟩⟩⟩⟩⟩
theorem lw_p16 : lw_okq (⟨"MeetingGroups$Reader", "next", "()C"⟩, 7) := ⟨⟨by decide +kernel, by decide +kernel⟩, List.mem_of_getElem? (i := 104) (by decide +kernel), List.mem_of_getElem? (i := 578) (by decide +kernel), List.mem_of_getElem? (i := 579) (by decide +kernel)⟩
theorem lw_p17 : lw_okq (⟨"MeetingGroups$Reader", "skipName", "()V"⟩, 7) := ⟨⟨by decide +kernel, by decide +kernel⟩, List.mem_of_getElem? (i := 104) (by decide +kernel), List.mem_of_getElem? (i := 586) (by decide +kernel), List.mem_of_getElem? (i := 587) (by decide +kernel)⟩
theorem lw_p18 : lw_okq (⟨"MeetingGroups$Reader", "isName", "(Ljava/lang/String;II)Z"⟩, 7) := ⟨⟨by decide +kernel, by decide +kernel⟩, List.mem_of_getElem? (i := 104) (by decide +kernel), List.mem_of_getElem? (i := 591) (by decide +kernel), List.mem_of_getElem? (i := 592) (by decide +kernel)⟩
theorem lw_p19 : lw_okq (⟨"MeetingGroups$Reader", "majority", "()Z"⟩, 7) := ⟨⟨by decide +kernel, by decide +kernel⟩, List.mem_of_getElem? (i := 104) (by decide +kernel), List.mem_of_getElem? (i := 643) (by decide +kernel), List.mem_of_getElem? (i := 644) (by decide +kernel)⟩
theorem lw_p20 : lw_okq (⟨"MeetingGroups$Reader", "figure", "(I)I"⟩, 7) := ⟨⟨by decide +kernel, by decide +kernel⟩, List.mem_of_getElem? (i := 104) (by decide +kernel), List.mem_of_getElem? (i := 647) (by decide +kernel), List.mem_of_getElem? (i := 648) (by decide +kernel)⟩
theorem lw_p21 : lw_okq (⟨"MeetingGroups$Reader", "ends", "()Z"⟩, 7) := ⟨⟨by decide +kernel, by decide +kernel⟩, List.mem_of_getElem? (i := 104) (by decide +kernel), List.mem_of_getElem? (i := 651) (by decide +kernel), List.mem_of_getElem? (i := 652) (by decide +kernel)⟩
theorem lw_p22 : lw_okq (⟨"MeetingGroups$Reader", "tell", "(I)V"⟩, 7) := ⟨⟨by decide +kernel, by decide +kernel⟩, List.mem_of_getElem? (i := 104) (by decide +kernel), List.mem_of_getElem? (i := 656) (by decide +kernel), List.mem_of_getElem? (i := 657) (by decide +kernel)⟩
theorem lw_p23 : lw_okq (⟨"MeetingGroups$Reader", "isTold", "(I)Z"⟩, 7) := ⟨⟨by decide +kernel, by decide +kernel⟩, List.mem_of_getElem? (i := 104) (by decide +kernel), List.mem_of_getElem? (i := 660) (by decide +kernel), List.mem_of_getElem? (i := 661) (by decide +kernel)⟩
theorem lw_p24 : lw_okq (⟨"MeetingGroups$Reader", "faultUnless", "(Z)I"⟩, 7) := ⟨⟨by decide +kernel, by decide +kernel⟩, List.mem_of_getElem? (i := 104) (by decide +kernel), List.mem_of_getElem? (i := 664) (by decide +kernel), List.mem_of_getElem? (i := 665) (by decide +kernel)⟩
theorem lw_p25 : lw_okq (⟨"MeetingGroups$Reader", "grid", "()Z"⟩, 7) := ⟨⟨by decide +kernel, by decide +kernel⟩, List.mem_of_getElem? (i := 104) (by decide +kernel), List.mem_of_getElem? (i := 669) (by decide +kernel), List.mem_of_getElem? (i := 670) (by decide +kernel)⟩
theorem lw_p26 : lw_okq (⟨"MeetingGroups$Reader", "skips", "(C)Z"⟩, 7) := ⟨⟨by decide +kernel, by decide +kernel⟩, List.mem_of_getElem? (i := 104) (by decide +kernel), List.mem_of_getElem? (i := 673) (by decide +kernel), List.mem_of_getElem? (i := 674) (by decide +kernel)⟩
theorem lw_p27 : lw_okq (⟨"MeetingGroups$Reader", "wall", "()Z"⟩, 7) := ⟨⟨by decide +kernel, by decide +kernel⟩, List.mem_of_getElem? (i := 104) (by decide +kernel), List.mem_of_getElem? (i := 682) (by decide +kernel), List.mem_of_getElem? (i := 683) (by decide +kernel)⟩
theorem lw_p28 : lw_okq (⟨"MeetingGroups$Reader", "isWallTold", "()Z"⟩, 7) := ⟨⟨by decide +kernel, by decide +kernel⟩, List.mem_of_getElem? (i := 104) (by decide +kernel), List.mem_of_getElem? (i := 686) (by decide +kernel), List.mem_of_getElem? (i := 687) (by decide +kernel)⟩
theorem lw_p29 : lw_okq (⟨"MeetingGroups$Reader", "waysBelow", "(I)I"⟩, 7) := ⟨⟨by decide +kernel, by decide +kernel⟩, List.mem_of_getElem? (i := 104) (by decide +kernel), List.mem_of_getElem? (i := 690) (by decide +kernel), List.mem_of_getElem? (i := 691) (by decide +kernel)⟩
theorem lw_p30 : lw_okq (⟨"MeetingGroups$Reader", "chosenBelow", "(II)I"⟩, 7) := ⟨⟨by decide +kernel, by decide +kernel⟩, List.mem_of_getElem? (i := 104) (by decide +kernel), List.mem_of_getElem? (i := 694) (by decide +kernel), List.mem_of_getElem? (i := 695) (by decide +kernel)⟩
theorem lw_p31 : lw_okq (⟨"MeetingGroups$Reader", "plane", "()Z"⟩, 7) := ⟨⟨by decide +kernel, by decide +kernel⟩, List.mem_of_getElem? (i := 104) (by decide +kernel), List.mem_of_getElem? (i := 699) (by decide +kernel), List.mem_of_getElem? (i := 700) (by decide +kernel)⟩
def lw_privs_2 : List (MethodName × Nat) := [(⟨"MeetingGroups$Reader", "next", "()C"⟩, 7), (⟨"MeetingGroups$Reader", "skipName", "()V"⟩, 7), (⟨"MeetingGroups$Reader", "isName", "(Ljava/lang/String;II)Z"⟩, 7), (⟨"MeetingGroups$Reader", "majority", "()Z"⟩, 7), (⟨"MeetingGroups$Reader", "figure", "(I)I"⟩, 7), (⟨"MeetingGroups$Reader", "ends", "()Z"⟩, 7), (⟨"MeetingGroups$Reader", "tell", "(I)V"⟩, 7), (⟨"MeetingGroups$Reader", "isTold", "(I)Z"⟩, 7), (⟨"MeetingGroups$Reader", "faultUnless", "(Z)I"⟩, 7), (⟨"MeetingGroups$Reader", "grid", "()Z"⟩, 7), (⟨"MeetingGroups$Reader", "skips", "(C)Z"⟩, 7), (⟨"MeetingGroups$Reader", "wall", "()Z"⟩, 7), (⟨"MeetingGroups$Reader", "isWallTold", "()Z"⟩, 7), (⟨"MeetingGroups$Reader", "waysBelow", "(I)I"⟩, 7), (⟨"MeetingGroups$Reader", "chosenBelow", "(II)I"⟩, 7), (⟨"MeetingGroups$Reader", "plane", "()Z"⟩, 7)]
theorem lw_r2 : ∀ q ∈ lw_privs_2, lw_okq q := List.forall_mem_cons.mpr ⟨lw_p16, List.forall_mem_cons.mpr ⟨lw_p17, List.forall_mem_cons.mpr ⟨lw_p18, List.forall_mem_cons.mpr ⟨lw_p19, List.forall_mem_cons.mpr ⟨lw_p20, List.forall_mem_cons.mpr ⟨lw_p21, List.forall_mem_cons.mpr ⟨lw_p22, List.forall_mem_cons.mpr ⟨lw_p23, List.forall_mem_cons.mpr ⟨lw_p24, List.forall_mem_cons.mpr ⟨lw_p25, List.forall_mem_cons.mpr ⟨lw_p26, List.forall_mem_cons.mpr ⟨lw_p27, List.forall_mem_cons.mpr ⟨lw_p28, List.forall_mem_cons.mpr ⟨lw_p29, List.forall_mem_cons.mpr ⟨lw_p30, List.forall_mem_cons.mpr ⟨lw_p31, fun _ h => absurd h List.not_mem_nil⟩⟩⟩⟩⟩⟩⟩⟩⟩⟩⟩⟩⟩⟩⟩⟩
theorem lw_p32 : lw_okq (⟨"MeetingGroups$Reader", "figures", "()Z"⟩, 7) := ⟨⟨by decide +kernel, by decide +kernel⟩, List.mem_of_getElem? (i := 104) (by decide +kernel), List.mem_of_getElem? (i := 704) (by decide +kernel), List.mem_of_getElem? (i := 705) (by decide +kernel)⟩
theorem lw_p33 : lw_okq (⟨"MeetingGroups$Reader", "isGroupTold", "()Z"⟩, 7) := ⟨⟨by decide +kernel, by decide +kernel⟩, List.mem_of_getElem? (i := 104) (by decide +kernel), List.mem_of_getElem? (i := 708) (by decide +kernel), List.mem_of_getElem? (i := 709) (by decide +kernel)⟩
theorem lw_p34 : lw_okq (⟨"MeetingGroups$Plans", "lose", "(I)V"⟩, 4) := ⟨⟨by decide +kernel, by decide +kernel⟩, List.mem_of_getElem? (i := 35) (by decide +kernel), List.mem_of_getElem? (i := 787) (by decide +kernel), List.mem_of_getElem? (i := 788) (by decide +kernel)⟩
theorem lw_p35 : lw_okq (⟨"MeetingGroups$Row", "anyTwoMeet", "()Z"⟩, 2) := ⟨⟨by decide +kernel, by decide +kernel⟩, List.mem_of_getElem? (i := 219) (by decide +kernel), List.mem_of_getElem? (i := 799) (by decide +kernel), List.mem_of_getElem? (i := 800) (by decide +kernel)⟩
theorem lw_p36 : lw_okq (⟨"MeetingGroups$Row", "isNonePart", "()Z"⟩, 2) := ⟨⟨by decide +kernel, by decide +kernel⟩, List.mem_of_getElem? (i := 219) (by decide +kernel), List.mem_of_getElem? (i := 803) (by decide +kernel), List.mem_of_getElem? (i := 804) (by decide +kernel)⟩
theorem lw_p37 : lw_okq (⟨"MeetingGroups$Row", "isOneCount", "()Z"⟩, 2) := ⟨⟨by decide +kernel, by decide +kernel⟩, List.mem_of_getElem? (i := 219) (by decide +kernel), List.mem_of_getElem? (i := 807) (by decide +kernel), List.mem_of_getElem? (i := 808) (by decide +kernel)⟩
theorem lw_p38 : lw_okq (⟨"MeetingGroups$Row", "isEven", "(I)Z"⟩, 2) := ⟨⟨by decide +kernel, by decide +kernel⟩, List.mem_of_getElem? (i := 219) (by decide +kernel), List.mem_of_getElem? (i := 812) (by decide +kernel), List.mem_of_getElem? (i := 813) (by decide +kernel)⟩
theorem lw_p39 : lw_okq (⟨"MeetingGroups$Row", "timesOf", "(I)I"⟩, 2) := ⟨⟨by decide +kernel, by decide +kernel⟩, List.mem_of_getElem? (i := 219) (by decide +kernel), List.mem_of_getElem? (i := 816) (by decide +kernel), List.mem_of_getElem? (i := 817) (by decide +kernel)⟩
theorem lw_p40 : lw_okq (⟨"MeetingGroups$Row", "isJustGroups", "(LMeetingGroups$State;)Z"⟩, 2) := ⟨⟨by decide +kernel, by decide +kernel⟩, List.mem_of_getElem? (i := 219) (by decide +kernel), List.mem_of_getElem? (i := 820) (by decide +kernel), List.mem_of_getElem? (i := 821) (by decide +kernel)⟩
theorem lw_p41 : lw_okq (⟨"MeetingGroups$Sheet", "lowestBits", "(J)J"⟩, 4) := ⟨⟨by decide +kernel, by decide +kernel⟩, List.mem_of_getElem? (i := 234) (by decide +kernel), List.mem_of_getElem? (i := 833) (by decide +kernel), List.mem_of_getElem? (i := 834) (by decide +kernel)⟩
theorem lw_p42 : lw_okq (⟨"MeetingGroupsModel", "at", "(I)I"⟩, 27) := ⟨⟨by decide +kernel, by decide +kernel⟩, List.mem_of_getElem? (i := 860) (by decide +kernel), List.mem_of_getElem? (i := 955) (by decide +kernel), List.mem_of_getElem? (i := 956) (by decide +kernel)⟩
theorem lw_p43 : lw_okq (⟨"MeetingGroupsModel", "isMore", "(I)Z"⟩, 27) := ⟨⟨by decide +kernel, by decide +kernel⟩, List.mem_of_getElem? (i := 860) (by decide +kernel), List.mem_of_getElem? (i := 959) (by decide +kernel), List.mem_of_getElem? (i := 960) (by decide +kernel)⟩
theorem lw_p44 : lw_okq (⟨"MeetingGroupsModel", "leastWith", "(I)I"⟩, 27) := ⟨⟨by decide +kernel, by decide +kernel⟩, List.mem_of_getElem? (i := 860) (by decide +kernel), List.mem_of_getElem? (i := 963) (by decide +kernel), List.mem_of_getElem? (i := 964) (by decide +kernel)⟩
theorem lw_p45 : lw_okq (⟨"MeetingGroupsModel", "turns", "(I)I"⟩, 27) := ⟨⟨by decide +kernel, by decide +kernel⟩, List.mem_of_getElem? (i := 860) (by decide +kernel), List.mem_of_getElem? (i := 977) (by decide +kernel), List.mem_of_getElem? (i := 978) (by decide +kernel)⟩
theorem lw_p46 : lw_okq (⟨"MeetingGroupsModel", "all", "()I"⟩, 27) := ⟨⟨by decide +kernel, by decide +kernel⟩, List.mem_of_getElem? (i := 860) (by decide +kernel), List.mem_of_getElem? (i := 981) (by decide +kernel), List.mem_of_getElem? (i := 982) (by decide +kernel)⟩
theorem lw_p47 : lw_okq (⟨"MeetingGroupsModel", "holds", "(I)Z"⟩, 27) := ⟨⟨by decide +kernel, by decide +kernel⟩, List.mem_of_getElem? (i := 860) (by decide +kernel), List.mem_of_getElem? (i := 985) (by decide +kernel), List.mem_of_getElem? (i := 986) (by decide +kernel)⟩
def lw_privs_3 : List (MethodName × Nat) := [(⟨"MeetingGroups$Reader", "figures", "()Z"⟩, 7), (⟨"MeetingGroups$Reader", "isGroupTold", "()Z"⟩, 7), (⟨"MeetingGroups$Plans", "lose", "(I)V"⟩, 4), (⟨"MeetingGroups$Row", "anyTwoMeet", "()Z"⟩, 2), (⟨"MeetingGroups$Row", "isNonePart", "()Z"⟩, 2), (⟨"MeetingGroups$Row", "isOneCount", "()Z"⟩, 2), (⟨"MeetingGroups$Row", "isEven", "(I)Z"⟩, 2), (⟨"MeetingGroups$Row", "timesOf", "(I)I"⟩, 2), (⟨"MeetingGroups$Row", "isJustGroups", "(LMeetingGroups$State;)Z"⟩, 2), (⟨"MeetingGroups$Sheet", "lowestBits", "(J)J"⟩, 4), (⟨"MeetingGroupsModel", "at", "(I)I"⟩, 27), (⟨"MeetingGroupsModel", "isMore", "(I)Z"⟩, 27), (⟨"MeetingGroupsModel", "leastWith", "(I)I"⟩, 27), (⟨"MeetingGroupsModel", "turns", "(I)I"⟩, 27), (⟨"MeetingGroupsModel", "all", "()I"⟩, 27), (⟨"MeetingGroupsModel", "holds", "(I)Z"⟩, 27)]
theorem lw_r3 : ∀ q ∈ lw_privs_3, lw_okq q := List.forall_mem_cons.mpr ⟨lw_p32, List.forall_mem_cons.mpr ⟨lw_p33, List.forall_mem_cons.mpr ⟨lw_p34, List.forall_mem_cons.mpr ⟨lw_p35, List.forall_mem_cons.mpr ⟨lw_p36, List.forall_mem_cons.mpr ⟨lw_p37, List.forall_mem_cons.mpr ⟨lw_p38, List.forall_mem_cons.mpr ⟨lw_p39, List.forall_mem_cons.mpr ⟨lw_p40, List.forall_mem_cons.mpr ⟨lw_p41, List.forall_mem_cons.mpr ⟨lw_p42, List.forall_mem_cons.mpr ⟨lw_p43, List.forall_mem_cons.mpr ⟨lw_p44, List.forall_mem_cons.mpr ⟨lw_p45, List.forall_mem_cons.mpr ⟨lw_p46, List.forall_mem_cons.mpr ⟨lw_p47, fun _ h => absurd h List.not_mem_nil⟩⟩⟩⟩⟩⟩⟩⟩⟩⟩⟩⟩⟩⟩⟩⟩
theorem lw_p48 : lw_okq (⟨"MeetingGroupsModel", "common", "()I"⟩, 27) := ⟨⟨by decide +kernel, by decide +kernel⟩, List.mem_of_getElem? (i := 860) (by decide +kernel), List.mem_of_getElem? (i := 993) (by decide +kernel), List.mem_of_getElem? (i := 994) (by decide +kernel)⟩
theorem lw_p49 : lw_okq (⟨"MeetingGroupsModel", "faults", "()I"⟩, 27) := ⟨⟨by decide +kernel, by decide +kernel⟩, List.mem_of_getElem? (i := 860) (by decide +kernel), List.mem_of_getElem? (i := 997) (by decide +kernel), List.mem_of_getElem? (i := 998) (by decide +kernel)⟩
theorem lw_p50 : lw_okq (⟨"MeetingGroupsModel", "liars", "(I)I"⟩, 27) := ⟨⟨by decide +kernel, by decide +kernel⟩, List.mem_of_getElem? (i := 860) (by decide +kernel), List.mem_of_getElem? (i := 1001) (by decide +kernel), List.mem_of_getElem? (i := 1002) (by decide +kernel)⟩
theorem lw_p51 : lw_okq (⟨"MeetingGroupsModel", "loads", "()V"⟩, 27) := ⟨⟨by decide +kernel, by decide +kernel⟩, List.mem_of_getElem? (i := 860) (by decide +kernel), List.mem_of_getElem? (i := 1009) (by decide +kernel), List.mem_of_getElem? (i := 1010) (by decide +kernel)⟩
theorem lw_p52 : lw_okq (⟨"MeetingGroupsModel", "slim", "()I"⟩, 27) := ⟨⟨by decide +kernel, by decide +kernel⟩, List.mem_of_getElem? (i := 860) (by decide +kernel), List.mem_of_getElem? (i := 1013) (by decide +kernel), List.mem_of_getElem? (i := 1014) (by decide +kernel)⟩
theorem lw_p53 : lw_okq (⟨"MeetingGroupsModel", "evens", "(II)Z"⟩, 27) := ⟨⟨by decide +kernel, by decide +kernel⟩, List.mem_of_getElem? (i := 860) (by decide +kernel), List.mem_of_getElem? (i := 1017) (by decide +kernel), List.mem_of_getElem? (i := 1018) (by decide +kernel)⟩
theorem lw_p54 : lw_okq (⟨"MeetingGroupsModel", "clears", "()V"⟩, 27) := ⟨⟨by decide +kernel, by decide +kernel⟩, List.mem_of_getElem? (i := 860) (by decide +kernel), List.mem_of_getElem? (i := 1024) (by decide +kernel), List.mem_of_getElem? (i := 1025) (by decide +kernel)⟩
theorem lw_p55 : lw_okq (⟨"MeetingGroupsModel", "squares", "(IZ)V"⟩, 27) := ⟨⟨by decide +kernel, by decide +kernel⟩, List.mem_of_getElem? (i := 860) (by decide +kernel), List.mem_of_getElem? (i := 1028) (by decide +kernel), List.mem_of_getElem? (i := 1029) (by decide +kernel)⟩
theorem lw_p56 : lw_okq (⟨"MeetingGroupsModel", "solves", "(I)I"⟩, 27) := ⟨⟨by decide +kernel, by decide +kernel⟩, List.mem_of_getElem? (i := 860) (by decide +kernel), List.mem_of_getElem? (i := 1032) (by decide +kernel), List.mem_of_getElem? (i := 1033) (by decide +kernel)⟩
theorem lw_p57 : lw_okq (⟨"MeetingGroupsModel", "swaps", "(II)V"⟩, 27) := ⟨⟨by decide +kernel, by decide +kernel⟩, List.mem_of_getElem? (i := 860) (by decide +kernel), List.mem_of_getElem? (i := 1036) (by decide +kernel), List.mem_of_getElem? (i := 1037) (by decide +kernel)⟩
theorem lw_p58 : lw_okq (⟨"MeetingGroupsModel", "takes", "(IIZ)Z"⟩, 27) := ⟨⟨by decide +kernel, by decide +kernel⟩, List.mem_of_getElem? (i := 860) (by decide +kernel), List.mem_of_getElem? (i := 1040) (by decide +kernel), List.mem_of_getElem? (i := 1041) (by decide +kernel)⟩
theorem lw_p59 : lw_okq (⟨"MeetingGroupsModel", "bears", "(I)Z"⟩, 27) := ⟨⟨by decide +kernel, by decide +kernel⟩, List.mem_of_getElem? (i := 860) (by decide +kernel), List.mem_of_getElem? (i := 1044) (by decide +kernel), List.mem_of_getElem? (i := 1045) (by decide +kernel)⟩
theorem lw_p60 : lw_okq (⟨"MeetingGroupsModel", "loadOf", "(I)I"⟩, 27) := ⟨⟨by decide +kernel, by decide +kernel⟩, List.mem_of_getElem? (i := 860) (by decide +kernel), List.mem_of_getElem? (i := 1048) (by decide +kernel), List.mem_of_getElem? (i := 1049) (by decide +kernel)⟩
theorem lw_p61 : lw_okq (⟨"MeetingGroupsModel", "reduces", "(II)V"⟩, 27) := ⟨⟨by decide +kernel, by decide +kernel⟩, List.mem_of_getElem? (i := 860) (by decide +kernel), List.mem_of_getElem? (i := 1052) (by decide +kernel), List.mem_of_getElem? (i := 1053) (by decide +kernel)⟩
theorem lw_p62 : lw_okq (⟨"MeetingGroupsModel", "planAt", "(I)I"⟩, 27) := ⟨⟨by decide +kernel, by decide +kernel⟩, List.mem_of_getElem? (i := 860) (by decide +kernel), List.mem_of_getElem? (i := 1062) (by decide +kernel), List.mem_of_getElem? (i := 1063) (by decide +kernel)⟩
theorem lw_p63 : lw_okq (⟨"MeetingGroupsModel", "weighs", "(I)I"⟩, 27) := ⟨⟨by decide +kernel, by decide +kernel⟩, List.mem_of_getElem? (i := 860) (by decide +kernel), List.mem_of_getElem? (i := 1066) (by decide +kernel), List.mem_of_getElem? (i := 1067) (by decide +kernel)⟩
def lw_privs_4 : List (MethodName × Nat) := [(⟨"MeetingGroupsModel", "common", "()I"⟩, 27), (⟨"MeetingGroupsModel", "faults", "()I"⟩, 27), (⟨"MeetingGroupsModel", "liars", "(I)I"⟩, 27), (⟨"MeetingGroupsModel", "loads", "()V"⟩, 27), (⟨"MeetingGroupsModel", "slim", "()I"⟩, 27), (⟨"MeetingGroupsModel", "evens", "(II)Z"⟩, 27), (⟨"MeetingGroupsModel", "clears", "()V"⟩, 27), (⟨"MeetingGroupsModel", "squares", "(IZ)V"⟩, 27), (⟨"MeetingGroupsModel", "solves", "(I)I"⟩, 27), (⟨"MeetingGroupsModel", "swaps", "(II)V"⟩, 27), (⟨"MeetingGroupsModel", "takes", "(IIZ)Z"⟩, 27), (⟨"MeetingGroupsModel", "bears", "(I)Z"⟩, 27), (⟨"MeetingGroupsModel", "loadOf", "(I)I"⟩, 27), (⟨"MeetingGroupsModel", "reduces", "(II)V"⟩, 27), (⟨"MeetingGroupsModel", "planAt", "(I)I"⟩, 27), (⟨"MeetingGroupsModel", "weighs", "(I)I"⟩, 27)]
theorem lw_r4 : ∀ q ∈ lw_privs_4, lw_okq q := List.forall_mem_cons.mpr ⟨lw_p48, List.forall_mem_cons.mpr ⟨lw_p49, List.forall_mem_cons.mpr ⟨lw_p50, List.forall_mem_cons.mpr ⟨lw_p51, List.forall_mem_cons.mpr ⟨lw_p52, List.forall_mem_cons.mpr ⟨lw_p53, List.forall_mem_cons.mpr ⟨lw_p54, List.forall_mem_cons.mpr ⟨lw_p55, List.forall_mem_cons.mpr ⟨lw_p56, List.forall_mem_cons.mpr ⟨lw_p57, List.forall_mem_cons.mpr ⟨lw_p58, List.forall_mem_cons.mpr ⟨lw_p59, List.forall_mem_cons.mpr ⟨lw_p60, List.forall_mem_cons.mpr ⟨lw_p61, List.forall_mem_cons.mpr ⟨lw_p62, List.forall_mem_cons.mpr ⟨lw_p63, fun _ h => absurd h List.not_mem_nil⟩⟩⟩⟩⟩⟩⟩⟩⟩⟩⟩⟩⟩⟩⟩⟩
theorem lw_p64 : lw_okq (⟨"MeetingGroupsModel", "why", "(IIII)I"⟩, 27) := ⟨⟨by decide +kernel, by decide +kernel⟩, List.mem_of_getElem? (i := 860) (by decide +kernel), List.mem_of_getElem? (i := 1077) (by decide +kernel), List.mem_of_getElem? (i := 1078) (by decide +kernel)⟩
theorem lw_p65 : lw_okq (⟨"MeetingGroupsModel", "notes", "()V"⟩, 27) := ⟨⟨by decide +kernel, by decide +kernel⟩, List.mem_of_getElem? (i := 860) (by decide +kernel), List.mem_of_getElem? (i := 1081) (by decide +kernel), List.mem_of_getElem? (i := 1082) (by decide +kernel)⟩
theorem lw_p66 : lw_okq (⟨"MeetingGroupsModel", "drops", "(I)V"⟩, 27) := ⟨⟨by decide +kernel, by decide +kernel⟩, List.mem_of_getElem? (i := 860) (by decide +kernel), List.mem_of_getElem? (i := 1085) (by decide +kernel), List.mem_of_getElem? (i := 1086) (by decide +kernel)⟩
theorem lw_p67 : lw_okq (⟨"MeetingGroupsModel", "isFree", "(I)Z"⟩, 27) := ⟨⟨by decide +kernel, by decide +kernel⟩, List.mem_of_getElem? (i := 860) (by decide +kernel), List.mem_of_getElem? (i := 1102) (by decide +kernel), List.mem_of_getElem? (i := 1103) (by decide +kernel)⟩
theorem lw_p68 : lw_okq (⟨"MeetingGroupsModel", "probesOf", "(I)V"⟩, 27) := ⟨⟨by decide +kernel, by decide +kernel⟩, List.mem_of_getElem? (i := 860) (by decide +kernel), List.mem_of_getElem? (i := 1113) (by decide +kernel), List.mem_of_getElem? (i := 1114) (by decide +kernel)⟩
theorem lw_p69 : lw_okq (⟨"MeetingGroupsModel", "those", "(II)I"⟩, 27) := ⟨⟨by decide +kernel, by decide +kernel⟩, List.mem_of_getElem? (i := 860) (by decide +kernel), List.mem_of_getElem? (i := 1117) (by decide +kernel), List.mem_of_getElem? (i := 1118) (by decide +kernel)⟩
theorem lw_p70 : lw_okq (⟨"MeetingGroupsModel", "find", "(I)I"⟩, 27) := ⟨⟨by decide +kernel, by decide +kernel⟩, List.mem_of_getElem? (i := 860) (by decide +kernel), List.mem_of_getElem? (i := 1128) (by decide +kernel), List.mem_of_getElem? (i := 1129) (by decide +kernel)⟩
theorem lw_p71 : lw_okq (⟨"MeetingGroupsModel", "comes", "(I)V"⟩, 27) := ⟨⟨by decide +kernel, by decide +kernel⟩, List.mem_of_getElem? (i := 860) (by decide +kernel), List.mem_of_getElem? (i := 1132) (by decide +kernel), List.mem_of_getElem? (i := 1133) (by decide +kernel)⟩
theorem lw_p72 : lw_okq (⟨"MeetingGroupsModel", "goes", "(I)V"⟩, 27) := ⟨⟨by decide +kernel, by decide +kernel⟩, List.mem_of_getElem? (i := 860) (by decide +kernel), List.mem_of_getElem? (i := 1140) (by decide +kernel), List.mem_of_getElem? (i := 1141) (by decide +kernel)⟩
theorem lw_p73 : lw_okq (⟨"MeetingGroupsModel", "isText", "()Z"⟩, 27) := ⟨⟨by decide +kernel, by decide +kernel⟩, List.mem_of_getElem? (i := 860) (by decide +kernel), List.mem_of_getElem? (i := 1172) (by decide +kernel), List.mem_of_getElem? (i := 1173) (by decide +kernel)⟩
theorem lw_p74 : lw_okq (⟨"MeetingGroupsModel", "here", "()I"⟩, 27) := ⟨⟨by decide +kernel, by decide +kernel⟩, List.mem_of_getElem? (i := 860) (by decide +kernel), List.mem_of_getElem? (i := 1176) (by decide +kernel), List.mem_of_getElem? (i := 1177) (by decide +kernel)⟩
theorem lw_p75 : lw_okq (⟨"MeetingGroupsModel", "isName", "(IIIIII)Z"⟩, 27) := ⟨⟨by decide +kernel, by decide +kernel⟩, List.mem_of_getElem? (i := 860) (by decide +kernel), List.mem_of_getElem? (i := 1182) (by decide +kernel), List.mem_of_getElem? (i := 1183) (by decide +kernel)⟩
theorem lw_p76 : lw_okq (⟨"MeetingGroupsModel", "majority", "()Z"⟩, 27) := ⟨⟨by decide +kernel, by decide +kernel⟩, List.mem_of_getElem? (i := 860) (by decide +kernel), List.mem_of_getElem? (i := 1186) (by decide +kernel), List.mem_of_getElem? (i := 1187) (by decide +kernel)⟩
theorem lw_p77 : lw_okq (⟨"MeetingGroupsModel", "figure", "(II)I"⟩, 27) := ⟨⟨by decide +kernel, by decide +kernel⟩, List.mem_of_getElem? (i := 860) (by decide +kernel), List.mem_of_getElem? (i := 1190) (by decide +kernel), List.mem_of_getElem? (i := 1191) (by decide +kernel)⟩
theorem lw_p78 : lw_okq (⟨"MeetingGroupsModel", "gets", "(I)V"⟩, 27) := ⟨⟨by decide +kernel, by decide +kernel⟩, List.mem_of_getElem? (i := 860) (by decide +kernel), List.mem_of_getElem? (i := 1194) (by decide +kernel), List.mem_of_getElem? (i := 1195) (by decide +kernel)⟩
theorem lw_p79 : lw_okq (⟨"MeetingGroupsModel", "grid", "()Z"⟩, 27) := ⟨⟨by decide +kernel, by decide +kernel⟩, List.mem_of_getElem? (i := 860) (by decide +kernel), List.mem_of_getElem? (i := 1198) (by decide +kernel), List.mem_of_getElem? (i := 1199) (by decide +kernel)⟩
def lw_privs_5 : List (MethodName × Nat) := [(⟨"MeetingGroupsModel", "why", "(IIII)I"⟩, 27), (⟨"MeetingGroupsModel", "notes", "()V"⟩, 27), (⟨"MeetingGroupsModel", "drops", "(I)V"⟩, 27), (⟨"MeetingGroupsModel", "isFree", "(I)Z"⟩, 27), (⟨"MeetingGroupsModel", "probesOf", "(I)V"⟩, 27), (⟨"MeetingGroupsModel", "those", "(II)I"⟩, 27), (⟨"MeetingGroupsModel", "find", "(I)I"⟩, 27), (⟨"MeetingGroupsModel", "comes", "(I)V"⟩, 27), (⟨"MeetingGroupsModel", "goes", "(I)V"⟩, 27), (⟨"MeetingGroupsModel", "isText", "()Z"⟩, 27), (⟨"MeetingGroupsModel", "here", "()I"⟩, 27), (⟨"MeetingGroupsModel", "isName", "(IIIIII)Z"⟩, 27), (⟨"MeetingGroupsModel", "majority", "()Z"⟩, 27), (⟨"MeetingGroupsModel", "figure", "(II)I"⟩, 27), (⟨"MeetingGroupsModel", "gets", "(I)V"⟩, 27), (⟨"MeetingGroupsModel", "grid", "()Z"⟩, 27)]
theorem lw_r5 : ∀ q ∈ lw_privs_5, lw_okq q := List.forall_mem_cons.mpr ⟨lw_p64, List.forall_mem_cons.mpr ⟨lw_p65, List.forall_mem_cons.mpr ⟨lw_p66, List.forall_mem_cons.mpr ⟨lw_p67, List.forall_mem_cons.mpr ⟨lw_p68, List.forall_mem_cons.mpr ⟨lw_p69, List.forall_mem_cons.mpr ⟨lw_p70, List.forall_mem_cons.mpr ⟨lw_p71, List.forall_mem_cons.mpr ⟨lw_p72, List.forall_mem_cons.mpr ⟨lw_p73, List.forall_mem_cons.mpr ⟨lw_p74, List.forall_mem_cons.mpr ⟨lw_p75, List.forall_mem_cons.mpr ⟨lw_p76, List.forall_mem_cons.mpr ⟨lw_p77, List.forall_mem_cons.mpr ⟨lw_p78, List.forall_mem_cons.mpr ⟨lw_p79, fun _ h => absurd h List.not_mem_nil⟩⟩⟩⟩⟩⟩⟩⟩⟩⟩⟩⟩⟩⟩⟩⟩
theorem lw_p80 : lw_okq (⟨"MeetingGroupsModel", "isGot", "(I)Z"⟩, 27) := ⟨⟨by decide +kernel, by decide +kernel⟩, List.mem_of_getElem? (i := 860) (by decide +kernel), List.mem_of_getElem? (i := 1202) (by decide +kernel), List.mem_of_getElem? (i := 1203) (by decide +kernel)⟩
theorem lw_p81 : lw_okq (⟨"MeetingGroupsModel", "wall", "()Z"⟩, 27) := ⟨⟨by decide +kernel, by decide +kernel⟩, List.mem_of_getElem? (i := 860) (by decide +kernel), List.mem_of_getElem? (i := 1206) (by decide +kernel), List.mem_of_getElem? (i := 1207) (by decide +kernel)⟩
theorem lw_p82 : lw_okq (⟨"MeetingGroupsModel", "walls", "(II)V"⟩, 27) := ⟨⟨by decide +kernel, by decide +kernel⟩, List.mem_of_getElem? (i := 860) (by decide +kernel), List.mem_of_getElem? (i := 1210) (by decide +kernel), List.mem_of_getElem? (i := 1211) (by decide +kernel)⟩
theorem lw_p83 : lw_okq (⟨"MeetingGroupsModel", "plane", "()Z"⟩, 27) := ⟨⟨by decide +kernel, by decide +kernel⟩, List.mem_of_getElem? (i := 860) (by decide +kernel), List.mem_of_getElem? (i := 1214) (by decide +kernel), List.mem_of_getElem? (i := 1215) (by decide +kernel)⟩
theorem lw_p84 : lw_okq (⟨"MeetingGroupsModel", "told", "()Z"⟩, 27) := ⟨⟨by decide +kernel, by decide +kernel⟩, List.mem_of_getElem? (i := 860) (by decide +kernel), List.mem_of_getElem? (i := 1218) (by decide +kernel), List.mem_of_getElem? (i := 1219) (by decide +kernel)⟩
theorem lw_p85 : lw_okq (⟨"MeetingGroupsModel", "one", "()Z"⟩, 27) := ⟨⟨by decide +kernel, by decide +kernel⟩, List.mem_of_getElem? (i := 860) (by decide +kernel), List.mem_of_getElem? (i := 1222) (by decide +kernel), List.mem_of_getElem? (i := 1223) (by decide +kernel)⟩
theorem lw_p86 : lw_okq (⟨"MeetingGroupsModel", "ofTwo", "(III)Z"⟩, 27) := ⟨⟨by decide +kernel, by decide +kernel⟩, List.mem_of_getElem? (i := 860) (by decide +kernel), List.mem_of_getElem? (i := 1264) (by decide +kernel), List.mem_of_getElem? (i := 1265) (by decide +kernel)⟩
theorem lw_p87 : lw_okq (⟨"MeetingGroupsModel", "row", "(II)I"⟩, 27) := ⟨⟨by decide +kernel, by decide +kernel⟩, List.mem_of_getElem? (i := 860) (by decide +kernel), List.mem_of_getElem? (i := 1268) (by decide +kernel), List.mem_of_getElem? (i := 1269) (by decide +kernel)⟩
theorem lw_p88 : lw_okq (⟨"MeetingGroupsModel", "isEven", "(II)Z"⟩, 27) := ⟨⟨by decide +kernel, by decide +kernel⟩, List.mem_of_getElem? (i := 860) (by decide +kernel), List.mem_of_getElem? (i := 1272) (by decide +kernel), List.mem_of_getElem? (i := 1273) (by decide +kernel)⟩
theorem lw_p89 : lw_okq (⟨"MeetingGroupsModel", "isJust", "(II)Z"⟩, 27) := ⟨⟨by decide +kernel, by decide +kernel⟩, List.mem_of_getElem? (i := 860) (by decide +kernel), List.mem_of_getElem? (i := 1276) (by decide +kernel), List.mem_of_getElem? (i := 1277) (by decide +kernel)⟩
def lw_privs_6 : List (MethodName × Nat) := [(⟨"MeetingGroupsModel", "isGot", "(I)Z"⟩, 27), (⟨"MeetingGroupsModel", "wall", "()Z"⟩, 27), (⟨"MeetingGroupsModel", "walls", "(II)V"⟩, 27), (⟨"MeetingGroupsModel", "plane", "()Z"⟩, 27), (⟨"MeetingGroupsModel", "told", "()Z"⟩, 27), (⟨"MeetingGroupsModel", "one", "()Z"⟩, 27), (⟨"MeetingGroupsModel", "ofTwo", "(III)Z"⟩, 27), (⟨"MeetingGroupsModel", "row", "(II)I"⟩, 27), (⟨"MeetingGroupsModel", "isEven", "(II)Z"⟩, 27), (⟨"MeetingGroupsModel", "isJust", "(II)Z"⟩, 27)]
theorem lw_r6 : ∀ q ∈ lw_privs_6, lw_okq q := List.forall_mem_cons.mpr ⟨lw_p80, List.forall_mem_cons.mpr ⟨lw_p81, List.forall_mem_cons.mpr ⟨lw_p82, List.forall_mem_cons.mpr ⟨lw_p83, List.forall_mem_cons.mpr ⟨lw_p84, List.forall_mem_cons.mpr ⟨lw_p85, List.forall_mem_cons.mpr ⟨lw_p86, List.forall_mem_cons.mpr ⟨lw_p87, List.forall_mem_cons.mpr ⟨lw_p88, List.forall_mem_cons.mpr ⟨lw_p89, fun _ h => absurd h List.not_mem_nil⟩⟩⟩⟩⟩⟩⟩⟩⟩⟩
def lw_privs : List (MethodName × Nat) := lw_privs_1 ++ (lw_privs_2 ++ (lw_privs_3 ++ (lw_privs_4 ++ (lw_privs_5 ++ (lw_privs_6)))))
def lw_tbl : List Cond := k2_sels lw_privs ++ tables_1
theorem lw_privs_ok : ∀ q ∈ lw_privs, lw_okq q := by
  show ∀ q ∈ lw_privs_1 ++ (lw_privs_2 ++ (lw_privs_3 ++ (lw_privs_4 ++ (lw_privs_5 ++ (lw_privs_6))))), lw_okq q
  exact List.forall_mem_append.mpr ⟨lw_r1, List.forall_mem_append.mpr ⟨lw_r2, List.forall_mem_append.mpr ⟨lw_r3, List.forall_mem_append.mpr ⟨lw_r4, List.forall_mem_append.mpr ⟨lw_r5, lw_r6⟩⟩⟩⟩⟩
end
section
/-! ===== BEGIN printed: names, fields, word lists, decode rows ===== -/
def RX0 : String := "MeetingGroups$History"
def TX0 : u_T := fun k => match k with
  | 0 => ("MeetingGroups$History", "known", "I", false)
  | _ => ("MeetingGroups$History", "states", "[LMeetingGroups$State;", true)
def tyX0 : Nat → FieldType := fun k => match k with
  | 0 => .int
  | _ => .array (.object "MeetingGroups$State")
abbrev wsX00 : List Cond := u_ws RX0 TX0 2
theorem nmX0 : ∀ a, a < 2 → ∀ b, b < 2 → a ≠ b → (TX0 a).2.1 ≠ (TX0 b).2.1 := by decide +kernel
theorem tyX0_ok : ∀ k, k < 2 → parseFieldDescriptor (TX0 k).2.2.1 = some (tyX0 k) := by decide +kernel
abbrev cX0_init : ByteArray := prog_2_method_1_code
def yX0_init : MethodName := ⟨RX0, "<init>", "()V"⟩
abbrev cX0_note : ByteArray := prog_2_method_2_code
def yX0_note : MethodName := ⟨RX0, "note", "(LMeetingGroups$State;)V"⟩
abbrev cX0_loseOldest : ByteArray := prog_2_method_3_code
def yX0_loseOldest : MethodName := ⟨RX0, "loseOldest", "()V"⟩
abbrev cX0_takeBack : ByteArray := prog_2_method_4_code
def yX0_takeBack : MethodName := ⟨RX0, "takeBack", "(LMeetingGroups$State;)V"⟩
abbrev cX0_becomes : ByteArray := prog_2_method_5_code
def yX0_becomes : MethodName := ⟨RX0, "becomes", "(LMeetingGroups$History;)V"⟩
def RX1 : String := "MeetingGroups$Holding"
def TX1 : u_T := fun k => match k with
  | 0 => ("MeetingGroups$Holding", "all", "I", false)
  | _ => ("MeetingGroups$Holding", "holds", "[Z", true)
def tyX1 : Nat → FieldType := fun k => match k with
  | 0 => .int
  | _ => .array .boolean
abbrev wsX10 : List Cond := u_ws RX1 TX1 2
theorem nmX1 : ∀ a, a < 2 → ∀ b, b < 2 → a ≠ b → (TX1 a).2.1 ≠ (TX1 b).2.1 := by decide +kernel
theorem tyX1_ok : ∀ k, k < 2 → parseFieldDescriptor (TX1 k).2.2.1 = some (tyX1 k) := by decide +kernel
abbrev cX1_init : ByteArray := prog_3_method_1_code
def yX1_init : MethodName := ⟨RX1, "<init>", "()V"⟩
abbrev cX1_look : ByteArray := prog_3_method_2_code
def yX1_look : MethodName := ⟨RX1, "look", "(LMeetingGroups$State;)V"⟩
abbrev cX1_ofCount : ByteArray := prog_3_method_3_code
def yX1_ofCount : MethodName := ⟨RX1, "ofCount", "(I)I"⟩
abbrev cX1_turnedBy : ByteArray := prog_3_method_4_code
def yX1_turnedBy : MethodName := ⟨RX1, "turnedBy", "(I)I"⟩
abbrev cX1_faults : ByteArray := prog_3_method_5_code
def yX1_faults : MethodName := ⟨RX1, "faults", "()I"⟩
abbrev cX1_isFree : ByteArray := prog_3_method_6_code
def yX1_isFree : MethodName := ⟨RX1, "isFree", "(I)Z"⟩
abbrev cX1_freeSets : ByteArray := prog_3_method_7_code
def yX1_freeSets : MethodName := ⟨RX1, "freeSets", "()I"⟩
abbrev cX1_leastFree : ByteArray := prog_3_method_8_code
def yX1_leastFree : MethodName := ⟨RX1, "leastFree", "()I"⟩
def RX2 : String := "MeetingGroups$Packing"
def TX2 : u_T := fun k => match k with
  | 0 => ("MeetingGroups$Packing", "cells", "[[I", true)
  | 1 => ("MeetingGroups$Packing", "rowNames", "[I", true)
  | 2 => ("MeetingGroups$Packing", "columnNames", "[I", true)
  | 3 => ("MeetingGroups$Packing", "rows", "I", false)
  | 4 => ("MeetingGroups$Packing", "columns", "I", false)
  | _ => ("MeetingGroups$Packing", "scale", "I", false)
def tyX2 : Nat → FieldType := fun k => match k with
  | 0 => .array (.array .int)
  | 1 => .array .int
  | 2 => .array .int
  | 3 => .int
  | 4 => .int
  | _ => .int
abbrev wsX20 : List Cond := u_ws RX2 TX2 6
theorem nmX2 : ∀ a, a < 6 → ∀ b, b < 6 → a ≠ b → (TX2 a).2.1 ≠ (TX2 b).2.1 := by decide +kernel
theorem tyX2_ok : ∀ k, k < 6 → parseFieldDescriptor (TX2 k).2.2.1 = some (tyX2 k) := by decide +kernel
abbrev cX2_init : ByteArray := prog_4_method_1_code
def yX2_init : MethodName := ⟨RX2, "<init>", "()V"⟩
abbrev cX2_most : ByteArray := prog_4_method_2_code
def yX2_most : MethodName := ⟨RX2, "most", "()I"⟩
abbrev cX2_solve : ByteArray := prog_4_method_3_code
def yX2_solve : MethodName := ⟨RX2, "solve", "(LMeetingGroups$State;)V"⟩
abbrev cX2_begin : ByteArray := prog_4_method_4_code
def yX2_begin : MethodName := ⟨RX2, "begin", "(LMeetingGroups$State;)V"⟩
abbrev cX2_entering : ByteArray := prog_4_method_5_code
def yX2_entering : MethodName := ⟨RX2, "entering", "()I"⟩
abbrev cX2_leaving : ByteArray := prog_4_method_6_code
def yX2_leaving : MethodName := ⟨RX2, "leaving", "(I)I"⟩
abbrev cX2_isAhead : ByteArray := prog_4_method_7_code
def yX2_isAhead : MethodName := ⟨RX2, "isAhead", "(III)Z"⟩
abbrev cX2_pivot : ByteArray := prog_4_method_8_code
def yX2_pivot : MethodName := ⟨RX2, "pivot", "(II)V"⟩
abbrev cX2_clearBy : ByteArray := prog_4_method_9_code
def yX2_clearBy : MethodName := ⟨RX2, "clearBy", "(III)V"⟩
def RX3 : String := "MeetingGroups$Plans"
def TX3 : u_T := fun k => match k with
  | 0 => ("MeetingGroups$Plans", "kept", "I", false)
  | 1 => ("MeetingGroups$Plans", "names", "[I", true)
  | 2 => ("MeetingGroups$Plans", "sets", "[[I", true)
  | _ => ("MeetingGroups$Plans", "weights", "[[I", true)
def tyX3 : Nat → FieldType := fun k => match k with
  | 0 => .int
  | 1 => .array .int
  | 2 => .array (.array .int)
  | _ => .array (.array .int)
abbrev wsX30 : List Cond := u_ws RX3 TX3 4
theorem nmX3 : ∀ a, a < 4 → ∀ b, b < 4 → a ≠ b → (TX3 a).2.1 ≠ (TX3 b).2.1 := by decide +kernel
theorem tyX3_ok : ∀ k, k < 4 → parseFieldDescriptor (TX3 k).2.2.1 = some (tyX3 k) := by decide +kernel
abbrev cX3_init : ByteArray := prog_5_method_1_code
def yX3_init : MethodName := ⟨RX3, "<init>", "()V"⟩
abbrev cX3_becomeAll : ByteArray := prog_5_method_2_code
def yX3_becomeAll : MethodName := ⟨RX3, "becomeAll", "(LMeetingGroups$Plans;)V"⟩
abbrev cX3_moveIn : ByteArray := prog_5_method_3_code
def yX3_moveIn : MethodName := ⟨RX3, "moveIn", "(ILMeetingGroups$Plans;I)V"⟩
abbrev cX3_placeOf : ByteArray := prog_5_method_4_code
def yX3_placeOf : MethodName := ⟨RX3, "placeOf", "(I)I"⟩
abbrev cX3_become : ByteArray := prog_5_method_5_code
def yX3_become : MethodName := ⟨RX3, "become", "(ILMeetingGroups$State;LMeetingGroups$Row;)V"⟩
abbrev cX3_lose : ByteArray := prog_5_method_6_code
def yX3_lose : MethodName := ⟨RX3, "lose", "(I)V"⟩
abbrev cX3_weightOn : ByteArray := prog_5_method_7_code
def yX3_weightOn : MethodName := ⟨RX3, "weightOn", "(ILMeetingGroups$State;I)I"⟩
abbrev cX3_greatestWeight : ByteArray := prog_5_method_8_code
def yX3_greatestWeight : MethodName := ⟨RX3, "greatestWeight", "(ILMeetingGroups$State;)I"⟩
def RX4 : String := "MeetingGroups$Probing"
def TX4 : u_T := fun k => match k with
  | 0 => ("MeetingGroups$Probing", "holding", "LMeetingGroups$Holding;", true)
  | 1 => ("MeetingGroups$Probing", "byThree", "[I", true)
  | 2 => ("MeetingGroups$Probing", "probes", "[B", true)
  | 3 => ("MeetingGroups$Probing", "well", "I", false)
  | _ => ("MeetingGroups$Probing", "failed", "I", false)
def tyX4 : Nat → FieldType := fun k => match k with
  | 0 => .object "MeetingGroups$Holding"
  | 1 => .array .int
  | 2 => .array .byte
  | 3 => .int
  | _ => .int
abbrev wsX40 : List Cond := u_ws RX4 TX4 5
theorem nmX4 : ∀ a, a < 5 → ∀ b, b < 5 → a ≠ b → (TX4 a).2.1 ≠ (TX4 b).2.1 := by decide +kernel
theorem tyX4_ok : ∀ k, k < 5 → parseFieldDescriptor (TX4 k).2.2.1 = some (tyX4 k) := by decide +kernel
abbrev cX4_init : ByteArray := prog_6_method_1_code
def yX4_init : MethodName := ⟨RX4, "<init>", "()V"⟩
abbrev cX4_play : ByteArray := prog_6_method_2_code
def yX4_play : MethodName := ⟨RX4, "play", "(LMeetingGroups$State;II)V"⟩
abbrev cX4_playLost : ByteArray := prog_6_method_3_code
def yX4_playLost : MethodName := ⟨RX4, "playLost", "(II)V"⟩
abbrev cX4_placeOf : ByteArray := prog_6_method_4_code
def yX4_placeOf : MethodName := ⟨RX4, "placeOf", "(II)I"⟩
abbrev cX4_openOf : ByteArray := prog_6_method_5_code
def yX4_openOf : MethodName := ⟨RX4, "openOf", "(II)I"⟩
abbrev cX4_isOver : ByteArray := prog_6_method_6_code
def yX4_isOver : MethodName := ⟨RX4, "isOver", "(II)Z"⟩
abbrev cX4_probesFrom : ByteArray := prog_6_method_7_code
def yX4_probesFrom : MethodName := ⟨RX4, "probesFrom", "(II)I"⟩
abbrev cX4_probesBy : ByteArray := prog_6_method_8_code
def yX4_probesBy : MethodName := ⟨RX4, "probesBy", "(III)I"⟩
abbrev cX4_worst : ByteArray := prog_6_method_9_code
def yX4_worst : MethodName := ⟨RX4, "worst", "()I"⟩
abbrev cX4_best : ByteArray := prog_6_method_10_code
def yX4_best : MethodName := ⟨RX4, "best", "()I"⟩
def RX5 : String := "MeetingGroups$Reader"
def TX5 : u_T := fun k => match k with
  | 0 => ("MeetingGroups$Reader", "n", "I", false)
  | 1 => ("MeetingGroups$Reader", "many", "I", false)
  | 2 => ("MeetingGroups$Reader", "groups", "[I", true)
  | 3 => ("MeetingGroups$Reader", "tape", "LMeetingGroups$Tape;", true)
  | 4 => ("MeetingGroups$Reader", "widths", "[I", true)
  | 5 => ("MeetingGroups$Reader", "wallRows", "I", false)
  | _ => ("MeetingGroups$Reader", "at", "I", false)
def tyX5 : Nat → FieldType := fun k => match k with
  | 0 => .int
  | 1 => .int
  | 2 => .array .int
  | 3 => .object "MeetingGroups$Tape"
  | 4 => .array .int
  | 5 => .int
  | _ => .int
abbrev wsX50 : List Cond := u_ws RX5 TX5 7
theorem nmX5 : ∀ a, a < 7 → ∀ b, b < 7 → a ≠ b → (TX5 a).2.1 ≠ (TX5 b).2.1 := by decide +kernel
theorem tyX5_ok : ∀ k, k < 7 → parseFieldDescriptor (TX5 k).2.2.1 = some (tyX5 k) := by decide +kernel
abbrev cX5_init : ByteArray := prog_7_method_1_code
def yX5_init : MethodName := ⟨RX5, "<init>", "()V"⟩
abbrev cX5_faultOfTape : ByteArray := prog_7_method_2_code
def yX5_faultOfTape : MethodName := ⟨RX5, "faultOfTape", "()I"⟩
abbrev cX5_faultUnless : ByteArray := prog_7_method_3_code
def yX5_faultUnless : MethodName := ⟨RX5, "faultUnless", "(Z)I"⟩
abbrev cX5_skipName : ByteArray := prog_7_method_4_code
def yX5_skipName : MethodName := ⟨RX5, "skipName", "()V"⟩
abbrev cX5_isName : ByteArray := prog_7_method_5_code
def yX5_isName : MethodName := ⟨RX5, "isName", "(Ljava/lang/String;II)Z"⟩
abbrev cX5_next : ByteArray := prog_7_method_6_code
def yX5_next : MethodName := ⟨RX5, "next", "()C"⟩
abbrev cX5_skips : ByteArray := prog_7_method_7_code
def yX5_skips : MethodName := ⟨RX5, "skips", "(C)Z"⟩
abbrev cX5_figure : ByteArray := prog_7_method_8_code
def yX5_figure : MethodName := ⟨RX5, "figure", "(I)I"⟩
abbrev cX5_ends : ByteArray := prog_7_method_9_code
def yX5_ends : MethodName := ⟨RX5, "ends", "()Z"⟩
abbrev cX5_isTold : ByteArray := prog_7_method_10_code
def yX5_isTold : MethodName := ⟨RX5, "isTold", "(I)Z"⟩
abbrev cX5_tell : ByteArray := prog_7_method_11_code
def yX5_tell : MethodName := ⟨RX5, "tell", "(I)V"⟩
abbrev cX5_majority : ByteArray := prog_7_method_12_code
def yX5_majority : MethodName := ⟨RX5, "majority", "()Z"⟩
abbrev cX5_grid : ByteArray := prog_7_method_13_code
def yX5_grid : MethodName := ⟨RX5, "grid", "()Z"⟩
abbrev cX5_wallRow : ByteArray := prog_7_method_14_code
def yX5_wallRow : MethodName := ⟨RX5, "wallRow", "(II)I"⟩
abbrev cX5_wall : ByteArray := prog_7_method_15_code
def yX5_wall : MethodName := ⟨RX5, "wall", "()Z"⟩
abbrev cX5_isWallTold : ByteArray := prog_7_method_16_code
def yX5_isWallTold : MethodName := ⟨RX5, "isWallTold", "()Z"⟩
abbrev cX5_waysBelow : ByteArray := prog_7_method_17_code
def yX5_waysBelow : MethodName := ⟨RX5, "waysBelow", "(I)I"⟩
abbrev cX5_chosenBelow : ByteArray := prog_7_method_18_code
def yX5_chosenBelow : MethodName := ⟨RX5, "chosenBelow", "(II)I"⟩
abbrev cX5_plane : ByteArray := prog_7_method_19_code
def yX5_plane : MethodName := ⟨RX5, "plane", "()Z"⟩
abbrev cX5_figures : ByteArray := prog_7_method_20_code
def yX5_figures : MethodName := ⟨RX5, "figures", "()Z"⟩
abbrev cX5_isGroupTold : ByteArray := prog_7_method_21_code
def yX5_isGroupTold : MethodName := ⟨RX5, "isGroupTold", "()Z"⟩
def RX6 : String := "MeetingGroups$Row"
def TX6 : u_T := fun k => match k with
  | 0 => ("MeetingGroups$Row", "numbers", "[I", true)
  | _ => ("MeetingGroups$Row", "many", "I", false)
def tyX6 : Nat → FieldType := fun k => match k with
  | 0 => .array .int
  | _ => .int
abbrev wsX60 : List Cond := u_ws RX6 TX6 2
theorem nmX6 : ∀ a, a < 2 → ∀ b, b < 2 → a ≠ b → (TX6 a).2.1 ≠ (TX6 b).2.1 := by decide +kernel
theorem tyX6_ok : ∀ k, k < 2 → parseFieldDescriptor (TX6 k).2.2.1 = some (tyX6 k) := by decide +kernel
abbrev cX6_init : ByteArray := prog_8_method_1_code
def yX6_init : MethodName := ⟨RX6, "<init>", "()V"⟩
abbrev cX6_takes : ByteArray := prog_8_method_2_code
def yX6_takes : MethodName := ⟨RX6, "takes", "(LMeetingGroups$Sheet;IIII)Z"⟩
abbrev cX6_nature : ByteArray := prog_8_method_3_code
def yX6_nature : MethodName := ⟨RX6, "nature", "(LMeetingGroups$State;)I"⟩
abbrev cX6_anyTwoMeet : ByteArray := prog_8_method_4_code
def yX6_anyTwoMeet : MethodName := ⟨RX6, "anyTwoMeet", "()Z"⟩
abbrev cX6_isNonePart : ByteArray := prog_8_method_5_code
def yX6_isNonePart : MethodName := ⟨RX6, "isNonePart", "()Z"⟩
abbrev cX6_isOneCount : ByteArray := prog_8_method_6_code
def yX6_isOneCount : MethodName := ⟨RX6, "isOneCount", "()Z"⟩
abbrev cX6_isEven : ByteArray := prog_8_method_7_code
def yX6_isEven : MethodName := ⟨RX6, "isEven", "(I)Z"⟩
abbrev cX6_timesOf : ByteArray := prog_8_method_8_code
def yX6_timesOf : MethodName := ⟨RX6, "timesOf", "(I)I"⟩
abbrev cX6_isJustGroups : ByteArray := prog_8_method_9_code
def yX6_isJustGroups : MethodName := ⟨RX6, "isJustGroups", "(LMeetingGroups$State;)Z"⟩
def RX7 : String := "MeetingGroups$Sheet"
def TX7 : u_T := fun k => match k with
  | 0 => ("MeetingGroups$Sheet", "there", "Z", false)
  | 1 => ("MeetingGroups$Sheet", "lane", "I", false)
  | 2 => ("MeetingGroups$Sheet", "length", "I", false)
  | _ => ("MeetingGroups$Sheet", "items", "[J", true)
def tyX7 : Nat → FieldType := fun k => match k with
  | 0 => .boolean
  | 1 => .int
  | 2 => .int
  | _ => .array .long
abbrev wsX70 : List Cond := u_ws RX7 TX7 4
theorem nmX7 : ∀ a, a < 4 → ∀ b, b < 4 → a ≠ b → (TX7 a).2.1 ≠ (TX7 b).2.1 := by decide +kernel
theorem tyX7_ok : ∀ k, k < 4 → parseFieldDescriptor (TX7 k).2.2.1 = some (tyX7 k) := by decide +kernel
abbrev cX7_init : ByteArray := prog_9_method_1_code
def yX7_init : MethodName := ⟨RX7, "<init>", "()V"⟩
abbrev cX7_begin : ByteArray := prog_9_method_2_code
def yX7_begin : MethodName := ⟨RX7, "begin", "(II)V"⟩
abbrev cX7_spans : ByteArray := prog_9_method_3_code
def yX7_spans : MethodName := ⟨RX7, "spans", "(II)Z"⟩
abbrev cX7_refusal : ByteArray := prog_9_method_4_code
def yX7_refusal : MethodName := ⟨RX7, "refusal", "(III)I"⟩
abbrev cX7_at : ByteArray := prog_9_method_5_code
def yX7_at : MethodName := ⟨RX7, "at", "(I)J"⟩
abbrev cX7_put : ByteArray := prog_9_method_6_code
def yX7_put : MethodName := ⟨RX7, "put", "(IJ)V"⟩
abbrev cX7_lowestBits : ByteArray := prog_9_method_7_code
def yX7_lowestBits : MethodName := ⟨RX7, "lowestBits", "(J)J"⟩
def RX8 : String := "MeetingGroups$State"
def TX8 : u_T := fun k => match k with
  | 0 => ("MeetingGroups$State", "n", "I", false)
  | 1 => ("MeetingGroups$State", "many", "I", false)
  | 2 => ("MeetingGroups$State", "groups", "[I", true)
  | 3 => ("MeetingGroups$State", "draw", "I", false)
  | _ => ("MeetingGroups$State", "plans", "LMeetingGroups$Plans;", true)
def tyX8 : Nat → FieldType := fun k => match k with
  | 0 => .int
  | 1 => .int
  | 2 => .array .int
  | 3 => .int
  | _ => .object "MeetingGroups$Plans"
abbrev wsX80 : List Cond := u_ws RX8 TX8 5
theorem nmX8 : ∀ a, a < 5 → ∀ b, b < 5 → a ≠ b → (TX8 a).2.1 ≠ (TX8 b).2.1 := by decide +kernel
theorem tyX8_ok : ∀ k, k < 5 → parseFieldDescriptor (TX8 k).2.2.1 = some (tyX8 k) := by decide +kernel
abbrev cX8_init : ByteArray := prog_10_method_1_code
def yX8_init : MethodName := ⟨RX8, "<init>", "()V"⟩
abbrev cX8_becomes : ByteArray := prog_10_method_2_code
def yX8_becomes : MethodName := ⟨RX8, "becomes", "(LMeetingGroups$State;)V"⟩
abbrev cX8_becomesTold : ByteArray := prog_10_method_3_code
def yX8_becomesTold : MethodName := ⟨RX8, "becomesTold", "(LMeetingGroups$Reader;)V"⟩
abbrev cX8_all : ByteArray := prog_10_method_4_code
def yX8_all : MethodName := ⟨RX8, "all", "()I"⟩
abbrev cX8_isPart : ByteArray := prog_10_method_5_code
def yX8_isPart : MethodName := ⟨RX8, "isPart", "(I)Z"⟩
abbrev cX8_isSet : ByteArray := prog_10_method_6_code
def yX8_isSet : MethodName := ⟨RX8, "isSet", "(I)Z"⟩
abbrev cX8_hasBeyond : ByteArray := prog_10_method_7_code
def yX8_hasBeyond : MethodName := ⟨RX8, "hasBeyond", "(I)Z"⟩
abbrev cX8_placeOf : ByteArray := prog_10_method_8_code
def yX8_placeOf : MethodName := ⟨RX8, "placeOf", "(I)I"⟩
abbrev cX8_append : ByteArray := prog_10_method_9_code
def yX8_append : MethodName := ⟨RX8, "append", "(I)V"⟩
abbrev cX8_removeAt : ByteArray := prog_10_method_10_code
def yX8_removeAt : MethodName := ⟨RX8, "removeAt", "(I)V"⟩
abbrev cX8_drawTurn : ByteArray := prog_10_method_11_code
def yX8_drawTurn : MethodName := ⟨RX8, "drawTurn", "()V"⟩
abbrev cX8_holdsGroup : ByteArray := prog_10_method_12_code
def yX8_holdsGroup : MethodName := ⟨RX8, "holdsGroup", "(I)Z"⟩
abbrev cX8_isSuperfluous : ByteArray := prog_10_method_13_code
def yX8_isSuperfluous : MethodName := ⟨RX8, "isSuperfluous", "(I)Z"⟩
abbrev cX8_leastCommonOf : ByteArray := prog_10_method_14_code
def yX8_leastCommonOf : MethodName := ⟨RX8, "leastCommonOf", "(I)I"⟩
abbrev cX8_groupsWith : ByteArray := prog_10_method_15_code
def yX8_groupsWith : MethodName := ⟨RX8, "groupsWith", "(I)I"⟩
abbrev cX8_common : ByteArray := prog_10_method_16_code
def yX8_common : MethodName := ⟨RX8, "common", "()I"⟩
def RX9 : String := "MeetingGroups$Tape"
def TX9 : u_T := fun k => match k with
  | 0 => ("MeetingGroups$Tape", "length", "I", false)
  | _ => ("MeetingGroups$Tape", "letters", "[C", true)
def tyX9 : Nat → FieldType := fun k => match k with
  | 0 => .int
  | _ => .array .char
abbrev wsX90 : List Cond := u_ws RX9 TX9 2
theorem nmX9 : ∀ a, a < 2 → ∀ b, b < 2 → a ≠ b → (TX9 a).2.1 ≠ (TX9 b).2.1 := by decide +kernel
theorem tyX9_ok : ∀ k, k < 2 → parseFieldDescriptor (TX9 k).2.2.1 = some (tyX9 k) := by decide +kernel
abbrev cX9_init : ByteArray := prog_11_method_1_code
def yX9_init : MethodName := ⟨RX9, "<init>", "()V"⟩
abbrev cX9_append : ByteArray := prog_11_method_2_code
def yX9_append : MethodName := ⟨RX9, "append", "(I)V"⟩
abbrev cX9_at : ByteArray := prog_11_method_3_code
def yX9_at : MethodName := ⟨RX9, "at", "(I)C"⟩
def RX10 : String := "MeetingGroups"
def TX10 : u_T := fun k => match k with
  | 0 => ("MeetingGroups", "now", "LMeetingGroups$State;", true)
  | 1 => ("MeetingGroups", "past", "LMeetingGroups$History;", true)
  | 2 => ("MeetingGroups", "imageNow", "LMeetingGroups$State;", true)
  | 3 => ("MeetingGroups", "imagePast", "LMeetingGroups$History;", true)
  | 4 => ("MeetingGroups", "imaged", "Z", false)
  | 5 => ("MeetingGroups", "reader", "LMeetingGroups$Reader;", true)
  | 6 => ("MeetingGroups", "holding", "LMeetingGroups$Holding;", true)
  | 7 => ("MeetingGroups", "probing", "LMeetingGroups$Probing;", true)
  | 8 => ("MeetingGroups", "packing", "LMeetingGroups$Packing;", true)
  | 9 => ("MeetingGroups", "row", "LMeetingGroups$Row;", true)
  | _ => ("MeetingGroups", "sheets", "[LMeetingGroups$Sheet;", true)
def tyX10 : Nat → FieldType := fun k => match k with
  | 0 => .object "MeetingGroups$State"
  | 1 => .object "MeetingGroups$History"
  | 2 => .object "MeetingGroups$State"
  | 3 => .object "MeetingGroups$History"
  | 4 => .boolean
  | 5 => .object "MeetingGroups$Reader"
  | 6 => .object "MeetingGroups$Holding"
  | 7 => .object "MeetingGroups$Probing"
  | 8 => .object "MeetingGroups$Packing"
  | 9 => .object "MeetingGroups$Row"
  | _ => .array (.object "MeetingGroups$Sheet")
abbrev wsX100 : List Cond := u_ws RX10 TX10 11
theorem nmX10 : ∀ a, a < 11 → ∀ b, b < 11 → a ≠ b → (TX10 a).2.1 ≠ (TX10 b).2.1 := by decide +kernel
theorem tyX10_ok : ∀ k, k < 11 → parseFieldDescriptor (TX10 k).2.2.1 = some (tyX10 k) := by decide +kernel
abbrev cX10_init : ByteArray := prog_1_method_1_code
def yX10_init : MethodName := ⟨RX10, "<init>", "()V"⟩
abbrev cX10_group : ByteArray := prog_1_method_2_code
def yX10_group : MethodName := ⟨RX10, "group", "(II)I"⟩
abbrev cX10_element : ByteArray := prog_1_method_3_code
def yX10_element : MethodName := ⟨RX10, "element", "(II)I"⟩
abbrev cX10_count : ByteArray := prog_1_method_4_code
def yX10_count : MethodName := ⟨RX10, "count", "(I)I"⟩
abbrev cX10_load : ByteArray := prog_1_method_5_code
def yX10_load : MethodName := ⟨RX10, "load", "(I)I"⟩
abbrev cX10_plan : ByteArray := prog_1_method_6_code
def yX10_plan : MethodName := ⟨RX10, "plan", "(II)I"⟩
abbrev cX10_standing : ByteArray := prog_1_method_7_code
def yX10_standing : MethodName := ⟨RX10, "standing", "(I)I"⟩
abbrev cX10_stands : ByteArray := prog_1_method_8_code
def yX10_stands : MethodName := ⟨RX10, "stands", "(II)I"⟩
abbrev cX10_free : ByteArray := prog_1_method_9_code
def yX10_free : MethodName := ⟨RX10, "free", "(I)I"⟩
abbrev cX10_probe : ByteArray := prog_1_method_10_code
def yX10_probe : MethodName := ⟨RX10, "probe", "(III)I"⟩
abbrev cX10_add : ByteArray := prog_1_method_11_code
def yX10_add : MethodName := ⟨RX10, "add", "(I)I"⟩
abbrev cX10_out : ByteArray := prog_1_method_12_code
def yX10_out : MethodName := ⟨RX10, "out", "(I)I"⟩
abbrev cX10_size : ByteArray := prog_1_method_13_code
def yX10_size : MethodName := ⟨RX10, "size", "(I)I"⟩
abbrev cX10_type : ByteArray := prog_1_method_14_code
def yX10_type : MethodName := ⟨RX10, "type", "(I)I"⟩
abbrev cX10_read : ByteArray := prog_1_method_15_code
def yX10_read : MethodName := ⟨RX10, "read", "()I"⟩
abbrev cX10_drift : ByteArray := prog_1_method_16_code
def yX10_drift : MethodName := ⟨RX10, "drift", "(I)I"⟩
abbrev cX10_undo : ByteArray := prog_1_method_17_code
def yX10_undo : MethodName := ⟨RX10, "undo", "()I"⟩
abbrev cX10_seed : ByteArray := prog_1_method_18_code
def yX10_seed : MethodName := ⟨RX10, "seed", "(I)I"⟩
abbrev cX10_image : ByteArray := prog_1_method_19_code
def yX10_image : MethodName := ⟨RX10, "image", "()I"⟩
abbrev cX10_restore : ByteArray := prog_1_method_20_code
def yX10_restore : MethodName := ⟨RX10, "restore", "()I"⟩
abbrev cX10_keep : ByteArray := prog_1_method_21_code
def yX10_keep : MethodName := ⟨RX10, "keep", "(IIII)I"⟩
abbrev cX10_what : ByteArray := prog_1_method_22_code
def yX10_what : MethodName := ⟨RX10, "what", "(IIII)I"⟩
abbrev cX10_film : ByteArray := prog_1_method_23_code
def yX10_film : MethodName := ⟨RX10, "film", "(III)I"⟩
abbrev cX10_sheet : ByteArray := prog_1_method_24_code
def yX10_sheet : MethodName := ⟨RX10, "sheet", "(III)I"⟩
abbrev cX10_drop : ByteArray := prog_1_method_25_code
def yX10_drop : MethodName := ⟨RX10, "drop", "(I)I"⟩
abbrev cX10_item : ByteArray := prog_1_method_26_code
def yX10_item : MethodName := ⟨RX10, "item", "(IIIJ)I"⟩
abbrev cX10_copy : ByteArray := prog_1_method_27_code
def yX10_copy : MethodName := ⟨RX10, "copy", "(IIIII)I"⟩
abbrev cX10_isSheet : ByteArray := prog_1_method_28_code
def yX10_isSheet : MethodName := ⟨RX10, "isSheet", "(I)Z"⟩
abbrev cX10_isLane : ByteArray := prog_1_method_29_code
def yX10_isLane : MethodName := ⟨RX10, "isLane", "(I)Z"⟩
abbrev cX10_oneIf : ByteArray := prog_1_method_30_code
def yX10_oneIf : MethodName := ⟨RX10, "oneIf", "(Z)I"⟩
abbrev cX10_strength : ByteArray := prog_1_method_31_code
def yX10_strength : MethodName := ⟨RX10, "strength", "(I)I"⟩
abbrev cX10_power : ByteArray := prog_1_method_32_code
def yX10_power : MethodName := ⟨RX10, "power", "(II)I"⟩
abbrev cX10_ofFraction : ByteArray := prog_1_method_33_code
def yX10_ofFraction : MethodName := ⟨RX10, "ofFraction", "(III)I"⟩
abbrev cX10_commonDivisor : ByteArray := prog_1_method_34_code
def yX10_commonDivisor : MethodName := ⟨RX10, "commonDivisor", "(II)I"⟩
def RX11 : String := "MeetingGroupsModel"
def TX11 : u_T := fun k => match k with
  | 0 => ("MeetingGroupsModel", "now", "[I", true)
  | 1 => ("MeetingGroupsModel", "above", "I", false)
  | 2 => ("MeetingGroupsModel", "below", "I", false)
  | 3 => ("MeetingGroupsModel", "cells", "[I", true)
  | 4 => ("MeetingGroupsModel", "mine", "[I", true)
  | 5 => ("MeetingGroupsModel", "members", "[I", true)
  | 6 => ("MeetingGroupsModel", "elements", "[I", true)
  | 7 => ("MeetingGroupsModel", "weights", "[I", true)
  | 8 => ("MeetingGroupsModel", "probes", "[I", true)
  | 9 => ("MeetingGroupsModel", "nexts", "[I", true)
  | 10 => ("MeetingGroupsModel", "tape", "[I", true)
  | 11 => ("MeetingGroupsModel", "taped", "I", false)
  | 12 => ("MeetingGroupsModel", "place", "I", false)
  | 13 => ("MeetingGroupsModel", "gotSize", "I", false)
  | 14 => ("MeetingGroupsModel", "gotMany", "I", false)
  | 15 => ("MeetingGroupsModel", "got", "[I", true)
  | 16 => ("MeetingGroupsModel", "tooMany", "Z", false)
  | 17 => ("MeetingGroupsModel", "widths", "[I", true)
  | 18 => ("MeetingGroupsModel", "ahead", "[I", true)
  | 19 => ("MeetingGroupsModel", "undos", "I", false)
  | 20 => ("MeetingGroupsModel", "kept", "[I", true)
  | 21 => ("MeetingGroupsModel", "keptAhead", "[I", true)
  | 22 => ("MeetingGroupsModel", "keptUndos", "I", false)
  | 23 => ("MeetingGroupsModel", "lanes", "[I", true)
  | 24 => ("MeetingGroupsModel", "sizes", "[I", true)
  | 25 => ("MeetingGroupsModel", "items", "[J", true)
  | _ => ("MeetingGroupsModel", "moved", "[J", true)
def tyX11 : Nat → FieldType := fun k => match k with
  | 0 => .array .int
  | 1 => .int
  | 2 => .int
  | 3 => .array .int
  | 4 => .array .int
  | 5 => .array .int
  | 6 => .array .int
  | 7 => .array .int
  | 8 => .array .int
  | 9 => .array .int
  | 10 => .array .int
  | 11 => .int
  | 12 => .int
  | 13 => .int
  | 14 => .int
  | 15 => .array .int
  | 16 => .boolean
  | 17 => .array .int
  | 18 => .array .int
  | 19 => .int
  | 20 => .array .int
  | 21 => .array .int
  | 22 => .int
  | 23 => .array .int
  | 24 => .array .int
  | 25 => .array .long
  | _ => .array .long
abbrev wsX110 : List Cond := u_ws RX11 TX11 27
theorem nmX11 : ∀ a, a < 27 → ∀ b, b < 27 → a ≠ b → (TX11 a).2.1 ≠ (TX11 b).2.1 := by decide +kernel
theorem tyX11_ok : ∀ k, k < 27 → parseFieldDescriptor (TX11 k).2.2.1 = some (tyX11 k) := by decide +kernel
abbrev cX11_in : ByteArray := prog_13_method_2_code
def yX11_in : MethodName := ⟨RX11, "in", "(JJJ)Z"⟩
abbrev cX11_init : ByteArray := prog_13_method_3_code
def yX11_init : MethodName := ⟨RX11, "<init>", "()V"⟩
abbrev cX11_has : ByteArray := prog_13_method_4_code
def yX11_has : MethodName := ⟨RX11, "has", "(II)Z"⟩
abbrev cX11_bits : ByteArray := prog_13_method_5_code
def yX11_bits : MethodName := ⟨RX11, "bits", "(I)I"⟩
abbrev cX11_all : ByteArray := prog_13_method_6_code
def yX11_all : MethodName := ⟨RX11, "all", "()I"⟩
abbrev cX11_at : ByteArray := prog_13_method_7_code
def yX11_at : MethodName := ⟨RX11, "at", "(I)I"⟩
abbrev cX11_find : ByteArray := prog_13_method_8_code
def yX11_find : MethodName := ⟨RX11, "find", "(I)I"⟩
abbrev cX11_holds : ByteArray := prog_13_method_9_code
def yX11_holds : MethodName := ⟨RX11, "holds", "(I)Z"⟩
abbrev cX11_isMore : ByteArray := prog_13_method_10_code
def yX11_isMore : MethodName := ⟨RX11, "isMore", "(I)Z"⟩
abbrev cX11_leastWith : ByteArray := prog_13_method_11_code
def yX11_leastWith : MethodName := ⟨RX11, "leastWith", "(I)I"⟩
abbrev cX11_group : ByteArray := prog_13_method_12_code
def yX11_group : MethodName := ⟨RX11, "group", "(II)I"⟩
abbrev cX11_turns : ByteArray := prog_13_method_13_code
def yX11_turns : MethodName := ⟨RX11, "turns", "(I)I"⟩
abbrev cX11_element : ByteArray := prog_13_method_14_code
def yX11_element : MethodName := ⟨RX11, "element", "(II)I"⟩
abbrev cX11_common : ByteArray := prog_13_method_15_code
def yX11_common : MethodName := ⟨RX11, "common", "()I"⟩
abbrev cX11_faults : ByteArray := prog_13_method_16_code
def yX11_faults : MethodName := ⟨RX11, "faults", "()I"⟩
abbrev cX11_liars : ByteArray := prog_13_method_17_code
def yX11_liars : MethodName := ⟨RX11, "liars", "(I)I"⟩
abbrev cX11_count : ByteArray := prog_13_method_18_code
def yX11_count : MethodName := ⟨RX11, "count", "(I)I"⟩
abbrev cX11_reduces : ByteArray := prog_13_method_19_code
def yX11_reduces : MethodName := ⟨RX11, "reduces", "(II)V"⟩
abbrev cX11_nth : ByteArray := prog_13_method_20_code
def yX11_nth : MethodName := ⟨RX11, "nth", "(II)I"⟩
abbrev cX11_squares : ByteArray := prog_13_method_21_code
def yX11_squares : MethodName := ⟨RX11, "squares", "(IZ)V"⟩
abbrev cX11_swaps : ByteArray := prog_13_method_22_code
def yX11_swaps : MethodName := ⟨RX11, "swaps", "(II)V"⟩
abbrev cX11_solves : ByteArray := prog_13_method_23_code
def yX11_solves : MethodName := ⟨RX11, "solves", "(I)I"⟩
abbrev cX11_takes : ByteArray := prog_13_method_24_code
def yX11_takes : MethodName := ⟨RX11, "takes", "(IIZ)Z"⟩
abbrev cX11_clears : ByteArray := prog_13_method_25_code
def yX11_clears : MethodName := ⟨RX11, "clears", "()V"⟩
abbrev cX11_bears : ByteArray := prog_13_method_26_code
def yX11_bears : MethodName := ⟨RX11, "bears", "(I)Z"⟩
abbrev cX11_loadOf : ByteArray := prog_13_method_27_code
def yX11_loadOf : MethodName := ⟨RX11, "loadOf", "(I)I"⟩
abbrev cX11_evens : ByteArray := prog_13_method_28_code
def yX11_evens : MethodName := ⟨RX11, "evens", "(II)Z"⟩
abbrev cX11_slim : ByteArray := prog_13_method_29_code
def yX11_slim : MethodName := ⟨RX11, "slim", "()I"⟩
abbrev cX11_loads : ByteArray := prog_13_method_30_code
def yX11_loads : MethodName := ⟨RX11, "loads", "()V"⟩
abbrev cX11_load : ByteArray := prog_13_method_31_code
def yX11_load : MethodName := ⟨RX11, "load", "(I)I"⟩
abbrev cX11_planAt : ByteArray := prog_13_method_32_code
def yX11_planAt : MethodName := ⟨RX11, "planAt", "(I)I"⟩
abbrev cX11_weighs : ByteArray := prog_13_method_33_code
def yX11_weighs : MethodName := ⟨RX11, "weighs", "(I)I"⟩
abbrev cX11_plan : ByteArray := prog_13_method_34_code
def yX11_plan : MethodName := ⟨RX11, "plan", "(II)I"⟩
abbrev cX11_drops : ByteArray := prog_13_method_35_code
def yX11_drops : MethodName := ⟨RX11, "drops", "(I)V"⟩
abbrev cX11_keep : ByteArray := prog_13_method_36_code
def yX11_keep : MethodName := ⟨RX11, "keep", "(IIII)I"⟩
abbrev cX11_standing : ByteArray := prog_13_method_37_code
def yX11_standing : MethodName := ⟨RX11, "standing", "(I)I"⟩
abbrev cX11_stands : ByteArray := prog_13_method_38_code
def yX11_stands : MethodName := ⟨RX11, "stands", "(II)I"⟩
abbrev cX11_isFree : ByteArray := prog_13_method_39_code
def yX11_isFree : MethodName := ⟨RX11, "isFree", "(I)Z"⟩
abbrev cX11_free : ByteArray := prog_13_method_40_code
def yX11_free : MethodName := ⟨RX11, "free", "(I)I"⟩
abbrev cX11_power : ByteArray := prog_13_method_41_code
def yX11_power : MethodName := ⟨RX11, "power", "(I)I"⟩
abbrev cX11_digit : ByteArray := prog_13_method_42_code
def yX11_digit : MethodName := ⟨RX11, "digit", "(II)I"⟩
abbrev cX11_those : ByteArray := prog_13_method_43_code
def yX11_those : MethodName := ⟨RX11, "those", "(II)I"⟩
abbrev cX11_probesOf : ByteArray := prog_13_method_44_code
def yX11_probesOf : MethodName := ⟨RX11, "probesOf", "(I)V"⟩
abbrev cX11_probe : ByteArray := prog_13_method_45_code
def yX11_probe : MethodName := ⟨RX11, "probe", "(III)I"⟩
abbrev cX11_add : ByteArray := prog_13_method_46_code
def yX11_add : MethodName := ⟨RX11, "add", "(I)I"⟩
abbrev cX11_comes : ByteArray := prog_13_method_47_code
def yX11_comes : MethodName := ⟨RX11, "comes", "(I)V"⟩
abbrev cX11_goes : ByteArray := prog_13_method_48_code
def yX11_goes : MethodName := ⟨RX11, "goes", "(I)V"⟩
abbrev cX11_out : ByteArray := prog_13_method_49_code
def yX11_out : MethodName := ⟨RX11, "out", "(I)I"⟩
abbrev cX11_size : ByteArray := prog_13_method_50_code
def yX11_size : MethodName := ⟨RX11, "size", "(I)I"⟩
abbrev cX11_drift : ByteArray := prog_13_method_51_code
def yX11_drift : MethodName := ⟨RX11, "drift", "(I)I"⟩
abbrev cX11_seed : ByteArray := prog_13_method_52_code
def yX11_seed : MethodName := ⟨RX11, "seed", "(I)I"⟩
abbrev cX11_type : ByteArray := prog_13_method_53_code
def yX11_type : MethodName := ⟨RX11, "type", "(I)I"⟩
abbrev cX11_here : ByteArray := prog_13_method_54_code
def yX11_here : MethodName := ⟨RX11, "here", "()I"⟩
abbrev cX11_figure : ByteArray := prog_13_method_55_code
def yX11_figure : MethodName := ⟨RX11, "figure", "(II)I"⟩
abbrev cX11_gets : ByteArray := prog_13_method_56_code
def yX11_gets : MethodName := ⟨RX11, "gets", "(I)V"⟩
abbrev cX11_isGot : ByteArray := prog_13_method_57_code
def yX11_isGot : MethodName := ⟨RX11, "isGot", "(I)Z"⟩
abbrev cX11_majority : ByteArray := prog_13_method_58_code
def yX11_majority : MethodName := ⟨RX11, "majority", "()Z"⟩
abbrev cX11_grid : ByteArray := prog_13_method_59_code
def yX11_grid : MethodName := ⟨RX11, "grid", "()Z"⟩
abbrev cX11_wall : ByteArray := prog_13_method_60_code
def yX11_wall : MethodName := ⟨RX11, "wall", "()Z"⟩
abbrev cX11_walls : ByteArray := prog_13_method_61_code
def yX11_walls : MethodName := ⟨RX11, "walls", "(II)V"⟩
abbrev cX11_plane : ByteArray := prog_13_method_62_code
def yX11_plane : MethodName := ⟨RX11, "plane", "()Z"⟩
abbrev cX11_told : ByteArray := prog_13_method_63_code
def yX11_told : MethodName := ⟨RX11, "told", "()Z"⟩
abbrev cX11_one : ByteArray := prog_13_method_64_code
def yX11_one : MethodName := ⟨RX11, "one", "()Z"⟩
abbrev cX11_isName : ByteArray := prog_13_method_65_code
def yX11_isName : MethodName := ⟨RX11, "isName", "(IIIIII)Z"⟩
abbrev cX11_isText : ByteArray := prog_13_method_66_code
def yX11_isText : MethodName := ⟨RX11, "isText", "()Z"⟩
abbrev cX11_read : ByteArray := prog_13_method_67_code
def yX11_read : MethodName := ⟨RX11, "read", "()I"⟩
abbrev cX11_notes : ByteArray := prog_13_method_68_code
def yX11_notes : MethodName := ⟨RX11, "notes", "()V"⟩
abbrev cX11_undo : ByteArray := prog_13_method_69_code
def yX11_undo : MethodName := ⟨RX11, "undo", "()I"⟩
abbrev cX11_image : ByteArray := prog_13_method_70_code
def yX11_image : MethodName := ⟨RX11, "image", "()I"⟩
abbrev cX11_restore : ByteArray := prog_13_method_71_code
def yX11_restore : MethodName := ⟨RX11, "restore", "()I"⟩
abbrev cX11_isSheet : ByteArray := prog_13_method_72_code
def yX11_isSheet : MethodName := ⟨RX11, "isSheet", "(I)Z"⟩
abbrev cX11_cut : ByteArray := prog_13_method_73_code
def yX11_cut : MethodName := ⟨RX11, "cut", "(JI)J"⟩
abbrev cX11_sheet : ByteArray := prog_13_method_74_code
def yX11_sheet : MethodName := ⟨RX11, "sheet", "(III)I"⟩
abbrev cX11_drop : ByteArray := prog_13_method_75_code
def yX11_drop : MethodName := ⟨RX11, "drop", "(I)I"⟩
abbrev cX11_why : ByteArray := prog_13_method_76_code
def yX11_why : MethodName := ⟨RX11, "why", "(IIII)I"⟩
abbrev cX11_item : ByteArray := prog_13_method_77_code
def yX11_item : MethodName := ⟨RX11, "item", "(IIIJ)I"⟩
abbrev cX11_copy : ByteArray := prog_13_method_78_code
def yX11_copy : MethodName := ⟨RX11, "copy", "(IIIII)I"⟩
abbrev cX11_row : ByteArray := prog_13_method_79_code
def yX11_row : MethodName := ⟨RX11, "row", "(II)I"⟩
abbrev cX11_ofTwo : ByteArray := prog_13_method_80_code
def yX11_ofTwo : MethodName := ⟨RX11, "ofTwo", "(III)Z"⟩
abbrev cX11_isEven : ByteArray := prog_13_method_81_code
def yX11_isEven : MethodName := ⟨RX11, "isEven", "(II)Z"⟩
abbrev cX11_isJust : ByteArray := prog_13_method_82_code
def yX11_isJust : MethodName := ⟨RX11, "isJust", "(II)Z"⟩
abbrev cX11_what : ByteArray := prog_13_method_83_code
def yX11_what : MethodName := ⟨RX11, "what", "(IIII)I"⟩
abbrev cX11_film : ByteArray := prog_13_method_84_code
def yX11_film : MethodName := ⟨RX11, "film", "(III)I"⟩
def RJ6 : String := "java/lang/Integer"
def TJ6 : u_T := fun k => match k with
  | _ => ("", "", "", false)
def tyJ6 : Nat → FieldType := fun k => match k with
  | _ => .int
abbrev wsJ60 : List Cond := u_ws RJ6 TJ6 0
theorem nmJ6 : ∀ a, a < 0 → ∀ b, b < 0 → a ≠ b → (TJ6 a).2.1 ≠ (TJ6 b).2.1 := by decide +kernel
theorem tyJ6_ok : ∀ k, k < 0 → parseFieldDescriptor (TJ6 k).2.2.1 = some (tyJ6 k) := by decide +kernel
abbrev cJ6_bitCount_0f7a4 : ByteArray := prog_14_method_49_code
def yJ6_bitCount_0f7a4 : MethodName := ⟨RJ6, "bitCount", "(I)I"⟩
def RJ9 : String := "java/lang/Math"
def TJ9 : u_T := fun k => match k with
  | _ => ("", "", "", false)
def tyJ9 : Nat → FieldType := fun k => match k with
  | _ => .int
abbrev wsJ90 : List Cond := u_ws RJ9 TJ9 0
theorem nmJ9 : ∀ a, a < 0 → ∀ b, b < 0 → a ≠ b → (TJ9 a).2.1 ≠ (TJ9 b).2.1 := by decide +kernel
theorem tyJ9_ok : ∀ k, k < 0 → parseFieldDescriptor (TJ9 k).2.2.1 = some (tyJ9 k) := by decide +kernel
abbrev cJ9_max_7cf53 : ByteArray := prog_15_method_65_code
def yJ9_max_7cf53 : MethodName := ⟨RJ9, "max", "(II)I"⟩
abbrev cJ9_min_7cf53 : ByteArray := prog_15_method_69_code
def yJ9_min_7cf53 : MethodName := ⟨RJ9, "min", "(II)I"⟩
def RJ0 : String := "java/lang/String"
def TJ0 : u_T := fun k => match k with
  | _ => ("", "", "", false)
def tyJ0 : Nat → FieldType := fun k => match k with
  | _ => .int
abbrev wsJ00 : List Cond := u_ws RJ0 TJ0 0
theorem nmJ0 : ∀ a, a < 0 → ∀ b, b < 0 → a ≠ b → (TJ0 a).2.1 ≠ (TJ0 b).2.1 := by decide +kernel
theorem tyJ0_ok : ∀ k, k < 0 → parseFieldDescriptor (TJ0 k).2.2.1 = some (tyJ0 k) := by decide +kernel
abbrev cJ0_length_8abf5 : ByteArray := prog_16_method_54_code
def yJ0_length_8abf5 : MethodName := ⟨RJ0, "length", "()I"⟩
abbrev cJ0_charAt_5068e : ByteArray := prog_16_method_56_code
def yJ0_charAt_5068e : MethodName := ⟨RJ0, "charAt", "(I)C"⟩
abbrev cJ0_coder_7d493 : ByteArray := prog_16_method_152_code
def yJ0_coder_7d493 : MethodName := ⟨RJ0, "coder", "()B"⟩
abbrev cJ0_isLatin1_aae02 : ByteArray := prog_16_method_154_code
def yJ0_isLatin1_aae02 : MethodName := ⟨RJ0, "isLatin1", "()Z"⟩
abbrev cJ0_checkIndex_df160 : ByteArray := prog_16_method_155_code
def yJ0_checkIndex_df160 : MethodName := ⟨RJ0, "checkIndex", "(II)V"⟩
def RJ1 : String := "java/lang/StringLatin1"
def TJ1 : u_T := fun k => match k with
  | _ => ("", "", "", false)
def tyJ1 : Nat → FieldType := fun k => match k with
  | _ => .int
abbrev wsJ10 : List Cond := u_ws RJ1 TJ1 0
theorem nmJ1 : ∀ a, a < 0 → ∀ b, b < 0 → a ≠ b → (TJ1 a).2.1 ≠ (TJ1 b).2.1 := by decide +kernel
theorem tyJ1_ok : ∀ k, k < 0 → parseFieldDescriptor (TJ1 k).2.2.1 = some (tyJ1 k) := by decide +kernel
abbrev cJ1_charAt_3b067 : ByteArray := prog_17_method_2_code
def yJ1_charAt_3b067 : MethodName := ⟨RJ1, "charAt", "([BI)C"⟩
def RJ2 : String := "java/lang/StringUTF16"
def TJ2 : u_T := fun k => match k with
  | _ => ("", "", "", false)
def tyJ2 : Nat → FieldType := fun k => match k with
  | _ => .int
abbrev wsJ20 : List Cond := u_ws RJ2 TJ2 0
theorem nmJ2 : ∀ a, a < 0 → ∀ b, b < 0 → a ≠ b → (TJ2 a).2.1 ≠ (TJ2 b).2.1 := by decide +kernel
theorem tyJ2_ok : ∀ k, k < 0 → parseFieldDescriptor (TJ2 k).2.2.1 = some (tyJ2 k) := by decide +kernel
abbrev cJ2_getChar_3b067 : ByteArray := prog_18_method_5_code
def yJ2_getChar_3b067 : MethodName := ⟨RJ2, "getChar", "([BI)C"⟩
abbrev cJ2_length_9d52b : ByteArray := prog_18_method_6_code
def yJ2_length_9d52b : MethodName := ⟨RJ2, "length", "([B)I"⟩
abbrev cJ2_charAt_3b067 : ByteArray := prog_18_method_83_code
def yJ2_charAt_3b067 : MethodName := ⟨RJ2, "charAt", "([BI)C"⟩
abbrev cJ2_checkIndex_2214a : ByteArray := prog_18_method_91_code
def yJ2_checkIndex_2214a : MethodName := ⟨RJ2, "checkIndex", "(I[B)V"⟩
def RJ10 : String := "java/lang/System"
def TJ10 : u_T := fun k => match k with
  | _ => ("", "", "", false)
def tyJ10 : Nat → FieldType := fun k => match k with
  | _ => .int
abbrev wsJ100 : List Cond := u_ws RJ10 TJ10 0
theorem nmJ10 : ∀ a, a < 0 → ∀ b, b < 0 → a ≠ b → (TJ10 a).2.1 ≠ (TJ10 b).2.1 := by decide +kernel
theorem tyJ10_ok : ∀ k, k < 0 → parseFieldDescriptor (TJ10 k).2.2.1 = some (tyJ10 k) := by decide +kernel
def RJ3 : String := "jdk/internal/util/Preconditions"
def TJ3 : u_T := fun k => match k with
  | _ => ("", "", "", false)
def tyJ3 : Nat → FieldType := fun k => match k with
  | _ => .int
abbrev wsJ30 : List Cond := u_ws RJ3 TJ3 0
theorem nmJ3 : ∀ a, a < 0 → ∀ b, b < 0 → a ≠ b → (TJ3 a).2.1 ≠ (TJ3 b).2.1 := by decide +kernel
theorem tyJ3_ok : ∀ k, k < 0 → parseFieldDescriptor (TJ3 k).2.2.1 = some (tyJ3 k) := by decide +kernel
abbrev cJ3_checkIndex_8e157 : ByteArray := prog_20_method_11_code
def yJ3_checkIndex_8e157 : MethodName := ⟨RJ3, "checkIndex", "(IILjava/util/function/BiFunction;)I"⟩
def RL : String := "MeetingGroupsLaw"
abbrev cL_law : ByteArray := code
def yL_law : MethodName := ⟨RL, "law", "([I)Z"⟩
end
section
/-! THE SMALL MACHINE: a method's code as a list of places; what it does to locals, stack and three tables of cells; a judgement that unfolds by itself. -/
abbrev am_L : Type := List (Option Value)
/-- ints (fields and rows), longs, references: by the cell's number and the place in it -/
abbrev am_S : Type := (Nat → Nat → Int32) × (Nat → Nat → Int64) × (Nat → Nat → Option Nat)
/-- place, instruction, length, three numbers, a constant, the pairs of a switch -/
abbrev am_E : Type := Nat × Instr × Nat × Nat × Nat × Nat × Value × List (Int32 × Nat)
abbrev am_Q : Type := Option Value → am_S → Prop
/-- the kinds of all cells: a class's number and 0, or an array's kind and its length -/
abbrev am_H : Type := List (Nat × Nat)
def am_up {α : Type} (f : Nat → Nat → α) (a k : Nat) (v : α) : Nat → Nat → α := fun b j => if b = a ∧ j = k then v else f b j
def am_row {α : Type} (f : Nat → Nat → α) (a : Nat) (g : Nat → α) : Nat → Nat → α := fun b j => if b = a then g j else f b j
/-- a long is cut where its second half is overwritten -/
def am_cut (i : Nat) (x : Option Value) (K : Option Value → Prop) : Prop := match i with
  | 0 => match x with
    | some (.long _) => K none
    | some (.double _) => K none
    | y => K y
  | _ + 1 => K x
/-- a local is stored -/
def am_lset : am_L → Nat → Value → (am_L → Prop) → Prop
  | [], _, _, _ => False
  | _ :: xs, 0, v, K => match v with
    | .long z => match xs with
      | [] => False
      | _ :: ys => K (some (.long z) :: none :: ys)
    | w => K (some w :: xs)
  | x :: xs, i + 1, v, K => am_lset xs i v (fun ys => am_cut i x (fun y => K (y :: ys)))
def am_lget : am_L → Nat → (Value → Prop) → Prop
  | [], _, _ => False
  | x :: _, 0, K => match x with
    | some v => K v
    | none => False
  | _ :: xs, i + 1, K => am_lget xs i K
def am_pop : Nat → List Value → List Value → (List Value → List Value → Prop) → Prop
  | 0, st, acc, K => K acc st
  | n + 1, v :: st, acc, K => am_pop n st (v :: acc) K
  | _ + 1, [], _, _ => False
def am_words : List Value → Nat
  | [] => 0
  | v :: r => v.category + am_words r
def am_sw (x : Int32) (d : Prop) (g : Nat → Prop) : List (Int32 × Nat) → Prop
  | [] => d
  | (v, t) :: r => (x = v → g t) ∧ (¬ x = v → am_sw x d g r)
def am_in (h : am_H) (t k : Nat) (i : Int32) (K : Nat → Prop) : Prop := ∃ n j, h[t]? = some (k, n) ∧ j < n ∧ i = nI j ∧ K j
abbrev am_G : Type := Nat → am_L → List Value → am_S → Prop
abbrev am_C : Type := Nat → List Value → am_S → am_Q → Prop
def am_bin (st : List Value) (K : Int32 → Int32 → List Value → Prop) : Prop := match st with
  | .int y :: .int x :: s => K x y s
  | _ => False
def am_un (st : List Value) (K : Int32 → List Value → Prop) : Prop := match st with
  | .int x :: s => K x s
  | _ => False
def am_lbin (st : List Value) (K : Int64 → Int64 → List Value → Prop) : Prop := match st with
  | .long y :: .long x :: s => K x y s
  | _ => False
def am_lun (st : List Value) (K : Int64 → List Value → Prop) : Prop := match st with
  | .long x :: s => K x s
  | _ => False
def am_rf (st : List Value) (K : Nat → List Value → Prop) : Prop := match st with
  | .ref a :: s => K a s
  | _ => False
def am_ld (v : Value) (k : Nat) (K : Prop) : Prop := match k, v with
  | 0, .int _ => K
  | 1, .long _ => K
  | 2, .ref _ => K
  | _, _ => False
def am_br (c : Jvm.ClassFile.Cond) (x y : Int32) (t f : Prop) : Prop := match c with
  | .eq => (x = y → t) ∧ (¬ x = y → f)
  | .ne => (¬ x = y → t) ∧ (x = y → f)
  | .lt => (x < y → t) ∧ (¬ x < y → f)
  | .ge => (y ≤ x → t) ∧ (¬ y ≤ x → f)
  | .gt => (y < x → t) ∧ (¬ y < x → f)
  | .le => (x ≤ y → t) ∧ (¬ x ≤ y → f)
def am_at : List am_E → Nat → List am_E
  | [], _ => []
  | e :: r, pc => match Nat.beq e.1 pc with
    | true => e :: r
    | false => am_at r pc
def am_push (r : Option Value) (s : List Value) : List Value := match r with
  | some v => v :: s
  | none => s
/-- where String constants stand -/
abbrev am_SB : Nat := 1000000
abbrev am_SC : Nat := 2000000
def am_txt : Nat → List Int32
  | 0 => [109, 97, 106, 111, 114, 105, 116, 121]
  | 1 => [103, 114, 105, 100]
  | 2 => [119, 97, 108, 108]
  | 3 => [112, 108, 97, 110, 101]
  | 4 => [115, 101, 116]
  | _ => []
/-- one instruction: h the cells' kinds, (L, xs) the script, ret what the method answers; go: the next place, jmp: another one -/
def am_step (h : am_H) (L : Nat) (xs : Nat → Int32) (ret : Option FieldType) (go jmp : am_G) (cal : am_C) (q : am_Q) (e : am_E) (pc : Nat) (ls : am_L) (st : List Value) (σ : am_S) : Prop := match σ, e with
  | (I, J, R), (p, ins, _, a, d, k, v, sw) => match Nat.beq p pc with
    | false => False
    | true => match ins with
      | .iconst _ => go (p + 1) ls (v :: st) (I, J, R)
      | .bipush _ => go (p + 2) ls (v :: st) (I, J, R)
      | .sipush _ => go (p + 3) ls (v :: st) (I, J, R)
      | .lconst _ => go (p + 1) ls (v :: st) (I, J, R)
      | .ldc _ => match k with
        | 0 => go (p + 2) ls (v :: st) (I, J, R)
        | _ => go (p + 2) ls (.ref (am_SB + a) :: st) (I, J, R)
      | .ldc_w _ => go (p + 3) ls (v :: st) (I, J, R)
      | .ldc2_w _ => go (p + 3) ls (v :: st) (I, J, R)
      | .iload_n i => am_lget ls i.1 (fun w => am_ld w 0 (go (p + 1) ls (w :: st) (I, J, R)))
      | .iload i => am_lget ls i (fun w => am_ld w 0 (go (p + 2) ls (w :: st) (I, J, R)))
      | .lload_n i => am_lget ls i.1 (fun w => am_ld w 1 (go (p + 1) ls (w :: st) (I, J, R)))
      | .lload i => am_lget ls i (fun w => am_ld w 1 (go (p + 2) ls (w :: st) (I, J, R)))
      | .aload_n i => am_lget ls i.1 (fun w => am_ld w 2 (go (p + 1) ls (w :: st) (I, J, R)))
      | .aload i => am_lget ls i (fun w => am_ld w 2 (go (p + 2) ls (w :: st) (I, J, R)))
      | .istore_n i => am_un st (fun x s => am_lset ls i.1 (.int x) (fun ls' => go (p + 1) ls' s (I, J, R)))
      | .istore i => am_un st (fun x s => am_lset ls i (.int x) (fun ls' => go (p + 2) ls' s (I, J, R)))
      | .lstore_n i => am_lun st (fun x s => am_lset ls i.1 (.long x) (fun ls' => go (p + 1) ls' s (I, J, R)))
      | .lstore i => am_lun st (fun x s => am_lset ls i (.long x) (fun ls' => go (p + 2) ls' s (I, J, R)))
      | .astore_n i => am_rf st (fun x s => am_lset ls i.1 (.ref x) (fun ls' => go (p + 1) ls' s (I, J, R)))
      | .astore i => am_rf st (fun x s => am_lset ls i (.ref x) (fun ls' => go (p + 2) ls' s (I, J, R)))
      | .iinc i _ => am_lget ls i (fun w => match w, v with
        | .int x, .int z => am_lset ls i (.int (x + z)) (fun ls' => go (p + 3) ls' st (I, J, R))
        | _, _ => False)
      | .iadd => am_bin st (fun x y s => go (p + 1) ls (.int (x + y) :: s) (I, J, R))
      | .isub => am_bin st (fun x y s => go (p + 1) ls (.int (x - y) :: s) (I, J, R))
      | .imul => am_bin st (fun x y s => go (p + 1) ls (.int (x * y) :: s) (I, J, R))
      | .iand => am_bin st (fun x y s => go (p + 1) ls (.int (x &&& y) :: s) (I, J, R))
      | .ior => am_bin st (fun x y s => go (p + 1) ls (.int (x ||| y) :: s) (I, J, R))
      | .ixor => am_bin st (fun x y s => go (p + 1) ls (.int (x ^^^ y) :: s) (I, J, R))
      | .idiv => am_bin st (fun x y s => ¬ y = 0 ∧ go (p + 1) ls (.int (x / y) :: s) (I, J, R))
      | .irem => am_bin st (fun x y s => ¬ y = 0 ∧ go (p + 1) ls (.int (x - x / y * y) :: s) (I, J, R))
      | .ishl => am_bin st (fun x y s => go (p + 1) ls (.int (x <<< (y &&& 31)) :: s) (I, J, R))
      | .ishr => am_bin st (fun x y s => go (p + 1) ls (.int (x >>> (y &&& 31)) :: s) (I, J, R))
      | .iushr => am_bin st (fun x y s => go (p + 1) ls (.int (x.toUInt32 >>> (y.toUInt32 &&& Int32.toUInt32 31)).toInt32 :: s) (I, J, R))
      | .ineg => am_un st (fun x s => go (p + 1) ls (.int (-x) :: s) (I, J, R))
      | .ladd => am_lbin st (fun x y s => go (p + 1) ls (.long (x + y) :: s) (I, J, R))
      | .lmul => am_lbin st (fun x y s => go (p + 1) ls (.long (x * y) :: s) (I, J, R))
      | .land => am_lbin st (fun x y s => go (p + 1) ls (.long (x &&& y) :: s) (I, J, R))
      | .lor => am_lbin st (fun x y s => go (p + 1) ls (.long (x ||| y) :: s) (I, J, R))
      | .ldiv => am_lbin st (fun x y s => ¬ y = 0 ∧ go (p + 1) ls (.long (x / y) :: s) (I, J, R))
      | .lrem => am_lbin st (fun x y s => ¬ y = 0 ∧ go (p + 1) ls (.long (x - x / y * y) :: s) (I, J, R))
      | .lcmp => am_lbin st (fun x y s => go (p + 1) ls (.int (lg_cmp x y) :: s) (I, J, R))
      | .lshl => am_un st (fun y s => am_lun s (fun x s => go (p + 1) ls (.long (x <<< (y.toInt64 &&& 63)) :: s) (I, J, R)))
      | .i2l => am_un st (fun x s => go (p + 1) ls (.long x.toInt64 :: s) (I, J, R))
      | .l2i => am_lun st (fun x s => go (p + 1) ls (.int x.toInt32 :: s) (I, J, R))
      | .i2b => am_un st (fun x s => go (p + 1) ls (.int x.toInt8.toInt32 :: s) (I, J, R))
      | .i2s => am_un st (fun x s => go (p + 1) ls (.int x.toInt16.toInt32 :: s) (I, J, R))
      | .i2c => am_un st (fun x s => go (p + 1) ls (.int (x.toUInt32 % 65536).toInt32 :: s) (I, J, R))
      | .dup => match st with
        | .int x :: s => go (p + 1) ls (.int x :: .int x :: s) (I, J, R)
        | .ref x :: s => go (p + 1) ls (.ref x :: .ref x :: s) (I, J, R)
        | _ => False
      | .pop => match st with
        | .int _ :: s => go (p + 1) ls s (I, J, R)
        | .ref _ :: s => go (p + 1) ls s (I, J, R)
        | _ => False
      | .dup2 => match st with
        | .int x :: .ref y :: s => go (p + 1) ls (.int x :: .ref y :: .int x :: .ref y :: s) (I, J, R)
        | _ => False
      | .ifCond cd _ => am_un st (fun x s => am_br cd x 0 (jmp a ls s (I, J, R)) (go (p + 3) ls s (I, J, R)))
      | .if_icmp cd _ => am_bin st (fun x y s => am_br cd x y (jmp a ls s (I, J, R)) (go (p + 3) ls s (I, J, R)))
      | .goto _ => jmp a ls st (I, J, R)
      | .tableswitch _ _ _ _ => am_un st (fun x s => am_sw x (jmp a ls s (I, J, R)) (fun t => jmp t ls s (I, J, R)) sw)
      | .getfield _ => am_rf st (fun i s => match k with
        | 2 => ∃ j, h[i]? = some (a, 0) ∧ R i d = some j ∧ go (p + 3) ls (.ref j :: s) (I, J, R)
        | _ => h[i]? = some (a, 0) ∧ go (p + 3) ls (.int (I i d) :: s) (I, J, R))
      | .putfield _ => match st with
        | .int x :: .ref i :: s => match k with
          | 0 => h[i]? = some (a, 0) ∧ go (p + 3) ls s (am_up I i d x, J, R)
          | 1 => h[i]? = some (a, 0) ∧ (x = 0 ∨ x = 1) ∧ go (p + 3) ls s (am_up I i d x, J, R)
          | _ => False
        | _ => False
      | .iaload => am_un st (fun i s => am_rf s (fun t s => match k with
        | 0 => am_in h t 14 i (fun j => go (p + 1) ls (.int (I t j) :: s) (I, J, R))
        | _ => t = am_SC ∧ ∃ j, j < L ∧ i = nI j ∧ go (p + 1) ls (.int (xs j) :: s) (I, J, R)))
      | .arraylength => am_rf st (fun t s => t = am_SC ∧ go (p + 1) ls (.int (nI L) :: s) (I, J, R))
      | .baload => am_un st (fun i s => am_rf s (fun t s => am_in h t a i (fun j => go (p + 1) ls (.int (I t j) :: s) (I, J, R))))
      | .caload => am_un st (fun i s => am_rf s (fun t s => am_in h t 13 i (fun j => go (p + 1) ls (.int (I t j) :: s) (I, J, R))))
      | .laload => am_un st (fun i s => am_rf s (fun t s => am_in h t 15 i (fun j => go (p + 1) ls (.long (J t j) :: s) (I, J, R))))
      | .aaload => am_un st (fun i s => am_rf s (fun t s => am_in h t a i (fun j => ∃ o, R t j = some o ∧ go (p + 1) ls (.ref o :: s) (I, J, R))))
      | .iastore => am_un st (fun x s => am_un s (fun i s => am_rf s (fun t s => am_in h t 14 i (fun j => go (p + 1) ls s (am_up I t j x, J, R)))))
      | .bastore => am_un st (fun x s => am_un s (fun i s => am_rf s (fun t s => am_in h t a i (fun j => go (p + 1) ls s (am_up I t j (vp_nar (match a with | 12 => .byte | _ => .boolean) x), J, R)))))
      | .castore => am_un st (fun x s => am_un s (fun i s => am_rf s (fun t s => am_in h t 13 i (fun j => go (p + 1) ls s (am_up I t j (vp_nar .char x), J, R)))))
      | .lastore => am_lun st (fun x s => am_un s (fun i s => am_rf s (fun t s => am_in h t 15 i (fun j => go (p + 1) ls s (I, am_up J t j x, R)))))
      | .aastore => am_rf st (fun o s => am_un s (fun i s => am_rf s (fun t s => am_in h t a i (fun j => h[o]? = some (d, 0) ∧ go (p + 1) ls s (I, J, am_up R t j (some o))))))
      | .invokevirtual _ => match k with
        | 0 => am_rf st (fun i s => match Nat.ble (am_words s) 8 with
          | true => ∃ t, i = am_SB + t ∧ t < 5 ∧ go (p + 3) ls (.int (nI (am_txt t).length) :: s) (I, J, R)
          | false => False)
        | 1 => am_un st (fun x s => am_rf s (fun i s => match Nat.ble (am_words s) 8 with
          | true => ∃ t j, i = am_SB + t ∧ t < 5 ∧ j < (am_txt t).length ∧ x = nI j ∧ go (p + 3) ls (.int ((am_txt t).getD j 0) :: s) (I, J, R)
          | false => False))
        | ci + 2 => am_pop (d + 1) st [] (fun as s => match Nat.ble (am_words s) 8 with
          | true => match as with
            | .ref i :: _ => h[i]? = some (ci, 0) ∧ cal a as (I, J, R) (fun w σ' => go (p + 3) ls (am_push w s) σ')
            | _ => False
          | false => False)
      | .invokestatic _ => match k with
        | 0 => am_pop d st [] (fun as s => match Nat.ble (am_words s) 8 with
          | true => cal a as (I, J, R) (fun w σ' => go (p + 3) ls (am_push w s) σ')
          | false => False)
        | 1 => am_un st (fun n s => am_un s (fun dp s => am_rf s (fun t s => am_un s (fun sp s => am_rf s (fun u s => match Nat.ble (am_words s) 8 with
          | true => ∃ nu nt i j m, h[u]? = some (14, nu) ∧ h[t]? = some (14, nt) ∧ i + m ≤ nu ∧ j + m ≤ nt ∧ sp = nI i ∧ dp = nI j ∧ n = nI m ∧ go (p + 3) ls s (am_row I t (va_cpy (I u) (I t) i j m), J, R)
          | false => False)))))
        | 3 => am_bin st (fun x y s => match Nat.ble (am_words s) 8 with
          | true => go (p + 3) ls (.int (if x < y then y else x) :: s) (I, J, R)
          | false => False)
        | 4 => am_bin st (fun x y s => match Nat.ble (am_words s) 8 with
          | true => go (p + 3) ls (.int (if y < x then y else x) :: s) (I, J, R)
          | false => False)
        | _ => am_un st (fun n s => am_un s (fun dp s => am_rf s (fun t s => am_un s (fun sp s => am_rf s (fun u s => match Nat.ble (am_words s) 8 with
          | true => ∃ nu nt i j m, h[u]? = some (15, nu) ∧ h[t]? = some (15, nt) ∧ i + m ≤ nu ∧ j + m ≤ nt ∧ sp = nI i ∧ dp = nI j ∧ n = nI m ∧ go (p + 3) ls s (I, am_row J t (va_cpy (J u) (J t) i j m), R)
          | false => False)))))
      | .ireturn => am_un st (fun x s => match s with
        | [] => match ret with
          | some .int => q (some (.int x)) (I, J, R)
          | some .boolean => (x = 0 ∨ x = 1) ∧ q (some (.int x)) (I, J, R)
          | some ty => narrow ty (.int x) = .int x ∧ q (some (.int x)) (I, J, R)
          | none => False
        | _ => False)
      | .lreturn => am_lun st (fun x s => match s with
        | [] => match ret with
          | some .long => q (some (.long x)) (I, J, R)
          | _ => False
        | _ => False)
      | .return_ => match st, ret with
        | [], none => q none (I, J, R)
        | _, _ => False
      | _ => False
end
section
/-! the methods: names, places, what they answer; printed by wip/gen/code.py out of the decode rows -/
abbrev m_J6_bitCount : Nat := 0
abbrev m_Hi_init : Nat := 1
abbrev m_Hi_note : Nat := 2
abbrev m_Hi_loseOldest : Nat := 3
abbrev m_Hi_takeBack : Nat := 4
abbrev m_Hi_becomes : Nat := 5
abbrev m_Ho_init : Nat := 6
abbrev m_Ho_look : Nat := 7
abbrev m_Ho_ofCount : Nat := 8
abbrev m_Ho_turnedBy : Nat := 9
abbrev m_Ho_faults : Nat := 10
abbrev m_Ho_isFree : Nat := 11
abbrev m_Ho_freeSets : Nat := 12
abbrev m_Ho_leastFree : Nat := 13
abbrev m_Pa_init : Nat := 14
abbrev m_Pa_most : Nat := 15
abbrev m_Pa_solve : Nat := 16
abbrev m_Pa_begin : Nat := 17
abbrev m_Pa_entering : Nat := 18
abbrev m_Pa_leaving : Nat := 19
abbrev m_Pa_isAhead : Nat := 20
abbrev m_Pa_pivot : Nat := 21
abbrev m_Pa_clearBy : Nat := 22
abbrev m_Pl_init : Nat := 23
abbrev m_Pl_becomeAll : Nat := 24
abbrev m_Pl_moveIn : Nat := 25
abbrev m_Pl_placeOf : Nat := 26
abbrev m_Pl_become : Nat := 27
abbrev m_Pl_lose : Nat := 28
abbrev m_Pl_weightOn : Nat := 29
abbrev m_Pl_greatestWeight : Nat := 30
abbrev m_Pr_init : Nat := 31
abbrev m_Pr_play : Nat := 32
abbrev m_Pr_playLost : Nat := 33
abbrev m_Pr_placeOf : Nat := 34
abbrev m_Pr_openOf : Nat := 35
abbrev m_Pr_isOver : Nat := 36
abbrev m_Pr_probesFrom : Nat := 37
abbrev m_Pr_probesBy : Nat := 38
abbrev m_Pr_worst : Nat := 39
abbrev m_Pr_best : Nat := 40
abbrev m_Re_init : Nat := 41
abbrev m_Re_faultOfTape : Nat := 42
abbrev m_Re_faultUnless : Nat := 43
abbrev m_Re_skipName : Nat := 44
abbrev m_Re_isName : Nat := 45
abbrev m_Re_next : Nat := 46
abbrev m_Re_skips : Nat := 47
abbrev m_Re_figure : Nat := 48
abbrev m_Re_ends : Nat := 49
abbrev m_Re_isTold : Nat := 50
abbrev m_Re_tell : Nat := 51
abbrev m_Re_majority : Nat := 52
abbrev m_Re_grid : Nat := 53
abbrev m_Re_wallRow : Nat := 54
abbrev m_Re_wall : Nat := 55
abbrev m_Re_isWallTold : Nat := 56
abbrev m_Re_waysBelow : Nat := 57
abbrev m_Re_chosenBelow : Nat := 58
abbrev m_Re_plane : Nat := 59
abbrev m_Re_figures : Nat := 60
abbrev m_Re_isGroupTold : Nat := 61
abbrev m_Ro_init : Nat := 62
abbrev m_Ro_takes : Nat := 63
abbrev m_Ro_nature : Nat := 64
abbrev m_Ro_anyTwoMeet : Nat := 65
abbrev m_Ro_isNonePart : Nat := 66
abbrev m_Ro_isOneCount : Nat := 67
abbrev m_Ro_isEven : Nat := 68
abbrev m_Ro_timesOf : Nat := 69
abbrev m_Ro_isJustGroups : Nat := 70
abbrev m_Sh_init : Nat := 71
abbrev m_Sh_begin : Nat := 72
abbrev m_Sh_spans : Nat := 73
abbrev m_Sh_refusal : Nat := 74
abbrev m_Sh_at : Nat := 75
abbrev m_Sh_put : Nat := 76
abbrev m_Sh_lowestBits : Nat := 77
abbrev m_St_init : Nat := 78
abbrev m_St_becomes : Nat := 79
abbrev m_St_becomesTold : Nat := 80
abbrev m_St_all : Nat := 81
abbrev m_St_isPart : Nat := 82
abbrev m_St_isSet : Nat := 83
abbrev m_St_hasBeyond : Nat := 84
abbrev m_St_placeOf : Nat := 85
abbrev m_St_append : Nat := 86
abbrev m_St_removeAt : Nat := 87
abbrev m_St_drawTurn : Nat := 88
abbrev m_St_holdsGroup : Nat := 89
abbrev m_St_isSuperfluous : Nat := 90
abbrev m_St_leastCommonOf : Nat := 91
abbrev m_St_groupsWith : Nat := 92
abbrev m_St_common : Nat := 93
abbrev m_Ta_init : Nat := 94
abbrev m_Ta_append : Nat := 95
abbrev m_Ta_at : Nat := 96
abbrev m_MG_init : Nat := 97
abbrev m_MG_group : Nat := 98
abbrev m_MG_element : Nat := 99
abbrev m_MG_count : Nat := 100
abbrev m_MG_load : Nat := 101
abbrev m_MG_plan : Nat := 102
abbrev m_MG_standing : Nat := 103
abbrev m_MG_stands : Nat := 104
abbrev m_MG_free : Nat := 105
abbrev m_MG_probe : Nat := 106
abbrev m_MG_add : Nat := 107
abbrev m_MG_out : Nat := 108
abbrev m_MG_size : Nat := 109
abbrev m_MG_type : Nat := 110
abbrev m_MG_read : Nat := 111
abbrev m_MG_drift : Nat := 112
abbrev m_MG_undo : Nat := 113
abbrev m_MG_seed : Nat := 114
abbrev m_MG_image : Nat := 115
abbrev m_MG_restore : Nat := 116
abbrev m_MG_keep : Nat := 117
abbrev m_MG_what : Nat := 118
abbrev m_MG_film : Nat := 119
abbrev m_MG_sheet : Nat := 120
abbrev m_MG_drop : Nat := 121
abbrev m_MG_item : Nat := 122
abbrev m_MG_copy : Nat := 123
abbrev m_MG_isSheet : Nat := 124
abbrev m_MG_isLane : Nat := 125
abbrev m_MG_oneIf : Nat := 126
abbrev m_MG_strength : Nat := 127
abbrev m_MG_power : Nat := 128
abbrev m_MG_ofFraction : Nat := 129
abbrev m_MG_commonDivisor : Nat := 130
abbrev m_MD_in : Nat := 131
abbrev m_MD_init : Nat := 132
abbrev m_MD_has : Nat := 133
abbrev m_MD_bits : Nat := 134
abbrev m_MD_all : Nat := 135
abbrev m_MD_at : Nat := 136
abbrev m_MD_find : Nat := 137
abbrev m_MD_holds : Nat := 138
abbrev m_MD_isMore : Nat := 139
abbrev m_MD_leastWith : Nat := 140
abbrev m_MD_group : Nat := 141
abbrev m_MD_turns : Nat := 142
abbrev m_MD_element : Nat := 143
abbrev m_MD_common : Nat := 144
abbrev m_MD_faults : Nat := 145
abbrev m_MD_liars : Nat := 146
abbrev m_MD_count : Nat := 147
abbrev m_MD_reduces : Nat := 148
abbrev m_MD_nth : Nat := 149
abbrev m_MD_squares : Nat := 150
abbrev m_MD_swaps : Nat := 151
abbrev m_MD_solves : Nat := 152
abbrev m_MD_takes : Nat := 153
abbrev m_MD_clears : Nat := 154
abbrev m_MD_bears : Nat := 155
abbrev m_MD_loadOf : Nat := 156
abbrev m_MD_evens : Nat := 157
abbrev m_MD_slim : Nat := 158
abbrev m_MD_loads : Nat := 159
abbrev m_MD_load : Nat := 160
abbrev m_MD_planAt : Nat := 161
abbrev m_MD_weighs : Nat := 162
abbrev m_MD_plan : Nat := 163
abbrev m_MD_drops : Nat := 164
abbrev m_MD_keep : Nat := 165
abbrev m_MD_standing : Nat := 166
abbrev m_MD_stands : Nat := 167
abbrev m_MD_isFree : Nat := 168
abbrev m_MD_free : Nat := 169
abbrev m_MD_power : Nat := 170
abbrev m_MD_digit : Nat := 171
abbrev m_MD_those : Nat := 172
abbrev m_MD_probesOf : Nat := 173
abbrev m_MD_probe : Nat := 174
abbrev m_MD_add : Nat := 175
abbrev m_MD_comes : Nat := 176
abbrev m_MD_goes : Nat := 177
abbrev m_MD_out : Nat := 178
abbrev m_MD_size : Nat := 179
abbrev m_MD_drift : Nat := 180
abbrev m_MD_seed : Nat := 181
abbrev m_MD_type : Nat := 182
abbrev m_MD_here : Nat := 183
abbrev m_MD_figure : Nat := 184
abbrev m_MD_gets : Nat := 185
abbrev m_MD_isGot : Nat := 186
abbrev m_MD_majority : Nat := 187
abbrev m_MD_grid : Nat := 188
abbrev m_MD_wall : Nat := 189
abbrev m_MD_walls : Nat := 190
abbrev m_MD_plane : Nat := 191
abbrev m_MD_told : Nat := 192
abbrev m_MD_one : Nat := 193
abbrev m_MD_isName : Nat := 194
abbrev m_MD_isText : Nat := 195
abbrev m_MD_read : Nat := 196
abbrev m_MD_notes : Nat := 197
abbrev m_MD_undo : Nat := 198
abbrev m_MD_image : Nat := 199
abbrev m_MD_restore : Nat := 200
abbrev m_MD_isSheet : Nat := 201
abbrev m_MD_cut : Nat := 202
abbrev m_MD_sheet : Nat := 203
abbrev m_MD_drop : Nat := 204
abbrev m_MD_why : Nat := 205
abbrev m_MD_item : Nat := 206
abbrev m_MD_copy : Nat := 207
abbrev m_MD_row : Nat := 208
abbrev m_MD_ofTwo : Nat := 209
abbrev m_MD_isEven : Nat := 210
abbrev m_MD_isJust : Nat := 211
abbrev m_MD_what : Nat := 212
abbrev m_MD_film : Nat := 213
abbrev m_La_law : Nat := 214
def am_c_J6_bitCount : List am_E := [(0, .iload_n 0, 1, 0, 0, 0, .null, []),
  (1, .iload_n 0, 1, 0, 0, 0, .null, []),
  (2, .iconst 1, 1, 0, 0, 0, .int 1, []),
  (3, .iushr, 1, 0, 0, 0, .null, []),
  (4, .ldc_w 265, 3, 0, 0, 0, .int 1431655765, []),
  (7, .iand, 1, 0, 0, 0, .null, []),
  (8, .isub, 1, 0, 0, 0, .null, []),
  (9, .istore_n 0, 1, 0, 0, 0, .null, []),
  (10, .iload_n 0, 1, 0, 0, 0, .null, []),
  (11, .ldc_w 266, 3, 0, 0, 0, .int 858993459, []),
  (14, .iand, 1, 0, 0, 0, .null, []),
  (15, .iload_n 0, 1, 0, 0, 0, .null, []),
  (16, .iconst 2, 1, 0, 0, 0, .int 2, []),
  (17, .iushr, 1, 0, 0, 0, .null, []),
  (18, .ldc_w 266, 3, 0, 0, 0, .int 858993459, []),
  (21, .iand, 1, 0, 0, 0, .null, []),
  (22, .iadd, 1, 0, 0, 0, .null, []),
  (23, .istore_n 0, 1, 0, 0, 0, .null, []),
  (24, .iload_n 0, 1, 0, 0, 0, .null, []),
  (25, .iload_n 0, 1, 0, 0, 0, .null, []),
  (26, .iconst 4, 1, 0, 0, 0, .int 4, []),
  (27, .iushr, 1, 0, 0, 0, .null, []),
  (28, .iadd, 1, 0, 0, 0, .null, []),
  (29, .ldc_w 267, 3, 0, 0, 0, .int 252645135, []),
  (32, .iand, 1, 0, 0, 0, .null, []),
  (33, .istore_n 0, 1, 0, 0, 0, .null, []),
  (34, .iload_n 0, 1, 0, 0, 0, .null, []),
  (35, .iload_n 0, 1, 0, 0, 0, .null, []),
  (36, .bipush 8, 2, 0, 0, 0, .int 8, []),
  (38, .iushr, 1, 0, 0, 0, .null, []),
  (39, .iadd, 1, 0, 0, 0, .null, []),
  (40, .istore_n 0, 1, 0, 0, 0, .null, []),
  (41, .iload_n 0, 1, 0, 0, 0, .null, []),
  (42, .iload_n 0, 1, 0, 0, 0, .null, []),
  (43, .bipush 16, 2, 0, 0, 0, .int 16, []),
  (45, .iushr, 1, 0, 0, 0, .null, []),
  (46, .iadd, 1, 0, 0, 0, .null, []),
  (47, .istore_n 0, 1, 0, 0, 0, .null, []),
  (48, .iload_n 0, 1, 0, 0, 0, .null, []),
  (49, .bipush 63, 2, 0, 0, 0, .int 63, []),
  (51, .iand, 1, 0, 0, 0, .null, []),
  (52, .ireturn, 1, 0, 0, 0, .null, [])]
def am_c_Hi_init : List am_E := [(0, .aload_n 0, 1, 0, 0, 0, .null, []),
  (1, .invokespecial 3, 3, 0, 0, 1, .null, []),
  (4, .aload_n 0, 1, 0, 0, 0, .null, []),
  (5, .iconst 0, 1, 0, 0, 0, .int 0, []),
  (6, .putfield 9, 3, 0, 0, 0, .null, []),
  (9, .aload_n 0, 1, 0, 0, 0, .null, []),
  (10, .bipush 6, 2, 0, 0, 0, .int 6, []),
  (12, .anewarray 15, 3, 18, 0, 0, .null, []),
  (15, .putfield 17, 3, 0, 1, 2, .null, []),
  (18, .iconst 0, 1, 0, 0, 0, .int 0, []),
  (19, .istore_n 1, 1, 0, 0, 0, .null, []),
  (20, .iload_n 1, 1, 0, 0, 0, .null, [(0, 0)]),
  (21, .bipush 6, 2, 0, 0, 0, .int 6, []),
  (23, .if_icmp .ge 22, 3, 45, 0, 0, .null, []),
  (26, .aload_n 0, 1, 0, 0, 0, .null, []),
  (27, .getfield 17, 3, 0, 1, 2, .null, []),
  (30, .iload_n 1, 1, 0, 0, 0, .null, []),
  (31, .new 15, 3, 8, 0, 0, .null, []),
  (34, .dup, 1, 0, 0, 0, .null, []),
  (35, .invokespecial 21, 3, 78, 0, 2, .null, []),
  (38, .aastore, 1, 18, 8, 0, .null, []),
  (39, .iinc 1 1, 3, 0, 0, 0, .int 1, []),
  (42, .goto (-22), 3, 20, 0, 0, .null, []),
  (45, .return_, 1, 0, 0, 0, .null, [])]
def am_c_Hi_note : List am_E := [(0, .aload_n 0, 1, 0, 0, 0, .null, []),
  (1, .getfield 9, 3, 0, 0, 0, .null, []),
  (4, .bipush 6, 2, 0, 0, 0, .int 6, []),
  (6, .if_icmp .lt 7, 3, 13, 0, 0, .null, []),
  (9, .aload_n 0, 1, 0, 0, 0, .null, []),
  (10, .invokevirtual 22, 3, 3, 0, 2, .null, []),
  (13, .aload_n 0, 1, 0, 0, 0, .null, []),
  (14, .getfield 17, 3, 0, 1, 2, .null, []),
  (17, .aload_n 0, 1, 0, 0, 0, .null, []),
  (18, .getfield 9, 3, 0, 0, 0, .null, []),
  (21, .aaload, 1, 18, 0, 0, .null, []),
  (22, .aload_n 1, 1, 0, 0, 0, .null, []),
  (23, .invokevirtual 25, 3, 79, 1, 10, .null, []),
  (26, .aload_n 0, 1, 0, 0, 0, .null, []),
  (27, .dup, 1, 0, 0, 0, .null, []),
  (28, .getfield 9, 3, 0, 0, 0, .null, []),
  (31, .iconst 1, 1, 0, 0, 0, .int 1, []),
  (32, .iadd, 1, 0, 0, 0, .null, []),
  (33, .putfield 9, 3, 0, 0, 0, .null, []),
  (36, .return_, 1, 0, 0, 0, .null, [])]
def am_c_Hi_loseOldest : List am_E := [(0, .aload_n 0, 1, 0, 0, 0, .null, []),
  (1, .getfield 17, 3, 0, 1, 2, .null, []),
  (4, .iconst 0, 1, 0, 0, 0, .int 0, []),
  (5, .aaload, 1, 18, 0, 0, .null, []),
  (6, .astore_n 1, 1, 0, 0, 0, .null, []),
  (7, .iconst 1, 1, 0, 0, 0, .int 1, []),
  (8, .istore_n 2, 1, 0, 0, 0, .null, []),
  (9, .iload_n 2, 1, 0, 0, 0, .null, [(0, 0)]),
  (10, .bipush 6, 2, 0, 0, 0, .int 6, []),
  (12, .if_icmp .ge 23, 3, 35, 0, 0, .null, []),
  (15, .aload_n 0, 1, 0, 0, 0, .null, []),
  (16, .getfield 17, 3, 0, 1, 2, .null, []),
  (19, .iload_n 2, 1, 0, 0, 0, .null, []),
  (20, .iconst 1, 1, 0, 0, 0, .int 1, []),
  (21, .isub, 1, 0, 0, 0, .null, []),
  (22, .aload_n 0, 1, 0, 0, 0, .null, []),
  (23, .getfield 17, 3, 0, 1, 2, .null, []),
  (26, .iload_n 2, 1, 0, 0, 0, .null, []),
  (27, .aaload, 1, 18, 0, 0, .null, []),
  (28, .aastore, 1, 18, 8, 0, .null, []),
  (29, .iinc 2 1, 3, 0, 0, 0, .int 1, []),
  (32, .goto (-23), 3, 9, 0, 0, .null, []),
  (35, .aload_n 0, 1, 0, 0, 0, .null, []),
  (36, .getfield 17, 3, 0, 1, 2, .null, []),
  (39, .iconst 5, 1, 0, 0, 0, .int 5, []),
  (40, .aload_n 1, 1, 0, 0, 0, .null, []),
  (41, .aastore, 1, 18, 8, 0, .null, []),
  (42, .aload_n 0, 1, 0, 0, 0, .null, []),
  (43, .iconst 5, 1, 0, 0, 0, .int 5, []),
  (44, .putfield 9, 3, 0, 0, 0, .null, []),
  (47, .return_, 1, 0, 0, 0, .null, [])]
def am_c_Hi_takeBack : List am_E := [(0, .aload_n 0, 1, 0, 0, 0, .null, []),
  (1, .getfield 9, 3, 0, 0, 0, .null, []),
  (4, .ifCond .le 26, 3, 30, 0, 0, .null, []),
  (7, .aload_n 0, 1, 0, 0, 0, .null, []),
  (8, .dup, 1, 0, 0, 0, .null, []),
  (9, .getfield 9, 3, 0, 0, 0, .null, []),
  (12, .iconst 1, 1, 0, 0, 0, .int 1, []),
  (13, .isub, 1, 0, 0, 0, .null, []),
  (14, .putfield 9, 3, 0, 0, 0, .null, []),
  (17, .aload_n 1, 1, 0, 0, 0, .null, []),
  (18, .aload_n 0, 1, 0, 0, 0, .null, []),
  (19, .getfield 17, 3, 0, 1, 2, .null, []),
  (22, .aload_n 0, 1, 0, 0, 0, .null, []),
  (23, .getfield 9, 3, 0, 0, 0, .null, []),
  (26, .aaload, 1, 18, 0, 0, .null, []),
  (27, .invokevirtual 25, 3, 79, 1, 10, .null, []),
  (30, .return_, 1, 0, 0, 0, .null, [])]
def am_c_Hi_becomes : List am_E := [(0, .aload_n 0, 1, 0, 0, 0, .null, []),
  (1, .aload_n 1, 1, 0, 0, 0, .null, []),
  (2, .getfield 9, 3, 0, 0, 0, .null, []),
  (5, .putfield 9, 3, 0, 0, 0, .null, []),
  (8, .iconst 0, 1, 0, 0, 0, .int 0, []),
  (9, .istore_n 2, 1, 0, 0, 0, .null, []),
  (10, .iload_n 2, 1, 0, 0, 0, .null, [(0, 0)]),
  (11, .aload_n 0, 1, 0, 0, 0, .null, []),
  (12, .getfield 9, 3, 0, 0, 0, .null, []),
  (15, .if_icmp .ge 24, 3, 39, 0, 0, .null, []),
  (18, .aload_n 0, 1, 0, 0, 0, .null, []),
  (19, .getfield 17, 3, 0, 1, 2, .null, []),
  (22, .iload_n 2, 1, 0, 0, 0, .null, []),
  (23, .aaload, 1, 18, 0, 0, .null, []),
  (24, .aload_n 1, 1, 0, 0, 0, .null, []),
  (25, .getfield 17, 3, 0, 1, 2, .null, []),
  (28, .iload_n 2, 1, 0, 0, 0, .null, []),
  (29, .aaload, 1, 18, 0, 0, .null, []),
  (30, .invokevirtual 25, 3, 79, 1, 10, .null, []),
  (33, .iinc 2 1, 3, 0, 0, 0, .int 1, []),
  (36, .goto (-26), 3, 10, 0, 0, .null, []),
  (39, .return_, 1, 0, 0, 0, .null, [])]
def am_c_Ho_init : List am_E := [(0, .aload_n 0, 1, 0, 0, 0, .null, []),
  (1, .invokespecial 3, 3, 0, 0, 1, .null, []),
  (4, .aload_n 0, 1, 0, 0, 0, .null, []),
  (5, .iconst 0, 1, 0, 0, 0, .int 0, []),
  (6, .putfield 9, 3, 1, 0, 0, .null, []),
  (9, .aload_n 0, 1, 0, 0, 0, .null, []),
  (10, .sipush 128, 3, 0, 0, 0, .int 128, []),
  (13, .newarray .boolean, 2, 16, 0, 0, .null, []),
  (15, .putfield 15, 3, 1, 1, 2, .null, []),
  (18, .return_, 1, 0, 0, 0, .null, [])]
def am_c_Ho_look : List am_E := [(0, .aload_n 0, 1, 0, 0, 0, .null, []),
  (1, .aload_n 1, 1, 0, 0, 0, .null, []),
  (2, .invokevirtual 19, 3, 81, 0, 10, .null, []),
  (5, .putfield 9, 3, 1, 0, 0, .null, []),
  (8, .iconst 0, 1, 0, 0, 0, .int 0, []),
  (9, .istore_n 2, 1, 0, 0, 0, .null, []),
  (10, .iload_n 2, 1, 0, 0, 0, .null, [(0, 0)]),
  (11, .aload_n 0, 1, 0, 0, 0, .null, []),
  (12, .getfield 9, 3, 1, 0, 0, .null, []),
  (15, .if_icmp .gt 20, 3, 35, 0, 0, .null, []),
  (18, .aload_n 0, 1, 0, 0, 0, .null, []),
  (19, .getfield 15, 3, 1, 1, 2, .null, []),
  (22, .iload_n 2, 1, 0, 0, 0, .null, []),
  (23, .aload_n 1, 1, 0, 0, 0, .null, []),
  (24, .iload_n 2, 1, 0, 0, 0, .null, []),
  (25, .invokevirtual 24, 3, 89, 1, 10, .null, []),
  (28, .bastore, 1, 16, 0, 0, .null, []),
  (29, .iinc 2 1, 3, 0, 0, 0, .int 1, []),
  (32, .goto (-22), 3, 10, 0, 0, .null, []),
  (35, .return_, 1, 0, 0, 0, .null, [])]
def am_c_Ho_ofCount : List am_E := [(0, .iconst 0, 1, 0, 0, 0, .int 0, []),
  (1, .istore_n 2, 1, 0, 0, 0, .null, []),
  (2, .iconst 0, 1, 0, 0, 0, .int 0, []),
  (3, .istore_n 3, 1, 0, 0, 0, .null, []),
  (4, .iload_n 3, 1, 0, 0, 0, .null, [(0, 0)]),
  (5, .aload_n 0, 1, 0, 0, 0, .null, []),
  (6, .getfield 9, 3, 1, 0, 0, .null, []),
  (9, .if_icmp .gt 29, 3, 38, 0, 0, .null, []),
  (12, .aload_n 0, 1, 0, 0, 0, .null, []),
  (13, .getfield 15, 3, 1, 1, 2, .null, []),
  (16, .iload_n 3, 1, 0, 0, 0, .null, []),
  (17, .baload, 1, 16, 0, 0, .null, []),
  (18, .ifCond .eq 14, 3, 32, 0, 0, .null, []),
  (21, .iload_n 3, 1, 0, 0, 0, .null, []),
  (22, .invokestatic 28, 3, 0, 1, 0, .null, []),
  (25, .iload_n 1, 1, 0, 0, 0, .null, []),
  (26, .if_icmp .ne 6, 3, 32, 0, 0, .null, []),
  (29, .iinc 2 1, 3, 0, 0, 0, .int 1, []),
  (32, .iinc 3 1, 3, 0, 0, 0, .int 1, []),
  (35, .goto (-31), 3, 4, 0, 0, .null, []),
  (38, .iload_n 2, 1, 0, 0, 0, .null, []),
  (39, .ireturn, 1, 0, 0, 0, .null, [])]
def am_c_Ho_turnedBy : List am_E := [(0, .iconst 0, 1, 0, 0, 0, .int 0, []),
  (1, .istore_n 2, 1, 0, 0, 0, .null, []),
  (2, .iconst 0, 1, 0, 0, 0, .int 0, []),
  (3, .istore_n 3, 1, 0, 0, 0, .null, []),
  (4, .iload_n 3, 1, 0, 0, 0, .null, [(0, 0)]),
  (5, .aload_n 0, 1, 0, 0, 0, .null, []),
  (6, .getfield 9, 3, 1, 0, 0, .null, []),
  (9, .if_icmp .gt 38, 3, 47, 0, 0, .null, []),
  (12, .iload_n 3, 1, 0, 0, 0, .null, []),
  (13, .iload_n 1, 1, 0, 0, 0, .null, []),
  (14, .iand, 1, 0, 0, 0, .null, []),
  (15, .ifCond .ne 26, 3, 41, 0, 0, .null, []),
  (18, .aload_n 0, 1, 0, 0, 0, .null, []),
  (19, .getfield 15, 3, 1, 1, 2, .null, []),
  (22, .iload_n 3, 1, 0, 0, 0, .null, []),
  (23, .baload, 1, 16, 0, 0, .null, []),
  (24, .ifCond .ne 17, 3, 41, 0, 0, .null, []),
  (27, .aload_n 0, 1, 0, 0, 0, .null, []),
  (28, .getfield 15, 3, 1, 1, 2, .null, []),
  (31, .iload_n 3, 1, 0, 0, 0, .null, []),
  (32, .iload_n 1, 1, 0, 0, 0, .null, []),
  (33, .ior, 1, 0, 0, 0, .null, []),
  (34, .baload, 1, 16, 0, 0, .null, []),
  (35, .ifCond .eq 6, 3, 41, 0, 0, .null, []),
  (38, .iinc 2 1, 3, 0, 0, 0, .int 1, []),
  (41, .iinc 3 1, 3, 0, 0, 0, .int 1, []),
  (44, .goto (-40), 3, 4, 0, 0, .null, []),
  (47, .iload_n 2, 1, 0, 0, 0, .null, []),
  (48, .ireturn, 1, 0, 0, 0, .null, [])]
def am_c_Ho_faults : List am_E := [(0, .bipush 8, 2, 0, 0, 0, .int 8, []),
  (2, .istore_n 1, 1, 0, 0, 0, .null, []),
  (3, .iconst 0, 1, 0, 0, 0, .int 0, []),
  (4, .istore_n 2, 1, 0, 0, 0, .null, []),
  (5, .iload_n 2, 1, 0, 0, 0, .null, [(0, 0)]),
  (6, .aload_n 0, 1, 0, 0, 0, .null, []),
  (7, .getfield 9, 3, 1, 0, 0, .null, []),
  (10, .if_icmp .gt 32, 3, 42, 0, 0, .null, []),
  (13, .aload_n 0, 1, 0, 0, 0, .null, []),
  (14, .getfield 15, 3, 1, 1, 2, .null, []),
  (17, .aload_n 0, 1, 0, 0, 0, .null, []),
  (18, .getfield 9, 3, 1, 0, 0, .null, []),
  (21, .iload_n 2, 1, 0, 0, 0, .null, []),
  (22, .ixor, 1, 0, 0, 0, .null, []),
  (23, .baload, 1, 16, 0, 0, .null, []),
  (24, .ifCond .ne 12, 3, 36, 0, 0, .null, []),
  (27, .iload_n 1, 1, 0, 0, 0, .null, []),
  (28, .iload_n 2, 1, 0, 0, 0, .null, []),
  (29, .invokestatic 28, 3, 0, 1, 0, .null, []),
  (32, .invokestatic 34, 3, 0, 2, 4, .null, []),
  (35, .istore_n 1, 1, 0, 0, 0, .null, []),
  (36, .iinc 2 1, 3, 0, 0, 0, .int 1, []),
  (39, .goto (-34), 3, 5, 0, 0, .null, []),
  (42, .iload_n 1, 1, 0, 0, 0, .null, []),
  (43, .iconst 1, 1, 0, 0, 0, .int 1, []),
  (44, .isub, 1, 0, 0, 0, .null, []),
  (45, .ireturn, 1, 0, 0, 0, .null, [])]
def am_c_Ho_isFree : List am_E := [(0, .aload_n 0, 1, 0, 0, 0, .null, []),
  (1, .getfield 15, 3, 1, 1, 2, .null, []),
  (4, .iload_n 1, 1, 0, 0, 0, .null, []),
  (5, .baload, 1, 16, 0, 0, .null, []),
  (6, .ifCond .ne 21, 3, 27, 0, 0, .null, []),
  (9, .aload_n 0, 1, 0, 0, 0, .null, []),
  (10, .getfield 15, 3, 1, 1, 2, .null, []),
  (13, .aload_n 0, 1, 0, 0, 0, .null, []),
  (14, .getfield 9, 3, 1, 0, 0, .null, []),
  (17, .iload_n 1, 1, 0, 0, 0, .null, []),
  (18, .ixor, 1, 0, 0, 0, .null, []),
  (19, .baload, 1, 16, 0, 0, .null, []),
  (20, .ifCond .ne 7, 3, 27, 0, 0, .null, []),
  (23, .iconst 1, 1, 0, 0, 0, .int 1, []),
  (24, .goto 4, 3, 28, 0, 0, .null, []),
  (27, .iconst 0, 1, 0, 0, 0, .int 0, []),
  (28, .ireturn, 1, 0, 0, 0, .null, [])]
def am_c_Ho_freeSets : List am_E := [(0, .iconst 0, 1, 0, 0, 0, .int 0, []),
  (1, .istore_n 1, 1, 0, 0, 0, .null, []),
  (2, .iconst 0, 1, 0, 0, 0, .int 0, []),
  (3, .istore_n 2, 1, 0, 0, 0, .null, []),
  (4, .iload_n 2, 1, 0, 0, 0, .null, [(0, 0)]),
  (5, .aload_n 0, 1, 0, 0, 0, .null, []),
  (6, .getfield 9, 3, 1, 0, 0, .null, []),
  (9, .if_icmp .gt 20, 3, 29, 0, 0, .null, []),
  (12, .aload_n 0, 1, 0, 0, 0, .null, []),
  (13, .iload_n 2, 1, 0, 0, 0, .null, []),
  (14, .invokevirtual 40, 3, 11, 1, 3, .null, []),
  (17, .ifCond .eq 6, 3, 23, 0, 0, .null, []),
  (20, .iinc 1 1, 3, 0, 0, 0, .int 1, []),
  (23, .iinc 2 1, 3, 0, 0, 0, .int 1, []),
  (26, .goto (-22), 3, 4, 0, 0, .null, []),
  (29, .iload_n 1, 1, 0, 0, 0, .null, []),
  (30, .ireturn, 1, 0, 0, 0, .null, [])]
def am_c_Ho_leastFree : List am_E := [(0, .iconst 0, 1, 0, 0, 0, .int 0, []),
  (1, .istore_n 1, 1, 0, 0, 0, .null, []),
  (2, .iload_n 1, 1, 0, 0, 0, .null, [(0, 0)]),
  (3, .aload_n 0, 1, 0, 0, 0, .null, []),
  (4, .getfield 9, 3, 1, 0, 0, .null, []),
  (7, .if_icmp .gt 19, 3, 26, 0, 0, .null, []),
  (10, .aload_n 0, 1, 0, 0, 0, .null, []),
  (11, .iload_n 1, 1, 0, 0, 0, .null, []),
  (12, .invokevirtual 40, 3, 11, 1, 3, .null, []),
  (15, .ifCond .eq 5, 3, 20, 0, 0, .null, []),
  (18, .iload_n 1, 1, 0, 0, 0, .null, []),
  (19, .ireturn, 1, 0, 0, 0, .null, []),
  (20, .iinc 1 1, 3, 0, 0, 0, .int 1, []),
  (23, .goto (-21), 3, 2, 0, 0, .null, []),
  (26, .bipush (-4), 2, 0, 0, 0, .int (-4), []),
  (28, .ireturn, 1, 0, 0, 0, .null, [])]
def am_c_Pa_init : List am_E := [(0, .aload_n 0, 1, 0, 0, 0, .null, []),
  (1, .invokespecial 3, 3, 0, 0, 1, .null, []),
  (4, .aload_n 0, 1, 0, 0, 0, .null, []),
  (5, .bipush 8, 2, 0, 0, 0, .int 8, []),
  (7, .bipush 13, 2, 0, 0, 0, .int 13, []),
  (9, .multianewarray 9 2, 4, 19, 0, 0, .null, []),
  (13, .putfield 11, 3, 2, 0, 2, .null, []),
  (16, .aload_n 0, 1, 0, 0, 0, .null, []),
  (17, .bipush 7, 2, 0, 0, 0, .int 7, []),
  (19, .newarray .int, 2, 14, 0, 0, .null, []),
  (21, .putfield 16, 3, 2, 1, 2, .null, []),
  (24, .aload_n 0, 1, 0, 0, 0, .null, []),
  (25, .bipush 12, 2, 0, 0, 0, .int 12, []),
  (27, .newarray .int, 2, 14, 0, 0, .null, []),
  (29, .putfield 20, 3, 2, 2, 2, .null, []),
  (32, .aload_n 0, 1, 0, 0, 0, .null, []),
  (33, .iconst 0, 1, 0, 0, 0, .int 0, []),
  (34, .putfield 23, 3, 2, 3, 0, .null, []),
  (37, .aload_n 0, 1, 0, 0, 0, .null, []),
  (38, .iconst 0, 1, 0, 0, 0, .int 0, []),
  (39, .putfield 27, 3, 2, 4, 0, .null, []),
  (42, .aload_n 0, 1, 0, 0, 0, .null, []),
  (43, .iconst 1, 1, 0, 0, 0, .int 1, []),
  (44, .putfield 30, 3, 2, 5, 0, .null, []),
  (47, .return_, 1, 0, 0, 0, .null, [])]
def am_c_Pa_most : List am_E := [(0, .aload_n 0, 1, 0, 0, 0, .null, []),
  (1, .getfield 11, 3, 2, 0, 2, .null, []),
  (4, .aload_n 0, 1, 0, 0, 0, .null, []),
  (5, .getfield 23, 3, 2, 3, 0, .null, []),
  (8, .aaload, 1, 19, 0, 0, .null, []),
  (9, .aload_n 0, 1, 0, 0, 0, .null, []),
  (10, .getfield 27, 3, 2, 4, 0, .null, []),
  (13, .iaload, 1, 0, 0, 0, .null, []),
  (14, .ireturn, 1, 0, 0, 0, .null, [])]
def am_c_Pa_solve : List am_E := [(0, .aload_n 0, 1, 0, 0, 0, .null, []),
  (1, .aload_n 1, 1, 0, 0, 0, .null, []),
  (2, .invokevirtual 33, 3, 17, 1, 4, .null, []),
  (5, .aload_n 0, 1, 0, 0, 0, .null, []),
  (6, .invokevirtual 37, 3, 18, 0, 4, .null, []),
  (9, .istore_n 2, 1, 0, 0, 0, .null, []),
  (10, .iconst 0, 1, 0, 0, 0, .int 0, []),
  (11, .istore_n 3, 1, 0, 0, 0, .null, []),
  (12, .iload_n 2, 1, 0, 0, 0, .null, [(0, 0)]),
  (13, .ifCond .lt 40, 3, 53, 0, 0, .null, []),
  (16, .iload_n 3, 1, 0, 0, 0, .null, []),
  (17, .ldc 41, 2, 0, 0, 0, .int 100000, []),
  (19, .if_icmp .ge 34, 3, 53, 0, 0, .null, []),
  (22, .aload_n 0, 1, 0, 0, 0, .null, []),
  (23, .iload_n 2, 1, 0, 0, 0, .null, []),
  (24, .invokevirtual 42, 3, 19, 1, 4, .null, []),
  (27, .istore 4, 2, 0, 0, 0, .null, []),
  (29, .iload 4, 2, 0, 0, 0, .null, []),
  (31, .ifCond .ge 4, 3, 35, 0, 0, .null, []),
  (34, .return_, 1, 0, 0, 0, .null, []),
  (35, .aload_n 0, 1, 0, 0, 0, .null, []),
  (36, .iload 4, 2, 0, 0, 0, .null, []),
  (38, .iload_n 2, 1, 0, 0, 0, .null, []),
  (39, .invokevirtual 46, 3, 21, 2, 4, .null, []),
  (42, .aload_n 0, 1, 0, 0, 0, .null, []),
  (43, .invokevirtual 37, 3, 18, 0, 4, .null, []),
  (46, .istore_n 2, 1, 0, 0, 0, .null, []),
  (47, .iinc 3 1, 3, 0, 0, 0, .int 1, []),
  (50, .goto (-38), 3, 12, 0, 0, .null, []),
  (53, .return_, 1, 0, 0, 0, .null, [])]
def am_c_Pa_begin_1 : List am_E := [(78, .iinc 3 1, 3, 0, 0, 0, .int 1, []),
  (81, .goto (-29), 3, 52, 0, 0, .null, []),
  (84, .iinc 2 1, 3, 0, 0, 0, .int 1, []),
  (87, .goto (-64), 3, 23, 0, 0, .null, []),
  (90, .iconst 0, 1, 0, 0, 0, .int 0, []),
  (91, .istore_n 2, 1, 0, 0, 0, .null, []),
  (92, .iload_n 2, 1, 0, 0, 0, .null, [(0, 0)]),
  (93, .aload_n 0, 1, 0, 0, 0, .null, []),
  (94, .getfield 23, 3, 2, 3, 0, .null, []),
  (97, .if_icmp .ge 31, 3, 128, 0, 0, .null, []),
  (100, .aload_n 0, 1, 0, 0, 0, .null, []),
  (101, .getfield 16, 3, 2, 1, 2, .null, []),
  (104, .iload_n 2, 1, 0, 0, 0, .null, []),
  (105, .bipush 12, 2, 0, 0, 0, .int 12, []),
  (107, .iload_n 2, 1, 0, 0, 0, .null, []),
  (108, .iadd, 1, 0, 0, 0, .null, []),
  (109, .iastore, 1, 0, 0, 0, .null, []),
  (110, .aload_n 0, 1, 0, 0, 0, .null, []),
  (111, .getfield 11, 3, 2, 0, 2, .null, []),
  (114, .iload_n 2, 1, 0, 0, 0, .null, []),
  (115, .aaload, 1, 19, 0, 0, .null, []),
  (116, .aload_n 0, 1, 0, 0, 0, .null, []),
  (117, .getfield 27, 3, 2, 4, 0, .null, []),
  (120, .iconst 1, 1, 0, 0, 0, .int 1, []),
  (121, .iastore, 1, 0, 0, 0, .null, []),
  (122, .iinc 2 1, 3, 0, 0, 0, .int 1, []),
  (125, .goto (-33), 3, 92, 0, 0, .null, []),
  (128, .aload_n 0, 1, 0, 0, 0, .null, []),
  (129, .getfield 11, 3, 2, 0, 2, .null, []),
  (132, .aload_n 0, 1, 0, 0, 0, .null, []),
  (133, .getfield 23, 3, 2, 3, 0, .null, []),
  (136, .aaload, 1, 19, 0, 0, .null, []),
  (137, .aload_n 0, 1, 0, 0, 0, .null, []),
  (138, .getfield 27, 3, 2, 4, 0, .null, []),
  (141, .iconst 0, 1, 0, 0, 0, .int 0, []),
  (142, .iastore, 1, 0, 0, 0, .null, []),
  (143, .return_, 1, 0, 0, 0, .null, [])]
def am_c_Pa_begin : List am_E := (0, .aload_n 0, 1, 0, 0, 0, .null, []) ::
  (1, .aload_n 1, 1, 0, 0, 0, .null, []) ::
  (2, .getfield 50, 3, 8, 0, 0, .null, []) ::
  (5, .putfield 23, 3, 2, 3, 0, .null, []) ::
  (8, .aload_n 0, 1, 0, 0, 0, .null, []) ::
  (9, .aload_n 1, 1, 0, 0, 0, .null, []) ::
  (10, .getfield 55, 3, 8, 1, 0, .null, []) ::
  (13, .putfield 27, 3, 2, 4, 0, .null, []) ::
  (16, .aload_n 0, 1, 0, 0, 0, .null, []) ::
  (17, .iconst 1, 1, 0, 0, 0, .int 1, []) ::
  (18, .putfield 30, 3, 2, 5, 0, .null, []) ::
  (21, .iconst 0, 1, 0, 0, 0, .int 0, []) ::
  (22, .istore_n 2, 1, 0, 0, 0, .null, []) ::
  (23, .iload_n 2, 1, 0, 0, 0, .null, [(0, 0)]) ::
  (24, .aload_n 0, 1, 0, 0, 0, .null, []) ::
  (25, .getfield 27, 3, 2, 4, 0, .null, []) ::
  (28, .if_icmp .ge 62, 3, 90, 0, 0, .null, []) ::
  (31, .aload_n 0, 1, 0, 0, 0, .null, []) ::
  (32, .getfield 20, 3, 2, 2, 2, .null, []) ::
  (35, .iload_n 2, 1, 0, 0, 0, .null, []) ::
  (36, .iload_n 2, 1, 0, 0, 0, .null, []) ::
  (37, .iastore, 1, 0, 0, 0, .null, []) ::
  (38, .aload_n 0, 1, 0, 0, 0, .null, []) ::
  (39, .getfield 11, 3, 2, 0, 2, .null, []) ::
  (42, .aload_n 0, 1, 0, 0, 0, .null, []) ::
  (43, .getfield 23, 3, 2, 3, 0, .null, []) ::
  (46, .aaload, 1, 19, 0, 0, .null, []) ::
  (47, .iload_n 2, 1, 0, 0, 0, .null, []) ::
  (48, .iconst (-1), 1, 0, 0, 0, .int (-1), []) ::
  (49, .iastore, 1, 0, 0, 0, .null, []) ::
  (50, .iconst 0, 1, 0, 0, 0, .int 0, []) ::
  (51, .istore_n 3, 1, 0, 0, 0, .null, []) ::
  (52, .iload_n 3, 1, 0, 0, 0, .null, [(0, 0)]) ::
  (53, .aload_n 0, 1, 0, 0, 0, .null, []) ::
  (54, .getfield 23, 3, 2, 3, 0, .null, []) ::
  (57, .if_icmp .ge 27, 3, 84, 0, 0, .null, []) ::
  (60, .aload_n 0, 1, 0, 0, 0, .null, []) ::
  (61, .getfield 11, 3, 2, 0, 2, .null, []) ::
  (64, .iload_n 3, 1, 0, 0, 0, .null, []) ::
  (65, .aaload, 1, 19, 0, 0, .null, []) ::
  (66, .iload_n 2, 1, 0, 0, 0, .null, []) ::
  (67, .aload_n 1, 1, 0, 0, 0, .null, []) ::
  (68, .getfield 58, 3, 8, 2, 2, .null, []) ::
  (71, .iload_n 2, 1, 0, 0, 0, .null, []) ::
  (72, .iaload, 1, 0, 0, 0, .null, []) ::
  (73, .iload_n 3, 1, 0, 0, 0, .null, []) ::
  (74, .ishr, 1, 0, 0, 0, .null, []) ::
  (75, .iconst 1, 1, 0, 0, 0, .int 1, []) ::
  (76, .iand, 1, 0, 0, 0, .null, []) ::
  (77, .iastore, 1, 0, 0, 0, .null, []) :: am_c_Pa_begin_1
def am_c_Pa_entering : List am_E := [(0, .iconst (-1), 1, 0, 0, 0, .int (-1), []),
  (1, .istore_n 1, 1, 0, 0, 0, .null, []),
  (2, .iconst 0, 1, 0, 0, 0, .int 0, []),
  (3, .istore_n 2, 1, 0, 0, 0, .null, []),
  (4, .iload_n 2, 1, 0, 0, 0, .null, [(0, 0)]),
  (5, .aload_n 0, 1, 0, 0, 0, .null, []),
  (6, .getfield 27, 3, 2, 4, 0, .null, []),
  (9, .if_icmp .ge 44, 3, 53, 0, 0, .null, []),
  (12, .aload_n 0, 1, 0, 0, 0, .null, []),
  (13, .getfield 11, 3, 2, 0, 2, .null, []),
  (16, .aload_n 0, 1, 0, 0, 0, .null, []),
  (17, .getfield 23, 3, 2, 3, 0, .null, []),
  (20, .aaload, 1, 19, 0, 0, .null, []),
  (21, .iload_n 2, 1, 0, 0, 0, .null, []),
  (22, .iaload, 1, 0, 0, 0, .null, []),
  (23, .ifCond .ge 24, 3, 47, 0, 0, .null, []),
  (26, .iload_n 1, 1, 0, 0, 0, .null, []),
  (27, .ifCond .lt 18, 3, 45, 0, 0, .null, []),
  (30, .aload_n 0, 1, 0, 0, 0, .null, []),
  (31, .getfield 20, 3, 2, 2, 2, .null, []),
  (34, .iload_n 2, 1, 0, 0, 0, .null, []),
  (35, .iaload, 1, 0, 0, 0, .null, []),
  (36, .aload_n 0, 1, 0, 0, 0, .null, []),
  (37, .getfield 20, 3, 2, 2, 2, .null, []),
  (40, .iload_n 1, 1, 0, 0, 0, .null, []),
  (41, .iaload, 1, 0, 0, 0, .null, []),
  (42, .if_icmp .ge 5, 3, 47, 0, 0, .null, []),
  (45, .iload_n 2, 1, 0, 0, 0, .null, []),
  (46, .istore_n 1, 1, 0, 0, 0, .null, []),
  (47, .iinc 2 1, 3, 0, 0, 0, .int 1, []),
  (50, .goto (-46), 3, 4, 0, 0, .null, []),
  (53, .iload_n 1, 1, 0, 0, 0, .null, []),
  (54, .ireturn, 1, 0, 0, 0, .null, [])]
def am_c_Pa_leaving : List am_E := [(0, .iconst (-1), 1, 0, 0, 0, .int (-1), []),
  (1, .istore_n 2, 1, 0, 0, 0, .null, []),
  (2, .iconst 0, 1, 0, 0, 0, .int 0, []),
  (3, .istore_n 3, 1, 0, 0, 0, .null, []),
  (4, .iload_n 3, 1, 0, 0, 0, .null, [(0, 0)]),
  (5, .aload_n 0, 1, 0, 0, 0, .null, []),
  (6, .getfield 23, 3, 2, 3, 0, .null, []),
  (9, .if_icmp .ge 36, 3, 45, 0, 0, .null, []),
  (12, .aload_n 0, 1, 0, 0, 0, .null, []),
  (13, .getfield 11, 3, 2, 0, 2, .null, []),
  (16, .iload_n 3, 1, 0, 0, 0, .null, []),
  (17, .aaload, 1, 19, 0, 0, .null, []),
  (18, .iload_n 1, 1, 0, 0, 0, .null, []),
  (19, .iaload, 1, 0, 0, 0, .null, []),
  (20, .ifCond .le 19, 3, 39, 0, 0, .null, []),
  (23, .iload_n 2, 1, 0, 0, 0, .null, []),
  (24, .ifCond .lt 13, 3, 37, 0, 0, .null, []),
  (27, .aload_n 0, 1, 0, 0, 0, .null, []),
  (28, .iload_n 3, 1, 0, 0, 0, .null, []),
  (29, .iload_n 2, 1, 0, 0, 0, .null, []),
  (30, .iload_n 1, 1, 0, 0, 0, .null, []),
  (31, .invokevirtual 61, 3, 20, 3, 4, .null, []),
  (34, .ifCond .eq 5, 3, 39, 0, 0, .null, []),
  (37, .iload_n 3, 1, 0, 0, 0, .null, []),
  (38, .istore_n 2, 1, 0, 0, 0, .null, []),
  (39, .iinc 3 1, 3, 0, 0, 0, .int 1, []),
  (42, .goto (-38), 3, 4, 0, 0, .null, []),
  (45, .iload_n 2, 1, 0, 0, 0, .null, []),
  (46, .ireturn, 1, 0, 0, 0, .null, [])]
def am_c_Pa_isAhead : List am_E := [(0, .aload_n 0, 1, 0, 0, 0, .null, []),
  (1, .getfield 11, 3, 2, 0, 2, .null, []),
  (4, .iload_n 1, 1, 0, 0, 0, .null, []),
  (5, .aaload, 1, 19, 0, 0, .null, []),
  (6, .aload_n 0, 1, 0, 0, 0, .null, []),
  (7, .getfield 27, 3, 2, 4, 0, .null, []),
  (10, .iaload, 1, 0, 0, 0, .null, []),
  (11, .aload_n 0, 1, 0, 0, 0, .null, []),
  (12, .getfield 11, 3, 2, 0, 2, .null, []),
  (15, .iload_n 2, 1, 0, 0, 0, .null, []),
  (16, .aaload, 1, 19, 0, 0, .null, []),
  (17, .iload_n 3, 1, 0, 0, 0, .null, []),
  (18, .iaload, 1, 0, 0, 0, .null, []),
  (19, .imul, 1, 0, 0, 0, .null, []),
  (20, .istore 4, 2, 0, 0, 0, .null, []),
  (22, .aload_n 0, 1, 0, 0, 0, .null, []),
  (23, .getfield 11, 3, 2, 0, 2, .null, []),
  (26, .iload_n 2, 1, 0, 0, 0, .null, []),
  (27, .aaload, 1, 19, 0, 0, .null, []),
  (28, .aload_n 0, 1, 0, 0, 0, .null, []),
  (29, .getfield 27, 3, 2, 4, 0, .null, []),
  (32, .iaload, 1, 0, 0, 0, .null, []),
  (33, .aload_n 0, 1, 0, 0, 0, .null, []),
  (34, .getfield 11, 3, 2, 0, 2, .null, []),
  (37, .iload_n 1, 1, 0, 0, 0, .null, []),
  (38, .aaload, 1, 19, 0, 0, .null, []),
  (39, .iload_n 3, 1, 0, 0, 0, .null, []),
  (40, .iaload, 1, 0, 0, 0, .null, []),
  (41, .imul, 1, 0, 0, 0, .null, []),
  (42, .istore 5, 2, 0, 0, 0, .null, []),
  (44, .iload 4, 2, 0, 0, 0, .null, []),
  (46, .iload 5, 2, 0, 0, 0, .null, []),
  (48, .if_icmp .lt 25, 3, 73, 0, 0, .null, []),
  (51, .iload 4, 2, 0, 0, 0, .null, []),
  (53, .iload 5, 2, 0, 0, 0, .null, []),
  (55, .if_icmp .ne 22, 3, 77, 0, 0, .null, []),
  (58, .aload_n 0, 1, 0, 0, 0, .null, []),
  (59, .getfield 16, 3, 2, 1, 2, .null, []),
  (62, .iload_n 1, 1, 0, 0, 0, .null, []),
  (63, .iaload, 1, 0, 0, 0, .null, []),
  (64, .aload_n 0, 1, 0, 0, 0, .null, []),
  (65, .getfield 16, 3, 2, 1, 2, .null, []),
  (68, .iload_n 2, 1, 0, 0, 0, .null, []),
  (69, .iaload, 1, 0, 0, 0, .null, []),
  (70, .if_icmp .ge 7, 3, 77, 0, 0, .null, []),
  (73, .iconst 1, 1, 0, 0, 0, .int 1, []),
  (74, .goto 4, 3, 78, 0, 0, .null, []),
  (77, .iconst 0, 1, 0, 0, 0, .int 0, []),
  (78, .ireturn, 1, 0, 0, 0, .null, [])]
def am_c_Pa_pivot_1 : List am_E := [(83, .iload 4, 2, 0, 0, 0, .null, []),
  (85, .iastore, 1, 0, 0, 0, .null, []),
  (86, .return_, 1, 0, 0, 0, .null, [])]
def am_c_Pa_pivot : List am_E := (0, .aload_n 0, 1, 0, 0, 0, .null, []) ::
  (1, .getfield 11, 3, 2, 0, 2, .null, []) ::
  (4, .iload_n 1, 1, 0, 0, 0, .null, []) ::
  (5, .aaload, 1, 19, 0, 0, .null, []) ::
  (6, .iload_n 2, 1, 0, 0, 0, .null, []) ::
  (7, .iaload, 1, 0, 0, 0, .null, []) ::
  (8, .istore_n 3, 1, 0, 0, 0, .null, []) ::
  (9, .iconst 0, 1, 0, 0, 0, .int 0, []) ::
  (10, .istore 4, 2, 0, 0, 0, .null, []) ::
  (12, .iload 4, 2, 0, 0, 0, .null, [(0, 0)]) ::
  (14, .aload_n 0, 1, 0, 0, 0, .null, []) ::
  (15, .getfield 23, 3, 2, 3, 0, .null, []) ::
  (18, .if_icmp .gt 23, 3, 41, 0, 0, .null, []) ::
  (21, .iload 4, 2, 0, 0, 0, .null, []) ::
  (23, .iload_n 1, 1, 0, 0, 0, .null, []) ::
  (24, .if_icmp .eq 11, 3, 35, 0, 0, .null, []) ::
  (27, .aload_n 0, 1, 0, 0, 0, .null, []) ::
  (28, .iload 4, 2, 0, 0, 0, .null, []) ::
  (30, .iload_n 1, 1, 0, 0, 0, .null, []) ::
  (31, .iload_n 2, 1, 0, 0, 0, .null, []) ::
  (32, .invokevirtual 65, 3, 22, 3, 4, .null, []) ::
  (35, .iinc 4 1, 3, 0, 0, 0, .int 1, []) ::
  (38, .goto (-26), 3, 12, 0, 0, .null, []) ::
  (41, .aload_n 0, 1, 0, 0, 0, .null, []) ::
  (42, .getfield 11, 3, 2, 0, 2, .null, []) ::
  (45, .iload_n 1, 1, 0, 0, 0, .null, []) ::
  (46, .aaload, 1, 19, 0, 0, .null, []) ::
  (47, .iload_n 2, 1, 0, 0, 0, .null, []) ::
  (48, .aload_n 0, 1, 0, 0, 0, .null, []) ::
  (49, .getfield 30, 3, 2, 5, 0, .null, []) ::
  (52, .iastore, 1, 0, 0, 0, .null, []) ::
  (53, .aload_n 0, 1, 0, 0, 0, .null, []) ::
  (54, .iload_n 3, 1, 0, 0, 0, .null, []) ::
  (55, .putfield 30, 3, 2, 5, 0, .null, []) ::
  (58, .aload_n 0, 1, 0, 0, 0, .null, []) ::
  (59, .getfield 16, 3, 2, 1, 2, .null, []) ::
  (62, .iload_n 1, 1, 0, 0, 0, .null, []) ::
  (63, .iaload, 1, 0, 0, 0, .null, []) ::
  (64, .istore 4, 2, 0, 0, 0, .null, []) ::
  (66, .aload_n 0, 1, 0, 0, 0, .null, []) ::
  (67, .getfield 16, 3, 2, 1, 2, .null, []) ::
  (70, .iload_n 1, 1, 0, 0, 0, .null, []) ::
  (71, .aload_n 0, 1, 0, 0, 0, .null, []) ::
  (72, .getfield 20, 3, 2, 2, 2, .null, []) ::
  (75, .iload_n 2, 1, 0, 0, 0, .null, []) ::
  (76, .iaload, 1, 0, 0, 0, .null, []) ::
  (77, .iastore, 1, 0, 0, 0, .null, []) ::
  (78, .aload_n 0, 1, 0, 0, 0, .null, []) ::
  (79, .getfield 20, 3, 2, 2, 2, .null, []) ::
  (82, .iload_n 2, 1, 0, 0, 0, .null, []) :: am_c_Pa_pivot_1
def am_c_Pa_clearBy_1 : List am_E := [(82, .idiv, 1, 0, 0, 0, .null, []),
  (83, .iastore, 1, 0, 0, 0, .null, []),
  (84, .iinc 6 1, 3, 0, 0, 0, .int 1, []),
  (87, .goto (-64), 3, 23, 0, 0, .null, []),
  (90, .aload_n 0, 1, 0, 0, 0, .null, []),
  (91, .getfield 11, 3, 2, 0, 2, .null, []),
  (94, .iload_n 1, 1, 0, 0, 0, .null, []),
  (95, .aaload, 1, 19, 0, 0, .null, []),
  (96, .iload_n 3, 1, 0, 0, 0, .null, []),
  (97, .iload 5, 2, 0, 0, 0, .null, []),
  (99, .ineg, 1, 0, 0, 0, .null, []),
  (100, .iastore, 1, 0, 0, 0, .null, []),
  (101, .return_, 1, 0, 0, 0, .null, [])]
def am_c_Pa_clearBy : List am_E := (0, .aload_n 0, 1, 0, 0, 0, .null, []) ::
  (1, .getfield 11, 3, 2, 0, 2, .null, []) ::
  (4, .iload_n 2, 1, 0, 0, 0, .null, []) ::
  (5, .aaload, 1, 19, 0, 0, .null, []) ::
  (6, .iload_n 3, 1, 0, 0, 0, .null, []) ::
  (7, .iaload, 1, 0, 0, 0, .null, []) ::
  (8, .istore 4, 2, 0, 0, 0, .null, []) ::
  (10, .aload_n 0, 1, 0, 0, 0, .null, []) ::
  (11, .getfield 11, 3, 2, 0, 2, .null, []) ::
  (14, .iload_n 1, 1, 0, 0, 0, .null, []) ::
  (15, .aaload, 1, 19, 0, 0, .null, []) ::
  (16, .iload_n 3, 1, 0, 0, 0, .null, []) ::
  (17, .iaload, 1, 0, 0, 0, .null, []) ::
  (18, .istore 5, 2, 0, 0, 0, .null, []) ::
  (20, .iconst 0, 1, 0, 0, 0, .int 0, []) ::
  (21, .istore 6, 2, 0, 0, 0, .null, []) ::
  (23, .iload 6, 2, 0, 0, 0, .null, [(0, 0)]) ::
  (25, .aload_n 0, 1, 0, 0, 0, .null, []) ::
  (26, .getfield 27, 3, 2, 4, 0, .null, []) ::
  (29, .if_icmp .gt 61, 3, 90, 0, 0, .null, []) ::
  (32, .iload 6, 2, 0, 0, 0, .null, []) ::
  (34, .iload_n 3, 1, 0, 0, 0, .null, []) ::
  (35, .if_icmp .eq 49, 3, 84, 0, 0, .null, []) ::
  (38, .aload_n 0, 1, 0, 0, 0, .null, []) ::
  (39, .getfield 30, 3, 2, 5, 0, .null, []) ::
  (42, .ifCond .eq 42, 3, 84, 0, 0, .null, []) ::
  (45, .aload_n 0, 1, 0, 0, 0, .null, []) ::
  (46, .getfield 11, 3, 2, 0, 2, .null, []) ::
  (49, .iload_n 1, 1, 0, 0, 0, .null, []) ::
  (50, .aaload, 1, 19, 0, 0, .null, []) ::
  (51, .iload 6, 2, 0, 0, 0, .null, []) ::
  (53, .aload_n 0, 1, 0, 0, 0, .null, []) ::
  (54, .getfield 11, 3, 2, 0, 2, .null, []) ::
  (57, .iload_n 1, 1, 0, 0, 0, .null, []) ::
  (58, .aaload, 1, 19, 0, 0, .null, []) ::
  (59, .iload 6, 2, 0, 0, 0, .null, []) ::
  (61, .iaload, 1, 0, 0, 0, .null, []) ::
  (62, .iload 4, 2, 0, 0, 0, .null, []) ::
  (64, .imul, 1, 0, 0, 0, .null, []) ::
  (65, .iload 5, 2, 0, 0, 0, .null, []) ::
  (67, .aload_n 0, 1, 0, 0, 0, .null, []) ::
  (68, .getfield 11, 3, 2, 0, 2, .null, []) ::
  (71, .iload_n 2, 1, 0, 0, 0, .null, []) ::
  (72, .aaload, 1, 19, 0, 0, .null, []) ::
  (73, .iload 6, 2, 0, 0, 0, .null, []) ::
  (75, .iaload, 1, 0, 0, 0, .null, []) ::
  (76, .imul, 1, 0, 0, 0, .null, []) ::
  (77, .isub, 1, 0, 0, 0, .null, []) ::
  (78, .aload_n 0, 1, 0, 0, 0, .null, []) ::
  (79, .getfield 30, 3, 2, 5, 0, .null, []) :: am_c_Pa_clearBy_1
def am_c_Pl_init : List am_E := [(0, .aload_n 0, 1, 0, 0, 0, .null, []),
  (1, .invokespecial 3, 3, 0, 0, 1, .null, []),
  (4, .aload_n 0, 1, 0, 0, 0, .null, []),
  (5, .iconst 0, 1, 0, 0, 0, .int 0, []),
  (6, .putfield 9, 3, 3, 0, 0, .null, []),
  (9, .aload_n 0, 1, 0, 0, 0, .null, []),
  (10, .iconst 4, 1, 0, 0, 0, .int 4, []),
  (11, .newarray .int, 2, 14, 0, 0, .null, []),
  (13, .putfield 15, 3, 3, 1, 2, .null, []),
  (16, .aload_n 0, 1, 0, 0, 0, .null, []),
  (17, .iconst 4, 1, 0, 0, 0, .int 4, []),
  (18, .bipush 12, 2, 0, 0, 0, .int 12, []),
  (20, .multianewarray 19 2, 4, 19, 0, 0, .null, []),
  (24, .putfield 21, 3, 3, 2, 2, .null, []),
  (27, .aload_n 0, 1, 0, 0, 0, .null, []),
  (28, .iconst 4, 1, 0, 0, 0, .int 4, []),
  (29, .bipush 12, 2, 0, 0, 0, .int 12, []),
  (31, .multianewarray 19 2, 4, 19, 0, 0, .null, []),
  (35, .putfield 24, 3, 3, 3, 2, .null, []),
  (38, .return_, 1, 0, 0, 0, .null, [])]
def am_c_Pl_becomeAll : List am_E := [(0, .aload_n 0, 1, 0, 0, 0, .null, []),
  (1, .aload_n 1, 1, 0, 0, 0, .null, []),
  (2, .getfield 9, 3, 3, 0, 0, .null, []),
  (5, .putfield 9, 3, 3, 0, 0, .null, []),
  (8, .iconst 0, 1, 0, 0, 0, .int 0, []),
  (9, .istore_n 2, 1, 0, 0, 0, .null, []),
  (10, .iload_n 2, 1, 0, 0, 0, .null, [(0, 0)]),
  (11, .iconst 4, 1, 0, 0, 0, .int 4, []),
  (12, .if_icmp .ge 16, 3, 28, 0, 0, .null, []),
  (15, .aload_n 0, 1, 0, 0, 0, .null, []),
  (16, .iload_n 2, 1, 0, 0, 0, .null, []),
  (17, .aload_n 1, 1, 0, 0, 0, .null, []),
  (18, .iload_n 2, 1, 0, 0, 0, .null, []),
  (19, .invokevirtual 27, 3, 25, 3, 5, .null, []),
  (22, .iinc 2 1, 3, 0, 0, 0, .int 1, []),
  (25, .goto (-15), 3, 10, 0, 0, .null, []),
  (28, .return_, 1, 0, 0, 0, .null, [])]
def am_c_Pl_moveIn : List am_E := [(0, .aload_n 0, 1, 0, 0, 0, .null, []),
  (1, .getfield 15, 3, 3, 1, 2, .null, []),
  (4, .iload_n 1, 1, 0, 0, 0, .null, []),
  (5, .aload_n 2, 1, 0, 0, 0, .null, []),
  (6, .getfield 15, 3, 3, 1, 2, .null, []),
  (9, .iload_n 3, 1, 0, 0, 0, .null, []),
  (10, .iaload, 1, 0, 0, 0, .null, []),
  (11, .iastore, 1, 0, 0, 0, .null, []),
  (12, .aload_n 2, 1, 0, 0, 0, .null, []),
  (13, .getfield 21, 3, 3, 2, 2, .null, []),
  (16, .iload_n 3, 1, 0, 0, 0, .null, []),
  (17, .aaload, 1, 19, 0, 0, .null, []),
  (18, .iconst 0, 1, 0, 0, 0, .int 0, []),
  (19, .aload_n 0, 1, 0, 0, 0, .null, []),
  (20, .getfield 21, 3, 3, 2, 2, .null, []),
  (23, .iload_n 1, 1, 0, 0, 0, .null, []),
  (24, .aaload, 1, 19, 0, 0, .null, []),
  (25, .iconst 0, 1, 0, 0, 0, .int 0, []),
  (26, .bipush 12, 2, 0, 0, 0, .int 12, []),
  (28, .invokestatic 31, 3, 0, 5, 1, .null, []),
  (31, .aload_n 2, 1, 0, 0, 0, .null, []),
  (32, .getfield 24, 3, 3, 3, 2, .null, []),
  (35, .iload_n 3, 1, 0, 0, 0, .null, []),
  (36, .aaload, 1, 19, 0, 0, .null, []),
  (37, .iconst 0, 1, 0, 0, 0, .int 0, []),
  (38, .aload_n 0, 1, 0, 0, 0, .null, []),
  (39, .getfield 24, 3, 3, 3, 2, .null, []),
  (42, .iload_n 1, 1, 0, 0, 0, .null, []),
  (43, .aaload, 1, 19, 0, 0, .null, []),
  (44, .iconst 0, 1, 0, 0, 0, .int 0, []),
  (45, .bipush 12, 2, 0, 0, 0, .int 12, []),
  (47, .invokestatic 31, 3, 0, 5, 1, .null, []),
  (50, .return_, 1, 0, 0, 0, .null, [])]
def am_c_Pl_placeOf : List am_E := [(0, .iconst 0, 1, 0, 0, 0, .int 0, []),
  (1, .istore_n 2, 1, 0, 0, 0, .null, []),
  (2, .iload_n 2, 1, 0, 0, 0, .null, [(0, 0)]),
  (3, .aload_n 0, 1, 0, 0, 0, .null, []),
  (4, .getfield 9, 3, 3, 0, 0, .null, []),
  (7, .if_icmp .ge 21, 3, 28, 0, 0, .null, []),
  (10, .aload_n 0, 1, 0, 0, 0, .null, []),
  (11, .getfield 15, 3, 3, 1, 2, .null, []),
  (14, .iload_n 2, 1, 0, 0, 0, .null, []),
  (15, .iaload, 1, 0, 0, 0, .null, []),
  (16, .iload_n 1, 1, 0, 0, 0, .null, []),
  (17, .if_icmp .ne 5, 3, 22, 0, 0, .null, []),
  (20, .iload_n 2, 1, 0, 0, 0, .null, []),
  (21, .ireturn, 1, 0, 0, 0, .null, []),
  (22, .iinc 2 1, 3, 0, 0, 0, .int 1, []),
  (25, .goto (-23), 3, 2, 0, 0, .null, []),
  (28, .iconst (-1), 1, 0, 0, 0, .int (-1), []),
  (29, .ireturn, 1, 0, 0, 0, .null, [])]
def am_c_Pl_become_1 : List am_E := [(95, .iload 5, 2, 0, 0, 0, .null, []),
  (97, .iload 5, 2, 0, 0, 0, .null, []),
  (99, .aload_n 2, 1, 0, 0, 0, .null, []),
  (100, .getfield 45, 3, 8, 1, 0, .null, []),
  (103, .if_icmp .ge 13, 3, 116, 0, 0, .null, []),
  (106, .aload_n 3, 1, 0, 0, 0, .null, []),
  (107, .getfield 53, 3, 6, 0, 2, .null, []),
  (110, .iload 5, 2, 0, 0, 0, .null, []),
  (112, .iaload, 1, 0, 0, 0, .null, []),
  (113, .goto 4, 3, 117, 0, 0, .null, []),
  (116, .iconst 0, 1, 0, 0, 0, .int 0, []),
  (117, .iastore, 1, 0, 0, 0, .null, []),
  (118, .iinc 5 1, 3, 0, 0, 0, .int 1, []),
  (121, .goto (-74), 3, 47, 0, 0, .null, []),
  (124, .aload_n 0, 1, 0, 0, 0, .null, []),
  (125, .dup, 1, 0, 0, 0, .null, []),
  (126, .getfield 9, 3, 3, 0, 0, .null, []),
  (129, .iconst 1, 1, 0, 0, 0, .int 1, []),
  (130, .iadd, 1, 0, 0, 0, .null, []),
  (131, .putfield 9, 3, 3, 0, 0, .null, []),
  (134, .return_, 1, 0, 0, 0, .null, [])]
def am_c_Pl_become : List am_E := (0, .aload_n 0, 1, 0, 0, 0, .null, []) ::
  (1, .iload_n 1, 1, 0, 0, 0, .null, []) ::
  (2, .invokevirtual 37, 3, 26, 1, 5, .null, []) ::
  (5, .istore 4, 2, 0, 0, 0, .null, []) ::
  (7, .iload 4, 2, 0, 0, 0, .null, []) ::
  (9, .ifCond .lt 12, 3, 21, 0, 0, .null, []) ::
  (12, .aload_n 0, 1, 0, 0, 0, .null, []) ::
  (13, .iload 4, 2, 0, 0, 0, .null, []) ::
  (15, .invokevirtual 41, 3, 28, 1, 5, .null, []) ::
  (18, .goto 16, 3, 34, 0, 0, .null, []) ::
  (21, .aload_n 0, 1, 0, 0, 0, .null, []) ::
  (22, .getfield 9, 3, 3, 0, 0, .null, []) ::
  (25, .iconst 4, 1, 0, 0, 0, .int 4, []) ::
  (26, .if_icmp .lt 8, 3, 34, 0, 0, .null, []) ::
  (29, .aload_n 0, 1, 0, 0, 0, .null, []) ::
  (30, .iconst 0, 1, 0, 0, 0, .int 0, []) ::
  (31, .invokevirtual 41, 3, 28, 1, 5, .null, []) ::
  (34, .aload_n 0, 1, 0, 0, 0, .null, []) ::
  (35, .getfield 15, 3, 3, 1, 2, .null, []) ::
  (38, .aload_n 0, 1, 0, 0, 0, .null, []) ::
  (39, .getfield 9, 3, 3, 0, 0, .null, []) ::
  (42, .iload_n 1, 1, 0, 0, 0, .null, []) ::
  (43, .iastore, 1, 0, 0, 0, .null, []) ::
  (44, .iconst 0, 1, 0, 0, 0, .int 0, []) ::
  (45, .istore 5, 2, 0, 0, 0, .null, []) ::
  (47, .iload 5, 2, 0, 0, 0, .null, [(0, 0)]) ::
  (49, .bipush 12, 2, 0, 0, 0, .int 12, []) ::
  (51, .if_icmp .ge 73, 3, 124, 0, 0, .null, []) ::
  (54, .aload_n 0, 1, 0, 0, 0, .null, []) ::
  (55, .getfield 21, 3, 3, 2, 2, .null, []) ::
  (58, .aload_n 0, 1, 0, 0, 0, .null, []) ::
  (59, .getfield 9, 3, 3, 0, 0, .null, []) ::
  (62, .aaload, 1, 19, 0, 0, .null, []) ::
  (63, .iload 5, 2, 0, 0, 0, .null, []) ::
  (65, .iload 5, 2, 0, 0, 0, .null, []) ::
  (67, .aload_n 2, 1, 0, 0, 0, .null, []) ::
  (68, .getfield 45, 3, 8, 1, 0, .null, []) ::
  (71, .if_icmp .ge 13, 3, 84, 0, 0, .null, []) ::
  (74, .aload_n 2, 1, 0, 0, 0, .null, []) ::
  (75, .getfield 50, 3, 8, 2, 2, .null, []) ::
  (78, .iload 5, 2, 0, 0, 0, .null, []) ::
  (80, .iaload, 1, 0, 0, 0, .null, []) ::
  (81, .goto 4, 3, 85, 0, 0, .null, []) ::
  (84, .iconst 0, 1, 0, 0, 0, .int 0, []) ::
  (85, .iastore, 1, 0, 0, 0, .null, []) ::
  (86, .aload_n 0, 1, 0, 0, 0, .null, []) ::
  (87, .getfield 24, 3, 3, 3, 2, .null, []) ::
  (90, .aload_n 0, 1, 0, 0, 0, .null, []) ::
  (91, .getfield 9, 3, 3, 0, 0, .null, []) ::
  (94, .aaload, 1, 19, 0, 0, .null, []) :: am_c_Pl_become_1
def am_c_Pl_lose : List am_E := [(0, .iload_n 1, 1, 0, 0, 0, .null, []),
  (1, .iconst 1, 1, 0, 0, 0, .int 1, []),
  (2, .iadd, 1, 0, 0, 0, .null, []),
  (3, .istore_n 2, 1, 0, 0, 0, .null, []),
  (4, .iload_n 2, 1, 0, 0, 0, .null, [(0, 0)]),
  (5, .aload_n 0, 1, 0, 0, 0, .null, []),
  (6, .getfield 9, 3, 3, 0, 0, .null, []),
  (9, .if_icmp .ge 18, 3, 27, 0, 0, .null, []),
  (12, .aload_n 0, 1, 0, 0, 0, .null, []),
  (13, .iload_n 2, 1, 0, 0, 0, .null, []),
  (14, .iconst 1, 1, 0, 0, 0, .int 1, []),
  (15, .isub, 1, 0, 0, 0, .null, []),
  (16, .aload_n 0, 1, 0, 0, 0, .null, []),
  (17, .iload_n 2, 1, 0, 0, 0, .null, []),
  (18, .invokevirtual 27, 3, 25, 3, 5, .null, []),
  (21, .iinc 2 1, 3, 0, 0, 0, .int 1, []),
  (24, .goto (-20), 3, 4, 0, 0, .null, []),
  (27, .aload_n 0, 1, 0, 0, 0, .null, []),
  (28, .dup, 1, 0, 0, 0, .null, []),
  (29, .getfield 9, 3, 3, 0, 0, .null, []),
  (32, .iconst 1, 1, 0, 0, 0, .int 1, []),
  (33, .isub, 1, 0, 0, 0, .null, []),
  (34, .putfield 9, 3, 3, 0, 0, .null, []),
  (37, .return_, 1, 0, 0, 0, .null, [])]
def am_c_Pl_weightOn : List am_E := [(0, .iconst 0, 1, 0, 0, 0, .int 0, []),
  (1, .istore 4, 2, 0, 0, 0, .null, []),
  (3, .iconst 0, 1, 0, 0, 0, .int 0, []),
  (4, .istore 5, 2, 0, 0, 0, .null, []),
  (6, .iload 5, 2, 0, 0, 0, .null, [(0, 0)]),
  (8, .bipush 12, 2, 0, 0, 0, .int 12, []),
  (10, .if_icmp .ge 50, 3, 60, 0, 0, .null, []),
  (13, .aload_n 0, 1, 0, 0, 0, .null, []),
  (14, .getfield 21, 3, 3, 2, 2, .null, []),
  (17, .iload_n 1, 1, 0, 0, 0, .null, []),
  (18, .aaload, 1, 19, 0, 0, .null, []),
  (19, .iload 5, 2, 0, 0, 0, .null, []),
  (21, .iaload, 1, 0, 0, 0, .null, []),
  (22, .istore 6, 2, 0, 0, 0, .null, []),
  (24, .iload 6, 2, 0, 0, 0, .null, []),
  (26, .iload_n 3, 1, 0, 0, 0, .null, []),
  (27, .iand, 1, 0, 0, 0, .null, []),
  (28, .ifCond .eq 26, 3, 54, 0, 0, .null, []),
  (31, .aload_n 2, 1, 0, 0, 0, .null, []),
  (32, .iload 6, 2, 0, 0, 0, .null, []),
  (34, .invokevirtual 58, 3, 85, 1, 10, .null, []),
  (37, .ifCond .lt 17, 3, 54, 0, 0, .null, []),
  (40, .iload 4, 2, 0, 0, 0, .null, []),
  (42, .aload_n 0, 1, 0, 0, 0, .null, []),
  (43, .getfield 24, 3, 3, 3, 2, .null, []),
  (46, .iload_n 1, 1, 0, 0, 0, .null, []),
  (47, .aaload, 1, 19, 0, 0, .null, []),
  (48, .iload 5, 2, 0, 0, 0, .null, []),
  (50, .iaload, 1, 0, 0, 0, .null, []),
  (51, .iadd, 1, 0, 0, 0, .null, []),
  (52, .istore 4, 2, 0, 0, 0, .null, []),
  (54, .iinc 5 1, 3, 0, 0, 0, .int 1, []),
  (57, .goto (-51), 3, 6, 0, 0, .null, []),
  (60, .iload 4, 2, 0, 0, 0, .null, []),
  (62, .ireturn, 1, 0, 0, 0, .null, [])]
def am_c_Pl_greatestWeight : List am_E := [(0, .iconst 0, 1, 0, 0, 0, .int 0, []),
  (1, .istore_n 3, 1, 0, 0, 0, .null, []),
  (2, .iconst 0, 1, 0, 0, 0, .int 0, []),
  (3, .istore 4, 2, 0, 0, 0, .null, []),
  (5, .iload 4, 2, 0, 0, 0, .null, [(0, 0)]),
  (7, .aload_n 2, 1, 0, 0, 0, .null, []),
  (8, .getfield 59, 3, 8, 0, 0, .null, []),
  (11, .if_icmp .ge 24, 3, 35, 0, 0, .null, []),
  (14, .iload_n 3, 1, 0, 0, 0, .null, []),
  (15, .aload_n 0, 1, 0, 0, 0, .null, []),
  (16, .iload_n 1, 1, 0, 0, 0, .null, []),
  (17, .aload_n 2, 1, 0, 0, 0, .null, []),
  (18, .iconst 1, 1, 0, 0, 0, .int 1, []),
  (19, .iload 4, 2, 0, 0, 0, .null, []),
  (21, .ishl, 1, 0, 0, 0, .null, []),
  (22, .invokevirtual 62, 3, 29, 3, 5, .null, []),
  (25, .invokestatic 66, 3, 0, 2, 3, .null, []),
  (28, .istore_n 3, 1, 0, 0, 0, .null, []),
  (29, .iinc 4 1, 3, 0, 0, 0, .int 1, []),
  (32, .goto (-27), 3, 5, 0, 0, .null, []),
  (35, .iload_n 3, 1, 0, 0, 0, .null, []),
  (36, .ireturn, 1, 0, 0, 0, .null, [])]
def am_c_Pr_init_1 : List am_E := [(87, .goto (-27), 3, 60, 0, 0, .null, []),
  (90, .iload_n 1, 1, 0, 0, 0, .null, []),
  (91, .iconst 3, 1, 0, 0, 0, .int 3, []),
  (92, .imul, 1, 0, 0, 0, .null, []),
  (93, .istore_n 1, 1, 0, 0, 0, .null, []),
  (94, .iinc 2 1, 3, 0, 0, 0, .int 1, []),
  (97, .goto (-50), 3, 47, 0, 0, .null, []),
  (100, .return_, 1, 0, 0, 0, .null, [])]
def am_c_Pr_init : List am_E := (0, .aload_n 0, 1, 0, 0, 0, .null, []) ::
  (1, .invokespecial 3, 3, 0, 0, 1, .null, []) ::
  (4, .aload_n 0, 1, 0, 0, 0, .null, []) ::
  (5, .new 9, 3, 1, 0, 0, .null, []) ::
  (8, .dup, 1, 0, 0, 0, .null, []) ::
  (9, .invokespecial 11, 3, 6, 0, 2, .null, []) ::
  (12, .putfield 12, 3, 4, 0, 2, .null, []) ::
  (15, .aload_n 0, 1, 0, 0, 0, .null, []) ::
  (16, .sipush 128, 3, 0, 0, 0, .int 128, []) ::
  (19, .newarray .int, 2, 14, 0, 0, .null, []) ::
  (21, .putfield 18, 3, 4, 1, 2, .null, []) ::
  (24, .aload_n 0, 1, 0, 0, 0, .null, []) ::
  (25, .sipush 2187, 3, 0, 0, 0, .int 2187, []) ::
  (28, .newarray .byte, 2, 12, 0, 0, .null, []) ::
  (30, .putfield 22, 3, 4, 2, 2, .null, []) ::
  (33, .aload_n 0, 1, 0, 0, 0, .null, []) ::
  (34, .iconst 0, 1, 0, 0, 0, .int 0, []) ::
  (35, .putfield 26, 3, 4, 3, 0, .null, []) ::
  (38, .aload_n 0, 1, 0, 0, 0, .null, []) ::
  (39, .iconst 0, 1, 0, 0, 0, .int 0, []) ::
  (40, .putfield 30, 3, 4, 4, 0, .null, []) ::
  (43, .iconst 1, 1, 0, 0, 0, .int 1, []) ::
  (44, .istore_n 1, 1, 0, 0, 0, .null, []) ::
  (45, .iconst 0, 1, 0, 0, 0, .int 0, []) ::
  (46, .istore_n 2, 1, 0, 0, 0, .null, []) ::
  (47, .iload_n 2, 1, 0, 0, 0, .null, [(0, 0)]) ::
  (48, .bipush 7, 2, 0, 0, 0, .int 7, []) ::
  (50, .if_icmp .ge 50, 3, 100, 0, 0, .null, []) ::
  (53, .iconst 1, 1, 0, 0, 0, .int 1, []) ::
  (54, .iload_n 2, 1, 0, 0, 0, .null, []) ::
  (55, .ishl, 1, 0, 0, 0, .null, []) ::
  (56, .istore_n 3, 1, 0, 0, 0, .null, []) ::
  (57, .iconst 0, 1, 0, 0, 0, .int 0, []) ::
  (58, .istore 4, 2, 0, 0, 0, .null, []) ::
  (60, .iload 4, 2, 0, 0, 0, .null, [(0, 0)]) ::
  (62, .iload_n 3, 1, 0, 0, 0, .null, []) ::
  (63, .if_icmp .ge 27, 3, 90, 0, 0, .null, []) ::
  (66, .aload_n 0, 1, 0, 0, 0, .null, []) ::
  (67, .getfield 18, 3, 4, 1, 2, .null, []) ::
  (70, .iload_n 3, 1, 0, 0, 0, .null, []) ::
  (71, .iload 4, 2, 0, 0, 0, .null, []) ::
  (73, .ior, 1, 0, 0, 0, .null, []) ::
  (74, .iload_n 1, 1, 0, 0, 0, .null, []) ::
  (75, .aload_n 0, 1, 0, 0, 0, .null, []) ::
  (76, .getfield 18, 3, 4, 1, 2, .null, []) ::
  (79, .iload 4, 2, 0, 0, 0, .null, []) ::
  (81, .iaload, 1, 0, 0, 0, .null, []) ::
  (82, .iadd, 1, 0, 0, 0, .null, []) ::
  (83, .iastore, 1, 0, 0, 0, .null, []) ::
  (84, .iinc 4 1, 3, 0, 0, 0, .int 1, []) :: am_c_Pr_init_1
def am_c_Pr_play : List am_E := [(0, .aload_n 0, 1, 0, 0, 0, .null, []),
  (1, .getfield 12, 3, 4, 0, 2, .null, []),
  (4, .aload_n 1, 1, 0, 0, 0, .null, []),
  (5, .invokevirtual 33, 3, 7, 1, 3, .null, []),
  (8, .aload_n 0, 1, 0, 0, 0, .null, []),
  (9, .iload_n 2, 1, 0, 0, 0, .null, []),
  (10, .putfield 26, 3, 4, 3, 0, .null, []),
  (13, .aload_n 0, 1, 0, 0, 0, .null, []),
  (14, .iload_n 3, 1, 0, 0, 0, .null, []),
  (15, .putfield 30, 3, 4, 4, 0, .null, []),
  (18, .aload_n 0, 1, 0, 0, 0, .null, []),
  (19, .aload_n 0, 1, 0, 0, 0, .null, []),
  (20, .getfield 26, 3, 4, 3, 0, .null, []),
  (23, .aload_n 0, 1, 0, 0, 0, .null, []),
  (24, .getfield 30, 3, 4, 4, 0, .null, []),
  (27, .invokevirtual 37, 3, 35, 2, 6, .null, []),
  (30, .istore 4, 2, 0, 0, 0, .null, []),
  (32, .iload 4, 2, 0, 0, 0, .null, []),
  (34, .istore 5, 2, 0, 0, 0, .null, []),
  (36, .iload 5, 2, 0, 0, 0, .null, [(0, 0)]),
  (38, .ifCond .lt 32, 3, 70, 0, 0, .null, []),
  (41, .iload 5, 2, 0, 0, 0, .null, []),
  (43, .iload 4, 2, 0, 0, 0, .null, []),
  (45, .iconst (-1), 1, 0, 0, 0, .int (-1), []),
  (46, .ixor, 1, 0, 0, 0, .null, []),
  (47, .iand, 1, 0, 0, 0, .null, []),
  (48, .ifCond .ne 16, 3, 64, 0, 0, .null, []),
  (51, .aload_n 0, 1, 0, 0, 0, .null, []),
  (52, .iload 5, 2, 0, 0, 0, .null, []),
  (54, .iload 4, 2, 0, 0, 0, .null, []),
  (56, .iload 5, 2, 0, 0, 0, .null, []),
  (58, .iconst (-1), 1, 0, 0, 0, .int (-1), []),
  (59, .ixor, 1, 0, 0, 0, .null, []),
  (60, .iand, 1, 0, 0, 0, .null, []),
  (61, .invokevirtual 41, 3, 33, 2, 6, .null, []),
  (64, .iinc 5 (-1), 3, 0, 0, 0, .int (-1), []),
  (67, .goto (-31), 3, 36, 0, 0, .null, []),
  (70, .return_, 1, 0, 0, 0, .null, [])]
def am_c_Pr_playLost : List am_E := [(0, .iload_n 2, 1, 0, 0, 0, .null, []),
  (1, .istore_n 3, 1, 0, 0, 0, .null, []),
  (2, .iload_n 3, 1, 0, 0, 0, .null, [(0, 0)]),
  (3, .ifCond .lt 55, 3, 58, 0, 0, .null, []),
  (6, .iload_n 3, 1, 0, 0, 0, .null, []),
  (7, .iload_n 2, 1, 0, 0, 0, .null, []),
  (8, .iconst (-1), 1, 0, 0, 0, .int (-1), []),
  (9, .ixor, 1, 0, 0, 0, .null, []),
  (10, .iand, 1, 0, 0, 0, .null, []),
  (11, .ifCond .ne 41, 3, 52, 0, 0, .null, []),
  (14, .aload_n 0, 1, 0, 0, 0, .null, []),
  (15, .getfield 26, 3, 4, 3, 0, .null, []),
  (18, .iload_n 3, 1, 0, 0, 0, .null, []),
  (19, .ior, 1, 0, 0, 0, .null, []),
  (20, .istore 4, 2, 0, 0, 0, .null, []),
  (22, .aload_n 0, 1, 0, 0, 0, .null, []),
  (23, .getfield 30, 3, 4, 4, 0, .null, []),
  (26, .iload_n 1, 1, 0, 0, 0, .null, []),
  (27, .ior, 1, 0, 0, 0, .null, []),
  (28, .istore 5, 2, 0, 0, 0, .null, []),
  (30, .aload_n 0, 1, 0, 0, 0, .null, []),
  (31, .getfield 22, 3, 4, 2, 2, .null, []),
  (34, .aload_n 0, 1, 0, 0, 0, .null, []),
  (35, .iload 4, 2, 0, 0, 0, .null, []),
  (37, .iload 5, 2, 0, 0, 0, .null, []),
  (39, .invokevirtual 45, 3, 34, 2, 6, .null, []),
  (42, .aload_n 0, 1, 0, 0, 0, .null, []),
  (43, .iload 4, 2, 0, 0, 0, .null, []),
  (45, .iload 5, 2, 0, 0, 0, .null, []),
  (47, .invokevirtual 48, 3, 37, 2, 6, .null, []),
  (50, .i2b, 1, 0, 0, 0, .null, []),
  (51, .bastore, 1, 12, 0, 0, .null, []),
  (52, .iinc 3 (-1), 3, 0, 0, 0, .int (-1), []),
  (55, .goto (-53), 3, 2, 0, 0, .null, []),
  (58, .return_, 1, 0, 0, 0, .null, [])]
def am_c_Pr_placeOf : List am_E := [(0, .aload_n 0, 1, 0, 0, 0, .null, []),
  (1, .getfield 18, 3, 4, 1, 2, .null, []),
  (4, .iload_n 1, 1, 0, 0, 0, .null, []),
  (5, .iaload, 1, 0, 0, 0, .null, []),
  (6, .iconst 2, 1, 0, 0, 0, .int 2, []),
  (7, .aload_n 0, 1, 0, 0, 0, .null, []),
  (8, .getfield 18, 3, 4, 1, 2, .null, []),
  (11, .iload_n 2, 1, 0, 0, 0, .null, []),
  (12, .iaload, 1, 0, 0, 0, .null, []),
  (13, .imul, 1, 0, 0, 0, .null, []),
  (14, .iadd, 1, 0, 0, 0, .null, []),
  (15, .ireturn, 1, 0, 0, 0, .null, [])]
def am_c_Pr_openOf : List am_E := [(0, .aload_n 0, 1, 0, 0, 0, .null, []),
  (1, .getfield 12, 3, 4, 0, 2, .null, []),
  (4, .getfield 51, 3, 1, 0, 0, .null, []),
  (7, .iload_n 1, 1, 0, 0, 0, .null, []),
  (8, .iload_n 2, 1, 0, 0, 0, .null, []),
  (9, .ior, 1, 0, 0, 0, .null, []),
  (10, .iconst (-1), 1, 0, 0, 0, .int (-1), []),
  (11, .ixor, 1, 0, 0, 0, .null, []),
  (12, .iand, 1, 0, 0, 0, .null, []),
  (13, .ireturn, 1, 0, 0, 0, .null, [])]
def am_c_Pr_isOver : List am_E := [(0, .aload_n 0, 1, 0, 0, 0, .null, []),
  (1, .getfield 12, 3, 4, 0, 2, .null, []),
  (4, .getfield 54, 3, 1, 1, 2, .null, []),
  (7, .iload_n 1, 1, 0, 0, 0, .null, []),
  (8, .baload, 1, 16, 0, 0, .null, []),
  (9, .ifCond .ne 25, 3, 34, 0, 0, .null, []),
  (12, .aload_n 0, 1, 0, 0, 0, .null, []),
  (13, .getfield 12, 3, 4, 0, 2, .null, []),
  (16, .getfield 54, 3, 1, 1, 2, .null, []),
  (19, .aload_n 0, 1, 0, 0, 0, .null, []),
  (20, .getfield 12, 3, 4, 0, 2, .null, []),
  (23, .getfield 51, 3, 1, 0, 0, .null, []),
  (26, .iload_n 2, 1, 0, 0, 0, .null, []),
  (27, .iconst (-1), 1, 0, 0, 0, .int (-1), []),
  (28, .ixor, 1, 0, 0, 0, .null, []),
  (29, .iand, 1, 0, 0, 0, .null, []),
  (30, .baload, 1, 16, 0, 0, .null, []),
  (31, .ifCond .ne 7, 3, 38, 0, 0, .null, []),
  (34, .iconst 1, 1, 0, 0, 0, .int 1, []),
  (35, .goto 4, 3, 39, 0, 0, .null, []),
  (38, .iconst 0, 1, 0, 0, 0, .int 0, []),
  (39, .ireturn, 1, 0, 0, 0, .null, [])]
def am_c_Pr_probesFrom : List am_E := [(0, .aload_n 0, 1, 0, 0, 0, .null, []),
  (1, .iload_n 1, 1, 0, 0, 0, .null, []),
  (2, .iload_n 2, 1, 0, 0, 0, .null, []),
  (3, .invokevirtual 58, 3, 36, 2, 6, .null, []),
  (6, .ifCond .eq 5, 3, 11, 0, 0, .null, []),
  (9, .iconst 0, 1, 0, 0, 0, .int 0, []),
  (10, .ireturn, 1, 0, 0, 0, .null, []),
  (11, .aload_n 0, 1, 0, 0, 0, .null, []),
  (12, .iload_n 1, 1, 0, 0, 0, .null, []),
  (13, .iload_n 2, 1, 0, 0, 0, .null, []),
  (14, .invokevirtual 37, 3, 35, 2, 6, .null, []),
  (17, .istore_n 3, 1, 0, 0, 0, .null, []),
  (18, .bipush 7, 2, 0, 0, 0, .int 7, []),
  (20, .istore 4, 2, 0, 0, 0, .null, []),
  (22, .iconst 0, 1, 0, 0, 0, .int 0, []),
  (23, .istore 5, 2, 0, 0, 0, .null, []),
  (25, .iload 5, 2, 0, 0, 0, .null, [(0, 0)]),
  (27, .bipush 7, 2, 0, 0, 0, .int 7, []),
  (29, .if_icmp .ge 36, 3, 65, 0, 0, .null, []),
  (32, .iload_n 3, 1, 0, 0, 0, .null, []),
  (33, .iload 5, 2, 0, 0, 0, .null, []),
  (35, .ishr, 1, 0, 0, 0, .null, []),
  (36, .iconst 1, 1, 0, 0, 0, .int 1, []),
  (37, .iand, 1, 0, 0, 0, .null, []),
  (38, .iconst 1, 1, 0, 0, 0, .int 1, []),
  (39, .if_icmp .ne 20, 3, 59, 0, 0, .null, []),
  (42, .iload 4, 2, 0, 0, 0, .null, []),
  (44, .aload_n 0, 1, 0, 0, 0, .null, []),
  (45, .iload_n 1, 1, 0, 0, 0, .null, []),
  (46, .iload_n 2, 1, 0, 0, 0, .null, []),
  (47, .iconst 1, 1, 0, 0, 0, .int 1, []),
  (48, .iload 5, 2, 0, 0, 0, .null, []),
  (50, .ishl, 1, 0, 0, 0, .null, []),
  (51, .invokevirtual 62, 3, 38, 3, 6, .null, []),
  (54, .invokestatic 66, 3, 0, 2, 4, .null, []),
  (57, .istore 4, 2, 0, 0, 0, .null, []),
  (59, .iinc 5 1, 3, 0, 0, 0, .int 1, []),
  (62, .goto (-37), 3, 25, 0, 0, .null, []),
  (65, .iload 4, 2, 0, 0, 0, .null, []),
  (67, .ireturn, 1, 0, 0, 0, .null, [])]
def am_c_Pr_probesBy : List am_E := [(0, .iconst 1, 1, 0, 0, 0, .int 1, []),
  (1, .aload_n 0, 1, 0, 0, 0, .null, []),
  (2, .getfield 22, 3, 4, 2, 2, .null, []),
  (5, .aload_n 0, 1, 0, 0, 0, .null, []),
  (6, .iload_n 1, 1, 0, 0, 0, .null, []),
  (7, .iload_n 3, 1, 0, 0, 0, .null, []),
  (8, .ior, 1, 0, 0, 0, .null, []),
  (9, .iload_n 2, 1, 0, 0, 0, .null, []),
  (10, .invokevirtual 45, 3, 34, 2, 6, .null, []),
  (13, .baload, 1, 12, 0, 0, .null, []),
  (14, .aload_n 0, 1, 0, 0, 0, .null, []),
  (15, .getfield 22, 3, 4, 2, 2, .null, []),
  (18, .aload_n 0, 1, 0, 0, 0, .null, []),
  (19, .iload_n 1, 1, 0, 0, 0, .null, []),
  (20, .iload_n 2, 1, 0, 0, 0, .null, []),
  (21, .iload_n 3, 1, 0, 0, 0, .null, []),
  (22, .ior, 1, 0, 0, 0, .null, []),
  (23, .invokevirtual 45, 3, 34, 2, 6, .null, []),
  (26, .baload, 1, 12, 0, 0, .null, []),
  (27, .invokestatic 71, 3, 0, 2, 3, .null, []),
  (30, .iadd, 1, 0, 0, 0, .null, []),
  (31, .ireturn, 1, 0, 0, 0, .null, [])]
def am_c_Pr_worst : List am_E := [(0, .aload_n 0, 1, 0, 0, 0, .null, []),
  (1, .getfield 22, 3, 4, 2, 2, .null, []),
  (4, .aload_n 0, 1, 0, 0, 0, .null, []),
  (5, .aload_n 0, 1, 0, 0, 0, .null, []),
  (6, .getfield 26, 3, 4, 3, 0, .null, []),
  (9, .aload_n 0, 1, 0, 0, 0, .null, []),
  (10, .getfield 30, 3, 4, 4, 0, .null, []),
  (13, .invokevirtual 45, 3, 34, 2, 6, .null, []),
  (16, .baload, 1, 12, 0, 0, .null, []),
  (17, .ireturn, 1, 0, 0, 0, .null, [])]
def am_c_Pr_best : List am_E := [(0, .aload_n 0, 1, 0, 0, 0, .null, []),
  (1, .aload_n 0, 1, 0, 0, 0, .null, []),
  (2, .getfield 26, 3, 4, 3, 0, .null, []),
  (5, .aload_n 0, 1, 0, 0, 0, .null, []),
  (6, .getfield 30, 3, 4, 4, 0, .null, []),
  (9, .invokevirtual 37, 3, 35, 2, 6, .null, []),
  (12, .istore_n 1, 1, 0, 0, 0, .null, []),
  (13, .aload_n 0, 1, 0, 0, 0, .null, []),
  (14, .aload_n 0, 1, 0, 0, 0, .null, []),
  (15, .getfield 26, 3, 4, 3, 0, .null, []),
  (18, .aload_n 0, 1, 0, 0, 0, .null, []),
  (19, .getfield 30, 3, 4, 4, 0, .null, []),
  (22, .invokevirtual 58, 3, 36, 2, 6, .null, []),
  (25, .ifCond .eq 6, 3, 31, 0, 0, .null, []),
  (28, .bipush (-4), 2, 0, 0, 0, .int (-4), []),
  (30, .ireturn, 1, 0, 0, 0, .null, []),
  (31, .iconst 0, 1, 0, 0, 0, .int 0, []),
  (32, .istore_n 2, 1, 0, 0, 0, .null, []),
  (33, .iload_n 2, 1, 0, 0, 0, .null, [(0, 0)]),
  (34, .bipush 7, 2, 0, 0, 0, .int 7, []),
  (36, .if_icmp .ge 42, 3, 78, 0, 0, .null, []),
  (39, .iload_n 1, 1, 0, 0, 0, .null, []),
  (40, .iload_n 2, 1, 0, 0, 0, .null, []),
  (41, .ishr, 1, 0, 0, 0, .null, []),
  (42, .iconst 1, 1, 0, 0, 0, .int 1, []),
  (43, .iand, 1, 0, 0, 0, .null, []),
  (44, .iconst 1, 1, 0, 0, 0, .int 1, []),
  (45, .if_icmp .ne 27, 3, 72, 0, 0, .null, []),
  (48, .aload_n 0, 1, 0, 0, 0, .null, []),
  (49, .aload_n 0, 1, 0, 0, 0, .null, []),
  (50, .getfield 26, 3, 4, 3, 0, .null, []),
  (53, .aload_n 0, 1, 0, 0, 0, .null, []),
  (54, .getfield 30, 3, 4, 4, 0, .null, []),
  (57, .iconst 1, 1, 0, 0, 0, .int 1, []),
  (58, .iload_n 2, 1, 0, 0, 0, .null, []),
  (59, .ishl, 1, 0, 0, 0, .null, []),
  (60, .invokevirtual 62, 3, 38, 3, 6, .null, []),
  (63, .aload_n 0, 1, 0, 0, 0, .null, []),
  (64, .invokevirtual 74, 3, 39, 0, 6, .null, []),
  (67, .if_icmp .ne 5, 3, 72, 0, 0, .null, []),
  (70, .iload_n 2, 1, 0, 0, 0, .null, []),
  (71, .ireturn, 1, 0, 0, 0, .null, []),
  (72, .iinc 2 1, 3, 0, 0, 0, .int 1, []),
  (75, .goto (-42), 3, 33, 0, 0, .null, []),
  (78, .bipush (-4), 2, 0, 0, 0, .int (-4), []),
  (80, .ireturn, 1, 0, 0, 0, .null, [])]
def am_c_Re_init : List am_E := [(0, .aload_n 0, 1, 0, 0, 0, .null, []),
  (1, .invokespecial 3, 3, 0, 0, 1, .null, []),
  (4, .aload_n 0, 1, 0, 0, 0, .null, []),
  (5, .iconst 0, 1, 0, 0, 0, .int 0, []),
  (6, .putfield 9, 3, 5, 0, 0, .null, []),
  (9, .aload_n 0, 1, 0, 0, 0, .null, []),
  (10, .iconst 0, 1, 0, 0, 0, .int 0, []),
  (11, .putfield 15, 3, 5, 1, 0, .null, []),
  (14, .aload_n 0, 1, 0, 0, 0, .null, []),
  (15, .bipush 12, 2, 0, 0, 0, .int 12, []),
  (17, .newarray .int, 2, 14, 0, 0, .null, []),
  (19, .putfield 18, 3, 5, 2, 2, .null, []),
  (22, .aload_n 0, 1, 0, 0, 0, .null, []),
  (23, .new 22, 3, 9, 0, 0, .null, []),
  (26, .dup, 1, 0, 0, 0, .null, []),
  (27, .invokespecial 24, 3, 94, 0, 2, .null, []),
  (30, .putfield 25, 3, 5, 3, 2, .null, []),
  (33, .aload_n 0, 1, 0, 0, 0, .null, []),
  (34, .iconst 3, 1, 0, 0, 0, .int 3, []),
  (35, .newarray .int, 2, 14, 0, 0, .null, []),
  (37, .putfield 29, 3, 5, 4, 2, .null, []),
  (40, .aload_n 0, 1, 0, 0, 0, .null, []),
  (41, .iconst 0, 1, 0, 0, 0, .int 0, []),
  (42, .putfield 32, 3, 5, 5, 0, .null, []),
  (45, .aload_n 0, 1, 0, 0, 0, .null, []),
  (46, .iconst 0, 1, 0, 0, 0, .int 0, []),
  (47, .putfield 35, 3, 5, 6, 0, .null, []),
  (50, .return_, 1, 0, 0, 0, .null, [])]
def am_c_Re_faultOfTape_1 : List am_E := [(89, .ifCond .ne 10, 3, 99, 0, 0, .null, []),
  (92, .aload_n 0, 1, 0, 0, 0, .null, []),
  (93, .getfield 35, 3, 5, 6, 0, .null, []),
  (96, .goto 15, 3, 111, 0, 0, .null, []),
  (99, .aload_n 0, 1, 0, 0, 0, .null, []),
  (100, .invokevirtual 66, 3, 56, 0, 7, .null, []),
  (103, .ifCond .eq 7, 3, 110, 0, 0, .null, []),
  (106, .iconst (-1), 1, 0, 0, 0, .int (-1), []),
  (107, .goto 4, 3, 111, 0, 0, .null, []),
  (110, .iload_n 1, 1, 0, 0, 0, .null, []),
  (111, .ireturn, 1, 0, 0, 0, .null, []),
  (112, .aload_n 0, 1, 0, 0, 0, .null, []),
  (113, .ldc 69, 2, 3, 0, 1, .null, []),
  (115, .iload_n 1, 1, 0, 0, 0, .null, []),
  (116, .iload_n 2, 1, 0, 0, 0, .null, []),
  (117, .invokevirtual 47, 3, 45, 3, 7, .null, []),
  (120, .ifCond .eq 12, 3, 132, 0, 0, .null, []),
  (123, .aload_n 0, 1, 0, 0, 0, .null, []),
  (124, .aload_n 0, 1, 0, 0, 0, .null, []),
  (125, .invokevirtual 71, 3, 59, 0, 7, .null, []),
  (128, .invokevirtual 54, 3, 43, 1, 7, .null, []),
  (131, .ireturn, 1, 0, 0, 0, .null, []),
  (132, .aload_n 0, 1, 0, 0, 0, .null, []),
  (133, .ldc 73, 2, 4, 0, 1, .null, []),
  (135, .iload_n 1, 1, 0, 0, 0, .null, []),
  (136, .iload_n 2, 1, 0, 0, 0, .null, []),
  (137, .invokevirtual 47, 3, 45, 3, 7, .null, []),
  (140, .ifCond .eq 14, 3, 154, 0, 0, .null, []),
  (143, .aload_n 0, 1, 0, 0, 0, .null, []),
  (144, .aload_n 0, 1, 0, 0, 0, .null, []),
  (145, .invokevirtual 75, 3, 60, 0, 7, .null, []),
  (148, .invokevirtual 54, 3, 43, 1, 7, .null, []),
  (151, .goto 4, 3, 155, 0, 0, .null, []),
  (154, .iload_n 1, 1, 0, 0, 0, .null, []),
  (155, .ireturn, 1, 0, 0, 0, .null, [])]
def am_c_Re_faultOfTape : List am_E := (0, .aload_n 0, 1, 0, 0, 0, .null, []) ::
  (1, .iconst 0, 1, 0, 0, 0, .int 0, []) ::
  (2, .putfield 9, 3, 5, 0, 0, .null, []) ::
  (5, .aload_n 0, 1, 0, 0, 0, .null, []) ::
  (6, .iconst 0, 1, 0, 0, 0, .int 0, []) ::
  (7, .putfield 15, 3, 5, 1, 0, .null, []) ::
  (10, .aload_n 0, 1, 0, 0, 0, .null, []) ::
  (11, .iconst 0, 1, 0, 0, 0, .int 0, []) ::
  (12, .putfield 35, 3, 5, 6, 0, .null, []) ::
  (15, .aload_n 0, 1, 0, 0, 0, .null, []) ::
  (16, .invokevirtual 38, 3, 46, 0, 7, .null, []) ::
  (19, .pop, 1, 0, 0, 0, .null, []) ::
  (20, .aload_n 0, 1, 0, 0, 0, .null, []) ::
  (21, .getfield 35, 3, 5, 6, 0, .null, []) ::
  (24, .istore_n 1, 1, 0, 0, 0, .null, []) ::
  (25, .aload_n 0, 1, 0, 0, 0, .null, []) ::
  (26, .invokevirtual 42, 3, 44, 0, 7, .null, []) ::
  (29, .aload_n 0, 1, 0, 0, 0, .null, []) ::
  (30, .getfield 35, 3, 5, 6, 0, .null, []) ::
  (33, .istore_n 2, 1, 0, 0, 0, .null, []) ::
  (34, .aload_n 0, 1, 0, 0, 0, .null, []) ::
  (35, .ldc 45, 2, 0, 0, 1, .null, []) ::
  (37, .iload_n 1, 1, 0, 0, 0, .null, []) ::
  (38, .iload_n 2, 1, 0, 0, 0, .null, []) ::
  (39, .invokevirtual 47, 3, 45, 3, 7, .null, []) ::
  (42, .ifCond .eq 12, 3, 54, 0, 0, .null, []) ::
  (45, .aload_n 0, 1, 0, 0, 0, .null, []) ::
  (46, .aload_n 0, 1, 0, 0, 0, .null, []) ::
  (47, .invokevirtual 51, 3, 52, 0, 7, .null, []) ::
  (50, .invokevirtual 54, 3, 43, 1, 7, .null, []) ::
  (53, .ireturn, 1, 0, 0, 0, .null, []) ::
  (54, .aload_n 0, 1, 0, 0, 0, .null, []) ::
  (55, .ldc 58, 2, 1, 0, 1, .null, []) ::
  (57, .iload_n 1, 1, 0, 0, 0, .null, []) ::
  (58, .iload_n 2, 1, 0, 0, 0, .null, []) ::
  (59, .invokevirtual 47, 3, 45, 3, 7, .null, []) ::
  (62, .ifCond .eq 12, 3, 74, 0, 0, .null, []) ::
  (65, .aload_n 0, 1, 0, 0, 0, .null, []) ::
  (66, .aload_n 0, 1, 0, 0, 0, .null, []) ::
  (67, .invokevirtual 60, 3, 53, 0, 7, .null, []) ::
  (70, .invokevirtual 54, 3, 43, 1, 7, .null, []) ::
  (73, .ireturn, 1, 0, 0, 0, .null, []) ::
  (74, .aload_n 0, 1, 0, 0, 0, .null, []) ::
  (75, .ldc 62, 2, 2, 0, 1, .null, []) ::
  (77, .iload_n 1, 1, 0, 0, 0, .null, []) ::
  (78, .iload_n 2, 1, 0, 0, 0, .null, []) ::
  (79, .invokevirtual 47, 3, 45, 3, 7, .null, []) ::
  (82, .ifCond .eq 30, 3, 112, 0, 0, .null, []) ::
  (85, .aload_n 0, 1, 0, 0, 0, .null, []) ::
  (86, .invokevirtual 64, 3, 55, 0, 7, .null, []) :: am_c_Re_faultOfTape_1
def am_c_Re_faultUnless : List am_E := [(0, .iload_n 1, 1, 0, 0, 0, .null, []),
  (1, .ifCond .eq 7, 3, 8, 0, 0, .null, []),
  (4, .iconst (-1), 1, 0, 0, 0, .int (-1), []),
  (5, .goto 7, 3, 12, 0, 0, .null, []),
  (8, .aload_n 0, 1, 0, 0, 0, .null, []),
  (9, .getfield 35, 3, 5, 6, 0, .null, []),
  (12, .ireturn, 1, 0, 0, 0, .null, [])]
def am_c_Re_skipName : List am_E := [(0, .aload_n 0, 1, 0, 0, 0, .null, [(0, 0)]),
  (1, .getfield 25, 3, 5, 3, 2, .null, []),
  (4, .aload_n 0, 1, 0, 0, 0, .null, []),
  (5, .getfield 35, 3, 5, 6, 0, .null, []),
  (8, .invokevirtual 78, 3, 96, 1, 11, .null, []),
  (11, .bipush 97, 2, 0, 0, 0, .int 97, []),
  (13, .if_icmp .lt 41, 3, 54, 0, 0, .null, []),
  (16, .aload_n 0, 1, 0, 0, 0, .null, []),
  (17, .getfield 25, 3, 5, 3, 2, .null, []),
  (20, .aload_n 0, 1, 0, 0, 0, .null, []),
  (21, .getfield 35, 3, 5, 6, 0, .null, []),
  (24, .invokevirtual 78, 3, 96, 1, 11, .null, []),
  (27, .bipush 122, 2, 0, 0, 0, .int 122, []),
  (29, .if_icmp .gt 25, 3, 54, 0, 0, .null, []),
  (32, .aload_n 0, 1, 0, 0, 0, .null, []),
  (33, .getfield 35, 3, 5, 6, 0, .null, []),
  (36, .bipush 90, 2, 0, 0, 0, .int 90, []),
  (38, .if_icmp .ge 16, 3, 54, 0, 0, .null, []),
  (41, .aload_n 0, 1, 0, 0, 0, .null, []),
  (42, .dup, 1, 0, 0, 0, .null, []),
  (43, .getfield 35, 3, 5, 6, 0, .null, []),
  (46, .iconst 1, 1, 0, 0, 0, .int 1, []),
  (47, .iadd, 1, 0, 0, 0, .null, []),
  (48, .putfield 35, 3, 5, 6, 0, .null, []),
  (51, .goto (-51), 3, 0, 0, 0, .null, []),
  (54, .return_, 1, 0, 0, 0, .null, [])]
def am_c_Re_isName : List am_E := [(0, .iload_n 3, 1, 0, 0, 0, .null, []),
  (1, .iload_n 2, 1, 0, 0, 0, .null, []),
  (2, .isub, 1, 0, 0, 0, .null, []),
  (3, .aload_n 1, 1, 0, 0, 0, .null, []),
  (4, .invokevirtual 81, 3, 0, 0, 0, .null, []),
  (7, .if_icmp .eq 5, 3, 12, 0, 0, .null, []),
  (10, .iconst 0, 1, 0, 0, 0, .int 0, []),
  (11, .ireturn, 1, 0, 0, 0, .null, []),
  (12, .iconst 0, 1, 0, 0, 0, .int 0, []),
  (13, .istore 4, 2, 0, 0, 0, .null, []),
  (15, .iload 4, 2, 0, 0, 0, .null, [(0, 0)]),
  (17, .aload_n 1, 1, 0, 0, 0, .null, []),
  (18, .invokevirtual 81, 3, 0, 0, 0, .null, []),
  (21, .if_icmp .ge 31, 3, 52, 0, 0, .null, []),
  (24, .aload_n 0, 1, 0, 0, 0, .null, []),
  (25, .getfield 25, 3, 5, 3, 2, .null, []),
  (28, .iload_n 2, 1, 0, 0, 0, .null, []),
  (29, .iload 4, 2, 0, 0, 0, .null, []),
  (31, .iadd, 1, 0, 0, 0, .null, []),
  (32, .invokevirtual 78, 3, 96, 1, 11, .null, []),
  (35, .aload_n 1, 1, 0, 0, 0, .null, []),
  (36, .iload 4, 2, 0, 0, 0, .null, []),
  (38, .invokevirtual 87, 3, 0, 1, 1, .null, []),
  (41, .if_icmp .eq 5, 3, 46, 0, 0, .null, []),
  (44, .iconst 0, 1, 0, 0, 0, .int 0, []),
  (45, .ireturn, 1, 0, 0, 0, .null, []),
  (46, .iinc 4 1, 3, 0, 0, 0, .int 1, []),
  (49, .goto (-34), 3, 15, 0, 0, .null, []),
  (52, .iconst 1, 1, 0, 0, 0, .int 1, []),
  (53, .ireturn, 1, 0, 0, 0, .null, [])]
def am_c_Re_next : List am_E := [(0, .aload_n 0, 1, 0, 0, 0, .null, [(0, 0)]),
  (1, .getfield 25, 3, 5, 3, 2, .null, []),
  (4, .aload_n 0, 1, 0, 0, 0, .null, []),
  (5, .getfield 35, 3, 5, 6, 0, .null, []),
  (8, .invokevirtual 78, 3, 96, 1, 11, .null, []),
  (11, .bipush 32, 2, 0, 0, 0, .int 32, []),
  (13, .if_icmp .ne 25, 3, 38, 0, 0, .null, []),
  (16, .aload_n 0, 1, 0, 0, 0, .null, []),
  (17, .getfield 35, 3, 5, 6, 0, .null, []),
  (20, .bipush 90, 2, 0, 0, 0, .int 90, []),
  (22, .if_icmp .ge 16, 3, 38, 0, 0, .null, []),
  (25, .aload_n 0, 1, 0, 0, 0, .null, []),
  (26, .dup, 1, 0, 0, 0, .null, []),
  (27, .getfield 35, 3, 5, 6, 0, .null, []),
  (30, .iconst 1, 1, 0, 0, 0, .int 1, []),
  (31, .iadd, 1, 0, 0, 0, .null, []),
  (32, .putfield 35, 3, 5, 6, 0, .null, []),
  (35, .goto (-35), 3, 0, 0, 0, .null, []),
  (38, .aload_n 0, 1, 0, 0, 0, .null, []),
  (39, .getfield 25, 3, 5, 3, 2, .null, []),
  (42, .aload_n 0, 1, 0, 0, 0, .null, []),
  (43, .getfield 35, 3, 5, 6, 0, .null, []),
  (46, .invokevirtual 78, 3, 96, 1, 11, .null, []),
  (49, .ireturn, 1, 0, 0, 0, .null, [])]
def am_c_Re_skips : List am_E := [(0, .aload_n 0, 1, 0, 0, 0, .null, []),
  (1, .invokevirtual 38, 3, 46, 0, 7, .null, []),
  (4, .iload_n 1, 1, 0, 0, 0, .null, []),
  (5, .if_icmp .eq 5, 3, 10, 0, 0, .null, []),
  (8, .iconst 0, 1, 0, 0, 0, .int 0, []),
  (9, .ireturn, 1, 0, 0, 0, .null, []),
  (10, .aload_n 0, 1, 0, 0, 0, .null, []),
  (11, .dup, 1, 0, 0, 0, .null, []),
  (12, .getfield 35, 3, 5, 6, 0, .null, []),
  (15, .iconst 1, 1, 0, 0, 0, .int 1, []),
  (16, .iadd, 1, 0, 0, 0, .null, []),
  (17, .putfield 35, 3, 5, 6, 0, .null, []),
  (20, .iconst 1, 1, 0, 0, 0, .int 1, []),
  (21, .ireturn, 1, 0, 0, 0, .null, [])]
def am_c_Re_figure : List am_E := [(0, .aload_n 0, 1, 0, 0, 0, .null, []),
  (1, .invokevirtual 38, 3, 46, 0, 7, .null, []),
  (4, .bipush 48, 2, 0, 0, 0, .int 48, []),
  (6, .isub, 1, 0, 0, 0, .null, []),
  (7, .istore_n 2, 1, 0, 0, 0, .null, []),
  (8, .iload_n 2, 1, 0, 0, 0, .null, []),
  (9, .iconst 1, 1, 0, 0, 0, .int 1, []),
  (10, .if_icmp .lt 8, 3, 18, 0, 0, .null, []),
  (13, .iload_n 2, 1, 0, 0, 0, .null, []),
  (14, .iload_n 1, 1, 0, 0, 0, .null, []),
  (15, .if_icmp .le 5, 3, 20, 0, 0, .null, []),
  (18, .iconst 0, 1, 0, 0, 0, .int 0, []),
  (19, .ireturn, 1, 0, 0, 0, .null, []),
  (20, .aload_n 0, 1, 0, 0, 0, .null, []),
  (21, .dup, 1, 0, 0, 0, .null, []),
  (22, .getfield 35, 3, 5, 6, 0, .null, []),
  (25, .iconst 1, 1, 0, 0, 0, .int 1, []),
  (26, .iadd, 1, 0, 0, 0, .null, []),
  (27, .putfield 35, 3, 5, 6, 0, .null, []),
  (30, .iload_n 2, 1, 0, 0, 0, .null, []),
  (31, .ireturn, 1, 0, 0, 0, .null, [])]
def am_c_Re_ends : List am_E := [(0, .aload_n 0, 1, 0, 0, 0, .null, []),
  (1, .invokevirtual 38, 3, 46, 0, 7, .null, []),
  (4, .ifCond .ne 7, 3, 11, 0, 0, .null, []),
  (7, .iconst 1, 1, 0, 0, 0, .int 1, []),
  (8, .goto 4, 3, 12, 0, 0, .null, []),
  (11, .iconst 0, 1, 0, 0, 0, .int 0, []),
  (12, .ireturn, 1, 0, 0, 0, .null, [])]
def am_c_Re_isTold : List am_E := [(0, .iconst 0, 1, 0, 0, 0, .int 0, []),
  (1, .istore_n 2, 1, 0, 0, 0, .null, []),
  (2, .iload_n 2, 1, 0, 0, 0, .null, [(0, 0)]),
  (3, .aload_n 0, 1, 0, 0, 0, .null, []),
  (4, .getfield 15, 3, 5, 1, 0, .null, []),
  (7, .if_icmp .ge 21, 3, 28, 0, 0, .null, []),
  (10, .aload_n 0, 1, 0, 0, 0, .null, []),
  (11, .getfield 18, 3, 5, 2, 2, .null, []),
  (14, .iload_n 2, 1, 0, 0, 0, .null, []),
  (15, .iaload, 1, 0, 0, 0, .null, []),
  (16, .iload_n 1, 1, 0, 0, 0, .null, []),
  (17, .if_icmp .ne 5, 3, 22, 0, 0, .null, []),
  (20, .iconst 1, 1, 0, 0, 0, .int 1, []),
  (21, .ireturn, 1, 0, 0, 0, .null, []),
  (22, .iinc 2 1, 3, 0, 0, 0, .int 1, []),
  (25, .goto (-23), 3, 2, 0, 0, .null, []),
  (28, .iconst 0, 1, 0, 0, 0, .int 0, []),
  (29, .ireturn, 1, 0, 0, 0, .null, [])]
def am_c_Re_tell : List am_E := [(0, .aload_n 0, 1, 0, 0, 0, .null, []),
  (1, .getfield 15, 3, 5, 1, 0, .null, []),
  (4, .bipush 12, 2, 0, 0, 0, .int 12, []),
  (6, .if_icmp .ge 31, 3, 37, 0, 0, .null, []),
  (9, .aload_n 0, 1, 0, 0, 0, .null, []),
  (10, .iload_n 1, 1, 0, 0, 0, .null, []),
  (11, .invokevirtual 90, 3, 50, 1, 7, .null, []),
  (14, .ifCond .ne 23, 3, 37, 0, 0, .null, []),
  (17, .aload_n 0, 1, 0, 0, 0, .null, []),
  (18, .getfield 18, 3, 5, 2, 2, .null, []),
  (21, .aload_n 0, 1, 0, 0, 0, .null, []),
  (22, .getfield 15, 3, 5, 1, 0, .null, []),
  (25, .iload_n 1, 1, 0, 0, 0, .null, []),
  (26, .iastore, 1, 0, 0, 0, .null, []),
  (27, .aload_n 0, 1, 0, 0, 0, .null, []),
  (28, .dup, 1, 0, 0, 0, .null, []),
  (29, .getfield 15, 3, 5, 1, 0, .null, []),
  (32, .iconst 1, 1, 0, 0, 0, .int 1, []),
  (33, .iadd, 1, 0, 0, 0, .null, []),
  (34, .putfield 15, 3, 5, 1, 0, .null, []),
  (37, .return_, 1, 0, 0, 0, .null, [])]
def am_c_Re_majority : List am_E := [(0, .aload_n 0, 1, 0, 0, 0, .null, []),
  (1, .aload_n 0, 1, 0, 0, 0, .null, []),
  (2, .iconst 5, 1, 0, 0, 0, .int 5, []),
  (3, .invokevirtual 94, 3, 48, 1, 7, .null, []),
  (6, .putfield 9, 3, 5, 0, 0, .null, []),
  (9, .aload_n 0, 1, 0, 0, 0, .null, []),
  (10, .getfield 9, 3, 5, 0, 0, .null, []),
  (13, .ifCond .eq 10, 3, 23, 0, 0, .null, []),
  (16, .aload_n 0, 1, 0, 0, 0, .null, []),
  (17, .invokevirtual 98, 3, 49, 0, 7, .null, []),
  (20, .ifCond .ne 5, 3, 25, 0, 0, .null, []),
  (23, .iconst 0, 1, 0, 0, 0, .int 0, []),
  (24, .ireturn, 1, 0, 0, 0, .null, []),
  (25, .iconst 0, 1, 0, 0, 0, .int 0, []),
  (26, .istore_n 1, 1, 0, 0, 0, .null, []),
  (27, .iload_n 1, 1, 0, 0, 0, .null, [(0, 0)]),
  (28, .iconst 1, 1, 0, 0, 0, .int 1, []),
  (29, .aload_n 0, 1, 0, 0, 0, .null, []),
  (30, .getfield 9, 3, 5, 0, 0, .null, []),
  (33, .ishl, 1, 0, 0, 0, .null, []),
  (34, .if_icmp .ge 29, 3, 63, 0, 0, .null, []),
  (37, .iload_n 1, 1, 0, 0, 0, .null, []),
  (38, .invokestatic 101, 3, 0, 1, 0, .null, []),
  (41, .aload_n 0, 1, 0, 0, 0, .null, []),
  (42, .getfield 9, 3, 5, 0, 0, .null, []),
  (45, .iconst 2, 1, 0, 0, 0, .int 2, []),
  (46, .idiv, 1, 0, 0, 0, .null, []),
  (47, .iconst 1, 1, 0, 0, 0, .int 1, []),
  (48, .iadd, 1, 0, 0, 0, .null, []),
  (49, .if_icmp .ne 8, 3, 57, 0, 0, .null, []),
  (52, .aload_n 0, 1, 0, 0, 0, .null, []),
  (53, .iload_n 1, 1, 0, 0, 0, .null, []),
  (54, .invokevirtual 106, 3, 51, 1, 7, .null, []),
  (57, .iinc 1 1, 3, 0, 0, 0, .int 1, []),
  (60, .goto (-33), 3, 27, 0, 0, .null, []),
  (63, .iconst 1, 1, 0, 0, 0, .int 1, []),
  (64, .ireturn, 1, 0, 0, 0, .null, [])]
def am_c_Re_grid_1 : List am_E := [(81, .istore 4, 2, 0, 0, 0, .null, []),
  (83, .iload 4, 2, 0, 0, 0, .null, [(0, 0)]),
  (85, .iload_n 2, 1, 0, 0, 0, .null, []),
  (86, .if_icmp .ge 41, 3, 127, 0, 0, .null, []),
  (89, .iconst 0, 1, 0, 0, 0, .int 0, []),
  (90, .istore 5, 2, 0, 0, 0, .null, []),
  (92, .iload 5, 2, 0, 0, 0, .null, [(0, 0)]),
  (94, .iload_n 1, 1, 0, 0, 0, .null, []),
  (95, .if_icmp .ge 26, 3, 121, 0, 0, .null, []),
  (98, .aload_n 0, 1, 0, 0, 0, .null, []),
  (99, .iload_n 1, 1, 0, 0, 0, .null, []),
  (100, .iload_n 1, 1, 0, 0, 0, .null, []),
  (101, .iload 4, 2, 0, 0, 0, .null, []),
  (103, .imul, 1, 0, 0, 0, .null, []),
  (104, .invokestatic 120, 3, 54, 2, 0, .null, []),
  (107, .iload_n 3, 1, 0, 0, 0, .null, []),
  (108, .iload 5, 2, 0, 0, 0, .null, []),
  (110, .ishl, 1, 0, 0, 0, .null, []),
  (111, .ior, 1, 0, 0, 0, .null, []),
  (112, .invokevirtual 106, 3, 51, 1, 7, .null, []),
  (115, .iinc 5 1, 3, 0, 0, 0, .int 1, []),
  (118, .goto (-26), 3, 92, 0, 0, .null, []),
  (121, .iinc 4 1, 3, 0, 0, 0, .int 1, []),
  (124, .goto (-41), 3, 83, 0, 0, .null, []),
  (127, .iconst 1, 1, 0, 0, 0, .int 1, []),
  (128, .ireturn, 1, 0, 0, 0, .null, [])]
def am_c_Re_grid : List am_E := (0, .aload_n 0, 1, 0, 0, 0, .null, []) ::
  (1, .iconst 4, 1, 0, 0, 0, .int 4, []) ::
  (2, .invokevirtual 94, 3, 48, 1, 7, .null, []) ::
  (5, .istore_n 1, 1, 0, 0, 0, .null, []) ::
  (6, .iload_n 1, 1, 0, 0, 0, .null, []) ::
  (7, .ifCond .eq 12, 3, 19, 0, 0, .null, []) ::
  (10, .aload_n 0, 1, 0, 0, 0, .null, []) ::
  (11, .bipush 42, 2, 0, 0, 0, .int 42, []) ::
  (13, .invokevirtual 110, 3, 47, 1, 7, .null, []) ::
  (16, .ifCond .ne 5, 3, 21, 0, 0, .null, []) ::
  (19, .iconst 0, 1, 0, 0, 0, .int 0, []) ::
  (20, .ireturn, 1, 0, 0, 0, .null, []) ::
  (21, .aload_n 0, 1, 0, 0, 0, .null, []) ::
  (22, .iconst 4, 1, 0, 0, 0, .int 4, []) ::
  (23, .bipush 7, 2, 0, 0, 0, .int 7, []) ::
  (25, .iload_n 1, 1, 0, 0, 0, .null, []) ::
  (26, .idiv, 1, 0, 0, 0, .null, []) ::
  (27, .invokestatic 114, 3, 0, 2, 4, .null, []) ::
  (30, .invokevirtual 94, 3, 48, 1, 7, .null, []) ::
  (33, .istore_n 2, 1, 0, 0, 0, .null, []) ::
  (34, .iload_n 2, 1, 0, 0, 0, .null, []) ::
  (35, .ifCond .eq 10, 3, 45, 0, 0, .null, []) ::
  (38, .aload_n 0, 1, 0, 0, 0, .null, []) ::
  (39, .invokevirtual 98, 3, 49, 0, 7, .null, []) ::
  (42, .ifCond .ne 5, 3, 47, 0, 0, .null, []) ::
  (45, .iconst 0, 1, 0, 0, 0, .int 0, []) ::
  (46, .ireturn, 1, 0, 0, 0, .null, []) ::
  (47, .aload_n 0, 1, 0, 0, 0, .null, []) ::
  (48, .iload_n 1, 1, 0, 0, 0, .null, []) ::
  (49, .iload_n 2, 1, 0, 0, 0, .null, []) ::
  (50, .imul, 1, 0, 0, 0, .null, []) ::
  (51, .putfield 9, 3, 5, 0, 0, .null, []) ::
  (54, .iconst 0, 1, 0, 0, 0, .int 0, []) ::
  (55, .istore_n 3, 1, 0, 0, 0, .null, []) ::
  (56, .iconst 0, 1, 0, 0, 0, .int 0, []) ::
  (57, .istore 4, 2, 0, 0, 0, .null, []) ::
  (59, .iload 4, 2, 0, 0, 0, .null, [(0, 0)]) ::
  (61, .iload_n 2, 1, 0, 0, 0, .null, []) ::
  (62, .if_icmp .ge 18, 3, 80, 0, 0, .null, []) ::
  (65, .iload_n 3, 1, 0, 0, 0, .null, []) ::
  (66, .iconst 1, 1, 0, 0, 0, .int 1, []) ::
  (67, .iload_n 1, 1, 0, 0, 0, .null, []) ::
  (68, .iload 4, 2, 0, 0, 0, .null, []) ::
  (70, .imul, 1, 0, 0, 0, .null, []) ::
  (71, .ishl, 1, 0, 0, 0, .null, []) ::
  (72, .ior, 1, 0, 0, 0, .null, []) ::
  (73, .istore_n 3, 1, 0, 0, 0, .null, []) ::
  (74, .iinc 4 1, 3, 0, 0, 0, .int 1, []) ::
  (77, .goto (-18), 3, 59, 0, 0, .null, []) ::
  (80, .iconst 0, 1, 0, 0, 0, .int 0, []) :: am_c_Re_grid_1
def am_c_Re_wallRow : List am_E := [(0, .iconst 1, 1, 0, 0, 0, .int 1, []),
  (1, .iload_n 0, 1, 0, 0, 0, .null, []),
  (2, .ishl, 1, 0, 0, 0, .null, []),
  (3, .iconst 1, 1, 0, 0, 0, .int 1, []),
  (4, .isub, 1, 0, 0, 0, .null, []),
  (5, .iload_n 1, 1, 0, 0, 0, .null, []),
  (6, .ishl, 1, 0, 0, 0, .null, []),
  (7, .ireturn, 1, 0, 0, 0, .null, [])]
def am_c_Re_wall_1 : List am_E := [(90, .invokevirtual 98, 3, 49, 0, 7, .null, []),
  (93, .ireturn, 1, 0, 0, 0, .null, [])]
def am_c_Re_wall : List am_E := (0, .aload_n 0, 1, 0, 0, 0, .null, []) ::
  (1, .iconst 0, 1, 0, 0, 0, .int 0, []) ::
  (2, .putfield 32, 3, 5, 5, 0, .null, []) ::
  (5, .aload_n 0, 1, 0, 0, 0, .null, [(0, 0)]) ::
  (6, .getfield 32, 3, 5, 5, 0, .null, []) ::
  (9, .iconst 3, 1, 0, 0, 0, .int 3, []) ::
  (10, .if_icmp .ge 79, 3, 89, 0, 0, .null, []) ::
  (13, .aload_n 0, 1, 0, 0, 0, .null, []) ::
  (14, .getfield 32, 3, 5, 5, 0, .null, []) ::
  (17, .ifCond .le 17, 3, 34, 0, 0, .null, []) ::
  (20, .aload_n 0, 1, 0, 0, 0, .null, []) ::
  (21, .bipush 44, 2, 0, 0, 0, .int 44, []) ::
  (23, .invokevirtual 110, 3, 47, 1, 7, .null, []) ::
  (26, .ifCond .ne 8, 3, 34, 0, 0, .null, []) ::
  (29, .aload_n 0, 1, 0, 0, 0, .null, []) ::
  (30, .invokevirtual 98, 3, 49, 0, 7, .null, []) ::
  (33, .ireturn, 1, 0, 0, 0, .null, []) ::
  (34, .aload_n 0, 1, 0, 0, 0, .null, []) ::
  (35, .iconst 4, 1, 0, 0, 0, .int 4, []) ::
  (36, .bipush 7, 2, 0, 0, 0, .int 7, []) ::
  (38, .aload_n 0, 1, 0, 0, 0, .null, []) ::
  (39, .getfield 9, 3, 5, 0, 0, .null, []) ::
  (42, .isub, 1, 0, 0, 0, .null, []) ::
  (43, .invokestatic 114, 3, 0, 2, 4, .null, []) ::
  (46, .invokevirtual 94, 3, 48, 1, 7, .null, []) ::
  (49, .istore_n 1, 1, 0, 0, 0, .null, []) ::
  (50, .iload_n 1, 1, 0, 0, 0, .null, []) ::
  (51, .ifCond .ne 5, 3, 56, 0, 0, .null, []) ::
  (54, .iconst 0, 1, 0, 0, 0, .int 0, []) ::
  (55, .ireturn, 1, 0, 0, 0, .null, []) ::
  (56, .aload_n 0, 1, 0, 0, 0, .null, []) ::
  (57, .getfield 29, 3, 5, 4, 2, .null, []) ::
  (60, .aload_n 0, 1, 0, 0, 0, .null, []) ::
  (61, .getfield 32, 3, 5, 5, 0, .null, []) ::
  (64, .iload_n 1, 1, 0, 0, 0, .null, []) ::
  (65, .iastore, 1, 0, 0, 0, .null, []) ::
  (66, .aload_n 0, 1, 0, 0, 0, .null, []) ::
  (67, .dup, 1, 0, 0, 0, .null, []) ::
  (68, .getfield 9, 3, 5, 0, 0, .null, []) ::
  (71, .iload_n 1, 1, 0, 0, 0, .null, []) ::
  (72, .iadd, 1, 0, 0, 0, .null, []) ::
  (73, .putfield 9, 3, 5, 0, 0, .null, []) ::
  (76, .aload_n 0, 1, 0, 0, 0, .null, []) ::
  (77, .dup, 1, 0, 0, 0, .null, []) ::
  (78, .getfield 32, 3, 5, 5, 0, .null, []) ::
  (81, .iconst 1, 1, 0, 0, 0, .int 1, []) ::
  (82, .iadd, 1, 0, 0, 0, .null, []) ::
  (83, .putfield 32, 3, 5, 5, 0, .null, []) ::
  (86, .goto (-81), 3, 5, 0, 0, .null, []) ::
  (89, .aload_n 0, 1, 0, 0, 0, .null, []) :: am_c_Re_wall_1
def am_c_Re_isWallTold_1 : List am_E := [(84, .goto (-35), 3, 49, 0, 0, .null, []),
  (87, .iload_n 2, 1, 0, 0, 0, .null, []),
  (88, .aload_n 0, 1, 0, 0, 0, .null, []),
  (89, .getfield 29, 3, 5, 4, 2, .null, []),
  (92, .iload_n 3, 1, 0, 0, 0, .null, []),
  (93, .iaload, 1, 0, 0, 0, .null, []),
  (94, .iadd, 1, 0, 0, 0, .null, []),
  (95, .istore_n 2, 1, 0, 0, 0, .null, []),
  (96, .iinc 3 1, 3, 0, 0, 0, .int 1, []),
  (99, .goto (-61), 3, 38, 0, 0, .null, []),
  (102, .iconst 1, 1, 0, 0, 0, .int 1, []),
  (103, .ireturn, 1, 0, 0, 0, .null, [])]
def am_c_Re_isWallTold : List am_E := (0, .iconst 0, 1, 0, 0, 0, .int 0, []) ::
  (1, .istore_n 1, 1, 0, 0, 0, .null, []) ::
  (2, .iconst 0, 1, 0, 0, 0, .int 0, []) ::
  (3, .istore_n 2, 1, 0, 0, 0, .null, []) ::
  (4, .iload_n 2, 1, 0, 0, 0, .null, [(0, 0)]) ::
  (5, .aload_n 0, 1, 0, 0, 0, .null, []) ::
  (6, .getfield 32, 3, 5, 5, 0, .null, []) ::
  (9, .if_icmp .ge 17, 3, 26, 0, 0, .null, []) ::
  (12, .iload_n 1, 1, 0, 0, 0, .null, []) ::
  (13, .aload_n 0, 1, 0, 0, 0, .null, []) ::
  (14, .iload_n 2, 1, 0, 0, 0, .null, []) ::
  (15, .invokevirtual 123, 3, 57, 1, 7, .null, []) ::
  (18, .iadd, 1, 0, 0, 0, .null, []) ::
  (19, .istore_n 1, 1, 0, 0, 0, .null, []) ::
  (20, .iinc 2 1, 3, 0, 0, 0, .int 1, []) ::
  (23, .goto (-19), 3, 4, 0, 0, .null, []) ::
  (26, .iload_n 1, 1, 0, 0, 0, .null, []) ::
  (27, .bipush 12, 2, 0, 0, 0, .int 12, []) ::
  (29, .if_icmp .le 5, 3, 34, 0, 0, .null, []) ::
  (32, .iconst 0, 1, 0, 0, 0, .int 0, []) ::
  (33, .ireturn, 1, 0, 0, 0, .null, []) ::
  (34, .iconst 0, 1, 0, 0, 0, .int 0, []) ::
  (35, .istore_n 2, 1, 0, 0, 0, .null, []) ::
  (36, .iconst 0, 1, 0, 0, 0, .int 0, []) ::
  (37, .istore_n 3, 1, 0, 0, 0, .null, []) ::
  (38, .iload_n 3, 1, 0, 0, 0, .null, [(0, 0)]) ::
  (39, .aload_n 0, 1, 0, 0, 0, .null, []) ::
  (40, .getfield 32, 3, 5, 5, 0, .null, []) ::
  (43, .if_icmp .ge 59, 3, 102, 0, 0, .null, []) ::
  (46, .iconst 0, 1, 0, 0, 0, .int 0, []) ::
  (47, .istore 4, 2, 0, 0, 0, .null, []) ::
  (49, .iload 4, 2, 0, 0, 0, .null, [(0, 0)]) ::
  (51, .aload_n 0, 1, 0, 0, 0, .null, []) ::
  (52, .iload_n 3, 1, 0, 0, 0, .null, []) ::
  (53, .invokevirtual 123, 3, 57, 1, 7, .null, []) ::
  (56, .if_icmp .ge 31, 3, 87, 0, 0, .null, []) ::
  (59, .aload_n 0, 1, 0, 0, 0, .null, []) ::
  (60, .aload_n 0, 1, 0, 0, 0, .null, []) ::
  (61, .getfield 29, 3, 5, 4, 2, .null, []) ::
  (64, .iload_n 3, 1, 0, 0, 0, .null, []) ::
  (65, .iaload, 1, 0, 0, 0, .null, []) ::
  (66, .iload_n 2, 1, 0, 0, 0, .null, []) ::
  (67, .invokestatic 120, 3, 54, 2, 0, .null, []) ::
  (70, .aload_n 0, 1, 0, 0, 0, .null, []) ::
  (71, .iload_n 3, 1, 0, 0, 0, .null, []) ::
  (72, .iload 4, 2, 0, 0, 0, .null, []) ::
  (74, .invokevirtual 126, 3, 58, 2, 7, .null, []) ::
  (77, .ior, 1, 0, 0, 0, .null, []) ::
  (78, .invokevirtual 106, 3, 51, 1, 7, .null, []) ::
  (81, .iinc 4 1, 3, 0, 0, 0, .int 1, []) :: am_c_Re_isWallTold_1
def am_c_Re_waysBelow : List am_E := [(0, .iconst 1, 1, 0, 0, 0, .int 1, []),
  (1, .istore_n 2, 1, 0, 0, 0, .null, []),
  (2, .iload_n 1, 1, 0, 0, 0, .null, []),
  (3, .iconst 1, 1, 0, 0, 0, .int 1, []),
  (4, .iadd, 1, 0, 0, 0, .null, []),
  (5, .istore_n 3, 1, 0, 0, 0, .null, []),
  (6, .iload_n 3, 1, 0, 0, 0, .null, [(0, 0)]),
  (7, .aload_n 0, 1, 0, 0, 0, .null, []),
  (8, .getfield 32, 3, 5, 5, 0, .null, []),
  (11, .if_icmp .ge 18, 3, 29, 0, 0, .null, []),
  (14, .iload_n 2, 1, 0, 0, 0, .null, []),
  (15, .aload_n 0, 1, 0, 0, 0, .null, []),
  (16, .getfield 29, 3, 5, 4, 2, .null, []),
  (19, .iload_n 3, 1, 0, 0, 0, .null, []),
  (20, .iaload, 1, 0, 0, 0, .null, []),
  (21, .imul, 1, 0, 0, 0, .null, []),
  (22, .istore_n 2, 1, 0, 0, 0, .null, []),
  (23, .iinc 3 1, 3, 0, 0, 0, .int 1, []),
  (26, .goto (-20), 3, 6, 0, 0, .null, []),
  (29, .iload_n 2, 1, 0, 0, 0, .null, []),
  (30, .ireturn, 1, 0, 0, 0, .null, [])]
def am_c_Re_chosenBelow : List am_E := [(0, .iconst 0, 1, 0, 0, 0, .int 0, []),
  (1, .istore_n 3, 1, 0, 0, 0, .null, []),
  (2, .iload_n 2, 1, 0, 0, 0, .null, []),
  (3, .istore 4, 2, 0, 0, 0, .null, []),
  (5, .aload_n 0, 1, 0, 0, 0, .null, []),
  (6, .getfield 9, 3, 5, 0, 0, .null, []),
  (9, .istore 5, 2, 0, 0, 0, .null, []),
  (11, .aload_n 0, 1, 0, 0, 0, .null, []),
  (12, .getfield 32, 3, 5, 5, 0, .null, []),
  (15, .iconst 1, 1, 0, 0, 0, .int 1, []),
  (16, .isub, 1, 0, 0, 0, .null, []),
  (17, .istore 6, 2, 0, 0, 0, .null, []),
  (19, .iload 6, 2, 0, 0, 0, .null, [(0, 0)]),
  (21, .iload_n 1, 1, 0, 0, 0, .null, []),
  (22, .if_icmp .le 50, 3, 72, 0, 0, .null, []),
  (25, .aload_n 0, 1, 0, 0, 0, .null, []),
  (26, .getfield 29, 3, 5, 4, 2, .null, []),
  (29, .iload 6, 2, 0, 0, 0, .null, []),
  (31, .iaload, 1, 0, 0, 0, .null, []),
  (32, .istore 7, 2, 0, 0, 0, .null, []),
  (34, .iload 5, 2, 0, 0, 0, .null, []),
  (36, .iload 7, 2, 0, 0, 0, .null, []),
  (38, .isub, 1, 0, 0, 0, .null, []),
  (39, .istore 5, 2, 0, 0, 0, .null, []),
  (41, .iload 7, 2, 0, 0, 0, .null, []),
  (43, .ifCond .le 23, 3, 66, 0, 0, .null, []),
  (46, .iload_n 3, 1, 0, 0, 0, .null, []),
  (47, .iconst 1, 1, 0, 0, 0, .int 1, []),
  (48, .iload 5, 2, 0, 0, 0, .null, []),
  (50, .iload 4, 2, 0, 0, 0, .null, []),
  (52, .iload 7, 2, 0, 0, 0, .null, []),
  (54, .irem, 1, 0, 0, 0, .null, []),
  (55, .iadd, 1, 0, 0, 0, .null, []),
  (56, .ishl, 1, 0, 0, 0, .null, []),
  (57, .ior, 1, 0, 0, 0, .null, []),
  (58, .istore_n 3, 1, 0, 0, 0, .null, []),
  (59, .iload 4, 2, 0, 0, 0, .null, []),
  (61, .iload 7, 2, 0, 0, 0, .null, []),
  (63, .idiv, 1, 0, 0, 0, .null, []),
  (64, .istore 4, 2, 0, 0, 0, .null, []),
  (66, .iinc 6 (-1), 3, 0, 0, 0, .int (-1), []),
  (69, .goto (-50), 3, 19, 0, 0, .null, []),
  (72, .iload_n 3, 1, 0, 0, 0, .null, []),
  (73, .ireturn, 1, 0, 0, 0, .null, [])]
def am_c_Re_plane : List am_E := [(0, .aload_n 0, 1, 0, 0, 0, .null, []),
  (1, .bipush 7, 2, 0, 0, 0, .int 7, []),
  (3, .putfield 9, 3, 5, 0, 0, .null, []),
  (6, .aload_n 0, 1, 0, 0, 0, .null, []),
  (7, .invokevirtual 98, 3, 49, 0, 7, .null, []),
  (10, .ifCond .ne 5, 3, 15, 0, 0, .null, []),
  (13, .iconst 0, 1, 0, 0, 0, .int 0, []),
  (14, .ireturn, 1, 0, 0, 0, .null, []),
  (15, .iconst 0, 1, 0, 0, 0, .int 0, []),
  (16, .istore_n 1, 1, 0, 0, 0, .null, []),
  (17, .iload_n 1, 1, 0, 0, 0, .null, [(0, 0)]),
  (18, .aload_n 0, 1, 0, 0, 0, .null, []),
  (19, .getfield 9, 3, 5, 0, 0, .null, []),
  (22, .if_icmp .ge 34, 3, 56, 0, 0, .null, []),
  (25, .aload_n 0, 1, 0, 0, 0, .null, []),
  (26, .iconst 1, 1, 0, 0, 0, .int 1, []),
  (27, .iload_n 1, 1, 0, 0, 0, .null, []),
  (28, .ishl, 1, 0, 0, 0, .null, []),
  (29, .iconst 1, 1, 0, 0, 0, .int 1, []),
  (30, .iload_n 1, 1, 0, 0, 0, .null, []),
  (31, .iconst 1, 1, 0, 0, 0, .int 1, []),
  (32, .iadd, 1, 0, 0, 0, .null, []),
  (33, .bipush 7, 2, 0, 0, 0, .int 7, []),
  (35, .irem, 1, 0, 0, 0, .null, []),
  (36, .ishl, 1, 0, 0, 0, .null, []),
  (37, .ior, 1, 0, 0, 0, .null, []),
  (38, .iconst 1, 1, 0, 0, 0, .int 1, []),
  (39, .iload_n 1, 1, 0, 0, 0, .null, []),
  (40, .iconst 3, 1, 0, 0, 0, .int 3, []),
  (41, .iadd, 1, 0, 0, 0, .null, []),
  (42, .bipush 7, 2, 0, 0, 0, .int 7, []),
  (44, .irem, 1, 0, 0, 0, .null, []),
  (45, .ishl, 1, 0, 0, 0, .null, []),
  (46, .ior, 1, 0, 0, 0, .null, []),
  (47, .invokevirtual 106, 3, 51, 1, 7, .null, []),
  (50, .iinc 1 1, 3, 0, 0, 0, .int 1, []),
  (53, .goto (-36), 3, 17, 0, 0, .null, []),
  (56, .iconst 1, 1, 0, 0, 0, .int 1, []),
  (57, .ireturn, 1, 0, 0, 0, .null, [])]
def am_c_Re_figures : List am_E := [(0, .aload_n 0, 1, 0, 0, 0, .null, []),
  (1, .aload_n 0, 1, 0, 0, 0, .null, []),
  (2, .bipush 7, 2, 0, 0, 0, .int 7, []),
  (4, .invokevirtual 94, 3, 48, 1, 7, .null, []),
  (7, .putfield 9, 3, 5, 0, 0, .null, []),
  (10, .aload_n 0, 1, 0, 0, 0, .null, []),
  (11, .getfield 9, 3, 5, 0, 0, .null, []),
  (14, .ifCond .eq 10, 3, 24, 0, 0, .null, []),
  (17, .aload_n 0, 1, 0, 0, 0, .null, []),
  (18, .invokevirtual 98, 3, 49, 0, 7, .null, []),
  (21, .ifCond .eq 16, 3, 37, 0, 0, .null, []),
  (24, .aload_n 0, 1, 0, 0, 0, .null, []),
  (25, .getfield 9, 3, 5, 0, 0, .null, []),
  (28, .ifCond .eq 7, 3, 35, 0, 0, .null, []),
  (31, .iconst 1, 1, 0, 0, 0, .int 1, []),
  (32, .goto 4, 3, 36, 0, 0, .null, []),
  (35, .iconst 0, 1, 0, 0, 0, .int 0, []),
  (36, .ireturn, 1, 0, 0, 0, .null, []),
  (37, .aload_n 0, 1, 0, 0, 0, .null, []),
  (38, .bipush 58, 2, 0, 0, 0, .int 58, []),
  (40, .invokevirtual 110, 3, 47, 1, 7, .null, []),
  (43, .ifCond .ne 5, 3, 48, 0, 0, .null, []),
  (46, .iconst 0, 1, 0, 0, 0, .int 0, []),
  (47, .ireturn, 1, 0, 0, 0, .null, []),
  (48, .iconst 0, 1, 0, 0, 0, .int 0, []),
  (49, .istore_n 1, 1, 0, 0, 0, .null, []),
  (50, .iload_n 1, 1, 0, 0, 0, .null, [(0, 0)]),
  (51, .bipush 12, 2, 0, 0, 0, .int 12, []),
  (53, .if_icmp .gt 32, 3, 85, 0, 0, .null, []),
  (56, .aload_n 0, 1, 0, 0, 0, .null, []),
  (57, .invokevirtual 129, 3, 61, 0, 7, .null, []),
  (60, .ifCond .ne 5, 3, 65, 0, 0, .null, []),
  (63, .iconst 0, 1, 0, 0, 0, .int 0, []),
  (64, .ireturn, 1, 0, 0, 0, .null, []),
  (65, .aload_n 0, 1, 0, 0, 0, .null, []),
  (66, .bipush 44, 2, 0, 0, 0, .int 44, []),
  (68, .invokevirtual 110, 3, 47, 1, 7, .null, []),
  (71, .ifCond .ne 8, 3, 79, 0, 0, .null, []),
  (74, .aload_n 0, 1, 0, 0, 0, .null, []),
  (75, .invokevirtual 98, 3, 49, 0, 7, .null, []),
  (78, .ireturn, 1, 0, 0, 0, .null, []),
  (79, .iinc 1 1, 3, 0, 0, 0, .int 1, []),
  (82, .goto (-32), 3, 50, 0, 0, .null, []),
  (85, .iconst 0, 1, 0, 0, 0, .int 0, []),
  (86, .ireturn, 1, 0, 0, 0, .null, [])]
def am_c_Re_isGroupTold_1 : List am_E := [(93, .iload_n 1, 1, 0, 0, 0, .null, []),
  (94, .iconst 1, 1, 0, 0, 0, .int 1, []),
  (95, .iload_n 2, 1, 0, 0, 0, .null, []),
  (96, .ishl, 1, 0, 0, 0, .null, []),
  (97, .ior, 1, 0, 0, 0, .null, []),
  (98, .istore_n 1, 1, 0, 0, 0, .null, []),
  (99, .aload_n 0, 1, 0, 0, 0, .null, []),
  (100, .dup, 1, 0, 0, 0, .null, []),
  (101, .getfield 35, 3, 5, 6, 0, .null, []),
  (104, .iconst 1, 1, 0, 0, 0, .int 1, []),
  (105, .iadd, 1, 0, 0, 0, .null, []),
  (106, .putfield 35, 3, 5, 6, 0, .null, []),
  (109, .goto (-91), 3, 18, 0, 0, .null, []),
  (112, .aload_n 0, 1, 0, 0, 0, .null, []),
  (113, .invokevirtual 38, 3, 46, 0, 7, .null, []),
  (116, .pop, 1, 0, 0, 0, .null, []),
  (117, .iload_n 1, 1, 0, 0, 0, .null, []),
  (118, .ifCond .eq 11, 3, 129, 0, 0, .null, []),
  (121, .aload_n 0, 1, 0, 0, 0, .null, []),
  (122, .iload_n 1, 1, 0, 0, 0, .null, []),
  (123, .invokevirtual 90, 3, 50, 1, 7, .null, []),
  (126, .ifCond .eq 5, 3, 131, 0, 0, .null, []),
  (129, .iconst 0, 1, 0, 0, 0, .int 0, []),
  (130, .ireturn, 1, 0, 0, 0, .null, []),
  (131, .aload_n 0, 1, 0, 0, 0, .null, []),
  (132, .iload_n 1, 1, 0, 0, 0, .null, []),
  (133, .invokevirtual 106, 3, 51, 1, 7, .null, []),
  (136, .iconst 1, 1, 0, 0, 0, .int 1, []),
  (137, .ireturn, 1, 0, 0, 0, .null, [])]
def am_c_Re_isGroupTold : List am_E := (0, .aload_n 0, 1, 0, 0, 0, .null, []) ::
  (1, .invokevirtual 38, 3, 46, 0, 7, .null, []) ::
  (4, .pop, 1, 0, 0, 0, .null, []) ::
  (5, .aload_n 0, 1, 0, 0, 0, .null, []) ::
  (6, .getfield 15, 3, 5, 1, 0, .null, []) ::
  (9, .bipush 12, 2, 0, 0, 0, .int 12, []) ::
  (11, .if_icmp .lt 5, 3, 16, 0, 0, .null, []) ::
  (14, .iconst 0, 1, 0, 0, 0, .int 0, []) ::
  (15, .ireturn, 1, 0, 0, 0, .null, []) ::
  (16, .iconst 0, 1, 0, 0, 0, .int 0, []) ::
  (17, .istore_n 1, 1, 0, 0, 0, .null, []) ::
  (18, .aload_n 0, 1, 0, 0, 0, .null, [(0, 0)]) ::
  (19, .getfield 25, 3, 5, 3, 2, .null, []) ::
  (22, .aload_n 0, 1, 0, 0, 0, .null, []) ::
  (23, .getfield 35, 3, 5, 6, 0, .null, []) ::
  (26, .invokevirtual 78, 3, 96, 1, 11, .null, []) ::
  (29, .bipush 48, 2, 0, 0, 0, .int 48, []) ::
  (31, .if_icmp .lt 81, 3, 112, 0, 0, .null, []) ::
  (34, .aload_n 0, 1, 0, 0, 0, .null, []) ::
  (35, .getfield 25, 3, 5, 3, 2, .null, []) ::
  (38, .aload_n 0, 1, 0, 0, 0, .null, []) ::
  (39, .getfield 35, 3, 5, 6, 0, .null, []) ::
  (42, .invokevirtual 78, 3, 96, 1, 11, .null, []) ::
  (45, .bipush 57, 2, 0, 0, 0, .int 57, []) ::
  (47, .if_icmp .gt 65, 3, 112, 0, 0, .null, []) ::
  (50, .aload_n 0, 1, 0, 0, 0, .null, []) ::
  (51, .getfield 35, 3, 5, 6, 0, .null, []) ::
  (54, .bipush 90, 2, 0, 0, 0, .int 90, []) ::
  (56, .if_icmp .ge 56, 3, 112, 0, 0, .null, []) ::
  (59, .aload_n 0, 1, 0, 0, 0, .null, []) ::
  (60, .getfield 25, 3, 5, 3, 2, .null, []) ::
  (63, .aload_n 0, 1, 0, 0, 0, .null, []) ::
  (64, .getfield 35, 3, 5, 6, 0, .null, []) ::
  (67, .invokevirtual 78, 3, 96, 1, 11, .null, []) ::
  (70, .bipush 48, 2, 0, 0, 0, .int 48, []) ::
  (72, .isub, 1, 0, 0, 0, .null, []) ::
  (73, .istore_n 2, 1, 0, 0, 0, .null, []) ::
  (74, .iload_n 2, 1, 0, 0, 0, .null, []) ::
  (75, .aload_n 0, 1, 0, 0, 0, .null, []) ::
  (76, .getfield 9, 3, 5, 0, 0, .null, []) ::
  (79, .if_icmp .ge 12, 3, 91, 0, 0, .null, []) ::
  (82, .iload_n 1, 1, 0, 0, 0, .null, []) ::
  (83, .iload_n 2, 1, 0, 0, 0, .null, []) ::
  (84, .ishr, 1, 0, 0, 0, .null, []) ::
  (85, .iconst 1, 1, 0, 0, 0, .int 1, []) ::
  (86, .iand, 1, 0, 0, 0, .null, []) ::
  (87, .iconst 1, 1, 0, 0, 0, .int 1, []) ::
  (88, .if_icmp .ne 5, 3, 93, 0, 0, .null, []) ::
  (91, .iconst 0, 1, 0, 0, 0, .int 0, []) ::
  (92, .ireturn, 1, 0, 0, 0, .null, []) :: am_c_Re_isGroupTold_1
def am_c_Ro_init : List am_E := [(0, .aload_n 0, 1, 0, 0, 0, .null, []),
  (1, .invokespecial 3, 3, 0, 0, 1, .null, []),
  (4, .aload_n 0, 1, 0, 0, 0, .null, []),
  (5, .bipush 12, 2, 0, 0, 0, .int 12, []),
  (7, .newarray .int, 2, 14, 0, 0, .null, []),
  (9, .putfield 9, 3, 6, 0, 2, .null, []),
  (12, .aload_n 0, 1, 0, 0, 0, .null, []),
  (13, .iconst 0, 1, 0, 0, 0, .int 0, []),
  (14, .putfield 15, 3, 6, 1, 0, .null, []),
  (17, .return_, 1, 0, 0, 0, .null, [])]
def am_c_Ro_takes : List am_E := [(0, .aload_n 0, 1, 0, 0, 0, .null, []),
  (1, .iload_n 3, 1, 0, 0, 0, .null, []),
  (2, .bipush 12, 2, 0, 0, 0, .int 12, []),
  (4, .invokestatic 19, 3, 0, 2, 4, .null, []),
  (7, .putfield 15, 3, 6, 1, 0, .null, []),
  (10, .iconst 0, 1, 0, 0, 0, .int 0, []),
  (11, .istore 6, 2, 0, 0, 0, .null, []),
  (13, .iload 6, 2, 0, 0, 0, .null, [(0, 0)]),
  (15, .aload_n 0, 1, 0, 0, 0, .null, []),
  (16, .getfield 15, 3, 6, 1, 0, .null, []),
  (19, .if_icmp .ge 49, 3, 68, 0, 0, .null, []),
  (22, .aload_n 1, 1, 0, 0, 0, .null, []),
  (23, .iload_n 2, 1, 0, 0, 0, .null, []),
  (24, .iload 6, 2, 0, 0, 0, .null, []),
  (26, .iadd, 1, 0, 0, 0, .null, []),
  (27, .invokevirtual 25, 3, 75, 1, 9, .null, []),
  (30, .lstore 7, 2, 0, 0, 0, .null, []),
  (32, .lload 7, 2, 0, 0, 0, .null, []),
  (34, .iload 4, 2, 0, 0, 0, .null, []),
  (36, .i2l, 1, 0, 0, 0, .null, []),
  (37, .lcmp, 1, 0, 0, 0, .null, []),
  (38, .ifCond .lt 12, 3, 50, 0, 0, .null, []),
  (41, .lload 7, 2, 0, 0, 0, .null, []),
  (43, .iload 5, 2, 0, 0, 0, .null, []),
  (45, .i2l, 1, 0, 0, 0, .null, []),
  (46, .lcmp, 1, 0, 0, 0, .null, []),
  (47, .ifCond .le 5, 3, 52, 0, 0, .null, []),
  (50, .iconst 0, 1, 0, 0, 0, .int 0, []),
  (51, .ireturn, 1, 0, 0, 0, .null, []),
  (52, .aload_n 0, 1, 0, 0, 0, .null, []),
  (53, .getfield 9, 3, 6, 0, 2, .null, []),
  (56, .iload 6, 2, 0, 0, 0, .null, []),
  (58, .lload 7, 2, 0, 0, 0, .null, []),
  (60, .l2i, 1, 0, 0, 0, .null, []),
  (61, .iastore, 1, 0, 0, 0, .null, []),
  (62, .iinc 6 1, 3, 0, 0, 0, .int 1, []),
  (65, .goto (-52), 3, 13, 0, 0, .null, []),
  (68, .iconst 1, 1, 0, 0, 0, .int 1, []),
  (69, .ireturn, 1, 0, 0, 0, .null, [])]
def am_c_Ro_nature : List am_E := [(0, .aload_n 0, 1, 0, 0, 0, .null, []),
  (1, .invokevirtual 31, 3, 65, 0, 8, .null, []),
  (4, .ifCond .eq 7, 3, 11, 0, 0, .null, []),
  (7, .iconst 1, 1, 0, 0, 0, .int 1, []),
  (8, .goto 4, 3, 12, 0, 0, .null, []),
  (11, .iconst 0, 1, 0, 0, 0, .int 0, []),
  (12, .istore_n 2, 1, 0, 0, 0, .null, []),
  (13, .iload_n 2, 1, 0, 0, 0, .null, []),
  (14, .aload_n 0, 1, 0, 0, 0, .null, []),
  (15, .invokevirtual 35, 3, 66, 0, 8, .null, []),
  (18, .ifCond .eq 7, 3, 25, 0, 0, .null, []),
  (21, .iconst 2, 1, 0, 0, 0, .int 2, []),
  (22, .goto 4, 3, 26, 0, 0, .null, []),
  (25, .iconst 0, 1, 0, 0, 0, .int 0, []),
  (26, .ior, 1, 0, 0, 0, .null, []),
  (27, .istore_n 2, 1, 0, 0, 0, .null, []),
  (28, .iload_n 2, 1, 0, 0, 0, .null, []),
  (29, .aload_n 0, 1, 0, 0, 0, .null, []),
  (30, .invokevirtual 38, 3, 67, 0, 8, .null, []),
  (33, .ifCond .eq 7, 3, 40, 0, 0, .null, []),
  (36, .iconst 4, 1, 0, 0, 0, .int 4, []),
  (37, .goto 4, 3, 41, 0, 0, .null, []),
  (40, .iconst 0, 1, 0, 0, 0, .int 0, []),
  (41, .ior, 1, 0, 0, 0, .null, []),
  (42, .istore_n 2, 1, 0, 0, 0, .null, []),
  (43, .iload_n 2, 1, 0, 0, 0, .null, []),
  (44, .aload_n 0, 1, 0, 0, 0, .null, []),
  (45, .aload_n 1, 1, 0, 0, 0, .null, []),
  (46, .getfield 41, 3, 8, 0, 0, .null, []),
  (49, .invokevirtual 46, 3, 68, 1, 8, .null, []),
  (52, .ifCond .eq 8, 3, 60, 0, 0, .null, []),
  (55, .bipush 8, 2, 0, 0, 0, .int 8, []),
  (57, .goto 4, 3, 61, 0, 0, .null, []),
  (60, .iconst 0, 1, 0, 0, 0, .int 0, []),
  (61, .ior, 1, 0, 0, 0, .null, []),
  (62, .istore_n 2, 1, 0, 0, 0, .null, []),
  (63, .iload_n 2, 1, 0, 0, 0, .null, []),
  (64, .aload_n 0, 1, 0, 0, 0, .null, []),
  (65, .aload_n 1, 1, 0, 0, 0, .null, []),
  (66, .invokevirtual 50, 3, 70, 1, 8, .null, []),
  (69, .ifCond .eq 8, 3, 77, 0, 0, .null, []),
  (72, .bipush 16, 2, 0, 0, 0, .int 16, []),
  (74, .goto 4, 3, 78, 0, 0, .null, []),
  (77, .iconst 0, 1, 0, 0, 0, .int 0, []),
  (78, .ior, 1, 0, 0, 0, .null, []),
  (79, .ireturn, 1, 0, 0, 0, .null, [])]
def am_c_Ro_anyTwoMeet : List am_E := [(0, .iconst 0, 1, 0, 0, 0, .int 0, []),
  (1, .istore_n 1, 1, 0, 0, 0, .null, []),
  (2, .iload_n 1, 1, 0, 0, 0, .null, [(0, 0)]),
  (3, .aload_n 0, 1, 0, 0, 0, .null, []),
  (4, .getfield 15, 3, 6, 1, 0, .null, []),
  (7, .if_icmp .ge 40, 3, 47, 0, 0, .null, []),
  (10, .iconst 0, 1, 0, 0, 0, .int 0, []),
  (11, .istore_n 2, 1, 0, 0, 0, .null, []),
  (12, .iload_n 2, 1, 0, 0, 0, .null, [(0, 0)]),
  (13, .iload_n 1, 1, 0, 0, 0, .null, []),
  (14, .if_icmp .ge 27, 3, 41, 0, 0, .null, []),
  (17, .aload_n 0, 1, 0, 0, 0, .null, []),
  (18, .getfield 9, 3, 6, 0, 2, .null, []),
  (21, .iload_n 1, 1, 0, 0, 0, .null, []),
  (22, .iaload, 1, 0, 0, 0, .null, []),
  (23, .aload_n 0, 1, 0, 0, 0, .null, []),
  (24, .getfield 9, 3, 6, 0, 2, .null, []),
  (27, .iload_n 2, 1, 0, 0, 0, .null, []),
  (28, .iaload, 1, 0, 0, 0, .null, []),
  (29, .iand, 1, 0, 0, 0, .null, []),
  (30, .ifCond .ne 5, 3, 35, 0, 0, .null, []),
  (33, .iconst 0, 1, 0, 0, 0, .int 0, []),
  (34, .ireturn, 1, 0, 0, 0, .null, []),
  (35, .iinc 2 1, 3, 0, 0, 0, .int 1, []),
  (38, .goto (-26), 3, 12, 0, 0, .null, []),
  (41, .iinc 1 1, 3, 0, 0, 0, .int 1, []),
  (44, .goto (-42), 3, 2, 0, 0, .null, []),
  (47, .iconst 1, 1, 0, 0, 0, .int 1, []),
  (48, .ireturn, 1, 0, 0, 0, .null, [])]
def am_c_Ro_isNonePart : List am_E := [(0, .iconst 0, 1, 0, 0, 0, .int 0, []),
  (1, .istore_n 1, 1, 0, 0, 0, .null, []),
  (2, .iload_n 1, 1, 0, 0, 0, .null, [(0, 0)]),
  (3, .aload_n 0, 1, 0, 0, 0, .null, []),
  (4, .getfield 15, 3, 6, 1, 0, .null, []),
  (7, .if_icmp .ge 50, 3, 57, 0, 0, .null, []),
  (10, .iconst 0, 1, 0, 0, 0, .int 0, []),
  (11, .istore_n 2, 1, 0, 0, 0, .null, []),
  (12, .iload_n 2, 1, 0, 0, 0, .null, [(0, 0)]),
  (13, .aload_n 0, 1, 0, 0, 0, .null, []),
  (14, .getfield 15, 3, 6, 1, 0, .null, []),
  (17, .if_icmp .ge 34, 3, 51, 0, 0, .null, []),
  (20, .iload_n 2, 1, 0, 0, 0, .null, []),
  (21, .iload_n 1, 1, 0, 0, 0, .null, []),
  (22, .if_icmp .eq 23, 3, 45, 0, 0, .null, []),
  (25, .aload_n 0, 1, 0, 0, 0, .null, []),
  (26, .getfield 9, 3, 6, 0, 2, .null, []),
  (29, .iload_n 2, 1, 0, 0, 0, .null, []),
  (30, .iaload, 1, 0, 0, 0, .null, []),
  (31, .aload_n 0, 1, 0, 0, 0, .null, []),
  (32, .getfield 9, 3, 6, 0, 2, .null, []),
  (35, .iload_n 1, 1, 0, 0, 0, .null, []),
  (36, .iaload, 1, 0, 0, 0, .null, []),
  (37, .iconst (-1), 1, 0, 0, 0, .int (-1), []),
  (38, .ixor, 1, 0, 0, 0, .null, []),
  (39, .iand, 1, 0, 0, 0, .null, []),
  (40, .ifCond .ne 5, 3, 45, 0, 0, .null, []),
  (43, .iconst 0, 1, 0, 0, 0, .int 0, []),
  (44, .ireturn, 1, 0, 0, 0, .null, []),
  (45, .iinc 2 1, 3, 0, 0, 0, .int 1, []),
  (48, .goto (-36), 3, 12, 0, 0, .null, []),
  (51, .iinc 1 1, 3, 0, 0, 0, .int 1, []),
  (54, .goto (-52), 3, 2, 0, 0, .null, []),
  (57, .iconst 1, 1, 0, 0, 0, .int 1, []),
  (58, .ireturn, 1, 0, 0, 0, .null, [])]
def am_c_Ro_isOneCount : List am_E := [(0, .iconst 1, 1, 0, 0, 0, .int 1, []),
  (1, .istore_n 1, 1, 0, 0, 0, .null, []),
  (2, .iload_n 1, 1, 0, 0, 0, .null, [(0, 0)]),
  (3, .aload_n 0, 1, 0, 0, 0, .null, []),
  (4, .getfield 15, 3, 6, 1, 0, .null, []),
  (7, .if_icmp .ge 32, 3, 39, 0, 0, .null, []),
  (10, .aload_n 0, 1, 0, 0, 0, .null, []),
  (11, .getfield 9, 3, 6, 0, 2, .null, []),
  (14, .iload_n 1, 1, 0, 0, 0, .null, []),
  (15, .iaload, 1, 0, 0, 0, .null, []),
  (16, .invokestatic 54, 3, 0, 1, 0, .null, []),
  (19, .aload_n 0, 1, 0, 0, 0, .null, []),
  (20, .getfield 9, 3, 6, 0, 2, .null, []),
  (23, .iconst 0, 1, 0, 0, 0, .int 0, []),
  (24, .iaload, 1, 0, 0, 0, .null, []),
  (25, .invokestatic 54, 3, 0, 1, 0, .null, []),
  (28, .if_icmp .eq 5, 3, 33, 0, 0, .null, []),
  (31, .iconst 0, 1, 0, 0, 0, .int 0, []),
  (32, .ireturn, 1, 0, 0, 0, .null, []),
  (33, .iinc 1 1, 3, 0, 0, 0, .int 1, []),
  (36, .goto (-34), 3, 2, 0, 0, .null, []),
  (39, .iconst 1, 1, 0, 0, 0, .int 1, []),
  (40, .ireturn, 1, 0, 0, 0, .null, [])]
def am_c_Ro_isEven : List am_E := [(0, .iconst 1, 1, 0, 0, 0, .int 1, []),
  (1, .istore_n 2, 1, 0, 0, 0, .null, []),
  (2, .iload_n 2, 1, 0, 0, 0, .null, [(0, 0)]),
  (3, .iload_n 1, 1, 0, 0, 0, .null, []),
  (4, .if_icmp .ge 24, 3, 28, 0, 0, .null, []),
  (7, .aload_n 0, 1, 0, 0, 0, .null, []),
  (8, .iload_n 2, 1, 0, 0, 0, .null, []),
  (9, .invokevirtual 60, 3, 69, 1, 8, .null, []),
  (12, .aload_n 0, 1, 0, 0, 0, .null, []),
  (13, .iconst 0, 1, 0, 0, 0, .int 0, []),
  (14, .invokevirtual 60, 3, 69, 1, 8, .null, []),
  (17, .if_icmp .eq 5, 3, 22, 0, 0, .null, []),
  (20, .iconst 0, 1, 0, 0, 0, .int 0, []),
  (21, .ireturn, 1, 0, 0, 0, .null, []),
  (22, .iinc 2 1, 3, 0, 0, 0, .int 1, []),
  (25, .goto (-23), 3, 2, 0, 0, .null, []),
  (28, .iconst 1, 1, 0, 0, 0, .int 1, []),
  (29, .ireturn, 1, 0, 0, 0, .null, [])]
def am_c_Ro_timesOf : List am_E := [(0, .iconst 0, 1, 0, 0, 0, .int 0, []),
  (1, .istore_n 2, 1, 0, 0, 0, .null, []),
  (2, .iconst 0, 1, 0, 0, 0, .int 0, []),
  (3, .istore_n 3, 1, 0, 0, 0, .null, []),
  (4, .iload_n 3, 1, 0, 0, 0, .null, [(0, 0)]),
  (5, .aload_n 0, 1, 0, 0, 0, .null, []),
  (6, .getfield 15, 3, 6, 1, 0, .null, []),
  (9, .if_icmp .ge 22, 3, 31, 0, 0, .null, []),
  (12, .iload_n 2, 1, 0, 0, 0, .null, []),
  (13, .aload_n 0, 1, 0, 0, 0, .null, []),
  (14, .getfield 9, 3, 6, 0, 2, .null, []),
  (17, .iload_n 3, 1, 0, 0, 0, .null, []),
  (18, .iaload, 1, 0, 0, 0, .null, []),
  (19, .iload_n 1, 1, 0, 0, 0, .null, []),
  (20, .ishr, 1, 0, 0, 0, .null, []),
  (21, .iconst 1, 1, 0, 0, 0, .int 1, []),
  (22, .iand, 1, 0, 0, 0, .null, []),
  (23, .iadd, 1, 0, 0, 0, .null, []),
  (24, .istore_n 2, 1, 0, 0, 0, .null, []),
  (25, .iinc 3 1, 3, 0, 0, 0, .int 1, []),
  (28, .goto (-24), 3, 4, 0, 0, .null, []),
  (31, .iload_n 2, 1, 0, 0, 0, .null, []),
  (32, .ireturn, 1, 0, 0, 0, .null, [])]
def am_c_Ro_isJustGroups : List am_E := [(0, .iconst 0, 1, 0, 0, 0, .int 0, []),
  (1, .istore_n 2, 1, 0, 0, 0, .null, []),
  (2, .iconst 0, 1, 0, 0, 0, .int 0, []),
  (3, .istore_n 3, 1, 0, 0, 0, .null, []),
  (4, .iload_n 3, 1, 0, 0, 0, .null, [(0, 0)]),
  (5, .aload_n 0, 1, 0, 0, 0, .null, []),
  (6, .getfield 15, 3, 6, 1, 0, .null, []),
  (9, .if_icmp .ge 35, 3, 44, 0, 0, .null, []),
  (12, .aload_n 1, 1, 0, 0, 0, .null, []),
  (13, .aload_n 0, 1, 0, 0, 0, .null, []),
  (14, .getfield 9, 3, 6, 0, 2, .null, []),
  (17, .iload_n 3, 1, 0, 0, 0, .null, []),
  (18, .iaload, 1, 0, 0, 0, .null, []),
  (19, .invokevirtual 63, 3, 85, 1, 10, .null, []),
  (22, .istore 4, 2, 0, 0, 0, .null, []),
  (24, .iload 4, 2, 0, 0, 0, .null, []),
  (26, .ifCond .ge 5, 3, 31, 0, 0, .null, []),
  (29, .iconst 0, 1, 0, 0, 0, .int 0, []),
  (30, .ireturn, 1, 0, 0, 0, .null, []),
  (31, .iload_n 2, 1, 0, 0, 0, .null, []),
  (32, .iconst 1, 1, 0, 0, 0, .int 1, []),
  (33, .iload 4, 2, 0, 0, 0, .null, []),
  (35, .ishl, 1, 0, 0, 0, .null, []),
  (36, .ior, 1, 0, 0, 0, .null, []),
  (37, .istore_n 2, 1, 0, 0, 0, .null, []),
  (38, .iinc 3 1, 3, 0, 0, 0, .int 1, []),
  (41, .goto (-37), 3, 4, 0, 0, .null, []),
  (44, .aload_n 0, 1, 0, 0, 0, .null, []),
  (45, .getfield 15, 3, 6, 1, 0, .null, []),
  (48, .aload_n 1, 1, 0, 0, 0, .null, []),
  (49, .getfield 66, 3, 8, 1, 0, .null, []),
  (52, .if_icmp .ne 18, 3, 70, 0, 0, .null, []),
  (55, .iload_n 2, 1, 0, 0, 0, .null, []),
  (56, .invokestatic 54, 3, 0, 1, 0, .null, []),
  (59, .aload_n 0, 1, 0, 0, 0, .null, []),
  (60, .getfield 15, 3, 6, 1, 0, .null, []),
  (63, .if_icmp .ne 7, 3, 70, 0, 0, .null, []),
  (66, .iconst 1, 1, 0, 0, 0, .int 1, []),
  (67, .goto 4, 3, 71, 0, 0, .null, []),
  (70, .iconst 0, 1, 0, 0, 0, .int 0, []),
  (71, .ireturn, 1, 0, 0, 0, .null, [])]
def am_c_Sh_init : List am_E := [(0, .aload_n 0, 1, 0, 0, 0, .null, []),
  (1, .invokespecial 3, 3, 0, 0, 1, .null, []),
  (4, .aload_n 0, 1, 0, 0, 0, .null, []),
  (5, .iconst 0, 1, 0, 0, 0, .int 0, []),
  (6, .putfield 9, 3, 7, 0, 1, .null, []),
  (9, .aload_n 0, 1, 0, 0, 0, .null, []),
  (10, .iconst 0, 1, 0, 0, 0, .int 0, []),
  (11, .putfield 15, 3, 7, 1, 0, .null, []),
  (14, .aload_n 0, 1, 0, 0, 0, .null, []),
  (15, .iconst 0, 1, 0, 0, 0, .int 0, []),
  (16, .putfield 19, 3, 7, 2, 0, .null, []),
  (19, .aload_n 0, 1, 0, 0, 0, .null, []),
  (20, .bipush 24, 2, 0, 0, 0, .int 24, []),
  (22, .newarray .long, 2, 15, 0, 0, .null, []),
  (24, .putfield 22, 3, 7, 3, 2, .null, []),
  (27, .return_, 1, 0, 0, 0, .null, [])]
def am_c_Sh_begin : List am_E := [(0, .aload_n 0, 1, 0, 0, 0, .null, []),
  (1, .iconst 1, 1, 0, 0, 0, .int 1, []),
  (2, .putfield 9, 3, 7, 0, 1, .null, []),
  (5, .aload_n 0, 1, 0, 0, 0, .null, []),
  (6, .iload_n 1, 1, 0, 0, 0, .null, []),
  (7, .putfield 15, 3, 7, 1, 0, .null, []),
  (10, .aload_n 0, 1, 0, 0, 0, .null, []),
  (11, .iload_n 2, 1, 0, 0, 0, .null, []),
  (12, .bipush 24, 2, 0, 0, 0, .int 24, []),
  (14, .invokestatic 26, 3, 0, 2, 4, .null, []),
  (17, .putfield 19, 3, 7, 2, 0, .null, []),
  (20, .iconst 0, 1, 0, 0, 0, .int 0, []),
  (21, .istore_n 3, 1, 0, 0, 0, .null, []),
  (22, .iload_n 3, 1, 0, 0, 0, .null, [(0, 0)]),
  (23, .bipush 24, 2, 0, 0, 0, .int 24, []),
  (25, .if_icmp .ge 16, 3, 41, 0, 0, .null, []),
  (28, .aload_n 0, 1, 0, 0, 0, .null, []),
  (29, .getfield 22, 3, 7, 3, 2, .null, []),
  (32, .iload_n 3, 1, 0, 0, 0, .null, []),
  (33, .lconst 0, 1, 0, 0, 0, .long 0, []),
  (34, .lastore, 1, 0, 0, 0, .null, []),
  (35, .iinc 3 1, 3, 0, 0, 0, .int 1, []),
  (38, .goto (-16), 3, 22, 0, 0, .null, []),
  (41, .return_, 1, 0, 0, 0, .null, [])]
def am_c_Sh_spans : List am_E := [(0, .iload_n 1, 1, 0, 0, 0, .null, []),
  (1, .ifCond .lt 29, 3, 30, 0, 0, .null, []),
  (4, .iload_n 1, 1, 0, 0, 0, .null, []),
  (5, .aload_n 0, 1, 0, 0, 0, .null, []),
  (6, .getfield 19, 3, 7, 2, 0, .null, []),
  (9, .if_icmp .gt 21, 3, 30, 0, 0, .null, []),
  (12, .iload_n 2, 1, 0, 0, 0, .null, []),
  (13, .ifCond .lt 17, 3, 30, 0, 0, .null, []),
  (16, .iload_n 2, 1, 0, 0, 0, .null, []),
  (17, .aload_n 0, 1, 0, 0, 0, .null, []),
  (18, .getfield 19, 3, 7, 2, 0, .null, []),
  (21, .iload_n 1, 1, 0, 0, 0, .null, []),
  (22, .isub, 1, 0, 0, 0, .null, []),
  (23, .if_icmp .gt 7, 3, 30, 0, 0, .null, []),
  (26, .iconst 1, 1, 0, 0, 0, .int 1, []),
  (27, .goto 4, 3, 31, 0, 0, .null, []),
  (30, .iconst 0, 1, 0, 0, 0, .int 0, []),
  (31, .ireturn, 1, 0, 0, 0, .null, [])]
def am_c_Sh_refusal : List am_E := [(0, .aload_n 0, 1, 0, 0, 0, .null, []),
  (1, .getfield 9, 3, 7, 0, 1, .null, []),
  (4, .ifCond .ne 6, 3, 10, 0, 0, .null, []),
  (7, .bipush (-11), 2, 0, 0, 0, .int (-11), []),
  (9, .ireturn, 1, 0, 0, 0, .null, []),
  (10, .aload_n 0, 1, 0, 0, 0, .null, []),
  (11, .getfield 15, 3, 7, 1, 0, .null, []),
  (14, .iload_n 1, 1, 0, 0, 0, .null, []),
  (15, .if_icmp .eq 6, 3, 21, 0, 0, .null, []),
  (18, .bipush (-12), 2, 0, 0, 0, .int (-12), []),
  (20, .ireturn, 1, 0, 0, 0, .null, []),
  (21, .aload_n 0, 1, 0, 0, 0, .null, []),
  (22, .iload_n 2, 1, 0, 0, 0, .null, []),
  (23, .iload_n 3, 1, 0, 0, 0, .null, []),
  (24, .invokevirtual 32, 3, 73, 2, 9, .null, []),
  (27, .ifCond .eq 7, 3, 34, 0, 0, .null, []),
  (30, .iconst 0, 1, 0, 0, 0, .int 0, []),
  (31, .goto 5, 3, 36, 0, 0, .null, []),
  (34, .bipush (-13), 2, 0, 0, 0, .int (-13), []),
  (36, .ireturn, 1, 0, 0, 0, .null, [])]
def am_c_Sh_at : List am_E := [(0, .iload_n 1, 1, 0, 0, 0, .null, []),
  (1, .ifCond .lt 20, 3, 21, 0, 0, .null, []),
  (4, .iload_n 1, 1, 0, 0, 0, .null, []),
  (5, .aload_n 0, 1, 0, 0, 0, .null, []),
  (6, .getfield 19, 3, 7, 2, 0, .null, []),
  (9, .if_icmp .ge 12, 3, 21, 0, 0, .null, []),
  (12, .aload_n 0, 1, 0, 0, 0, .null, []),
  (13, .getfield 22, 3, 7, 3, 2, .null, []),
  (16, .iload_n 1, 1, 0, 0, 0, .null, []),
  (17, .laload, 1, 0, 0, 0, .null, []),
  (18, .goto 4, 3, 22, 0, 0, .null, []),
  (21, .lconst 0, 1, 0, 0, 0, .long 0, []),
  (22, .lreturn, 1, 0, 0, 0, .null, [])]
def am_c_Sh_put : List am_E := [(0, .iload_n 1, 1, 0, 0, 0, .null, []),
  (1, .ifCond .lt 22, 3, 23, 0, 0, .null, []),
  (4, .iload_n 1, 1, 0, 0, 0, .null, []),
  (5, .aload_n 0, 1, 0, 0, 0, .null, []),
  (6, .getfield 19, 3, 7, 2, 0, .null, []),
  (9, .if_icmp .ge 14, 3, 23, 0, 0, .null, []),
  (12, .aload_n 0, 1, 0, 0, 0, .null, []),
  (13, .getfield 22, 3, 7, 3, 2, .null, []),
  (16, .iload_n 1, 1, 0, 0, 0, .null, []),
  (17, .aload_n 0, 1, 0, 0, 0, .null, []),
  (18, .lload_n 2, 1, 0, 0, 0, .null, []),
  (19, .invokevirtual 36, 3, 77, 1, 9, .null, []),
  (22, .lastore, 1, 0, 0, 0, .null, []),
  (23, .return_, 1, 0, 0, 0, .null, [])]
def am_c_Sh_lowestBits : List am_E := [(0, .aload_n 0, 1, 0, 0, 0, .null, []),
  (1, .getfield 15, 3, 7, 1, 0, .null, []),
  (4, .tableswitch 42 0 2 #[28, 33, 38], 28, 46, 0, 0, .null, [(0, 32), (1, 37), (2, 42)]),
  (32, .lload_n 1, 1, 0, 0, 0, .null, []),
  (33, .l2i, 1, 0, 0, 0, .null, []),
  (34, .i2b, 1, 0, 0, 0, .null, []),
  (35, .i2l, 1, 0, 0, 0, .null, []),
  (36, .lreturn, 1, 0, 0, 0, .null, []),
  (37, .lload_n 1, 1, 0, 0, 0, .null, []),
  (38, .l2i, 1, 0, 0, 0, .null, []),
  (39, .i2s, 1, 0, 0, 0, .null, []),
  (40, .i2l, 1, 0, 0, 0, .null, []),
  (41, .lreturn, 1, 0, 0, 0, .null, []),
  (42, .lload_n 1, 1, 0, 0, 0, .null, []),
  (43, .l2i, 1, 0, 0, 0, .null, []),
  (44, .i2l, 1, 0, 0, 0, .null, []),
  (45, .lreturn, 1, 0, 0, 0, .null, []),
  (46, .lload_n 1, 1, 0, 0, 0, .null, []),
  (47, .lreturn, 1, 0, 0, 0, .null, [])]
def am_c_St_init : List am_E := [(0, .aload_n 0, 1, 0, 0, 0, .null, []),
  (1, .invokespecial 3, 3, 0, 0, 1, .null, []),
  (4, .aload_n 0, 1, 0, 0, 0, .null, []),
  (5, .iconst 3, 1, 0, 0, 0, .int 3, []),
  (6, .putfield 9, 3, 8, 0, 0, .null, []),
  (9, .aload_n 0, 1, 0, 0, 0, .null, []),
  (10, .iconst 0, 1, 0, 0, 0, .int 0, []),
  (11, .putfield 15, 3, 8, 1, 0, .null, []),
  (14, .aload_n 0, 1, 0, 0, 0, .null, []),
  (15, .bipush 12, 2, 0, 0, 0, .int 12, []),
  (17, .newarray .int, 2, 14, 0, 0, .null, []),
  (19, .putfield 18, 3, 8, 2, 2, .null, []),
  (22, .aload_n 0, 1, 0, 0, 0, .null, []),
  (23, .iconst 1, 1, 0, 0, 0, .int 1, []),
  (24, .putfield 22, 3, 8, 3, 0, .null, []),
  (27, .aload_n 0, 1, 0, 0, 0, .null, []),
  (28, .new 25, 3, 3, 0, 0, .null, []),
  (31, .dup, 1, 0, 0, 0, .null, []),
  (32, .invokespecial 27, 3, 23, 0, 2, .null, []),
  (35, .putfield 28, 3, 8, 4, 2, .null, []),
  (38, .return_, 1, 0, 0, 0, .null, [])]
def am_c_St_becomes : List am_E := [(0, .aload_n 0, 1, 0, 0, 0, .null, []),
  (1, .aload_n 1, 1, 0, 0, 0, .null, []),
  (2, .getfield 9, 3, 8, 0, 0, .null, []),
  (5, .putfield 9, 3, 8, 0, 0, .null, []),
  (8, .aload_n 0, 1, 0, 0, 0, .null, []),
  (9, .aload_n 1, 1, 0, 0, 0, .null, []),
  (10, .getfield 15, 3, 8, 1, 0, .null, []),
  (13, .putfield 15, 3, 8, 1, 0, .null, []),
  (16, .aload_n 0, 1, 0, 0, 0, .null, []),
  (17, .aload_n 1, 1, 0, 0, 0, .null, []),
  (18, .getfield 22, 3, 8, 3, 0, .null, []),
  (21, .putfield 22, 3, 8, 3, 0, .null, []),
  (24, .aload_n 1, 1, 0, 0, 0, .null, []),
  (25, .getfield 18, 3, 8, 2, 2, .null, []),
  (28, .iconst 0, 1, 0, 0, 0, .int 0, []),
  (29, .aload_n 0, 1, 0, 0, 0, .null, []),
  (30, .getfield 18, 3, 8, 2, 2, .null, []),
  (33, .iconst 0, 1, 0, 0, 0, .int 0, []),
  (34, .bipush 12, 2, 0, 0, 0, .int 12, []),
  (36, .invokestatic 32, 3, 0, 5, 1, .null, []),
  (39, .aload_n 0, 1, 0, 0, 0, .null, []),
  (40, .getfield 28, 3, 8, 4, 2, .null, []),
  (43, .aload_n 1, 1, 0, 0, 0, .null, []),
  (44, .getfield 28, 3, 8, 4, 2, .null, []),
  (47, .invokevirtual 38, 3, 24, 1, 5, .null, []),
  (50, .return_, 1, 0, 0, 0, .null, [])]
def am_c_St_becomesTold : List am_E := [(0, .aload_n 0, 1, 0, 0, 0, .null, []),
  (1, .aload_n 1, 1, 0, 0, 0, .null, []),
  (2, .getfield 42, 3, 5, 0, 0, .null, []),
  (5, .putfield 9, 3, 8, 0, 0, .null, []),
  (8, .aload_n 0, 1, 0, 0, 0, .null, []),
  (9, .aload_n 1, 1, 0, 0, 0, .null, []),
  (10, .getfield 45, 3, 5, 1, 0, .null, []),
  (13, .putfield 15, 3, 8, 1, 0, .null, []),
  (16, .aload_n 1, 1, 0, 0, 0, .null, []),
  (17, .getfield 46, 3, 5, 2, 2, .null, []),
  (20, .iconst 0, 1, 0, 0, 0, .int 0, []),
  (21, .aload_n 0, 1, 0, 0, 0, .null, []),
  (22, .getfield 18, 3, 8, 2, 2, .null, []),
  (25, .iconst 0, 1, 0, 0, 0, .int 0, []),
  (26, .bipush 12, 2, 0, 0, 0, .int 12, []),
  (28, .invokestatic 32, 3, 0, 5, 1, .null, []),
  (31, .return_, 1, 0, 0, 0, .null, [])]
def am_c_St_all : List am_E := [(0, .iconst 1, 1, 0, 0, 0, .int 1, []),
  (1, .aload_n 0, 1, 0, 0, 0, .null, []),
  (2, .getfield 9, 3, 8, 0, 0, .null, []),
  (5, .ishl, 1, 0, 0, 0, .null, []),
  (6, .iconst 1, 1, 0, 0, 0, .int 1, []),
  (7, .isub, 1, 0, 0, 0, .null, []),
  (8, .ireturn, 1, 0, 0, 0, .null, [])]
def am_c_St_isPart : List am_E := [(0, .iload_n 1, 1, 0, 0, 0, .null, []),
  (1, .ifCond .lt 15, 3, 16, 0, 0, .null, []),
  (4, .iload_n 1, 1, 0, 0, 0, .null, []),
  (5, .aload_n 0, 1, 0, 0, 0, .null, []),
  (6, .invokevirtual 47, 3, 81, 0, 10, .null, []),
  (9, .if_icmp .gt 7, 3, 16, 0, 0, .null, []),
  (12, .iconst 1, 1, 0, 0, 0, .int 1, []),
  (13, .goto 4, 3, 17, 0, 0, .null, []),
  (16, .iconst 0, 1, 0, 0, 0, .int 0, []),
  (17, .ireturn, 1, 0, 0, 0, .null, [])]
def am_c_St_isSet : List am_E := [(0, .iload_n 1, 1, 0, 0, 0, .null, []),
  (1, .ifCond .eq 15, 3, 16, 0, 0, .null, []),
  (4, .aload_n 0, 1, 0, 0, 0, .null, []),
  (5, .iload_n 1, 1, 0, 0, 0, .null, []),
  (6, .invokevirtual 51, 3, 82, 1, 10, .null, []),
  (9, .ifCond .eq 7, 3, 16, 0, 0, .null, []),
  (12, .iconst 1, 1, 0, 0, 0, .int 1, []),
  (13, .goto 4, 3, 17, 0, 0, .null, []),
  (16, .iconst 0, 1, 0, 0, 0, .int 0, []),
  (17, .ireturn, 1, 0, 0, 0, .null, [])]
def am_c_St_hasBeyond : List am_E := [(0, .iconst 0, 1, 0, 0, 0, .int 0, []),
  (1, .istore_n 2, 1, 0, 0, 0, .null, []),
  (2, .iload_n 2, 1, 0, 0, 0, .null, [(0, 0)]),
  (3, .aload_n 0, 1, 0, 0, 0, .null, []),
  (4, .getfield 15, 3, 8, 1, 0, .null, []),
  (7, .if_icmp .ge 22, 3, 29, 0, 0, .null, []),
  (10, .aload_n 0, 1, 0, 0, 0, .null, []),
  (11, .getfield 18, 3, 8, 2, 2, .null, []),
  (14, .iload_n 2, 1, 0, 0, 0, .null, []),
  (15, .iaload, 1, 0, 0, 0, .null, []),
  (16, .iload_n 1, 1, 0, 0, 0, .null, []),
  (17, .ishr, 1, 0, 0, 0, .null, []),
  (18, .ifCond .eq 5, 3, 23, 0, 0, .null, []),
  (21, .iconst 1, 1, 0, 0, 0, .int 1, []),
  (22, .ireturn, 1, 0, 0, 0, .null, []),
  (23, .iinc 2 1, 3, 0, 0, 0, .int 1, []),
  (26, .goto (-24), 3, 2, 0, 0, .null, []),
  (29, .iconst 0, 1, 0, 0, 0, .int 0, []),
  (30, .ireturn, 1, 0, 0, 0, .null, [])]
def am_c_St_placeOf : List am_E := [(0, .iconst 0, 1, 0, 0, 0, .int 0, []),
  (1, .istore_n 2, 1, 0, 0, 0, .null, []),
  (2, .iload_n 2, 1, 0, 0, 0, .null, [(0, 0)]),
  (3, .aload_n 0, 1, 0, 0, 0, .null, []),
  (4, .getfield 15, 3, 8, 1, 0, .null, []),
  (7, .if_icmp .ge 21, 3, 28, 0, 0, .null, []),
  (10, .aload_n 0, 1, 0, 0, 0, .null, []),
  (11, .getfield 18, 3, 8, 2, 2, .null, []),
  (14, .iload_n 2, 1, 0, 0, 0, .null, []),
  (15, .iaload, 1, 0, 0, 0, .null, []),
  (16, .iload_n 1, 1, 0, 0, 0, .null, []),
  (17, .if_icmp .ne 5, 3, 22, 0, 0, .null, []),
  (20, .iload_n 2, 1, 0, 0, 0, .null, []),
  (21, .ireturn, 1, 0, 0, 0, .null, []),
  (22, .iinc 2 1, 3, 0, 0, 0, .int 1, []),
  (25, .goto (-23), 3, 2, 0, 0, .null, []),
  (28, .iconst (-1), 1, 0, 0, 0, .int (-1), []),
  (29, .ireturn, 1, 0, 0, 0, .null, [])]
def am_c_St_append : List am_E := [(0, .aload_n 0, 1, 0, 0, 0, .null, []),
  (1, .getfield 15, 3, 8, 1, 0, .null, []),
  (4, .bipush 12, 2, 0, 0, 0, .int 12, []),
  (6, .if_icmp .ge 23, 3, 29, 0, 0, .null, []),
  (9, .aload_n 0, 1, 0, 0, 0, .null, []),
  (10, .getfield 18, 3, 8, 2, 2, .null, []),
  (13, .aload_n 0, 1, 0, 0, 0, .null, []),
  (14, .getfield 15, 3, 8, 1, 0, .null, []),
  (17, .iload_n 1, 1, 0, 0, 0, .null, []),
  (18, .iastore, 1, 0, 0, 0, .null, []),
  (19, .aload_n 0, 1, 0, 0, 0, .null, []),
  (20, .dup, 1, 0, 0, 0, .null, []),
  (21, .getfield 15, 3, 8, 1, 0, .null, []),
  (24, .iconst 1, 1, 0, 0, 0, .int 1, []),
  (25, .iadd, 1, 0, 0, 0, .null, []),
  (26, .putfield 15, 3, 8, 1, 0, .null, []),
  (29, .return_, 1, 0, 0, 0, .null, [])]
def am_c_St_removeAt : List am_E := [(0, .iload_n 1, 1, 0, 0, 0, .null, []),
  (1, .iconst 1, 1, 0, 0, 0, .int 1, []),
  (2, .iadd, 1, 0, 0, 0, .null, []),
  (3, .istore_n 2, 1, 0, 0, 0, .null, []),
  (4, .iload_n 2, 1, 0, 0, 0, .null, [(0, 0)]),
  (5, .aload_n 0, 1, 0, 0, 0, .null, []),
  (6, .getfield 15, 3, 8, 1, 0, .null, []),
  (9, .if_icmp .ge 23, 3, 32, 0, 0, .null, []),
  (12, .aload_n 0, 1, 0, 0, 0, .null, []),
  (13, .getfield 18, 3, 8, 2, 2, .null, []),
  (16, .iload_n 2, 1, 0, 0, 0, .null, []),
  (17, .iconst 1, 1, 0, 0, 0, .int 1, []),
  (18, .isub, 1, 0, 0, 0, .null, []),
  (19, .aload_n 0, 1, 0, 0, 0, .null, []),
  (20, .getfield 18, 3, 8, 2, 2, .null, []),
  (23, .iload_n 2, 1, 0, 0, 0, .null, []),
  (24, .iaload, 1, 0, 0, 0, .null, []),
  (25, .iastore, 1, 0, 0, 0, .null, []),
  (26, .iinc 2 1, 3, 0, 0, 0, .int 1, []),
  (29, .goto (-25), 3, 4, 0, 0, .null, []),
  (32, .aload_n 0, 1, 0, 0, 0, .null, []),
  (33, .dup, 1, 0, 0, 0, .null, []),
  (34, .getfield 15, 3, 8, 1, 0, .null, []),
  (37, .iconst 1, 1, 0, 0, 0, .int 1, []),
  (38, .isub, 1, 0, 0, 0, .null, []),
  (39, .putfield 15, 3, 8, 1, 0, .null, []),
  (42, .return_, 1, 0, 0, 0, .null, [])]
def am_c_St_drawTurn : List am_E := [(0, .aload_n 0, 1, 0, 0, 0, .null, []),
  (1, .aload_n 0, 1, 0, 0, 0, .null, []),
  (2, .getfield 22, 3, 8, 3, 0, .null, []),
  (5, .ldc 55, 2, 0, 0, 0, .int 1103515245, []),
  (7, .imul, 1, 0, 0, 0, .null, []),
  (8, .sipush 12345, 3, 0, 0, 0, .int 12345, []),
  (11, .iadd, 1, 0, 0, 0, .null, []),
  (12, .ldc 56, 2, 0, 0, 0, .int 2147483647, []),
  (14, .iand, 1, 0, 0, 0, .null, []),
  (15, .putfield 22, 3, 8, 3, 0, .null, []),
  (18, .aload_n 0, 1, 0, 0, 0, .null, []),
  (19, .invokevirtual 47, 3, 81, 0, 10, .null, []),
  (22, .istore_n 1, 1, 0, 0, 0, .null, []),
  (23, .iload_n 1, 1, 0, 0, 0, .null, []),
  (24, .iconst 1, 1, 0, 0, 0, .int 1, []),
  (25, .if_icmp .ge 4, 3, 29, 0, 0, .null, []),
  (28, .return_, 1, 0, 0, 0, .null, []),
  (29, .aload_n 0, 1, 0, 0, 0, .null, []),
  (30, .getfield 22, 3, 8, 3, 0, .null, []),
  (33, .ldc 57, 2, 0, 0, 0, .int 65536, []),
  (35, .idiv, 1, 0, 0, 0, .null, []),
  (36, .iload_n 1, 1, 0, 0, 0, .null, []),
  (37, .irem, 1, 0, 0, 0, .null, []),
  (38, .iconst 1, 1, 0, 0, 0, .int 1, []),
  (39, .iadd, 1, 0, 0, 0, .null, []),
  (40, .istore_n 2, 1, 0, 0, 0, .null, []),
  (41, .aload_n 0, 1, 0, 0, 0, .null, []),
  (42, .iload_n 2, 1, 0, 0, 0, .null, []),
  (43, .invokevirtual 58, 3, 85, 1, 10, .null, []),
  (46, .istore_n 3, 1, 0, 0, 0, .null, []),
  (47, .iload_n 3, 1, 0, 0, 0, .null, []),
  (48, .ifCond .lt 11, 3, 59, 0, 0, .null, []),
  (51, .aload_n 0, 1, 0, 0, 0, .null, []),
  (52, .iload_n 3, 1, 0, 0, 0, .null, []),
  (53, .invokevirtual 62, 3, 87, 1, 10, .null, []),
  (56, .goto 8, 3, 64, 0, 0, .null, []),
  (59, .aload_n 0, 1, 0, 0, 0, .null, []),
  (60, .iload_n 2, 1, 0, 0, 0, .null, []),
  (61, .invokevirtual 66, 3, 86, 1, 10, .null, []),
  (64, .return_, 1, 0, 0, 0, .null, [])]
def am_c_St_holdsGroup : List am_E := [(0, .iconst 0, 1, 0, 0, 0, .int 0, []),
  (1, .istore_n 2, 1, 0, 0, 0, .null, []),
  (2, .iload_n 2, 1, 0, 0, 0, .null, [(0, 0)]),
  (3, .aload_n 0, 1, 0, 0, 0, .null, []),
  (4, .getfield 15, 3, 8, 1, 0, .null, []),
  (7, .if_icmp .ge 24, 3, 31, 0, 0, .null, []),
  (10, .aload_n 0, 1, 0, 0, 0, .null, []),
  (11, .getfield 18, 3, 8, 2, 2, .null, []),
  (14, .iload_n 2, 1, 0, 0, 0, .null, []),
  (15, .iaload, 1, 0, 0, 0, .null, []),
  (16, .iload_n 1, 1, 0, 0, 0, .null, []),
  (17, .iconst (-1), 1, 0, 0, 0, .int (-1), []),
  (18, .ixor, 1, 0, 0, 0, .null, []),
  (19, .iand, 1, 0, 0, 0, .null, []),
  (20, .ifCond .ne 5, 3, 25, 0, 0, .null, []),
  (23, .iconst 1, 1, 0, 0, 0, .int 1, []),
  (24, .ireturn, 1, 0, 0, 0, .null, []),
  (25, .iinc 2 1, 3, 0, 0, 0, .int 1, []),
  (28, .goto (-26), 3, 2, 0, 0, .null, []),
  (31, .iconst 0, 1, 0, 0, 0, .int 0, []),
  (32, .ireturn, 1, 0, 0, 0, .null, [])]
def am_c_St_isSuperfluous : List am_E := [(0, .iconst 0, 1, 0, 0, 0, .int 0, []),
  (1, .istore_n 2, 1, 0, 0, 0, .null, []),
  (2, .iload_n 2, 1, 0, 0, 0, .null, [(0, 0)]),
  (3, .aload_n 0, 1, 0, 0, 0, .null, []),
  (4, .getfield 15, 3, 8, 1, 0, .null, []),
  (7, .if_icmp .ge 34, 3, 41, 0, 0, .null, []),
  (10, .iload_n 2, 1, 0, 0, 0, .null, []),
  (11, .iload_n 1, 1, 0, 0, 0, .null, []),
  (12, .if_icmp .eq 23, 3, 35, 0, 0, .null, []),
  (15, .aload_n 0, 1, 0, 0, 0, .null, []),
  (16, .getfield 18, 3, 8, 2, 2, .null, []),
  (19, .iload_n 2, 1, 0, 0, 0, .null, []),
  (20, .iaload, 1, 0, 0, 0, .null, []),
  (21, .aload_n 0, 1, 0, 0, 0, .null, []),
  (22, .getfield 18, 3, 8, 2, 2, .null, []),
  (25, .iload_n 1, 1, 0, 0, 0, .null, []),
  (26, .iaload, 1, 0, 0, 0, .null, []),
  (27, .iconst (-1), 1, 0, 0, 0, .int (-1), []),
  (28, .ixor, 1, 0, 0, 0, .null, []),
  (29, .iand, 1, 0, 0, 0, .null, []),
  (30, .ifCond .ne 5, 3, 35, 0, 0, .null, []),
  (33, .iconst 1, 1, 0, 0, 0, .int 1, []),
  (34, .ireturn, 1, 0, 0, 0, .null, []),
  (35, .iinc 2 1, 3, 0, 0, 0, .int 1, []),
  (38, .goto (-36), 3, 2, 0, 0, .null, []),
  (41, .iconst 0, 1, 0, 0, 0, .int 0, []),
  (42, .ireturn, 1, 0, 0, 0, .null, [])]
def am_c_St_leastCommonOf : List am_E := [(0, .bipush (-4), 2, 0, 0, 0, .int (-4), []),
  (2, .istore_n 2, 1, 0, 0, 0, .null, []),
  (3, .iconst 0, 1, 0, 0, 0, .int 0, []),
  (4, .istore_n 3, 1, 0, 0, 0, .null, []),
  (5, .iload_n 3, 1, 0, 0, 0, .null, [(0, 0)]),
  (6, .aload_n 0, 1, 0, 0, 0, .null, []),
  (7, .getfield 15, 3, 8, 1, 0, .null, []),
  (10, .if_icmp .ge 47, 3, 57, 0, 0, .null, []),
  (13, .aload_n 0, 1, 0, 0, 0, .null, []),
  (14, .getfield 18, 3, 8, 2, 2, .null, []),
  (17, .iload_n 3, 1, 0, 0, 0, .null, []),
  (18, .iaload, 1, 0, 0, 0, .null, []),
  (19, .aload_n 0, 1, 0, 0, 0, .null, []),
  (20, .getfield 18, 3, 8, 2, 2, .null, []),
  (23, .iload_n 1, 1, 0, 0, 0, .null, []),
  (24, .iaload, 1, 0, 0, 0, .null, []),
  (25, .iand, 1, 0, 0, 0, .null, []),
  (26, .invokestatic 69, 3, 0, 1, 0, .null, []),
  (29, .istore 4, 2, 0, 0, 0, .null, []),
  (31, .iload_n 3, 1, 0, 0, 0, .null, []),
  (32, .iload_n 1, 1, 0, 0, 0, .null, []),
  (33, .if_icmp .eq 18, 3, 51, 0, 0, .null, []),
  (36, .iload_n 2, 1, 0, 0, 0, .null, []),
  (37, .bipush (-4), 2, 0, 0, 0, .int (-4), []),
  (39, .if_icmp .eq 9, 3, 48, 0, 0, .null, []),
  (42, .iload 4, 2, 0, 0, 0, .null, []),
  (44, .iload_n 2, 1, 0, 0, 0, .null, []),
  (45, .if_icmp .ge 6, 3, 51, 0, 0, .null, []),
  (48, .iload 4, 2, 0, 0, 0, .null, []),
  (50, .istore_n 2, 1, 0, 0, 0, .null, []),
  (51, .iinc 3 1, 3, 0, 0, 0, .int 1, []),
  (54, .goto (-49), 3, 5, 0, 0, .null, []),
  (57, .iload_n 2, 1, 0, 0, 0, .null, []),
  (58, .ireturn, 1, 0, 0, 0, .null, [])]
def am_c_St_groupsWith : List am_E := [(0, .iconst 0, 1, 0, 0, 0, .int 0, []),
  (1, .istore_n 2, 1, 0, 0, 0, .null, []),
  (2, .iconst 0, 1, 0, 0, 0, .int 0, []),
  (3, .istore_n 3, 1, 0, 0, 0, .null, []),
  (4, .iload_n 3, 1, 0, 0, 0, .null, [(0, 0)]),
  (5, .aload_n 0, 1, 0, 0, 0, .null, []),
  (6, .getfield 15, 3, 8, 1, 0, .null, []),
  (9, .if_icmp .ge 26, 3, 35, 0, 0, .null, []),
  (12, .aload_n 0, 1, 0, 0, 0, .null, []),
  (13, .getfield 18, 3, 8, 2, 2, .null, []),
  (16, .iload_n 3, 1, 0, 0, 0, .null, []),
  (17, .iaload, 1, 0, 0, 0, .null, []),
  (18, .iload_n 1, 1, 0, 0, 0, .null, []),
  (19, .iand, 1, 0, 0, 0, .null, []),
  (20, .ifCond .eq 9, 3, 29, 0, 0, .null, []),
  (23, .iload_n 2, 1, 0, 0, 0, .null, []),
  (24, .iconst 1, 1, 0, 0, 0, .int 1, []),
  (25, .iload_n 3, 1, 0, 0, 0, .null, []),
  (26, .ishl, 1, 0, 0, 0, .null, []),
  (27, .ior, 1, 0, 0, 0, .null, []),
  (28, .istore_n 2, 1, 0, 0, 0, .null, []),
  (29, .iinc 3 1, 3, 0, 0, 0, .int 1, []),
  (32, .goto (-28), 3, 4, 0, 0, .null, []),
  (35, .iload_n 2, 1, 0, 0, 0, .null, []),
  (36, .ireturn, 1, 0, 0, 0, .null, [])]
def am_c_St_common : List am_E := [(0, .bipush 7, 2, 0, 0, 0, .int 7, []),
  (2, .istore_n 1, 1, 0, 0, 0, .null, []),
  (3, .iconst 0, 1, 0, 0, 0, .int 0, []),
  (4, .istore_n 2, 1, 0, 0, 0, .null, []),
  (5, .iload_n 2, 1, 0, 0, 0, .null, [(0, 0)]),
  (6, .aload_n 0, 1, 0, 0, 0, .null, []),
  (7, .getfield 15, 3, 8, 1, 0, .null, []),
  (10, .if_icmp .ge 43, 3, 53, 0, 0, .null, []),
  (13, .iconst 0, 1, 0, 0, 0, .int 0, []),
  (14, .istore_n 3, 1, 0, 0, 0, .null, []),
  (15, .iload_n 3, 1, 0, 0, 0, .null, [(0, 0)]),
  (16, .iload_n 2, 1, 0, 0, 0, .null, []),
  (17, .if_icmp .gt 30, 3, 47, 0, 0, .null, []),
  (20, .iload_n 1, 1, 0, 0, 0, .null, []),
  (21, .aload_n 0, 1, 0, 0, 0, .null, []),
  (22, .getfield 18, 3, 8, 2, 2, .null, []),
  (25, .iload_n 2, 1, 0, 0, 0, .null, []),
  (26, .iaload, 1, 0, 0, 0, .null, []),
  (27, .aload_n 0, 1, 0, 0, 0, .null, []),
  (28, .getfield 18, 3, 8, 2, 2, .null, []),
  (31, .iload_n 3, 1, 0, 0, 0, .null, []),
  (32, .iaload, 1, 0, 0, 0, .null, []),
  (33, .iand, 1, 0, 0, 0, .null, []),
  (34, .invokestatic 69, 3, 0, 1, 0, .null, []),
  (37, .invokestatic 74, 3, 0, 2, 4, .null, []),
  (40, .istore_n 1, 1, 0, 0, 0, .null, []),
  (41, .iinc 3 1, 3, 0, 0, 0, .int 1, []),
  (44, .goto (-29), 3, 15, 0, 0, .null, []),
  (47, .iinc 2 1, 3, 0, 0, 0, .int 1, []),
  (50, .goto (-45), 3, 5, 0, 0, .null, []),
  (53, .iload_n 1, 1, 0, 0, 0, .null, []),
  (54, .ireturn, 1, 0, 0, 0, .null, [])]
def am_c_Ta_init : List am_E := [(0, .aload_n 0, 1, 0, 0, 0, .null, []),
  (1, .invokespecial 3, 3, 0, 0, 1, .null, []),
  (4, .aload_n 0, 1, 0, 0, 0, .null, []),
  (5, .iconst 0, 1, 0, 0, 0, .int 0, []),
  (6, .putfield 9, 3, 9, 0, 0, .null, []),
  (9, .aload_n 0, 1, 0, 0, 0, .null, []),
  (10, .bipush 90, 2, 0, 0, 0, .int 90, []),
  (12, .newarray .char, 2, 13, 0, 0, .null, []),
  (14, .putfield 15, 3, 9, 1, 2, .null, []),
  (17, .return_, 1, 0, 0, 0, .null, [])]
def am_c_Ta_append : List am_E := [(0, .aload_n 0, 1, 0, 0, 0, .null, []),
  (1, .getfield 9, 3, 9, 0, 0, .null, []),
  (4, .bipush 90, 2, 0, 0, 0, .int 90, []),
  (6, .if_icmp .ge 24, 3, 30, 0, 0, .null, []),
  (9, .aload_n 0, 1, 0, 0, 0, .null, []),
  (10, .getfield 15, 3, 9, 1, 2, .null, []),
  (13, .aload_n 0, 1, 0, 0, 0, .null, []),
  (14, .getfield 9, 3, 9, 0, 0, .null, []),
  (17, .iload_n 1, 1, 0, 0, 0, .null, []),
  (18, .i2c, 1, 0, 0, 0, .null, []),
  (19, .castore, 1, 0, 0, 0, .null, []),
  (20, .aload_n 0, 1, 0, 0, 0, .null, []),
  (21, .dup, 1, 0, 0, 0, .null, []),
  (22, .getfield 9, 3, 9, 0, 0, .null, []),
  (25, .iconst 1, 1, 0, 0, 0, .int 1, []),
  (26, .iadd, 1, 0, 0, 0, .null, []),
  (27, .putfield 9, 3, 9, 0, 0, .null, []),
  (30, .return_, 1, 0, 0, 0, .null, [])]
def am_c_Ta_at : List am_E := [(0, .iload_n 1, 1, 0, 0, 0, .null, []),
  (1, .ifCond .lt 20, 3, 21, 0, 0, .null, []),
  (4, .iload_n 1, 1, 0, 0, 0, .null, []),
  (5, .aload_n 0, 1, 0, 0, 0, .null, []),
  (6, .getfield 9, 3, 9, 0, 0, .null, []),
  (9, .if_icmp .ge 12, 3, 21, 0, 0, .null, []),
  (12, .aload_n 0, 1, 0, 0, 0, .null, []),
  (13, .getfield 15, 3, 9, 1, 2, .null, []),
  (16, .iload_n 1, 1, 0, 0, 0, .null, []),
  (17, .caload, 1, 0, 0, 0, .null, []),
  (18, .goto 4, 3, 22, 0, 0, .null, []),
  (21, .iconst 0, 1, 0, 0, 0, .int 0, []),
  (22, .ireturn, 1, 0, 0, 0, .null, [])]
def am_c_MG_init_1 : List am_E := [(108, .aload_n 0, 1, 0, 0, 0, .null, []),
  (109, .iconst 4, 1, 0, 0, 0, .int 4, []),
  (110, .anewarray 68, 3, 17, 0, 0, .null, []),
  (113, .putfield 70, 3, 10, 10, 2, .null, []),
  (116, .iconst 0, 1, 0, 0, 0, .int 0, []),
  (117, .istore_n 1, 1, 0, 0, 0, .null, []),
  (118, .iload_n 1, 1, 0, 0, 0, .null, [(0, 0)]),
  (119, .iconst 4, 1, 0, 0, 0, .int 4, []),
  (120, .if_icmp .ge 22, 3, 142, 0, 0, .null, []),
  (123, .aload_n 0, 1, 0, 0, 0, .null, []),
  (124, .getfield 70, 3, 10, 10, 2, .null, []),
  (127, .iload_n 1, 1, 0, 0, 0, .null, []),
  (128, .new 68, 3, 7, 0, 0, .null, []),
  (131, .dup, 1, 0, 0, 0, .null, []),
  (132, .invokespecial 74, 3, 71, 0, 2, .null, []),
  (135, .aastore, 1, 17, 7, 0, .null, []),
  (136, .iinc 1 1, 3, 0, 0, 0, .int 1, []),
  (139, .goto (-21), 3, 118, 0, 0, .null, []),
  (142, .return_, 1, 0, 0, 0, .null, [])]
def am_c_MG_init : List am_E := (0, .aload_n 0, 1, 0, 0, 0, .null, []) ::
  (1, .invokespecial 1, 3, 0, 0, 1, .null, []) ::
  (4, .aload_n 0, 1, 0, 0, 0, .null, []) ::
  (5, .new 7, 3, 8, 0, 0, .null, []) ::
  (8, .dup, 1, 0, 0, 0, .null, []) ::
  (9, .invokespecial 9, 3, 78, 0, 2, .null, []) ::
  (12, .putfield 10, 3, 10, 0, 2, .null, []) ::
  (15, .aload_n 0, 1, 0, 0, 0, .null, []) ::
  (16, .new 16, 3, 0, 0, 0, .null, []) ::
  (19, .dup, 1, 0, 0, 0, .null, []) ::
  (20, .invokespecial 18, 3, 1, 0, 0, .null, []) ::
  (23, .putfield 19, 3, 10, 1, 2, .null, []) ::
  (26, .aload_n 0, 1, 0, 0, 0, .null, []) ::
  (27, .new 7, 3, 8, 0, 0, .null, []) ::
  (30, .dup, 1, 0, 0, 0, .null, []) ::
  (31, .invokespecial 9, 3, 78, 0, 2, .null, []) ::
  (34, .putfield 23, 3, 10, 2, 2, .null, []) ::
  (37, .aload_n 0, 1, 0, 0, 0, .null, []) ::
  (38, .new 16, 3, 0, 0, 0, .null, []) ::
  (41, .dup, 1, 0, 0, 0, .null, []) ::
  (42, .invokespecial 18, 3, 1, 0, 0, .null, []) ::
  (45, .putfield 26, 3, 10, 3, 2, .null, []) ::
  (48, .aload_n 0, 1, 0, 0, 0, .null, []) ::
  (49, .iconst 0, 1, 0, 0, 0, .int 0, []) ::
  (50, .putfield 29, 3, 10, 4, 1, .null, []) ::
  (53, .aload_n 0, 1, 0, 0, 0, .null, []) ::
  (54, .new 33, 3, 5, 0, 0, .null, []) ::
  (57, .dup, 1, 0, 0, 0, .null, []) ::
  (58, .invokespecial 35, 3, 41, 0, 2, .null, []) ::
  (61, .putfield 36, 3, 10, 5, 2, .null, []) ::
  (64, .aload_n 0, 1, 0, 0, 0, .null, []) ::
  (65, .new 40, 3, 1, 0, 0, .null, []) ::
  (68, .dup, 1, 0, 0, 0, .null, []) ::
  (69, .invokespecial 42, 3, 6, 0, 2, .null, []) ::
  (72, .putfield 43, 3, 10, 6, 2, .null, []) ::
  (75, .aload_n 0, 1, 0, 0, 0, .null, []) ::
  (76, .new 47, 3, 4, 0, 0, .null, []) ::
  (79, .dup, 1, 0, 0, 0, .null, []) ::
  (80, .invokespecial 49, 3, 31, 0, 0, .null, []) ::
  (83, .putfield 50, 3, 10, 7, 2, .null, []) ::
  (86, .aload_n 0, 1, 0, 0, 0, .null, []) ::
  (87, .new 54, 3, 2, 0, 0, .null, []) ::
  (90, .dup, 1, 0, 0, 0, .null, []) ::
  (91, .invokespecial 56, 3, 14, 0, 2, .null, []) ::
  (94, .putfield 57, 3, 10, 8, 2, .null, []) ::
  (97, .aload_n 0, 1, 0, 0, 0, .null, []) ::
  (98, .new 61, 3, 6, 0, 0, .null, []) ::
  (101, .dup, 1, 0, 0, 0, .null, []) ::
  (102, .invokespecial 63, 3, 62, 0, 2, .null, []) ::
  (105, .putfield 64, 3, 10, 9, 2, .null, []) :: am_c_MG_init_1
def am_c_MG_group : List am_E := [(0, .iload_n 1, 1, 0, 0, 0, .null, []),
  (1, .ifCond .lt 23, 3, 24, 0, 0, .null, []),
  (4, .iload_n 1, 1, 0, 0, 0, .null, []),
  (5, .aload_n 0, 1, 0, 0, 0, .null, []),
  (6, .getfield 10, 3, 10, 0, 2, .null, []),
  (9, .getfield 75, 3, 8, 1, 0, .null, []),
  (12, .if_icmp .ge 12, 3, 24, 0, 0, .null, []),
  (15, .iload_n 2, 1, 0, 0, 0, .null, []),
  (16, .ifCond .lt 8, 3, 24, 0, 0, .null, []),
  (19, .iload_n 2, 1, 0, 0, 0, .null, []),
  (20, .iconst 2, 1, 0, 0, 0, .int 2, []),
  (21, .if_icmp .le 5, 3, 26, 0, 0, .null, []),
  (24, .iconst (-1), 1, 0, 0, 0, .int (-1), []),
  (25, .ireturn, 1, 0, 0, 0, .null, []),
  (26, .iload_n 2, 1, 0, 0, 0, .null, []),
  (27, .ifCond .ne 13, 3, 40, 0, 0, .null, []),
  (30, .aload_n 0, 1, 0, 0, 0, .null, []),
  (31, .getfield 10, 3, 10, 0, 2, .null, []),
  (34, .getfield 79, 3, 8, 2, 2, .null, []),
  (37, .iload_n 1, 1, 0, 0, 0, .null, []),
  (38, .iaload, 1, 0, 0, 0, .null, []),
  (39, .ireturn, 1, 0, 0, 0, .null, []),
  (40, .iload_n 2, 1, 0, 0, 0, .null, []),
  (41, .iconst 1, 1, 0, 0, 0, .int 1, []),
  (42, .if_icmp .ne 17, 3, 59, 0, 0, .null, []),
  (45, .aload_n 0, 1, 0, 0, 0, .null, []),
  (46, .getfield 10, 3, 10, 0, 2, .null, []),
  (49, .iload_n 1, 1, 0, 0, 0, .null, []),
  (50, .invokevirtual 83, 3, 90, 1, 10, .null, []),
  (53, .invokestatic 87, 3, 126, 1, 0, .null, []),
  (56, .goto 11, 3, 67, 0, 0, .null, []),
  (59, .aload_n 0, 1, 0, 0, 0, .null, []),
  (60, .getfield 10, 3, 10, 0, 2, .null, []),
  (63, .iload_n 1, 1, 0, 0, 0, .null, []),
  (64, .invokevirtual 91, 3, 91, 1, 10, .null, []),
  (67, .ireturn, 1, 0, 0, 0, .null, [])]
def am_c_MG_element : List am_E := [(0, .iload_n 1, 1, 0, 0, 0, .null, []),
  (1, .ifCond .lt 23, 3, 24, 0, 0, .null, []),
  (4, .iload_n 1, 1, 0, 0, 0, .null, []),
  (5, .aload_n 0, 1, 0, 0, 0, .null, []),
  (6, .getfield 10, 3, 10, 0, 2, .null, []),
  (9, .getfield 95, 3, 8, 0, 0, .null, []),
  (12, .if_icmp .ge 12, 3, 24, 0, 0, .null, []),
  (15, .iload_n 2, 1, 0, 0, 0, .null, []),
  (16, .ifCond .lt 8, 3, 24, 0, 0, .null, []),
  (19, .iload_n 2, 1, 0, 0, 0, .null, []),
  (20, .iconst 2, 1, 0, 0, 0, .int 2, []),
  (21, .if_icmp .le 5, 3, 26, 0, 0, .null, []),
  (24, .iconst (-1), 1, 0, 0, 0, .int (-1), []),
  (25, .ireturn, 1, 0, 0, 0, .null, []),
  (26, .iload_n 2, 1, 0, 0, 0, .null, []),
  (27, .iconst 2, 1, 0, 0, 0, .int 2, []),
  (28, .if_icmp .ne 25, 3, 53, 0, 0, .null, []),
  (31, .aload_n 0, 1, 0, 0, 0, .null, []),
  (32, .getfield 43, 3, 10, 6, 2, .null, []),
  (35, .aload_n 0, 1, 0, 0, 0, .null, []),
  (36, .getfield 10, 3, 10, 0, 2, .null, []),
  (39, .invokevirtual 98, 3, 7, 1, 3, .null, []),
  (42, .aload_n 0, 1, 0, 0, 0, .null, []),
  (43, .getfield 43, 3, 10, 6, 2, .null, []),
  (46, .iconst 1, 1, 0, 0, 0, .int 1, []),
  (47, .iload_n 1, 1, 0, 0, 0, .null, []),
  (48, .ishl, 1, 0, 0, 0, .null, []),
  (49, .invokevirtual 102, 3, 9, 1, 3, .null, []),
  (52, .ireturn, 1, 0, 0, 0, .null, []),
  (53, .aload_n 0, 1, 0, 0, 0, .null, []),
  (54, .getfield 10, 3, 10, 0, 2, .null, []),
  (57, .iconst 1, 1, 0, 0, 0, .int 1, []),
  (58, .iload_n 1, 1, 0, 0, 0, .null, []),
  (59, .ishl, 1, 0, 0, 0, .null, []),
  (60, .invokevirtual 105, 3, 92, 1, 10, .null, []),
  (63, .istore_n 3, 1, 0, 0, 0, .null, []),
  (64, .iload_n 2, 1, 0, 0, 0, .null, []),
  (65, .ifCond .ne 10, 3, 75, 0, 0, .null, []),
  (68, .iload_n 3, 1, 0, 0, 0, .null, []),
  (69, .invokestatic 108, 3, 0, 1, 0, .null, []),
  (72, .goto 4, 3, 76, 0, 0, .null, []),
  (75, .iload_n 3, 1, 0, 0, 0, .null, []),
  (76, .ireturn, 1, 0, 0, 0, .null, [])]
def am_c_MG_count : List am_E := [(0, .iload_n 1, 1, 0, 0, 0, .null, []),
  (1, .tableswitch 136 0 8 #[51, 59, 96, 67, 96, 96, 96, 117, 128], 51, 137, 0, 0, .null, [(0, 52), (1, 60), (2, 97), (3, 68), (4, 97), (5, 97), (6, 97), (7, 118), (8, 129)]),
  (52, .aload_n 0, 1, 0, 0, 0, .null, []),
  (53, .getfield 10, 3, 10, 0, 2, .null, []),
  (56, .getfield 95, 3, 8, 0, 0, .null, []),
  (59, .ireturn, 1, 0, 0, 0, .null, []),
  (60, .aload_n 0, 1, 0, 0, 0, .null, []),
  (61, .getfield 10, 3, 10, 0, 2, .null, []),
  (64, .getfield 75, 3, 8, 1, 0, .null, []),
  (67, .ireturn, 1, 0, 0, 0, .null, []),
  (68, .aload_n 0, 1, 0, 0, 0, .null, []),
  (69, .getfield 10, 3, 10, 0, 2, .null, []),
  (72, .getfield 75, 3, 8, 1, 0, .null, []),
  (75, .ifCond .eq 13, 3, 88, 0, 0, .null, []),
  (78, .aload_n 0, 1, 0, 0, 0, .null, []),
  (79, .getfield 10, 3, 10, 0, 2, .null, []),
  (82, .invokevirtual 113, 3, 93, 0, 10, .null, []),
  (85, .ifCond .le 7, 3, 92, 0, 0, .null, []),
  (88, .iconst 1, 1, 0, 0, 0, .int 1, []),
  (89, .goto 4, 3, 93, 0, 0, .null, []),
  (92, .iconst 0, 1, 0, 0, 0, .int 0, []),
  (93, .invokestatic 87, 3, 126, 1, 0, .null, []),
  (96, .ireturn, 1, 0, 0, 0, .null, []),
  (97, .aload_n 0, 1, 0, 0, 0, .null, []),
  (98, .getfield 10, 3, 10, 0, 2, .null, []),
  (101, .getfield 75, 3, 8, 1, 0, .null, []),
  (104, .ifCond .ne 8, 3, 112, 0, 0, .null, []),
  (107, .bipush (-4), 2, 0, 0, 0, .int (-4), []),
  (109, .goto 8, 3, 117, 0, 0, .null, []),
  (112, .aload_n 0, 1, 0, 0, 0, .null, []),
  (113, .iload_n 1, 1, 0, 0, 0, .null, []),
  (114, .invokevirtual 117, 3, 127, 1, 12, .null, []),
  (117, .ireturn, 1, 0, 0, 0, .null, []),
  (118, .aload_n 0, 1, 0, 0, 0, .null, []),
  (119, .getfield 10, 3, 10, 0, 2, .null, []),
  (122, .getfield 120, 3, 8, 4, 2, .null, []),
  (125, .getfield 124, 3, 3, 0, 0, .null, []),
  (128, .ireturn, 1, 0, 0, 0, .null, []),
  (129, .aload_n 0, 1, 0, 0, 0, .null, []),
  (130, .getfield 19, 3, 10, 1, 2, .null, []),
  (133, .getfield 129, 3, 0, 0, 0, .null, []),
  (136, .ireturn, 1, 0, 0, 0, .null, []),
  (137, .iconst (-1), 1, 0, 0, 0, .int (-1), []),
  (138, .ireturn, 1, 0, 0, 0, .null, [])]
def am_c_MG_load : List am_E := [(0, .iload_n 1, 1, 0, 0, 0, .null, []),
  (1, .ifCond .lt 8, 3, 9, 0, 0, .null, []),
  (4, .iload_n 1, 1, 0, 0, 0, .null, []),
  (5, .iconst 1, 1, 0, 0, 0, .int 1, []),
  (6, .if_icmp .le 5, 3, 11, 0, 0, .null, []),
  (9, .iconst (-1), 1, 0, 0, 0, .int (-1), []),
  (10, .ireturn, 1, 0, 0, 0, .null, []),
  (11, .aload_n 0, 1, 0, 0, 0, .null, []),
  (12, .getfield 10, 3, 10, 0, 2, .null, []),
  (15, .getfield 75, 3, 8, 1, 0, .null, []),
  (18, .ifCond .ne 6, 3, 24, 0, 0, .null, []),
  (21, .bipush (-4), 2, 0, 0, 0, .int (-4), []),
  (23, .ireturn, 1, 0, 0, 0, .null, []),
  (24, .aload_n 0, 1, 0, 0, 0, .null, []),
  (25, .getfield 57, 3, 10, 8, 2, .null, []),
  (28, .aload_n 0, 1, 0, 0, 0, .null, []),
  (29, .getfield 10, 3, 10, 0, 2, .null, []),
  (32, .invokevirtual 132, 3, 16, 1, 4, .null, []),
  (35, .aload_n 0, 1, 0, 0, 0, .null, []),
  (36, .getfield 57, 3, 10, 8, 2, .null, []),
  (39, .getfield 135, 3, 2, 5, 0, .null, []),
  (42, .aload_n 0, 1, 0, 0, 0, .null, []),
  (43, .getfield 57, 3, 10, 8, 2, .null, []),
  (46, .invokevirtual 138, 3, 15, 0, 4, .null, []),
  (49, .iload_n 1, 1, 0, 0, 0, .null, []),
  (50, .invokestatic 141, 3, 129, 3, 0, .null, []),
  (53, .ireturn, 1, 0, 0, 0, .null, [])]
def am_c_MG_plan_1 : List am_E := [(97, .invokevirtual 155, 3, 30, 2, 5, .null, []),
  (100, .istore 5, 2, 0, 0, 0, .null, []),
  (102, .iload_n 2, 1, 0, 0, 0, .null, []),
  (103, .iconst 2, 1, 0, 0, 0, .int 2, []),
  (104, .if_icmp .ge 12, 3, 116, 0, 0, .null, []),
  (107, .iload 5, 2, 0, 0, 0, .null, []),
  (109, .iload 4, 2, 0, 0, 0, .null, []),
  (111, .iload_n 2, 1, 0, 0, 0, .null, []),
  (112, .invokestatic 141, 3, 129, 3, 0, .null, []),
  (115, .ireturn, 1, 0, 0, 0, .null, []),
  (116, .aload_n 0, 1, 0, 0, 0, .null, []),
  (117, .getfield 57, 3, 10, 8, 2, .null, []),
  (120, .aload_n 0, 1, 0, 0, 0, .null, []),
  (121, .getfield 10, 3, 10, 0, 2, .null, []),
  (124, .invokevirtual 132, 3, 16, 1, 4, .null, []),
  (127, .iload 5, 2, 0, 0, 0, .null, []),
  (129, .aload_n 0, 1, 0, 0, 0, .null, []),
  (130, .getfield 57, 3, 10, 8, 2, .null, []),
  (133, .invokevirtual 138, 3, 15, 0, 4, .null, []),
  (136, .imul, 1, 0, 0, 0, .null, []),
  (137, .iload 4, 2, 0, 0, 0, .null, []),
  (139, .aload_n 0, 1, 0, 0, 0, .null, []),
  (140, .getfield 57, 3, 10, 8, 2, .null, []),
  (143, .getfield 135, 3, 2, 5, 0, .null, []),
  (146, .imul, 1, 0, 0, 0, .null, []),
  (147, .if_icmp .ne 7, 3, 154, 0, 0, .null, []),
  (150, .iconst 1, 1, 0, 0, 0, .int 1, []),
  (151, .goto 4, 3, 155, 0, 0, .null, []),
  (154, .iconst 0, 1, 0, 0, 0, .int 0, []),
  (155, .invokestatic 87, 3, 126, 1, 0, .null, []),
  (158, .ireturn, 1, 0, 0, 0, .null, [])]
def am_c_MG_plan : List am_E := (0, .iload_n 1, 1, 0, 0, 0, .null, []) ::
  (1, .ifCond .lt 18, 3, 19, 0, 0, .null, []) ::
  (4, .iload_n 1, 1, 0, 0, 0, .null, []) ::
  (5, .bipush 99, 2, 0, 0, 0, .int 99, []) ::
  (7, .if_icmp .gt 12, 3, 19, 0, 0, .null, []) ::
  (10, .iload_n 2, 1, 0, 0, 0, .null, []) ::
  (11, .ifCond .lt 8, 3, 19, 0, 0, .null, []) ::
  (14, .iload_n 2, 1, 0, 0, 0, .null, []) ::
  (15, .iconst 3, 1, 0, 0, 0, .int 3, []) ::
  (16, .if_icmp .le 5, 3, 21, 0, 0, .null, []) ::
  (19, .iconst (-1), 1, 0, 0, 0, .int (-1), []) ::
  (20, .ireturn, 1, 0, 0, 0, .null, []) ::
  (21, .aload_n 0, 1, 0, 0, 0, .null, []) ::
  (22, .getfield 10, 3, 10, 0, 2, .null, []) ::
  (25, .getfield 120, 3, 8, 4, 2, .null, []) ::
  (28, .iload_n 1, 1, 0, 0, 0, .null, []) ::
  (29, .invokevirtual 145, 3, 26, 1, 5, .null, []) ::
  (32, .istore_n 3, 1, 0, 0, 0, .null, []) ::
  (33, .iload_n 3, 1, 0, 0, 0, .null, []) ::
  (34, .ifCond .lt 8, 3, 42, 0, 0, .null, []) ::
  (37, .iload_n 2, 1, 0, 0, 0, .null, []) ::
  (38, .iconst 3, 1, 0, 0, 0, .int 3, []) ::
  (39, .if_icmp .ne 14, 3, 53, 0, 0, .null, []) ::
  (42, .iload_n 3, 1, 0, 0, 0, .null, []) ::
  (43, .ifCond .ge 8, 3, 51, 0, 0, .null, []) ::
  (46, .bipush (-4), 2, 0, 0, 0, .int (-4), []) ::
  (48, .goto 4, 3, 52, 0, 0, .null, []) ::
  (51, .iload_n 3, 1, 0, 0, 0, .null, []) ::
  (52, .ireturn, 1, 0, 0, 0, .null, []) ::
  (53, .aload_n 0, 1, 0, 0, 0, .null, []) ::
  (54, .getfield 10, 3, 10, 0, 2, .null, []) ::
  (57, .getfield 120, 3, 8, 4, 2, .null, []) ::
  (60, .iload_n 3, 1, 0, 0, 0, .null, []) ::
  (61, .aload_n 0, 1, 0, 0, 0, .null, []) ::
  (62, .getfield 10, 3, 10, 0, 2, .null, []) ::
  (65, .aload_n 0, 1, 0, 0, 0, .null, []) ::
  (66, .getfield 10, 3, 10, 0, 2, .null, []) ::
  (69, .invokevirtual 148, 3, 81, 0, 10, .null, []) ::
  (72, .invokevirtual 151, 3, 29, 3, 5, .null, []) ::
  (75, .istore 4, 2, 0, 0, 0, .null, []) ::
  (77, .iload 4, 2, 0, 0, 0, .null, []) ::
  (79, .ifCond .ne 6, 3, 85, 0, 0, .null, []) ::
  (82, .bipush (-4), 2, 0, 0, 0, .int (-4), []) ::
  (84, .ireturn, 1, 0, 0, 0, .null, []) ::
  (85, .aload_n 0, 1, 0, 0, 0, .null, []) ::
  (86, .getfield 10, 3, 10, 0, 2, .null, []) ::
  (89, .getfield 120, 3, 8, 4, 2, .null, []) ::
  (92, .iload_n 3, 1, 0, 0, 0, .null, []) ::
  (93, .aload_n 0, 1, 0, 0, 0, .null, []) ::
  (94, .getfield 10, 3, 10, 0, 2, .null, []) :: am_c_MG_plan_1
def am_c_MG_standing : List am_E := [(0, .iload_n 1, 1, 0, 0, 0, .null, []),
  (1, .ifCond .lt 14, 3, 15, 0, 0, .null, []),
  (4, .iload_n 1, 1, 0, 0, 0, .null, []),
  (5, .aload_n 0, 1, 0, 0, 0, .null, []),
  (6, .getfield 10, 3, 10, 0, 2, .null, []),
  (9, .getfield 95, 3, 8, 0, 0, .null, []),
  (12, .if_icmp .le 5, 3, 17, 0, 0, .null, []),
  (15, .iconst (-1), 1, 0, 0, 0, .int (-1), []),
  (16, .ireturn, 1, 0, 0, 0, .null, []),
  (17, .aload_n 0, 1, 0, 0, 0, .null, []),
  (18, .getfield 43, 3, 10, 6, 2, .null, []),
  (21, .aload_n 0, 1, 0, 0, 0, .null, []),
  (22, .getfield 10, 3, 10, 0, 2, .null, []),
  (25, .invokevirtual 98, 3, 7, 1, 3, .null, []),
  (28, .aload_n 0, 1, 0, 0, 0, .null, []),
  (29, .getfield 43, 3, 10, 6, 2, .null, []),
  (32, .iload_n 1, 1, 0, 0, 0, .null, []),
  (33, .invokevirtual 159, 3, 8, 1, 3, .null, []),
  (36, .ireturn, 1, 0, 0, 0, .null, [])]
def am_c_MG_stands_1 : List am_E := [(93, .bipush 10, 2, 0, 0, 0, .int 10, []),
  (95, .aload_n 0, 1, 0, 0, 0, .null, []),
  (96, .getfield 10, 3, 10, 0, 2, .null, []),
  (99, .getfield 95, 3, 8, 0, 0, .null, []),
  (102, .invokestatic 162, 3, 128, 2, 0, .null, []),
  (105, .iload_n 2, 1, 0, 0, 0, .null, []),
  (106, .invokestatic 141, 3, 129, 3, 0, .null, []),
  (109, .ireturn, 1, 0, 0, 0, .null, [])]
def am_c_MG_stands : List am_E := (0, .iload_n 1, 1, 0, 0, 0, .null, []) ::
  (1, .ifCond .lt 18, 3, 19, 0, 0, .null, []) ::
  (4, .iload_n 1, 1, 0, 0, 0, .null, []) ::
  (5, .bipush 10, 2, 0, 0, 0, .int 10, []) ::
  (7, .if_icmp .gt 12, 3, 19, 0, 0, .null, []) ::
  (10, .iload_n 2, 1, 0, 0, 0, .null, []) ::
  (11, .ifCond .lt 8, 3, 19, 0, 0, .null, []) ::
  (14, .iload_n 2, 1, 0, 0, 0, .null, []) ::
  (15, .iconst 1, 1, 0, 0, 0, .int 1, []) ::
  (16, .if_icmp .le 5, 3, 21, 0, 0, .null, []) ::
  (19, .iconst (-1), 1, 0, 0, 0, .int (-1), []) ::
  (20, .ireturn, 1, 0, 0, 0, .null, []) ::
  (21, .aload_n 0, 1, 0, 0, 0, .null, []) ::
  (22, .getfield 43, 3, 10, 6, 2, .null, []) ::
  (25, .aload_n 0, 1, 0, 0, 0, .null, []) ::
  (26, .getfield 10, 3, 10, 0, 2, .null, []) ::
  (29, .invokevirtual 98, 3, 7, 1, 3, .null, []) ::
  (32, .iconst 0, 1, 0, 0, 0, .int 0, []) ::
  (33, .istore_n 3, 1, 0, 0, 0, .null, []) ::
  (34, .iconst 0, 1, 0, 0, 0, .int 0, []) ::
  (35, .istore 4, 2, 0, 0, 0, .null, []) ::
  (37, .iload 4, 2, 0, 0, 0, .null, [(0, 0)]) ::
  (39, .aload_n 0, 1, 0, 0, 0, .null, []) ::
  (40, .getfield 10, 3, 10, 0, 2, .null, []) ::
  (43, .getfield 95, 3, 8, 0, 0, .null, []) ::
  (46, .if_icmp .gt 46, 3, 92, 0, 0, .null, []) ::
  (49, .iload_n 3, 1, 0, 0, 0, .null, []) ::
  (50, .aload_n 0, 1, 0, 0, 0, .null, []) ::
  (51, .getfield 43, 3, 10, 6, 2, .null, []) ::
  (54, .iload 4, 2, 0, 0, 0, .null, []) ::
  (56, .invokevirtual 159, 3, 8, 1, 3, .null, []) ::
  (59, .bipush 10, 2, 0, 0, 0, .int 10, []) ::
  (61, .iload_n 1, 1, 0, 0, 0, .null, []) ::
  (62, .isub, 1, 0, 0, 0, .null, []) ::
  (63, .iload 4, 2, 0, 0, 0, .null, []) ::
  (65, .invokestatic 162, 3, 128, 2, 0, .null, []) ::
  (68, .imul, 1, 0, 0, 0, .null, []) ::
  (69, .iload_n 1, 1, 0, 0, 0, .null, []) ::
  (70, .aload_n 0, 1, 0, 0, 0, .null, []) ::
  (71, .getfield 10, 3, 10, 0, 2, .null, []) ::
  (74, .getfield 95, 3, 8, 0, 0, .null, []) ::
  (77, .iload 4, 2, 0, 0, 0, .null, []) ::
  (79, .isub, 1, 0, 0, 0, .null, []) ::
  (80, .invokestatic 162, 3, 128, 2, 0, .null, []) ::
  (83, .imul, 1, 0, 0, 0, .null, []) ::
  (84, .iadd, 1, 0, 0, 0, .null, []) ::
  (85, .istore_n 3, 1, 0, 0, 0, .null, []) ::
  (86, .iinc 4 1, 3, 0, 0, 0, .int 1, []) ::
  (89, .goto (-52), 3, 37, 0, 0, .null, []) ::
  (92, .iload_n 3, 1, 0, 0, 0, .null, []) :: am_c_MG_stands_1
def am_c_MG_free : List am_E := [(0, .iload_n 1, 1, 0, 0, 0, .null, []),
  (1, .ifCond .lt 8, 3, 9, 0, 0, .null, []),
  (4, .iload_n 1, 1, 0, 0, 0, .null, []),
  (5, .iconst 1, 1, 0, 0, 0, .int 1, []),
  (6, .if_icmp .le 5, 3, 11, 0, 0, .null, []),
  (9, .iconst (-1), 1, 0, 0, 0, .int (-1), []),
  (10, .ireturn, 1, 0, 0, 0, .null, []),
  (11, .aload_n 0, 1, 0, 0, 0, .null, []),
  (12, .getfield 43, 3, 10, 6, 2, .null, []),
  (15, .aload_n 0, 1, 0, 0, 0, .null, []),
  (16, .getfield 10, 3, 10, 0, 2, .null, []),
  (19, .invokevirtual 98, 3, 7, 1, 3, .null, []),
  (22, .iload_n 1, 1, 0, 0, 0, .null, []),
  (23, .ifCond .ne 13, 3, 36, 0, 0, .null, []),
  (26, .aload_n 0, 1, 0, 0, 0, .null, []),
  (27, .getfield 43, 3, 10, 6, 2, .null, []),
  (30, .invokevirtual 166, 3, 12, 0, 3, .null, []),
  (33, .goto 10, 3, 43, 0, 0, .null, []),
  (36, .aload_n 0, 1, 0, 0, 0, .null, []),
  (37, .getfield 43, 3, 10, 6, 2, .null, []),
  (40, .invokevirtual 169, 3, 13, 0, 3, .null, []),
  (43, .ireturn, 1, 0, 0, 0, .null, [])]
def am_c_MG_probe : List am_E := [(0, .aload_n 0, 1, 0, 0, 0, .null, []),
  (1, .getfield 10, 3, 10, 0, 2, .null, []),
  (4, .iload_n 1, 1, 0, 0, 0, .null, []),
  (5, .invokevirtual 172, 3, 82, 1, 10, .null, []),
  (8, .ifCond .eq 29, 3, 37, 0, 0, .null, []),
  (11, .aload_n 0, 1, 0, 0, 0, .null, []),
  (12, .getfield 10, 3, 10, 0, 2, .null, []),
  (15, .iload_n 2, 1, 0, 0, 0, .null, []),
  (16, .invokevirtual 172, 3, 82, 1, 10, .null, []),
  (19, .ifCond .eq 18, 3, 37, 0, 0, .null, []),
  (22, .iload_n 1, 1, 0, 0, 0, .null, []),
  (23, .iload_n 2, 1, 0, 0, 0, .null, []),
  (24, .iand, 1, 0, 0, 0, .null, []),
  (25, .ifCond .ne 12, 3, 37, 0, 0, .null, []),
  (28, .iload_n 3, 1, 0, 0, 0, .null, []),
  (29, .ifCond .lt 8, 3, 37, 0, 0, .null, []),
  (32, .iload_n 3, 1, 0, 0, 0, .null, []),
  (33, .iconst 1, 1, 0, 0, 0, .int 1, []),
  (34, .if_icmp .le 5, 3, 39, 0, 0, .null, []),
  (37, .iconst (-1), 1, 0, 0, 0, .int (-1), []),
  (38, .ireturn, 1, 0, 0, 0, .null, []),
  (39, .aload_n 0, 1, 0, 0, 0, .null, []),
  (40, .getfield 50, 3, 10, 7, 2, .null, []),
  (43, .aload_n 0, 1, 0, 0, 0, .null, []),
  (44, .getfield 10, 3, 10, 0, 2, .null, []),
  (47, .iload_n 1, 1, 0, 0, 0, .null, []),
  (48, .iload_n 2, 1, 0, 0, 0, .null, []),
  (49, .invokevirtual 175, 3, 32, 3, 6, .null, []),
  (52, .iload_n 3, 1, 0, 0, 0, .null, []),
  (53, .ifCond .ne 13, 3, 66, 0, 0, .null, []),
  (56, .aload_n 0, 1, 0, 0, 0, .null, []),
  (57, .getfield 50, 3, 10, 7, 2, .null, []),
  (60, .invokevirtual 179, 3, 39, 0, 6, .null, []),
  (63, .goto 10, 3, 73, 0, 0, .null, []),
  (66, .aload_n 0, 1, 0, 0, 0, .null, []),
  (67, .getfield 50, 3, 10, 7, 2, .null, []),
  (70, .invokevirtual 182, 3, 40, 0, 6, .null, []),
  (73, .ireturn, 1, 0, 0, 0, .null, [])]
def am_c_MG_add : List am_E := [(0, .aload_n 0, 1, 0, 0, 0, .null, []),
  (1, .getfield 10, 3, 10, 0, 2, .null, []),
  (4, .iload_n 1, 1, 0, 0, 0, .null, []),
  (5, .invokevirtual 185, 3, 83, 1, 10, .null, []),
  (8, .ifCond .ne 5, 3, 13, 0, 0, .null, []),
  (11, .iconst (-1), 1, 0, 0, 0, .int (-1), []),
  (12, .ireturn, 1, 0, 0, 0, .null, []),
  (13, .aload_n 0, 1, 0, 0, 0, .null, []),
  (14, .getfield 10, 3, 10, 0, 2, .null, []),
  (17, .iload_n 1, 1, 0, 0, 0, .null, []),
  (18, .invokevirtual 188, 3, 85, 1, 10, .null, []),
  (21, .ifCond .lt 6, 3, 27, 0, 0, .null, []),
  (24, .bipush (-2), 2, 0, 0, 0, .int (-2), []),
  (26, .ireturn, 1, 0, 0, 0, .null, []),
  (27, .aload_n 0, 1, 0, 0, 0, .null, []),
  (28, .getfield 10, 3, 10, 0, 2, .null, []),
  (31, .getfield 75, 3, 8, 1, 0, .null, []),
  (34, .bipush 12, 2, 0, 0, 0, .int 12, []),
  (36, .if_icmp .lt 6, 3, 42, 0, 0, .null, []),
  (39, .bipush (-3), 2, 0, 0, 0, .int (-3), []),
  (41, .ireturn, 1, 0, 0, 0, .null, []),
  (42, .aload_n 0, 1, 0, 0, 0, .null, []),
  (43, .getfield 19, 3, 10, 1, 2, .null, []),
  (46, .aload_n 0, 1, 0, 0, 0, .null, []),
  (47, .getfield 10, 3, 10, 0, 2, .null, []),
  (50, .invokevirtual 189, 3, 2, 1, 2, .null, []),
  (53, .aload_n 0, 1, 0, 0, 0, .null, []),
  (54, .getfield 10, 3, 10, 0, 2, .null, []),
  (57, .iload_n 1, 1, 0, 0, 0, .null, []),
  (58, .invokevirtual 192, 3, 86, 1, 10, .null, []),
  (61, .aload_n 0, 1, 0, 0, 0, .null, []),
  (62, .getfield 10, 3, 10, 0, 2, .null, []),
  (65, .getfield 75, 3, 8, 1, 0, .null, []),
  (68, .ireturn, 1, 0, 0, 0, .null, [])]
def am_c_MG_out : List am_E := [(0, .aload_n 0, 1, 0, 0, 0, .null, []),
  (1, .getfield 10, 3, 10, 0, 2, .null, []),
  (4, .iload_n 1, 1, 0, 0, 0, .null, []),
  (5, .invokevirtual 185, 3, 83, 1, 10, .null, []),
  (8, .ifCond .ne 5, 3, 13, 0, 0, .null, []),
  (11, .iconst (-1), 1, 0, 0, 0, .int (-1), []),
  (12, .ireturn, 1, 0, 0, 0, .null, []),
  (13, .aload_n 0, 1, 0, 0, 0, .null, []),
  (14, .getfield 10, 3, 10, 0, 2, .null, []),
  (17, .iload_n 1, 1, 0, 0, 0, .null, []),
  (18, .invokevirtual 188, 3, 85, 1, 10, .null, []),
  (21, .istore_n 2, 1, 0, 0, 0, .null, []),
  (22, .iload_n 2, 1, 0, 0, 0, .null, []),
  (23, .ifCond .ge 6, 3, 29, 0, 0, .null, []),
  (26, .bipush (-4), 2, 0, 0, 0, .int (-4), []),
  (28, .ireturn, 1, 0, 0, 0, .null, []),
  (29, .aload_n 0, 1, 0, 0, 0, .null, []),
  (30, .getfield 19, 3, 10, 1, 2, .null, []),
  (33, .aload_n 0, 1, 0, 0, 0, .null, []),
  (34, .getfield 10, 3, 10, 0, 2, .null, []),
  (37, .invokevirtual 189, 3, 2, 1, 2, .null, []),
  (40, .aload_n 0, 1, 0, 0, 0, .null, []),
  (41, .getfield 10, 3, 10, 0, 2, .null, []),
  (44, .iload_n 2, 1, 0, 0, 0, .null, []),
  (45, .invokevirtual 196, 3, 87, 1, 10, .null, []),
  (48, .aload_n 0, 1, 0, 0, 0, .null, []),
  (49, .getfield 10, 3, 10, 0, 2, .null, []),
  (52, .getfield 75, 3, 8, 1, 0, .null, []),
  (55, .ireturn, 1, 0, 0, 0, .null, [])]
def am_c_MG_size : List am_E := [(0, .iload_n 1, 1, 0, 0, 0, .null, []),
  (1, .iconst 1, 1, 0, 0, 0, .int 1, []),
  (2, .if_icmp .lt 9, 3, 11, 0, 0, .null, []),
  (5, .iload_n 1, 1, 0, 0, 0, .null, []),
  (6, .bipush 7, 2, 0, 0, 0, .int 7, []),
  (8, .if_icmp .le 5, 3, 13, 0, 0, .null, []),
  (11, .iconst (-1), 1, 0, 0, 0, .int (-1), []),
  (12, .ireturn, 1, 0, 0, 0, .null, []),
  (13, .iload_n 1, 1, 0, 0, 0, .null, []),
  (14, .aload_n 0, 1, 0, 0, 0, .null, []),
  (15, .getfield 10, 3, 10, 0, 2, .null, []),
  (18, .getfield 95, 3, 8, 0, 0, .null, []),
  (21, .if_icmp .eq 14, 3, 35, 0, 0, .null, []),
  (24, .aload_n 0, 1, 0, 0, 0, .null, []),
  (25, .getfield 10, 3, 10, 0, 2, .null, []),
  (28, .iload_n 1, 1, 0, 0, 0, .null, []),
  (29, .invokevirtual 199, 3, 84, 1, 10, .null, []),
  (32, .ifCond .eq 6, 3, 38, 0, 0, .null, []),
  (35, .bipush (-2), 2, 0, 0, 0, .int (-2), []),
  (37, .ireturn, 1, 0, 0, 0, .null, []),
  (38, .aload_n 0, 1, 0, 0, 0, .null, []),
  (39, .getfield 19, 3, 10, 1, 2, .null, []),
  (42, .aload_n 0, 1, 0, 0, 0, .null, []),
  (43, .getfield 10, 3, 10, 0, 2, .null, []),
  (46, .invokevirtual 189, 3, 2, 1, 2, .null, []),
  (49, .aload_n 0, 1, 0, 0, 0, .null, []),
  (50, .getfield 10, 3, 10, 0, 2, .null, []),
  (53, .getfield 95, 3, 8, 0, 0, .null, []),
  (56, .istore_n 2, 1, 0, 0, 0, .null, []),
  (57, .aload_n 0, 1, 0, 0, 0, .null, []),
  (58, .getfield 10, 3, 10, 0, 2, .null, []),
  (61, .iload_n 1, 1, 0, 0, 0, .null, []),
  (62, .putfield 95, 3, 8, 0, 0, .null, []),
  (65, .iload_n 2, 1, 0, 0, 0, .null, []),
  (66, .ireturn, 1, 0, 0, 0, .null, [])]
def am_c_MG_type : List am_E := [(0, .iload_n 1, 1, 0, 0, 0, .null, []),
  (1, .bipush 32, 2, 0, 0, 0, .int 32, []),
  (3, .if_icmp .lt 9, 3, 12, 0, 0, .null, []),
  (6, .iload_n 1, 1, 0, 0, 0, .null, []),
  (7, .bipush 126, 2, 0, 0, 0, .int 126, []),
  (9, .if_icmp .le 5, 3, 14, 0, 0, .null, []),
  (12, .iconst (-1), 1, 0, 0, 0, .int (-1), []),
  (13, .ireturn, 1, 0, 0, 0, .null, []),
  (14, .aload_n 0, 1, 0, 0, 0, .null, []),
  (15, .getfield 36, 3, 10, 5, 2, .null, []),
  (18, .getfield 202, 3, 5, 3, 2, .null, []),
  (21, .getfield 206, 3, 9, 0, 0, .null, []),
  (24, .bipush 90, 2, 0, 0, 0, .int 90, []),
  (26, .if_icmp .lt 6, 3, 32, 0, 0, .null, []),
  (29, .bipush (-3), 2, 0, 0, 0, .int (-3), []),
  (31, .ireturn, 1, 0, 0, 0, .null, []),
  (32, .aload_n 0, 1, 0, 0, 0, .null, []),
  (33, .getfield 36, 3, 10, 5, 2, .null, []),
  (36, .getfield 202, 3, 5, 3, 2, .null, []),
  (39, .iload_n 1, 1, 0, 0, 0, .null, []),
  (40, .invokevirtual 211, 3, 95, 1, 11, .null, []),
  (43, .aload_n 0, 1, 0, 0, 0, .null, []),
  (44, .getfield 36, 3, 10, 5, 2, .null, []),
  (47, .getfield 202, 3, 5, 3, 2, .null, []),
  (50, .getfield 206, 3, 9, 0, 0, .null, []),
  (53, .ireturn, 1, 0, 0, 0, .null, [])]
def am_c_MG_read : List am_E := [(0, .aload_n 0, 1, 0, 0, 0, .null, []),
  (1, .getfield 36, 3, 10, 5, 2, .null, []),
  (4, .invokevirtual 212, 3, 42, 0, 7, .null, []),
  (7, .istore_n 1, 1, 0, 0, 0, .null, []),
  (8, .aload_n 0, 1, 0, 0, 0, .null, []),
  (9, .getfield 36, 3, 10, 5, 2, .null, []),
  (12, .getfield 202, 3, 5, 3, 2, .null, []),
  (15, .iconst 0, 1, 0, 0, 0, .int 0, []),
  (16, .putfield 206, 3, 9, 0, 0, .null, []),
  (19, .iload_n 1, 1, 0, 0, 0, .null, []),
  (20, .iconst (-1), 1, 0, 0, 0, .int (-1), []),
  (21, .if_icmp .eq 8, 3, 29, 0, 0, .null, []),
  (24, .bipush (-20), 2, 0, 0, 0, .int (-20), []),
  (26, .iload_n 1, 1, 0, 0, 0, .null, []),
  (27, .isub, 1, 0, 0, 0, .null, []),
  (28, .ireturn, 1, 0, 0, 0, .null, []),
  (29, .aload_n 0, 1, 0, 0, 0, .null, []),
  (30, .getfield 19, 3, 10, 1, 2, .null, []),
  (33, .aload_n 0, 1, 0, 0, 0, .null, []),
  (34, .getfield 10, 3, 10, 0, 2, .null, []),
  (37, .invokevirtual 189, 3, 2, 1, 2, .null, []),
  (40, .aload_n 0, 1, 0, 0, 0, .null, []),
  (41, .getfield 10, 3, 10, 0, 2, .null, []),
  (44, .aload_n 0, 1, 0, 0, 0, .null, []),
  (45, .getfield 36, 3, 10, 5, 2, .null, []),
  (48, .invokevirtual 215, 3, 80, 1, 10, .null, []),
  (51, .aload_n 0, 1, 0, 0, 0, .null, []),
  (52, .getfield 10, 3, 10, 0, 2, .null, []),
  (55, .getfield 75, 3, 8, 1, 0, .null, []),
  (58, .ireturn, 1, 0, 0, 0, .null, [])]
def am_c_MG_drift : List am_E := [(0, .iload_n 1, 1, 0, 0, 0, .null, []),
  (1, .iconst 1, 1, 0, 0, 0, .int 1, []),
  (2, .if_icmp .lt 9, 3, 11, 0, 0, .null, []),
  (5, .iload_n 1, 1, 0, 0, 0, .null, []),
  (6, .bipush 40, 2, 0, 0, 0, .int 40, []),
  (8, .if_icmp .le 5, 3, 13, 0, 0, .null, []),
  (11, .iconst (-1), 1, 0, 0, 0, .int (-1), []),
  (12, .ireturn, 1, 0, 0, 0, .null, []),
  (13, .iconst 0, 1, 0, 0, 0, .int 0, []),
  (14, .istore_n 2, 1, 0, 0, 0, .null, []),
  (15, .iload_n 2, 1, 0, 0, 0, .null, [(0, 0)]),
  (16, .iload_n 1, 1, 0, 0, 0, .null, []),
  (17, .if_icmp .ge 27, 3, 44, 0, 0, .null, []),
  (20, .aload_n 0, 1, 0, 0, 0, .null, []),
  (21, .getfield 19, 3, 10, 1, 2, .null, []),
  (24, .aload_n 0, 1, 0, 0, 0, .null, []),
  (25, .getfield 10, 3, 10, 0, 2, .null, []),
  (28, .invokevirtual 189, 3, 2, 1, 2, .null, []),
  (31, .aload_n 0, 1, 0, 0, 0, .null, []),
  (32, .getfield 10, 3, 10, 0, 2, .null, []),
  (35, .invokevirtual 219, 3, 88, 0, 10, .null, []),
  (38, .iinc 2 1, 3, 0, 0, 0, .int 1, []),
  (41, .goto (-26), 3, 15, 0, 0, .null, []),
  (44, .aload_n 0, 1, 0, 0, 0, .null, []),
  (45, .getfield 10, 3, 10, 0, 2, .null, []),
  (48, .getfield 75, 3, 8, 1, 0, .null, []),
  (51, .ireturn, 1, 0, 0, 0, .null, [])]
def am_c_MG_undo : List am_E := [(0, .aload_n 0, 1, 0, 0, 0, .null, []),
  (1, .getfield 19, 3, 10, 1, 2, .null, []),
  (4, .getfield 129, 3, 0, 0, 0, .null, []),
  (7, .ifCond .ne 6, 3, 13, 0, 0, .null, []),
  (10, .bipush (-4), 2, 0, 0, 0, .int (-4), []),
  (12, .ireturn, 1, 0, 0, 0, .null, []),
  (13, .aload_n 0, 1, 0, 0, 0, .null, []),
  (14, .getfield 19, 3, 10, 1, 2, .null, []),
  (17, .aload_n 0, 1, 0, 0, 0, .null, []),
  (18, .getfield 10, 3, 10, 0, 2, .null, []),
  (21, .invokevirtual 222, 3, 4, 1, 2, .null, []),
  (24, .aload_n 0, 1, 0, 0, 0, .null, []),
  (25, .getfield 19, 3, 10, 1, 2, .null, []),
  (28, .getfield 129, 3, 0, 0, 0, .null, []),
  (31, .ireturn, 1, 0, 0, 0, .null, [])]
def am_c_MG_seed : List am_E := [(0, .iload_n 1, 1, 0, 0, 0, .null, []),
  (1, .ifCond .ge 5, 3, 6, 0, 0, .null, []),
  (4, .iconst (-1), 1, 0, 0, 0, .int (-1), []),
  (5, .ireturn, 1, 0, 0, 0, .null, []),
  (6, .aload_n 0, 1, 0, 0, 0, .null, []),
  (7, .getfield 10, 3, 10, 0, 2, .null, []),
  (10, .getfield 225, 3, 8, 3, 0, .null, []),
  (13, .istore_n 2, 1, 0, 0, 0, .null, []),
  (14, .aload_n 0, 1, 0, 0, 0, .null, []),
  (15, .getfield 10, 3, 10, 0, 2, .null, []),
  (18, .iload_n 1, 1, 0, 0, 0, .null, []),
  (19, .putfield 225, 3, 8, 3, 0, .null, []),
  (22, .iload_n 2, 1, 0, 0, 0, .null, []),
  (23, .ireturn, 1, 0, 0, 0, .null, [])]
def am_c_MG_image : List am_E := [(0, .aload_n 0, 1, 0, 0, 0, .null, []),
  (1, .getfield 23, 3, 10, 2, 2, .null, []),
  (4, .aload_n 0, 1, 0, 0, 0, .null, []),
  (5, .getfield 10, 3, 10, 0, 2, .null, []),
  (8, .invokevirtual 228, 3, 79, 1, 10, .null, []),
  (11, .aload_n 0, 1, 0, 0, 0, .null, []),
  (12, .getfield 26, 3, 10, 3, 2, .null, []),
  (15, .aload_n 0, 1, 0, 0, 0, .null, []),
  (16, .getfield 19, 3, 10, 1, 2, .null, []),
  (19, .invokevirtual 231, 3, 5, 1, 2, .null, []),
  (22, .aload_n 0, 1, 0, 0, 0, .null, []),
  (23, .iconst 1, 1, 0, 0, 0, .int 1, []),
  (24, .putfield 29, 3, 10, 4, 1, .null, []),
  (27, .iconst 1, 1, 0, 0, 0, .int 1, []),
  (28, .ireturn, 1, 0, 0, 0, .null, [])]
def am_c_MG_restore : List am_E := [(0, .aload_n 0, 1, 0, 0, 0, .null, []),
  (1, .getfield 29, 3, 10, 4, 1, .null, []),
  (4, .ifCond .ne 6, 3, 10, 0, 0, .null, []),
  (7, .bipush (-4), 2, 0, 0, 0, .int (-4), []),
  (9, .ireturn, 1, 0, 0, 0, .null, []),
  (10, .aload_n 0, 1, 0, 0, 0, .null, []),
  (11, .getfield 10, 3, 10, 0, 2, .null, []),
  (14, .aload_n 0, 1, 0, 0, 0, .null, []),
  (15, .getfield 23, 3, 10, 2, 2, .null, []),
  (18, .invokevirtual 228, 3, 79, 1, 10, .null, []),
  (21, .aload_n 0, 1, 0, 0, 0, .null, []),
  (22, .getfield 19, 3, 10, 1, 2, .null, []),
  (25, .aload_n 0, 1, 0, 0, 0, .null, []),
  (26, .getfield 26, 3, 10, 3, 2, .null, []),
  (29, .invokevirtual 231, 3, 5, 1, 2, .null, []),
  (32, .iconst 1, 1, 0, 0, 0, .int 1, []),
  (33, .ireturn, 1, 0, 0, 0, .null, [])]
def am_c_MG_keep_1 : List am_E := [(100, .aload_n 0, 1, 0, 0, 0, .null, []),
  (101, .getfield 10, 3, 10, 0, 2, .null, []),
  (104, .invokevirtual 189, 3, 2, 1, 2, .null, []),
  (107, .aload_n 0, 1, 0, 0, 0, .null, []),
  (108, .getfield 10, 3, 10, 0, 2, .null, []),
  (111, .getfield 120, 3, 8, 4, 2, .null, []),
  (114, .iload_n 1, 1, 0, 0, 0, .null, []),
  (115, .aload_n 0, 1, 0, 0, 0, .null, []),
  (116, .getfield 10, 3, 10, 0, 2, .null, []),
  (119, .aload_n 0, 1, 0, 0, 0, .null, []),
  (120, .getfield 64, 3, 10, 9, 2, .null, []),
  (123, .invokevirtual 247, 3, 27, 3, 5, .null, []),
  (126, .aload_n 0, 1, 0, 0, 0, .null, []),
  (127, .getfield 10, 3, 10, 0, 2, .null, []),
  (130, .getfield 120, 3, 8, 4, 2, .null, []),
  (133, .getfield 124, 3, 3, 0, 0, .null, []),
  (136, .ireturn, 1, 0, 0, 0, .null, [])]
def am_c_MG_keep : List am_E := (0, .iload_n 1, 1, 0, 0, 0, .null, []) ::
  (1, .ifCond .lt 23, 3, 24, 0, 0, .null, []) ::
  (4, .iload_n 1, 1, 0, 0, 0, .null, []) ::
  (5, .bipush 99, 2, 0, 0, 0, .int 99, []) ::
  (7, .if_icmp .gt 17, 3, 24, 0, 0, .null, []) ::
  (10, .iload_n 2, 1, 0, 0, 0, .null, []) ::
  (11, .invokestatic 234, 3, 124, 1, 0, .null, []) ::
  (14, .ifCond .eq 10, 3, 24, 0, 0, .null, []) ::
  (17, .iload_n 3, 1, 0, 0, 0, .null, []) ::
  (18, .invokestatic 237, 3, 125, 1, 0, .null, []) ::
  (21, .ifCond .ne 5, 3, 26, 0, 0, .null, []) ::
  (24, .iconst (-1), 1, 0, 0, 0, .int (-1), []) ::
  (25, .ireturn, 1, 0, 0, 0, .null, []) ::
  (26, .aload_n 0, 1, 0, 0, 0, .null, []) ::
  (27, .getfield 70, 3, 10, 10, 2, .null, []) ::
  (30, .iload_n 2, 1, 0, 0, 0, .null, []) ::
  (31, .aaload, 1, 17, 0, 0, .null, []) ::
  (32, .iload_n 3, 1, 0, 0, 0, .null, []) ::
  (33, .iload 4, 2, 0, 0, 0, .null, []) ::
  (35, .aload_n 0, 1, 0, 0, 0, .null, []) ::
  (36, .getfield 10, 3, 10, 0, 2, .null, []) ::
  (39, .getfield 75, 3, 8, 1, 0, .null, []) ::
  (42, .invokevirtual 240, 3, 74, 3, 9, .null, []) ::
  (45, .istore 5, 2, 0, 0, 0, .null, []) ::
  (47, .iload 5, 2, 0, 0, 0, .null, []) ::
  (49, .ifCond .ge 6, 3, 55, 0, 0, .null, []) ::
  (52, .iload 5, 2, 0, 0, 0, .null, []) ::
  (54, .ireturn, 1, 0, 0, 0, .null, []) ::
  (55, .aload_n 0, 1, 0, 0, 0, .null, []) ::
  (56, .getfield 10, 3, 10, 0, 2, .null, []) ::
  (59, .getfield 75, 3, 8, 1, 0, .null, []) ::
  (62, .ifCond .eq 31, 3, 93, 0, 0, .null, []) ::
  (65, .aload_n 0, 1, 0, 0, 0, .null, []) ::
  (66, .getfield 64, 3, 10, 9, 2, .null, []) ::
  (69, .aload_n 0, 1, 0, 0, 0, .null, []) ::
  (70, .getfield 70, 3, 10, 10, 2, .null, []) ::
  (73, .iload_n 2, 1, 0, 0, 0, .null, []) ::
  (74, .aaload, 1, 17, 0, 0, .null, []) ::
  (75, .iload 4, 2, 0, 0, 0, .null, []) ::
  (77, .aload_n 0, 1, 0, 0, 0, .null, []) ::
  (78, .getfield 10, 3, 10, 0, 2, .null, []) ::
  (81, .getfield 75, 3, 8, 1, 0, .null, []) ::
  (84, .iconst 0, 1, 0, 0, 0, .int 0, []) ::
  (85, .bipush 99, 2, 0, 0, 0, .int 99, []) ::
  (87, .invokevirtual 243, 3, 63, 5, 8, .null, []) ::
  (90, .ifCond .ne 6, 3, 96, 0, 0, .null, []) ::
  (93, .bipush (-2), 2, 0, 0, 0, .int (-2), []) ::
  (95, .ireturn, 1, 0, 0, 0, .null, []) ::
  (96, .aload_n 0, 1, 0, 0, 0, .null, []) ::
  (97, .getfield 19, 3, 10, 1, 2, .null, []) :: am_c_MG_keep_1
def am_c_MG_what : List am_E := [(0, .iload_n 1, 1, 0, 0, 0, .null, []),
  (1, .invokestatic 234, 3, 124, 1, 0, .null, []),
  (4, .ifCond .eq 23, 3, 27, 0, 0, .null, []),
  (7, .iload_n 2, 1, 0, 0, 0, .null, []),
  (8, .invokestatic 237, 3, 125, 1, 0, .null, []),
  (11, .ifCond .eq 16, 3, 27, 0, 0, .null, []),
  (14, .iload 4, 2, 0, 0, 0, .null, []),
  (16, .iconst 1, 1, 0, 0, 0, .int 1, []),
  (17, .if_icmp .lt 10, 3, 27, 0, 0, .null, []),
  (20, .iload 4, 2, 0, 0, 0, .null, []),
  (22, .bipush 12, 2, 0, 0, 0, .int 12, []),
  (24, .if_icmp .le 5, 3, 29, 0, 0, .null, []),
  (27, .iconst (-1), 1, 0, 0, 0, .int (-1), []),
  (28, .ireturn, 1, 0, 0, 0, .null, []),
  (29, .aload_n 0, 1, 0, 0, 0, .null, []),
  (30, .getfield 70, 3, 10, 10, 2, .null, []),
  (33, .iload_n 1, 1, 0, 0, 0, .null, []),
  (34, .aaload, 1, 17, 0, 0, .null, []),
  (35, .iload_n 2, 1, 0, 0, 0, .null, []),
  (36, .iload_n 3, 1, 0, 0, 0, .null, []),
  (37, .iload 4, 2, 0, 0, 0, .null, []),
  (39, .invokevirtual 240, 3, 74, 3, 9, .null, []),
  (42, .istore 5, 2, 0, 0, 0, .null, []),
  (44, .iload 5, 2, 0, 0, 0, .null, []),
  (46, .ifCond .ge 6, 3, 52, 0, 0, .null, []),
  (49, .iload 5, 2, 0, 0, 0, .null, []),
  (51, .ireturn, 1, 0, 0, 0, .null, []),
  (52, .aload_n 0, 1, 0, 0, 0, .null, []),
  (53, .getfield 64, 3, 10, 9, 2, .null, []),
  (56, .aload_n 0, 1, 0, 0, 0, .null, []),
  (57, .getfield 70, 3, 10, 10, 2, .null, []),
  (60, .iload_n 1, 1, 0, 0, 0, .null, []),
  (61, .aaload, 1, 17, 0, 0, .null, []),
  (62, .iload_n 3, 1, 0, 0, 0, .null, []),
  (63, .iload 4, 2, 0, 0, 0, .null, []),
  (65, .iconst 1, 1, 0, 0, 0, .int 1, []),
  (66, .aload_n 0, 1, 0, 0, 0, .null, []),
  (67, .getfield 10, 3, 10, 0, 2, .null, []),
  (70, .invokevirtual 148, 3, 81, 0, 10, .null, []),
  (73, .invokevirtual 243, 3, 63, 5, 8, .null, []),
  (76, .ifCond .eq 17, 3, 93, 0, 0, .null, []),
  (79, .aload_n 0, 1, 0, 0, 0, .null, []),
  (80, .getfield 64, 3, 10, 9, 2, .null, []),
  (83, .aload_n 0, 1, 0, 0, 0, .null, []),
  (84, .getfield 10, 3, 10, 0, 2, .null, []),
  (87, .invokevirtual 251, 3, 64, 1, 8, .null, []),
  (90, .goto 5, 3, 95, 0, 0, .null, []),
  (93, .bipush (-2), 2, 0, 0, 0, .int (-2), []),
  (95, .ireturn, 1, 0, 0, 0, .null, [])]
def am_c_MG_film : List am_E := [(0, .iload_n 1, 1, 0, 0, 0, .null, []),
  (1, .invokestatic 234, 3, 124, 1, 0, .null, []),
  (4, .ifCond .eq 10, 3, 14, 0, 0, .null, []),
  (7, .iload_n 2, 1, 0, 0, 0, .null, []),
  (8, .invokestatic 237, 3, 125, 1, 0, .null, []),
  (11, .ifCond .ne 5, 3, 16, 0, 0, .null, []),
  (14, .iconst (-1), 1, 0, 0, 0, .int (-1), []),
  (15, .ireturn, 1, 0, 0, 0, .null, []),
  (16, .aload_n 0, 1, 0, 0, 0, .null, []),
  (17, .getfield 70, 3, 10, 10, 2, .null, []),
  (20, .iload_n 1, 1, 0, 0, 0, .null, []),
  (21, .aaload, 1, 17, 0, 0, .null, []),
  (22, .iload_n 2, 1, 0, 0, 0, .null, []),
  (23, .iload_n 3, 1, 0, 0, 0, .null, []),
  (24, .aload_n 0, 1, 0, 0, 0, .null, []),
  (25, .getfield 10, 3, 10, 0, 2, .null, []),
  (28, .getfield 75, 3, 8, 1, 0, .null, []),
  (31, .invokevirtual 240, 3, 74, 3, 9, .null, []),
  (34, .istore 4, 2, 0, 0, 0, .null, []),
  (36, .iload 4, 2, 0, 0, 0, .null, []),
  (38, .ifCond .ge 6, 3, 44, 0, 0, .null, []),
  (41, .iload 4, 2, 0, 0, 0, .null, []),
  (43, .ireturn, 1, 0, 0, 0, .null, []),
  (44, .iconst 0, 1, 0, 0, 0, .int 0, []),
  (45, .istore 5, 2, 0, 0, 0, .null, []),
  (47, .iload 5, 2, 0, 0, 0, .null, [(0, 0)]),
  (49, .aload_n 0, 1, 0, 0, 0, .null, []),
  (50, .getfield 10, 3, 10, 0, 2, .null, []),
  (53, .getfield 75, 3, 8, 1, 0, .null, []),
  (56, .if_icmp .ge 33, 3, 89, 0, 0, .null, []),
  (59, .aload_n 0, 1, 0, 0, 0, .null, []),
  (60, .getfield 70, 3, 10, 10, 2, .null, []),
  (63, .iload_n 1, 1, 0, 0, 0, .null, []),
  (64, .aaload, 1, 17, 0, 0, .null, []),
  (65, .iload_n 3, 1, 0, 0, 0, .null, []),
  (66, .iload 5, 2, 0, 0, 0, .null, []),
  (68, .iadd, 1, 0, 0, 0, .null, []),
  (69, .aload_n 0, 1, 0, 0, 0, .null, []),
  (70, .getfield 10, 3, 10, 0, 2, .null, []),
  (73, .getfield 79, 3, 8, 2, 2, .null, []),
  (76, .iload 5, 2, 0, 0, 0, .null, []),
  (78, .iaload, 1, 0, 0, 0, .null, []),
  (79, .i2l, 1, 0, 0, 0, .null, []),
  (80, .invokevirtual 255, 3, 76, 2, 9, .null, []),
  (83, .iinc 5 1, 3, 0, 0, 0, .int 1, []),
  (86, .goto (-39), 3, 47, 0, 0, .null, []),
  (89, .aload_n 0, 1, 0, 0, 0, .null, []),
  (90, .getfield 10, 3, 10, 0, 2, .null, []),
  (93, .getfield 75, 3, 8, 1, 0, .null, []),
  (96, .ireturn, 1, 0, 0, 0, .null, [])]
def am_c_MG_sheet : List am_E := [(0, .iload_n 1, 1, 0, 0, 0, .null, []),
  (1, .invokestatic 234, 3, 124, 1, 0, .null, []),
  (4, .ifCond .eq 16, 3, 20, 0, 0, .null, []),
  (7, .iload_n 2, 1, 0, 0, 0, .null, []),
  (8, .invokestatic 237, 3, 125, 1, 0, .null, []),
  (11, .ifCond .eq 9, 3, 20, 0, 0, .null, []),
  (14, .iload_n 3, 1, 0, 0, 0, .null, []),
  (15, .bipush 24, 2, 0, 0, 0, .int 24, []),
  (17, .if_icmp .le 5, 3, 22, 0, 0, .null, []),
  (20, .iconst (-1), 1, 0, 0, 0, .int (-1), []),
  (21, .ireturn, 1, 0, 0, 0, .null, []),
  (22, .iload_n 3, 1, 0, 0, 0, .null, []),
  (23, .ifCond .ge 6, 3, 29, 0, 0, .null, []),
  (26, .bipush (-14), 2, 0, 0, 0, .int (-14), []),
  (28, .ireturn, 1, 0, 0, 0, .null, []),
  (29, .aload_n 0, 1, 0, 0, 0, .null, []),
  (30, .getfield 70, 3, 10, 10, 2, .null, []),
  (33, .iload_n 1, 1, 0, 0, 0, .null, []),
  (34, .aaload, 1, 17, 0, 0, .null, []),
  (35, .iload_n 2, 1, 0, 0, 0, .null, []),
  (36, .iload_n 3, 1, 0, 0, 0, .null, []),
  (37, .invokevirtual 259, 3, 72, 2, 9, .null, []),
  (40, .iload_n 3, 1, 0, 0, 0, .null, []),
  (41, .ireturn, 1, 0, 0, 0, .null, [])]
def am_c_MG_drop : List am_E := [(0, .iload_n 1, 1, 0, 0, 0, .null, []),
  (1, .invokestatic 234, 3, 124, 1, 0, .null, []),
  (4, .ifCond .ne 5, 3, 9, 0, 0, .null, []),
  (7, .iconst (-1), 1, 0, 0, 0, .int (-1), []),
  (8, .ireturn, 1, 0, 0, 0, .null, []),
  (9, .aload_n 0, 1, 0, 0, 0, .null, []),
  (10, .getfield 70, 3, 10, 10, 2, .null, []),
  (13, .iload_n 1, 1, 0, 0, 0, .null, []),
  (14, .aaload, 1, 17, 0, 0, .null, []),
  (15, .getfield 263, 3, 7, 0, 1, .null, []),
  (18, .ifCond .ne 6, 3, 24, 0, 0, .null, []),
  (21, .bipush (-11), 2, 0, 0, 0, .int (-11), []),
  (23, .ireturn, 1, 0, 0, 0, .null, []),
  (24, .aload_n 0, 1, 0, 0, 0, .null, []),
  (25, .getfield 70, 3, 10, 10, 2, .null, []),
  (28, .iload_n 1, 1, 0, 0, 0, .null, []),
  (29, .aaload, 1, 17, 0, 0, .null, []),
  (30, .iconst 0, 1, 0, 0, 0, .int 0, []),
  (31, .putfield 263, 3, 7, 0, 1, .null, []),
  (34, .aload_n 0, 1, 0, 0, 0, .null, []),
  (35, .getfield 70, 3, 10, 10, 2, .null, []),
  (38, .iload_n 1, 1, 0, 0, 0, .null, []),
  (39, .aaload, 1, 17, 0, 0, .null, []),
  (40, .getfield 266, 3, 7, 2, 0, .null, []),
  (43, .ireturn, 1, 0, 0, 0, .null, [])]
def am_c_MG_item : List am_E := [(0, .iload_n 1, 1, 0, 0, 0, .null, []),
  (1, .invokestatic 234, 3, 124, 1, 0, .null, []),
  (4, .ifCond .eq 10, 3, 14, 0, 0, .null, []),
  (7, .iload_n 2, 1, 0, 0, 0, .null, []),
  (8, .invokestatic 237, 3, 125, 1, 0, .null, []),
  (11, .ifCond .ne 5, 3, 16, 0, 0, .null, []),
  (14, .iconst (-1), 1, 0, 0, 0, .int (-1), []),
  (15, .ireturn, 1, 0, 0, 0, .null, []),
  (16, .aload_n 0, 1, 0, 0, 0, .null, []),
  (17, .getfield 70, 3, 10, 10, 2, .null, []),
  (20, .iload_n 1, 1, 0, 0, 0, .null, []),
  (21, .aaload, 1, 17, 0, 0, .null, []),
  (22, .iload_n 2, 1, 0, 0, 0, .null, []),
  (23, .iload_n 3, 1, 0, 0, 0, .null, []),
  (24, .iconst 1, 1, 0, 0, 0, .int 1, []),
  (25, .invokevirtual 240, 3, 74, 3, 9, .null, []),
  (28, .istore 6, 2, 0, 0, 0, .null, []),
  (30, .iload 6, 2, 0, 0, 0, .null, []),
  (32, .ifCond .ge 6, 3, 38, 0, 0, .null, []),
  (35, .iload 6, 2, 0, 0, 0, .null, []),
  (37, .ireturn, 1, 0, 0, 0, .null, []),
  (38, .aload_n 0, 1, 0, 0, 0, .null, []),
  (39, .getfield 70, 3, 10, 10, 2, .null, []),
  (42, .iload_n 1, 1, 0, 0, 0, .null, []),
  (43, .aaload, 1, 17, 0, 0, .null, []),
  (44, .iload_n 3, 1, 0, 0, 0, .null, []),
  (45, .lload 4, 2, 0, 0, 0, .null, []),
  (47, .invokevirtual 255, 3, 76, 2, 9, .null, []),
  (50, .iconst 1, 1, 0, 0, 0, .int 1, []),
  (51, .ireturn, 1, 0, 0, 0, .null, [])]
def am_c_MG_copy_1 : List am_E := [(104, .iload 4, 2, 0, 0, 0, .null, []),
  (106, .iload 5, 2, 0, 0, 0, .null, []),
  (108, .invokestatic 278, 3, 0, 5, 2, .null, []),
  (111, .iload 5, 2, 0, 0, 0, .null, []),
  (113, .ireturn, 1, 0, 0, 0, .null, [])]
def am_c_MG_copy : List am_E := (0, .iload_n 1, 1, 0, 0, 0, .null, []) ::
  (1, .invokestatic 234, 3, 124, 1, 0, .null, []) ::
  (4, .ifCond .eq 10, 3, 14, 0, 0, .null, []) ::
  (7, .iload_n 3, 1, 0, 0, 0, .null, []) ::
  (8, .invokestatic 234, 3, 124, 1, 0, .null, []) ::
  (11, .ifCond .ne 5, 3, 16, 0, 0, .null, []) ::
  (14, .iconst (-1), 1, 0, 0, 0, .int (-1), []) ::
  (15, .ireturn, 1, 0, 0, 0, .null, []) ::
  (16, .aload_n 0, 1, 0, 0, 0, .null, []) ::
  (17, .getfield 70, 3, 10, 10, 2, .null, []) ::
  (20, .iload_n 1, 1, 0, 0, 0, .null, []) ::
  (21, .aaload, 1, 17, 0, 0, .null, []) ::
  (22, .astore 6, 2, 0, 0, 0, .null, []) ::
  (24, .aload_n 0, 1, 0, 0, 0, .null, []) ::
  (25, .getfield 70, 3, 10, 10, 2, .null, []) ::
  (28, .iload_n 3, 1, 0, 0, 0, .null, []) ::
  (29, .aaload, 1, 17, 0, 0, .null, []) ::
  (30, .astore 7, 2, 0, 0, 0, .null, []) ::
  (32, .aload 6, 2, 0, 0, 0, .null, []) ::
  (34, .getfield 263, 3, 7, 0, 1, .null, []) ::
  (37, .ifCond .eq 11, 3, 48, 0, 0, .null, []) ::
  (40, .aload 7, 2, 0, 0, 0, .null, []) ::
  (42, .getfield 263, 3, 7, 0, 1, .null, []) ::
  (45, .ifCond .ne 6, 3, 51, 0, 0, .null, []) ::
  (48, .bipush (-11), 2, 0, 0, 0, .int (-11), []) ::
  (50, .ireturn, 1, 0, 0, 0, .null, []) ::
  (51, .aload 6, 2, 0, 0, 0, .null, []) ::
  (53, .getfield 267, 3, 7, 1, 0, .null, []) ::
  (56, .aload 7, 2, 0, 0, 0, .null, []) ::
  (58, .getfield 267, 3, 7, 1, 0, .null, []) ::
  (61, .if_icmp .eq 6, 3, 67, 0, 0, .null, []) ::
  (64, .bipush (-12), 2, 0, 0, 0, .int (-12), []) ::
  (66, .ireturn, 1, 0, 0, 0, .null, []) ::
  (67, .aload 6, 2, 0, 0, 0, .null, []) ::
  (69, .iload_n 2, 1, 0, 0, 0, .null, []) ::
  (70, .iload 5, 2, 0, 0, 0, .null, []) ::
  (72, .invokevirtual 270, 3, 73, 2, 9, .null, []) ::
  (75, .ifCond .eq 15, 3, 90, 0, 0, .null, []) ::
  (78, .aload 7, 2, 0, 0, 0, .null, []) ::
  (80, .iload 4, 2, 0, 0, 0, .null, []) ::
  (82, .iload 5, 2, 0, 0, 0, .null, []) ::
  (84, .invokevirtual 270, 3, 73, 2, 9, .null, []) ::
  (87, .ifCond .ne 6, 3, 93, 0, 0, .null, []) ::
  (90, .bipush (-13), 2, 0, 0, 0, .int (-13), []) ::
  (92, .ireturn, 1, 0, 0, 0, .null, []) ::
  (93, .aload 6, 2, 0, 0, 0, .null, []) ::
  (95, .getfield 274, 3, 7, 3, 2, .null, []) ::
  (98, .iload_n 2, 1, 0, 0, 0, .null, []) ::
  (99, .aload 7, 2, 0, 0, 0, .null, []) ::
  (101, .getfield 274, 3, 7, 3, 2, .null, []) :: am_c_MG_copy_1
def am_c_MG_isSheet : List am_E := [(0, .iload_n 0, 1, 0, 0, 0, .null, []),
  (1, .ifCond .lt 12, 3, 13, 0, 0, .null, []),
  (4, .iload_n 0, 1, 0, 0, 0, .null, []),
  (5, .iconst 4, 1, 0, 0, 0, .int 4, []),
  (6, .if_icmp .ge 7, 3, 13, 0, 0, .null, []),
  (9, .iconst 1, 1, 0, 0, 0, .int 1, []),
  (10, .goto 4, 3, 14, 0, 0, .null, []),
  (13, .iconst 0, 1, 0, 0, 0, .int 0, []),
  (14, .ireturn, 1, 0, 0, 0, .null, [])]
def am_c_MG_isLane : List am_E := [(0, .iload_n 0, 1, 0, 0, 0, .null, []),
  (1, .ifCond .lt 12, 3, 13, 0, 0, .null, []),
  (4, .iload_n 0, 1, 0, 0, 0, .null, []),
  (5, .iconst 3, 1, 0, 0, 0, .int 3, []),
  (6, .if_icmp .gt 7, 3, 13, 0, 0, .null, []),
  (9, .iconst 1, 1, 0, 0, 0, .int 1, []),
  (10, .goto 4, 3, 14, 0, 0, .null, []),
  (13, .iconst 0, 1, 0, 0, 0, .int 0, []),
  (14, .ireturn, 1, 0, 0, 0, .null, [])]
def am_c_MG_oneIf : List am_E := [(0, .iload_n 0, 1, 0, 0, 0, .null, []),
  (1, .ifCond .eq 7, 3, 8, 0, 0, .null, []),
  (4, .iconst 1, 1, 0, 0, 0, .int 1, []),
  (5, .goto 4, 3, 9, 0, 0, .null, []),
  (8, .iconst 0, 1, 0, 0, 0, .int 0, []),
  (9, .ireturn, 1, 0, 0, 0, .null, [])]
def am_c_MG_strength : List am_E := [(0, .aload_n 0, 1, 0, 0, 0, .null, []),
  (1, .getfield 10, 3, 10, 0, 2, .null, []),
  (4, .invokevirtual 113, 3, 93, 0, 10, .null, []),
  (7, .istore_n 2, 1, 0, 0, 0, .null, []),
  (8, .iload_n 1, 1, 0, 0, 0, .null, []),
  (9, .iconst 2, 1, 0, 0, 0, .int 2, []),
  (10, .if_icmp .ne 5, 3, 15, 0, 0, .null, []),
  (13, .iload_n 2, 1, 0, 0, 0, .null, []),
  (14, .ireturn, 1, 0, 0, 0, .null, []),
  (15, .aload_n 0, 1, 0, 0, 0, .null, []),
  (16, .getfield 43, 3, 10, 6, 2, .null, []),
  (19, .aload_n 0, 1, 0, 0, 0, .null, []),
  (20, .getfield 10, 3, 10, 0, 2, .null, []),
  (23, .invokevirtual 98, 3, 7, 1, 3, .null, []),
  (26, .aload_n 0, 1, 0, 0, 0, .null, []),
  (27, .getfield 43, 3, 10, 6, 2, .null, []),
  (30, .invokevirtual 284, 3, 10, 0, 3, .null, []),
  (33, .istore_n 3, 1, 0, 0, 0, .null, []),
  (34, .iload_n 1, 1, 0, 0, 0, .null, []),
  (35, .iconst 4, 1, 0, 0, 0, .int 4, []),
  (36, .if_icmp .ne 5, 3, 41, 0, 0, .null, []),
  (39, .iload_n 3, 1, 0, 0, 0, .null, []),
  (40, .ireturn, 1, 0, 0, 0, .null, []),
  (41, .iload_n 2, 1, 0, 0, 0, .null, []),
  (42, .ifCond .ne 6, 3, 48, 0, 0, .null, []),
  (45, .bipush (-4), 2, 0, 0, 0, .int (-4), []),
  (47, .ireturn, 1, 0, 0, 0, .null, []),
  (48, .iload_n 3, 1, 0, 0, 0, .null, []),
  (49, .iload_n 1, 1, 0, 0, 0, .null, []),
  (50, .iconst 5, 1, 0, 0, 0, .int 5, []),
  (51, .if_icmp .ne 11, 3, 62, 0, 0, .null, []),
  (54, .iload_n 2, 1, 0, 0, 0, .null, []),
  (55, .iconst 1, 1, 0, 0, 0, .int 1, []),
  (56, .isub, 1, 0, 0, 0, .null, []),
  (57, .iconst 2, 1, 0, 0, 0, .int 2, []),
  (58, .idiv, 1, 0, 0, 0, .null, []),
  (59, .goto 6, 3, 65, 0, 0, .null, []),
  (62, .iload_n 2, 1, 0, 0, 0, .null, []),
  (63, .iconst 1, 1, 0, 0, 0, .int 1, []),
  (64, .isub, 1, 0, 0, 0, .null, []),
  (65, .invokestatic 287, 3, 0, 2, 4, .null, []),
  (68, .ireturn, 1, 0, 0, 0, .null, [])]
def am_c_MG_power : List am_E := [(0, .iconst 1, 1, 0, 0, 0, .int 1, []),
  (1, .istore_n 2, 1, 0, 0, 0, .null, []),
  (2, .iconst 0, 1, 0, 0, 0, .int 0, []),
  (3, .istore_n 3, 1, 0, 0, 0, .null, []),
  (4, .iload_n 3, 1, 0, 0, 0, .null, [(0, 0)]),
  (5, .iload_n 1, 1, 0, 0, 0, .null, []),
  (6, .if_icmp .ge 13, 3, 19, 0, 0, .null, []),
  (9, .iload_n 2, 1, 0, 0, 0, .null, []),
  (10, .iload_n 0, 1, 0, 0, 0, .null, []),
  (11, .imul, 1, 0, 0, 0, .null, []),
  (12, .istore_n 2, 1, 0, 0, 0, .null, []),
  (13, .iinc 3 1, 3, 0, 0, 0, .int 1, []),
  (16, .goto (-12), 3, 4, 0, 0, .null, []),
  (19, .iload_n 2, 1, 0, 0, 0, .null, []),
  (20, .ireturn, 1, 0, 0, 0, .null, [])]
def am_c_MG_ofFraction : List am_E := [(0, .iload_n 0, 1, 0, 0, 0, .null, []),
  (1, .iload_n 1, 1, 0, 0, 0, .null, []),
  (2, .invokestatic 292, 3, 130, 2, 0, .null, []),
  (5, .istore_n 3, 1, 0, 0, 0, .null, []),
  (6, .iload_n 3, 1, 0, 0, 0, .null, []),
  (7, .ifCond .ne 5, 3, 12, 0, 0, .null, []),
  (10, .iload_n 2, 1, 0, 0, 0, .null, []),
  (11, .ireturn, 1, 0, 0, 0, .null, []),
  (12, .iload_n 2, 1, 0, 0, 0, .null, []),
  (13, .ifCond .ne 7, 3, 20, 0, 0, .null, []),
  (16, .iload_n 0, 1, 0, 0, 0, .null, []),
  (17, .goto 4, 3, 21, 0, 0, .null, []),
  (20, .iload_n 1, 1, 0, 0, 0, .null, []),
  (21, .iload_n 3, 1, 0, 0, 0, .null, []),
  (22, .idiv, 1, 0, 0, 0, .null, []),
  (23, .ireturn, 1, 0, 0, 0, .null, [])]
def am_c_MG_commonDivisor : List am_E := [(0, .iload_n 0, 1, 0, 0, 0, .null, []),
  (1, .istore_n 2, 1, 0, 0, 0, .null, []),
  (2, .iload_n 1, 1, 0, 0, 0, .null, []),
  (3, .istore_n 3, 1, 0, 0, 0, .null, []),
  (4, .iconst 0, 1, 0, 0, 0, .int 0, []),
  (5, .istore 4, 2, 0, 0, 0, .null, []),
  (7, .iload_n 3, 1, 0, 0, 0, .null, [(0, 0)]),
  (8, .ifCond .eq 26, 3, 34, 0, 0, .null, []),
  (11, .iload 4, 2, 0, 0, 0, .null, []),
  (13, .bipush 64, 2, 0, 0, 0, .int 64, []),
  (15, .if_icmp .ge 19, 3, 34, 0, 0, .null, []),
  (18, .iload_n 2, 1, 0, 0, 0, .null, []),
  (19, .iload_n 3, 1, 0, 0, 0, .null, []),
  (20, .irem, 1, 0, 0, 0, .null, []),
  (21, .istore 5, 2, 0, 0, 0, .null, []),
  (23, .iload_n 3, 1, 0, 0, 0, .null, []),
  (24, .istore_n 2, 1, 0, 0, 0, .null, []),
  (25, .iload 5, 2, 0, 0, 0, .null, []),
  (27, .istore_n 3, 1, 0, 0, 0, .null, []),
  (28, .iinc 4 1, 3, 0, 0, 0, .int 1, []),
  (31, .goto (-24), 3, 7, 0, 0, .null, []),
  (34, .iload_n 2, 1, 0, 0, 0, .null, []),
  (35, .ireturn, 1, 0, 0, 0, .null, [])]
def am_c_MD_in : List am_E := [(0, .lload_n 0, 1, 0, 0, 0, .null, []),
  (1, .lload_n 2, 1, 0, 0, 0, .null, []),
  (2, .lcmp, 1, 0, 0, 0, .null, []),
  (3, .ifCond .lt 14, 3, 17, 0, 0, .null, []),
  (6, .lload_n 0, 1, 0, 0, 0, .null, []),
  (7, .lload 4, 2, 0, 0, 0, .null, []),
  (9, .lcmp, 1, 0, 0, 0, .null, []),
  (10, .ifCond .gt 7, 3, 17, 0, 0, .null, []),
  (13, .iconst 1, 1, 0, 0, 0, .int 1, []),
  (14, .goto 4, 3, 18, 0, 0, .null, []),
  (17, .iconst 0, 1, 0, 0, 0, .int 0, []),
  (18, .ireturn, 1, 0, 0, 0, .null, [])]
def am_c_MD_init_1 : List am_E := [(102, .aload_n 0, 1, 0, 0, 0, .null, []),
  (103, .bipush 116, 2, 0, 0, 0, .int 116, []),
  (105, .newarray .int, 2, 14, 0, 0, .null, []),
  (107, .putfield 46, 3, 11, 20, 2, .null, []),
  (110, .aload_n 0, 1, 0, 0, 0, .null, []),
  (111, .sipush 696, 3, 0, 0, 0, .int 696, []),
  (114, .newarray .int, 2, 14, 0, 0, .null, []),
  (116, .putfield 49, 3, 11, 21, 2, .null, []),
  (119, .aload_n 0, 1, 0, 0, 0, .null, []),
  (120, .iconst (-1), 1, 0, 0, 0, .int (-1), []),
  (121, .putfield 52, 3, 11, 22, 0, .null, []),
  (124, .aload_n 0, 1, 0, 0, 0, .null, []),
  (125, .iconst 4, 1, 0, 0, 0, .int 4, []),
  (126, .newarray .int, 2, 14, 0, 0, .null, []),
  (128, .putfield 56, 3, 11, 23, 2, .null, []),
  (131, .aload_n 0, 1, 0, 0, 0, .null, []),
  (132, .iconst 4, 1, 0, 0, 0, .int 4, []),
  (133, .newarray .int, 2, 14, 0, 0, .null, []),
  (135, .putfield 59, 3, 11, 24, 2, .null, []),
  (138, .aload_n 0, 1, 0, 0, 0, .null, []),
  (139, .bipush 96, 2, 0, 0, 0, .int 96, []),
  (141, .newarray .long, 2, 15, 0, 0, .null, []),
  (143, .putfield 62, 3, 11, 25, 2, .null, []),
  (146, .aload_n 0, 1, 0, 0, 0, .null, []),
  (147, .bipush 24, 2, 0, 0, 0, .int 24, []),
  (149, .newarray .long, 2, 15, 0, 0, .null, []),
  (151, .putfield 66, 3, 11, 26, 2, .null, []),
  (154, .aload_n 0, 1, 0, 0, 0, .null, []),
  (155, .getfield 7, 3, 11, 0, 2, .null, []),
  (158, .iconst 0, 1, 0, 0, 0, .int 0, []),
  (159, .iconst 3, 1, 0, 0, 0, .int 3, []),
  (160, .iastore, 1, 0, 0, 0, .null, []),
  (161, .aload_n 0, 1, 0, 0, 0, .null, []),
  (162, .getfield 7, 3, 11, 0, 2, .null, []),
  (165, .iconst 2, 1, 0, 0, 0, .int 2, []),
  (166, .iconst 1, 1, 0, 0, 0, .int 1, []),
  (167, .iastore, 1, 0, 0, 0, .null, []),
  (168, .iconst 0, 1, 0, 0, 0, .int 0, []),
  (169, .istore_n 1, 1, 0, 0, 0, .null, []),
  (170, .iload_n 1, 1, 0, 0, 0, .null, [(0, 0)]),
  (171, .iconst 4, 1, 0, 0, 0, .int 4, []),
  (172, .if_icmp .ge 16, 3, 188, 0, 0, .null, []),
  (175, .aload_n 0, 1, 0, 0, 0, .null, []),
  (176, .getfield 56, 3, 11, 23, 2, .null, []),
  (179, .iload_n 1, 1, 0, 0, 0, .null, []),
  (180, .iconst (-1), 1, 0, 0, 0, .int (-1), []),
  (181, .iastore, 1, 0, 0, 0, .null, []),
  (182, .iinc 1 1, 3, 0, 0, 0, .int 1, []),
  (185, .goto (-15), 3, 170, 0, 0, .null, []),
  (188, .return_, 1, 0, 0, 0, .null, [])]
def am_c_MD_init : List am_E := (0, .aload_n 0, 1, 0, 0, 0, .null, []) ::
  (1, .invokespecial 1, 3, 0, 0, 1, .null, []) ::
  (4, .aload_n 0, 1, 0, 0, 0, .null, []) ::
  (5, .bipush 116, 2, 0, 0, 0, .int 116, []) ::
  (7, .newarray .int, 2, 14, 0, 0, .null, []) ::
  (9, .putfield 7, 3, 11, 0, 2, .null, []) ::
  (12, .aload_n 0, 1, 0, 0, 0, .null, []) ::
  (13, .bipush 56, 2, 0, 0, 0, .int 56, []) ::
  (15, .newarray .int, 2, 14, 0, 0, .null, []) ::
  (17, .putfield 13, 3, 11, 3, 2, .null, []) ::
  (20, .aload_n 0, 1, 0, 0, 0, .null, []) ::
  (21, .bipush 7, 2, 0, 0, 0, .int 7, []) ::
  (23, .newarray .int, 2, 14, 0, 0, .null, []) ::
  (25, .putfield 16, 3, 11, 4, 2, .null, []) ::
  (28, .aload_n 0, 1, 0, 0, 0, .null, []) ::
  (29, .bipush 7, 2, 0, 0, 0, .int 7, []) ::
  (31, .newarray .int, 2, 14, 0, 0, .null, []) ::
  (33, .putfield 19, 3, 11, 5, 2, .null, []) ::
  (36, .aload_n 0, 1, 0, 0, 0, .null, []) ::
  (37, .bipush 7, 2, 0, 0, 0, .int 7, []) ::
  (39, .newarray .int, 2, 14, 0, 0, .null, []) ::
  (41, .putfield 22, 3, 11, 6, 2, .null, []) ::
  (44, .aload_n 0, 1, 0, 0, 0, .null, []) ::
  (45, .bipush 12, 2, 0, 0, 0, .int 12, []) ::
  (47, .newarray .int, 2, 14, 0, 0, .null, []) ::
  (49, .putfield 25, 3, 11, 7, 2, .null, []) ::
  (52, .aload_n 0, 1, 0, 0, 0, .null, []) ::
  (53, .sipush 2187, 3, 0, 0, 0, .int 2187, []) ::
  (56, .newarray .int, 2, 14, 0, 0, .null, []) ::
  (58, .putfield 28, 3, 11, 8, 2, .null, []) ::
  (61, .aload_n 0, 1, 0, 0, 0, .null, []) ::
  (62, .sipush 2187, 3, 0, 0, 0, .int 2187, []) ::
  (65, .newarray .int, 2, 14, 0, 0, .null, []) ::
  (67, .putfield 31, 3, 11, 9, 2, .null, []) ::
  (70, .aload_n 0, 1, 0, 0, 0, .null, []) ::
  (71, .bipush 90, 2, 0, 0, 0, .int 90, []) ::
  (73, .newarray .int, 2, 14, 0, 0, .null, []) ::
  (75, .putfield 34, 3, 11, 10, 2, .null, []) ::
  (78, .aload_n 0, 1, 0, 0, 0, .null, []) ::
  (79, .bipush 12, 2, 0, 0, 0, .int 12, []) ::
  (81, .newarray .int, 2, 14, 0, 0, .null, []) ::
  (83, .putfield 37, 3, 11, 15, 2, .null, []) ::
  (86, .aload_n 0, 1, 0, 0, 0, .null, []) ::
  (87, .iconst 3, 1, 0, 0, 0, .int 3, []) ::
  (88, .newarray .int, 2, 14, 0, 0, .null, []) ::
  (90, .putfield 40, 3, 11, 17, 2, .null, []) ::
  (93, .aload_n 0, 1, 0, 0, 0, .null, []) ::
  (94, .sipush 696, 3, 0, 0, 0, .int 696, []) ::
  (97, .newarray .int, 2, 14, 0, 0, .null, []) ::
  (99, .putfield 43, 3, 11, 18, 2, .null, []) :: am_c_MD_init_1
def am_c_MD_has : List am_E := [(0, .iload_n 0, 1, 0, 0, 0, .null, []),
  (1, .iload_n 1, 1, 0, 0, 0, .null, []),
  (2, .ishr, 1, 0, 0, 0, .null, []),
  (3, .iconst 1, 1, 0, 0, 0, .int 1, []),
  (4, .iand, 1, 0, 0, 0, .null, []),
  (5, .iconst 1, 1, 0, 0, 0, .int 1, []),
  (6, .if_icmp .ne 7, 3, 13, 0, 0, .null, []),
  (9, .iconst 1, 1, 0, 0, 0, .int 1, []),
  (10, .goto 4, 3, 14, 0, 0, .null, []),
  (13, .iconst 0, 1, 0, 0, 0, .int 0, []),
  (14, .ireturn, 1, 0, 0, 0, .null, [])]
def am_c_MD_bits : List am_E := [(0, .iconst 0, 1, 0, 0, 0, .int 0, []),
  (1, .istore_n 1, 1, 0, 0, 0, .null, []),
  (2, .iload_n 0, 1, 0, 0, 0, .null, []),
  (3, .istore_n 2, 1, 0, 0, 0, .null, []),
  (4, .iload_n 2, 1, 0, 0, 0, .null, [(0, 0)]),
  (5, .ifCond .eq 15, 3, 20, 0, 0, .null, []),
  (8, .iinc 1 1, 3, 0, 0, 0, .int 1, []),
  (11, .iload_n 2, 1, 0, 0, 0, .null, []),
  (12, .iload_n 2, 1, 0, 0, 0, .null, []),
  (13, .iconst 1, 1, 0, 0, 0, .int 1, []),
  (14, .isub, 1, 0, 0, 0, .null, []),
  (15, .iand, 1, 0, 0, 0, .null, []),
  (16, .istore_n 2, 1, 0, 0, 0, .null, []),
  (17, .goto (-13), 3, 4, 0, 0, .null, []),
  (20, .iload_n 1, 1, 0, 0, 0, .null, []),
  (21, .ireturn, 1, 0, 0, 0, .null, [])]
def am_c_MD_all : List am_E := [(0, .iconst 1, 1, 0, 0, 0, .int 1, []),
  (1, .aload_n 0, 1, 0, 0, 0, .null, []),
  (2, .getfield 7, 3, 11, 0, 2, .null, []),
  (5, .iconst 0, 1, 0, 0, 0, .int 0, []),
  (6, .iaload, 1, 0, 0, 0, .null, []),
  (7, .ishl, 1, 0, 0, 0, .null, []),
  (8, .iconst 1, 1, 0, 0, 0, .int 1, []),
  (9, .isub, 1, 0, 0, 0, .null, []),
  (10, .ireturn, 1, 0, 0, 0, .null, [])]
def am_c_MD_at : List am_E := [(0, .aload_n 0, 1, 0, 0, 0, .null, []),
  (1, .getfield 7, 3, 11, 0, 2, .null, []),
  (4, .iconst 4, 1, 0, 0, 0, .int 4, []),
  (5, .iload_n 1, 1, 0, 0, 0, .null, []),
  (6, .iadd, 1, 0, 0, 0, .null, []),
  (7, .iaload, 1, 0, 0, 0, .null, []),
  (8, .ireturn, 1, 0, 0, 0, .null, [])]
def am_c_MD_find : List am_E := [(0, .bipush (-4), 2, 0, 0, 0, .int (-4), []),
  (2, .istore_n 2, 1, 0, 0, 0, .null, []),
  (3, .iconst 0, 1, 0, 0, 0, .int 0, []),
  (4, .istore_n 3, 1, 0, 0, 0, .null, []),
  (5, .iload_n 3, 1, 0, 0, 0, .null, [(0, 0)]),
  (6, .aload_n 0, 1, 0, 0, 0, .null, []),
  (7, .getfield 7, 3, 11, 0, 2, .null, []),
  (10, .iconst 1, 1, 0, 0, 0, .int 1, []),
  (11, .iaload, 1, 0, 0, 0, .null, []),
  (12, .if_icmp .ge 24, 3, 36, 0, 0, .null, []),
  (15, .aload_n 0, 1, 0, 0, 0, .null, []),
  (16, .iload_n 3, 1, 0, 0, 0, .null, []),
  (17, .invokevirtual 69, 3, 136, 1, 13, .null, []),
  (20, .iload_n 1, 1, 0, 0, 0, .null, []),
  (21, .if_icmp .ne 7, 3, 28, 0, 0, .null, []),
  (24, .iload_n 3, 1, 0, 0, 0, .null, []),
  (25, .goto 4, 3, 29, 0, 0, .null, []),
  (28, .iload_n 2, 1, 0, 0, 0, .null, []),
  (29, .istore_n 2, 1, 0, 0, 0, .null, []),
  (30, .iinc 3 1, 3, 0, 0, 0, .int 1, []),
  (33, .goto (-28), 3, 5, 0, 0, .null, []),
  (36, .iload_n 2, 1, 0, 0, 0, .null, []),
  (37, .ireturn, 1, 0, 0, 0, .null, [])]
def am_c_MD_holds : List am_E := [(0, .iconst 0, 1, 0, 0, 0, .int 0, []),
  (1, .istore_n 2, 1, 0, 0, 0, .null, []),
  (2, .iconst 0, 1, 0, 0, 0, .int 0, []),
  (3, .istore_n 3, 1, 0, 0, 0, .null, []),
  (4, .iload_n 3, 1, 0, 0, 0, .null, [(0, 0)]),
  (5, .aload_n 0, 1, 0, 0, 0, .null, []),
  (6, .getfield 7, 3, 11, 0, 2, .null, []),
  (9, .iconst 1, 1, 0, 0, 0, .int 1, []),
  (10, .iaload, 1, 0, 0, 0, .null, []),
  (11, .if_icmp .ge 31, 3, 42, 0, 0, .null, []),
  (14, .iload_n 2, 1, 0, 0, 0, .null, []),
  (15, .ifCond .ne 15, 3, 30, 0, 0, .null, []),
  (18, .aload_n 0, 1, 0, 0, 0, .null, []),
  (19, .iload_n 3, 1, 0, 0, 0, .null, []),
  (20, .invokevirtual 69, 3, 136, 1, 13, .null, []),
  (23, .iload_n 1, 1, 0, 0, 0, .null, []),
  (24, .iconst (-1), 1, 0, 0, 0, .int (-1), []),
  (25, .ixor, 1, 0, 0, 0, .null, []),
  (26, .iand, 1, 0, 0, 0, .null, []),
  (27, .ifCond .ne 7, 3, 34, 0, 0, .null, []),
  (30, .iconst 1, 1, 0, 0, 0, .int 1, []),
  (31, .goto 4, 3, 35, 0, 0, .null, []),
  (34, .iconst 0, 1, 0, 0, 0, .int 0, []),
  (35, .istore_n 2, 1, 0, 0, 0, .null, []),
  (36, .iinc 3 1, 3, 0, 0, 0, .int 1, []),
  (39, .goto (-35), 3, 4, 0, 0, .null, []),
  (42, .iload_n 2, 1, 0, 0, 0, .null, []),
  (43, .ireturn, 1, 0, 0, 0, .null, [])]
def am_c_MD_isMore : List am_E := [(0, .iconst 0, 1, 0, 0, 0, .int 0, []),
  (1, .istore_n 2, 1, 0, 0, 0, .null, []),
  (2, .iconst 0, 1, 0, 0, 0, .int 0, []),
  (3, .istore_n 3, 1, 0, 0, 0, .null, []),
  (4, .iload_n 3, 1, 0, 0, 0, .null, [(0, 0)]),
  (5, .aload_n 0, 1, 0, 0, 0, .null, []),
  (6, .getfield 7, 3, 11, 0, 2, .null, []),
  (9, .iconst 1, 1, 0, 0, 0, .int 1, []),
  (10, .iaload, 1, 0, 0, 0, .null, []),
  (11, .if_icmp .ge 40, 3, 51, 0, 0, .null, []),
  (14, .iload_n 2, 1, 0, 0, 0, .null, []),
  (15, .ifCond .ne 24, 3, 39, 0, 0, .null, []),
  (18, .iload_n 3, 1, 0, 0, 0, .null, []),
  (19, .iload_n 1, 1, 0, 0, 0, .null, []),
  (20, .if_icmp .eq 23, 3, 43, 0, 0, .null, []),
  (23, .aload_n 0, 1, 0, 0, 0, .null, []),
  (24, .iload_n 3, 1, 0, 0, 0, .null, []),
  (25, .invokevirtual 69, 3, 136, 1, 13, .null, []),
  (28, .aload_n 0, 1, 0, 0, 0, .null, []),
  (29, .iload_n 1, 1, 0, 0, 0, .null, []),
  (30, .invokevirtual 69, 3, 136, 1, 13, .null, []),
  (33, .iconst (-1), 1, 0, 0, 0, .int (-1), []),
  (34, .ixor, 1, 0, 0, 0, .null, []),
  (35, .iand, 1, 0, 0, 0, .null, []),
  (36, .ifCond .ne 7, 3, 43, 0, 0, .null, []),
  (39, .iconst 1, 1, 0, 0, 0, .int 1, []),
  (40, .goto 4, 3, 44, 0, 0, .null, []),
  (43, .iconst 0, 1, 0, 0, 0, .int 0, []),
  (44, .istore_n 2, 1, 0, 0, 0, .null, []),
  (45, .iinc 3 1, 3, 0, 0, 0, .int 1, []),
  (48, .goto (-44), 3, 4, 0, 0, .null, []),
  (51, .iload_n 2, 1, 0, 0, 0, .null, []),
  (52, .ireturn, 1, 0, 0, 0, .null, [])]
def am_c_MD_leastWith : List am_E := [(0, .bipush (-4), 2, 0, 0, 0, .int (-4), []),
  (2, .istore_n 2, 1, 0, 0, 0, .null, []),
  (3, .iconst 0, 1, 0, 0, 0, .int 0, []),
  (4, .istore_n 3, 1, 0, 0, 0, .null, []),
  (5, .iload_n 3, 1, 0, 0, 0, .null, [(0, 0)]),
  (6, .aload_n 0, 1, 0, 0, 0, .null, []),
  (7, .getfield 7, 3, 11, 0, 2, .null, []),
  (10, .iconst 1, 1, 0, 0, 0, .int 1, []),
  (11, .iaload, 1, 0, 0, 0, .null, []),
  (12, .if_icmp .ge 47, 3, 59, 0, 0, .null, []),
  (15, .aload_n 0, 1, 0, 0, 0, .null, []),
  (16, .iload_n 3, 1, 0, 0, 0, .null, []),
  (17, .invokevirtual 69, 3, 136, 1, 13, .null, []),
  (20, .aload_n 0, 1, 0, 0, 0, .null, []),
  (21, .iload_n 1, 1, 0, 0, 0, .null, []),
  (22, .invokevirtual 69, 3, 136, 1, 13, .null, []),
  (25, .iand, 1, 0, 0, 0, .null, []),
  (26, .invokestatic 73, 3, 134, 1, 0, .null, []),
  (29, .istore 4, 2, 0, 0, 0, .null, []),
  (31, .iload_n 3, 1, 0, 0, 0, .null, []),
  (32, .iload_n 1, 1, 0, 0, 0, .null, []),
  (33, .if_icmp .eq 18, 3, 51, 0, 0, .null, []),
  (36, .iload_n 2, 1, 0, 0, 0, .null, []),
  (37, .ifCond .lt 9, 3, 46, 0, 0, .null, []),
  (40, .iload 4, 2, 0, 0, 0, .null, []),
  (42, .iload_n 2, 1, 0, 0, 0, .null, []),
  (43, .if_icmp .ge 8, 3, 51, 0, 0, .null, []),
  (46, .iload 4, 2, 0, 0, 0, .null, []),
  (48, .goto 4, 3, 52, 0, 0, .null, []),
  (51, .iload_n 2, 1, 0, 0, 0, .null, []),
  (52, .istore_n 2, 1, 0, 0, 0, .null, []),
  (53, .iinc 3 1, 3, 0, 0, 0, .int 1, []),
  (56, .goto (-51), 3, 5, 0, 0, .null, []),
  (59, .iload_n 2, 1, 0, 0, 0, .null, []),
  (60, .ireturn, 1, 0, 0, 0, .null, [])]
def am_c_MD_group : List am_E := [(0, .iload_n 1, 1, 0, 0, 0, .null, []),
  (1, .i2l, 1, 0, 0, 0, .null, []),
  (2, .lconst 0, 1, 0, 0, 0, .long 0, []),
  (3, .aload_n 0, 1, 0, 0, 0, .null, []),
  (4, .getfield 7, 3, 11, 0, 2, .null, []),
  (7, .iconst 1, 1, 0, 0, 0, .int 1, []),
  (8, .iaload, 1, 0, 0, 0, .null, []),
  (9, .iconst 1, 1, 0, 0, 0, .int 1, []),
  (10, .isub, 1, 0, 0, 0, .null, []),
  (11, .i2l, 1, 0, 0, 0, .null, []),
  (12, .invokestatic 76, 3, 131, 3, 0, .null, []),
  (15, .ifCond .ne 5, 3, 20, 0, 0, .null, []),
  (18, .iconst (-1), 1, 0, 0, 0, .int (-1), []),
  (19, .ireturn, 1, 0, 0, 0, .null, []),
  (20, .iload_n 2, 1, 0, 0, 0, .null, []),
  (21, .tableswitch 53 0 2 #[27, 33, 47], 27, 74, 0, 0, .null, [(0, 48), (1, 54), (2, 68)]),
  (48, .aload_n 0, 1, 0, 0, 0, .null, []),
  (49, .iload_n 1, 1, 0, 0, 0, .null, []),
  (50, .invokevirtual 69, 3, 136, 1, 13, .null, []),
  (53, .ireturn, 1, 0, 0, 0, .null, []),
  (54, .aload_n 0, 1, 0, 0, 0, .null, []),
  (55, .iload_n 1, 1, 0, 0, 0, .null, []),
  (56, .invokevirtual 80, 3, 139, 1, 13, .null, []),
  (59, .ifCond .eq 7, 3, 66, 0, 0, .null, []),
  (62, .iconst 1, 1, 0, 0, 0, .int 1, []),
  (63, .goto 4, 3, 67, 0, 0, .null, []),
  (66, .iconst 0, 1, 0, 0, 0, .int 0, []),
  (67, .ireturn, 1, 0, 0, 0, .null, []),
  (68, .aload_n 0, 1, 0, 0, 0, .null, []),
  (69, .iload_n 1, 1, 0, 0, 0, .null, []),
  (70, .invokevirtual 84, 3, 140, 1, 13, .null, []),
  (73, .ireturn, 1, 0, 0, 0, .null, []),
  (74, .iconst (-1), 1, 0, 0, 0, .int (-1), []),
  (75, .ireturn, 1, 0, 0, 0, .null, [])]
def am_c_MD_turns : List am_E := [(0, .iconst 0, 1, 0, 0, 0, .int 0, []),
  (1, .istore_n 2, 1, 0, 0, 0, .null, []),
  (2, .iconst 0, 1, 0, 0, 0, .int 0, []),
  (3, .istore_n 3, 1, 0, 0, 0, .null, []),
  (4, .iload_n 3, 1, 0, 0, 0, .null, [(0, 0)]),
  (5, .aload_n 0, 1, 0, 0, 0, .null, []),
  (6, .invokevirtual 87, 3, 135, 0, 13, .null, []),
  (9, .if_icmp .gt 45, 3, 54, 0, 0, .null, []),
  (12, .iload_n 2, 1, 0, 0, 0, .null, []),
  (13, .iload_n 3, 1, 0, 0, 0, .null, []),
  (14, .iload_n 1, 1, 0, 0, 0, .null, []),
  (15, .invokestatic 91, 3, 133, 2, 0, .null, []),
  (18, .ifCond .ne 27, 3, 45, 0, 0, .null, []),
  (21, .aload_n 0, 1, 0, 0, 0, .null, []),
  (22, .iload_n 3, 1, 0, 0, 0, .null, []),
  (23, .invokevirtual 95, 3, 138, 1, 13, .null, []),
  (26, .ifCond .ne 19, 3, 45, 0, 0, .null, []),
  (29, .aload_n 0, 1, 0, 0, 0, .null, []),
  (30, .iload_n 3, 1, 0, 0, 0, .null, []),
  (31, .iconst 1, 1, 0, 0, 0, .int 1, []),
  (32, .iload_n 1, 1, 0, 0, 0, .null, []),
  (33, .ishl, 1, 0, 0, 0, .null, []),
  (34, .ior, 1, 0, 0, 0, .null, []),
  (35, .invokevirtual 95, 3, 138, 1, 13, .null, []),
  (38, .ifCond .eq 7, 3, 45, 0, 0, .null, []),
  (41, .iconst 1, 1, 0, 0, 0, .int 1, []),
  (42, .goto 4, 3, 46, 0, 0, .null, []),
  (45, .iconst 0, 1, 0, 0, 0, .int 0, []),
  (46, .iadd, 1, 0, 0, 0, .null, []),
  (47, .istore_n 2, 1, 0, 0, 0, .null, []),
  (48, .iinc 3 1, 3, 0, 0, 0, .int 1, []),
  (51, .goto (-47), 3, 4, 0, 0, .null, []),
  (54, .iload_n 2, 1, 0, 0, 0, .null, []),
  (55, .ireturn, 1, 0, 0, 0, .null, [])]
def am_c_MD_element_1 : List am_E := [(104, .ireturn, 1, 0, 0, 0, .null, []),
  (105, .iconst (-1), 1, 0, 0, 0, .int (-1), []),
  (106, .ireturn, 1, 0, 0, 0, .null, [])]
def am_c_MD_element : List am_E := (0, .iload_n 1, 1, 0, 0, 0, .null, []) ::
  (1, .i2l, 1, 0, 0, 0, .null, []) ::
  (2, .lconst 0, 1, 0, 0, 0, .long 0, []) ::
  (3, .aload_n 0, 1, 0, 0, 0, .null, []) ::
  (4, .getfield 7, 3, 11, 0, 2, .null, []) ::
  (7, .iconst 0, 1, 0, 0, 0, .int 0, []) ::
  (8, .iaload, 1, 0, 0, 0, .null, []) ::
  (9, .iconst 1, 1, 0, 0, 0, .int 1, []) ::
  (10, .isub, 1, 0, 0, 0, .null, []) ::
  (11, .i2l, 1, 0, 0, 0, .null, []) ::
  (12, .invokestatic 76, 3, 131, 3, 0, .null, []) ::
  (15, .ifCond .ne 5, 3, 20, 0, 0, .null, []) ::
  (18, .iconst (-1), 1, 0, 0, 0, .int (-1), []) ::
  (19, .ireturn, 1, 0, 0, 0, .null, []) ::
  (20, .iconst 0, 1, 0, 0, 0, .int 0, []) ::
  (21, .istore_n 3, 1, 0, 0, 0, .null, []) ::
  (22, .iconst 0, 1, 0, 0, 0, .int 0, []) ::
  (23, .istore 4, 2, 0, 0, 0, .null, []) ::
  (25, .iload 4, 2, 0, 0, 0, .null, [(0, 0)]) ::
  (27, .aload_n 0, 1, 0, 0, 0, .null, []) ::
  (28, .getfield 7, 3, 11, 0, 2, .null, []) ::
  (31, .iconst 1, 1, 0, 0, 0, .int 1, []) ::
  (32, .iaload, 1, 0, 0, 0, .null, []) ::
  (33, .if_icmp .ge 33, 3, 66, 0, 0, .null, []) ::
  (36, .iload_n 3, 1, 0, 0, 0, .null, []) ::
  (37, .aload_n 0, 1, 0, 0, 0, .null, []) ::
  (38, .iload 4, 2, 0, 0, 0, .null, []) ::
  (40, .invokevirtual 69, 3, 136, 1, 13, .null, []) ::
  (43, .iload_n 1, 1, 0, 0, 0, .null, []) ::
  (44, .invokestatic 91, 3, 133, 2, 0, .null, []) ::
  (47, .ifCond .eq 10, 3, 57, 0, 0, .null, []) ::
  (50, .iconst 1, 1, 0, 0, 0, .int 1, []) ::
  (51, .iload 4, 2, 0, 0, 0, .null, []) ::
  (53, .ishl, 1, 0, 0, 0, .null, []) ::
  (54, .goto 4, 3, 58, 0, 0, .null, []) ::
  (57, .iconst 0, 1, 0, 0, 0, .int 0, []) ::
  (58, .ior, 1, 0, 0, 0, .null, []) ::
  (59, .istore_n 3, 1, 0, 0, 0, .null, []) ::
  (60, .iinc 4 1, 3, 0, 0, 0, .int 1, []) ::
  (63, .goto (-38), 3, 25, 0, 0, .null, []) ::
  (66, .iload_n 2, 1, 0, 0, 0, .null, []) ::
  (67, .tableswitch 38 0 2 #[25, 30, 32], 25, 105, 0, 0, .null, [(0, 92), (1, 97), (2, 99)]) ::
  (92, .iload_n 3, 1, 0, 0, 0, .null, []) ::
  (93, .invokestatic 73, 3, 134, 1, 0, .null, []) ::
  (96, .ireturn, 1, 0, 0, 0, .null, []) ::
  (97, .iload_n 3, 1, 0, 0, 0, .null, []) ::
  (98, .ireturn, 1, 0, 0, 0, .null, []) ::
  (99, .aload_n 0, 1, 0, 0, 0, .null, []) ::
  (100, .iload_n 1, 1, 0, 0, 0, .null, []) ::
  (101, .invokevirtual 98, 3, 142, 1, 13, .null, []) :: am_c_MD_element_1
def am_c_MD_common : List am_E := [(0, .bipush (-4), 2, 0, 0, 0, .int (-4), []),
  (2, .istore_n 1, 1, 0, 0, 0, .null, []),
  (3, .iconst 0, 1, 0, 0, 0, .int 0, []),
  (4, .istore_n 2, 1, 0, 0, 0, .null, []),
  (5, .iload_n 2, 1, 0, 0, 0, .null, [(0, 0)]),
  (6, .aload_n 0, 1, 0, 0, 0, .null, []),
  (7, .getfield 7, 3, 11, 0, 2, .null, []),
  (10, .iconst 1, 1, 0, 0, 0, .int 1, []),
  (11, .iaload, 1, 0, 0, 0, .null, []),
  (12, .if_icmp .ge 55, 3, 67, 0, 0, .null, []),
  (15, .iconst 0, 1, 0, 0, 0, .int 0, []),
  (16, .istore_n 3, 1, 0, 0, 0, .null, []),
  (17, .iload_n 3, 1, 0, 0, 0, .null, [(0, 0)]),
  (18, .iload_n 2, 1, 0, 0, 0, .null, []),
  (19, .if_icmp .gt 42, 3, 61, 0, 0, .null, []),
  (22, .aload_n 0, 1, 0, 0, 0, .null, []),
  (23, .iload_n 3, 1, 0, 0, 0, .null, []),
  (24, .invokevirtual 69, 3, 136, 1, 13, .null, []),
  (27, .aload_n 0, 1, 0, 0, 0, .null, []),
  (28, .iload_n 2, 1, 0, 0, 0, .null, []),
  (29, .invokevirtual 69, 3, 136, 1, 13, .null, []),
  (32, .iand, 1, 0, 0, 0, .null, []),
  (33, .invokestatic 73, 3, 134, 1, 0, .null, []),
  (36, .istore 4, 2, 0, 0, 0, .null, []),
  (38, .iload_n 1, 1, 0, 0, 0, .null, []),
  (39, .ifCond .lt 9, 3, 48, 0, 0, .null, []),
  (42, .iload 4, 2, 0, 0, 0, .null, []),
  (44, .iload_n 1, 1, 0, 0, 0, .null, []),
  (45, .if_icmp .ge 8, 3, 53, 0, 0, .null, []),
  (48, .iload 4, 2, 0, 0, 0, .null, []),
  (50, .goto 4, 3, 54, 0, 0, .null, []),
  (53, .iload_n 1, 1, 0, 0, 0, .null, []),
  (54, .istore_n 1, 1, 0, 0, 0, .null, []),
  (55, .iinc 3 1, 3, 0, 0, 0, .int 1, []),
  (58, .goto (-41), 3, 17, 0, 0, .null, []),
  (61, .iinc 2 1, 3, 0, 0, 0, .int 1, []),
  (64, .goto (-59), 3, 5, 0, 0, .null, []),
  (67, .iload_n 1, 1, 0, 0, 0, .null, []),
  (68, .ireturn, 1, 0, 0, 0, .null, [])]
def am_c_MD_faults : List am_E := [(0, .aload_n 0, 1, 0, 0, 0, .null, []),
  (1, .getfield 7, 3, 11, 0, 2, .null, []),
  (4, .iconst 0, 1, 0, 0, 0, .int 0, []),
  (5, .iaload, 1, 0, 0, 0, .null, []),
  (6, .iconst 1, 1, 0, 0, 0, .int 1, []),
  (7, .iadd, 1, 0, 0, 0, .null, []),
  (8, .istore_n 1, 1, 0, 0, 0, .null, []),
  (9, .iconst 0, 1, 0, 0, 0, .int 0, []),
  (10, .istore_n 2, 1, 0, 0, 0, .null, []),
  (11, .iload_n 2, 1, 0, 0, 0, .null, [(0, 0)]),
  (12, .aload_n 0, 1, 0, 0, 0, .null, []),
  (13, .invokevirtual 87, 3, 135, 0, 13, .null, []),
  (16, .if_icmp .gt 41, 3, 57, 0, 0, .null, []),
  (19, .aload_n 0, 1, 0, 0, 0, .null, []),
  (20, .aload_n 0, 1, 0, 0, 0, .null, []),
  (21, .invokevirtual 87, 3, 135, 0, 13, .null, []),
  (24, .iload_n 2, 1, 0, 0, 0, .null, []),
  (25, .iconst (-1), 1, 0, 0, 0, .int (-1), []),
  (26, .ixor, 1, 0, 0, 0, .null, []),
  (27, .iand, 1, 0, 0, 0, .null, []),
  (28, .invokevirtual 95, 3, 138, 1, 13, .null, []),
  (31, .ifCond .ne 18, 3, 49, 0, 0, .null, []),
  (34, .iload_n 2, 1, 0, 0, 0, .null, []),
  (35, .invokestatic 73, 3, 134, 1, 0, .null, []),
  (38, .iload_n 1, 1, 0, 0, 0, .null, []),
  (39, .if_icmp .ge 10, 3, 49, 0, 0, .null, []),
  (42, .iload_n 2, 1, 0, 0, 0, .null, []),
  (43, .invokestatic 73, 3, 134, 1, 0, .null, []),
  (46, .goto 4, 3, 50, 0, 0, .null, []),
  (49, .iload_n 1, 1, 0, 0, 0, .null, []),
  (50, .istore_n 1, 1, 0, 0, 0, .null, []),
  (51, .iinc 2 1, 3, 0, 0, 0, .int 1, []),
  (54, .goto (-43), 3, 11, 0, 0, .null, []),
  (57, .iload_n 1, 1, 0, 0, 0, .null, []),
  (58, .iconst 1, 1, 0, 0, 0, .int 1, []),
  (59, .isub, 1, 0, 0, 0, .null, []),
  (60, .ireturn, 1, 0, 0, 0, .null, [])]
def am_c_MD_liars : List am_E := [(0, .bipush (-4), 2, 0, 0, 0, .int (-4), []),
  (2, .istore_n 2, 1, 0, 0, 0, .null, []),
  (3, .iconst 0, 1, 0, 0, 0, .int 0, []),
  (4, .istore_n 3, 1, 0, 0, 0, .null, []),
  (5, .iload_n 3, 1, 0, 0, 0, .null, [(0, 0)]),
  (6, .aload_n 0, 1, 0, 0, 0, .null, []),
  (7, .invokevirtual 101, 3, 145, 0, 13, .null, []),
  (10, .if_icmp .gt 34, 3, 44, 0, 0, .null, []),
  (13, .aload_n 0, 1, 0, 0, 0, .null, []),
  (14, .invokevirtual 104, 3, 144, 0, 13, .null, []),
  (17, .ifCond .le 27, 3, 44, 0, 0, .null, []),
  (20, .iload_n 1, 1, 0, 0, 0, .null, []),
  (21, .iload_n 3, 1, 0, 0, 0, .null, []),
  (22, .imul, 1, 0, 0, 0, .null, []),
  (23, .iconst 1, 1, 0, 0, 0, .int 1, []),
  (24, .iadd, 1, 0, 0, 0, .null, []),
  (25, .aload_n 0, 1, 0, 0, 0, .null, []),
  (26, .invokevirtual 104, 3, 144, 0, 13, .null, []),
  (29, .if_icmp .gt 7, 3, 36, 0, 0, .null, []),
  (32, .iload_n 3, 1, 0, 0, 0, .null, []),
  (33, .goto 4, 3, 37, 0, 0, .null, []),
  (36, .iload_n 2, 1, 0, 0, 0, .null, []),
  (37, .istore_n 2, 1, 0, 0, 0, .null, []),
  (38, .iinc 3 1, 3, 0, 0, 0, .int 1, []),
  (41, .goto (-36), 3, 5, 0, 0, .null, []),
  (44, .iload_n 2, 1, 0, 0, 0, .null, []),
  (45, .ireturn, 1, 0, 0, 0, .null, [])]
def am_c_MD_count : List am_E := [(0, .iload_n 1, 1, 0, 0, 0, .null, []),
  (1, .tableswitch 126 0 8 #[51, 58, 65, 70, 83, 102, 108, 114, 121], 51, 127, 0, 0, .null, [(0, 52), (1, 59), (2, 66), (3, 71), (4, 84), (5, 103), (6, 109), (7, 115), (8, 122)]),
  (52, .aload_n 0, 1, 0, 0, 0, .null, []),
  (53, .getfield 7, 3, 11, 0, 2, .null, []),
  (56, .iconst 0, 1, 0, 0, 0, .int 0, []),
  (57, .iaload, 1, 0, 0, 0, .null, []),
  (58, .ireturn, 1, 0, 0, 0, .null, []),
  (59, .aload_n 0, 1, 0, 0, 0, .null, []),
  (60, .getfield 7, 3, 11, 0, 2, .null, []),
  (63, .iconst 1, 1, 0, 0, 0, .int 1, []),
  (64, .iaload, 1, 0, 0, 0, .null, []),
  (65, .ireturn, 1, 0, 0, 0, .null, []),
  (66, .aload_n 0, 1, 0, 0, 0, .null, []),
  (67, .invokevirtual 104, 3, 144, 0, 13, .null, []),
  (70, .ireturn, 1, 0, 0, 0, .null, []),
  (71, .aload_n 0, 1, 0, 0, 0, .null, []),
  (72, .invokevirtual 104, 3, 144, 0, 13, .null, []),
  (75, .ifCond .ne 7, 3, 82, 0, 0, .null, []),
  (78, .iconst 0, 1, 0, 0, 0, .int 0, []),
  (79, .goto 4, 3, 83, 0, 0, .null, []),
  (82, .iconst 1, 1, 0, 0, 0, .int 1, []),
  (83, .ireturn, 1, 0, 0, 0, .null, []),
  (84, .aload_n 0, 1, 0, 0, 0, .null, []),
  (85, .getfield 7, 3, 11, 0, 2, .null, []),
  (88, .iconst 1, 1, 0, 0, 0, .int 1, []),
  (89, .iaload, 1, 0, 0, 0, .null, []),
  (90, .ifCond .ne 8, 3, 98, 0, 0, .null, []),
  (93, .bipush (-4), 2, 0, 0, 0, .int (-4), []),
  (95, .goto 7, 3, 102, 0, 0, .null, []),
  (98, .aload_n 0, 1, 0, 0, 0, .null, []),
  (99, .invokevirtual 101, 3, 145, 0, 13, .null, []),
  (102, .ireturn, 1, 0, 0, 0, .null, []),
  (103, .aload_n 0, 1, 0, 0, 0, .null, []),
  (104, .iconst 2, 1, 0, 0, 0, .int 2, []),
  (105, .invokevirtual 107, 3, 146, 1, 13, .null, []),
  (108, .ireturn, 1, 0, 0, 0, .null, []),
  (109, .aload_n 0, 1, 0, 0, 0, .null, []),
  (110, .iconst 1, 1, 0, 0, 0, .int 1, []),
  (111, .invokevirtual 107, 3, 146, 1, 13, .null, []),
  (114, .ireturn, 1, 0, 0, 0, .null, []),
  (115, .aload_n 0, 1, 0, 0, 0, .null, []),
  (116, .getfield 7, 3, 11, 0, 2, .null, []),
  (119, .iconst 3, 1, 0, 0, 0, .int 3, []),
  (120, .iaload, 1, 0, 0, 0, .null, []),
  (121, .ireturn, 1, 0, 0, 0, .null, []),
  (122, .aload_n 0, 1, 0, 0, 0, .null, []),
  (123, .getfield 110, 3, 11, 19, 0, .null, []),
  (126, .ireturn, 1, 0, 0, 0, .null, []),
  (127, .iconst (-1), 1, 0, 0, 0, .int (-1), []),
  (128, .ireturn, 1, 0, 0, 0, .null, [])]
def am_c_MD_reduces : List am_E := [(0, .iload_n 1, 1, 0, 0, 0, .null, []),
  (1, .istore_n 3, 1, 0, 0, 0, .null, []),
  (2, .iload_n 2, 1, 0, 0, 0, .null, []),
  (3, .istore 4, 2, 0, 0, 0, .null, []),
  (5, .iload 4, 2, 0, 0, 0, .null, [(0, 0)]),
  (7, .ifCond .eq 19, 3, 26, 0, 0, .null, []),
  (10, .iload_n 3, 1, 0, 0, 0, .null, []),
  (11, .iload 4, 2, 0, 0, 0, .null, []),
  (13, .irem, 1, 0, 0, 0, .null, []),
  (14, .istore 5, 2, 0, 0, 0, .null, []),
  (16, .iload 4, 2, 0, 0, 0, .null, []),
  (18, .istore_n 3, 1, 0, 0, 0, .null, []),
  (19, .iload 5, 2, 0, 0, 0, .null, []),
  (21, .istore 4, 2, 0, 0, 0, .null, []),
  (23, .goto (-18), 3, 5, 0, 0, .null, []),
  (26, .aload_n 0, 1, 0, 0, 0, .null, []),
  (27, .iload_n 1, 1, 0, 0, 0, .null, []),
  (28, .iload_n 3, 1, 0, 0, 0, .null, []),
  (29, .idiv, 1, 0, 0, 0, .null, []),
  (30, .putfield 113, 3, 11, 1, 0, .null, []),
  (33, .aload_n 0, 1, 0, 0, 0, .null, []),
  (34, .iload_n 2, 1, 0, 0, 0, .null, []),
  (35, .iload_n 3, 1, 0, 0, 0, .null, []),
  (36, .idiv, 1, 0, 0, 0, .null, []),
  (37, .putfield 116, 3, 11, 2, 0, .null, []),
  (40, .return_, 1, 0, 0, 0, .null, [])]
def am_c_MD_nth : List am_E := [(0, .iload_n 1, 1, 0, 0, 0, .null, []),
  (1, .istore_n 2, 1, 0, 0, 0, .null, []),
  (2, .iconst 0, 1, 0, 0, 0, .int 0, []),
  (3, .istore_n 3, 1, 0, 0, 0, .null, []),
  (4, .iload_n 3, 1, 0, 0, 0, .null, [(0, 0)]),
  (5, .bipush 12, 2, 0, 0, 0, .int 12, []),
  (7, .if_icmp .ge 37, 3, 44, 0, 0, .null, []),
  (10, .iload_n 0, 1, 0, 0, 0, .null, []),
  (11, .iload_n 3, 1, 0, 0, 0, .null, []),
  (12, .invokestatic 91, 3, 133, 2, 0, .null, []),
  (15, .ifCond .eq 7, 3, 22, 0, 0, .null, []),
  (18, .iload_n 2, 1, 0, 0, 0, .null, []),
  (19, .ifCond .le 25, 3, 44, 0, 0, .null, []),
  (22, .iload_n 2, 1, 0, 0, 0, .null, []),
  (23, .iload_n 0, 1, 0, 0, 0, .null, []),
  (24, .iload_n 3, 1, 0, 0, 0, .null, []),
  (25, .invokestatic 91, 3, 133, 2, 0, .null, []),
  (28, .ifCond .eq 7, 3, 35, 0, 0, .null, []),
  (31, .iconst 1, 1, 0, 0, 0, .int 1, []),
  (32, .goto 4, 3, 36, 0, 0, .null, []),
  (35, .iconst 0, 1, 0, 0, 0, .int 0, []),
  (36, .isub, 1, 0, 0, 0, .null, []),
  (37, .istore_n 2, 1, 0, 0, 0, .null, []),
  (38, .iinc 3 1, 3, 0, 0, 0, .int 1, []),
  (41, .goto (-37), 3, 4, 0, 0, .null, []),
  (44, .iload_n 3, 1, 0, 0, 0, .null, []),
  (45, .ireturn, 1, 0, 0, 0, .null, [])]
def am_c_MD_squares_1 : List am_E := [(94, .aload_n 0, 1, 0, 0, 0, .null, []),
  (95, .getfield 13, 3, 11, 3, 2, .null, []),
  (98, .bipush 8, 2, 0, 0, 0, .int 8, []),
  (100, .iload_n 3, 1, 0, 0, 0, .null, []),
  (101, .imul, 1, 0, 0, 0, .null, []),
  (102, .bipush 7, 2, 0, 0, 0, .int 7, []),
  (104, .iadd, 1, 0, 0, 0, .null, []),
  (105, .iconst 1, 1, 0, 0, 0, .int 1, []),
  (106, .iastore, 1, 0, 0, 0, .null, []),
  (107, .iinc 3 1, 3, 0, 0, 0, .int 1, []),
  (110, .goto (-108), 3, 2, 0, 0, .null, []),
  (113, .return_, 1, 0, 0, 0, .null, [])]
def am_c_MD_squares : List am_E := (0, .iconst 0, 1, 0, 0, 0, .int 0, []) ::
  (1, .istore_n 3, 1, 0, 0, 0, .null, []) ::
  (2, .iload_n 3, 1, 0, 0, 0, .null, [(0, 0)]) ::
  (3, .iload_n 1, 1, 0, 0, 0, .null, []) ::
  (4, .if_icmp .ge 109, 3, 113, 0, 0, .null, []) ::
  (7, .iconst 0, 1, 0, 0, 0, .int 0, []) ::
  (8, .istore 4, 2, 0, 0, 0, .null, []) ::
  (10, .iload 4, 2, 0, 0, 0, .null, [(0, 0)]) ::
  (12, .bipush 7, 2, 0, 0, 0, .int 7, []) ::
  (14, .if_icmp .ge 80, 3, 94, 0, 0, .null, []) ::
  (17, .aload_n 0, 1, 0, 0, 0, .null, []) ::
  (18, .getfield 16, 3, 11, 4, 2, .null, []) ::
  (21, .iload_n 2, 1, 0, 0, 0, .null, []) ::
  (22, .ifCond .eq 8, 3, 30, 0, 0, .null, []) ::
  (25, .iload 4, 2, 0, 0, 0, .null, []) ::
  (27, .goto 4, 3, 31, 0, 0, .null, []) ::
  (30, .iload_n 3, 1, 0, 0, 0, .null, []) ::
  (31, .iaload, 1, 0, 0, 0, .null, []) ::
  (32, .istore 5, 2, 0, 0, 0, .null, []) ::
  (34, .aload_n 0, 1, 0, 0, 0, .null, []) ::
  (35, .getfield 19, 3, 11, 5, 2, .null, []) ::
  (38, .iload_n 2, 1, 0, 0, 0, .null, []) ::
  (39, .ifCond .eq 7, 3, 46, 0, 0, .null, []) ::
  (42, .iload_n 3, 1, 0, 0, 0, .null, []) ::
  (43, .goto 5, 3, 48, 0, 0, .null, []) ::
  (46, .iload 4, 2, 0, 0, 0, .null, []) ::
  (48, .iaload, 1, 0, 0, 0, .null, []) ::
  (49, .istore 6, 2, 0, 0, 0, .null, []) ::
  (51, .aload_n 0, 1, 0, 0, 0, .null, []) ::
  (52, .getfield 13, 3, 11, 3, 2, .null, []) ::
  (55, .bipush 8, 2, 0, 0, 0, .int 8, []) ::
  (57, .iload_n 3, 1, 0, 0, 0, .null, []) ::
  (58, .imul, 1, 0, 0, 0, .null, []) ::
  (59, .iload 4, 2, 0, 0, 0, .null, []) ::
  (61, .iadd, 1, 0, 0, 0, .null, []) ::
  (62, .iload 4, 2, 0, 0, 0, .null, []) ::
  (64, .iload_n 1, 1, 0, 0, 0, .null, []) ::
  (65, .if_icmp .ge 21, 3, 86, 0, 0, .null, []) ::
  (68, .aload_n 0, 1, 0, 0, 0, .null, []) ::
  (69, .iload 5, 2, 0, 0, 0, .null, []) ::
  (71, .invokevirtual 69, 3, 136, 1, 13, .null, []) ::
  (74, .iload 6, 2, 0, 0, 0, .null, []) ::
  (76, .invokestatic 91, 3, 133, 2, 0, .null, []) ::
  (79, .ifCond .eq 7, 3, 86, 0, 0, .null, []) ::
  (82, .iconst 1, 1, 0, 0, 0, .int 1, []) ::
  (83, .goto 4, 3, 87, 0, 0, .null, []) ::
  (86, .iconst 0, 1, 0, 0, 0, .int 0, []) ::
  (87, .iastore, 1, 0, 0, 0, .null, []) ::
  (88, .iinc 4 1, 3, 0, 0, 0, .int 1, []) ::
  (91, .goto (-81), 3, 10, 0, 0, .null, []) :: am_c_MD_squares_1
def am_c_MD_swaps : List am_E := [(0, .iconst 0, 1, 0, 0, 0, .int 0, []),
  (1, .istore_n 3, 1, 0, 0, 0, .null, []),
  (2, .iload_n 3, 1, 0, 0, 0, .null, [(0, 0)]),
  (3, .bipush 8, 2, 0, 0, 0, .int 8, []),
  (5, .if_icmp .ge 68, 3, 73, 0, 0, .null, []),
  (8, .aload_n 0, 1, 0, 0, 0, .null, []),
  (9, .getfield 13, 3, 11, 3, 2, .null, []),
  (12, .bipush 8, 2, 0, 0, 0, .int 8, []),
  (14, .iload_n 1, 1, 0, 0, 0, .null, []),
  (15, .imul, 1, 0, 0, 0, .null, []),
  (16, .iload_n 3, 1, 0, 0, 0, .null, []),
  (17, .iadd, 1, 0, 0, 0, .null, []),
  (18, .iaload, 1, 0, 0, 0, .null, []),
  (19, .istore 4, 2, 0, 0, 0, .null, []),
  (21, .aload_n 0, 1, 0, 0, 0, .null, []),
  (22, .getfield 13, 3, 11, 3, 2, .null, []),
  (25, .bipush 8, 2, 0, 0, 0, .int 8, []),
  (27, .iload_n 1, 1, 0, 0, 0, .null, []),
  (28, .imul, 1, 0, 0, 0, .null, []),
  (29, .iload_n 3, 1, 0, 0, 0, .null, []),
  (30, .iadd, 1, 0, 0, 0, .null, []),
  (31, .aload_n 0, 1, 0, 0, 0, .null, []),
  (32, .getfield 13, 3, 11, 3, 2, .null, []),
  (35, .bipush 8, 2, 0, 0, 0, .int 8, []),
  (37, .iload_n 2, 1, 0, 0, 0, .null, []),
  (38, .imul, 1, 0, 0, 0, .null, []),
  (39, .iload_n 3, 1, 0, 0, 0, .null, []),
  (40, .iadd, 1, 0, 0, 0, .null, []),
  (41, .iaload, 1, 0, 0, 0, .null, []),
  (42, .iastore, 1, 0, 0, 0, .null, []),
  (43, .aload_n 0, 1, 0, 0, 0, .null, []),
  (44, .getfield 13, 3, 11, 3, 2, .null, []),
  (47, .bipush 8, 2, 0, 0, 0, .int 8, []),
  (49, .iload_n 2, 1, 0, 0, 0, .null, []),
  (50, .imul, 1, 0, 0, 0, .null, []),
  (51, .iload_n 3, 1, 0, 0, 0, .null, []),
  (52, .iadd, 1, 0, 0, 0, .null, []),
  (53, .iload_n 1, 1, 0, 0, 0, .null, []),
  (54, .iload_n 2, 1, 0, 0, 0, .null, []),
  (55, .if_icmp .ne 8, 3, 63, 0, 0, .null, []),
  (58, .iload 4, 2, 0, 0, 0, .null, []),
  (60, .goto 6, 3, 66, 0, 0, .null, []),
  (63, .iload 4, 2, 0, 0, 0, .null, []),
  (65, .ineg, 1, 0, 0, 0, .null, []),
  (66, .iastore, 1, 0, 0, 0, .null, []),
  (67, .iinc 3 1, 3, 0, 0, 0, .int 1, []),
  (70, .goto (-68), 3, 2, 0, 0, .null, []),
  (73, .return_, 1, 0, 0, 0, .null, [])]
def am_c_MD_solves_2 : List am_E := [(168, .istore_n 2, 1, 0, 0, 0, .null, []),
  (169, .iinc 3 1, 3, 0, 0, 0, .int 1, []),
  (172, .goto (-168), 3, 4, 0, 0, .null, []),
  (175, .iload_n 2, 1, 0, 0, 0, .null, []),
  (176, .ireturn, 1, 0, 0, 0, .null, [])]
def am_c_MD_solves_1 : List am_E := (83, .iload 6, 2, 0, 0, 0, .null, []) ::
  (85, .imul, 1, 0, 0, 0, .null, []) ::
  (86, .iload_n 3, 1, 0, 0, 0, .null, []) ::
  (87, .iadd, 1, 0, 0, 0, .null, []) ::
  (88, .iaload, 1, 0, 0, 0, .null, []) ::
  (89, .istore 7, 2, 0, 0, 0, .null, []) ::
  (91, .iconst 0, 1, 0, 0, 0, .int 0, []) ::
  (92, .istore 8, 2, 0, 0, 0, .null, []) ::
  (94, .iload 8, 2, 0, 0, 0, .null, [(0, 0)]) ::
  (96, .bipush 8, 2, 0, 0, 0, .int 8, []) ::
  (98, .if_icmp .ge 62, 3, 160, 0, 0, .null, []) ::
  (101, .iload 6, 2, 0, 0, 0, .null, []) ::
  (103, .iload_n 3, 1, 0, 0, 0, .null, []) ::
  (104, .if_icmp .eq 56, 3, 160, 0, 0, .null, []) ::
  (107, .aload_n 0, 1, 0, 0, 0, .null, []) ::
  (108, .getfield 13, 3, 11, 3, 2, .null, []) ::
  (111, .bipush 8, 2, 0, 0, 0, .int 8, []) ::
  (113, .iload 6, 2, 0, 0, 0, .null, []) ::
  (115, .imul, 1, 0, 0, 0, .null, []) ::
  (116, .iload 8, 2, 0, 0, 0, .null, []) ::
  (118, .iadd, 1, 0, 0, 0, .null, []) ::
  (119, .iload 5, 2, 0, 0, 0, .null, []) ::
  (121, .aload_n 0, 1, 0, 0, 0, .null, []) ::
  (122, .getfield 13, 3, 11, 3, 2, .null, []) ::
  (125, .bipush 8, 2, 0, 0, 0, .int 8, []) ::
  (127, .iload 6, 2, 0, 0, 0, .null, []) ::
  (129, .imul, 1, 0, 0, 0, .null, []) ::
  (130, .iload 8, 2, 0, 0, 0, .null, []) ::
  (132, .iadd, 1, 0, 0, 0, .null, []) ::
  (133, .iaload, 1, 0, 0, 0, .null, []) ::
  (134, .imul, 1, 0, 0, 0, .null, []) ::
  (135, .iload 7, 2, 0, 0, 0, .null, []) ::
  (137, .aload_n 0, 1, 0, 0, 0, .null, []) ::
  (138, .getfield 13, 3, 11, 3, 2, .null, []) ::
  (141, .bipush 8, 2, 0, 0, 0, .int 8, []) ::
  (143, .iload_n 3, 1, 0, 0, 0, .null, []) ::
  (144, .imul, 1, 0, 0, 0, .null, []) ::
  (145, .iload 8, 2, 0, 0, 0, .null, []) ::
  (147, .iadd, 1, 0, 0, 0, .null, []) ::
  (148, .iaload, 1, 0, 0, 0, .null, []) ::
  (149, .imul, 1, 0, 0, 0, .null, []) ::
  (150, .isub, 1, 0, 0, 0, .null, []) ::
  (151, .iload_n 2, 1, 0, 0, 0, .null, []) ::
  (152, .idiv, 1, 0, 0, 0, .null, []) ::
  (153, .iastore, 1, 0, 0, 0, .null, []) ::
  (154, .iinc 8 1, 3, 0, 0, 0, .int 1, []) ::
  (157, .goto (-63), 3, 94, 0, 0, .null, []) ::
  (160, .iinc 6 1, 3, 0, 0, 0, .int 1, []) ::
  (163, .goto (-92), 3, 71, 0, 0, .null, []) ::
  (166, .iload 5, 2, 0, 0, 0, .null, []) :: am_c_MD_solves_2
def am_c_MD_solves : List am_E := (0, .iconst 1, 1, 0, 0, 0, .int 1, []) ::
  (1, .istore_n 2, 1, 0, 0, 0, .null, []) ::
  (2, .iconst 0, 1, 0, 0, 0, .int 0, []) ::
  (3, .istore_n 3, 1, 0, 0, 0, .null, []) ::
  (4, .iload_n 3, 1, 0, 0, 0, .null, [(0, 0)]) ::
  (5, .iload_n 1, 1, 0, 0, 0, .null, []) ::
  (6, .if_icmp .ge 169, 3, 175, 0, 0, .null, []) ::
  (9, .iload_n 3, 1, 0, 0, 0, .null, []) ::
  (10, .istore 4, 2, 0, 0, 0, .null, []) ::
  (12, .iload 4, 2, 0, 0, 0, .null, [(0, 0)]) ::
  (14, .iload_n 1, 1, 0, 0, 0, .null, []) ::
  (15, .iconst 1, 1, 0, 0, 0, .int 1, []) ::
  (16, .isub, 1, 0, 0, 0, .null, []) ::
  (17, .if_icmp .ge 24, 3, 41, 0, 0, .null, []) ::
  (20, .aload_n 0, 1, 0, 0, 0, .null, []) ::
  (21, .getfield 13, 3, 11, 3, 2, .null, []) ::
  (24, .bipush 8, 2, 0, 0, 0, .int 8, []) ::
  (26, .iload 4, 2, 0, 0, 0, .null, []) ::
  (28, .imul, 1, 0, 0, 0, .null, []) ::
  (29, .iload_n 3, 1, 0, 0, 0, .null, []) ::
  (30, .iadd, 1, 0, 0, 0, .null, []) ::
  (31, .iaload, 1, 0, 0, 0, .null, []) ::
  (32, .ifCond .ne 9, 3, 41, 0, 0, .null, []) ::
  (35, .iinc 4 1, 3, 0, 0, 0, .int 1, []) ::
  (38, .goto (-26), 3, 12, 0, 0, .null, []) ::
  (41, .aload_n 0, 1, 0, 0, 0, .null, []) ::
  (42, .iload_n 3, 1, 0, 0, 0, .null, []) ::
  (43, .iload 4, 2, 0, 0, 0, .null, []) ::
  (45, .invokevirtual 119, 3, 151, 2, 13, .null, []) ::
  (48, .aload_n 0, 1, 0, 0, 0, .null, []) ::
  (49, .getfield 13, 3, 11, 3, 2, .null, []) ::
  (52, .bipush 8, 2, 0, 0, 0, .int 8, []) ::
  (54, .iload_n 3, 1, 0, 0, 0, .null, []) ::
  (55, .imul, 1, 0, 0, 0, .null, []) ::
  (56, .iload_n 3, 1, 0, 0, 0, .null, []) ::
  (57, .iadd, 1, 0, 0, 0, .null, []) ::
  (58, .iaload, 1, 0, 0, 0, .null, []) ::
  (59, .istore 5, 2, 0, 0, 0, .null, []) ::
  (61, .iload 5, 2, 0, 0, 0, .null, []) ::
  (63, .ifCond .ne 5, 3, 68, 0, 0, .null, []) ::
  (66, .iconst 0, 1, 0, 0, 0, .int 0, []) ::
  (67, .ireturn, 1, 0, 0, 0, .null, []) ::
  (68, .iconst 0, 1, 0, 0, 0, .int 0, []) ::
  (69, .istore 6, 2, 0, 0, 0, .null, []) ::
  (71, .iload 6, 2, 0, 0, 0, .null, [(0, 0)]) ::
  (73, .iload_n 1, 1, 0, 0, 0, .null, []) ::
  (74, .if_icmp .ge 92, 3, 166, 0, 0, .null, []) ::
  (77, .aload_n 0, 1, 0, 0, 0, .null, []) ::
  (78, .getfield 13, 3, 11, 3, 2, .null, []) ::
  (81, .bipush 8, 2, 0, 0, 0, .int 8, []) :: am_c_MD_solves_1
def am_c_MD_takes_1 : List am_E := [(91, .goto 17, 3, 108, 0, 0, .null, []),
  (94, .aload_n 0, 1, 0, 0, 0, .null, []),
  (95, .getfield 22, 3, 11, 6, 2, .null, []),
  (98, .aload_n 0, 1, 0, 0, 0, .null, []),
  (99, .getfield 19, 3, 11, 5, 2, .null, []),
  (102, .iload 5, 2, 0, 0, 0, .null, []),
  (104, .iaload, 1, 0, 0, 0, .null, []),
  (105, .iload 6, 2, 0, 0, 0, .null, []),
  (107, .iastore, 1, 0, 0, 0, .null, []),
  (108, .iinc 5 1, 3, 0, 0, 0, .int 1, []),
  (111, .goto (-97), 3, 14, 0, 0, .null, []),
  (114, .iload 4, 2, 0, 0, 0, .null, []),
  (116, .ireturn, 1, 0, 0, 0, .null, [])]
def am_c_MD_takes : List am_E := (0, .iload_n 2, 1, 0, 0, 0, .null, []) ::
  (1, .ifCond .eq 7, 3, 8, 0, 0, .null, []) ::
  (4, .iconst 1, 1, 0, 0, 0, .int 1, []) ::
  (5, .goto 4, 3, 9, 0, 0, .null, []) ::
  (8, .iconst 0, 1, 0, 0, 0, .int 0, []) ::
  (9, .istore 4, 2, 0, 0, 0, .null, []) ::
  (11, .iconst 0, 1, 0, 0, 0, .int 0, []) ::
  (12, .istore 5, 2, 0, 0, 0, .null, []) ::
  (14, .iload 5, 2, 0, 0, 0, .null, [(0, 0)]) ::
  (16, .iload_n 1, 1, 0, 0, 0, .null, []) ::
  (17, .if_icmp .ge 97, 3, 114, 0, 0, .null, []) ::
  (20, .iload 4, 2, 0, 0, 0, .null, []) ::
  (22, .ifCond .eq 92, 3, 114, 0, 0, .null, []) ::
  (25, .iload_n 2, 1, 0, 0, 0, .null, []) ::
  (26, .ifCond .ge 20, 3, 46, 0, 0, .null, []) ::
  (29, .aload_n 0, 1, 0, 0, 0, .null, []) ::
  (30, .getfield 13, 3, 11, 3, 2, .null, []) ::
  (33, .bipush 8, 2, 0, 0, 0, .int 8, []) ::
  (35, .iload 5, 2, 0, 0, 0, .null, []) ::
  (37, .imul, 1, 0, 0, 0, .null, []) ::
  (38, .bipush 7, 2, 0, 0, 0, .int 7, []) ::
  (40, .iadd, 1, 0, 0, 0, .null, []) ::
  (41, .iaload, 1, 0, 0, 0, .null, []) ::
  (42, .ineg, 1, 0, 0, 0, .null, []) ::
  (43, .goto 16, 3, 59, 0, 0, .null, []) ::
  (46, .aload_n 0, 1, 0, 0, 0, .null, []) ::
  (47, .getfield 13, 3, 11, 3, 2, .null, []) ::
  (50, .bipush 8, 2, 0, 0, 0, .int 8, []) ::
  (52, .iload 5, 2, 0, 0, 0, .null, []) ::
  (54, .imul, 1, 0, 0, 0, .null, []) ::
  (55, .bipush 7, 2, 0, 0, 0, .int 7, []) ::
  (57, .iadd, 1, 0, 0, 0, .null, []) ::
  (58, .iaload, 1, 0, 0, 0, .null, []) ::
  (59, .istore 6, 2, 0, 0, 0, .null, []) ::
  (61, .iload 6, 2, 0, 0, 0, .null, []) ::
  (63, .ifCond .lt 7, 3, 70, 0, 0, .null, []) ::
  (66, .iconst 1, 1, 0, 0, 0, .int 1, []) ::
  (67, .goto 4, 3, 71, 0, 0, .null, []) ::
  (70, .iconst 0, 1, 0, 0, 0, .int 0, []) ::
  (71, .istore 4, 2, 0, 0, 0, .null, []) ::
  (73, .iload_n 3, 1, 0, 0, 0, .null, []) ::
  (74, .ifCond .eq 20, 3, 94, 0, 0, .null, []) ::
  (77, .aload_n 0, 1, 0, 0, 0, .null, []) ::
  (78, .getfield 25, 3, 11, 7, 2, .null, []) ::
  (81, .aload_n 0, 1, 0, 0, 0, .null, []) ::
  (82, .getfield 16, 3, 11, 4, 2, .null, []) ::
  (85, .iload 5, 2, 0, 0, 0, .null, []) ::
  (87, .iaload, 1, 0, 0, 0, .null, []) ::
  (88, .iload 6, 2, 0, 0, 0, .null, []) ::
  (90, .iastore, 1, 0, 0, 0, .null, []) :: am_c_MD_takes_1
def am_c_MD_clears : List am_E := [(0, .iconst 0, 1, 0, 0, 0, .int 0, []),
  (1, .istore_n 1, 1, 0, 0, 0, .null, []),
  (2, .iload_n 1, 1, 0, 0, 0, .null, [(0, 0)]),
  (3, .bipush 12, 2, 0, 0, 0, .int 12, []),
  (5, .if_icmp .ge 16, 3, 21, 0, 0, .null, []),
  (8, .aload_n 0, 1, 0, 0, 0, .null, []),
  (9, .getfield 25, 3, 11, 7, 2, .null, []),
  (12, .iload_n 1, 1, 0, 0, 0, .null, []),
  (13, .iconst 0, 1, 0, 0, 0, .int 0, []),
  (14, .iastore, 1, 0, 0, 0, .null, []),
  (15, .iinc 1 1, 3, 0, 0, 0, .int 1, []),
  (18, .goto (-16), 3, 2, 0, 0, .null, []),
  (21, .iconst 0, 1, 0, 0, 0, .int 0, []),
  (22, .istore_n 1, 1, 0, 0, 0, .null, []),
  (23, .iload_n 1, 1, 0, 0, 0, .null, [(0, 0)]),
  (24, .bipush 7, 2, 0, 0, 0, .int 7, []),
  (26, .if_icmp .ge 16, 3, 42, 0, 0, .null, []),
  (29, .aload_n 0, 1, 0, 0, 0, .null, []),
  (30, .getfield 22, 3, 11, 6, 2, .null, []),
  (33, .iload_n 1, 1, 0, 0, 0, .null, []),
  (34, .iconst 0, 1, 0, 0, 0, .int 0, []),
  (35, .iastore, 1, 0, 0, 0, .null, []),
  (36, .iinc 1 1, 3, 0, 0, 0, .int 1, []),
  (39, .goto (-16), 3, 23, 0, 0, .null, []),
  (42, .return_, 1, 0, 0, 0, .null, [])]
def am_c_MD_bears : List am_E := [(0, .iconst 1, 1, 0, 0, 0, .int 1, []),
  (1, .istore_n 2, 1, 0, 0, 0, .null, []),
  (2, .iconst 0, 1, 0, 0, 0, .int 0, []),
  (3, .istore_n 3, 1, 0, 0, 0, .null, []),
  (4, .iload_n 3, 1, 0, 0, 0, .null, [(0, 0)]),
  (5, .aload_n 0, 1, 0, 0, 0, .null, []),
  (6, .getfield 7, 3, 11, 0, 2, .null, []),
  (9, .iconst 1, 1, 0, 0, 0, .int 1, []),
  (10, .iaload, 1, 0, 0, 0, .null, []),
  (11, .if_icmp .ge 73, 3, 84, 0, 0, .null, []),
  (14, .iload_n 2, 1, 0, 0, 0, .null, []),
  (15, .ifCond .eq 69, 3, 84, 0, 0, .null, []),
  (18, .iconst 0, 1, 0, 0, 0, .int 0, []),
  (19, .istore 4, 2, 0, 0, 0, .null, []),
  (21, .iconst 0, 1, 0, 0, 0, .int 0, []),
  (22, .istore 5, 2, 0, 0, 0, .null, []),
  (24, .iload 5, 2, 0, 0, 0, .null, [(0, 0)]),
  (26, .bipush 7, 2, 0, 0, 0, .int 7, []),
  (28, .if_icmp .ge 38, 3, 66, 0, 0, .null, []),
  (31, .iload 4, 2, 0, 0, 0, .null, []),
  (33, .aload_n 0, 1, 0, 0, 0, .null, []),
  (34, .iload_n 3, 1, 0, 0, 0, .null, []),
  (35, .invokevirtual 69, 3, 136, 1, 13, .null, []),
  (38, .iload 5, 2, 0, 0, 0, .null, []),
  (40, .invokestatic 91, 3, 133, 2, 0, .null, []),
  (43, .ifCond .eq 13, 3, 56, 0, 0, .null, []),
  (46, .aload_n 0, 1, 0, 0, 0, .null, []),
  (47, .getfield 22, 3, 11, 6, 2, .null, []),
  (50, .iload 5, 2, 0, 0, 0, .null, []),
  (52, .iaload, 1, 0, 0, 0, .null, []),
  (53, .goto 4, 3, 57, 0, 0, .null, []),
  (56, .iconst 0, 1, 0, 0, 0, .int 0, []),
  (57, .iadd, 1, 0, 0, 0, .null, []),
  (58, .istore 4, 2, 0, 0, 0, .null, []),
  (60, .iinc 5 1, 3, 0, 0, 0, .int 1, []),
  (63, .goto (-39), 3, 24, 0, 0, .null, []),
  (66, .iload 4, 2, 0, 0, 0, .null, []),
  (68, .iload_n 1, 1, 0, 0, 0, .null, []),
  (69, .if_icmp .lt 7, 3, 76, 0, 0, .null, []),
  (72, .iconst 1, 1, 0, 0, 0, .int 1, []),
  (73, .goto 4, 3, 77, 0, 0, .null, []),
  (76, .iconst 0, 1, 0, 0, 0, .int 0, []),
  (77, .istore_n 2, 1, 0, 0, 0, .null, []),
  (78, .iinc 3 1, 3, 0, 0, 0, .int 1, []),
  (81, .goto (-77), 3, 4, 0, 0, .null, []),
  (84, .iload_n 2, 1, 0, 0, 0, .null, []),
  (85, .ireturn, 1, 0, 0, 0, .null, [])]
def am_c_MD_loadOf : List am_E := [(0, .iconst 0, 1, 0, 0, 0, .int 0, []),
  (1, .istore_n 2, 1, 0, 0, 0, .null, []),
  (2, .iconst 0, 1, 0, 0, 0, .int 0, []),
  (3, .istore_n 3, 1, 0, 0, 0, .null, []),
  (4, .iload_n 3, 1, 0, 0, 0, .null, [(0, 0)]),
  (5, .aload_n 0, 1, 0, 0, 0, .null, []),
  (6, .getfield 7, 3, 11, 0, 2, .null, []),
  (9, .iconst 1, 1, 0, 0, 0, .int 1, []),
  (10, .iaload, 1, 0, 0, 0, .null, []),
  (11, .if_icmp .ge 34, 3, 45, 0, 0, .null, []),
  (14, .iload_n 2, 1, 0, 0, 0, .null, []),
  (15, .aload_n 0, 1, 0, 0, 0, .null, []),
  (16, .iload_n 3, 1, 0, 0, 0, .null, []),
  (17, .invokevirtual 69, 3, 136, 1, 13, .null, []),
  (20, .iload_n 1, 1, 0, 0, 0, .null, []),
  (21, .invokestatic 91, 3, 133, 2, 0, .null, []),
  (24, .ifCond .eq 12, 3, 36, 0, 0, .null, []),
  (27, .aload_n 0, 1, 0, 0, 0, .null, []),
  (28, .getfield 25, 3, 11, 7, 2, .null, []),
  (31, .iload_n 3, 1, 0, 0, 0, .null, []),
  (32, .iaload, 1, 0, 0, 0, .null, []),
  (33, .goto 4, 3, 37, 0, 0, .null, []),
  (36, .iconst 0, 1, 0, 0, 0, .int 0, []),
  (37, .iadd, 1, 0, 0, 0, .null, []),
  (38, .istore_n 2, 1, 0, 0, 0, .null, []),
  (39, .iinc 3 1, 3, 0, 0, 0, .int 1, []),
  (42, .goto (-38), 3, 4, 0, 0, .null, []),
  (45, .iload_n 2, 1, 0, 0, 0, .null, []),
  (46, .ireturn, 1, 0, 0, 0, .null, [])]
def am_c_MD_evens_2 : List am_E := [(184, .goto (-35), 3, 149, 0, 0, .null, []),
  (187, .aload_n 0, 1, 0, 0, 0, .null, []),
  (188, .iload 4, 2, 0, 0, 0, .null, []),
  (190, .iload 6, 2, 0, 0, 0, .null, []),
  (192, .invokevirtual 147, 3, 148, 2, 13, .null, []),
  (195, .iconst 1, 1, 0, 0, 0, .int 1, []),
  (196, .ireturn, 1, 0, 0, 0, .null, [])]
def am_c_MD_evens_1 : List am_E := (92, .iload 4, 2, 0, 0, 0, .null, []) ::
  (94, .invokevirtual 141, 3, 155, 1, 13, .null, []) ::
  (97, .ifCond .ne 5, 3, 102, 0, 0, .null, []) ::
  (100, .iconst 0, 1, 0, 0, 0, .int 0, []) ::
  (101, .ireturn, 1, 0, 0, 0, .null, []) ::
  (102, .aload_n 0, 1, 0, 0, 0, .null, []) ::
  (103, .iload_n 3, 1, 0, 0, 0, .null, []) ::
  (104, .iconst 1, 1, 0, 0, 0, .int 1, []) ::
  (105, .invokevirtual 130, 3, 150, 2, 13, .null, []) ::
  (108, .aload_n 0, 1, 0, 0, 0, .null, []) ::
  (109, .iload_n 3, 1, 0, 0, 0, .null, []) ::
  (110, .invokevirtual 134, 3, 152, 1, 13, .null, []) ::
  (113, .istore 5, 2, 0, 0, 0, .null, []) ::
  (115, .aload_n 0, 1, 0, 0, 0, .null, []) ::
  (116, .iload_n 3, 1, 0, 0, 0, .null, []) ::
  (117, .iload 5, 2, 0, 0, 0, .null, []) ::
  (119, .iconst 1, 1, 0, 0, 0, .int 1, []) ::
  (120, .invokevirtual 137, 3, 153, 3, 13, .null, []) ::
  (123, .ifCond .ne 5, 3, 128, 0, 0, .null, []) ::
  (126, .iconst 0, 1, 0, 0, 0, .int 0, []) ::
  (127, .ireturn, 1, 0, 0, 0, .null, []) ::
  (128, .iload 5, 2, 0, 0, 0, .null, []) ::
  (130, .ifCond .ge 9, 3, 139, 0, 0, .null, []) ::
  (133, .iload 5, 2, 0, 0, 0, .null, []) ::
  (135, .ineg, 1, 0, 0, 0, .null, []) ::
  (136, .goto 5, 3, 141, 0, 0, .null, []) ::
  (139, .iload 5, 2, 0, 0, 0, .null, []) ::
  (141, .istore 5, 2, 0, 0, 0, .null, []) ::
  (143, .iconst 0, 1, 0, 0, 0, .int 0, []) ::
  (144, .istore 6, 2, 0, 0, 0, .null, []) ::
  (146, .iconst 0, 1, 0, 0, 0, .int 0, []) ::
  (147, .istore 7, 2, 0, 0, 0, .null, []) ::
  (149, .iload 7, 2, 0, 0, 0, .null, [(0, 0)]) ::
  (151, .bipush 7, 2, 0, 0, 0, .int 7, []) ::
  (153, .if_icmp .ge 34, 3, 187, 0, 0, .null, []) ::
  (156, .iload 6, 2, 0, 0, 0, .null, []) ::
  (158, .aload_n 0, 1, 0, 0, 0, .null, []) ::
  (159, .getfield 22, 3, 11, 6, 2, .null, []) ::
  (162, .iload 7, 2, 0, 0, 0, .null, []) ::
  (164, .iaload, 1, 0, 0, 0, .null, []) ::
  (165, .iadd, 1, 0, 0, 0, .null, []) ::
  (166, .istore 6, 2, 0, 0, 0, .null, []) ::
  (168, .aload_n 0, 1, 0, 0, 0, .null, []) ::
  (169, .iload 7, 2, 0, 0, 0, .null, []) ::
  (171, .invokevirtual 144, 3, 156, 1, 13, .null, []) ::
  (174, .iload 5, 2, 0, 0, 0, .null, []) ::
  (176, .if_icmp .le 5, 3, 181, 0, 0, .null, []) ::
  (179, .iconst 0, 1, 0, 0, 0, .int 0, []) ::
  (180, .ireturn, 1, 0, 0, 0, .null, []) ::
  (181, .iinc 7 1, 3, 0, 0, 0, .int 1, []) :: am_c_MD_evens_2
def am_c_MD_evens : List am_E := (0, .iload_n 2, 1, 0, 0, 0, .null, []) ::
  (1, .invokestatic 73, 3, 134, 1, 0, .null, []) ::
  (4, .istore_n 3, 1, 0, 0, 0, .null, []) ::
  (5, .iconst 0, 1, 0, 0, 0, .int 0, []) ::
  (6, .istore 4, 2, 0, 0, 0, .null, []) ::
  (8, .iload 4, 2, 0, 0, 0, .null, [(0, 0)]) ::
  (10, .iload_n 3, 1, 0, 0, 0, .null, []) ::
  (11, .if_icmp .ge 35, 3, 46, 0, 0, .null, []) ::
  (14, .aload_n 0, 1, 0, 0, 0, .null, []) ::
  (15, .getfield 16, 3, 11, 4, 2, .null, []) ::
  (18, .iload 4, 2, 0, 0, 0, .null, []) ::
  (20, .iload_n 1, 1, 0, 0, 0, .null, []) ::
  (21, .iload 4, 2, 0, 0, 0, .null, []) ::
  (23, .invokestatic 123, 3, 149, 2, 0, .null, []) ::
  (26, .iastore, 1, 0, 0, 0, .null, []) ::
  (27, .aload_n 0, 1, 0, 0, 0, .null, []) ::
  (28, .getfield 19, 3, 11, 5, 2, .null, []) ::
  (31, .iload 4, 2, 0, 0, 0, .null, []) ::
  (33, .iload_n 2, 1, 0, 0, 0, .null, []) ::
  (34, .iload 4, 2, 0, 0, 0, .null, []) ::
  (36, .invokestatic 123, 3, 149, 2, 0, .null, []) ::
  (39, .iastore, 1, 0, 0, 0, .null, []) ::
  (40, .iinc 4 1, 3, 0, 0, 0, .int 1, []) ::
  (43, .goto (-35), 3, 8, 0, 0, .null, []) ::
  (46, .aload_n 0, 1, 0, 0, 0, .null, []) ::
  (47, .invokevirtual 127, 3, 154, 0, 13, .null, []) ::
  (50, .aload_n 0, 1, 0, 0, 0, .null, []) ::
  (51, .iload_n 3, 1, 0, 0, 0, .null, []) ::
  (52, .iconst 0, 1, 0, 0, 0, .int 0, []) ::
  (53, .invokevirtual 130, 3, 150, 2, 13, .null, []) ::
  (56, .aload_n 0, 1, 0, 0, 0, .null, []) ::
  (57, .iload_n 3, 1, 0, 0, 0, .null, []) ::
  (58, .invokevirtual 134, 3, 152, 1, 13, .null, []) ::
  (61, .istore 4, 2, 0, 0, 0, .null, []) ::
  (63, .aload_n 0, 1, 0, 0, 0, .null, []) ::
  (64, .iload_n 3, 1, 0, 0, 0, .null, []) ::
  (65, .iload 4, 2, 0, 0, 0, .null, []) ::
  (67, .iconst 0, 1, 0, 0, 0, .int 0, []) ::
  (68, .invokevirtual 137, 3, 153, 3, 13, .null, []) ::
  (71, .ifCond .ne 5, 3, 76, 0, 0, .null, []) ::
  (74, .iconst 0, 1, 0, 0, 0, .int 0, []) ::
  (75, .ireturn, 1, 0, 0, 0, .null, []) ::
  (76, .iload 4, 2, 0, 0, 0, .null, []) ::
  (78, .ifCond .ge 9, 3, 87, 0, 0, .null, []) ::
  (81, .iload 4, 2, 0, 0, 0, .null, []) ::
  (83, .ineg, 1, 0, 0, 0, .null, []) ::
  (84, .goto 5, 3, 89, 0, 0, .null, []) ::
  (87, .iload 4, 2, 0, 0, 0, .null, []) ::
  (89, .istore 4, 2, 0, 0, 0, .null, []) ::
  (91, .aload_n 0, 1, 0, 0, 0, .null, []) :: am_c_MD_evens_1
def am_c_MD_slim : List am_E := [(0, .iconst 0, 1, 0, 0, 0, .int 0, []),
  (1, .istore_n 1, 1, 0, 0, 0, .null, []),
  (2, .iconst 0, 1, 0, 0, 0, .int 0, []),
  (3, .istore_n 2, 1, 0, 0, 0, .null, []),
  (4, .iload_n 2, 1, 0, 0, 0, .null, [(0, 0)]),
  (5, .aload_n 0, 1, 0, 0, 0, .null, []),
  (6, .getfield 7, 3, 11, 0, 2, .null, []),
  (9, .iconst 1, 1, 0, 0, 0, .int 1, []),
  (10, .iaload, 1, 0, 0, 0, .null, []),
  (11, .if_icmp .ge 27, 3, 38, 0, 0, .null, []),
  (14, .iload_n 1, 1, 0, 0, 0, .null, []),
  (15, .aload_n 0, 1, 0, 0, 0, .null, []),
  (16, .iload_n 2, 1, 0, 0, 0, .null, []),
  (17, .invokevirtual 80, 3, 139, 1, 13, .null, []),
  (20, .ifCond .eq 7, 3, 27, 0, 0, .null, []),
  (23, .iconst 0, 1, 0, 0, 0, .int 0, []),
  (24, .goto 6, 3, 30, 0, 0, .null, []),
  (27, .iconst 1, 1, 0, 0, 0, .int 1, []),
  (28, .iload_n 2, 1, 0, 0, 0, .null, []),
  (29, .ishl, 1, 0, 0, 0, .null, []),
  (30, .ior, 1, 0, 0, 0, .null, []),
  (31, .istore_n 1, 1, 0, 0, 0, .null, []),
  (32, .iinc 2 1, 3, 0, 0, 0, .int 1, []),
  (35, .goto (-31), 3, 4, 0, 0, .null, []),
  (38, .iload_n 1, 1, 0, 0, 0, .null, []),
  (39, .ireturn, 1, 0, 0, 0, .null, [])]
def am_c_MD_loads : List am_E := [(0, .aload_n 0, 1, 0, 0, 0, .null, []),
  (1, .invokevirtual 150, 3, 158, 0, 13, .null, []),
  (4, .istore_n 1, 1, 0, 0, 0, .null, []),
  (5, .iconst 0, 1, 0, 0, 0, .int 0, []),
  (6, .istore_n 2, 1, 0, 0, 0, .null, []),
  (7, .iconst 1, 1, 0, 0, 0, .int 1, []),
  (8, .istore_n 3, 1, 0, 0, 0, .null, []),
  (9, .iload_n 3, 1, 0, 0, 0, .null, [(0, 0)]),
  (10, .aload_n 0, 1, 0, 0, 0, .null, []),
  (11, .invokevirtual 87, 3, 135, 0, 13, .null, []),
  (14, .if_icmp .gt 75, 3, 89, 0, 0, .null, []),
  (17, .iload_n 2, 1, 0, 0, 0, .null, []),
  (18, .ifCond .ne 71, 3, 89, 0, 0, .null, []),
  (21, .iload_n 3, 1, 0, 0, 0, .null, []),
  (22, .invokestatic 73, 3, 134, 1, 0, .null, []),
  (25, .istore 4, 2, 0, 0, 0, .null, []),
  (27, .iconst 1, 1, 0, 0, 0, .int 1, []),
  (28, .istore 5, 2, 0, 0, 0, .null, []),
  (30, .iload 5, 2, 0, 0, 0, .null, [(0, 0)]),
  (32, .sipush 4096, 3, 0, 0, 0, .int 4096, []),
  (35, .if_icmp .ge 48, 3, 83, 0, 0, .null, []),
  (38, .iload_n 2, 1, 0, 0, 0, .null, []),
  (39, .ifCond .ne 44, 3, 83, 0, 0, .null, []),
  (42, .iload 5, 2, 0, 0, 0, .null, []),
  (44, .iload_n 1, 1, 0, 0, 0, .null, []),
  (45, .iconst (-1), 1, 0, 0, 0, .int (-1), []),
  (46, .ixor, 1, 0, 0, 0, .null, []),
  (47, .iand, 1, 0, 0, 0, .null, []),
  (48, .ifCond .ne 27, 3, 75, 0, 0, .null, []),
  (51, .iload 5, 2, 0, 0, 0, .null, []),
  (53, .invokestatic 73, 3, 134, 1, 0, .null, []),
  (56, .iload 4, 2, 0, 0, 0, .null, []),
  (58, .if_icmp .ne 17, 3, 75, 0, 0, .null, []),
  (61, .aload_n 0, 1, 0, 0, 0, .null, []),
  (62, .iload 5, 2, 0, 0, 0, .null, []),
  (64, .iload_n 3, 1, 0, 0, 0, .null, []),
  (65, .invokevirtual 153, 3, 157, 2, 13, .null, []),
  (68, .ifCond .eq 7, 3, 75, 0, 0, .null, []),
  (71, .iconst 1, 1, 0, 0, 0, .int 1, []),
  (72, .goto 4, 3, 76, 0, 0, .null, []),
  (75, .iconst 0, 1, 0, 0, 0, .int 0, []),
  (76, .istore_n 2, 1, 0, 0, 0, .null, []),
  (77, .iinc 5 1, 3, 0, 0, 0, .int 1, []),
  (80, .goto (-50), 3, 30, 0, 0, .null, []),
  (83, .iinc 3 1, 3, 0, 0, 0, .int 1, []),
  (86, .goto (-77), 3, 9, 0, 0, .null, []),
  (89, .return_, 1, 0, 0, 0, .null, [])]
def am_c_MD_load : List am_E := [(0, .iload_n 1, 1, 0, 0, 0, .null, []),
  (1, .i2l, 1, 0, 0, 0, .null, []),
  (2, .lconst 0, 1, 0, 0, 0, .long 0, []),
  (3, .lconst 1, 1, 0, 0, 0, .long 1, []),
  (4, .invokestatic 76, 3, 131, 3, 0, .null, []),
  (7, .ifCond .ne 5, 3, 12, 0, 0, .null, []),
  (10, .iconst (-1), 1, 0, 0, 0, .int (-1), []),
  (11, .ireturn, 1, 0, 0, 0, .null, []),
  (12, .aload_n 0, 1, 0, 0, 0, .null, []),
  (13, .getfield 7, 3, 11, 0, 2, .null, []),
  (16, .iconst 1, 1, 0, 0, 0, .int 1, []),
  (17, .iaload, 1, 0, 0, 0, .null, []),
  (18, .ifCond .ne 6, 3, 24, 0, 0, .null, []),
  (21, .bipush (-4), 2, 0, 0, 0, .int (-4), []),
  (23, .ireturn, 1, 0, 0, 0, .null, []),
  (24, .aload_n 0, 1, 0, 0, 0, .null, []),
  (25, .invokevirtual 156, 3, 159, 0, 13, .null, []),
  (28, .iload_n 1, 1, 0, 0, 0, .null, []),
  (29, .ifCond .ne 10, 3, 39, 0, 0, .null, []),
  (32, .aload_n 0, 1, 0, 0, 0, .null, []),
  (33, .getfield 113, 3, 11, 1, 0, .null, []),
  (36, .goto 7, 3, 43, 0, 0, .null, []),
  (39, .aload_n 0, 1, 0, 0, 0, .null, []),
  (40, .getfield 116, 3, 11, 2, 0, .null, []),
  (43, .ireturn, 1, 0, 0, 0, .null, [])]
def am_c_MD_planAt : List am_E := [(0, .bipush (-4), 2, 0, 0, 0, .int (-4), []),
  (2, .istore_n 2, 1, 0, 0, 0, .null, []),
  (3, .iconst 0, 1, 0, 0, 0, .int 0, []),
  (4, .istore_n 3, 1, 0, 0, 0, .null, []),
  (5, .iload_n 3, 1, 0, 0, 0, .null, [(0, 0)]),
  (6, .aload_n 0, 1, 0, 0, 0, .null, []),
  (7, .getfield 7, 3, 11, 0, 2, .null, []),
  (10, .iconst 3, 1, 0, 0, 0, .int 3, []),
  (11, .iaload, 1, 0, 0, 0, .null, []),
  (12, .if_icmp .ge 31, 3, 43, 0, 0, .null, []),
  (15, .aload_n 0, 1, 0, 0, 0, .null, []),
  (16, .getfield 7, 3, 11, 0, 2, .null, []),
  (19, .bipush 16, 2, 0, 0, 0, .int 16, []),
  (21, .bipush 25, 2, 0, 0, 0, .int 25, []),
  (23, .iload_n 3, 1, 0, 0, 0, .null, []),
  (24, .imul, 1, 0, 0, 0, .null, []),
  (25, .iadd, 1, 0, 0, 0, .null, []),
  (26, .iaload, 1, 0, 0, 0, .null, []),
  (27, .iload_n 1, 1, 0, 0, 0, .null, []),
  (28, .if_icmp .ne 7, 3, 35, 0, 0, .null, []),
  (31, .iload_n 3, 1, 0, 0, 0, .null, []),
  (32, .goto 4, 3, 36, 0, 0, .null, []),
  (35, .iload_n 2, 1, 0, 0, 0, .null, []),
  (36, .istore_n 2, 1, 0, 0, 0, .null, []),
  (37, .iinc 3 1, 3, 0, 0, 0, .int 1, []),
  (40, .goto (-35), 3, 5, 0, 0, .null, []),
  (43, .iload_n 2, 1, 0, 0, 0, .null, []),
  (44, .ireturn, 1, 0, 0, 0, .null, [])]
def am_c_MD_weighs_1 : List am_E := [(80, .iadd, 1, 0, 0, 0, .null, []),
  (81, .iastore, 1, 0, 0, 0, .null, []),
  (82, .iinc 4 1, 3, 0, 0, 0, .int 1, []),
  (85, .goto (-64), 3, 21, 0, 0, .null, []),
  (88, .iload_n 2, 1, 0, 0, 0, .null, []),
  (89, .aload_n 0, 1, 0, 0, 0, .null, []),
  (90, .getfield 25, 3, 11, 7, 2, .null, []),
  (93, .iload_n 3, 1, 0, 0, 0, .null, []),
  (94, .iaload, 1, 0, 0, 0, .null, []),
  (95, .iadd, 1, 0, 0, 0, .null, []),
  (96, .istore_n 2, 1, 0, 0, 0, .null, []),
  (97, .iinc 3 1, 3, 0, 0, 0, .int 1, []),
  (100, .goto (-92), 3, 8, 0, 0, .null, []),
  (103, .iload_n 2, 1, 0, 0, 0, .null, []),
  (104, .ireturn, 1, 0, 0, 0, .null, [])]
def am_c_MD_weighs : List am_E := (0, .aload_n 0, 1, 0, 0, 0, .null, []) ::
  (1, .invokevirtual 127, 3, 154, 0, 13, .null, []) ::
  (4, .iconst 0, 1, 0, 0, 0, .int 0, []) ::
  (5, .istore_n 2, 1, 0, 0, 0, .null, []) ::
  (6, .iconst 0, 1, 0, 0, 0, .int 0, []) ::
  (7, .istore_n 3, 1, 0, 0, 0, .null, []) ::
  (8, .iload_n 3, 1, 0, 0, 0, .null, [(0, 0)]) ::
  (9, .aload_n 0, 1, 0, 0, 0, .null, []) ::
  (10, .getfield 7, 3, 11, 0, 2, .null, []) ::
  (13, .iconst 1, 1, 0, 0, 0, .int 1, []) ::
  (14, .iaload, 1, 0, 0, 0, .null, []) ::
  (15, .if_icmp .ge 88, 3, 103, 0, 0, .null, []) ::
  (18, .iconst 1, 1, 0, 0, 0, .int 1, []) ::
  (19, .istore 4, 2, 0, 0, 0, .null, []) ::
  (21, .iload 4, 2, 0, 0, 0, .null, [(0, 0)]) ::
  (23, .bipush 12, 2, 0, 0, 0, .int 12, []) ::
  (25, .if_icmp .gt 63, 3, 88, 0, 0, .null, []) ::
  (28, .aload_n 0, 1, 0, 0, 0, .null, []) ::
  (29, .getfield 25, 3, 11, 7, 2, .null, []) ::
  (32, .iload_n 3, 1, 0, 0, 0, .null, []) ::
  (33, .dup2, 1, 0, 0, 0, .null, []) ::
  (34, .iaload, 1, 0, 0, 0, .null, []) ::
  (35, .aload_n 0, 1, 0, 0, 0, .null, []) ::
  (36, .getfield 7, 3, 11, 0, 2, .null, []) ::
  (39, .bipush 16, 2, 0, 0, 0, .int 16, []) ::
  (41, .bipush 25, 2, 0, 0, 0, .int 25, []) ::
  (43, .iload_n 1, 1, 0, 0, 0, .null, []) ::
  (44, .imul, 1, 0, 0, 0, .null, []) ::
  (45, .iadd, 1, 0, 0, 0, .null, []) ::
  (46, .iload 4, 2, 0, 0, 0, .null, []) ::
  (48, .iadd, 1, 0, 0, 0, .null, []) ::
  (49, .iaload, 1, 0, 0, 0, .null, []) ::
  (50, .aload_n 0, 1, 0, 0, 0, .null, []) ::
  (51, .iload_n 3, 1, 0, 0, 0, .null, []) ::
  (52, .invokevirtual 69, 3, 136, 1, 13, .null, []) ::
  (55, .if_icmp .ne 24, 3, 79, 0, 0, .null, []) ::
  (58, .aload_n 0, 1, 0, 0, 0, .null, []) ::
  (59, .getfield 7, 3, 11, 0, 2, .null, []) ::
  (62, .bipush 16, 2, 0, 0, 0, .int 16, []) ::
  (64, .bipush 25, 2, 0, 0, 0, .int 25, []) ::
  (66, .iload_n 1, 1, 0, 0, 0, .null, []) ::
  (67, .imul, 1, 0, 0, 0, .null, []) ::
  (68, .iadd, 1, 0, 0, 0, .null, []) ::
  (69, .bipush 12, 2, 0, 0, 0, .int 12, []) ::
  (71, .iadd, 1, 0, 0, 0, .null, []) ::
  (72, .iload 4, 2, 0, 0, 0, .null, []) ::
  (74, .iadd, 1, 0, 0, 0, .null, []) ::
  (75, .iaload, 1, 0, 0, 0, .null, []) ::
  (76, .goto 4, 3, 80, 0, 0, .null, []) ::
  (79, .iconst 0, 1, 0, 0, 0, .int 0, []) :: am_c_MD_weighs_1
def am_c_MD_plan_1 : List am_E := [(93, .istore 5, 2, 0, 0, 0, .null, []),
  (95, .iinc 6 1, 3, 0, 0, 0, .int 1, []),
  (98, .goto (-34), 3, 64, 0, 0, .null, []),
  (101, .aload_n 0, 1, 0, 0, 0, .null, []),
  (102, .iload 5, 2, 0, 0, 0, .null, []),
  (104, .iload 4, 2, 0, 0, 0, .null, []),
  (106, .invokevirtual 147, 3, 148, 2, 13, .null, []),
  (109, .iload_n 2, 1, 0, 0, 0, .null, []),
  (110, .iconst 2, 1, 0, 0, 0, .int 2, []),
  (111, .if_icmp .ge 19, 3, 130, 0, 0, .null, []),
  (114, .iload_n 2, 1, 0, 0, 0, .null, []),
  (115, .ifCond .ne 10, 3, 125, 0, 0, .null, []),
  (118, .aload_n 0, 1, 0, 0, 0, .null, []),
  (119, .getfield 113, 3, 11, 1, 0, .null, []),
  (122, .goto 7, 3, 129, 0, 0, .null, []),
  (125, .aload_n 0, 1, 0, 0, 0, .null, []),
  (126, .getfield 116, 3, 11, 2, 0, .null, []),
  (129, .ireturn, 1, 0, 0, 0, .null, []),
  (130, .aload_n 0, 1, 0, 0, 0, .null, []),
  (131, .getfield 113, 3, 11, 1, 0, .null, []),
  (134, .istore 6, 2, 0, 0, 0, .null, []),
  (136, .aload_n 0, 1, 0, 0, 0, .null, []),
  (137, .getfield 116, 3, 11, 2, 0, .null, []),
  (140, .istore 7, 2, 0, 0, 0, .null, []),
  (142, .aload_n 0, 1, 0, 0, 0, .null, []),
  (143, .invokevirtual 156, 3, 159, 0, 13, .null, []),
  (146, .iload 6, 2, 0, 0, 0, .null, []),
  (148, .aload_n 0, 1, 0, 0, 0, .null, []),
  (149, .getfield 113, 3, 11, 1, 0, .null, []),
  (152, .if_icmp .ne 16, 3, 168, 0, 0, .null, []),
  (155, .iload 7, 2, 0, 0, 0, .null, []),
  (157, .aload_n 0, 1, 0, 0, 0, .null, []),
  (158, .getfield 116, 3, 11, 2, 0, .null, []),
  (161, .if_icmp .ne 7, 3, 168, 0, 0, .null, []),
  (164, .iconst 1, 1, 0, 0, 0, .int 1, []),
  (165, .goto 4, 3, 169, 0, 0, .null, []),
  (168, .iconst 0, 1, 0, 0, 0, .int 0, []),
  (169, .ireturn, 1, 0, 0, 0, .null, [])]
def am_c_MD_plan : List am_E := (0, .iload_n 1, 1, 0, 0, 0, .null, []) ::
  (1, .i2l, 1, 0, 0, 0, .null, []) ::
  (2, .lconst 0, 1, 0, 0, 0, .long 0, []) ::
  (3, .ldc2_w 159, 3, 0, 0, 0, .long 99, []) ::
  (6, .invokestatic 76, 3, 131, 3, 0, .null, []) ::
  (9, .ifCond .eq 15, 3, 24, 0, 0, .null, []) ::
  (12, .iload_n 2, 1, 0, 0, 0, .null, []) ::
  (13, .i2l, 1, 0, 0, 0, .null, []) ::
  (14, .lconst 0, 1, 0, 0, 0, .long 0, []) ::
  (15, .ldc2_w 161, 3, 0, 0, 0, .long 3, []) ::
  (18, .invokestatic 76, 3, 131, 3, 0, .null, []) ::
  (21, .ifCond .ne 5, 3, 26, 0, 0, .null, []) ::
  (24, .iconst (-1), 1, 0, 0, 0, .int (-1), []) ::
  (25, .ireturn, 1, 0, 0, 0, .null, []) ::
  (26, .aload_n 0, 1, 0, 0, 0, .null, []) ::
  (27, .iload_n 1, 1, 0, 0, 0, .null, []) ::
  (28, .invokevirtual 163, 3, 161, 1, 13, .null, []) ::
  (31, .istore_n 3, 1, 0, 0, 0, .null, []) ::
  (32, .iload_n 3, 1, 0, 0, 0, .null, []) ::
  (33, .ifCond .lt 8, 3, 41, 0, 0, .null, []) ::
  (36, .iload_n 2, 1, 0, 0, 0, .null, []) ::
  (37, .iconst 3, 1, 0, 0, 0, .int 3, []) ::
  (38, .if_icmp .ne 5, 3, 43, 0, 0, .null, []) ::
  (41, .iload_n 3, 1, 0, 0, 0, .null, []) ::
  (42, .ireturn, 1, 0, 0, 0, .null, []) ::
  (43, .aload_n 0, 1, 0, 0, 0, .null, []) ::
  (44, .iload_n 3, 1, 0, 0, 0, .null, []) ::
  (45, .invokevirtual 166, 3, 162, 1, 13, .null, []) ::
  (48, .istore 4, 2, 0, 0, 0, .null, []) ::
  (50, .iload 4, 2, 0, 0, 0, .null, []) ::
  (52, .ifCond .ne 6, 3, 58, 0, 0, .null, []) ::
  (55, .bipush (-4), 2, 0, 0, 0, .int (-4), []) ::
  (57, .ireturn, 1, 0, 0, 0, .null, []) ::
  (58, .iconst 0, 1, 0, 0, 0, .int 0, []) ::
  (59, .istore 5, 2, 0, 0, 0, .null, []) ::
  (61, .iconst 0, 1, 0, 0, 0, .int 0, []) ::
  (62, .istore 6, 2, 0, 0, 0, .null, []) ::
  (64, .iload 6, 2, 0, 0, 0, .null, [(0, 0)]) ::
  (66, .bipush 7, 2, 0, 0, 0, .int 7, []) ::
  (68, .if_icmp .ge 33, 3, 101, 0, 0, .null, []) ::
  (71, .aload_n 0, 1, 0, 0, 0, .null, []) ::
  (72, .iload 6, 2, 0, 0, 0, .null, []) ::
  (74, .invokevirtual 144, 3, 156, 1, 13, .null, []) ::
  (77, .iload 5, 2, 0, 0, 0, .null, []) ::
  (79, .if_icmp .le 12, 3, 91, 0, 0, .null, []) ::
  (82, .aload_n 0, 1, 0, 0, 0, .null, []) ::
  (83, .iload 6, 2, 0, 0, 0, .null, []) ::
  (85, .invokevirtual 144, 3, 156, 1, 13, .null, []) ::
  (88, .goto 5, 3, 93, 0, 0, .null, []) ::
  (91, .iload 5, 2, 0, 0, 0, .null, []) :: am_c_MD_plan_1
def am_c_MD_drops : List am_E := [(0, .aload_n 0, 1, 0, 0, 0, .null, []),
  (1, .getfield 7, 3, 11, 0, 2, .null, []),
  (4, .iconst 3, 1, 0, 0, 0, .int 3, []),
  (5, .dup2, 1, 0, 0, 0, .null, []),
  (6, .iaload, 1, 0, 0, 0, .null, []),
  (7, .iconst 1, 1, 0, 0, 0, .int 1, []),
  (8, .isub, 1, 0, 0, 0, .null, []),
  (9, .iastore, 1, 0, 0, 0, .null, []),
  (10, .bipush 25, 2, 0, 0, 0, .int 25, []),
  (12, .iload_n 1, 1, 0, 0, 0, .null, []),
  (13, .imul, 1, 0, 0, 0, .null, []),
  (14, .istore_n 2, 1, 0, 0, 0, .null, []),
  (15, .iload_n 2, 1, 0, 0, 0, .null, [(0, 0)]),
  (16, .bipush 25, 2, 0, 0, 0, .int 25, []),
  (18, .aload_n 0, 1, 0, 0, 0, .null, []),
  (19, .getfield 7, 3, 11, 0, 2, .null, []),
  (22, .iconst 3, 1, 0, 0, 0, .int 3, []),
  (23, .iaload, 1, 0, 0, 0, .null, []),
  (24, .imul, 1, 0, 0, 0, .null, []),
  (25, .if_icmp .ge 30, 3, 55, 0, 0, .null, []),
  (28, .aload_n 0, 1, 0, 0, 0, .null, []),
  (29, .getfield 7, 3, 11, 0, 2, .null, []),
  (32, .bipush 16, 2, 0, 0, 0, .int 16, []),
  (34, .iload_n 2, 1, 0, 0, 0, .null, []),
  (35, .iadd, 1, 0, 0, 0, .null, []),
  (36, .aload_n 0, 1, 0, 0, 0, .null, []),
  (37, .getfield 7, 3, 11, 0, 2, .null, []),
  (40, .bipush 16, 2, 0, 0, 0, .int 16, []),
  (42, .iload_n 2, 1, 0, 0, 0, .null, []),
  (43, .iadd, 1, 0, 0, 0, .null, []),
  (44, .bipush 25, 2, 0, 0, 0, .int 25, []),
  (46, .iadd, 1, 0, 0, 0, .null, []),
  (47, .iaload, 1, 0, 0, 0, .null, []),
  (48, .iastore, 1, 0, 0, 0, .null, []),
  (49, .iinc 2 1, 3, 0, 0, 0, .int 1, []),
  (52, .goto (-37), 3, 15, 0, 0, .null, []),
  (55, .return_, 1, 0, 0, 0, .null, [])]
def am_c_MD_keep_3 : List am_E := [(276, .iinc 10 1, 3, 0, 0, 0, .int 1, []),
  (279, .goto (-79), 3, 200, 0, 0, .null, []),
  (282, .aload_n 0, 1, 0, 0, 0, .null, []),
  (283, .getfield 7, 3, 11, 0, 2, .null, []),
  (286, .iconst 3, 1, 0, 0, 0, .int 3, []),
  (287, .dup2, 1, 0, 0, 0, .null, []),
  (288, .iaload, 1, 0, 0, 0, .null, []),
  (289, .iconst 1, 1, 0, 0, 0, .int 1, []),
  (290, .iadd, 1, 0, 0, 0, .null, []),
  (291, .iastore, 1, 0, 0, 0, .null, []),
  (292, .aload_n 0, 1, 0, 0, 0, .null, []),
  (293, .getfield 7, 3, 11, 0, 2, .null, []),
  (296, .iconst 3, 1, 0, 0, 0, .int 3, []),
  (297, .iaload, 1, 0, 0, 0, .null, []),
  (298, .ireturn, 1, 0, 0, 0, .null, [])]
def am_c_MD_keep_2 : List am_E := (189, .aload_n 0, 1, 0, 0, 0, .null, []) ::
  (190, .getfield 7, 3, 11, 0, 2, .null, []) ::
  (193, .iload 9, 2, 0, 0, 0, .null, []) ::
  (195, .iload_n 1, 1, 0, 0, 0, .null, []) ::
  (196, .iastore, 1, 0, 0, 0, .null, []) ::
  (197, .iconst 0, 1, 0, 0, 0, .int 0, []) ::
  (198, .istore 10, 2, 0, 0, 0, .null, []) ::
  (200, .iload 10, 2, 0, 0, 0, .null, [(0, 0)]) ::
  (202, .bipush 12, 2, 0, 0, 0, .int 12, []) ::
  (204, .if_icmp .ge 78, 3, 282, 0, 0, .null, []) ::
  (207, .aload_n 0, 1, 0, 0, 0, .null, []) ::
  (208, .getfield 7, 3, 11, 0, 2, .null, []) ::
  (211, .iload 9, 2, 0, 0, 0, .null, []) ::
  (213, .iconst 1, 1, 0, 0, 0, .int 1, []) ::
  (214, .iadd, 1, 0, 0, 0, .null, []) ::
  (215, .iload 10, 2, 0, 0, 0, .null, []) ::
  (217, .iadd, 1, 0, 0, 0, .null, []) ::
  (218, .iload 10, 2, 0, 0, 0, .null, []) ::
  (220, .iload 5, 2, 0, 0, 0, .null, []) ::
  (222, .if_icmp .ge 12, 3, 234, 0, 0, .null, []) ::
  (225, .aload_n 0, 1, 0, 0, 0, .null, []) ::
  (226, .iload 10, 2, 0, 0, 0, .null, []) ::
  (228, .invokevirtual 69, 3, 136, 1, 13, .null, []) ::
  (231, .goto 4, 3, 235, 0, 0, .null, []) ::
  (234, .iconst 0, 1, 0, 0, 0, .int 0, []) ::
  (235, .iastore, 1, 0, 0, 0, .null, []) ::
  (236, .aload_n 0, 1, 0, 0, 0, .null, []) ::
  (237, .getfield 7, 3, 11, 0, 2, .null, []) ::
  (240, .iload 9, 2, 0, 0, 0, .null, []) ::
  (242, .bipush 13, 2, 0, 0, 0, .int 13, []) ::
  (244, .iadd, 1, 0, 0, 0, .null, []) ::
  (245, .iload 10, 2, 0, 0, 0, .null, []) ::
  (247, .iadd, 1, 0, 0, 0, .null, []) ::
  (248, .iload 10, 2, 0, 0, 0, .null, []) ::
  (250, .iload 5, 2, 0, 0, 0, .null, []) ::
  (252, .if_icmp .ge 22, 3, 274, 0, 0, .null, []) ::
  (255, .aload_n 0, 1, 0, 0, 0, .null, []) ::
  (256, .getfield 62, 3, 11, 25, 2, .null, []) ::
  (259, .bipush 24, 2, 0, 0, 0, .int 24, []) ::
  (261, .iload_n 2, 1, 0, 0, 0, .null, []) ::
  (262, .imul, 1, 0, 0, 0, .null, []) ::
  (263, .iload 4, 2, 0, 0, 0, .null, []) ::
  (265, .iadd, 1, 0, 0, 0, .null, []) ::
  (266, .iload 10, 2, 0, 0, 0, .null, []) ::
  (268, .iadd, 1, 0, 0, 0, .null, []) ::
  (269, .laload, 1, 0, 0, 0, .null, []) ::
  (270, .l2i, 1, 0, 0, 0, .null, []) ::
  (271, .goto 4, 3, 275, 0, 0, .null, []) ::
  (274, .iconst 0, 1, 0, 0, 0, .int 0, []) ::
  (275, .iastore, 1, 0, 0, 0, .null, []) :: am_c_MD_keep_3
def am_c_MD_keep_1 : List am_E := (95, .imul, 1, 0, 0, 0, .null, []) ::
  (96, .iload 4, 2, 0, 0, 0, .null, []) ::
  (98, .iadd, 1, 0, 0, 0, .null, []) ::
  (99, .iload 8, 2, 0, 0, 0, .null, []) ::
  (101, .iadd, 1, 0, 0, 0, .null, []) ::
  (102, .laload, 1, 0, 0, 0, .null, []) ::
  (103, .lconst 0, 1, 0, 0, 0, .long 0, []) ::
  (104, .ldc2_w 159, 3, 0, 0, 0, .long 99, []) ::
  (107, .invokestatic 76, 3, 131, 3, 0, .null, []) ::
  (110, .ifCond .eq 7, 3, 117, 0, 0, .null, []) ::
  (113, .iconst 1, 1, 0, 0, 0, .int 1, []) ::
  (114, .goto 4, 3, 118, 0, 0, .null, []) ::
  (117, .iconst 0, 1, 0, 0, 0, .int 0, []) ::
  (118, .istore 7, 2, 0, 0, 0, .null, []) ::
  (120, .iinc 8 1, 3, 0, 0, 0, .int 1, []) ::
  (123, .goto (-47), 3, 76, 0, 0, .null, []) ::
  (126, .iload 7, 2, 0, 0, 0, .null, []) ::
  (128, .ifCond .ne 6, 3, 134, 0, 0, .null, []) ::
  (131, .bipush (-2), 2, 0, 0, 0, .int (-2), []) ::
  (133, .ireturn, 1, 0, 0, 0, .null, []) ::
  (134, .aload_n 0, 1, 0, 0, 0, .null, []) ::
  (135, .invokevirtual 176, 3, 197, 0, 13, .null, []) ::
  (138, .aload_n 0, 1, 0, 0, 0, .null, []) ::
  (139, .iload_n 1, 1, 0, 0, 0, .null, []) ::
  (140, .invokevirtual 163, 3, 161, 1, 13, .null, []) ::
  (143, .istore 8, 2, 0, 0, 0, .null, []) ::
  (145, .iload 8, 2, 0, 0, 0, .null, []) ::
  (147, .ifCond .ge 13, 3, 160, 0, 0, .null, []) ::
  (150, .aload_n 0, 1, 0, 0, 0, .null, []) ::
  (151, .getfield 7, 3, 11, 0, 2, .null, []) ::
  (154, .iconst 3, 1, 0, 0, 0, .int 3, []) ::
  (155, .iaload, 1, 0, 0, 0, .null, []) ::
  (156, .iconst 4, 1, 0, 0, 0, .int 4, []) ::
  (157, .if_icmp .ne 18, 3, 175, 0, 0, .null, []) ::
  (160, .aload_n 0, 1, 0, 0, 0, .null, []) ::
  (161, .iload 8, 2, 0, 0, 0, .null, []) ::
  (163, .ifCond .lt 8, 3, 171, 0, 0, .null, []) ::
  (166, .iload 8, 2, 0, 0, 0, .null, []) ::
  (168, .goto 4, 3, 172, 0, 0, .null, []) ::
  (171, .iconst 0, 1, 0, 0, 0, .int 0, []) ::
  (172, .invokevirtual 179, 3, 164, 1, 13, .null, []) ::
  (175, .bipush 16, 2, 0, 0, 0, .int 16, []) ::
  (177, .bipush 25, 2, 0, 0, 0, .int 25, []) ::
  (179, .aload_n 0, 1, 0, 0, 0, .null, []) ::
  (180, .getfield 7, 3, 11, 0, 2, .null, []) ::
  (183, .iconst 3, 1, 0, 0, 0, .int 3, []) ::
  (184, .iaload, 1, 0, 0, 0, .null, []) ::
  (185, .imul, 1, 0, 0, 0, .null, []) ::
  (186, .iadd, 1, 0, 0, 0, .null, []) ::
  (187, .istore 9, 2, 0, 0, 0, .null, []) :: am_c_MD_keep_2
def am_c_MD_keep : List am_E := (0, .iload_n 1, 1, 0, 0, 0, .null, []) ::
  (1, .i2l, 1, 0, 0, 0, .null, []) ::
  (2, .lconst 0, 1, 0, 0, 0, .long 0, []) ::
  (3, .ldc2_w 159, 3, 0, 0, 0, .long 99, []) ::
  (6, .invokestatic 76, 3, 131, 3, 0, .null, []) ::
  (9, .ifCond .eq 22, 3, 31, 0, 0, .null, []) ::
  (12, .iload_n 2, 1, 0, 0, 0, .null, []) ::
  (13, .invokestatic 169, 3, 201, 1, 0, .null, []) ::
  (16, .ifCond .eq 15, 3, 31, 0, 0, .null, []) ::
  (19, .iload_n 3, 1, 0, 0, 0, .null, []) ::
  (20, .i2l, 1, 0, 0, 0, .null, []) ::
  (21, .lconst 0, 1, 0, 0, 0, .long 0, []) ::
  (22, .ldc2_w 161, 3, 0, 0, 0, .long 3, []) ::
  (25, .invokestatic 76, 3, 131, 3, 0, .null, []) ::
  (28, .ifCond .ne 5, 3, 33, 0, 0, .null, []) ::
  (31, .iconst (-1), 1, 0, 0, 0, .int (-1), []) ::
  (32, .ireturn, 1, 0, 0, 0, .null, []) ::
  (33, .aload_n 0, 1, 0, 0, 0, .null, []) ::
  (34, .getfield 7, 3, 11, 0, 2, .null, []) ::
  (37, .iconst 1, 1, 0, 0, 0, .int 1, []) ::
  (38, .iaload, 1, 0, 0, 0, .null, []) ::
  (39, .istore 5, 2, 0, 0, 0, .null, []) ::
  (41, .aload_n 0, 1, 0, 0, 0, .null, []) ::
  (42, .iload_n 2, 1, 0, 0, 0, .null, []) ::
  (43, .iload_n 3, 1, 0, 0, 0, .null, []) ::
  (44, .iload 4, 2, 0, 0, 0, .null, []) ::
  (46, .iload 5, 2, 0, 0, 0, .null, []) ::
  (48, .invokevirtual 172, 3, 205, 4, 13, .null, []) ::
  (51, .istore 6, 2, 0, 0, 0, .null, []) ::
  (53, .iload 6, 2, 0, 0, 0, .null, []) ::
  (55, .ifCond .ge 6, 3, 61, 0, 0, .null, []) ::
  (58, .iload 6, 2, 0, 0, 0, .null, []) ::
  (60, .ireturn, 1, 0, 0, 0, .null, []) ::
  (61, .iload 5, 2, 0, 0, 0, .null, []) ::
  (63, .ifCond .le 7, 3, 70, 0, 0, .null, []) ::
  (66, .iconst 1, 1, 0, 0, 0, .int 1, []) ::
  (67, .goto 4, 3, 71, 0, 0, .null, []) ::
  (70, .iconst 0, 1, 0, 0, 0, .int 0, []) ::
  (71, .istore 7, 2, 0, 0, 0, .null, []) ::
  (73, .iconst 0, 1, 0, 0, 0, .int 0, []) ::
  (74, .istore 8, 2, 0, 0, 0, .null, []) ::
  (76, .iload 8, 2, 0, 0, 0, .null, [(0, 0)]) ::
  (78, .iload 5, 2, 0, 0, 0, .null, []) ::
  (80, .if_icmp .ge 46, 3, 126, 0, 0, .null, []) ::
  (83, .iload 7, 2, 0, 0, 0, .null, []) ::
  (85, .ifCond .eq 32, 3, 117, 0, 0, .null, []) ::
  (88, .aload_n 0, 1, 0, 0, 0, .null, []) ::
  (89, .getfield 62, 3, 11, 25, 2, .null, []) ::
  (92, .bipush 24, 2, 0, 0, 0, .int 24, []) ::
  (94, .iload_n 2, 1, 0, 0, 0, .null, []) :: am_c_MD_keep_1
def am_c_MD_standing : List am_E := [(0, .iload_n 1, 1, 0, 0, 0, .null, []),
  (1, .i2l, 1, 0, 0, 0, .null, []),
  (2, .lconst 0, 1, 0, 0, 0, .long 0, []),
  (3, .aload_n 0, 1, 0, 0, 0, .null, []),
  (4, .getfield 7, 3, 11, 0, 2, .null, []),
  (7, .iconst 0, 1, 0, 0, 0, .int 0, []),
  (8, .iaload, 1, 0, 0, 0, .null, []),
  (9, .i2l, 1, 0, 0, 0, .null, []),
  (10, .invokestatic 76, 3, 131, 3, 0, .null, []),
  (13, .ifCond .ne 5, 3, 18, 0, 0, .null, []),
  (16, .iconst (-1), 1, 0, 0, 0, .int (-1), []),
  (17, .ireturn, 1, 0, 0, 0, .null, []),
  (18, .iconst 0, 1, 0, 0, 0, .int 0, []),
  (19, .istore_n 2, 1, 0, 0, 0, .null, []),
  (20, .iconst 0, 1, 0, 0, 0, .int 0, []),
  (21, .istore_n 3, 1, 0, 0, 0, .null, []),
  (22, .iload_n 3, 1, 0, 0, 0, .null, [(0, 0)]),
  (23, .aload_n 0, 1, 0, 0, 0, .null, []),
  (24, .invokevirtual 87, 3, 135, 0, 13, .null, []),
  (27, .if_icmp .gt 33, 3, 60, 0, 0, .null, []),
  (30, .iload_n 2, 1, 0, 0, 0, .null, []),
  (31, .iload_n 3, 1, 0, 0, 0, .null, []),
  (32, .invokestatic 73, 3, 134, 1, 0, .null, []),
  (35, .iload_n 1, 1, 0, 0, 0, .null, []),
  (36, .if_icmp .ne 15, 3, 51, 0, 0, .null, []),
  (39, .aload_n 0, 1, 0, 0, 0, .null, []),
  (40, .iload_n 3, 1, 0, 0, 0, .null, []),
  (41, .invokevirtual 95, 3, 138, 1, 13, .null, []),
  (44, .ifCond .eq 7, 3, 51, 0, 0, .null, []),
  (47, .iconst 1, 1, 0, 0, 0, .int 1, []),
  (48, .goto 4, 3, 52, 0, 0, .null, []),
  (51, .iconst 0, 1, 0, 0, 0, .int 0, []),
  (52, .iadd, 1, 0, 0, 0, .null, []),
  (53, .istore_n 2, 1, 0, 0, 0, .null, []),
  (54, .iinc 3 1, 3, 0, 0, 0, .int 1, []),
  (57, .goto (-35), 3, 22, 0, 0, .null, []),
  (60, .iload_n 2, 1, 0, 0, 0, .null, []),
  (61, .ireturn, 1, 0, 0, 0, .null, [])]
def am_c_MD_stands_1 : List am_E := [(91, .imul, 1, 0, 0, 0, .null, []),
  (92, .istore 6, 2, 0, 0, 0, .null, []),
  (94, .iinc 7 1, 3, 0, 0, 0, .int 1, []),
  (97, .goto (-37), 3, 60, 0, 0, .null, []),
  (100, .iload_n 3, 1, 0, 0, 0, .null, []),
  (101, .iload 6, 2, 0, 0, 0, .null, []),
  (103, .iadd, 1, 0, 0, 0, .null, []),
  (104, .istore_n 3, 1, 0, 0, 0, .null, []),
  (105, .iinc 5 1, 3, 0, 0, 0, .int 1, []),
  (108, .goto (-76), 3, 32, 0, 0, .null, []),
  (111, .iconst 0, 1, 0, 0, 0, .int 0, []),
  (112, .istore 5, 2, 0, 0, 0, .null, []),
  (114, .iload 5, 2, 0, 0, 0, .null, [(0, 0)]),
  (116, .aload_n 0, 1, 0, 0, 0, .null, []),
  (117, .getfield 7, 3, 11, 0, 2, .null, []),
  (120, .iconst 0, 1, 0, 0, 0, .int 0, []),
  (121, .iaload, 1, 0, 0, 0, .null, []),
  (122, .if_icmp .ge 16, 3, 138, 0, 0, .null, []),
  (125, .iload 4, 2, 0, 0, 0, .null, []),
  (127, .bipush 10, 2, 0, 0, 0, .int 10, []),
  (129, .imul, 1, 0, 0, 0, .null, []),
  (130, .istore 4, 2, 0, 0, 0, .null, []),
  (132, .iinc 5 1, 3, 0, 0, 0, .int 1, []),
  (135, .goto (-21), 3, 114, 0, 0, .null, []),
  (138, .aload_n 0, 1, 0, 0, 0, .null, []),
  (139, .iload_n 3, 1, 0, 0, 0, .null, []),
  (140, .iload 4, 2, 0, 0, 0, .null, []),
  (142, .invokevirtual 147, 3, 148, 2, 13, .null, []),
  (145, .iload_n 2, 1, 0, 0, 0, .null, []),
  (146, .ifCond .ne 10, 3, 156, 0, 0, .null, []),
  (149, .aload_n 0, 1, 0, 0, 0, .null, []),
  (150, .getfield 113, 3, 11, 1, 0, .null, []),
  (153, .goto 7, 3, 160, 0, 0, .null, []),
  (156, .aload_n 0, 1, 0, 0, 0, .null, []),
  (157, .getfield 116, 3, 11, 2, 0, .null, []),
  (160, .ireturn, 1, 0, 0, 0, .null, [])]
def am_c_MD_stands : List am_E := (0, .iload_n 1, 1, 0, 0, 0, .null, []) ::
  (1, .i2l, 1, 0, 0, 0, .null, []) ::
  (2, .lconst 0, 1, 0, 0, 0, .long 0, []) ::
  (3, .ldc2_w 183, 3, 0, 0, 0, .long 10, []) ::
  (6, .invokestatic 76, 3, 131, 3, 0, .null, []) ::
  (9, .ifCond .eq 13, 3, 22, 0, 0, .null, []) ::
  (12, .iload_n 2, 1, 0, 0, 0, .null, []) ::
  (13, .i2l, 1, 0, 0, 0, .null, []) ::
  (14, .lconst 0, 1, 0, 0, 0, .long 0, []) ::
  (15, .lconst 1, 1, 0, 0, 0, .long 1, []) ::
  (16, .invokestatic 76, 3, 131, 3, 0, .null, []) ::
  (19, .ifCond .ne 5, 3, 24, 0, 0, .null, []) ::
  (22, .iconst (-1), 1, 0, 0, 0, .int (-1), []) ::
  (23, .ireturn, 1, 0, 0, 0, .null, []) ::
  (24, .iconst 0, 1, 0, 0, 0, .int 0, []) ::
  (25, .istore_n 3, 1, 0, 0, 0, .null, []) ::
  (26, .iconst 1, 1, 0, 0, 0, .int 1, []) ::
  (27, .istore 4, 2, 0, 0, 0, .null, []) ::
  (29, .iconst 0, 1, 0, 0, 0, .int 0, []) ::
  (30, .istore 5, 2, 0, 0, 0, .null, []) ::
  (32, .iload 5, 2, 0, 0, 0, .null, [(0, 0)]) ::
  (34, .aload_n 0, 1, 0, 0, 0, .null, []) ::
  (35, .invokevirtual 87, 3, 135, 0, 13, .null, []) ::
  (38, .if_icmp .gt 73, 3, 111, 0, 0, .null, []) ::
  (41, .aload_n 0, 1, 0, 0, 0, .null, []) ::
  (42, .iload 5, 2, 0, 0, 0, .null, []) ::
  (44, .invokevirtual 95, 3, 138, 1, 13, .null, []) ::
  (47, .ifCond .eq 7, 3, 54, 0, 0, .null, []) ::
  (50, .iconst 1, 1, 0, 0, 0, .int 1, []) ::
  (51, .goto 4, 3, 55, 0, 0, .null, []) ::
  (54, .iconst 0, 1, 0, 0, 0, .int 0, []) ::
  (55, .istore 6, 2, 0, 0, 0, .null, []) ::
  (57, .iconst 0, 1, 0, 0, 0, .int 0, []) ::
  (58, .istore 7, 2, 0, 0, 0, .null, []) ::
  (60, .iload 7, 2, 0, 0, 0, .null, [(0, 0)]) ::
  (62, .aload_n 0, 1, 0, 0, 0, .null, []) ::
  (63, .getfield 7, 3, 11, 0, 2, .null, []) ::
  (66, .iconst 0, 1, 0, 0, 0, .int 0, []) ::
  (67, .iaload, 1, 0, 0, 0, .null, []) ::
  (68, .if_icmp .ge 32, 3, 100, 0, 0, .null, []) ::
  (71, .iload 6, 2, 0, 0, 0, .null, []) ::
  (73, .iload 5, 2, 0, 0, 0, .null, []) ::
  (75, .iload 7, 2, 0, 0, 0, .null, []) ::
  (77, .invokestatic 91, 3, 133, 2, 0, .null, []) ::
  (80, .ifCond .eq 10, 3, 90, 0, 0, .null, []) ::
  (83, .bipush 10, 2, 0, 0, 0, .int 10, []) ::
  (85, .iload_n 1, 1, 0, 0, 0, .null, []) ::
  (86, .isub, 1, 0, 0, 0, .null, []) ::
  (87, .goto 4, 3, 91, 0, 0, .null, []) ::
  (90, .iload_n 1, 1, 0, 0, 0, .null, []) :: am_c_MD_stands_1
def am_c_MD_isFree : List am_E := [(0, .aload_n 0, 1, 0, 0, 0, .null, []),
  (1, .iload_n 1, 1, 0, 0, 0, .null, []),
  (2, .invokevirtual 95, 3, 138, 1, 13, .null, []),
  (5, .ifCond .ne 7, 3, 12, 0, 0, .null, []),
  (8, .iconst 1, 1, 0, 0, 0, .int 1, []),
  (9, .goto 4, 3, 13, 0, 0, .null, []),
  (12, .iconst 0, 1, 0, 0, 0, .int 0, []),
  (13, .istore_n 2, 1, 0, 0, 0, .null, []),
  (14, .iconst 0, 1, 0, 0, 0, .int 0, []),
  (15, .istore_n 3, 1, 0, 0, 0, .null, []),
  (16, .iload_n 3, 1, 0, 0, 0, .null, [(0, 0)]),
  (17, .aload_n 0, 1, 0, 0, 0, .null, []),
  (18, .getfield 7, 3, 11, 0, 2, .null, []),
  (21, .iconst 1, 1, 0, 0, 0, .int 1, []),
  (22, .iaload, 1, 0, 0, 0, .null, []),
  (23, .if_icmp .ge 29, 3, 52, 0, 0, .null, []),
  (26, .iload_n 2, 1, 0, 0, 0, .null, []),
  (27, .ifCond .eq 17, 3, 44, 0, 0, .null, []),
  (30, .aload_n 0, 1, 0, 0, 0, .null, []),
  (31, .iload_n 3, 1, 0, 0, 0, .null, []),
  (32, .invokevirtual 69, 3, 136, 1, 13, .null, []),
  (35, .iload_n 1, 1, 0, 0, 0, .null, []),
  (36, .iand, 1, 0, 0, 0, .null, []),
  (37, .ifCond .eq 7, 3, 44, 0, 0, .null, []),
  (40, .iconst 1, 1, 0, 0, 0, .int 1, []),
  (41, .goto 4, 3, 45, 0, 0, .null, []),
  (44, .iconst 0, 1, 0, 0, 0, .int 0, []),
  (45, .istore_n 2, 1, 0, 0, 0, .null, []),
  (46, .iinc 3 1, 3, 0, 0, 0, .int 1, []),
  (49, .goto (-33), 3, 16, 0, 0, .null, []),
  (52, .iload_n 2, 1, 0, 0, 0, .null, []),
  (53, .ireturn, 1, 0, 0, 0, .null, [])]
def am_c_MD_free : List am_E := [(0, .iconst 0, 1, 0, 0, 0, .int 0, []),
  (1, .istore_n 2, 1, 0, 0, 0, .null, []),
  (2, .bipush (-4), 2, 0, 0, 0, .int (-4), []),
  (4, .istore_n 3, 1, 0, 0, 0, .null, []),
  (5, .aload_n 0, 1, 0, 0, 0, .null, []),
  (6, .invokevirtual 87, 3, 135, 0, 13, .null, []),
  (9, .istore 4, 2, 0, 0, 0, .null, []),
  (11, .iload 4, 2, 0, 0, 0, .null, [(0, 0)]),
  (13, .ifCond .lt 42, 3, 55, 0, 0, .null, []),
  (16, .iload_n 2, 1, 0, 0, 0, .null, []),
  (17, .aload_n 0, 1, 0, 0, 0, .null, []),
  (18, .iload 4, 2, 0, 0, 0, .null, []),
  (20, .invokevirtual 185, 3, 168, 1, 13, .null, []),
  (23, .ifCond .eq 7, 3, 30, 0, 0, .null, []),
  (26, .iconst 1, 1, 0, 0, 0, .int 1, []),
  (27, .goto 4, 3, 31, 0, 0, .null, []),
  (30, .iconst 0, 1, 0, 0, 0, .int 0, []),
  (31, .iadd, 1, 0, 0, 0, .null, []),
  (32, .istore_n 2, 1, 0, 0, 0, .null, []),
  (33, .aload_n 0, 1, 0, 0, 0, .null, []),
  (34, .iload 4, 2, 0, 0, 0, .null, []),
  (36, .invokevirtual 185, 3, 168, 1, 13, .null, []),
  (39, .ifCond .eq 8, 3, 47, 0, 0, .null, []),
  (42, .iload 4, 2, 0, 0, 0, .null, []),
  (44, .goto 4, 3, 48, 0, 0, .null, []),
  (47, .iload_n 3, 1, 0, 0, 0, .null, []),
  (48, .istore_n 3, 1, 0, 0, 0, .null, []),
  (49, .iinc 4 (-1), 3, 0, 0, 0, .int (-1), []),
  (52, .goto (-41), 3, 11, 0, 0, .null, []),
  (55, .iload_n 1, 1, 0, 0, 0, .null, []),
  (56, .ifCond .ne 7, 3, 63, 0, 0, .null, []),
  (59, .iload_n 2, 1, 0, 0, 0, .null, []),
  (60, .goto 13, 3, 73, 0, 0, .null, []),
  (63, .iload_n 1, 1, 0, 0, 0, .null, []),
  (64, .iconst 1, 1, 0, 0, 0, .int 1, []),
  (65, .if_icmp .ne 7, 3, 72, 0, 0, .null, []),
  (68, .iload_n 3, 1, 0, 0, 0, .null, []),
  (69, .goto 4, 3, 73, 0, 0, .null, []),
  (72, .iconst (-1), 1, 0, 0, 0, .int (-1), []),
  (73, .ireturn, 1, 0, 0, 0, .null, [])]
def am_c_MD_power : List am_E := [(0, .iconst 1, 1, 0, 0, 0, .int 1, []),
  (1, .istore_n 1, 1, 0, 0, 0, .null, []),
  (2, .iconst 0, 1, 0, 0, 0, .int 0, []),
  (3, .istore_n 2, 1, 0, 0, 0, .null, []),
  (4, .iload_n 2, 1, 0, 0, 0, .null, [(0, 0)]),
  (5, .iload_n 0, 1, 0, 0, 0, .null, []),
  (6, .if_icmp .ge 13, 3, 19, 0, 0, .null, []),
  (9, .iload_n 1, 1, 0, 0, 0, .null, []),
  (10, .iconst 3, 1, 0, 0, 0, .int 3, []),
  (11, .imul, 1, 0, 0, 0, .null, []),
  (12, .istore_n 1, 1, 0, 0, 0, .null, []),
  (13, .iinc 2 1, 3, 0, 0, 0, .int 1, []),
  (16, .goto (-12), 3, 4, 0, 0, .null, []),
  (19, .iload_n 1, 1, 0, 0, 0, .null, []),
  (20, .ireturn, 1, 0, 0, 0, .null, [])]
def am_c_MD_digit : List am_E := [(0, .iload_n 0, 1, 0, 0, 0, .null, []),
  (1, .iload_n 1, 1, 0, 0, 0, .null, []),
  (2, .invokestatic 188, 3, 170, 1, 0, .null, []),
  (5, .idiv, 1, 0, 0, 0, .null, []),
  (6, .iconst 3, 1, 0, 0, 0, .int 3, []),
  (7, .irem, 1, 0, 0, 0, .null, []),
  (8, .ireturn, 1, 0, 0, 0, .null, [])]
def am_c_MD_those : List am_E := [(0, .iconst 0, 1, 0, 0, 0, .int 0, []),
  (1, .istore_n 3, 1, 0, 0, 0, .null, []),
  (2, .iconst 0, 1, 0, 0, 0, .int 0, []),
  (3, .istore 4, 2, 0, 0, 0, .null, []),
  (5, .iload 4, 2, 0, 0, 0, .null, [(0, 0)]),
  (7, .aload_n 0, 1, 0, 0, 0, .null, []),
  (8, .getfield 7, 3, 11, 0, 2, .null, []),
  (11, .iconst 0, 1, 0, 0, 0, .int 0, []),
  (12, .iaload, 1, 0, 0, 0, .null, []),
  (13, .if_icmp .ge 30, 3, 43, 0, 0, .null, []),
  (16, .iload_n 3, 1, 0, 0, 0, .null, []),
  (17, .iload_n 1, 1, 0, 0, 0, .null, []),
  (18, .iload 4, 2, 0, 0, 0, .null, []),
  (20, .invokestatic 191, 3, 171, 2, 0, .null, []),
  (23, .iload_n 2, 1, 0, 0, 0, .null, []),
  (24, .if_icmp .ne 10, 3, 34, 0, 0, .null, []),
  (27, .iconst 1, 1, 0, 0, 0, .int 1, []),
  (28, .iload 4, 2, 0, 0, 0, .null, []),
  (30, .ishl, 1, 0, 0, 0, .null, []),
  (31, .goto 4, 3, 35, 0, 0, .null, []),
  (34, .iconst 0, 1, 0, 0, 0, .int 0, []),
  (35, .ior, 1, 0, 0, 0, .null, []),
  (36, .istore_n 3, 1, 0, 0, 0, .null, []),
  (37, .iinc 4 1, 3, 0, 0, 0, .int 1, []),
  (40, .goto (-35), 3, 5, 0, 0, .null, []),
  (43, .iload_n 3, 1, 0, 0, 0, .null, []),
  (44, .ireturn, 1, 0, 0, 0, .null, [])]
def am_c_MD_probesOf_1 : List am_E := [(82, .iaload, 1, 0, 0, 0, .null, []),
  (83, .istore 4, 2, 0, 0, 0, .null, []),
  (85, .aload_n 0, 1, 0, 0, 0, .null, []),
  (86, .getfield 28, 3, 11, 8, 2, .null, []),
  (89, .iload_n 1, 1, 0, 0, 0, .null, []),
  (90, .iconst 2, 1, 0, 0, 0, .int 2, []),
  (91, .iload_n 3, 1, 0, 0, 0, .null, []),
  (92, .invokestatic 188, 3, 170, 1, 0, .null, []),
  (95, .imul, 1, 0, 0, 0, .null, []),
  (96, .iadd, 1, 0, 0, 0, .null, []),
  (97, .iaload, 1, 0, 0, 0, .null, []),
  (98, .istore 5, 2, 0, 0, 0, .null, []),
  (100, .iconst 1, 1, 0, 0, 0, .int 1, []),
  (101, .iload 4, 2, 0, 0, 0, .null, []),
  (103, .iload 5, 2, 0, 0, 0, .null, []),
  (105, .if_icmp .le 8, 3, 113, 0, 0, .null, []),
  (108, .iload 4, 2, 0, 0, 0, .null, []),
  (110, .goto 5, 3, 115, 0, 0, .null, []),
  (113, .iload 5, 2, 0, 0, 0, .null, []),
  (115, .iadd, 1, 0, 0, 0, .null, []),
  (116, .istore 6, 2, 0, 0, 0, .null, []),
  (118, .aload_n 0, 1, 0, 0, 0, .null, []),
  (119, .getfield 31, 3, 11, 9, 2, .null, []),
  (122, .iload_n 1, 1, 0, 0, 0, .null, []),
  (123, .iload 6, 2, 0, 0, 0, .null, []),
  (125, .iload_n 2, 1, 0, 0, 0, .null, []),
  (126, .if_icmp .ge 7, 3, 133, 0, 0, .null, []),
  (129, .iload_n 3, 1, 0, 0, 0, .null, []),
  (130, .goto 9, 3, 139, 0, 0, .null, []),
  (133, .aload_n 0, 1, 0, 0, 0, .null, []),
  (134, .getfield 31, 3, 11, 9, 2, .null, []),
  (137, .iload_n 1, 1, 0, 0, 0, .null, []),
  (138, .iaload, 1, 0, 0, 0, .null, []),
  (139, .iastore, 1, 0, 0, 0, .null, []),
  (140, .iload 6, 2, 0, 0, 0, .null, []),
  (142, .iload_n 2, 1, 0, 0, 0, .null, []),
  (143, .if_icmp .ge 8, 3, 151, 0, 0, .null, []),
  (146, .iload 6, 2, 0, 0, 0, .null, []),
  (148, .goto 4, 3, 152, 0, 0, .null, []),
  (151, .iload_n 2, 1, 0, 0, 0, .null, []),
  (152, .istore_n 2, 1, 0, 0, 0, .null, []),
  (153, .iinc 3 1, 3, 0, 0, 0, .int 1, []),
  (156, .goto (-102), 3, 54, 0, 0, .null, []),
  (159, .aload_n 0, 1, 0, 0, 0, .null, []),
  (160, .getfield 28, 3, 11, 8, 2, .null, []),
  (163, .iload_n 1, 1, 0, 0, 0, .null, []),
  (164, .iload_n 2, 1, 0, 0, 0, .null, []),
  (165, .iastore, 1, 0, 0, 0, .null, []),
  (166, .return_, 1, 0, 0, 0, .null, [])]
def am_c_MD_probesOf : List am_E := (0, .aload_n 0, 1, 0, 0, 0, .null, []) ::
  (1, .getfield 28, 3, 11, 8, 2, .null, []) ::
  (4, .iload_n 1, 1, 0, 0, 0, .null, []) ::
  (5, .iconst 0, 1, 0, 0, 0, .int 0, []) ::
  (6, .iastore, 1, 0, 0, 0, .null, []) ::
  (7, .aload_n 0, 1, 0, 0, 0, .null, []) ::
  (8, .getfield 31, 3, 11, 9, 2, .null, []) ::
  (11, .iload_n 1, 1, 0, 0, 0, .null, []) ::
  (12, .bipush (-4), 2, 0, 0, 0, .int (-4), []) ::
  (14, .iastore, 1, 0, 0, 0, .null, []) ::
  (15, .aload_n 0, 1, 0, 0, 0, .null, []) ::
  (16, .aload_n 0, 1, 0, 0, 0, .null, []) ::
  (17, .iload_n 1, 1, 0, 0, 0, .null, []) ::
  (18, .iconst 1, 1, 0, 0, 0, .int 1, []) ::
  (19, .invokevirtual 194, 3, 172, 2, 13, .null, []) ::
  (22, .invokevirtual 95, 3, 138, 1, 13, .null, []) ::
  (25, .ifCond .ne 23, 3, 48, 0, 0, .null, []) ::
  (28, .aload_n 0, 1, 0, 0, 0, .null, []) ::
  (29, .aload_n 0, 1, 0, 0, 0, .null, []) ::
  (30, .invokevirtual 87, 3, 135, 0, 13, .null, []) ::
  (33, .aload_n 0, 1, 0, 0, 0, .null, []) ::
  (34, .iload_n 1, 1, 0, 0, 0, .null, []) ::
  (35, .iconst 2, 1, 0, 0, 0, .int 2, []) ::
  (36, .invokevirtual 194, 3, 172, 2, 13, .null, []) ::
  (39, .iconst (-1), 1, 0, 0, 0, .int (-1), []) ::
  (40, .ixor, 1, 0, 0, 0, .null, []) ::
  (41, .iand, 1, 0, 0, 0, .null, []) ::
  (42, .invokevirtual 95, 3, 138, 1, 13, .null, []) ::
  (45, .ifCond .ne 4, 3, 49, 0, 0, .null, []) ::
  (48, .return_, 1, 0, 0, 0, .null, []) ::
  (49, .bipush 99, 2, 0, 0, 0, .int 99, []) ::
  (51, .istore_n 2, 1, 0, 0, 0, .null, []) ::
  (52, .iconst 0, 1, 0, 0, 0, .int 0, []) ::
  (53, .istore_n 3, 1, 0, 0, 0, .null, []) ::
  (54, .iload_n 3, 1, 0, 0, 0, .null, [(0, 0)]) ::
  (55, .aload_n 0, 1, 0, 0, 0, .null, []) ::
  (56, .getfield 7, 3, 11, 0, 2, .null, []) ::
  (59, .iconst 0, 1, 0, 0, 0, .int 0, []) ::
  (60, .iaload, 1, 0, 0, 0, .null, []) ::
  (61, .if_icmp .ge 98, 3, 159, 0, 0, .null, []) ::
  (64, .iload_n 1, 1, 0, 0, 0, .null, []) ::
  (65, .iload_n 3, 1, 0, 0, 0, .null, []) ::
  (66, .invokestatic 191, 3, 171, 2, 0, .null, []) ::
  (69, .ifCond .ne 84, 3, 153, 0, 0, .null, []) ::
  (72, .aload_n 0, 1, 0, 0, 0, .null, []) ::
  (73, .getfield 28, 3, 11, 8, 2, .null, []) ::
  (76, .iload_n 1, 1, 0, 0, 0, .null, []) ::
  (77, .iload_n 3, 1, 0, 0, 0, .null, []) ::
  (78, .invokestatic 188, 3, 170, 1, 0, .null, []) ::
  (81, .iadd, 1, 0, 0, 0, .null, []) :: am_c_MD_probesOf_1
def am_c_MD_probe_1 : List am_E := [(91, .iconst 2, 1, 0, 0, 0, .int 2, []),
  (92, .iload 5, 2, 0, 0, 0, .null, []),
  (94, .invokestatic 188, 3, 170, 1, 0, .null, []),
  (97, .imul, 1, 0, 0, 0, .null, []),
  (98, .goto 4, 3, 102, 0, 0, .null, []),
  (101, .iconst 0, 1, 0, 0, 0, .int 0, []),
  (102, .iadd, 1, 0, 0, 0, .null, []),
  (103, .istore 4, 2, 0, 0, 0, .null, []),
  (105, .iinc 5 1, 3, 0, 0, 0, .int 1, []),
  (108, .goto (-56), 3, 52, 0, 0, .null, []),
  (111, .aload_n 0, 1, 0, 0, 0, .null, []),
  (112, .getfield 7, 3, 11, 0, 2, .null, []),
  (115, .iconst 0, 1, 0, 0, 0, .int 0, []),
  (116, .iaload, 1, 0, 0, 0, .null, []),
  (117, .invokestatic 188, 3, 170, 1, 0, .null, []),
  (120, .iconst 1, 1, 0, 0, 0, .int 1, []),
  (121, .isub, 1, 0, 0, 0, .null, []),
  (122, .istore 5, 2, 0, 0, 0, .null, []),
  (124, .iload 5, 2, 0, 0, 0, .null, [(0, 0)]),
  (126, .iload 4, 2, 0, 0, 0, .null, []),
  (128, .if_icmp .lt 15, 3, 143, 0, 0, .null, []),
  (131, .aload_n 0, 1, 0, 0, 0, .null, []),
  (132, .iload 5, 2, 0, 0, 0, .null, []),
  (134, .invokevirtual 197, 3, 173, 1, 13, .null, []),
  (137, .iinc 5 (-1), 3, 0, 0, 0, .int (-1), []),
  (140, .goto (-16), 3, 124, 0, 0, .null, []),
  (143, .iload_n 3, 1, 0, 0, 0, .null, []),
  (144, .ifCond .ne 13, 3, 157, 0, 0, .null, []),
  (147, .aload_n 0, 1, 0, 0, 0, .null, []),
  (148, .getfield 28, 3, 11, 8, 2, .null, []),
  (151, .iload 4, 2, 0, 0, 0, .null, []),
  (153, .iaload, 1, 0, 0, 0, .null, []),
  (154, .goto 10, 3, 164, 0, 0, .null, []),
  (157, .aload_n 0, 1, 0, 0, 0, .null, []),
  (158, .getfield 31, 3, 11, 9, 2, .null, []),
  (161, .iload 4, 2, 0, 0, 0, .null, []),
  (163, .iaload, 1, 0, 0, 0, .null, []),
  (164, .ireturn, 1, 0, 0, 0, .null, [])]
def am_c_MD_probe : List am_E := (0, .iload_n 1, 1, 0, 0, 0, .null, []) ::
  (1, .i2l, 1, 0, 0, 0, .null, []) ::
  (2, .lconst 0, 1, 0, 0, 0, .long 0, []) ::
  (3, .aload_n 0, 1, 0, 0, 0, .null, []) ::
  (4, .invokevirtual 87, 3, 135, 0, 13, .null, []) ::
  (7, .i2l, 1, 0, 0, 0, .null, []) ::
  (8, .invokestatic 76, 3, 131, 3, 0, .null, []) ::
  (11, .ifCond .eq 33, 3, 44, 0, 0, .null, []) ::
  (14, .iload_n 2, 1, 0, 0, 0, .null, []) ::
  (15, .i2l, 1, 0, 0, 0, .null, []) ::
  (16, .lconst 0, 1, 0, 0, 0, .long 0, []) ::
  (17, .aload_n 0, 1, 0, 0, 0, .null, []) ::
  (18, .invokevirtual 87, 3, 135, 0, 13, .null, []) ::
  (21, .i2l, 1, 0, 0, 0, .null, []) ::
  (22, .invokestatic 76, 3, 131, 3, 0, .null, []) ::
  (25, .ifCond .eq 19, 3, 44, 0, 0, .null, []) ::
  (28, .iload_n 1, 1, 0, 0, 0, .null, []) ::
  (29, .iload_n 2, 1, 0, 0, 0, .null, []) ::
  (30, .iand, 1, 0, 0, 0, .null, []) ::
  (31, .ifCond .ne 13, 3, 44, 0, 0, .null, []) ::
  (34, .iload_n 3, 1, 0, 0, 0, .null, []) ::
  (35, .i2l, 1, 0, 0, 0, .null, []) ::
  (36, .lconst 0, 1, 0, 0, 0, .long 0, []) ::
  (37, .lconst 1, 1, 0, 0, 0, .long 1, []) ::
  (38, .invokestatic 76, 3, 131, 3, 0, .null, []) ::
  (41, .ifCond .ne 5, 3, 46, 0, 0, .null, []) ::
  (44, .iconst (-1), 1, 0, 0, 0, .int (-1), []) ::
  (45, .ireturn, 1, 0, 0, 0, .null, []) ::
  (46, .iconst 0, 1, 0, 0, 0, .int 0, []) ::
  (47, .istore 4, 2, 0, 0, 0, .null, []) ::
  (49, .iconst 0, 1, 0, 0, 0, .int 0, []) ::
  (50, .istore 5, 2, 0, 0, 0, .null, []) ::
  (52, .iload 5, 2, 0, 0, 0, .null, [(0, 0)]) ::
  (54, .aload_n 0, 1, 0, 0, 0, .null, []) ::
  (55, .getfield 7, 3, 11, 0, 2, .null, []) ::
  (58, .iconst 0, 1, 0, 0, 0, .int 0, []) ::
  (59, .iaload, 1, 0, 0, 0, .null, []) ::
  (60, .if_icmp .ge 51, 3, 111, 0, 0, .null, []) ::
  (63, .iload 4, 2, 0, 0, 0, .null, []) ::
  (65, .iload_n 1, 1, 0, 0, 0, .null, []) ::
  (66, .iload 5, 2, 0, 0, 0, .null, []) ::
  (68, .invokestatic 91, 3, 133, 2, 0, .null, []) ::
  (71, .ifCond .eq 11, 3, 82, 0, 0, .null, []) ::
  (74, .iload 5, 2, 0, 0, 0, .null, []) ::
  (76, .invokestatic 188, 3, 170, 1, 0, .null, []) ::
  (79, .goto 23, 3, 102, 0, 0, .null, []) ::
  (82, .iload_n 2, 1, 0, 0, 0, .null, []) ::
  (83, .iload 5, 2, 0, 0, 0, .null, []) ::
  (85, .invokestatic 91, 3, 133, 2, 0, .null, []) ::
  (88, .ifCond .eq 13, 3, 101, 0, 0, .null, []) :: am_c_MD_probe_1
def am_c_MD_add : List am_E := [(0, .iload_n 1, 1, 0, 0, 0, .null, []),
  (1, .i2l, 1, 0, 0, 0, .null, []),
  (2, .lconst 1, 1, 0, 0, 0, .long 1, []),
  (3, .aload_n 0, 1, 0, 0, 0, .null, []),
  (4, .invokevirtual 87, 3, 135, 0, 13, .null, []),
  (7, .i2l, 1, 0, 0, 0, .null, []),
  (8, .invokestatic 76, 3, 131, 3, 0, .null, []),
  (11, .ifCond .ne 5, 3, 16, 0, 0, .null, []),
  (14, .iconst (-1), 1, 0, 0, 0, .int (-1), []),
  (15, .ireturn, 1, 0, 0, 0, .null, []),
  (16, .aload_n 0, 1, 0, 0, 0, .null, []),
  (17, .iload_n 1, 1, 0, 0, 0, .null, []),
  (18, .invokevirtual 200, 3, 137, 1, 13, .null, []),
  (21, .ifCond .lt 6, 3, 27, 0, 0, .null, []),
  (24, .bipush (-2), 2, 0, 0, 0, .int (-2), []),
  (26, .ireturn, 1, 0, 0, 0, .null, []),
  (27, .aload_n 0, 1, 0, 0, 0, .null, []),
  (28, .getfield 7, 3, 11, 0, 2, .null, []),
  (31, .iconst 1, 1, 0, 0, 0, .int 1, []),
  (32, .iaload, 1, 0, 0, 0, .null, []),
  (33, .bipush 12, 2, 0, 0, 0, .int 12, []),
  (35, .if_icmp .ne 6, 3, 41, 0, 0, .null, []),
  (38, .bipush (-3), 2, 0, 0, 0, .int (-3), []),
  (40, .ireturn, 1, 0, 0, 0, .null, []),
  (41, .aload_n 0, 1, 0, 0, 0, .null, []),
  (42, .invokevirtual 176, 3, 197, 0, 13, .null, []),
  (45, .aload_n 0, 1, 0, 0, 0, .null, []),
  (46, .iload_n 1, 1, 0, 0, 0, .null, []),
  (47, .invokevirtual 203, 3, 176, 1, 13, .null, []),
  (50, .aload_n 0, 1, 0, 0, 0, .null, []),
  (51, .getfield 7, 3, 11, 0, 2, .null, []),
  (54, .iconst 1, 1, 0, 0, 0, .int 1, []),
  (55, .iaload, 1, 0, 0, 0, .null, []),
  (56, .ireturn, 1, 0, 0, 0, .null, [])]
def am_c_MD_comes : List am_E := [(0, .aload_n 0, 1, 0, 0, 0, .null, []),
  (1, .getfield 7, 3, 11, 0, 2, .null, []),
  (4, .iconst 4, 1, 0, 0, 0, .int 4, []),
  (5, .aload_n 0, 1, 0, 0, 0, .null, []),
  (6, .getfield 7, 3, 11, 0, 2, .null, []),
  (9, .iconst 1, 1, 0, 0, 0, .int 1, []),
  (10, .iaload, 1, 0, 0, 0, .null, []),
  (11, .iadd, 1, 0, 0, 0, .null, []),
  (12, .iload_n 1, 1, 0, 0, 0, .null, []),
  (13, .iastore, 1, 0, 0, 0, .null, []),
  (14, .aload_n 0, 1, 0, 0, 0, .null, []),
  (15, .getfield 7, 3, 11, 0, 2, .null, []),
  (18, .iconst 1, 1, 0, 0, 0, .int 1, []),
  (19, .dup2, 1, 0, 0, 0, .null, []),
  (20, .iaload, 1, 0, 0, 0, .null, []),
  (21, .iconst 1, 1, 0, 0, 0, .int 1, []),
  (22, .iadd, 1, 0, 0, 0, .null, []),
  (23, .iastore, 1, 0, 0, 0, .null, []),
  (24, .return_, 1, 0, 0, 0, .null, [])]
def am_c_MD_goes : List am_E := [(0, .aload_n 0, 1, 0, 0, 0, .null, []),
  (1, .getfield 7, 3, 11, 0, 2, .null, []),
  (4, .iconst 1, 1, 0, 0, 0, .int 1, []),
  (5, .dup2, 1, 0, 0, 0, .null, []),
  (6, .iaload, 1, 0, 0, 0, .null, []),
  (7, .iconst 1, 1, 0, 0, 0, .int 1, []),
  (8, .isub, 1, 0, 0, 0, .null, []),
  (9, .iastore, 1, 0, 0, 0, .null, []),
  (10, .iload_n 1, 1, 0, 0, 0, .null, []),
  (11, .istore_n 2, 1, 0, 0, 0, .null, []),
  (12, .iload_n 2, 1, 0, 0, 0, .null, [(0, 0)]),
  (13, .aload_n 0, 1, 0, 0, 0, .null, []),
  (14, .getfield 7, 3, 11, 0, 2, .null, []),
  (17, .iconst 1, 1, 0, 0, 0, .int 1, []),
  (18, .iaload, 1, 0, 0, 0, .null, []),
  (19, .if_icmp .ge 27, 3, 46, 0, 0, .null, []),
  (22, .aload_n 0, 1, 0, 0, 0, .null, []),
  (23, .getfield 7, 3, 11, 0, 2, .null, []),
  (26, .iconst 4, 1, 0, 0, 0, .int 4, []),
  (27, .iload_n 2, 1, 0, 0, 0, .null, []),
  (28, .iadd, 1, 0, 0, 0, .null, []),
  (29, .aload_n 0, 1, 0, 0, 0, .null, []),
  (30, .getfield 7, 3, 11, 0, 2, .null, []),
  (33, .iconst 4, 1, 0, 0, 0, .int 4, []),
  (34, .iload_n 2, 1, 0, 0, 0, .null, []),
  (35, .iadd, 1, 0, 0, 0, .null, []),
  (36, .iconst 1, 1, 0, 0, 0, .int 1, []),
  (37, .iadd, 1, 0, 0, 0, .null, []),
  (38, .iaload, 1, 0, 0, 0, .null, []),
  (39, .iastore, 1, 0, 0, 0, .null, []),
  (40, .iinc 2 1, 3, 0, 0, 0, .int 1, []),
  (43, .goto (-31), 3, 12, 0, 0, .null, []),
  (46, .return_, 1, 0, 0, 0, .null, [])]
def am_c_MD_out : List am_E := [(0, .iload_n 1, 1, 0, 0, 0, .null, []),
  (1, .i2l, 1, 0, 0, 0, .null, []),
  (2, .lconst 1, 1, 0, 0, 0, .long 1, []),
  (3, .aload_n 0, 1, 0, 0, 0, .null, []),
  (4, .invokevirtual 87, 3, 135, 0, 13, .null, []),
  (7, .i2l, 1, 0, 0, 0, .null, []),
  (8, .invokestatic 76, 3, 131, 3, 0, .null, []),
  (11, .ifCond .ne 5, 3, 16, 0, 0, .null, []),
  (14, .iconst (-1), 1, 0, 0, 0, .int (-1), []),
  (15, .ireturn, 1, 0, 0, 0, .null, []),
  (16, .aload_n 0, 1, 0, 0, 0, .null, []),
  (17, .iload_n 1, 1, 0, 0, 0, .null, []),
  (18, .invokevirtual 200, 3, 137, 1, 13, .null, []),
  (21, .istore_n 2, 1, 0, 0, 0, .null, []),
  (22, .iload_n 2, 1, 0, 0, 0, .null, []),
  (23, .ifCond .ge 6, 3, 29, 0, 0, .null, []),
  (26, .bipush (-4), 2, 0, 0, 0, .int (-4), []),
  (28, .ireturn, 1, 0, 0, 0, .null, []),
  (29, .aload_n 0, 1, 0, 0, 0, .null, []),
  (30, .invokevirtual 176, 3, 197, 0, 13, .null, []),
  (33, .aload_n 0, 1, 0, 0, 0, .null, []),
  (34, .iload_n 2, 1, 0, 0, 0, .null, []),
  (35, .invokevirtual 206, 3, 177, 1, 13, .null, []),
  (38, .aload_n 0, 1, 0, 0, 0, .null, []),
  (39, .getfield 7, 3, 11, 0, 2, .null, []),
  (42, .iconst 1, 1, 0, 0, 0, .int 1, []),
  (43, .iaload, 1, 0, 0, 0, .null, []),
  (44, .ireturn, 1, 0, 0, 0, .null, [])]
def am_c_MD_size : List am_E := [(0, .iload_n 1, 1, 0, 0, 0, .null, []),
  (1, .i2l, 1, 0, 0, 0, .null, []),
  (2, .lconst 1, 1, 0, 0, 0, .long 1, []),
  (3, .ldc2_w 209, 3, 0, 0, 0, .long 7, []),
  (6, .invokestatic 76, 3, 131, 3, 0, .null, []),
  (9, .ifCond .ne 5, 3, 14, 0, 0, .null, []),
  (12, .iconst (-1), 1, 0, 0, 0, .int (-1), []),
  (13, .ireturn, 1, 0, 0, 0, .null, []),
  (14, .aload_n 0, 1, 0, 0, 0, .null, []),
  (15, .getfield 7, 3, 11, 0, 2, .null, []),
  (18, .iconst 0, 1, 0, 0, 0, .int 0, []),
  (19, .iaload, 1, 0, 0, 0, .null, []),
  (20, .istore_n 2, 1, 0, 0, 0, .null, []),
  (21, .iconst 0, 1, 0, 0, 0, .int 0, []),
  (22, .istore_n 3, 1, 0, 0, 0, .null, []),
  (23, .iconst 0, 1, 0, 0, 0, .int 0, []),
  (24, .istore 4, 2, 0, 0, 0, .null, []),
  (26, .iload 4, 2, 0, 0, 0, .null, [(0, 0)]),
  (28, .aload_n 0, 1, 0, 0, 0, .null, []),
  (29, .getfield 7, 3, 11, 0, 2, .null, []),
  (32, .iconst 1, 1, 0, 0, 0, .int 1, []),
  (33, .iaload, 1, 0, 0, 0, .null, []),
  (34, .if_icmp .ge 18, 3, 52, 0, 0, .null, []),
  (37, .iload_n 3, 1, 0, 0, 0, .null, []),
  (38, .aload_n 0, 1, 0, 0, 0, .null, []),
  (39, .iload 4, 2, 0, 0, 0, .null, []),
  (41, .invokevirtual 69, 3, 136, 1, 13, .null, []),
  (44, .ior, 1, 0, 0, 0, .null, []),
  (45, .istore_n 3, 1, 0, 0, 0, .null, []),
  (46, .iinc 4 1, 3, 0, 0, 0, .int 1, []),
  (49, .goto (-23), 3, 26, 0, 0, .null, []),
  (52, .iload_n 1, 1, 0, 0, 0, .null, []),
  (53, .iload_n 2, 1, 0, 0, 0, .null, []),
  (54, .if_icmp .eq 10, 3, 64, 0, 0, .null, []),
  (57, .iload_n 3, 1, 0, 0, 0, .null, []),
  (58, .iconst 1, 1, 0, 0, 0, .int 1, []),
  (59, .iload_n 1, 1, 0, 0, 0, .null, []),
  (60, .ishl, 1, 0, 0, 0, .null, []),
  (61, .if_icmp .lt 6, 3, 67, 0, 0, .null, []),
  (64, .bipush (-2), 2, 0, 0, 0, .int (-2), []),
  (66, .ireturn, 1, 0, 0, 0, .null, []),
  (67, .aload_n 0, 1, 0, 0, 0, .null, []),
  (68, .invokevirtual 176, 3, 197, 0, 13, .null, []),
  (71, .aload_n 0, 1, 0, 0, 0, .null, []),
  (72, .getfield 7, 3, 11, 0, 2, .null, []),
  (75, .iconst 0, 1, 0, 0, 0, .int 0, []),
  (76, .iload_n 1, 1, 0, 0, 0, .null, []),
  (77, .iastore, 1, 0, 0, 0, .null, []),
  (78, .iload_n 2, 1, 0, 0, 0, .null, []),
  (79, .ireturn, 1, 0, 0, 0, .null, [])]
def am_c_MD_drift_1 : List am_E := [(82, .iload 6, 2, 0, 0, 0, .null, []),
  (84, .invokevirtual 206, 3, 177, 1, 13, .null, []),
  (87, .goto 20, 3, 107, 0, 0, .null, []),
  (90, .aload_n 0, 1, 0, 0, 0, .null, []),
  (91, .getfield 7, 3, 11, 0, 2, .null, []),
  (94, .iconst 1, 1, 0, 0, 0, .int 1, []),
  (95, .iaload, 1, 0, 0, 0, .null, []),
  (96, .bipush 12, 2, 0, 0, 0, .int 12, []),
  (98, .if_icmp .ge 9, 3, 107, 0, 0, .null, []),
  (101, .aload_n 0, 1, 0, 0, 0, .null, []),
  (102, .iload 5, 2, 0, 0, 0, .null, []),
  (104, .invokevirtual 203, 3, 176, 1, 13, .null, []),
  (107, .iinc 2 1, 3, 0, 0, 0, .int 1, []),
  (110, .goto (-94), 3, 16, 0, 0, .null, []),
  (113, .aload_n 0, 1, 0, 0, 0, .null, []),
  (114, .getfield 7, 3, 11, 0, 2, .null, []),
  (117, .iconst 1, 1, 0, 0, 0, .int 1, []),
  (118, .iaload, 1, 0, 0, 0, .null, []),
  (119, .ireturn, 1, 0, 0, 0, .null, [])]
def am_c_MD_drift : List am_E := (0, .iload_n 1, 1, 0, 0, 0, .null, []) ::
  (1, .i2l, 1, 0, 0, 0, .null, []) ::
  (2, .lconst 1, 1, 0, 0, 0, .long 1, []) ::
  (3, .ldc2_w 211, 3, 0, 0, 0, .long 40, []) ::
  (6, .invokestatic 76, 3, 131, 3, 0, .null, []) ::
  (9, .ifCond .ne 5, 3, 14, 0, 0, .null, []) ::
  (12, .iconst (-1), 1, 0, 0, 0, .int (-1), []) ::
  (13, .ireturn, 1, 0, 0, 0, .null, []) ::
  (14, .iconst 0, 1, 0, 0, 0, .int 0, []) ::
  (15, .istore_n 2, 1, 0, 0, 0, .null, []) ::
  (16, .iload_n 2, 1, 0, 0, 0, .null, [(0, 0)]) ::
  (17, .iload_n 1, 1, 0, 0, 0, .null, []) ::
  (18, .if_icmp .ge 95, 3, 113, 0, 0, .null, []) ::
  (21, .aload_n 0, 1, 0, 0, 0, .null, []) ::
  (22, .invokevirtual 176, 3, 197, 0, 13, .null, []) ::
  (25, .aload_n 0, 1, 0, 0, 0, .null, []) ::
  (26, .getfield 7, 3, 11, 0, 2, .null, []) ::
  (29, .iconst 2, 1, 0, 0, 0, .int 2, []) ::
  (30, .iaload, 1, 0, 0, 0, .null, []) ::
  (31, .i2l, 1, 0, 0, 0, .null, []) ::
  (32, .ldc2_w 213, 3, 0, 0, 0, .long 1103515245, []) ::
  (35, .lmul, 1, 0, 0, 0, .null, []) ::
  (36, .ldc2_w 215, 3, 0, 0, 0, .long 12345, []) ::
  (39, .ladd, 1, 0, 0, 0, .null, []) ::
  (40, .ldc2_w 217, 3, 0, 0, 0, .long 2147483648, []) ::
  (43, .lrem, 1, 0, 0, 0, .null, []) ::
  (44, .lstore_n 3, 1, 0, 0, 0, .null, []) ::
  (45, .aload_n 0, 1, 0, 0, 0, .null, []) ::
  (46, .getfield 7, 3, 11, 0, 2, .null, []) ::
  (49, .iconst 2, 1, 0, 0, 0, .int 2, []) ::
  (50, .lload_n 3, 1, 0, 0, 0, .null, []) ::
  (51, .l2i, 1, 0, 0, 0, .null, []) ::
  (52, .iastore, 1, 0, 0, 0, .null, []) ::
  (53, .lload_n 3, 1, 0, 0, 0, .null, []) ::
  (54, .ldc2_w 219, 3, 0, 0, 0, .long 65536, []) ::
  (57, .ldiv, 1, 0, 0, 0, .null, []) ::
  (58, .l2i, 1, 0, 0, 0, .null, []) ::
  (59, .aload_n 0, 1, 0, 0, 0, .null, []) ::
  (60, .invokevirtual 87, 3, 135, 0, 13, .null, []) ::
  (63, .irem, 1, 0, 0, 0, .null, []) ::
  (64, .iconst 1, 1, 0, 0, 0, .int 1, []) ::
  (65, .iadd, 1, 0, 0, 0, .null, []) ::
  (66, .istore 5, 2, 0, 0, 0, .null, []) ::
  (68, .aload_n 0, 1, 0, 0, 0, .null, []) ::
  (69, .iload 5, 2, 0, 0, 0, .null, []) ::
  (71, .invokevirtual 200, 3, 137, 1, 13, .null, []) ::
  (74, .istore 6, 2, 0, 0, 0, .null, []) ::
  (76, .iload 6, 2, 0, 0, 0, .null, []) ::
  (78, .ifCond .lt 12, 3, 90, 0, 0, .null, []) ::
  (81, .aload_n 0, 1, 0, 0, 0, .null, []) :: am_c_MD_drift_1
def am_c_MD_seed : List am_E := [(0, .iload_n 1, 1, 0, 0, 0, .null, []),
  (1, .ifCond .ge 5, 3, 6, 0, 0, .null, []),
  (4, .iconst (-1), 1, 0, 0, 0, .int (-1), []),
  (5, .ireturn, 1, 0, 0, 0, .null, []),
  (6, .aload_n 0, 1, 0, 0, 0, .null, []),
  (7, .getfield 7, 3, 11, 0, 2, .null, []),
  (10, .iconst 2, 1, 0, 0, 0, .int 2, []),
  (11, .iaload, 1, 0, 0, 0, .null, []),
  (12, .istore_n 2, 1, 0, 0, 0, .null, []),
  (13, .aload_n 0, 1, 0, 0, 0, .null, []),
  (14, .getfield 7, 3, 11, 0, 2, .null, []),
  (17, .iconst 2, 1, 0, 0, 0, .int 2, []),
  (18, .iload_n 1, 1, 0, 0, 0, .null, []),
  (19, .iastore, 1, 0, 0, 0, .null, []),
  (20, .iload_n 2, 1, 0, 0, 0, .null, []),
  (21, .ireturn, 1, 0, 0, 0, .null, [])]
def am_c_MD_type : List am_E := [(0, .iload_n 1, 1, 0, 0, 0, .null, []),
  (1, .i2l, 1, 0, 0, 0, .null, []),
  (2, .ldc2_w 221, 3, 0, 0, 0, .long 32, []),
  (5, .ldc2_w 223, 3, 0, 0, 0, .long 126, []),
  (8, .invokestatic 76, 3, 131, 3, 0, .null, []),
  (11, .ifCond .ne 5, 3, 16, 0, 0, .null, []),
  (14, .iconst (-1), 1, 0, 0, 0, .int (-1), []),
  (15, .ireturn, 1, 0, 0, 0, .null, []),
  (16, .aload_n 0, 1, 0, 0, 0, .null, []),
  (17, .getfield 225, 3, 11, 11, 0, .null, []),
  (20, .bipush 90, 2, 0, 0, 0, .int 90, []),
  (22, .if_icmp .ne 6, 3, 28, 0, 0, .null, []),
  (25, .bipush (-3), 2, 0, 0, 0, .int (-3), []),
  (27, .ireturn, 1, 0, 0, 0, .null, []),
  (28, .aload_n 0, 1, 0, 0, 0, .null, []),
  (29, .getfield 34, 3, 11, 10, 2, .null, []),
  (32, .aload_n 0, 1, 0, 0, 0, .null, []),
  (33, .getfield 225, 3, 11, 11, 0, .null, []),
  (36, .iload_n 1, 1, 0, 0, 0, .null, []),
  (37, .iastore, 1, 0, 0, 0, .null, []),
  (38, .aload_n 0, 1, 0, 0, 0, .null, []),
  (39, .dup, 1, 0, 0, 0, .null, []),
  (40, .getfield 225, 3, 11, 11, 0, .null, []),
  (43, .iconst 1, 1, 0, 0, 0, .int 1, []),
  (44, .iadd, 1, 0, 0, 0, .null, []),
  (45, .putfield 225, 3, 11, 11, 0, .null, []),
  (48, .aload_n 0, 1, 0, 0, 0, .null, []),
  (49, .getfield 225, 3, 11, 11, 0, .null, []),
  (52, .ireturn, 1, 0, 0, 0, .null, [])]
def am_c_MD_here : List am_E := [(0, .aload_n 0, 1, 0, 0, 0, .null, [(0, 0)]),
  (1, .getfield 228, 3, 11, 12, 0, .null, []),
  (4, .aload_n 0, 1, 0, 0, 0, .null, []),
  (5, .getfield 225, 3, 11, 11, 0, .null, []),
  (8, .if_icmp .ge 30, 3, 38, 0, 0, .null, []),
  (11, .aload_n 0, 1, 0, 0, 0, .null, []),
  (12, .getfield 34, 3, 11, 10, 2, .null, []),
  (15, .aload_n 0, 1, 0, 0, 0, .null, []),
  (16, .getfield 228, 3, 11, 12, 0, .null, []),
  (19, .iaload, 1, 0, 0, 0, .null, []),
  (20, .bipush 32, 2, 0, 0, 0, .int 32, []),
  (22, .if_icmp .ne 16, 3, 38, 0, 0, .null, []),
  (25, .aload_n 0, 1, 0, 0, 0, .null, []),
  (26, .dup, 1, 0, 0, 0, .null, []),
  (27, .getfield 228, 3, 11, 12, 0, .null, []),
  (30, .iconst 1, 1, 0, 0, 0, .int 1, []),
  (31, .iadd, 1, 0, 0, 0, .null, []),
  (32, .putfield 228, 3, 11, 12, 0, .null, []),
  (35, .goto (-35), 3, 0, 0, 0, .null, []),
  (38, .aload_n 0, 1, 0, 0, 0, .null, []),
  (39, .getfield 228, 3, 11, 12, 0, .null, []),
  (42, .aload_n 0, 1, 0, 0, 0, .null, []),
  (43, .getfield 225, 3, 11, 11, 0, .null, []),
  (46, .if_icmp .ge 15, 3, 61, 0, 0, .null, []),
  (49, .aload_n 0, 1, 0, 0, 0, .null, []),
  (50, .getfield 34, 3, 11, 10, 2, .null, []),
  (53, .aload_n 0, 1, 0, 0, 0, .null, []),
  (54, .getfield 228, 3, 11, 12, 0, .null, []),
  (57, .iaload, 1, 0, 0, 0, .null, []),
  (58, .goto 4, 3, 62, 0, 0, .null, []),
  (61, .iconst 0, 1, 0, 0, 0, .int 0, []),
  (62, .ireturn, 1, 0, 0, 0, .null, [])]
def am_c_MD_figure : List am_E := [(0, .aload_n 0, 1, 0, 0, 0, .null, []),
  (1, .invokevirtual 231, 3, 183, 0, 13, .null, []),
  (4, .bipush 48, 2, 0, 0, 0, .int 48, []),
  (6, .isub, 1, 0, 0, 0, .null, []),
  (7, .istore_n 3, 1, 0, 0, 0, .null, []),
  (8, .iload_n 3, 1, 0, 0, 0, .null, []),
  (9, .i2l, 1, 0, 0, 0, .null, []),
  (10, .iload_n 1, 1, 0, 0, 0, .null, []),
  (11, .i2l, 1, 0, 0, 0, .null, []),
  (12, .iload_n 2, 1, 0, 0, 0, .null, []),
  (13, .i2l, 1, 0, 0, 0, .null, []),
  (14, .invokestatic 76, 3, 131, 3, 0, .null, []),
  (17, .ifCond .ne 5, 3, 22, 0, 0, .null, []),
  (20, .iconst (-1), 1, 0, 0, 0, .int (-1), []),
  (21, .ireturn, 1, 0, 0, 0, .null, []),
  (22, .aload_n 0, 1, 0, 0, 0, .null, []),
  (23, .dup, 1, 0, 0, 0, .null, []),
  (24, .getfield 228, 3, 11, 12, 0, .null, []),
  (27, .iconst 1, 1, 0, 0, 0, .int 1, []),
  (28, .iadd, 1, 0, 0, 0, .null, []),
  (29, .putfield 228, 3, 11, 12, 0, .null, []),
  (32, .iload_n 3, 1, 0, 0, 0, .null, []),
  (33, .ireturn, 1, 0, 0, 0, .null, [])]
def am_c_MD_gets : List am_E := [(0, .aload_n 0, 1, 0, 0, 0, .null, []),
  (1, .aload_n 0, 1, 0, 0, 0, .null, []),
  (2, .getfield 234, 3, 11, 16, 1, .null, []),
  (5, .ifCond .ne 12, 3, 17, 0, 0, .null, []),
  (8, .aload_n 0, 1, 0, 0, 0, .null, []),
  (9, .getfield 238, 3, 11, 14, 0, .null, []),
  (12, .bipush 12, 2, 0, 0, 0, .int 12, []),
  (14, .if_icmp .ne 7, 3, 21, 0, 0, .null, []),
  (17, .iconst 1, 1, 0, 0, 0, .int 1, []),
  (18, .goto 4, 3, 22, 0, 0, .null, []),
  (21, .iconst 0, 1, 0, 0, 0, .int 0, []),
  (22, .putfield 234, 3, 11, 16, 1, .null, []),
  (25, .aload_n 0, 1, 0, 0, 0, .null, []),
  (26, .getfield 234, 3, 11, 16, 1, .null, []),
  (29, .ifCond .ne 23, 3, 52, 0, 0, .null, []),
  (32, .aload_n 0, 1, 0, 0, 0, .null, []),
  (33, .getfield 37, 3, 11, 15, 2, .null, []),
  (36, .aload_n 0, 1, 0, 0, 0, .null, []),
  (37, .getfield 238, 3, 11, 14, 0, .null, []),
  (40, .iload_n 1, 1, 0, 0, 0, .null, []),
  (41, .iastore, 1, 0, 0, 0, .null, []),
  (42, .aload_n 0, 1, 0, 0, 0, .null, []),
  (43, .dup, 1, 0, 0, 0, .null, []),
  (44, .getfield 238, 3, 11, 14, 0, .null, []),
  (47, .iconst 1, 1, 0, 0, 0, .int 1, []),
  (48, .iadd, 1, 0, 0, 0, .null, []),
  (49, .putfield 238, 3, 11, 14, 0, .null, []),
  (52, .return_, 1, 0, 0, 0, .null, [])]
def am_c_MD_isGot : List am_E := [(0, .iconst 0, 1, 0, 0, 0, .int 0, []),
  (1, .istore_n 2, 1, 0, 0, 0, .null, []),
  (2, .iconst 0, 1, 0, 0, 0, .int 0, []),
  (3, .istore_n 3, 1, 0, 0, 0, .null, []),
  (4, .iload_n 3, 1, 0, 0, 0, .null, [(0, 0)]),
  (5, .aload_n 0, 1, 0, 0, 0, .null, []),
  (6, .getfield 238, 3, 11, 14, 0, .null, []),
  (9, .if_icmp .ge 29, 3, 38, 0, 0, .null, []),
  (12, .iload_n 2, 1, 0, 0, 0, .null, []),
  (13, .ifCond .ne 13, 3, 26, 0, 0, .null, []),
  (16, .aload_n 0, 1, 0, 0, 0, .null, []),
  (17, .getfield 37, 3, 11, 15, 2, .null, []),
  (20, .iload_n 3, 1, 0, 0, 0, .null, []),
  (21, .iaload, 1, 0, 0, 0, .null, []),
  (22, .iload_n 1, 1, 0, 0, 0, .null, []),
  (23, .if_icmp .ne 7, 3, 30, 0, 0, .null, []),
  (26, .iconst 1, 1, 0, 0, 0, .int 1, []),
  (27, .goto 4, 3, 31, 0, 0, .null, []),
  (30, .iconst 0, 1, 0, 0, 0, .int 0, []),
  (31, .istore_n 2, 1, 0, 0, 0, .null, []),
  (32, .iinc 3 1, 3, 0, 0, 0, .int 1, []),
  (35, .goto (-31), 3, 4, 0, 0, .null, []),
  (38, .iload_n 2, 1, 0, 0, 0, .null, []),
  (39, .ireturn, 1, 0, 0, 0, .null, [])]
def am_c_MD_majority : List am_E := [(0, .aload_n 0, 1, 0, 0, 0, .null, []),
  (1, .iconst 1, 1, 0, 0, 0, .int 1, []),
  (2, .iconst 5, 1, 0, 0, 0, .int 5, []),
  (3, .invokevirtual 241, 3, 184, 2, 13, .null, []),
  (6, .istore_n 1, 1, 0, 0, 0, .null, []),
  (7, .aload_n 0, 1, 0, 0, 0, .null, []),
  (8, .iload_n 1, 1, 0, 0, 0, .null, []),
  (9, .putfield 244, 3, 11, 13, 0, .null, []),
  (12, .iconst 1, 1, 0, 0, 0, .int 1, []),
  (13, .istore_n 2, 1, 0, 0, 0, .null, []),
  (14, .iload_n 1, 1, 0, 0, 0, .null, [(0, 0)]),
  (15, .ifCond .le 33, 3, 48, 0, 0, .null, []),
  (18, .iload_n 2, 1, 0, 0, 0, .null, []),
  (19, .iconst 1, 1, 0, 0, 0, .int 1, []),
  (20, .iload_n 1, 1, 0, 0, 0, .null, []),
  (21, .ishl, 1, 0, 0, 0, .null, []),
  (22, .if_icmp .ge 26, 3, 48, 0, 0, .null, []),
  (25, .iload_n 2, 1, 0, 0, 0, .null, []),
  (26, .invokestatic 73, 3, 134, 1, 0, .null, []),
  (29, .iload_n 1, 1, 0, 0, 0, .null, []),
  (30, .iconst 2, 1, 0, 0, 0, .int 2, []),
  (31, .idiv, 1, 0, 0, 0, .null, []),
  (32, .iconst 1, 1, 0, 0, 0, .int 1, []),
  (33, .iadd, 1, 0, 0, 0, .null, []),
  (34, .if_icmp .ne 8, 3, 42, 0, 0, .null, []),
  (37, .aload_n 0, 1, 0, 0, 0, .null, []),
  (38, .iload_n 2, 1, 0, 0, 0, .null, []),
  (39, .invokevirtual 247, 3, 185, 1, 13, .null, []),
  (42, .iinc 2 1, 3, 0, 0, 0, .int 1, []),
  (45, .goto (-31), 3, 14, 0, 0, .null, []),
  (48, .iload_n 1, 1, 0, 0, 0, .null, []),
  (49, .ifCond .le 7, 3, 56, 0, 0, .null, []),
  (52, .iconst 1, 1, 0, 0, 0, .int 1, []),
  (53, .goto 4, 3, 57, 0, 0, .null, []),
  (56, .iconst 0, 1, 0, 0, 0, .int 0, []),
  (57, .ireturn, 1, 0, 0, 0, .null, [])]
def am_c_MD_grid_1 : List am_E := [(80, .iconst 0, 1, 0, 0, 0, .int 0, []),
  (81, .istore 6, 2, 0, 0, 0, .null, []),
  (83, .iload 6, 2, 0, 0, 0, .null, [(0, 0)]),
  (85, .iload_n 1, 1, 0, 0, 0, .null, []),
  (86, .iload_n 2, 1, 0, 0, 0, .null, []),
  (87, .imul, 1, 0, 0, 0, .null, []),
  (88, .if_icmp .ge 39, 3, 127, 0, 0, .null, []),
  (91, .iload 5, 2, 0, 0, 0, .null, []),
  (93, .iload 6, 2, 0, 0, 0, .null, []),
  (95, .iload_n 1, 1, 0, 0, 0, .null, []),
  (96, .idiv, 1, 0, 0, 0, .null, []),
  (97, .iload_n 3, 1, 0, 0, 0, .null, []),
  (98, .if_icmp .eq 12, 3, 110, 0, 0, .null, []),
  (101, .iload 6, 2, 0, 0, 0, .null, []),
  (103, .iload_n 1, 1, 0, 0, 0, .null, []),
  (104, .irem, 1, 0, 0, 0, .null, []),
  (105, .iload 4, 2, 0, 0, 0, .null, []),
  (107, .if_icmp .ne 10, 3, 117, 0, 0, .null, []),
  (110, .iconst 1, 1, 0, 0, 0, .int 1, []),
  (111, .iload 6, 2, 0, 0, 0, .null, []),
  (113, .ishl, 1, 0, 0, 0, .null, []),
  (114, .goto 4, 3, 118, 0, 0, .null, []),
  (117, .iconst 0, 1, 0, 0, 0, .int 0, []),
  (118, .ior, 1, 0, 0, 0, .null, []),
  (119, .istore 5, 2, 0, 0, 0, .null, []),
  (121, .iinc 6 1, 3, 0, 0, 0, .int 1, []),
  (124, .goto (-41), 3, 83, 0, 0, .null, []),
  (127, .aload_n 0, 1, 0, 0, 0, .null, []),
  (128, .iload 5, 2, 0, 0, 0, .null, []),
  (130, .invokevirtual 250, 3, 186, 1, 13, .null, []),
  (133, .ifCond .ne 9, 3, 142, 0, 0, .null, []),
  (136, .aload_n 0, 1, 0, 0, 0, .null, []),
  (137, .iload 5, 2, 0, 0, 0, .null, []),
  (139, .invokevirtual 247, 3, 185, 1, 13, .null, []),
  (142, .iinc 4 1, 3, 0, 0, 0, .int 1, []),
  (145, .goto (-74), 3, 71, 0, 0, .null, []),
  (148, .iinc 3 1, 3, 0, 0, 0, .int 1, []),
  (151, .goto (-88), 3, 63, 0, 0, .null, []),
  (154, .iload_n 2, 1, 0, 0, 0, .null, []),
  (155, .ifCond .le 7, 3, 162, 0, 0, .null, []),
  (158, .iconst 1, 1, 0, 0, 0, .int 1, []),
  (159, .goto 4, 3, 163, 0, 0, .null, []),
  (162, .iconst 0, 1, 0, 0, 0, .int 0, []),
  (163, .ireturn, 1, 0, 0, 0, .null, [])]
def am_c_MD_grid : List am_E := (0, .aload_n 0, 1, 0, 0, 0, .null, []) ::
  (1, .iconst 1, 1, 0, 0, 0, .int 1, []) ::
  (2, .iconst 4, 1, 0, 0, 0, .int 4, []) ::
  (3, .invokevirtual 241, 3, 184, 2, 13, .null, []) ::
  (6, .istore_n 1, 1, 0, 0, 0, .null, []) ::
  (7, .iload_n 1, 1, 0, 0, 0, .null, []) ::
  (8, .ifCond .lt 12, 3, 20, 0, 0, .null, []) ::
  (11, .aload_n 0, 1, 0, 0, 0, .null, []) ::
  (12, .invokevirtual 231, 3, 183, 0, 13, .null, []) ::
  (15, .bipush 42, 2, 0, 0, 0, .int 42, []) ::
  (17, .if_icmp .eq 5, 3, 22, 0, 0, .null, []) ::
  (20, .iconst 0, 1, 0, 0, 0, .int 0, []) ::
  (21, .ireturn, 1, 0, 0, 0, .null, []) ::
  (22, .aload_n 0, 1, 0, 0, 0, .null, []) ::
  (23, .dup, 1, 0, 0, 0, .null, []) ::
  (24, .getfield 228, 3, 11, 12, 0, .null, []) ::
  (27, .iconst 1, 1, 0, 0, 0, .int 1, []) ::
  (28, .iadd, 1, 0, 0, 0, .null, []) ::
  (29, .putfield 228, 3, 11, 12, 0, .null, []) ::
  (32, .aload_n 0, 1, 0, 0, 0, .null, []) ::
  (33, .iconst 1, 1, 0, 0, 0, .int 1, []) ::
  (34, .bipush 7, 2, 0, 0, 0, .int 7, []) ::
  (36, .iload_n 1, 1, 0, 0, 0, .null, []) ::
  (37, .idiv, 1, 0, 0, 0, .null, []) ::
  (38, .iconst 4, 1, 0, 0, 0, .int 4, []) ::
  (39, .if_icmp .ge 10, 3, 49, 0, 0, .null, []) ::
  (42, .bipush 7, 2, 0, 0, 0, .int 7, []) ::
  (44, .iload_n 1, 1, 0, 0, 0, .null, []) ::
  (45, .idiv, 1, 0, 0, 0, .null, []) ::
  (46, .goto 4, 3, 50, 0, 0, .null, []) ::
  (49, .iconst 4, 1, 0, 0, 0, .int 4, []) ::
  (50, .invokevirtual 241, 3, 184, 2, 13, .null, []) ::
  (53, .istore_n 2, 1, 0, 0, 0, .null, []) ::
  (54, .aload_n 0, 1, 0, 0, 0, .null, []) ::
  (55, .iload_n 1, 1, 0, 0, 0, .null, []) ::
  (56, .iload_n 2, 1, 0, 0, 0, .null, []) ::
  (57, .imul, 1, 0, 0, 0, .null, []) ::
  (58, .putfield 244, 3, 11, 13, 0, .null, []) ::
  (61, .iconst 0, 1, 0, 0, 0, .int 0, []) ::
  (62, .istore_n 3, 1, 0, 0, 0, .null, []) ::
  (63, .iload_n 3, 1, 0, 0, 0, .null, [(0, 0)]) ::
  (64, .iload_n 2, 1, 0, 0, 0, .null, []) ::
  (65, .if_icmp .ge 89, 3, 154, 0, 0, .null, []) ::
  (68, .iconst 0, 1, 0, 0, 0, .int 0, []) ::
  (69, .istore 4, 2, 0, 0, 0, .null, []) ::
  (71, .iload 4, 2, 0, 0, 0, .null, [(0, 0)]) ::
  (73, .iload_n 1, 1, 0, 0, 0, .null, []) ::
  (74, .if_icmp .ge 74, 3, 148, 0, 0, .null, []) ::
  (77, .iconst 0, 1, 0, 0, 0, .int 0, []) ::
  (78, .istore 5, 2, 0, 0, 0, .null, []) :: am_c_MD_grid_1
def am_c_MD_wall_1 : List am_E := [(85, .iconst 0, 1, 0, 0, 0, .int 0, []),
  (86, .istore_n 2, 1, 0, 0, 0, .null, []),
  (87, .aload_n 0, 1, 0, 0, 0, .null, []),
  (88, .dup, 1, 0, 0, 0, .null, []),
  (89, .getfield 228, 3, 11, 12, 0, .null, []),
  (92, .iload_n 2, 1, 0, 0, 0, .null, []),
  (93, .ifCond .eq 7, 3, 100, 0, 0, .null, []),
  (96, .iconst 1, 1, 0, 0, 0, .int 1, []),
  (97, .goto 4, 3, 101, 0, 0, .null, []),
  (100, .iconst 0, 1, 0, 0, 0, .int 0, []),
  (101, .iadd, 1, 0, 0, 0, .null, []),
  (102, .putfield 228, 3, 11, 12, 0, .null, []),
  (105, .goto (-96), 3, 9, 0, 0, .null, []),
  (108, .iconst 0, 1, 0, 0, 0, .int 0, []),
  (109, .istore_n 3, 1, 0, 0, 0, .null, []),
  (110, .iload_n 3, 1, 0, 0, 0, .null, [(0, 0)]),
  (111, .iload_n 1, 1, 0, 0, 0, .null, []),
  (112, .if_icmp .ge 15, 3, 127, 0, 0, .null, []),
  (115, .aload_n 0, 1, 0, 0, 0, .null, []),
  (116, .iload_n 3, 1, 0, 0, 0, .null, []),
  (117, .iload_n 1, 1, 0, 0, 0, .null, []),
  (118, .invokevirtual 253, 3, 190, 2, 13, .null, []),
  (121, .iinc 3 1, 3, 0, 0, 0, .int 1, []),
  (124, .goto (-14), 3, 110, 0, 0, .null, []),
  (127, .iconst 1, 1, 0, 0, 0, .int 1, []),
  (128, .ireturn, 1, 0, 0, 0, .null, [])]
def am_c_MD_wall : List am_E := (0, .iconst 0, 1, 0, 0, 0, .int 0, []) ::
  (1, .istore_n 1, 1, 0, 0, 0, .null, []) ::
  (2, .aload_n 0, 1, 0, 0, 0, .null, []) ::
  (3, .iconst 0, 1, 0, 0, 0, .int 0, []) ::
  (4, .putfield 244, 3, 11, 13, 0, .null, []) ::
  (7, .iconst 1, 1, 0, 0, 0, .int 1, []) ::
  (8, .istore_n 2, 1, 0, 0, 0, .null, []) ::
  (9, .iload_n 2, 1, 0, 0, 0, .null, [(0, 0)]) ::
  (10, .ifCond .eq 98, 3, 108, 0, 0, .null, []) ::
  (13, .aload_n 0, 1, 0, 0, 0, .null, []) ::
  (14, .iconst 1, 1, 0, 0, 0, .int 1, []) ::
  (15, .bipush 7, 2, 0, 0, 0, .int 7, []) ::
  (17, .aload_n 0, 1, 0, 0, 0, .null, []) ::
  (18, .getfield 244, 3, 11, 13, 0, .null, []) ::
  (21, .isub, 1, 0, 0, 0, .null, []) ::
  (22, .iconst 4, 1, 0, 0, 0, .int 4, []) ::
  (23, .if_icmp .ge 13, 3, 36, 0, 0, .null, []) ::
  (26, .bipush 7, 2, 0, 0, 0, .int 7, []) ::
  (28, .aload_n 0, 1, 0, 0, 0, .null, []) ::
  (29, .getfield 244, 3, 11, 13, 0, .null, []) ::
  (32, .isub, 1, 0, 0, 0, .null, []) ::
  (33, .goto 4, 3, 37, 0, 0, .null, []) ::
  (36, .iconst 4, 1, 0, 0, 0, .int 4, []) ::
  (37, .invokevirtual 241, 3, 184, 2, 13, .null, []) ::
  (40, .istore_n 3, 1, 0, 0, 0, .null, []) ::
  (41, .iload_n 3, 1, 0, 0, 0, .null, []) ::
  (42, .ifCond .ge 5, 3, 47, 0, 0, .null, []) ::
  (45, .iconst 0, 1, 0, 0, 0, .int 0, []) ::
  (46, .ireturn, 1, 0, 0, 0, .null, []) ::
  (47, .aload_n 0, 1, 0, 0, 0, .null, []) ::
  (48, .getfield 40, 3, 11, 17, 2, .null, []) ::
  (51, .iload_n 1, 1, 0, 0, 0, .null, []) ::
  (52, .iload_n 3, 1, 0, 0, 0, .null, []) ::
  (53, .iastore, 1, 0, 0, 0, .null, []) ::
  (54, .iinc 1 1, 3, 0, 0, 0, .int 1, []) ::
  (57, .aload_n 0, 1, 0, 0, 0, .null, []) ::
  (58, .dup, 1, 0, 0, 0, .null, []) ::
  (59, .getfield 244, 3, 11, 13, 0, .null, []) ::
  (62, .iload_n 3, 1, 0, 0, 0, .null, []) ::
  (63, .iadd, 1, 0, 0, 0, .null, []) ::
  (64, .putfield 244, 3, 11, 13, 0, .null, []) ::
  (67, .iload_n 1, 1, 0, 0, 0, .null, []) ::
  (68, .iconst 3, 1, 0, 0, 0, .int 3, []) ::
  (69, .if_icmp .ge 16, 3, 85, 0, 0, .null, []) ::
  (72, .aload_n 0, 1, 0, 0, 0, .null, []) ::
  (73, .invokevirtual 231, 3, 183, 0, 13, .null, []) ::
  (76, .bipush 44, 2, 0, 0, 0, .int 44, []) ::
  (78, .if_icmp .ne 7, 3, 85, 0, 0, .null, []) ::
  (81, .iconst 1, 1, 0, 0, 0, .int 1, []) ::
  (82, .goto 4, 3, 86, 0, 0, .null, []) :: am_c_MD_wall_1
def am_c_MD_walls_1 : List am_E := [(84, .istore 6, 2, 0, 0, 0, .null, []),
  (86, .iload 5, 2, 0, 0, 0, .null, []),
  (88, .istore 7, 2, 0, 0, 0, .null, []),
  (90, .aload_n 0, 1, 0, 0, 0, .null, []),
  (91, .getfield 244, 3, 11, 13, 0, .null, []),
  (94, .istore 8, 2, 0, 0, 0, .null, []),
  (96, .iload_n 2, 1, 0, 0, 0, .null, []),
  (97, .iconst 1, 1, 0, 0, 0, .int 1, []),
  (98, .isub, 1, 0, 0, 0, .null, []),
  (99, .istore 9, 2, 0, 0, 0, .null, []),
  (101, .iload 9, 2, 0, 0, 0, .null, [(0, 0)]),
  (103, .iload_n 1, 1, 0, 0, 0, .null, []),
  (104, .if_icmp .le 53, 3, 157, 0, 0, .null, []),
  (107, .iload 8, 2, 0, 0, 0, .null, []),
  (109, .aload_n 0, 1, 0, 0, 0, .null, []),
  (110, .getfield 40, 3, 11, 17, 2, .null, []),
  (113, .iload 9, 2, 0, 0, 0, .null, []),
  (115, .iaload, 1, 0, 0, 0, .null, []),
  (116, .isub, 1, 0, 0, 0, .null, []),
  (117, .istore 8, 2, 0, 0, 0, .null, []),
  (119, .iload 6, 2, 0, 0, 0, .null, []),
  (121, .iconst 1, 1, 0, 0, 0, .int 1, []),
  (122, .iload 8, 2, 0, 0, 0, .null, []),
  (124, .iload 7, 2, 0, 0, 0, .null, []),
  (126, .aload_n 0, 1, 0, 0, 0, .null, []),
  (127, .getfield 40, 3, 11, 17, 2, .null, []),
  (130, .iload 9, 2, 0, 0, 0, .null, []),
  (132, .iaload, 1, 0, 0, 0, .null, []),
  (133, .irem, 1, 0, 0, 0, .null, []),
  (134, .iadd, 1, 0, 0, 0, .null, []),
  (135, .ishl, 1, 0, 0, 0, .null, []),
  (136, .ior, 1, 0, 0, 0, .null, []),
  (137, .istore 6, 2, 0, 0, 0, .null, []),
  (139, .iload 7, 2, 0, 0, 0, .null, []),
  (141, .aload_n 0, 1, 0, 0, 0, .null, []),
  (142, .getfield 40, 3, 11, 17, 2, .null, []),
  (145, .iload 9, 2, 0, 0, 0, .null, []),
  (147, .iaload, 1, 0, 0, 0, .null, []),
  (148, .idiv, 1, 0, 0, 0, .null, []),
  (149, .istore 7, 2, 0, 0, 0, .null, []),
  (151, .iinc 9 (-1), 3, 0, 0, 0, .int (-1), []),
  (154, .goto (-53), 3, 101, 0, 0, .null, []),
  (157, .aload_n 0, 1, 0, 0, 0, .null, []),
  (158, .iload 6, 2, 0, 0, 0, .null, []),
  (160, .invokevirtual 247, 3, 185, 1, 13, .null, []),
  (163, .iinc 5 1, 3, 0, 0, 0, .int 1, []),
  (166, .goto (-101), 3, 65, 0, 0, .null, []),
  (169, .return_, 1, 0, 0, 0, .null, [])]
def am_c_MD_walls : List am_E := (0, .iconst 1, 1, 0, 0, 0, .int 1, []) ::
  (1, .istore_n 3, 1, 0, 0, 0, .null, []) ::
  (2, .iconst 0, 1, 0, 0, 0, .int 0, []) ::
  (3, .istore 4, 2, 0, 0, 0, .null, []) ::
  (5, .iconst 0, 1, 0, 0, 0, .int 0, []) ::
  (6, .istore 5, 2, 0, 0, 0, .null, []) ::
  (8, .iload 5, 2, 0, 0, 0, .null, [(0, 0)]) ::
  (10, .iload_n 2, 1, 0, 0, 0, .null, []) ::
  (11, .if_icmp .ge 51, 3, 62, 0, 0, .null, []) ::
  (14, .iload 4, 2, 0, 0, 0, .null, []) ::
  (16, .iload 5, 2, 0, 0, 0, .null, []) ::
  (18, .iload_n 1, 1, 0, 0, 0, .null, []) ::
  (19, .if_icmp .ge 13, 3, 32, 0, 0, .null, []) ::
  (22, .aload_n 0, 1, 0, 0, 0, .null, []) ::
  (23, .getfield 40, 3, 11, 17, 2, .null, []) ::
  (26, .iload 5, 2, 0, 0, 0, .null, []) ::
  (28, .iaload, 1, 0, 0, 0, .null, []) ::
  (29, .goto 4, 3, 33, 0, 0, .null, []) ::
  (32, .iconst 0, 1, 0, 0, 0, .int 0, []) ::
  (33, .iadd, 1, 0, 0, 0, .null, []) ::
  (34, .istore 4, 2, 0, 0, 0, .null, []) ::
  (36, .iload_n 3, 1, 0, 0, 0, .null, []) ::
  (37, .iload 5, 2, 0, 0, 0, .null, []) ::
  (39, .iload_n 1, 1, 0, 0, 0, .null, []) ::
  (40, .if_icmp .le 13, 3, 53, 0, 0, .null, []) ::
  (43, .aload_n 0, 1, 0, 0, 0, .null, []) ::
  (44, .getfield 40, 3, 11, 17, 2, .null, []) ::
  (47, .iload 5, 2, 0, 0, 0, .null, []) ::
  (49, .iaload, 1, 0, 0, 0, .null, []) ::
  (50, .goto 4, 3, 54, 0, 0, .null, []) ::
  (53, .iconst 1, 1, 0, 0, 0, .int 1, []) ::
  (54, .imul, 1, 0, 0, 0, .null, []) ::
  (55, .istore_n 3, 1, 0, 0, 0, .null, []) ::
  (56, .iinc 5 1, 3, 0, 0, 0, .int 1, []) ::
  (59, .goto (-51), 3, 8, 0, 0, .null, []) ::
  (62, .iconst 0, 1, 0, 0, 0, .int 0, []) ::
  (63, .istore 5, 2, 0, 0, 0, .null, []) ::
  (65, .iload 5, 2, 0, 0, 0, .null, [(0, 0)]) ::
  (67, .iload_n 3, 1, 0, 0, 0, .null, []) ::
  (68, .if_icmp .ge 101, 3, 169, 0, 0, .null, []) ::
  (71, .iconst 1, 1, 0, 0, 0, .int 1, []) ::
  (72, .aload_n 0, 1, 0, 0, 0, .null, []) ::
  (73, .getfield 40, 3, 11, 17, 2, .null, []) ::
  (76, .iload_n 1, 1, 0, 0, 0, .null, []) ::
  (77, .iaload, 1, 0, 0, 0, .null, []) ::
  (78, .ishl, 1, 0, 0, 0, .null, []) ::
  (79, .iconst 1, 1, 0, 0, 0, .int 1, []) ::
  (80, .isub, 1, 0, 0, 0, .null, []) ::
  (81, .iload 4, 2, 0, 0, 0, .null, []) ::
  (83, .ishl, 1, 0, 0, 0, .null, []) :: am_c_MD_walls_1
def am_c_MD_plane : List am_E := [(0, .aload_n 0, 1, 0, 0, 0, .null, []),
  (1, .bipush 7, 2, 0, 0, 0, .int 7, []),
  (3, .putfield 244, 3, 11, 13, 0, .null, []),
  (6, .iconst 0, 1, 0, 0, 0, .int 0, []),
  (7, .istore_n 1, 1, 0, 0, 0, .null, []),
  (8, .iload_n 1, 1, 0, 0, 0, .null, [(0, 0)]),
  (9, .bipush 7, 2, 0, 0, 0, .int 7, []),
  (11, .if_icmp .ge 34, 3, 45, 0, 0, .null, []),
  (14, .aload_n 0, 1, 0, 0, 0, .null, []),
  (15, .iconst 1, 1, 0, 0, 0, .int 1, []),
  (16, .iload_n 1, 1, 0, 0, 0, .null, []),
  (17, .ishl, 1, 0, 0, 0, .null, []),
  (18, .iconst 1, 1, 0, 0, 0, .int 1, []),
  (19, .iload_n 1, 1, 0, 0, 0, .null, []),
  (20, .iconst 1, 1, 0, 0, 0, .int 1, []),
  (21, .iadd, 1, 0, 0, 0, .null, []),
  (22, .bipush 7, 2, 0, 0, 0, .int 7, []),
  (24, .irem, 1, 0, 0, 0, .null, []),
  (25, .ishl, 1, 0, 0, 0, .null, []),
  (26, .ior, 1, 0, 0, 0, .null, []),
  (27, .iconst 1, 1, 0, 0, 0, .int 1, []),
  (28, .iload_n 1, 1, 0, 0, 0, .null, []),
  (29, .iconst 3, 1, 0, 0, 0, .int 3, []),
  (30, .iadd, 1, 0, 0, 0, .null, []),
  (31, .bipush 7, 2, 0, 0, 0, .int 7, []),
  (33, .irem, 1, 0, 0, 0, .null, []),
  (34, .ishl, 1, 0, 0, 0, .null, []),
  (35, .ior, 1, 0, 0, 0, .null, []),
  (36, .invokevirtual 247, 3, 185, 1, 13, .null, []),
  (39, .iinc 1 1, 3, 0, 0, 0, .int 1, []),
  (42, .goto (-34), 3, 8, 0, 0, .null, []),
  (45, .iconst 1, 1, 0, 0, 0, .int 1, []),
  (46, .ireturn, 1, 0, 0, 0, .null, [])]
def am_c_MD_told : List am_E := [(0, .aload_n 0, 1, 0, 0, 0, .null, []),
  (1, .aload_n 0, 1, 0, 0, 0, .null, []),
  (2, .iconst 1, 1, 0, 0, 0, .int 1, []),
  (3, .bipush 7, 2, 0, 0, 0, .int 7, []),
  (5, .invokevirtual 241, 3, 184, 2, 13, .null, []),
  (8, .putfield 244, 3, 11, 13, 0, .null, []),
  (11, .aload_n 0, 1, 0, 0, 0, .null, []),
  (12, .getfield 244, 3, 11, 13, 0, .null, []),
  (15, .ifCond .ge 5, 3, 20, 0, 0, .null, []),
  (18, .iconst 0, 1, 0, 0, 0, .int 0, []),
  (19, .ireturn, 1, 0, 0, 0, .null, []),
  (20, .aload_n 0, 1, 0, 0, 0, .null, []),
  (21, .invokevirtual 231, 3, 183, 0, 13, .null, []),
  (24, .bipush 58, 2, 0, 0, 0, .int 58, []),
  (26, .if_icmp .ne 7, 3, 33, 0, 0, .null, []),
  (29, .iconst 1, 1, 0, 0, 0, .int 1, []),
  (30, .goto 4, 3, 34, 0, 0, .null, []),
  (33, .iconst 0, 1, 0, 0, 0, .int 0, []),
  (34, .istore_n 1, 1, 0, 0, 0, .null, []),
  (35, .iload_n 1, 1, 0, 0, 0, .null, [(0, 0)]),
  (36, .ifCond .eq 40, 3, 76, 0, 0, .null, []),
  (39, .aload_n 0, 1, 0, 0, 0, .null, []),
  (40, .dup, 1, 0, 0, 0, .null, []),
  (41, .getfield 228, 3, 11, 12, 0, .null, []),
  (44, .iconst 1, 1, 0, 0, 0, .int 1, []),
  (45, .iadd, 1, 0, 0, 0, .null, []),
  (46, .putfield 228, 3, 11, 12, 0, .null, []),
  (49, .aload_n 0, 1, 0, 0, 0, .null, []),
  (50, .invokevirtual 256, 3, 193, 0, 13, .null, []),
  (53, .ifCond .ne 5, 3, 58, 0, 0, .null, []),
  (56, .iconst 0, 1, 0, 0, 0, .int 0, []),
  (57, .ireturn, 1, 0, 0, 0, .null, []),
  (58, .aload_n 0, 1, 0, 0, 0, .null, []),
  (59, .invokevirtual 231, 3, 183, 0, 13, .null, []),
  (62, .bipush 44, 2, 0, 0, 0, .int 44, []),
  (64, .if_icmp .ne 7, 3, 71, 0, 0, .null, []),
  (67, .iconst 1, 1, 0, 0, 0, .int 1, []),
  (68, .goto 4, 3, 72, 0, 0, .null, []),
  (71, .iconst 0, 1, 0, 0, 0, .int 0, []),
  (72, .istore_n 1, 1, 0, 0, 0, .null, []),
  (73, .goto (-38), 3, 35, 0, 0, .null, []),
  (76, .iconst 1, 1, 0, 0, 0, .int 1, []),
  (77, .ireturn, 1, 0, 0, 0, .null, [])]
def am_c_MD_one_1 : List am_E := [(97, .iconst 0, 1, 0, 0, 0, .int 0, []),
  (98, .ireturn, 1, 0, 0, 0, .null, []),
  (99, .iload_n 1, 1, 0, 0, 0, .null, []),
  (100, .iconst 1, 1, 0, 0, 0, .int 1, []),
  (101, .iload_n 2, 1, 0, 0, 0, .null, []),
  (102, .ishl, 1, 0, 0, 0, .null, []),
  (103, .ior, 1, 0, 0, 0, .null, []),
  (104, .istore_n 1, 1, 0, 0, 0, .null, []),
  (105, .aload_n 0, 1, 0, 0, 0, .null, []),
  (106, .dup, 1, 0, 0, 0, .null, []),
  (107, .getfield 228, 3, 11, 12, 0, .null, []),
  (110, .iconst 1, 1, 0, 0, 0, .int 1, []),
  (111, .iadd, 1, 0, 0, 0, .null, []),
  (112, .putfield 228, 3, 11, 12, 0, .null, []),
  (115, .goto (-80), 3, 35, 0, 0, .null, []),
  (118, .aload_n 0, 1, 0, 0, 0, .null, []),
  (119, .invokevirtual 231, 3, 183, 0, 13, .null, []),
  (122, .pop, 1, 0, 0, 0, .null, []),
  (123, .aload_n 0, 1, 0, 0, 0, .null, []),
  (124, .iload_n 1, 1, 0, 0, 0, .null, []),
  (125, .invokevirtual 250, 3, 186, 1, 13, .null, []),
  (128, .ifCond .eq 5, 3, 133, 0, 0, .null, []),
  (131, .iconst 0, 1, 0, 0, 0, .int 0, []),
  (132, .ireturn, 1, 0, 0, 0, .null, []),
  (133, .aload_n 0, 1, 0, 0, 0, .null, []),
  (134, .iload_n 1, 1, 0, 0, 0, .null, []),
  (135, .invokevirtual 247, 3, 185, 1, 13, .null, []),
  (138, .iconst 1, 1, 0, 0, 0, .int 1, []),
  (139, .ireturn, 1, 0, 0, 0, .null, [])]
def am_c_MD_one : List am_E := (0, .aload_n 0, 1, 0, 0, 0, .null, []) ::
  (1, .invokevirtual 231, 3, 183, 0, 13, .null, []) ::
  (4, .i2l, 1, 0, 0, 0, .null, []) ::
  (5, .ldc2_w 260, 3, 0, 0, 0, .long 48, []) ::
  (8, .bipush 47, 2, 0, 0, 0, .int 47, []) ::
  (10, .aload_n 0, 1, 0, 0, 0, .null, []) ::
  (11, .getfield 244, 3, 11, 13, 0, .null, []) ::
  (14, .iadd, 1, 0, 0, 0, .null, []) ::
  (15, .i2l, 1, 0, 0, 0, .null, []) ::
  (16, .invokestatic 76, 3, 131, 3, 0, .null, []) ::
  (19, .ifCond .eq 12, 3, 31, 0, 0, .null, []) ::
  (22, .aload_n 0, 1, 0, 0, 0, .null, []) ::
  (23, .getfield 238, 3, 11, 14, 0, .null, []) ::
  (26, .bipush 12, 2, 0, 0, 0, .int 12, []) ::
  (28, .if_icmp .ne 5, 3, 33, 0, 0, .null, []) ::
  (31, .iconst 0, 1, 0, 0, 0, .int 0, []) ::
  (32, .ireturn, 1, 0, 0, 0, .null, []) ::
  (33, .iconst 0, 1, 0, 0, 0, .int 0, []) ::
  (34, .istore_n 1, 1, 0, 0, 0, .null, []) ::
  (35, .aload_n 0, 1, 0, 0, 0, .null, [(0, 0)]) ::
  (36, .getfield 228, 3, 11, 12, 0, .null, []) ::
  (39, .aload_n 0, 1, 0, 0, 0, .null, []) ::
  (40, .getfield 225, 3, 11, 11, 0, .null, []) ::
  (43, .if_icmp .ge 75, 3, 118, 0, 0, .null, []) ::
  (46, .aload_n 0, 1, 0, 0, 0, .null, []) ::
  (47, .getfield 34, 3, 11, 10, 2, .null, []) ::
  (50, .aload_n 0, 1, 0, 0, 0, .null, []) ::
  (51, .getfield 228, 3, 11, 12, 0, .null, []) ::
  (54, .iaload, 1, 0, 0, 0, .null, []) ::
  (55, .i2l, 1, 0, 0, 0, .null, []) ::
  (56, .ldc2_w 260, 3, 0, 0, 0, .long 48, []) ::
  (59, .ldc2_w 262, 3, 0, 0, 0, .long 57, []) ::
  (62, .invokestatic 76, 3, 131, 3, 0, .null, []) ::
  (65, .ifCond .eq 53, 3, 118, 0, 0, .null, []) ::
  (68, .aload_n 0, 1, 0, 0, 0, .null, []) ::
  (69, .getfield 34, 3, 11, 10, 2, .null, []) ::
  (72, .aload_n 0, 1, 0, 0, 0, .null, []) ::
  (73, .getfield 228, 3, 11, 12, 0, .null, []) ::
  (76, .iaload, 1, 0, 0, 0, .null, []) ::
  (77, .bipush 48, 2, 0, 0, 0, .int 48, []) ::
  (79, .isub, 1, 0, 0, 0, .null, []) ::
  (80, .istore_n 2, 1, 0, 0, 0, .null, []) ::
  (81, .iload_n 2, 1, 0, 0, 0, .null, []) ::
  (82, .aload_n 0, 1, 0, 0, 0, .null, []) ::
  (83, .getfield 244, 3, 11, 13, 0, .null, []) ::
  (86, .if_icmp .ge 11, 3, 97, 0, 0, .null, []) ::
  (89, .iload_n 1, 1, 0, 0, 0, .null, []) ::
  (90, .iload_n 2, 1, 0, 0, 0, .null, []) ::
  (91, .invokestatic 91, 3, 133, 2, 0, .null, []) ::
  (94, .ifCond .eq 5, 3, 99, 0, 0, .null, []) :: am_c_MD_one_1
def am_c_MD_isName : List am_E := [(0, .aload_n 0, 1, 0, 0, 0, .null, []),
  (1, .getfield 228, 3, 11, 12, 0, .null, []),
  (4, .iload_n 1, 1, 0, 0, 0, .null, []),
  (5, .isub, 1, 0, 0, 0, .null, []),
  (6, .iload_n 2, 1, 0, 0, 0, .null, []),
  (7, .if_icmp .ne 61, 3, 68, 0, 0, .null, []),
  (10, .aload_n 0, 1, 0, 0, 0, .null, []),
  (11, .getfield 34, 3, 11, 10, 2, .null, []),
  (14, .iload_n 1, 1, 0, 0, 0, .null, []),
  (15, .iaload, 1, 0, 0, 0, .null, []),
  (16, .iload_n 3, 1, 0, 0, 0, .null, []),
  (17, .if_icmp .ne 51, 3, 68, 0, 0, .null, []),
  (20, .aload_n 0, 1, 0, 0, 0, .null, []),
  (21, .getfield 34, 3, 11, 10, 2, .null, []),
  (24, .iload_n 1, 1, 0, 0, 0, .null, []),
  (25, .iconst 1, 1, 0, 0, 0, .int 1, []),
  (26, .iadd, 1, 0, 0, 0, .null, []),
  (27, .iaload, 1, 0, 0, 0, .null, []),
  (28, .iload 4, 2, 0, 0, 0, .null, []),
  (30, .if_icmp .ne 38, 3, 68, 0, 0, .null, []),
  (33, .aload_n 0, 1, 0, 0, 0, .null, []),
  (34, .getfield 34, 3, 11, 10, 2, .null, []),
  (37, .iload_n 1, 1, 0, 0, 0, .null, []),
  (38, .iconst 2, 1, 0, 0, 0, .int 2, []),
  (39, .iadd, 1, 0, 0, 0, .null, []),
  (40, .iaload, 1, 0, 0, 0, .null, []),
  (41, .iload 5, 2, 0, 0, 0, .null, []),
  (43, .if_icmp .ne 25, 3, 68, 0, 0, .null, []),
  (46, .iload_n 2, 1, 0, 0, 0, .null, []),
  (47, .iconst 3, 1, 0, 0, 0, .int 3, []),
  (48, .if_icmp .eq 16, 3, 64, 0, 0, .null, []),
  (51, .aload_n 0, 1, 0, 0, 0, .null, []),
  (52, .getfield 34, 3, 11, 10, 2, .null, []),
  (55, .iload_n 1, 1, 0, 0, 0, .null, []),
  (56, .iconst 3, 1, 0, 0, 0, .int 3, []),
  (57, .iadd, 1, 0, 0, 0, .null, []),
  (58, .iaload, 1, 0, 0, 0, .null, []),
  (59, .iload 6, 2, 0, 0, 0, .null, []),
  (61, .if_icmp .ne 7, 3, 68, 0, 0, .null, []),
  (64, .iconst 1, 1, 0, 0, 0, .int 1, []),
  (65, .goto 4, 3, 69, 0, 0, .null, []),
  (68, .iconst 0, 1, 0, 0, 0, .int 0, []),
  (69, .ireturn, 1, 0, 0, 0, .null, [])]
def am_c_MD_isText_3 : List am_E := [(275, .invokevirtual 231, 3, 183, 0, 13, .null, []),
  (278, .ifCond .ne 7, 3, 285, 0, 0, .null, []),
  (281, .iconst 1, 1, 0, 0, 0, .int 1, []),
  (282, .goto 4, 3, 286, 0, 0, .null, []),
  (285, .iconst 0, 1, 0, 0, 0, .int 0, []),
  (286, .istore_n 2, 1, 0, 0, 0, .null, []),
  (287, .aload_n 0, 1, 0, 0, 0, .null, []),
  (288, .iload_n 2, 1, 0, 0, 0, .null, []),
  (289, .ifCond .eq 14, 3, 303, 0, 0, .null, []),
  (292, .aload_n 0, 1, 0, 0, 0, .null, []),
  (293, .getfield 234, 3, 11, 16, 1, .null, []),
  (296, .ifCond .eq 7, 3, 303, 0, 0, .null, []),
  (299, .iload_n 1, 1, 0, 0, 0, .null, []),
  (300, .goto 7, 3, 307, 0, 0, .null, []),
  (303, .aload_n 0, 1, 0, 0, 0, .null, []),
  (304, .getfield 228, 3, 11, 12, 0, .null, []),
  (307, .putfield 228, 3, 11, 12, 0, .null, []),
  (310, .iload_n 2, 1, 0, 0, 0, .null, []),
  (311, .ifCond .eq 14, 3, 325, 0, 0, .null, []),
  (314, .aload_n 0, 1, 0, 0, 0, .null, []),
  (315, .getfield 234, 3, 11, 16, 1, .null, []),
  (318, .ifCond .ne 7, 3, 325, 0, 0, .null, []),
  (321, .iconst 1, 1, 0, 0, 0, .int 1, []),
  (322, .goto 4, 3, 326, 0, 0, .null, []),
  (325, .iconst 0, 1, 0, 0, 0, .int 0, []),
  (326, .ireturn, 1, 0, 0, 0, .null, [])]
def am_c_MD_isText_2 : List am_E := (183, .bipush 108, 2, 0, 0, 0, .int 108, []) ::
  (185, .bipush 108, 2, 0, 0, 0, .int 108, []) ::
  (187, .invokevirtual 268, 3, 194, 6, 13, .null, []) ::
  (190, .ifCond .eq 11, 3, 201, 0, 0, .null, []) ::
  (193, .aload_n 0, 1, 0, 0, 0, .null, []) ::
  (194, .invokevirtual 278, 3, 189, 0, 13, .null, []) ::
  (197, .istore_n 2, 1, 0, 0, 0, .null, []) ::
  (198, .goto 72, 3, 270, 0, 0, .null, []) ::
  (201, .aload_n 0, 1, 0, 0, 0, .null, []) ::
  (202, .iload_n 1, 1, 0, 0, 0, .null, []) ::
  (203, .iconst 5, 1, 0, 0, 0, .int 5, []) ::
  (204, .bipush 112, 2, 0, 0, 0, .int 112, []) ::
  (206, .bipush 108, 2, 0, 0, 0, .int 108, []) ::
  (208, .bipush 97, 2, 0, 0, 0, .int 97, []) ::
  (210, .bipush 110, 2, 0, 0, 0, .int 110, []) ::
  (212, .invokevirtual 268, 3, 194, 6, 13, .null, []) ::
  (215, .ifCond .eq 24, 3, 239, 0, 0, .null, []) ::
  (218, .aload_n 0, 1, 0, 0, 0, .null, []) ::
  (219, .getfield 34, 3, 11, 10, 2, .null, []) ::
  (222, .iload_n 1, 1, 0, 0, 0, .null, []) ::
  (223, .iconst 4, 1, 0, 0, 0, .int 4, []) ::
  (224, .iadd, 1, 0, 0, 0, .null, []) ::
  (225, .iaload, 1, 0, 0, 0, .null, []) ::
  (226, .bipush 101, 2, 0, 0, 0, .int 101, []) ::
  (228, .if_icmp .ne 11, 3, 239, 0, 0, .null, []) ::
  (231, .aload_n 0, 1, 0, 0, 0, .null, []) ::
  (232, .invokevirtual 281, 3, 191, 0, 13, .null, []) ::
  (235, .istore_n 2, 1, 0, 0, 0, .null, []) ::
  (236, .goto 34, 3, 270, 0, 0, .null, []) ::
  (239, .aload_n 0, 1, 0, 0, 0, .null, []) ::
  (240, .iload_n 1, 1, 0, 0, 0, .null, []) ::
  (241, .iconst 3, 1, 0, 0, 0, .int 3, []) ::
  (242, .bipush 115, 2, 0, 0, 0, .int 115, []) ::
  (244, .bipush 101, 2, 0, 0, 0, .int 101, []) ::
  (246, .bipush 116, 2, 0, 0, 0, .int 116, []) ::
  (248, .iconst 0, 1, 0, 0, 0, .int 0, []) ::
  (249, .invokevirtual 268, 3, 194, 6, 13, .null, []) ::
  (252, .ifCond .eq 11, 3, 263, 0, 0, .null, []) ::
  (255, .aload_n 0, 1, 0, 0, 0, .null, []) ::
  (256, .invokevirtual 284, 3, 192, 0, 13, .null, []) ::
  (259, .istore_n 2, 1, 0, 0, 0, .null, []) ::
  (260, .goto 10, 3, 270, 0, 0, .null, []) ::
  (263, .aload_n 0, 1, 0, 0, 0, .null, []) ::
  (264, .iload_n 1, 1, 0, 0, 0, .null, []) ::
  (265, .putfield 228, 3, 11, 12, 0, .null, []) ::
  (268, .iconst 0, 1, 0, 0, 0, .int 0, []) ::
  (269, .ireturn, 1, 0, 0, 0, .null, []) ::
  (270, .iload_n 2, 1, 0, 0, 0, .null, []) ::
  (271, .ifCond .eq 14, 3, 285, 0, 0, .null, []) ::
  (274, .aload_n 0, 1, 0, 0, 0, .null, []) :: am_c_MD_isText_3
def am_c_MD_isText_1 : List am_E := (95, .iadd, 1, 0, 0, 0, .null, []) ::
  (96, .iaload, 1, 0, 0, 0, .null, []) ::
  (97, .bipush 114, 2, 0, 0, 0, .int 114, []) ::
  (99, .if_icmp .ne 52, 3, 151, 0, 0, .null, []) ::
  (102, .aload_n 0, 1, 0, 0, 0, .null, []) ::
  (103, .getfield 34, 3, 11, 10, 2, .null, []) ::
  (106, .iload_n 1, 1, 0, 0, 0, .null, []) ::
  (107, .iconst 5, 1, 0, 0, 0, .int 5, []) ::
  (108, .iadd, 1, 0, 0, 0, .null, []) ::
  (109, .iaload, 1, 0, 0, 0, .null, []) ::
  (110, .bipush 105, 2, 0, 0, 0, .int 105, []) ::
  (112, .if_icmp .ne 39, 3, 151, 0, 0, .null, []) ::
  (115, .aload_n 0, 1, 0, 0, 0, .null, []) ::
  (116, .getfield 34, 3, 11, 10, 2, .null, []) ::
  (119, .iload_n 1, 1, 0, 0, 0, .null, []) ::
  (120, .bipush 6, 2, 0, 0, 0, .int 6, []) ::
  (122, .iadd, 1, 0, 0, 0, .null, []) ::
  (123, .iaload, 1, 0, 0, 0, .null, []) ::
  (124, .bipush 116, 2, 0, 0, 0, .int 116, []) ::
  (126, .if_icmp .ne 25, 3, 151, 0, 0, .null, []) ::
  (129, .aload_n 0, 1, 0, 0, 0, .null, []) ::
  (130, .getfield 34, 3, 11, 10, 2, .null, []) ::
  (133, .iload_n 1, 1, 0, 0, 0, .null, []) ::
  (134, .bipush 7, 2, 0, 0, 0, .int 7, []) ::
  (136, .iadd, 1, 0, 0, 0, .null, []) ::
  (137, .iaload, 1, 0, 0, 0, .null, []) ::
  (138, .bipush 121, 2, 0, 0, 0, .int 121, []) ::
  (140, .if_icmp .ne 11, 3, 151, 0, 0, .null, []) ::
  (143, .aload_n 0, 1, 0, 0, 0, .null, []) ::
  (144, .invokevirtual 272, 3, 187, 0, 13, .null, []) ::
  (147, .istore_n 2, 1, 0, 0, 0, .null, []) ::
  (148, .goto 122, 3, 270, 0, 0, .null, []) ::
  (151, .aload_n 0, 1, 0, 0, 0, .null, []) ::
  (152, .iload_n 1, 1, 0, 0, 0, .null, []) ::
  (153, .iconst 4, 1, 0, 0, 0, .int 4, []) ::
  (154, .bipush 103, 2, 0, 0, 0, .int 103, []) ::
  (156, .bipush 114, 2, 0, 0, 0, .int 114, []) ::
  (158, .bipush 105, 2, 0, 0, 0, .int 105, []) ::
  (160, .bipush 100, 2, 0, 0, 0, .int 100, []) ::
  (162, .invokevirtual 268, 3, 194, 6, 13, .null, []) ::
  (165, .ifCond .eq 11, 3, 176, 0, 0, .null, []) ::
  (168, .aload_n 0, 1, 0, 0, 0, .null, []) ::
  (169, .invokevirtual 275, 3, 188, 0, 13, .null, []) ::
  (172, .istore_n 2, 1, 0, 0, 0, .null, []) ::
  (173, .goto 97, 3, 270, 0, 0, .null, []) ::
  (176, .aload_n 0, 1, 0, 0, 0, .null, []) ::
  (177, .iload_n 1, 1, 0, 0, 0, .null, []) ::
  (178, .iconst 4, 1, 0, 0, 0, .int 4, []) ::
  (179, .bipush 119, 2, 0, 0, 0, .int 119, []) ::
  (181, .bipush 97, 2, 0, 0, 0, .int 97, []) :: am_c_MD_isText_2
def am_c_MD_isText : List am_E := (0, .aload_n 0, 1, 0, 0, 0, .null, []) ::
  (1, .iconst 0, 1, 0, 0, 0, .int 0, []) ::
  (2, .putfield 228, 3, 11, 12, 0, .null, []) ::
  (5, .aload_n 0, 1, 0, 0, 0, .null, []) ::
  (6, .iconst 0, 1, 0, 0, 0, .int 0, []) ::
  (7, .putfield 238, 3, 11, 14, 0, .null, []) ::
  (10, .aload_n 0, 1, 0, 0, 0, .null, []) ::
  (11, .iconst 0, 1, 0, 0, 0, .int 0, []) ::
  (12, .putfield 234, 3, 11, 16, 1, .null, []) ::
  (15, .aload_n 0, 1, 0, 0, 0, .null, []) ::
  (16, .invokevirtual 231, 3, 183, 0, 13, .null, []) ::
  (19, .pop, 1, 0, 0, 0, .null, []) ::
  (20, .aload_n 0, 1, 0, 0, 0, .null, []) ::
  (21, .getfield 228, 3, 11, 12, 0, .null, []) ::
  (24, .istore_n 1, 1, 0, 0, 0, .null, []) ::
  (25, .aload_n 0, 1, 0, 0, 0, .null, [(0, 0)]) ::
  (26, .getfield 228, 3, 11, 12, 0, .null, []) ::
  (29, .aload_n 0, 1, 0, 0, 0, .null, []) ::
  (30, .getfield 225, 3, 11, 11, 0, .null, []) ::
  (33, .if_icmp .ge 38, 3, 71, 0, 0, .null, []) ::
  (36, .aload_n 0, 1, 0, 0, 0, .null, []) ::
  (37, .getfield 34, 3, 11, 10, 2, .null, []) ::
  (40, .aload_n 0, 1, 0, 0, 0, .null, []) ::
  (41, .getfield 228, 3, 11, 12, 0, .null, []) ::
  (44, .iaload, 1, 0, 0, 0, .null, []) ::
  (45, .i2l, 1, 0, 0, 0, .null, []) ::
  (46, .ldc2_w 264, 3, 0, 0, 0, .long 97, []) ::
  (49, .ldc2_w 266, 3, 0, 0, 0, .long 122, []) ::
  (52, .invokestatic 76, 3, 131, 3, 0, .null, []) ::
  (55, .ifCond .eq 16, 3, 71, 0, 0, .null, []) ::
  (58, .aload_n 0, 1, 0, 0, 0, .null, []) ::
  (59, .dup, 1, 0, 0, 0, .null, []) ::
  (60, .getfield 228, 3, 11, 12, 0, .null, []) ::
  (63, .iconst 1, 1, 0, 0, 0, .int 1, []) ::
  (64, .iadd, 1, 0, 0, 0, .null, []) ::
  (65, .putfield 228, 3, 11, 12, 0, .null, []) ::
  (68, .goto (-43), 3, 25, 0, 0, .null, []) ::
  (71, .aload_n 0, 1, 0, 0, 0, .null, []) ::
  (72, .iload_n 1, 1, 0, 0, 0, .null, []) ::
  (73, .bipush 8, 2, 0, 0, 0, .int 8, []) ::
  (75, .bipush 109, 2, 0, 0, 0, .int 109, []) ::
  (77, .bipush 97, 2, 0, 0, 0, .int 97, []) ::
  (79, .bipush 106, 2, 0, 0, 0, .int 106, []) ::
  (81, .bipush 111, 2, 0, 0, 0, .int 111, []) ::
  (83, .invokevirtual 268, 3, 194, 6, 13, .null, []) ::
  (86, .ifCond .eq 65, 3, 151, 0, 0, .null, []) ::
  (89, .aload_n 0, 1, 0, 0, 0, .null, []) ::
  (90, .getfield 34, 3, 11, 10, 2, .null, []) ::
  (93, .iload_n 1, 1, 0, 0, 0, .null, []) ::
  (94, .iconst 4, 1, 0, 0, 0, .int 4, []) :: am_c_MD_isText_1
def am_c_MD_read_1 : List am_E := [(85, .iastore, 1, 0, 0, 0, .null, []),
  (86, .iinc 3 1, 3, 0, 0, 0, .int 1, []),
  (89, .goto (-25), 3, 64, 0, 0, .null, []),
  (92, .aload_n 0, 1, 0, 0, 0, .null, []),
  (93, .getfield 238, 3, 11, 14, 0, .null, []),
  (96, .ireturn, 1, 0, 0, 0, .null, [])]
def am_c_MD_read : List am_E := (0, .aload_n 0, 1, 0, 0, 0, .null, []) ::
  (1, .invokevirtual 287, 3, 195, 0, 13, .null, []) ::
  (4, .istore_n 1, 1, 0, 0, 0, .null, []) ::
  (5, .aload_n 0, 1, 0, 0, 0, .null, []) ::
  (6, .invokevirtual 231, 3, 183, 0, 13, .null, []) ::
  (9, .ifCond .ne 10, 3, 19, 0, 0, .null, []) ::
  (12, .aload_n 0, 1, 0, 0, 0, .null, []) ::
  (13, .getfield 225, 3, 11, 11, 0, .null, []) ::
  (16, .goto 7, 3, 23, 0, 0, .null, []) ::
  (19, .aload_n 0, 1, 0, 0, 0, .null, []) ::
  (20, .getfield 228, 3, 11, 12, 0, .null, []) ::
  (23, .istore_n 2, 1, 0, 0, 0, .null, []) ::
  (24, .aload_n 0, 1, 0, 0, 0, .null, []) ::
  (25, .iconst 0, 1, 0, 0, 0, .int 0, []) ::
  (26, .putfield 225, 3, 11, 11, 0, .null, []) ::
  (29, .iload_n 1, 1, 0, 0, 0, .null, []) ::
  (30, .ifCond .ne 8, 3, 38, 0, 0, .null, []) ::
  (33, .bipush (-20), 2, 0, 0, 0, .int (-20), []) ::
  (35, .iload_n 2, 1, 0, 0, 0, .null, []) ::
  (36, .isub, 1, 0, 0, 0, .null, []) ::
  (37, .ireturn, 1, 0, 0, 0, .null, []) ::
  (38, .aload_n 0, 1, 0, 0, 0, .null, []) ::
  (39, .invokevirtual 176, 3, 197, 0, 13, .null, []) ::
  (42, .aload_n 0, 1, 0, 0, 0, .null, []) ::
  (43, .getfield 7, 3, 11, 0, 2, .null, []) ::
  (46, .iconst 0, 1, 0, 0, 0, .int 0, []) ::
  (47, .aload_n 0, 1, 0, 0, 0, .null, []) ::
  (48, .getfield 244, 3, 11, 13, 0, .null, []) ::
  (51, .iastore, 1, 0, 0, 0, .null, []) ::
  (52, .aload_n 0, 1, 0, 0, 0, .null, []) ::
  (53, .getfield 7, 3, 11, 0, 2, .null, []) ::
  (56, .iconst 1, 1, 0, 0, 0, .int 1, []) ::
  (57, .aload_n 0, 1, 0, 0, 0, .null, []) ::
  (58, .getfield 238, 3, 11, 14, 0, .null, []) ::
  (61, .iastore, 1, 0, 0, 0, .null, []) ::
  (62, .iconst 0, 1, 0, 0, 0, .int 0, []) ::
  (63, .istore_n 3, 1, 0, 0, 0, .null, []) ::
  (64, .iload_n 3, 1, 0, 0, 0, .null, [(0, 0)]) ::
  (65, .aload_n 0, 1, 0, 0, 0, .null, []) ::
  (66, .getfield 238, 3, 11, 14, 0, .null, []) ::
  (69, .if_icmp .ge 23, 3, 92, 0, 0, .null, []) ::
  (72, .aload_n 0, 1, 0, 0, 0, .null, []) ::
  (73, .getfield 7, 3, 11, 0, 2, .null, []) ::
  (76, .iconst 4, 1, 0, 0, 0, .int 4, []) ::
  (77, .iload_n 3, 1, 0, 0, 0, .null, []) ::
  (78, .iadd, 1, 0, 0, 0, .null, []) ::
  (79, .aload_n 0, 1, 0, 0, 0, .null, []) ::
  (80, .getfield 37, 3, 11, 15, 2, .null, []) ::
  (83, .iload_n 3, 1, 0, 0, 0, .null, []) ::
  (84, .iaload, 1, 0, 0, 0, .null, []) :: am_c_MD_read_1
def am_c_MD_notes_1 : List am_E := [(89, .return_, 1, 0, 0, 0, .null, [])]
def am_c_MD_notes : List am_E := (0, .aload_n 0, 1, 0, 0, 0, .null, []) ::
  (1, .getfield 110, 3, 11, 19, 0, .null, []) ::
  (4, .bipush 6, 2, 0, 0, 0, .int 6, []) ::
  (6, .if_icmp .ne 39, 3, 45, 0, 0, .null, []) ::
  (9, .bipush 116, 2, 0, 0, 0, .int 116, []) ::
  (11, .istore_n 1, 1, 0, 0, 0, .null, []) ::
  (12, .iload_n 1, 1, 0, 0, 0, .null, [(0, 0)]) ::
  (13, .sipush 696, 3, 0, 0, 0, .int 696, []) ::
  (16, .if_icmp .ge 24, 3, 40, 0, 0, .null, []) ::
  (19, .aload_n 0, 1, 0, 0, 0, .null, []) ::
  (20, .getfield 43, 3, 11, 18, 2, .null, []) ::
  (23, .iload_n 1, 1, 0, 0, 0, .null, []) ::
  (24, .bipush 116, 2, 0, 0, 0, .int 116, []) ::
  (26, .isub, 1, 0, 0, 0, .null, []) ::
  (27, .aload_n 0, 1, 0, 0, 0, .null, []) ::
  (28, .getfield 43, 3, 11, 18, 2, .null, []) ::
  (31, .iload_n 1, 1, 0, 0, 0, .null, []) ::
  (32, .iaload, 1, 0, 0, 0, .null, []) ::
  (33, .iastore, 1, 0, 0, 0, .null, []) ::
  (34, .iinc 1 1, 3, 0, 0, 0, .int 1, []) ::
  (37, .goto (-25), 3, 12, 0, 0, .null, []) ::
  (40, .aload_n 0, 1, 0, 0, 0, .null, []) ::
  (41, .iconst 5, 1, 0, 0, 0, .int 5, []) ::
  (42, .putfield 110, 3, 11, 19, 0, .null, []) ::
  (45, .iconst 0, 1, 0, 0, 0, .int 0, []) ::
  (46, .istore_n 1, 1, 0, 0, 0, .null, []) ::
  (47, .iload_n 1, 1, 0, 0, 0, .null, [(0, 0)]) ::
  (48, .bipush 116, 2, 0, 0, 0, .int 116, []) ::
  (50, .if_icmp .ge 29, 3, 79, 0, 0, .null, []) ::
  (53, .aload_n 0, 1, 0, 0, 0, .null, []) ::
  (54, .getfield 43, 3, 11, 18, 2, .null, []) ::
  (57, .bipush 116, 2, 0, 0, 0, .int 116, []) ::
  (59, .aload_n 0, 1, 0, 0, 0, .null, []) ::
  (60, .getfield 110, 3, 11, 19, 0, .null, []) ::
  (63, .imul, 1, 0, 0, 0, .null, []) ::
  (64, .iload_n 1, 1, 0, 0, 0, .null, []) ::
  (65, .iadd, 1, 0, 0, 0, .null, []) ::
  (66, .aload_n 0, 1, 0, 0, 0, .null, []) ::
  (67, .getfield 7, 3, 11, 0, 2, .null, []) ::
  (70, .iload_n 1, 1, 0, 0, 0, .null, []) ::
  (71, .iaload, 1, 0, 0, 0, .null, []) ::
  (72, .iastore, 1, 0, 0, 0, .null, []) ::
  (73, .iinc 1 1, 3, 0, 0, 0, .int 1, []) ::
  (76, .goto (-29), 3, 47, 0, 0, .null, []) ::
  (79, .aload_n 0, 1, 0, 0, 0, .null, []) ::
  (80, .dup, 1, 0, 0, 0, .null, []) ::
  (81, .getfield 110, 3, 11, 19, 0, .null, []) ::
  (84, .iconst 1, 1, 0, 0, 0, .int 1, []) ::
  (85, .iadd, 1, 0, 0, 0, .null, []) ::
  (86, .putfield 110, 3, 11, 19, 0, .null, []) :: am_c_MD_notes_1
def am_c_MD_undo : List am_E := [(0, .aload_n 0, 1, 0, 0, 0, .null, []),
  (1, .getfield 110, 3, 11, 19, 0, .null, []),
  (4, .ifCond .ne 6, 3, 10, 0, 0, .null, []),
  (7, .bipush (-4), 2, 0, 0, 0, .int (-4), []),
  (9, .ireturn, 1, 0, 0, 0, .null, []),
  (10, .aload_n 0, 1, 0, 0, 0, .null, []),
  (11, .dup, 1, 0, 0, 0, .null, []),
  (12, .getfield 110, 3, 11, 19, 0, .null, []),
  (15, .iconst 1, 1, 0, 0, 0, .int 1, []),
  (16, .isub, 1, 0, 0, 0, .null, []),
  (17, .putfield 110, 3, 11, 19, 0, .null, []),
  (20, .iconst 0, 1, 0, 0, 0, .int 0, []),
  (21, .istore_n 1, 1, 0, 0, 0, .null, []),
  (22, .iload_n 1, 1, 0, 0, 0, .null, [(0, 0)]),
  (23, .bipush 116, 2, 0, 0, 0, .int 116, []),
  (25, .if_icmp .ge 29, 3, 54, 0, 0, .null, []),
  (28, .aload_n 0, 1, 0, 0, 0, .null, []),
  (29, .getfield 7, 3, 11, 0, 2, .null, []),
  (32, .iload_n 1, 1, 0, 0, 0, .null, []),
  (33, .aload_n 0, 1, 0, 0, 0, .null, []),
  (34, .getfield 43, 3, 11, 18, 2, .null, []),
  (37, .bipush 116, 2, 0, 0, 0, .int 116, []),
  (39, .aload_n 0, 1, 0, 0, 0, .null, []),
  (40, .getfield 110, 3, 11, 19, 0, .null, []),
  (43, .imul, 1, 0, 0, 0, .null, []),
  (44, .iload_n 1, 1, 0, 0, 0, .null, []),
  (45, .iadd, 1, 0, 0, 0, .null, []),
  (46, .iaload, 1, 0, 0, 0, .null, []),
  (47, .iastore, 1, 0, 0, 0, .null, []),
  (48, .iinc 1 1, 3, 0, 0, 0, .int 1, []),
  (51, .goto (-29), 3, 22, 0, 0, .null, []),
  (54, .aload_n 0, 1, 0, 0, 0, .null, []),
  (55, .getfield 110, 3, 11, 19, 0, .null, []),
  (58, .ireturn, 1, 0, 0, 0, .null, [])]
def am_c_MD_image : List am_E := [(0, .iconst 0, 1, 0, 0, 0, .int 0, []),
  (1, .istore_n 1, 1, 0, 0, 0, .null, []),
  (2, .iload_n 1, 1, 0, 0, 0, .null, [(0, 0)]),
  (3, .bipush 116, 2, 0, 0, 0, .int 116, []),
  (5, .if_icmp .ge 21, 3, 26, 0, 0, .null, []),
  (8, .aload_n 0, 1, 0, 0, 0, .null, []),
  (9, .getfield 46, 3, 11, 20, 2, .null, []),
  (12, .iload_n 1, 1, 0, 0, 0, .null, []),
  (13, .aload_n 0, 1, 0, 0, 0, .null, []),
  (14, .getfield 7, 3, 11, 0, 2, .null, []),
  (17, .iload_n 1, 1, 0, 0, 0, .null, []),
  (18, .iaload, 1, 0, 0, 0, .null, []),
  (19, .iastore, 1, 0, 0, 0, .null, []),
  (20, .iinc 1 1, 3, 0, 0, 0, .int 1, []),
  (23, .goto (-21), 3, 2, 0, 0, .null, []),
  (26, .iconst 0, 1, 0, 0, 0, .int 0, []),
  (27, .istore_n 1, 1, 0, 0, 0, .null, []),
  (28, .iload_n 1, 1, 0, 0, 0, .null, [(0, 0)]),
  (29, .sipush 696, 3, 0, 0, 0, .int 696, []),
  (32, .if_icmp .ge 21, 3, 53, 0, 0, .null, []),
  (35, .aload_n 0, 1, 0, 0, 0, .null, []),
  (36, .getfield 49, 3, 11, 21, 2, .null, []),
  (39, .iload_n 1, 1, 0, 0, 0, .null, []),
  (40, .aload_n 0, 1, 0, 0, 0, .null, []),
  (41, .getfield 43, 3, 11, 18, 2, .null, []),
  (44, .iload_n 1, 1, 0, 0, 0, .null, []),
  (45, .iaload, 1, 0, 0, 0, .null, []),
  (46, .iastore, 1, 0, 0, 0, .null, []),
  (47, .iinc 1 1, 3, 0, 0, 0, .int 1, []),
  (50, .goto (-22), 3, 28, 0, 0, .null, []),
  (53, .aload_n 0, 1, 0, 0, 0, .null, []),
  (54, .aload_n 0, 1, 0, 0, 0, .null, []),
  (55, .getfield 110, 3, 11, 19, 0, .null, []),
  (58, .putfield 52, 3, 11, 22, 0, .null, []),
  (61, .iconst 1, 1, 0, 0, 0, .int 1, []),
  (62, .ireturn, 1, 0, 0, 0, .null, [])]
def am_c_MD_restore : List am_E := [(0, .aload_n 0, 1, 0, 0, 0, .null, []),
  (1, .getfield 52, 3, 11, 22, 0, .null, []),
  (4, .ifCond .ge 6, 3, 10, 0, 0, .null, []),
  (7, .bipush (-4), 2, 0, 0, 0, .int (-4), []),
  (9, .ireturn, 1, 0, 0, 0, .null, []),
  (10, .iconst 0, 1, 0, 0, 0, .int 0, []),
  (11, .istore_n 1, 1, 0, 0, 0, .null, []),
  (12, .iload_n 1, 1, 0, 0, 0, .null, [(0, 0)]),
  (13, .bipush 116, 2, 0, 0, 0, .int 116, []),
  (15, .if_icmp .ge 21, 3, 36, 0, 0, .null, []),
  (18, .aload_n 0, 1, 0, 0, 0, .null, []),
  (19, .getfield 7, 3, 11, 0, 2, .null, []),
  (22, .iload_n 1, 1, 0, 0, 0, .null, []),
  (23, .aload_n 0, 1, 0, 0, 0, .null, []),
  (24, .getfield 46, 3, 11, 20, 2, .null, []),
  (27, .iload_n 1, 1, 0, 0, 0, .null, []),
  (28, .iaload, 1, 0, 0, 0, .null, []),
  (29, .iastore, 1, 0, 0, 0, .null, []),
  (30, .iinc 1 1, 3, 0, 0, 0, .int 1, []),
  (33, .goto (-21), 3, 12, 0, 0, .null, []),
  (36, .iconst 0, 1, 0, 0, 0, .int 0, []),
  (37, .istore_n 1, 1, 0, 0, 0, .null, []),
  (38, .iload_n 1, 1, 0, 0, 0, .null, [(0, 0)]),
  (39, .sipush 696, 3, 0, 0, 0, .int 696, []),
  (42, .if_icmp .ge 21, 3, 63, 0, 0, .null, []),
  (45, .aload_n 0, 1, 0, 0, 0, .null, []),
  (46, .getfield 43, 3, 11, 18, 2, .null, []),
  (49, .iload_n 1, 1, 0, 0, 0, .null, []),
  (50, .aload_n 0, 1, 0, 0, 0, .null, []),
  (51, .getfield 49, 3, 11, 21, 2, .null, []),
  (54, .iload_n 1, 1, 0, 0, 0, .null, []),
  (55, .iaload, 1, 0, 0, 0, .null, []),
  (56, .iastore, 1, 0, 0, 0, .null, []),
  (57, .iinc 1 1, 3, 0, 0, 0, .int 1, []),
  (60, .goto (-22), 3, 38, 0, 0, .null, []),
  (63, .aload_n 0, 1, 0, 0, 0, .null, []),
  (64, .aload_n 0, 1, 0, 0, 0, .null, []),
  (65, .getfield 52, 3, 11, 22, 0, .null, []),
  (68, .putfield 110, 3, 11, 19, 0, .null, []),
  (71, .iconst 1, 1, 0, 0, 0, .int 1, []),
  (72, .ireturn, 1, 0, 0, 0, .null, [])]
def am_c_MD_isSheet : List am_E := [(0, .iload_n 0, 1, 0, 0, 0, .null, []),
  (1, .i2l, 1, 0, 0, 0, .null, []),
  (2, .lconst 0, 1, 0, 0, 0, .long 0, []),
  (3, .ldc2_w 161, 3, 0, 0, 0, .long 3, []),
  (6, .invokestatic 76, 3, 131, 3, 0, .null, []),
  (9, .ireturn, 1, 0, 0, 0, .null, [])]
def am_c_MD_cut : List am_E := [(0, .iload_n 2, 1, 0, 0, 0, .null, []),
  (1, .ifCond .ne 10, 3, 11, 0, 0, .null, []),
  (4, .lload_n 0, 1, 0, 0, 0, .null, []),
  (5, .l2i, 1, 0, 0, 0, .null, []),
  (6, .i2b, 1, 0, 0, 0, .null, []),
  (7, .i2l, 1, 0, 0, 0, .null, []),
  (8, .goto 27, 3, 35, 0, 0, .null, []),
  (11, .iload_n 2, 1, 0, 0, 0, .null, []),
  (12, .iconst 1, 1, 0, 0, 0, .int 1, []),
  (13, .if_icmp .ne 10, 3, 23, 0, 0, .null, []),
  (16, .lload_n 0, 1, 0, 0, 0, .null, []),
  (17, .l2i, 1, 0, 0, 0, .null, []),
  (18, .i2s, 1, 0, 0, 0, .null, []),
  (19, .i2l, 1, 0, 0, 0, .null, []),
  (20, .goto 15, 3, 35, 0, 0, .null, []),
  (23, .iload_n 2, 1, 0, 0, 0, .null, []),
  (24, .iconst 2, 1, 0, 0, 0, .int 2, []),
  (25, .if_icmp .ne 9, 3, 34, 0, 0, .null, []),
  (28, .lload_n 0, 1, 0, 0, 0, .null, []),
  (29, .l2i, 1, 0, 0, 0, .null, []),
  (30, .i2l, 1, 0, 0, 0, .null, []),
  (31, .goto 4, 3, 35, 0, 0, .null, []),
  (34, .lload_n 0, 1, 0, 0, 0, .null, []),
  (35, .lreturn, 1, 0, 0, 0, .null, [])]
def am_c_MD_sheet : List am_E := [(0, .iload_n 1, 1, 0, 0, 0, .null, []),
  (1, .invokestatic 169, 3, 201, 1, 0, .null, []),
  (4, .ifCond .eq 21, 3, 25, 0, 0, .null, []),
  (7, .iload_n 2, 1, 0, 0, 0, .null, []),
  (8, .i2l, 1, 0, 0, 0, .null, []),
  (9, .lconst 0, 1, 0, 0, 0, .long 0, []),
  (10, .ldc2_w 161, 3, 0, 0, 0, .long 3, []),
  (13, .invokestatic 76, 3, 131, 3, 0, .null, []),
  (16, .ifCond .eq 9, 3, 25, 0, 0, .null, []),
  (19, .iload_n 3, 1, 0, 0, 0, .null, []),
  (20, .bipush 24, 2, 0, 0, 0, .int 24, []),
  (22, .if_icmp .le 5, 3, 27, 0, 0, .null, []),
  (25, .iconst (-1), 1, 0, 0, 0, .int (-1), []),
  (26, .ireturn, 1, 0, 0, 0, .null, []),
  (27, .iload_n 3, 1, 0, 0, 0, .null, []),
  (28, .ifCond .ge 6, 3, 34, 0, 0, .null, []),
  (31, .bipush (-14), 2, 0, 0, 0, .int (-14), []),
  (33, .ireturn, 1, 0, 0, 0, .null, []),
  (34, .aload_n 0, 1, 0, 0, 0, .null, []),
  (35, .getfield 56, 3, 11, 23, 2, .null, []),
  (38, .iload_n 1, 1, 0, 0, 0, .null, []),
  (39, .iload_n 2, 1, 0, 0, 0, .null, []),
  (40, .iastore, 1, 0, 0, 0, .null, []),
  (41, .aload_n 0, 1, 0, 0, 0, .null, []),
  (42, .getfield 59, 3, 11, 24, 2, .null, []),
  (45, .iload_n 1, 1, 0, 0, 0, .null, []),
  (46, .iload_n 3, 1, 0, 0, 0, .null, []),
  (47, .iastore, 1, 0, 0, 0, .null, []),
  (48, .iconst 0, 1, 0, 0, 0, .int 0, []),
  (49, .istore 4, 2, 0, 0, 0, .null, []),
  (51, .iload 4, 2, 0, 0, 0, .null, [(0, 0)]),
  (53, .bipush 24, 2, 0, 0, 0, .int 24, []),
  (55, .if_icmp .ge 22, 3, 77, 0, 0, .null, []),
  (58, .aload_n 0, 1, 0, 0, 0, .null, []),
  (59, .getfield 62, 3, 11, 25, 2, .null, []),
  (62, .bipush 24, 2, 0, 0, 0, .int 24, []),
  (64, .iload_n 1, 1, 0, 0, 0, .null, []),
  (65, .imul, 1, 0, 0, 0, .null, []),
  (66, .iload 4, 2, 0, 0, 0, .null, []),
  (68, .iadd, 1, 0, 0, 0, .null, []),
  (69, .lconst 0, 1, 0, 0, 0, .long 0, []),
  (70, .lastore, 1, 0, 0, 0, .null, []),
  (71, .iinc 4 1, 3, 0, 0, 0, .int 1, []),
  (74, .goto (-23), 3, 51, 0, 0, .null, []),
  (77, .iload_n 3, 1, 0, 0, 0, .null, []),
  (78, .ireturn, 1, 0, 0, 0, .null, [])]
def am_c_MD_drop : List am_E := [(0, .iload_n 1, 1, 0, 0, 0, .null, []),
  (1, .invokestatic 169, 3, 201, 1, 0, .null, []),
  (4, .ifCond .ne 5, 3, 9, 0, 0, .null, []),
  (7, .iconst (-1), 1, 0, 0, 0, .int (-1), []),
  (8, .ireturn, 1, 0, 0, 0, .null, []),
  (9, .aload_n 0, 1, 0, 0, 0, .null, []),
  (10, .getfield 56, 3, 11, 23, 2, .null, []),
  (13, .iload_n 1, 1, 0, 0, 0, .null, []),
  (14, .iaload, 1, 0, 0, 0, .null, []),
  (15, .ifCond .ge 6, 3, 21, 0, 0, .null, []),
  (18, .bipush (-11), 2, 0, 0, 0, .int (-11), []),
  (20, .ireturn, 1, 0, 0, 0, .null, []),
  (21, .aload_n 0, 1, 0, 0, 0, .null, []),
  (22, .getfield 56, 3, 11, 23, 2, .null, []),
  (25, .iload_n 1, 1, 0, 0, 0, .null, []),
  (26, .iconst (-1), 1, 0, 0, 0, .int (-1), []),
  (27, .iastore, 1, 0, 0, 0, .null, []),
  (28, .aload_n 0, 1, 0, 0, 0, .null, []),
  (29, .getfield 59, 3, 11, 24, 2, .null, []),
  (32, .iload_n 1, 1, 0, 0, 0, .null, []),
  (33, .iaload, 1, 0, 0, 0, .null, []),
  (34, .ireturn, 1, 0, 0, 0, .null, [])]
def am_c_MD_why : List am_E := [(0, .aload_n 0, 1, 0, 0, 0, .null, []),
  (1, .getfield 56, 3, 11, 23, 2, .null, []),
  (4, .iload_n 1, 1, 0, 0, 0, .null, []),
  (5, .iaload, 1, 0, 0, 0, .null, []),
  (6, .ifCond .ge 6, 3, 12, 0, 0, .null, []),
  (9, .bipush (-11), 2, 0, 0, 0, .int (-11), []),
  (11, .ireturn, 1, 0, 0, 0, .null, []),
  (12, .aload_n 0, 1, 0, 0, 0, .null, []),
  (13, .getfield 56, 3, 11, 23, 2, .null, []),
  (16, .iload_n 1, 1, 0, 0, 0, .null, []),
  (17, .iaload, 1, 0, 0, 0, .null, []),
  (18, .iload_n 2, 1, 0, 0, 0, .null, []),
  (19, .if_icmp .eq 6, 3, 25, 0, 0, .null, []),
  (22, .bipush (-12), 2, 0, 0, 0, .int (-12), []),
  (24, .ireturn, 1, 0, 0, 0, .null, []),
  (25, .iload_n 3, 1, 0, 0, 0, .null, []),
  (26, .ifCond .lt 16, 3, 42, 0, 0, .null, []),
  (29, .iload 4, 2, 0, 0, 0, .null, []),
  (31, .aload_n 0, 1, 0, 0, 0, .null, []),
  (32, .getfield 59, 3, 11, 24, 2, .null, []),
  (35, .iload_n 1, 1, 0, 0, 0, .null, []),
  (36, .iaload, 1, 0, 0, 0, .null, []),
  (37, .iload_n 3, 1, 0, 0, 0, .null, []),
  (38, .isub, 1, 0, 0, 0, .null, []),
  (39, .if_icmp .le 8, 3, 47, 0, 0, .null, []),
  (42, .bipush (-13), 2, 0, 0, 0, .int (-13), []),
  (44, .goto 4, 3, 48, 0, 0, .null, []),
  (47, .iconst 0, 1, 0, 0, 0, .int 0, []),
  (48, .ireturn, 1, 0, 0, 0, .null, [])]
def am_c_MD_item : List am_E := [(0, .iload_n 1, 1, 0, 0, 0, .null, []),
  (1, .invokestatic 169, 3, 201, 1, 0, .null, []),
  (4, .ifCond .eq 15, 3, 19, 0, 0, .null, []),
  (7, .iload_n 2, 1, 0, 0, 0, .null, []),
  (8, .i2l, 1, 0, 0, 0, .null, []),
  (9, .lconst 0, 1, 0, 0, 0, .long 0, []),
  (10, .ldc2_w 161, 3, 0, 0, 0, .long 3, []),
  (13, .invokestatic 76, 3, 131, 3, 0, .null, []),
  (16, .ifCond .ne 5, 3, 21, 0, 0, .null, []),
  (19, .iconst (-1), 1, 0, 0, 0, .int (-1), []),
  (20, .ireturn, 1, 0, 0, 0, .null, []),
  (21, .aload_n 0, 1, 0, 0, 0, .null, []),
  (22, .iload_n 1, 1, 0, 0, 0, .null, []),
  (23, .iload_n 2, 1, 0, 0, 0, .null, []),
  (24, .iload_n 3, 1, 0, 0, 0, .null, []),
  (25, .iconst 1, 1, 0, 0, 0, .int 1, []),
  (26, .invokevirtual 172, 3, 205, 4, 13, .null, []),
  (29, .istore 6, 2, 0, 0, 0, .null, []),
  (31, .iload 6, 2, 0, 0, 0, .null, []),
  (33, .ifCond .ge 6, 3, 39, 0, 0, .null, []),
  (36, .iload 6, 2, 0, 0, 0, .null, []),
  (38, .ireturn, 1, 0, 0, 0, .null, []),
  (39, .aload_n 0, 1, 0, 0, 0, .null, []),
  (40, .getfield 62, 3, 11, 25, 2, .null, []),
  (43, .bipush 24, 2, 0, 0, 0, .int 24, []),
  (45, .iload_n 1, 1, 0, 0, 0, .null, []),
  (46, .imul, 1, 0, 0, 0, .null, []),
  (47, .iload_n 3, 1, 0, 0, 0, .null, []),
  (48, .iadd, 1, 0, 0, 0, .null, []),
  (49, .lload 4, 2, 0, 0, 0, .null, []),
  (51, .iload_n 2, 1, 0, 0, 0, .null, []),
  (52, .invokestatic 290, 3, 202, 2, 0, .null, []),
  (55, .lastore, 1, 0, 0, 0, .null, []),
  (56, .iconst 1, 1, 0, 0, 0, .int 1, []),
  (57, .ireturn, 1, 0, 0, 0, .null, [])]
def am_c_MD_copy_2 : List am_E := [(172, .iload 6, 2, 0, 0, 0, .null, []),
  (174, .laload, 1, 0, 0, 0, .null, []),
  (175, .lastore, 1, 0, 0, 0, .null, []),
  (176, .iinc 6 1, 3, 0, 0, 0, .int 1, []),
  (179, .goto (-32), 3, 147, 0, 0, .null, []),
  (182, .iload 5, 2, 0, 0, 0, .null, []),
  (184, .ireturn, 1, 0, 0, 0, .null, [])]
def am_c_MD_copy_1 : List am_E := (88, .i2l, 1, 0, 0, 0, .null, []) ::
  (89, .iload 5, 2, 0, 0, 0, .null, []) ::
  (91, .i2l, 1, 0, 0, 0, .null, []) ::
  (92, .ladd, 1, 0, 0, 0, .null, []) ::
  (93, .aload_n 0, 1, 0, 0, 0, .null, []) ::
  (94, .getfield 59, 3, 11, 24, 2, .null, []) ::
  (97, .iload_n 3, 1, 0, 0, 0, .null, []) ::
  (98, .iaload, 1, 0, 0, 0, .null, []) ::
  (99, .i2l, 1, 0, 0, 0, .null, []) ::
  (100, .lcmp, 1, 0, 0, 0, .null, []) ::
  (101, .ifCond .le 6, 3, 107, 0, 0, .null, []) ::
  (104, .bipush (-13), 2, 0, 0, 0, .int (-13), []) ::
  (106, .ireturn, 1, 0, 0, 0, .null, []) ::
  (107, .iconst 0, 1, 0, 0, 0, .int 0, []) ::
  (108, .istore 6, 2, 0, 0, 0, .null, []) ::
  (110, .iload 6, 2, 0, 0, 0, .null, [(0, 0)]) ::
  (112, .iload 5, 2, 0, 0, 0, .null, []) ::
  (114, .if_icmp .ge 30, 3, 144, 0, 0, .null, []) ::
  (117, .aload_n 0, 1, 0, 0, 0, .null, []) ::
  (118, .getfield 66, 3, 11, 26, 2, .null, []) ::
  (121, .iload 6, 2, 0, 0, 0, .null, []) ::
  (123, .aload_n 0, 1, 0, 0, 0, .null, []) ::
  (124, .getfield 62, 3, 11, 25, 2, .null, []) ::
  (127, .bipush 24, 2, 0, 0, 0, .int 24, []) ::
  (129, .iload_n 1, 1, 0, 0, 0, .null, []) ::
  (130, .imul, 1, 0, 0, 0, .null, []) ::
  (131, .iload_n 2, 1, 0, 0, 0, .null, []) ::
  (132, .iadd, 1, 0, 0, 0, .null, []) ::
  (133, .iload 6, 2, 0, 0, 0, .null, []) ::
  (135, .iadd, 1, 0, 0, 0, .null, []) ::
  (136, .laload, 1, 0, 0, 0, .null, []) ::
  (137, .lastore, 1, 0, 0, 0, .null, []) ::
  (138, .iinc 6 1, 3, 0, 0, 0, .int 1, []) ::
  (141, .goto (-31), 3, 110, 0, 0, .null, []) ::
  (144, .iconst 0, 1, 0, 0, 0, .int 0, []) ::
  (145, .istore 6, 2, 0, 0, 0, .null, []) ::
  (147, .iload 6, 2, 0, 0, 0, .null, [(0, 0)]) ::
  (149, .iload 5, 2, 0, 0, 0, .null, []) ::
  (151, .if_icmp .ge 31, 3, 182, 0, 0, .null, []) ::
  (154, .aload_n 0, 1, 0, 0, 0, .null, []) ::
  (155, .getfield 62, 3, 11, 25, 2, .null, []) ::
  (158, .bipush 24, 2, 0, 0, 0, .int 24, []) ::
  (160, .iload_n 3, 1, 0, 0, 0, .null, []) ::
  (161, .imul, 1, 0, 0, 0, .null, []) ::
  (162, .iload 4, 2, 0, 0, 0, .null, []) ::
  (164, .iadd, 1, 0, 0, 0, .null, []) ::
  (165, .iload 6, 2, 0, 0, 0, .null, []) ::
  (167, .iadd, 1, 0, 0, 0, .null, []) ::
  (168, .aload_n 0, 1, 0, 0, 0, .null, []) ::
  (169, .getfield 66, 3, 11, 26, 2, .null, []) :: am_c_MD_copy_2
def am_c_MD_copy : List am_E := (0, .iload_n 1, 1, 0, 0, 0, .null, []) ::
  (1, .invokestatic 169, 3, 201, 1, 0, .null, []) ::
  (4, .ifCond .eq 10, 3, 14, 0, 0, .null, []) ::
  (7, .iload_n 3, 1, 0, 0, 0, .null, []) ::
  (8, .invokestatic 169, 3, 201, 1, 0, .null, []) ::
  (11, .ifCond .ne 5, 3, 16, 0, 0, .null, []) ::
  (14, .iconst (-1), 1, 0, 0, 0, .int (-1), []) ::
  (15, .ireturn, 1, 0, 0, 0, .null, []) ::
  (16, .aload_n 0, 1, 0, 0, 0, .null, []) ::
  (17, .getfield 56, 3, 11, 23, 2, .null, []) ::
  (20, .iload_n 1, 1, 0, 0, 0, .null, []) ::
  (21, .iaload, 1, 0, 0, 0, .null, []) ::
  (22, .ifCond .lt 12, 3, 34, 0, 0, .null, []) ::
  (25, .aload_n 0, 1, 0, 0, 0, .null, []) ::
  (26, .getfield 56, 3, 11, 23, 2, .null, []) ::
  (29, .iload_n 3, 1, 0, 0, 0, .null, []) ::
  (30, .iaload, 1, 0, 0, 0, .null, []) ::
  (31, .ifCond .ge 6, 3, 37, 0, 0, .null, []) ::
  (34, .bipush (-11), 2, 0, 0, 0, .int (-11), []) ::
  (36, .ireturn, 1, 0, 0, 0, .null, []) ::
  (37, .aload_n 0, 1, 0, 0, 0, .null, []) ::
  (38, .getfield 56, 3, 11, 23, 2, .null, []) ::
  (41, .iload_n 1, 1, 0, 0, 0, .null, []) ::
  (42, .iaload, 1, 0, 0, 0, .null, []) ::
  (43, .aload_n 0, 1, 0, 0, 0, .null, []) ::
  (44, .getfield 56, 3, 11, 23, 2, .null, []) ::
  (47, .iload_n 3, 1, 0, 0, 0, .null, []) ::
  (48, .iaload, 1, 0, 0, 0, .null, []) ::
  (49, .if_icmp .eq 6, 3, 55, 0, 0, .null, []) ::
  (52, .bipush (-12), 2, 0, 0, 0, .int (-12), []) ::
  (54, .ireturn, 1, 0, 0, 0, .null, []) ::
  (55, .iload 5, 2, 0, 0, 0, .null, []) ::
  (57, .ifCond .lt 47, 3, 104, 0, 0, .null, []) ::
  (60, .iload_n 2, 1, 0, 0, 0, .null, []) ::
  (61, .ifCond .lt 43, 3, 104, 0, 0, .null, []) ::
  (64, .iload 4, 2, 0, 0, 0, .null, []) ::
  (66, .ifCond .lt 38, 3, 104, 0, 0, .null, []) ::
  (69, .iload_n 2, 1, 0, 0, 0, .null, []) ::
  (70, .i2l, 1, 0, 0, 0, .null, []) ::
  (71, .iload 5, 2, 0, 0, 0, .null, []) ::
  (73, .i2l, 1, 0, 0, 0, .null, []) ::
  (74, .ladd, 1, 0, 0, 0, .null, []) ::
  (75, .aload_n 0, 1, 0, 0, 0, .null, []) ::
  (76, .getfield 59, 3, 11, 24, 2, .null, []) ::
  (79, .iload_n 1, 1, 0, 0, 0, .null, []) ::
  (80, .iaload, 1, 0, 0, 0, .null, []) ::
  (81, .i2l, 1, 0, 0, 0, .null, []) ::
  (82, .lcmp, 1, 0, 0, 0, .null, []) ::
  (83, .ifCond .gt 21, 3, 104, 0, 0, .null, []) ::
  (86, .iload 4, 2, 0, 0, 0, .null, []) :: am_c_MD_copy_1
def am_c_MD_row : List am_E := [(0, .aload_n 0, 1, 0, 0, 0, .null, []),
  (1, .getfield 62, 3, 11, 25, 2, .null, []),
  (4, .iload_n 1, 1, 0, 0, 0, .null, []),
  (5, .iload_n 2, 1, 0, 0, 0, .null, []),
  (6, .iadd, 1, 0, 0, 0, .null, []),
  (7, .laload, 1, 0, 0, 0, .null, []),
  (8, .l2i, 1, 0, 0, 0, .null, []),
  (9, .ireturn, 1, 0, 0, 0, .null, [])]
def am_c_MD_ofTwo_1 : List am_E := [(95, .iconst 1, 1, 0, 0, 0, .int 1, []),
  (96, .goto 4, 3, 100, 0, 0, .null, []),
  (99, .iconst 0, 1, 0, 0, 0, .int 0, []),
  (100, .istore 9, 2, 0, 0, 0, .null, []),
  (102, .iload 4, 2, 0, 0, 0, .null, []),
  (104, .ifCond .eq 19, 3, 123, 0, 0, .null, []),
  (107, .iload 5, 2, 0, 0, 0, .null, []),
  (109, .iload 6, 2, 0, 0, 0, .null, []),
  (111, .if_icmp .eq 8, 3, 119, 0, 0, .null, []),
  (114, .iload 9, 2, 0, 0, 0, .null, []),
  (116, .ifCond .eq 7, 3, 123, 0, 0, .null, []),
  (119, .iconst 1, 1, 0, 0, 0, .int 1, []),
  (120, .goto 4, 3, 124, 0, 0, .null, []),
  (123, .iconst 0, 1, 0, 0, 0, .int 0, []),
  (124, .istore 4, 2, 0, 0, 0, .null, []),
  (126, .iinc 6 1, 3, 0, 0, 0, .int 1, []),
  (129, .goto (-114), 3, 15, 0, 0, .null, []),
  (132, .iinc 5 1, 3, 0, 0, 0, .int 1, []),
  (135, .goto (-129), 3, 6, 0, 0, .null, []),
  (138, .iload 4, 2, 0, 0, 0, .null, []),
  (140, .ireturn, 1, 0, 0, 0, .null, [])]
def am_c_MD_ofTwo : List am_E := (0, .iconst 1, 1, 0, 0, 0, .int 1, []) ::
  (1, .istore 4, 2, 0, 0, 0, .null, []) ::
  (3, .iconst 0, 1, 0, 0, 0, .int 0, []) ::
  (4, .istore 5, 2, 0, 0, 0, .null, []) ::
  (6, .iload 5, 2, 0, 0, 0, .null, [(0, 0)]) ::
  (8, .iload_n 2, 1, 0, 0, 0, .null, []) ::
  (9, .if_icmp .ge 129, 3, 138, 0, 0, .null, []) ::
  (12, .iconst 0, 1, 0, 0, 0, .int 0, []) ::
  (13, .istore 6, 2, 0, 0, 0, .null, []) ::
  (15, .iload 6, 2, 0, 0, 0, .null, [(0, 0)]) ::
  (17, .iload_n 2, 1, 0, 0, 0, .null, []) ::
  (18, .if_icmp .ge 114, 3, 132, 0, 0, .null, []) ::
  (21, .aload_n 0, 1, 0, 0, 0, .null, []) ::
  (22, .iload_n 1, 1, 0, 0, 0, .null, []) ::
  (23, .iload 5, 2, 0, 0, 0, .null, []) ::
  (25, .invokevirtual 294, 3, 208, 2, 13, .null, []) ::
  (28, .istore 7, 2, 0, 0, 0, .null, []) ::
  (30, .aload_n 0, 1, 0, 0, 0, .null, []) ::
  (31, .iload_n 1, 1, 0, 0, 0, .null, []) ::
  (32, .iload 6, 2, 0, 0, 0, .null, []) ::
  (34, .invokevirtual 294, 3, 208, 2, 13, .null, []) ::
  (37, .istore 8, 2, 0, 0, 0, .null, []) ::
  (39, .iload_n 3, 1, 0, 0, 0, .null, []) ::
  (40, .ifCond .ne 19, 3, 59, 0, 0, .null, []) ::
  (43, .iload 7, 2, 0, 0, 0, .null, []) ::
  (45, .iload 8, 2, 0, 0, 0, .null, []) ::
  (47, .iand, 1, 0, 0, 0, .null, []) ::
  (48, .ifCond .eq 7, 3, 55, 0, 0, .null, []) ::
  (51, .iconst 1, 1, 0, 0, 0, .int 1, []) ::
  (52, .goto 48, 3, 100, 0, 0, .null, []) ::
  (55, .iconst 0, 1, 0, 0, 0, .int 0, []) ::
  (56, .goto 44, 3, 100, 0, 0, .null, []) ::
  (59, .iload_n 3, 1, 0, 0, 0, .null, []) ::
  (60, .iconst 1, 1, 0, 0, 0, .int 1, []) ::
  (61, .if_icmp .ne 21, 3, 82, 0, 0, .null, []) ::
  (64, .iload 7, 2, 0, 0, 0, .null, []) ::
  (66, .iload 8, 2, 0, 0, 0, .null, []) ::
  (68, .iconst (-1), 1, 0, 0, 0, .int (-1), []) ::
  (69, .ixor, 1, 0, 0, 0, .null, []) ::
  (70, .iand, 1, 0, 0, 0, .null, []) ::
  (71, .ifCond .eq 7, 3, 78, 0, 0, .null, []) ::
  (74, .iconst 1, 1, 0, 0, 0, .int 1, []) ::
  (75, .goto 25, 3, 100, 0, 0, .null, []) ::
  (78, .iconst 0, 1, 0, 0, 0, .int 0, []) ::
  (79, .goto 21, 3, 100, 0, 0, .null, []) ::
  (82, .iload 7, 2, 0, 0, 0, .null, []) ::
  (84, .invokestatic 73, 3, 134, 1, 0, .null, []) ::
  (87, .iload 8, 2, 0, 0, 0, .null, []) ::
  (89, .invokestatic 73, 3, 134, 1, 0, .null, []) ::
  (92, .if_icmp .ne 7, 3, 99, 0, 0, .null, []) :: am_c_MD_ofTwo_1
def am_c_MD_isEven_1 : List am_E := [(96, .goto (-88), 3, 8, 0, 0, .null, []),
  (99, .iload_n 3, 1, 0, 0, 0, .null, []),
  (100, .ireturn, 1, 0, 0, 0, .null, [])]
def am_c_MD_isEven : List am_E := (0, .iconst 1, 1, 0, 0, 0, .int 1, []) ::
  (1, .istore_n 3, 1, 0, 0, 0, .null, []) ::
  (2, .iconst 0, 1, 0, 0, 0, .int 0, []) ::
  (3, .istore 4, 2, 0, 0, 0, .null, []) ::
  (5, .iconst 0, 1, 0, 0, 0, .int 0, []) ::
  (6, .istore 5, 2, 0, 0, 0, .null, []) ::
  (8, .iload 5, 2, 0, 0, 0, .null, [(0, 0)]) ::
  (10, .aload_n 0, 1, 0, 0, 0, .null, []) ::
  (11, .getfield 7, 3, 11, 0, 2, .null, []) ::
  (14, .iconst 0, 1, 0, 0, 0, .int 0, []) ::
  (15, .iaload, 1, 0, 0, 0, .null, []) ::
  (16, .if_icmp .ge 83, 3, 99, 0, 0, .null, []) ::
  (19, .iconst 0, 1, 0, 0, 0, .int 0, []) ::
  (20, .istore 6, 2, 0, 0, 0, .null, []) ::
  (22, .iconst 0, 1, 0, 0, 0, .int 0, []) ::
  (23, .istore 7, 2, 0, 0, 0, .null, []) ::
  (25, .iload 7, 2, 0, 0, 0, .null, [(0, 0)]) ::
  (27, .iload_n 2, 1, 0, 0, 0, .null, []) ::
  (28, .if_icmp .ge 34, 3, 62, 0, 0, .null, []) ::
  (31, .iload 6, 2, 0, 0, 0, .null, []) ::
  (33, .aload_n 0, 1, 0, 0, 0, .null, []) ::
  (34, .iload_n 1, 1, 0, 0, 0, .null, []) ::
  (35, .iload 7, 2, 0, 0, 0, .null, []) ::
  (37, .invokevirtual 294, 3, 208, 2, 13, .null, []) ::
  (40, .iload 5, 2, 0, 0, 0, .null, []) ::
  (42, .invokestatic 91, 3, 133, 2, 0, .null, []) ::
  (45, .ifCond .eq 7, 3, 52, 0, 0, .null, []) ::
  (48, .iconst 1, 1, 0, 0, 0, .int 1, []) ::
  (49, .goto 4, 3, 53, 0, 0, .null, []) ::
  (52, .iconst 0, 1, 0, 0, 0, .int 0, []) ::
  (53, .iadd, 1, 0, 0, 0, .null, []) ::
  (54, .istore 6, 2, 0, 0, 0, .null, []) ::
  (56, .iinc 7 1, 3, 0, 0, 0, .int 1, []) ::
  (59, .goto (-34), 3, 25, 0, 0, .null, []) ::
  (62, .iload 5, 2, 0, 0, 0, .null, []) ::
  (64, .ifCond .ne 8, 3, 72, 0, 0, .null, []) ::
  (67, .iload 6, 2, 0, 0, 0, .null, []) ::
  (69, .goto 5, 3, 74, 0, 0, .null, []) ::
  (72, .iload 4, 2, 0, 0, 0, .null, []) ::
  (74, .istore 4, 2, 0, 0, 0, .null, []) ::
  (76, .iload_n 3, 1, 0, 0, 0, .null, []) ::
  (77, .ifCond .eq 14, 3, 91, 0, 0, .null, []) ::
  (80, .iload 6, 2, 0, 0, 0, .null, []) ::
  (82, .iload 4, 2, 0, 0, 0, .null, []) ::
  (84, .if_icmp .ne 7, 3, 91, 0, 0, .null, []) ::
  (87, .iconst 1, 1, 0, 0, 0, .int 1, []) ::
  (88, .goto 4, 3, 92, 0, 0, .null, []) ::
  (91, .iconst 0, 1, 0, 0, 0, .int 0, []) ::
  (92, .istore_n 3, 1, 0, 0, 0, .null, []) ::
  (93, .iinc 5 1, 3, 0, 0, 0, .int 1, []) :: am_c_MD_isEven_1
def am_c_MD_isJust : List am_E := [(0, .iload_n 2, 1, 0, 0, 0, .null, []),
  (1, .aload_n 0, 1, 0, 0, 0, .null, []),
  (2, .getfield 7, 3, 11, 0, 2, .null, []),
  (5, .iconst 1, 1, 0, 0, 0, .int 1, []),
  (6, .iaload, 1, 0, 0, 0, .null, []),
  (7, .if_icmp .ne 7, 3, 14, 0, 0, .null, []),
  (10, .iconst 1, 1, 0, 0, 0, .int 1, []),
  (11, .goto 4, 3, 15, 0, 0, .null, []),
  (14, .iconst 0, 1, 0, 0, 0, .int 0, []),
  (15, .istore_n 3, 1, 0, 0, 0, .null, []),
  (16, .iconst 0, 1, 0, 0, 0, .int 0, []),
  (17, .istore 4, 2, 0, 0, 0, .null, []),
  (19, .iconst 0, 1, 0, 0, 0, .int 0, []),
  (20, .istore 5, 2, 0, 0, 0, .null, []),
  (22, .iload 5, 2, 0, 0, 0, .null, [(0, 0)]),
  (24, .iload_n 2, 1, 0, 0, 0, .null, []),
  (25, .if_icmp .ge 64, 3, 89, 0, 0, .null, []),
  (28, .iload_n 3, 1, 0, 0, 0, .null, []),
  (29, .ifCond .eq 60, 3, 89, 0, 0, .null, []),
  (32, .aload_n 0, 1, 0, 0, 0, .null, []),
  (33, .aload_n 0, 1, 0, 0, 0, .null, []),
  (34, .iload_n 1, 1, 0, 0, 0, .null, []),
  (35, .iload 5, 2, 0, 0, 0, .null, []),
  (37, .invokevirtual 294, 3, 208, 2, 13, .null, []),
  (40, .invokevirtual 200, 3, 137, 1, 13, .null, []),
  (43, .istore 6, 2, 0, 0, 0, .null, []),
  (45, .iload 6, 2, 0, 0, 0, .null, []),
  (47, .ifCond .lt 17, 3, 64, 0, 0, .null, []),
  (50, .iload 4, 2, 0, 0, 0, .null, []),
  (52, .iload 6, 2, 0, 0, 0, .null, []),
  (54, .invokestatic 91, 3, 133, 2, 0, .null, []),
  (57, .ifCond .ne 7, 3, 64, 0, 0, .null, []),
  (60, .iconst 1, 1, 0, 0, 0, .int 1, []),
  (61, .goto 4, 3, 65, 0, 0, .null, []),
  (64, .iconst 0, 1, 0, 0, 0, .int 0, []),
  (65, .istore_n 3, 1, 0, 0, 0, .null, []),
  (66, .iload 4, 2, 0, 0, 0, .null, []),
  (68, .iload_n 3, 1, 0, 0, 0, .null, []),
  (69, .ifCond .eq 10, 3, 79, 0, 0, .null, []),
  (72, .iconst 1, 1, 0, 0, 0, .int 1, []),
  (73, .iload 6, 2, 0, 0, 0, .null, []),
  (75, .ishl, 1, 0, 0, 0, .null, []),
  (76, .goto 4, 3, 80, 0, 0, .null, []),
  (79, .iconst 0, 1, 0, 0, 0, .int 0, []),
  (80, .ior, 1, 0, 0, 0, .null, []),
  (81, .istore 4, 2, 0, 0, 0, .null, []),
  (83, .iinc 5 1, 3, 0, 0, 0, .int 1, []),
  (86, .goto (-64), 3, 22, 0, 0, .null, []),
  (89, .iload_n 3, 1, 0, 0, 0, .null, []),
  (90, .ireturn, 1, 0, 0, 0, .null, [])]
def am_c_MD_what_1 : List am_E := [(90, .ifCond .ne 6, 3, 96, 0, 0, .null, []),
  (93, .bipush (-2), 2, 0, 0, 0, .int (-2), []),
  (95, .ireturn, 1, 0, 0, 0, .null, []),
  (96, .iinc 7 1, 3, 0, 0, 0, .int 1, []),
  (99, .goto (-35), 3, 64, 0, 0, .null, []),
  (102, .iconst 0, 1, 0, 0, 0, .int 0, []),
  (103, .istore 7, 2, 0, 0, 0, .null, []),
  (105, .iconst 0, 1, 0, 0, 0, .int 0, []),
  (106, .istore 8, 2, 0, 0, 0, .null, []),
  (108, .iload 8, 2, 0, 0, 0, .null, [(0, 0)]),
  (110, .iconst 3, 1, 0, 0, 0, .int 3, []),
  (111, .if_icmp .ge 35, 3, 146, 0, 0, .null, []),
  (114, .iload 7, 2, 0, 0, 0, .null, []),
  (116, .aload_n 0, 1, 0, 0, 0, .null, []),
  (117, .iload 6, 2, 0, 0, 0, .null, []),
  (119, .iload 4, 2, 0, 0, 0, .null, []),
  (121, .iload 8, 2, 0, 0, 0, .null, []),
  (123, .invokevirtual 299, 3, 209, 3, 13, .null, []),
  (126, .ifCond .eq 10, 3, 136, 0, 0, .null, []),
  (129, .iconst 1, 1, 0, 0, 0, .int 1, []),
  (130, .iload 8, 2, 0, 0, 0, .null, []),
  (132, .ishl, 1, 0, 0, 0, .null, []),
  (133, .goto 4, 3, 137, 0, 0, .null, []),
  (136, .iconst 0, 1, 0, 0, 0, .int 0, []),
  (137, .ior, 1, 0, 0, 0, .null, []),
  (138, .istore 7, 2, 0, 0, 0, .null, []),
  (140, .iinc 8 1, 3, 0, 0, 0, .int 1, []),
  (143, .goto (-35), 3, 108, 0, 0, .null, []),
  (146, .iload 7, 2, 0, 0, 0, .null, []),
  (148, .aload_n 0, 1, 0, 0, 0, .null, []),
  (149, .iload 6, 2, 0, 0, 0, .null, []),
  (151, .iload 4, 2, 0, 0, 0, .null, []),
  (153, .invokevirtual 303, 3, 210, 2, 13, .null, []),
  (156, .ifCond .eq 8, 3, 164, 0, 0, .null, []),
  (159, .bipush 8, 2, 0, 0, 0, .int 8, []),
  (161, .goto 4, 3, 165, 0, 0, .null, []),
  (164, .iconst 0, 1, 0, 0, 0, .int 0, []),
  (165, .ior, 1, 0, 0, 0, .null, []),
  (166, .aload_n 0, 1, 0, 0, 0, .null, []),
  (167, .iload 6, 2, 0, 0, 0, .null, []),
  (169, .iload 4, 2, 0, 0, 0, .null, []),
  (171, .invokevirtual 306, 3, 211, 2, 13, .null, []),
  (174, .ifCond .eq 8, 3, 182, 0, 0, .null, []),
  (177, .bipush 16, 2, 0, 0, 0, .int 16, []),
  (179, .goto 4, 3, 183, 0, 0, .null, []),
  (182, .iconst 0, 1, 0, 0, 0, .int 0, []),
  (183, .ior, 1, 0, 0, 0, .null, []),
  (184, .ireturn, 1, 0, 0, 0, .null, [])]
def am_c_MD_what : List am_E := (0, .iload_n 1, 1, 0, 0, 0, .null, []) ::
  (1, .invokestatic 169, 3, 201, 1, 0, .null, []) ::
  (4, .ifCond .eq 28, 3, 32, 0, 0, .null, []) ::
  (7, .iload_n 2, 1, 0, 0, 0, .null, []) ::
  (8, .i2l, 1, 0, 0, 0, .null, []) ::
  (9, .lconst 0, 1, 0, 0, 0, .long 0, []) ::
  (10, .ldc2_w 161, 3, 0, 0, 0, .long 3, []) ::
  (13, .invokestatic 76, 3, 131, 3, 0, .null, []) ::
  (16, .ifCond .eq 16, 3, 32, 0, 0, .null, []) ::
  (19, .iload 4, 2, 0, 0, 0, .null, []) ::
  (21, .i2l, 1, 0, 0, 0, .null, []) ::
  (22, .lconst 1, 1, 0, 0, 0, .long 1, []) ::
  (23, .ldc2_w 297, 3, 0, 0, 0, .long 12, []) ::
  (26, .invokestatic 76, 3, 131, 3, 0, .null, []) ::
  (29, .ifCond .ne 5, 3, 34, 0, 0, .null, []) ::
  (32, .iconst (-1), 1, 0, 0, 0, .int (-1), []) ::
  (33, .ireturn, 1, 0, 0, 0, .null, []) ::
  (34, .aload_n 0, 1, 0, 0, 0, .null, []) ::
  (35, .iload_n 1, 1, 0, 0, 0, .null, []) ::
  (36, .iload_n 2, 1, 0, 0, 0, .null, []) ::
  (37, .iload_n 3, 1, 0, 0, 0, .null, []) ::
  (38, .iload 4, 2, 0, 0, 0, .null, []) ::
  (40, .invokevirtual 172, 3, 205, 4, 13, .null, []) ::
  (43, .istore 5, 2, 0, 0, 0, .null, []) ::
  (45, .iload 5, 2, 0, 0, 0, .null, []) ::
  (47, .ifCond .ge 6, 3, 53, 0, 0, .null, []) ::
  (50, .iload 5, 2, 0, 0, 0, .null, []) ::
  (52, .ireturn, 1, 0, 0, 0, .null, []) ::
  (53, .bipush 24, 2, 0, 0, 0, .int 24, []) ::
  (55, .iload_n 1, 1, 0, 0, 0, .null, []) ::
  (56, .imul, 1, 0, 0, 0, .null, []) ::
  (57, .iload_n 3, 1, 0, 0, 0, .null, []) ::
  (58, .iadd, 1, 0, 0, 0, .null, []) ::
  (59, .istore 6, 2, 0, 0, 0, .null, []) ::
  (61, .iconst 0, 1, 0, 0, 0, .int 0, []) ::
  (62, .istore 7, 2, 0, 0, 0, .null, []) ::
  (64, .iload 7, 2, 0, 0, 0, .null, [(0, 0)]) ::
  (66, .iload 4, 2, 0, 0, 0, .null, []) ::
  (68, .if_icmp .ge 34, 3, 102, 0, 0, .null, []) ::
  (71, .aload_n 0, 1, 0, 0, 0, .null, []) ::
  (72, .getfield 62, 3, 11, 25, 2, .null, []) ::
  (75, .iload 6, 2, 0, 0, 0, .null, []) ::
  (77, .iload 7, 2, 0, 0, 0, .null, []) ::
  (79, .iadd, 1, 0, 0, 0, .null, []) ::
  (80, .laload, 1, 0, 0, 0, .null, []) ::
  (81, .lconst 1, 1, 0, 0, 0, .long 1, []) ::
  (82, .aload_n 0, 1, 0, 0, 0, .null, []) ::
  (83, .invokevirtual 87, 3, 135, 0, 13, .null, []) ::
  (86, .i2l, 1, 0, 0, 0, .null, []) ::
  (87, .invokestatic 76, 3, 131, 3, 0, .null, []) :: am_c_MD_what_1
def am_c_MD_film_1 : List am_E := [(86, .getfield 7, 3, 11, 0, 2, .null, []),
  (89, .iconst 1, 1, 0, 0, 0, .int 1, []),
  (90, .iaload, 1, 0, 0, 0, .null, []),
  (91, .ireturn, 1, 0, 0, 0, .null, [])]
def am_c_MD_film : List am_E := (0, .iload_n 1, 1, 0, 0, 0, .null, []) ::
  (1, .invokestatic 169, 3, 201, 1, 0, .null, []) ::
  (4, .ifCond .eq 15, 3, 19, 0, 0, .null, []) ::
  (7, .iload_n 2, 1, 0, 0, 0, .null, []) ::
  (8, .i2l, 1, 0, 0, 0, .null, []) ::
  (9, .lconst 0, 1, 0, 0, 0, .long 0, []) ::
  (10, .ldc2_w 161, 3, 0, 0, 0, .long 3, []) ::
  (13, .invokestatic 76, 3, 131, 3, 0, .null, []) ::
  (16, .ifCond .ne 5, 3, 21, 0, 0, .null, []) ::
  (19, .iconst (-1), 1, 0, 0, 0, .int (-1), []) ::
  (20, .ireturn, 1, 0, 0, 0, .null, []) ::
  (21, .aload_n 0, 1, 0, 0, 0, .null, []) ::
  (22, .iload_n 1, 1, 0, 0, 0, .null, []) ::
  (23, .iload_n 2, 1, 0, 0, 0, .null, []) ::
  (24, .iload_n 3, 1, 0, 0, 0, .null, []) ::
  (25, .aload_n 0, 1, 0, 0, 0, .null, []) ::
  (26, .getfield 7, 3, 11, 0, 2, .null, []) ::
  (29, .iconst 1, 1, 0, 0, 0, .int 1, []) ::
  (30, .iaload, 1, 0, 0, 0, .null, []) ::
  (31, .invokevirtual 172, 3, 205, 4, 13, .null, []) ::
  (34, .istore 4, 2, 0, 0, 0, .null, []) ::
  (36, .iload 4, 2, 0, 0, 0, .null, []) ::
  (38, .ifCond .ge 6, 3, 44, 0, 0, .null, []) ::
  (41, .iload 4, 2, 0, 0, 0, .null, []) ::
  (43, .ireturn, 1, 0, 0, 0, .null, []) ::
  (44, .iconst 0, 1, 0, 0, 0, .int 0, []) ::
  (45, .istore 5, 2, 0, 0, 0, .null, []) ::
  (47, .iload 5, 2, 0, 0, 0, .null, [(0, 0)]) ::
  (49, .aload_n 0, 1, 0, 0, 0, .null, []) ::
  (50, .getfield 7, 3, 11, 0, 2, .null, []) ::
  (53, .iconst 1, 1, 0, 0, 0, .int 1, []) ::
  (54, .iaload, 1, 0, 0, 0, .null, []) ::
  (55, .if_icmp .ge 30, 3, 85, 0, 0, .null, []) ::
  (58, .aload_n 0, 1, 0, 0, 0, .null, []) ::
  (59, .getfield 62, 3, 11, 25, 2, .null, []) ::
  (62, .bipush 24, 2, 0, 0, 0, .int 24, []) ::
  (64, .iload_n 1, 1, 0, 0, 0, .null, []) ::
  (65, .imul, 1, 0, 0, 0, .null, []) ::
  (66, .iload_n 3, 1, 0, 0, 0, .null, []) ::
  (67, .iadd, 1, 0, 0, 0, .null, []) ::
  (68, .iload 5, 2, 0, 0, 0, .null, []) ::
  (70, .iadd, 1, 0, 0, 0, .null, []) ::
  (71, .aload_n 0, 1, 0, 0, 0, .null, []) ::
  (72, .iload 5, 2, 0, 0, 0, .null, []) ::
  (74, .invokevirtual 69, 3, 136, 1, 13, .null, []) ::
  (77, .i2l, 1, 0, 0, 0, .null, []) ::
  (78, .lastore, 1, 0, 0, 0, .null, []) ::
  (79, .iinc 5 1, 3, 0, 0, 0, .int 1, []) ::
  (82, .goto (-35), 3, 47, 0, 0, .null, []) ::
  (85, .aload_n 0, 1, 0, 0, 0, .null, []) :: am_c_MD_film_1
def am_c_La_law_13 : List am_E := [(938, .iload_n 3, 1, 0, 0, 0, .null, []),
  (939, .iconst 1, 1, 0, 0, 0, .int 1, []),
  (940, .iadd, 1, 0, 0, 0, .null, []),
  (941, .iaload, 1, 0, 0, 1, .null, []),
  (942, .aload_n 0, 1, 0, 0, 0, .null, []),
  (943, .iload_n 3, 1, 0, 0, 0, .null, []),
  (944, .iconst 2, 1, 0, 0, 0, .int 2, []),
  (945, .iadd, 1, 0, 0, 0, .null, []),
  (946, .iaload, 1, 0, 0, 1, .null, []),
  (947, .aload_n 0, 1, 0, 0, 0, .null, []),
  (948, .iload_n 3, 1, 0, 0, 0, .null, []),
  (949, .iconst 3, 1, 0, 0, 0, .int 3, []),
  (950, .iadd, 1, 0, 0, 0, .null, []),
  (951, .iaload, 1, 0, 0, 1, .null, []),
  (952, .aload_n 0, 1, 0, 0, 0, .null, []),
  (953, .iload_n 3, 1, 0, 0, 0, .null, []),
  (954, .iconst 4, 1, 0, 0, 0, .int 4, []),
  (955, .iadd, 1, 0, 0, 0, .null, []),
  (956, .iaload, 1, 0, 0, 1, .null, []),
  (957, .aload_n 0, 1, 0, 0, 0, .null, []),
  (958, .iload_n 3, 1, 0, 0, 0, .null, []),
  (959, .iconst 5, 1, 0, 0, 0, .int 5, []),
  (960, .iadd, 1, 0, 0, 0, .null, []),
  (961, .iaload, 1, 0, 0, 1, .null, []),
  (962, .invokevirtual 125, 3, 207, 5, 13, .null, []),
  (965, .if_icmp .eq 5, 3, 970, 0, 0, .null, []),
  (968, .iconst 0, 1, 0, 0, 0, .int 0, []),
  (969, .ireturn, 1, 0, 0, 0, .null, []),
  (970, .iinc 3 6, 3, 0, 0, 0, .int 6, []),
  (973, .goto (-955), 3, 18, 0, 0, .null, []),
  (976, .iconst 1, 1, 0, 0, 0, .int 1, []),
  (977, .ireturn, 1, 0, 0, 0, .null, [])]
def am_c_La_law_12 : List am_E := (879, .aload_n 0, 1, 0, 0, 0, .null, []) ::
  (880, .iload_n 3, 1, 0, 0, 0, .null, []) ::
  (881, .iconst 4, 1, 0, 0, 0, .int 4, []) ::
  (882, .iadd, 1, 0, 0, 0, .null, []) ::
  (883, .iaload, 1, 0, 0, 1, .null, []) ::
  (884, .i2l, 1, 0, 0, 0, .null, []) ::
  (885, .bipush 32, 2, 0, 0, 0, .int 32, []) ::
  (887, .lshl, 1, 0, 0, 0, .null, []) ::
  (888, .aload_n 0, 1, 0, 0, 0, .null, []) ::
  (889, .iload_n 3, 1, 0, 0, 0, .null, []) ::
  (890, .iconst 5, 1, 0, 0, 0, .int 5, []) ::
  (891, .iadd, 1, 0, 0, 0, .null, []) ::
  (892, .iaload, 1, 0, 0, 1, .null, []) ::
  (893, .i2l, 1, 0, 0, 0, .null, []) ::
  (894, .ldc2_w 114, 3, 0, 0, 0, .long 4294967295, []) ::
  (897, .land, 1, 0, 0, 0, .null, []) ::
  (898, .lor, 1, 0, 0, 0, .null, []) ::
  (899, .invokevirtual 120, 3, 206, 4, 13, .null, []) ::
  (902, .if_icmp .eq 68, 3, 970, 0, 0, .null, []) ::
  (905, .iconst 0, 1, 0, 0, 0, .int 0, []) ::
  (906, .ireturn, 1, 0, 0, 0, .null, []) ::
  (907, .aload_n 1, 1, 0, 0, 0, .null, []) ::
  (908, .aload_n 0, 1, 0, 0, 0, .null, []) ::
  (909, .iload_n 3, 1, 0, 0, 0, .null, []) ::
  (910, .iconst 1, 1, 0, 0, 0, .int 1, []) ::
  (911, .iadd, 1, 0, 0, 0, .null, []) ::
  (912, .iaload, 1, 0, 0, 1, .null, []) ::
  (913, .aload_n 0, 1, 0, 0, 0, .null, []) ::
  (914, .iload_n 3, 1, 0, 0, 0, .null, []) ::
  (915, .iconst 2, 1, 0, 0, 0, .int 2, []) ::
  (916, .iadd, 1, 0, 0, 0, .null, []) ::
  (917, .iaload, 1, 0, 0, 1, .null, []) ::
  (918, .aload_n 0, 1, 0, 0, 0, .null, []) ::
  (919, .iload_n 3, 1, 0, 0, 0, .null, []) ::
  (920, .iconst 3, 1, 0, 0, 0, .int 3, []) ::
  (921, .iadd, 1, 0, 0, 0, .null, []) ::
  (922, .iaload, 1, 0, 0, 1, .null, []) ::
  (923, .aload_n 0, 1, 0, 0, 0, .null, []) ::
  (924, .iload_n 3, 1, 0, 0, 0, .null, []) ::
  (925, .iconst 4, 1, 0, 0, 0, .int 4, []) ::
  (926, .iadd, 1, 0, 0, 0, .null, []) ::
  (927, .iaload, 1, 0, 0, 1, .null, []) ::
  (928, .aload_n 0, 1, 0, 0, 0, .null, []) ::
  (929, .iload_n 3, 1, 0, 0, 0, .null, []) ::
  (930, .iconst 5, 1, 0, 0, 0, .int 5, []) ::
  (931, .iadd, 1, 0, 0, 0, .null, []) ::
  (932, .iaload, 1, 0, 0, 1, .null, []) ::
  (933, .invokevirtual 121, 3, 123, 5, 12, .null, []) ::
  (936, .aload_n 2, 1, 0, 0, 0, .null, []) ::
  (937, .aload_n 0, 1, 0, 0, 0, .null, []) :: am_c_La_law_13
def am_c_La_law_11 : List am_E := (824, .aload_n 1, 1, 0, 0, 0, .null, []) ::
  (825, .aload_n 0, 1, 0, 0, 0, .null, []) ::
  (826, .iload_n 3, 1, 0, 0, 0, .null, []) ::
  (827, .iconst 1, 1, 0, 0, 0, .int 1, []) ::
  (828, .iadd, 1, 0, 0, 0, .null, []) ::
  (829, .iaload, 1, 0, 0, 1, .null, []) ::
  (830, .aload_n 0, 1, 0, 0, 0, .null, []) ::
  (831, .iload_n 3, 1, 0, 0, 0, .null, []) ::
  (832, .iconst 2, 1, 0, 0, 0, .int 2, []) ::
  (833, .iadd, 1, 0, 0, 0, .null, []) ::
  (834, .iaload, 1, 0, 0, 1, .null, []) ::
  (835, .aload_n 0, 1, 0, 0, 0, .null, []) ::
  (836, .iload_n 3, 1, 0, 0, 0, .null, []) ::
  (837, .iconst 3, 1, 0, 0, 0, .int 3, []) ::
  (838, .iadd, 1, 0, 0, 0, .null, []) ::
  (839, .iaload, 1, 0, 0, 1, .null, []) ::
  (840, .aload_n 0, 1, 0, 0, 0, .null, []) ::
  (841, .iload_n 3, 1, 0, 0, 0, .null, []) ::
  (842, .iconst 4, 1, 0, 0, 0, .int 4, []) ::
  (843, .iadd, 1, 0, 0, 0, .null, []) ::
  (844, .iaload, 1, 0, 0, 1, .null, []) ::
  (845, .i2l, 1, 0, 0, 0, .null, []) ::
  (846, .bipush 32, 2, 0, 0, 0, .int 32, []) ::
  (848, .lshl, 1, 0, 0, 0, .null, []) ::
  (849, .aload_n 0, 1, 0, 0, 0, .null, []) ::
  (850, .iload_n 3, 1, 0, 0, 0, .null, []) ::
  (851, .iconst 5, 1, 0, 0, 0, .int 5, []) ::
  (852, .iadd, 1, 0, 0, 0, .null, []) ::
  (853, .iaload, 1, 0, 0, 1, .null, []) ::
  (854, .i2l, 1, 0, 0, 0, .null, []) ::
  (855, .ldc2_w 114, 3, 0, 0, 0, .long 4294967295, []) ::
  (858, .land, 1, 0, 0, 0, .null, []) ::
  (859, .lor, 1, 0, 0, 0, .null, []) ::
  (860, .invokevirtual 116, 3, 122, 4, 12, .null, []) ::
  (863, .aload_n 2, 1, 0, 0, 0, .null, []) ::
  (864, .aload_n 0, 1, 0, 0, 0, .null, []) ::
  (865, .iload_n 3, 1, 0, 0, 0, .null, []) ::
  (866, .iconst 1, 1, 0, 0, 0, .int 1, []) ::
  (867, .iadd, 1, 0, 0, 0, .null, []) ::
  (868, .iaload, 1, 0, 0, 1, .null, []) ::
  (869, .aload_n 0, 1, 0, 0, 0, .null, []) ::
  (870, .iload_n 3, 1, 0, 0, 0, .null, []) ::
  (871, .iconst 2, 1, 0, 0, 0, .int 2, []) ::
  (872, .iadd, 1, 0, 0, 0, .null, []) ::
  (873, .iaload, 1, 0, 0, 1, .null, []) ::
  (874, .aload_n 0, 1, 0, 0, 0, .null, []) ::
  (875, .iload_n 3, 1, 0, 0, 0, .null, []) ::
  (876, .iconst 3, 1, 0, 0, 0, .int 3, []) ::
  (877, .iadd, 1, 0, 0, 0, .null, []) ::
  (878, .iaload, 1, 0, 0, 1, .null, []) :: am_c_La_law_12
def am_c_La_law_10 : List am_E := (762, .iadd, 1, 0, 0, 0, .null, []) ::
  (763, .iaload, 1, 0, 0, 1, .null, []) ::
  (764, .aload_n 0, 1, 0, 0, 0, .null, []) ::
  (765, .iload_n 3, 1, 0, 0, 0, .null, []) ::
  (766, .iconst 2, 1, 0, 0, 0, .int 2, []) ::
  (767, .iadd, 1, 0, 0, 0, .null, []) ::
  (768, .iaload, 1, 0, 0, 1, .null, []) ::
  (769, .aload_n 0, 1, 0, 0, 0, .null, []) ::
  (770, .iload_n 3, 1, 0, 0, 0, .null, []) ::
  (771, .iconst 3, 1, 0, 0, 0, .int 3, []) ::
  (772, .iadd, 1, 0, 0, 0, .null, []) ::
  (773, .iaload, 1, 0, 0, 1, .null, []) ::
  (774, .invokevirtual 106, 3, 120, 3, 12, .null, []) ::
  (777, .aload_n 2, 1, 0, 0, 0, .null, []) ::
  (778, .aload_n 0, 1, 0, 0, 0, .null, []) ::
  (779, .iload_n 3, 1, 0, 0, 0, .null, []) ::
  (780, .iconst 1, 1, 0, 0, 0, .int 1, []) ::
  (781, .iadd, 1, 0, 0, 0, .null, []) ::
  (782, .iaload, 1, 0, 0, 1, .null, []) ::
  (783, .aload_n 0, 1, 0, 0, 0, .null, []) ::
  (784, .iload_n 3, 1, 0, 0, 0, .null, []) ::
  (785, .iconst 2, 1, 0, 0, 0, .int 2, []) ::
  (786, .iadd, 1, 0, 0, 0, .null, []) ::
  (787, .iaload, 1, 0, 0, 1, .null, []) ::
  (788, .aload_n 0, 1, 0, 0, 0, .null, []) ::
  (789, .iload_n 3, 1, 0, 0, 0, .null, []) ::
  (790, .iconst 3, 1, 0, 0, 0, .int 3, []) ::
  (791, .iadd, 1, 0, 0, 0, .null, []) ::
  (792, .iaload, 1, 0, 0, 1, .null, []) ::
  (793, .invokevirtual 109, 3, 203, 3, 13, .null, []) ::
  (796, .if_icmp .eq 174, 3, 970, 0, 0, .null, []) ::
  (799, .iconst 0, 1, 0, 0, 0, .int 0, []) ::
  (800, .ireturn, 1, 0, 0, 0, .null, []) ::
  (801, .aload_n 1, 1, 0, 0, 0, .null, []) ::
  (802, .aload_n 0, 1, 0, 0, 0, .null, []) ::
  (803, .iload_n 3, 1, 0, 0, 0, .null, []) ::
  (804, .iconst 1, 1, 0, 0, 0, .int 1, []) ::
  (805, .iadd, 1, 0, 0, 0, .null, []) ::
  (806, .iaload, 1, 0, 0, 1, .null, []) ::
  (807, .invokevirtual 110, 3, 121, 1, 12, .null, []) ::
  (810, .aload_n 2, 1, 0, 0, 0, .null, []) ::
  (811, .aload_n 0, 1, 0, 0, 0, .null, []) ::
  (812, .iload_n 3, 1, 0, 0, 0, .null, []) ::
  (813, .iconst 1, 1, 0, 0, 0, .int 1, []) ::
  (814, .iadd, 1, 0, 0, 0, .null, []) ::
  (815, .iaload, 1, 0, 0, 1, .null, []) ::
  (816, .invokevirtual 113, 3, 204, 1, 13, .null, []) ::
  (819, .if_icmp .eq 151, 3, 970, 0, 0, .null, []) ::
  (822, .iconst 0, 1, 0, 0, 0, .int 0, []) ::
  (823, .ireturn, 1, 0, 0, 0, .null, []) :: am_c_La_law_11
def am_c_La_law_9 : List am_E := (702, .aload_n 0, 1, 0, 0, 0, .null, []) ::
  (703, .iload_n 3, 1, 0, 0, 0, .null, []) ::
  (704, .iconst 4, 1, 0, 0, 0, .int 4, []) ::
  (705, .iadd, 1, 0, 0, 0, .null, []) ::
  (706, .iaload, 1, 0, 0, 1, .null, []) ::
  (707, .invokevirtual 101, 3, 212, 4, 13, .null, []) ::
  (710, .if_icmp .eq 260, 3, 970, 0, 0, .null, []) ::
  (713, .iconst 0, 1, 0, 0, 0, .int 0, []) ::
  (714, .ireturn, 1, 0, 0, 0, .null, []) ::
  (715, .aload_n 1, 1, 0, 0, 0, .null, []) ::
  (716, .aload_n 0, 1, 0, 0, 0, .null, []) ::
  (717, .iload_n 3, 1, 0, 0, 0, .null, []) ::
  (718, .iconst 1, 1, 0, 0, 0, .int 1, []) ::
  (719, .iadd, 1, 0, 0, 0, .null, []) ::
  (720, .iaload, 1, 0, 0, 1, .null, []) ::
  (721, .aload_n 0, 1, 0, 0, 0, .null, []) ::
  (722, .iload_n 3, 1, 0, 0, 0, .null, []) ::
  (723, .iconst 2, 1, 0, 0, 0, .int 2, []) ::
  (724, .iadd, 1, 0, 0, 0, .null, []) ::
  (725, .iaload, 1, 0, 0, 1, .null, []) ::
  (726, .aload_n 0, 1, 0, 0, 0, .null, []) ::
  (727, .iload_n 3, 1, 0, 0, 0, .null, []) ::
  (728, .iconst 3, 1, 0, 0, 0, .int 3, []) ::
  (729, .iadd, 1, 0, 0, 0, .null, []) ::
  (730, .iaload, 1, 0, 0, 1, .null, []) ::
  (731, .invokevirtual 102, 3, 119, 3, 12, .null, []) ::
  (734, .aload_n 2, 1, 0, 0, 0, .null, []) ::
  (735, .aload_n 0, 1, 0, 0, 0, .null, []) ::
  (736, .iload_n 3, 1, 0, 0, 0, .null, []) ::
  (737, .iconst 1, 1, 0, 0, 0, .int 1, []) ::
  (738, .iadd, 1, 0, 0, 0, .null, []) ::
  (739, .iaload, 1, 0, 0, 1, .null, []) ::
  (740, .aload_n 0, 1, 0, 0, 0, .null, []) ::
  (741, .iload_n 3, 1, 0, 0, 0, .null, []) ::
  (742, .iconst 2, 1, 0, 0, 0, .int 2, []) ::
  (743, .iadd, 1, 0, 0, 0, .null, []) ::
  (744, .iaload, 1, 0, 0, 1, .null, []) ::
  (745, .aload_n 0, 1, 0, 0, 0, .null, []) ::
  (746, .iload_n 3, 1, 0, 0, 0, .null, []) ::
  (747, .iconst 3, 1, 0, 0, 0, .int 3, []) ::
  (748, .iadd, 1, 0, 0, 0, .null, []) ::
  (749, .iaload, 1, 0, 0, 1, .null, []) ::
  (750, .invokevirtual 105, 3, 213, 3, 13, .null, []) ::
  (753, .if_icmp .eq 217, 3, 970, 0, 0, .null, []) ::
  (756, .iconst 0, 1, 0, 0, 0, .int 0, []) ::
  (757, .ireturn, 1, 0, 0, 0, .null, []) ::
  (758, .aload_n 1, 1, 0, 0, 0, .null, []) ::
  (759, .aload_n 0, 1, 0, 0, 0, .null, []) ::
  (760, .iload_n 3, 1, 0, 0, 0, .null, []) ::
  (761, .iconst 1, 1, 0, 0, 0, .int 1, []) :: am_c_La_law_10
def am_c_La_law_8 : List am_E := (646, .iconst 3, 1, 0, 0, 0, .int 3, []) ::
  (647, .iadd, 1, 0, 0, 0, .null, []) ::
  (648, .iaload, 1, 0, 0, 1, .null, []) ::
  (649, .aload_n 0, 1, 0, 0, 0, .null, []) ::
  (650, .iload_n 3, 1, 0, 0, 0, .null, []) ::
  (651, .iconst 4, 1, 0, 0, 0, .int 4, []) ::
  (652, .iadd, 1, 0, 0, 0, .null, []) ::
  (653, .iaload, 1, 0, 0, 1, .null, []) ::
  (654, .invokevirtual 97, 3, 165, 4, 13, .null, []) ::
  (657, .if_icmp .eq 313, 3, 970, 0, 0, .null, []) ::
  (660, .iconst 0, 1, 0, 0, 0, .int 0, []) ::
  (661, .ireturn, 1, 0, 0, 0, .null, []) ::
  (662, .aload_n 1, 1, 0, 0, 0, .null, []) ::
  (663, .aload_n 0, 1, 0, 0, 0, .null, []) ::
  (664, .iload_n 3, 1, 0, 0, 0, .null, []) ::
  (665, .iconst 1, 1, 0, 0, 0, .int 1, []) ::
  (666, .iadd, 1, 0, 0, 0, .null, []) ::
  (667, .iaload, 1, 0, 0, 1, .null, []) ::
  (668, .aload_n 0, 1, 0, 0, 0, .null, []) ::
  (669, .iload_n 3, 1, 0, 0, 0, .null, []) ::
  (670, .iconst 2, 1, 0, 0, 0, .int 2, []) ::
  (671, .iadd, 1, 0, 0, 0, .null, []) ::
  (672, .iaload, 1, 0, 0, 1, .null, []) ::
  (673, .aload_n 0, 1, 0, 0, 0, .null, []) ::
  (674, .iload_n 3, 1, 0, 0, 0, .null, []) ::
  (675, .iconst 3, 1, 0, 0, 0, .int 3, []) ::
  (676, .iadd, 1, 0, 0, 0, .null, []) ::
  (677, .iaload, 1, 0, 0, 1, .null, []) ::
  (678, .aload_n 0, 1, 0, 0, 0, .null, []) ::
  (679, .iload_n 3, 1, 0, 0, 0, .null, []) ::
  (680, .iconst 4, 1, 0, 0, 0, .int 4, []) ::
  (681, .iadd, 1, 0, 0, 0, .null, []) ::
  (682, .iaload, 1, 0, 0, 1, .null, []) ::
  (683, .invokevirtual 98, 3, 118, 4, 12, .null, []) ::
  (686, .aload_n 2, 1, 0, 0, 0, .null, []) ::
  (687, .aload_n 0, 1, 0, 0, 0, .null, []) ::
  (688, .iload_n 3, 1, 0, 0, 0, .null, []) ::
  (689, .iconst 1, 1, 0, 0, 0, .int 1, []) ::
  (690, .iadd, 1, 0, 0, 0, .null, []) ::
  (691, .iaload, 1, 0, 0, 1, .null, []) ::
  (692, .aload_n 0, 1, 0, 0, 0, .null, []) ::
  (693, .iload_n 3, 1, 0, 0, 0, .null, []) ::
  (694, .iconst 2, 1, 0, 0, 0, .int 2, []) ::
  (695, .iadd, 1, 0, 0, 0, .null, []) ::
  (696, .iaload, 1, 0, 0, 1, .null, []) ::
  (697, .aload_n 0, 1, 0, 0, 0, .null, []) ::
  (698, .iload_n 3, 1, 0, 0, 0, .null, []) ::
  (699, .iconst 3, 1, 0, 0, 0, .int 3, []) ::
  (700, .iadd, 1, 0, 0, 0, .null, []) ::
  (701, .iaload, 1, 0, 0, 1, .null, []) :: am_c_La_law_9
def am_c_La_law_7 : List am_E := (582, .ireturn, 1, 0, 0, 0, .null, []) ::
  (583, .aload_n 1, 1, 0, 0, 0, .null, []) ::
  (584, .invokevirtual 85, 3, 115, 0, 12, .null, []) ::
  (587, .aload_n 2, 1, 0, 0, 0, .null, []) ::
  (588, .invokevirtual 88, 3, 199, 0, 13, .null, []) ::
  (591, .if_icmp .eq 379, 3, 970, 0, 0, .null, []) ::
  (594, .iconst 0, 1, 0, 0, 0, .int 0, []) ::
  (595, .ireturn, 1, 0, 0, 0, .null, []) ::
  (596, .aload_n 1, 1, 0, 0, 0, .null, []) ::
  (597, .invokevirtual 89, 3, 116, 0, 12, .null, []) ::
  (600, .aload_n 2, 1, 0, 0, 0, .null, []) ::
  (601, .invokevirtual 92, 3, 200, 0, 13, .null, []) ::
  (604, .if_icmp .eq 366, 3, 970, 0, 0, .null, []) ::
  (607, .iconst 0, 1, 0, 0, 0, .int 0, []) ::
  (608, .ireturn, 1, 0, 0, 0, .null, []) ::
  (609, .aload_n 1, 1, 0, 0, 0, .null, []) ::
  (610, .aload_n 0, 1, 0, 0, 0, .null, []) ::
  (611, .iload_n 3, 1, 0, 0, 0, .null, []) ::
  (612, .iconst 1, 1, 0, 0, 0, .int 1, []) ::
  (613, .iadd, 1, 0, 0, 0, .null, []) ::
  (614, .iaload, 1, 0, 0, 1, .null, []) ::
  (615, .aload_n 0, 1, 0, 0, 0, .null, []) ::
  (616, .iload_n 3, 1, 0, 0, 0, .null, []) ::
  (617, .iconst 2, 1, 0, 0, 0, .int 2, []) ::
  (618, .iadd, 1, 0, 0, 0, .null, []) ::
  (619, .iaload, 1, 0, 0, 1, .null, []) ::
  (620, .aload_n 0, 1, 0, 0, 0, .null, []) ::
  (621, .iload_n 3, 1, 0, 0, 0, .null, []) ::
  (622, .iconst 3, 1, 0, 0, 0, .int 3, []) ::
  (623, .iadd, 1, 0, 0, 0, .null, []) ::
  (624, .iaload, 1, 0, 0, 1, .null, []) ::
  (625, .aload_n 0, 1, 0, 0, 0, .null, []) ::
  (626, .iload_n 3, 1, 0, 0, 0, .null, []) ::
  (627, .iconst 4, 1, 0, 0, 0, .int 4, []) ::
  (628, .iadd, 1, 0, 0, 0, .null, []) ::
  (629, .iaload, 1, 0, 0, 1, .null, []) ::
  (630, .invokevirtual 93, 3, 117, 4, 12, .null, []) ::
  (633, .aload_n 2, 1, 0, 0, 0, .null, []) ::
  (634, .aload_n 0, 1, 0, 0, 0, .null, []) ::
  (635, .iload_n 3, 1, 0, 0, 0, .null, []) ::
  (636, .iconst 1, 1, 0, 0, 0, .int 1, []) ::
  (637, .iadd, 1, 0, 0, 0, .null, []) ::
  (638, .iaload, 1, 0, 0, 1, .null, []) ::
  (639, .aload_n 0, 1, 0, 0, 0, .null, []) ::
  (640, .iload_n 3, 1, 0, 0, 0, .null, []) ::
  (641, .iconst 2, 1, 0, 0, 0, .int 2, []) ::
  (642, .iadd, 1, 0, 0, 0, .null, []) ::
  (643, .iaload, 1, 0, 0, 1, .null, []) ::
  (644, .aload_n 0, 1, 0, 0, 0, .null, []) ::
  (645, .iload_n 3, 1, 0, 0, 0, .null, []) :: am_c_La_law_8
def am_c_La_law_6 : List am_E := (506, .if_icmp .eq 464, 3, 970, 0, 0, .null, []) ::
  (509, .iconst 0, 1, 0, 0, 0, .int 0, []) ::
  (510, .ireturn, 1, 0, 0, 0, .null, []) ::
  (511, .aload_n 1, 1, 0, 0, 0, .null, []) ::
  (512, .invokevirtual 68, 3, 111, 0, 12, .null, []) ::
  (515, .aload_n 2, 1, 0, 0, 0, .null, []) ::
  (516, .invokevirtual 72, 3, 196, 0, 13, .null, []) ::
  (519, .if_icmp .eq 451, 3, 970, 0, 0, .null, []) ::
  (522, .iconst 0, 1, 0, 0, 0, .int 0, []) ::
  (523, .ireturn, 1, 0, 0, 0, .null, []) ::
  (524, .aload_n 1, 1, 0, 0, 0, .null, []) ::
  (525, .aload_n 0, 1, 0, 0, 0, .null, []) ::
  (526, .iload_n 3, 1, 0, 0, 0, .null, []) ::
  (527, .iconst 1, 1, 0, 0, 0, .int 1, []) ::
  (528, .iadd, 1, 0, 0, 0, .null, []) ::
  (529, .iaload, 1, 0, 0, 1, .null, []) ::
  (530, .invokevirtual 73, 3, 112, 1, 12, .null, []) ::
  (533, .aload_n 2, 1, 0, 0, 0, .null, []) ::
  (534, .aload_n 0, 1, 0, 0, 0, .null, []) ::
  (535, .iload_n 3, 1, 0, 0, 0, .null, []) ::
  (536, .iconst 1, 1, 0, 0, 0, .int 1, []) ::
  (537, .iadd, 1, 0, 0, 0, .null, []) ::
  (538, .iaload, 1, 0, 0, 1, .null, []) ::
  (539, .invokevirtual 76, 3, 180, 1, 13, .null, []) ::
  (542, .if_icmp .eq 428, 3, 970, 0, 0, .null, []) ::
  (545, .iconst 0, 1, 0, 0, 0, .int 0, []) ::
  (546, .ireturn, 1, 0, 0, 0, .null, []) ::
  (547, .aload_n 1, 1, 0, 0, 0, .null, []) ::
  (548, .invokevirtual 77, 3, 113, 0, 12, .null, []) ::
  (551, .aload_n 2, 1, 0, 0, 0, .null, []) ::
  (552, .invokevirtual 80, 3, 198, 0, 13, .null, []) ::
  (555, .if_icmp .eq 415, 3, 970, 0, 0, .null, []) ::
  (558, .iconst 0, 1, 0, 0, 0, .int 0, []) ::
  (559, .ireturn, 1, 0, 0, 0, .null, []) ::
  (560, .aload_n 1, 1, 0, 0, 0, .null, []) ::
  (561, .aload_n 0, 1, 0, 0, 0, .null, []) ::
  (562, .iload_n 3, 1, 0, 0, 0, .null, []) ::
  (563, .iconst 1, 1, 0, 0, 0, .int 1, []) ::
  (564, .iadd, 1, 0, 0, 0, .null, []) ::
  (565, .iaload, 1, 0, 0, 1, .null, []) ::
  (566, .invokevirtual 81, 3, 114, 1, 12, .null, []) ::
  (569, .aload_n 2, 1, 0, 0, 0, .null, []) ::
  (570, .aload_n 0, 1, 0, 0, 0, .null, []) ::
  (571, .iload_n 3, 1, 0, 0, 0, .null, []) ::
  (572, .iconst 1, 1, 0, 0, 0, .int 1, []) ::
  (573, .iadd, 1, 0, 0, 0, .null, []) ::
  (574, .iaload, 1, 0, 0, 1, .null, []) ::
  (575, .invokevirtual 84, 3, 181, 1, 13, .null, []) ::
  (578, .if_icmp .eq 392, 3, 970, 0, 0, .null, []) ::
  (581, .iconst 0, 1, 0, 0, 0, .int 0, []) :: am_c_La_law_7
def am_c_La_law_5 : List am_E := (440, .iconst 0, 1, 0, 0, 0, .int 0, []) ::
  (441, .ireturn, 1, 0, 0, 0, .null, []) ::
  (442, .aload_n 1, 1, 0, 0, 0, .null, []) ::
  (443, .aload_n 0, 1, 0, 0, 0, .null, []) ::
  (444, .iload_n 3, 1, 0, 0, 0, .null, []) ::
  (445, .iconst 1, 1, 0, 0, 0, .int 1, []) ::
  (446, .iadd, 1, 0, 0, 0, .null, []) ::
  (447, .iaload, 1, 0, 0, 1, .null, []) ::
  (448, .invokevirtual 56, 3, 108, 1, 12, .null, []) ::
  (451, .aload_n 2, 1, 0, 0, 0, .null, []) ::
  (452, .aload_n 0, 1, 0, 0, 0, .null, []) ::
  (453, .iload_n 3, 1, 0, 0, 0, .null, []) ::
  (454, .iconst 1, 1, 0, 0, 0, .int 1, []) ::
  (455, .iadd, 1, 0, 0, 0, .null, []) ::
  (456, .iaload, 1, 0, 0, 1, .null, []) ::
  (457, .invokevirtual 59, 3, 178, 1, 13, .null, []) ::
  (460, .if_icmp .eq 510, 3, 970, 0, 0, .null, []) ::
  (463, .iconst 0, 1, 0, 0, 0, .int 0, []) ::
  (464, .ireturn, 1, 0, 0, 0, .null, []) ::
  (465, .aload_n 1, 1, 0, 0, 0, .null, []) ::
  (466, .aload_n 0, 1, 0, 0, 0, .null, []) ::
  (467, .iload_n 3, 1, 0, 0, 0, .null, []) ::
  (468, .iconst 1, 1, 0, 0, 0, .int 1, []) ::
  (469, .iadd, 1, 0, 0, 0, .null, []) ::
  (470, .iaload, 1, 0, 0, 1, .null, []) ::
  (471, .invokevirtual 60, 3, 109, 1, 12, .null, []) ::
  (474, .aload_n 2, 1, 0, 0, 0, .null, []) ::
  (475, .aload_n 0, 1, 0, 0, 0, .null, []) ::
  (476, .iload_n 3, 1, 0, 0, 0, .null, []) ::
  (477, .iconst 1, 1, 0, 0, 0, .int 1, []) ::
  (478, .iadd, 1, 0, 0, 0, .null, []) ::
  (479, .iaload, 1, 0, 0, 1, .null, []) ::
  (480, .invokevirtual 63, 3, 179, 1, 13, .null, []) ::
  (483, .if_icmp .eq 487, 3, 970, 0, 0, .null, []) ::
  (486, .iconst 0, 1, 0, 0, 0, .int 0, []) ::
  (487, .ireturn, 1, 0, 0, 0, .null, []) ::
  (488, .aload_n 1, 1, 0, 0, 0, .null, []) ::
  (489, .aload_n 0, 1, 0, 0, 0, .null, []) ::
  (490, .iload_n 3, 1, 0, 0, 0, .null, []) ::
  (491, .iconst 1, 1, 0, 0, 0, .int 1, []) ::
  (492, .iadd, 1, 0, 0, 0, .null, []) ::
  (493, .iaload, 1, 0, 0, 1, .null, []) ::
  (494, .invokevirtual 64, 3, 110, 1, 12, .null, []) ::
  (497, .aload_n 2, 1, 0, 0, 0, .null, []) ::
  (498, .aload_n 0, 1, 0, 0, 0, .null, []) ::
  (499, .iload_n 3, 1, 0, 0, 0, .null, []) ::
  (500, .iconst 1, 1, 0, 0, 0, .int 1, []) ::
  (501, .iadd, 1, 0, 0, 0, .null, []) ::
  (502, .iaload, 1, 0, 0, 1, .null, []) ::
  (503, .invokevirtual 67, 3, 182, 1, 13, .null, []) :: am_c_La_law_6
def am_c_La_law_4 : List am_E := (378, .iload_n 3, 1, 0, 0, 0, .null, []) ::
  (379, .iconst 1, 1, 0, 0, 0, .int 1, []) ::
  (380, .iadd, 1, 0, 0, 0, .null, []) ::
  (381, .iaload, 1, 0, 0, 1, .null, []) ::
  (382, .aload_n 0, 1, 0, 0, 0, .null, []) ::
  (383, .iload_n 3, 1, 0, 0, 0, .null, []) ::
  (384, .iconst 2, 1, 0, 0, 0, .int 2, []) ::
  (385, .iadd, 1, 0, 0, 0, .null, []) ::
  (386, .iaload, 1, 0, 0, 1, .null, []) ::
  (387, .aload_n 0, 1, 0, 0, 0, .null, []) ::
  (388, .iload_n 3, 1, 0, 0, 0, .null, []) ::
  (389, .iconst 3, 1, 0, 0, 0, .int 3, []) ::
  (390, .iadd, 1, 0, 0, 0, .null, []) ::
  (391, .iaload, 1, 0, 0, 1, .null, []) ::
  (392, .invokevirtual 47, 3, 106, 3, 12, .null, []) ::
  (395, .aload_n 2, 1, 0, 0, 0, .null, []) ::
  (396, .aload_n 0, 1, 0, 0, 0, .null, []) ::
  (397, .iload_n 3, 1, 0, 0, 0, .null, []) ::
  (398, .iconst 1, 1, 0, 0, 0, .int 1, []) ::
  (399, .iadd, 1, 0, 0, 0, .null, []) ::
  (400, .iaload, 1, 0, 0, 1, .null, []) ::
  (401, .aload_n 0, 1, 0, 0, 0, .null, []) ::
  (402, .iload_n 3, 1, 0, 0, 0, .null, []) ::
  (403, .iconst 2, 1, 0, 0, 0, .int 2, []) ::
  (404, .iadd, 1, 0, 0, 0, .null, []) ::
  (405, .iaload, 1, 0, 0, 1, .null, []) ::
  (406, .aload_n 0, 1, 0, 0, 0, .null, []) ::
  (407, .iload_n 3, 1, 0, 0, 0, .null, []) ::
  (408, .iconst 3, 1, 0, 0, 0, .int 3, []) ::
  (409, .iadd, 1, 0, 0, 0, .null, []) ::
  (410, .iaload, 1, 0, 0, 1, .null, []) ::
  (411, .invokevirtual 51, 3, 174, 3, 13, .null, []) ::
  (414, .if_icmp .eq 556, 3, 970, 0, 0, .null, []) ::
  (417, .iconst 0, 1, 0, 0, 0, .int 0, []) ::
  (418, .ireturn, 1, 0, 0, 0, .null, []) ::
  (419, .aload_n 1, 1, 0, 0, 0, .null, []) ::
  (420, .aload_n 0, 1, 0, 0, 0, .null, []) ::
  (421, .iload_n 3, 1, 0, 0, 0, .null, []) ::
  (422, .iconst 1, 1, 0, 0, 0, .int 1, []) ::
  (423, .iadd, 1, 0, 0, 0, .null, []) ::
  (424, .iaload, 1, 0, 0, 1, .null, []) ::
  (425, .invokevirtual 52, 3, 107, 1, 12, .null, []) ::
  (428, .aload_n 2, 1, 0, 0, 0, .null, []) ::
  (429, .aload_n 0, 1, 0, 0, 0, .null, []) ::
  (430, .iload_n 3, 1, 0, 0, 0, .null, []) ::
  (431, .iconst 1, 1, 0, 0, 0, .int 1, []) ::
  (432, .iadd, 1, 0, 0, 0, .null, []) ::
  (433, .iaload, 1, 0, 0, 1, .null, []) ::
  (434, .invokevirtual 55, 3, 175, 1, 13, .null, []) ::
  (437, .if_icmp .eq 533, 3, 970, 0, 0, .null, []) :: am_c_La_law_5
def am_c_La_law_3 : List am_E := (312, .invokevirtual 38, 3, 166, 1, 13, .null, []) ::
  (315, .if_icmp .eq 655, 3, 970, 0, 0, .null, []) ::
  (318, .iconst 0, 1, 0, 0, 0, .int 0, []) ::
  (319, .ireturn, 1, 0, 0, 0, .null, []) ::
  (320, .aload_n 1, 1, 0, 0, 0, .null, []) ::
  (321, .aload_n 0, 1, 0, 0, 0, .null, []) ::
  (322, .iload_n 3, 1, 0, 0, 0, .null, []) ::
  (323, .iconst 1, 1, 0, 0, 0, .int 1, []) ::
  (324, .iadd, 1, 0, 0, 0, .null, []) ::
  (325, .iaload, 1, 0, 0, 1, .null, []) ::
  (326, .aload_n 0, 1, 0, 0, 0, .null, []) ::
  (327, .iload_n 3, 1, 0, 0, 0, .null, []) ::
  (328, .iconst 2, 1, 0, 0, 0, .int 2, []) ::
  (329, .iadd, 1, 0, 0, 0, .null, []) ::
  (330, .iaload, 1, 0, 0, 1, .null, []) ::
  (331, .invokevirtual 39, 3, 104, 2, 12, .null, []) ::
  (334, .aload_n 2, 1, 0, 0, 0, .null, []) ::
  (335, .aload_n 0, 1, 0, 0, 0, .null, []) ::
  (336, .iload_n 3, 1, 0, 0, 0, .null, []) ::
  (337, .iconst 1, 1, 0, 0, 0, .int 1, []) ::
  (338, .iadd, 1, 0, 0, 0, .null, []) ::
  (339, .iaload, 1, 0, 0, 1, .null, []) ::
  (340, .aload_n 0, 1, 0, 0, 0, .null, []) ::
  (341, .iload_n 3, 1, 0, 0, 0, .null, []) ::
  (342, .iconst 2, 1, 0, 0, 0, .int 2, []) ::
  (343, .iadd, 1, 0, 0, 0, .null, []) ::
  (344, .iaload, 1, 0, 0, 1, .null, []) ::
  (345, .invokevirtual 42, 3, 167, 2, 13, .null, []) ::
  (348, .if_icmp .eq 622, 3, 970, 0, 0, .null, []) ::
  (351, .iconst 0, 1, 0, 0, 0, .int 0, []) ::
  (352, .ireturn, 1, 0, 0, 0, .null, []) ::
  (353, .aload_n 1, 1, 0, 0, 0, .null, []) ::
  (354, .aload_n 0, 1, 0, 0, 0, .null, []) ::
  (355, .iload_n 3, 1, 0, 0, 0, .null, []) ::
  (356, .iconst 1, 1, 0, 0, 0, .int 1, []) ::
  (357, .iadd, 1, 0, 0, 0, .null, []) ::
  (358, .iaload, 1, 0, 0, 1, .null, []) ::
  (359, .invokevirtual 43, 3, 105, 1, 12, .null, []) ::
  (362, .aload_n 2, 1, 0, 0, 0, .null, []) ::
  (363, .aload_n 0, 1, 0, 0, 0, .null, []) ::
  (364, .iload_n 3, 1, 0, 0, 0, .null, []) ::
  (365, .iconst 1, 1, 0, 0, 0, .int 1, []) ::
  (366, .iadd, 1, 0, 0, 0, .null, []) ::
  (367, .iaload, 1, 0, 0, 1, .null, []) ::
  (368, .invokevirtual 46, 3, 169, 1, 13, .null, []) ::
  (371, .if_icmp .eq 599, 3, 970, 0, 0, .null, []) ::
  (374, .iconst 0, 1, 0, 0, 0, .int 0, []) ::
  (375, .ireturn, 1, 0, 0, 0, .null, []) ::
  (376, .aload_n 1, 1, 0, 0, 0, .null, []) ::
  (377, .aload_n 0, 1, 0, 0, 0, .null, []) :: am_c_La_law_4
def am_c_La_law_2 : List am_E := (250, .aload_n 2, 1, 0, 0, 0, .null, []) ::
  (251, .aload_n 0, 1, 0, 0, 0, .null, []) ::
  (252, .iload_n 3, 1, 0, 0, 0, .null, []) ::
  (253, .iconst 1, 1, 0, 0, 0, .int 1, []) ::
  (254, .iadd, 1, 0, 0, 0, .null, []) ::
  (255, .iaload, 1, 0, 0, 1, .null, []) ::
  (256, .invokevirtual 30, 3, 160, 1, 13, .null, []) ::
  (259, .if_icmp .eq 711, 3, 970, 0, 0, .null, []) ::
  (262, .iconst 0, 1, 0, 0, 0, .int 0, []) ::
  (263, .ireturn, 1, 0, 0, 0, .null, []) ::
  (264, .aload_n 1, 1, 0, 0, 0, .null, []) ::
  (265, .aload_n 0, 1, 0, 0, 0, .null, []) ::
  (266, .iload_n 3, 1, 0, 0, 0, .null, []) ::
  (267, .iconst 1, 1, 0, 0, 0, .int 1, []) ::
  (268, .iadd, 1, 0, 0, 0, .null, []) ::
  (269, .iaload, 1, 0, 0, 1, .null, []) ::
  (270, .aload_n 0, 1, 0, 0, 0, .null, []) ::
  (271, .iload_n 3, 1, 0, 0, 0, .null, []) ::
  (272, .iconst 2, 1, 0, 0, 0, .int 2, []) ::
  (273, .iadd, 1, 0, 0, 0, .null, []) ::
  (274, .iaload, 1, 0, 0, 1, .null, []) ::
  (275, .invokevirtual 31, 3, 102, 2, 12, .null, []) ::
  (278, .aload_n 2, 1, 0, 0, 0, .null, []) ::
  (279, .aload_n 0, 1, 0, 0, 0, .null, []) ::
  (280, .iload_n 3, 1, 0, 0, 0, .null, []) ::
  (281, .iconst 1, 1, 0, 0, 0, .int 1, []) ::
  (282, .iadd, 1, 0, 0, 0, .null, []) ::
  (283, .iaload, 1, 0, 0, 1, .null, []) ::
  (284, .aload_n 0, 1, 0, 0, 0, .null, []) ::
  (285, .iload_n 3, 1, 0, 0, 0, .null, []) ::
  (286, .iconst 2, 1, 0, 0, 0, .int 2, []) ::
  (287, .iadd, 1, 0, 0, 0, .null, []) ::
  (288, .iaload, 1, 0, 0, 1, .null, []) ::
  (289, .invokevirtual 34, 3, 163, 2, 13, .null, []) ::
  (292, .if_icmp .eq 678, 3, 970, 0, 0, .null, []) ::
  (295, .iconst 0, 1, 0, 0, 0, .int 0, []) ::
  (296, .ireturn, 1, 0, 0, 0, .null, []) ::
  (297, .aload_n 1, 1, 0, 0, 0, .null, []) ::
  (298, .aload_n 0, 1, 0, 0, 0, .null, []) ::
  (299, .iload_n 3, 1, 0, 0, 0, .null, []) ::
  (300, .iconst 1, 1, 0, 0, 0, .int 1, []) ::
  (301, .iadd, 1, 0, 0, 0, .null, []) ::
  (302, .iaload, 1, 0, 0, 1, .null, []) ::
  (303, .invokevirtual 35, 3, 103, 1, 12, .null, []) ::
  (306, .aload_n 2, 1, 0, 0, 0, .null, []) ::
  (307, .aload_n 0, 1, 0, 0, 0, .null, []) ::
  (308, .iload_n 3, 1, 0, 0, 0, .null, []) ::
  (309, .iconst 1, 1, 0, 0, 0, .int 1, []) ::
  (310, .iadd, 1, 0, 0, 0, .null, []) ::
  (311, .iaload, 1, 0, 0, 1, .null, []) :: am_c_La_law_3
def am_c_La_law_1 : List am_E := (186, .aload_n 0, 1, 0, 0, 0, .null, []) ::
  (187, .iload_n 3, 1, 0, 0, 0, .null, []) ::
  (188, .iconst 1, 1, 0, 0, 0, .int 1, []) ::
  (189, .iadd, 1, 0, 0, 0, .null, []) ::
  (190, .iaload, 1, 0, 0, 1, .null, []) ::
  (191, .aload_n 0, 1, 0, 0, 0, .null, []) ::
  (192, .iload_n 3, 1, 0, 0, 0, .null, []) ::
  (193, .iconst 2, 1, 0, 0, 0, .int 2, []) ::
  (194, .iadd, 1, 0, 0, 0, .null, []) ::
  (195, .iaload, 1, 0, 0, 1, .null, []) ::
  (196, .invokevirtual 18, 3, 99, 2, 12, .null, []) ::
  (199, .aload_n 2, 1, 0, 0, 0, .null, []) ::
  (200, .aload_n 0, 1, 0, 0, 0, .null, []) ::
  (201, .iload_n 3, 1, 0, 0, 0, .null, []) ::
  (202, .iconst 1, 1, 0, 0, 0, .int 1, []) ::
  (203, .iadd, 1, 0, 0, 0, .null, []) ::
  (204, .iaload, 1, 0, 0, 1, .null, []) ::
  (205, .aload_n 0, 1, 0, 0, 0, .null, []) ::
  (206, .iload_n 3, 1, 0, 0, 0, .null, []) ::
  (207, .iconst 2, 1, 0, 0, 0, .int 2, []) ::
  (208, .iadd, 1, 0, 0, 0, .null, []) ::
  (209, .iaload, 1, 0, 0, 1, .null, []) ::
  (210, .invokevirtual 21, 3, 143, 2, 13, .null, []) ::
  (213, .if_icmp .eq 757, 3, 970, 0, 0, .null, []) ::
  (216, .iconst 0, 1, 0, 0, 0, .int 0, []) ::
  (217, .ireturn, 1, 0, 0, 0, .null, []) ::
  (218, .aload_n 1, 1, 0, 0, 0, .null, []) ::
  (219, .aload_n 0, 1, 0, 0, 0, .null, []) ::
  (220, .iload_n 3, 1, 0, 0, 0, .null, []) ::
  (221, .iconst 1, 1, 0, 0, 0, .int 1, []) ::
  (222, .iadd, 1, 0, 0, 0, .null, []) ::
  (223, .iaload, 1, 0, 0, 1, .null, []) ::
  (224, .invokevirtual 22, 3, 100, 1, 12, .null, []) ::
  (227, .aload_n 2, 1, 0, 0, 0, .null, []) ::
  (228, .aload_n 0, 1, 0, 0, 0, .null, []) ::
  (229, .iload_n 3, 1, 0, 0, 0, .null, []) ::
  (230, .iconst 1, 1, 0, 0, 0, .int 1, []) ::
  (231, .iadd, 1, 0, 0, 0, .null, []) ::
  (232, .iaload, 1, 0, 0, 1, .null, []) ::
  (233, .invokevirtual 26, 3, 147, 1, 13, .null, []) ::
  (236, .if_icmp .eq 734, 3, 970, 0, 0, .null, []) ::
  (239, .iconst 0, 1, 0, 0, 0, .int 0, []) ::
  (240, .ireturn, 1, 0, 0, 0, .null, []) ::
  (241, .aload_n 1, 1, 0, 0, 0, .null, []) ::
  (242, .aload_n 0, 1, 0, 0, 0, .null, []) ::
  (243, .iload_n 3, 1, 0, 0, 0, .null, []) ::
  (244, .iconst 1, 1, 0, 0, 0, .int 1, []) ::
  (245, .iadd, 1, 0, 0, 0, .null, []) ::
  (246, .iaload, 1, 0, 0, 1, .null, []) ::
  (247, .invokevirtual 27, 3, 101, 1, 12, .null, []) :: am_c_La_law_2
def am_c_La_law : List am_E := (0, .new 7, 3, 10, 0, 0, .null, []) ::
  (3, .dup, 1, 0, 0, 0, .null, []) ::
  (4, .invokespecial 9, 3, 97, 0, 0, .null, []) ::
  (7, .astore_n 1, 1, 0, 0, 0, .null, []) ::
  (8, .new 10, 3, 11, 0, 0, .null, []) ::
  (11, .dup, 1, 0, 0, 0, .null, []) ::
  (12, .invokespecial 12, 3, 132, 0, 0, .null, []) ::
  (15, .astore_n 2, 1, 0, 0, 0, .null, []) ::
  (16, .iconst 0, 1, 0, 0, 0, .int 0, []) ::
  (17, .istore_n 3, 1, 0, 0, 0, .null, []) ::
  (18, .iload_n 3, 1, 0, 0, 0, .null, [(0, 0)]) ::
  (19, .aload_n 0, 1, 0, 0, 0, .null, []) ::
  (20, .arraylength, 1, 0, 0, 0, .null, []) ::
  (21, .bipush 6, 2, 0, 0, 0, .int 6, []) ::
  (23, .isub, 1, 0, 0, 0, .null, []) ::
  (24, .if_icmp .gt 952, 3, 976, 0, 0, .null, []) ::
  (27, .aload_n 0, 1, 0, 0, 0, .null, []) ::
  (28, .iload_n 3, 1, 0, 0, 0, .null, []) ::
  (29, .iaload, 1, 0, 0, 1, .null, []) ::
  (30, .bipush 31, 2, 0, 0, 0, .int 31, []) ::
  (32, .iand, 1, 0, 0, 0, .null, []) ::
  (33, .tableswitch 937 0 25 #[119, 152, 185, 208, 231, 264, 287, 320, 343, 386, 409, 432, 455, 478, 491, 514, 527, 550, 563, 576, 629, 682, 725, 768, 791, 874], 119, 970, 0, 0, .null, [(0, 152), (1, 185), (2, 218), (3, 241), (4, 264), (5, 297), (6, 320), (7, 353), (8, 376), (9, 419), (10, 442), (11, 465), (12, 488), (13, 511), (14, 524), (15, 547), (16, 560), (17, 583), (18, 596), (19, 609), (20, 662), (21, 715), (22, 758), (23, 801), (24, 824), (25, 907)]) ::
  (152, .aload_n 1, 1, 0, 0, 0, .null, []) ::
  (153, .aload_n 0, 1, 0, 0, 0, .null, []) ::
  (154, .iload_n 3, 1, 0, 0, 0, .null, []) ::
  (155, .iconst 1, 1, 0, 0, 0, .int 1, []) ::
  (156, .iadd, 1, 0, 0, 0, .null, []) ::
  (157, .iaload, 1, 0, 0, 1, .null, []) ::
  (158, .aload_n 0, 1, 0, 0, 0, .null, []) ::
  (159, .iload_n 3, 1, 0, 0, 0, .null, []) ::
  (160, .iconst 2, 1, 0, 0, 0, .int 2, []) ::
  (161, .iadd, 1, 0, 0, 0, .null, []) ::
  (162, .iaload, 1, 0, 0, 1, .null, []) ::
  (163, .invokevirtual 13, 3, 98, 2, 12, .null, []) ::
  (166, .aload_n 2, 1, 0, 0, 0, .null, []) ::
  (167, .aload_n 0, 1, 0, 0, 0, .null, []) ::
  (168, .iload_n 3, 1, 0, 0, 0, .null, []) ::
  (169, .iconst 1, 1, 0, 0, 0, .int 1, []) ::
  (170, .iadd, 1, 0, 0, 0, .null, []) ::
  (171, .iaload, 1, 0, 0, 1, .null, []) ::
  (172, .aload_n 0, 1, 0, 0, 0, .null, []) ::
  (173, .iload_n 3, 1, 0, 0, 0, .null, []) ::
  (174, .iconst 2, 1, 0, 0, 0, .int 2, []) ::
  (175, .iadd, 1, 0, 0, 0, .null, []) ::
  (176, .iaload, 1, 0, 0, 1, .null, []) ::
  (177, .invokevirtual 17, 3, 141, 2, 13, .null, []) ::
  (180, .if_icmp .eq 790, 3, 970, 0, 0, .null, []) ::
  (183, .iconst 0, 1, 0, 0, 0, .int 0, []) ::
  (184, .ireturn, 1, 0, 0, 0, .null, []) ::
  (185, .aload_n 1, 1, 0, 0, 0, .null, []) :: am_c_La_law_1
def am_tab : List (List am_E × Nat × Option FieldType) := [(am_c_J6_bitCount, 1, (some .int)),
  (am_c_Hi_init, 2, none),
  (am_c_Hi_note, 2, none),
  (am_c_Hi_loseOldest, 3, none),
  (am_c_Hi_takeBack, 2, none),
  (am_c_Hi_becomes, 3, none),
  (am_c_Ho_init, 1, none),
  (am_c_Ho_look, 3, none),
  (am_c_Ho_ofCount, 4, (some .int)),
  (am_c_Ho_turnedBy, 4, (some .int)),
  (am_c_Ho_faults, 3, (some .int)),
  (am_c_Ho_isFree, 2, (some .boolean)),
  (am_c_Ho_freeSets, 3, (some .int)),
  (am_c_Ho_leastFree, 2, (some .int)),
  (am_c_Pa_init, 1, none),
  (am_c_Pa_most, 1, (some .int)),
  (am_c_Pa_solve, 5, none),
  (am_c_Pa_begin, 4, none),
  (am_c_Pa_entering, 3, (some .int)),
  (am_c_Pa_leaving, 4, (some .int)),
  (am_c_Pa_isAhead, 6, (some .boolean)),
  (am_c_Pa_pivot, 5, none),
  (am_c_Pa_clearBy, 7, none),
  (am_c_Pl_init, 1, none),
  (am_c_Pl_becomeAll, 3, none),
  (am_c_Pl_moveIn, 4, none),
  (am_c_Pl_placeOf, 3, (some .int)),
  (am_c_Pl_become, 6, none),
  (am_c_Pl_lose, 3, none),
  (am_c_Pl_weightOn, 7, (some .int)),
  (am_c_Pl_greatestWeight, 5, (some .int)),
  (am_c_Pr_init, 5, none),
  (am_c_Pr_play, 6, none),
  (am_c_Pr_playLost, 6, none),
  (am_c_Pr_placeOf, 3, (some .int)),
  (am_c_Pr_openOf, 3, (some .int)),
  (am_c_Pr_isOver, 3, (some .boolean)),
  (am_c_Pr_probesFrom, 6, (some .int)),
  (am_c_Pr_probesBy, 4, (some .int)),
  (am_c_Pr_worst, 1, (some .int)),
  (am_c_Pr_best, 3, (some .int)),
  (am_c_Re_init, 1, none),
  (am_c_Re_faultOfTape, 3, (some .int)),
  (am_c_Re_faultUnless, 2, (some .int)),
  (am_c_Re_skipName, 1, none),
  (am_c_Re_isName, 5, (some .boolean)),
  (am_c_Re_next, 1, (some .char)),
  (am_c_Re_skips, 2, (some .boolean)),
  (am_c_Re_figure, 3, (some .int)),
  (am_c_Re_ends, 1, (some .boolean)),
  (am_c_Re_isTold, 3, (some .boolean)),
  (am_c_Re_tell, 2, none),
  (am_c_Re_majority, 2, (some .boolean)),
  (am_c_Re_grid, 6, (some .boolean)),
  (am_c_Re_wallRow, 2, (some .int)),
  (am_c_Re_wall, 2, (some .boolean)),
  (am_c_Re_isWallTold, 5, (some .boolean)),
  (am_c_Re_waysBelow, 4, (some .int)),
  (am_c_Re_chosenBelow, 8, (some .int)),
  (am_c_Re_plane, 2, (some .boolean)),
  (am_c_Re_figures, 2, (some .boolean)),
  (am_c_Re_isGroupTold, 3, (some .boolean)),
  (am_c_Ro_init, 1, none),
  (am_c_Ro_takes, 9, (some .boolean)),
  (am_c_Ro_nature, 3, (some .int)),
  (am_c_Ro_anyTwoMeet, 3, (some .boolean)),
  (am_c_Ro_isNonePart, 3, (some .boolean)),
  (am_c_Ro_isOneCount, 2, (some .boolean)),
  (am_c_Ro_isEven, 3, (some .boolean)),
  (am_c_Ro_timesOf, 4, (some .int)),
  (am_c_Ro_isJustGroups, 5, (some .boolean)),
  (am_c_Sh_init, 1, none),
  (am_c_Sh_begin, 4, none),
  (am_c_Sh_spans, 3, (some .boolean)),
  (am_c_Sh_refusal, 4, (some .int)),
  (am_c_Sh_at, 2, (some .long)),
  (am_c_Sh_put, 4, none),
  (am_c_Sh_lowestBits, 3, (some .long)),
  (am_c_St_init, 1, none),
  (am_c_St_becomes, 2, none),
  (am_c_St_becomesTold, 2, none),
  (am_c_St_all, 1, (some .int)),
  (am_c_St_isPart, 2, (some .boolean)),
  (am_c_St_isSet, 2, (some .boolean)),
  (am_c_St_hasBeyond, 3, (some .boolean)),
  (am_c_St_placeOf, 3, (some .int)),
  (am_c_St_append, 2, none),
  (am_c_St_removeAt, 3, none),
  (am_c_St_drawTurn, 4, none),
  (am_c_St_holdsGroup, 3, (some .boolean)),
  (am_c_St_isSuperfluous, 3, (some .boolean)),
  (am_c_St_leastCommonOf, 5, (some .int)),
  (am_c_St_groupsWith, 4, (some .int)),
  (am_c_St_common, 4, (some .int)),
  (am_c_Ta_init, 1, none),
  (am_c_Ta_append, 2, none),
  (am_c_Ta_at, 2, (some .char)),
  (am_c_MG_init, 2, none),
  (am_c_MG_group, 3, (some .int)),
  (am_c_MG_element, 4, (some .int)),
  (am_c_MG_count, 2, (some .int)),
  (am_c_MG_load, 2, (some .int)),
  (am_c_MG_plan, 6, (some .int)),
  (am_c_MG_standing, 2, (some .int)),
  (am_c_MG_stands, 5, (some .int)),
  (am_c_MG_free, 2, (some .int)),
  (am_c_MG_probe, 4, (some .int)),
  (am_c_MG_add, 2, (some .int)),
  (am_c_MG_out, 3, (some .int)),
  (am_c_MG_size, 3, (some .int)),
  (am_c_MG_type, 2, (some .int)),
  (am_c_MG_read, 2, (some .int)),
  (am_c_MG_drift, 3, (some .int)),
  (am_c_MG_undo, 1, (some .int)),
  (am_c_MG_seed, 3, (some .int)),
  (am_c_MG_image, 1, (some .int)),
  (am_c_MG_restore, 1, (some .int)),
  (am_c_MG_keep, 6, (some .int)),
  (am_c_MG_what, 6, (some .int)),
  (am_c_MG_film, 6, (some .int)),
  (am_c_MG_sheet, 4, (some .int)),
  (am_c_MG_drop, 2, (some .int)),
  (am_c_MG_item, 7, (some .int)),
  (am_c_MG_copy, 8, (some .int)),
  (am_c_MG_isSheet, 1, (some .boolean)),
  (am_c_MG_isLane, 1, (some .boolean)),
  (am_c_MG_oneIf, 1, (some .int)),
  (am_c_MG_strength, 4, (some .int)),
  (am_c_MG_power, 4, (some .int)),
  (am_c_MG_ofFraction, 4, (some .int)),
  (am_c_MG_commonDivisor, 6, (some .int)),
  (am_c_MD_in, 6, (some .boolean)),
  (am_c_MD_init, 2, none),
  (am_c_MD_has, 2, (some .boolean)),
  (am_c_MD_bits, 3, (some .int)),
  (am_c_MD_all, 1, (some .int)),
  (am_c_MD_at, 2, (some .int)),
  (am_c_MD_find, 4, (some .int)),
  (am_c_MD_holds, 4, (some .boolean)),
  (am_c_MD_isMore, 4, (some .boolean)),
  (am_c_MD_leastWith, 5, (some .int)),
  (am_c_MD_group, 3, (some .int)),
  (am_c_MD_turns, 4, (some .int)),
  (am_c_MD_element, 5, (some .int)),
  (am_c_MD_common, 5, (some .int)),
  (am_c_MD_faults, 3, (some .int)),
  (am_c_MD_liars, 4, (some .int)),
  (am_c_MD_count, 2, (some .int)),
  (am_c_MD_reduces, 6, none),
  (am_c_MD_nth, 4, (some .int)),
  (am_c_MD_squares, 7, none),
  (am_c_MD_swaps, 5, none),
  (am_c_MD_solves, 9, (some .int)),
  (am_c_MD_takes, 7, (some .boolean)),
  (am_c_MD_clears, 2, none),
  (am_c_MD_bears, 6, (some .boolean)),
  (am_c_MD_loadOf, 4, (some .int)),
  (am_c_MD_evens, 8, (some .boolean)),
  (am_c_MD_slim, 3, (some .int)),
  (am_c_MD_loads, 6, none),
  (am_c_MD_load, 2, (some .int)),
  (am_c_MD_planAt, 4, (some .int)),
  (am_c_MD_weighs, 5, (some .int)),
  (am_c_MD_plan, 8, (some .int)),
  (am_c_MD_drops, 3, none),
  (am_c_MD_keep, 11, (some .int)),
  (am_c_MD_standing, 4, (some .int)),
  (am_c_MD_stands, 8, (some .int)),
  (am_c_MD_isFree, 4, (some .boolean)),
  (am_c_MD_free, 5, (some .int)),
  (am_c_MD_power, 3, (some .int)),
  (am_c_MD_digit, 2, (some .int)),
  (am_c_MD_those, 5, (some .int)),
  (am_c_MD_probesOf, 7, none),
  (am_c_MD_probe, 6, (some .int)),
  (am_c_MD_add, 2, (some .int)),
  (am_c_MD_comes, 2, none),
  (am_c_MD_goes, 3, none),
  (am_c_MD_out, 3, (some .int)),
  (am_c_MD_size, 5, (some .int)),
  (am_c_MD_drift, 7, (some .int)),
  (am_c_MD_seed, 3, (some .int)),
  (am_c_MD_type, 2, (some .int)),
  (am_c_MD_here, 1, (some .int)),
  (am_c_MD_figure, 4, (some .int)),
  (am_c_MD_gets, 2, none),
  (am_c_MD_isGot, 4, (some .boolean)),
  (am_c_MD_majority, 3, (some .boolean)),
  (am_c_MD_grid, 7, (some .boolean)),
  (am_c_MD_wall, 4, (some .boolean)),
  (am_c_MD_walls, 10, none),
  (am_c_MD_plane, 2, (some .boolean)),
  (am_c_MD_told, 2, (some .boolean)),
  (am_c_MD_one, 3, (some .boolean)),
  (am_c_MD_isName, 7, (some .boolean)),
  (am_c_MD_isText, 3, (some .boolean)),
  (am_c_MD_read, 4, (some .int)),
  (am_c_MD_notes, 2, none),
  (am_c_MD_undo, 2, (some .int)),
  (am_c_MD_image, 2, (some .int)),
  (am_c_MD_restore, 2, (some .int)),
  (am_c_MD_isSheet, 1, (some .boolean)),
  (am_c_MD_cut, 3, (some .long)),
  (am_c_MD_sheet, 5, (some .int)),
  (am_c_MD_drop, 2, (some .int)),
  (am_c_MD_why, 5, (some .int)),
  (am_c_MD_item, 7, (some .int)),
  (am_c_MD_copy, 7, (some .int)),
  (am_c_MD_row, 3, (some .int)),
  (am_c_MD_ofTwo, 10, (some .boolean)),
  (am_c_MD_isEven, 8, (some .boolean)),
  (am_c_MD_isJust, 7, (some .boolean)),
  (am_c_MD_what, 9, (some .int)),
  (am_c_MD_film, 6, (some .int)),
  (am_c_La_law, 4, (some .boolean))]
def am_code (y : Nat) : List am_E := (am_tab.getD y ([], 0, none)).1
def am_max (y : Nat) : Nat := (am_tab.getD y ([], 0, none)).2.1
def am_ret (y : Nat) : Option FieldType := (am_tab.getD y ([], 0, none)).2.2
end
section
/-! how the small machine's cells, locals and stack stand for the true ones -/
def am_TS : List Cond := lw_tbl.filter goodWord
def am_tb : Nat → List Cond
  | 0 => tables_1_1
  | 1 => tables_1_2
  | 2 => tables_1_3
  | 3 => tables_1_4
  | 4 => tables_1_5
  | 5 => tables_1_6
  | _ => k2_sels lw_privs
def am_w (c i : Nat) (w : Cond) : Bool := decide ((am_tb c)[i]? = some w) && goodWord w
theorem am_w_in {c i : Nat} {w : Cond} (h : am_w c i w = true) : w ∈ am_TS := by
  unfold am_w at h
  simp only [Bool.and_eq_true, decide_eq_true_eq] at h
  obtain ⟨h1, h2⟩ := h
  refine List.mem_filter.mpr ⟨?_, h2⟩
  have hm : w ∈ am_tb c := List.mem_of_getElem? h1
  unfold lw_tbl tables_1
  match c, hm with
  | 0, hm => exact List.mem_append_right _ (List.mem_append_left _ hm)
  | 1, hm => exact List.mem_append_right _ (List.mem_append_right _ (List.mem_append_left _ hm))
  | 2, hm => exact List.mem_append_right _ (List.mem_append_right _ (List.mem_append_right _ (List.mem_append_left _ hm)))
  | 3, hm => exact List.mem_append_right _ (List.mem_append_right _ (List.mem_append_right _ (List.mem_append_right _ (List.mem_append_left _ hm))))
  | 4, hm => exact List.mem_append_right _ (List.mem_append_right _ (List.mem_append_right _ (List.mem_append_right _ (List.mem_append_right _ (List.mem_append_left _ hm)))))
  | 5, hm => exact List.mem_append_right _ (List.mem_append_right _ (List.mem_append_right _ (List.mem_append_right _ (List.mem_append_right _ (List.mem_append_right _ hm)))))
  | n + 6, hm => exact List.mem_append_left _ hm
theorem am_TS_good {w : Cond} (h : w ∈ am_TS) : (w.onTables && w.keeps) = true ∨ ∃ ty, w = .arrayClass ty := good_of_word (List.mem_filter.mp h).2
theorem am_TS_tbl {w : Cond} (h : w ∈ am_TS) : w ∈ lw_tbl := (List.mem_filter.mp h).1
abbrev am_cl : List vw_C := [(RX0, TX0, 2), (RX1, TX1, 2), (RX2, TX2, 6), (RX3, TX3, 4), (RX4, TX4, 5), (RX5, TX5, 7), (RX6, TX6, 2), (RX7, TX7, 4), (RX8, TX8, 5), (RX9, TX9, 2), (RX10, TX10, 11), (RX11, TX11, 27)]
def am_ft : Nat → Nat → FieldType
  | 0 => tyX0
  | 1 => tyX1
  | 2 => tyX2
  | 3 => tyX3
  | 4 => tyX4
  | 5 => tyX5
  | 6 => tyX6
  | 7 => tyX7
  | 8 => tyX8
  | 9 => tyX9
  | 10 => tyX10
  | 11 => tyX11
  | _ => fun _ => .int
def am_nf (ci : Nat) : Nat := ([2, 2, 6, 4, 5, 7, 2, 4, 5, 2, 11, 27] : List Nat).getD ci 0
def am_isR : FieldType → Bool
  | .object _ => true
  | .array _ => true
  | _ => false
def am_cv (α : Nat → Nat) : Value → Value
  | .ref i => .ref (α i)
  | v => v
def am_fv (α : Nat → Nat) (σ : am_S) (i ci k : Nat) : Value := if am_isR (am_ft ci k) = true then va_rf ((σ.2.2 i k).map α) else .int (σ.1 i k)
def am_cell (cy : Nat → ClassId) (α : Nat → Nat) (σ : am_S) (i : Nat) (x : Nat × Nat) : va_E :=
  if x.1 < 12 then .inr (x.1, (List.range (am_nf x.1)).map (am_fv α σ i x.1))
  else if x.1 = 15 then .inl (cy x.1, x.2, .inr (.inl (σ.2.1 i)))
  else if 17 ≤ x.1 then .inl (cy x.1, x.2, .inr (.inr (.inr (.inr (fun j => (σ.2.2 i j).map α)))))
  else .inl (cy x.1, x.2, .inl (σ.1 i))
def am_ws (cy : Nat → ClassId) (α : Nat → Nat) (h : am_H) (σ : am_S) : va_W := h.mapIdx (fun i x => (α i, am_cell cy α σ i x))
theorem am_ws_get {cy : Nat → ClassId} {α : Nat → Nat} {h : am_H} {σ : am_S} {i : Nat} {x : Nat × Nat} (hx : h[i]? = some x) : (am_ws cy α h σ)[i]? = some (α i, am_cell cy α σ i x) := by
  unfold am_ws
  rw [List.getElem?_mapIdx, hx]
  rfl
theorem am_cell_congr {cy : Nat → ClassId} {α : Nat → Nat} {σ σ' : am_S} {i : Nat} (h1 : σ'.1 i = σ.1 i) (h2 : σ'.2.1 i = σ.2.1 i) (h3 : σ'.2.2 i = σ.2.2 i) (x : Nat × Nat) : am_cell cy α σ' i x = am_cell cy α σ i x := by
  unfold am_cell am_fv
  rw [h1, h2, h3]
theorem am_ws_upd {cy : Nat → ClassId} {α : Nat → Nat} {h : am_H} {σ σ' : am_S} {i : Nat} {x : Nat × Nat} (hx : h[i]? = some x) (ho : ∀ j, j ≠ i → σ'.1 j = σ.1 j ∧ σ'.2.1 j = σ.2.1 j ∧ σ'.2.2 j = σ.2.2 j) : am_ws cy α h σ' = (am_ws cy α h σ).set i (α i, am_cell cy α σ' i x) := by
  apply List.ext_getElem?
  intro j
  rw [List.getElem?_set]
  unfold am_ws
  rw [List.getElem?_mapIdx, List.getElem?_mapIdx, List.length_mapIdx]
  by_cases e : i = j
  · subst e
    have hl : i < h.length := (List.getElem?_eq_some_iff.mp hx).1
    rw [if_pos rfl, if_pos hl, hx]
    rfl
  · rw [if_neg e]
    obtain ⟨o1, o2, o3⟩ := ho j (fun q => e q.symm)
    cases h[j]? with
    | none => rfl
    | some z => simp [am_cell_congr o1 o2 o3]
theorem am_cell_I {cy : Nat → ClassId} {α : Nat → Nat} {σ : am_S} {i k n : Nat} (hk : k = 12 ∨ k = 13 ∨ k = 14 ∨ k = 16) : am_cell cy α σ i (k, n) = .inl (cy k, n, .inl (σ.1 i)) := by
  unfold am_cell
  rcases hk with rfl | rfl | rfl | rfl <;> simp
theorem am_cell_J {cy : Nat → ClassId} {α : Nat → Nat} {σ : am_S} {i n : Nat} : am_cell cy α σ i (15, n) = .inl (cy 15, n, .inr (.inl (σ.2.1 i))) := by
  unfold am_cell
  simp
theorem am_cell_R {cy : Nat → ClassId} {α : Nat → Nat} {σ : am_S} {i k n : Nat} (hk : 17 ≤ k) : am_cell cy α σ i (k, n) = .inl (cy k, n, .inr (.inr (.inr (.inr (fun j => (σ.2.2 i j).map α))))) := by
  unfold am_cell
  have h1 : ¬ k < 12 := by omega
  have h2 : ¬ k = 15 := by omega
  simp [h1, h2, hk]
theorem am_cell_O {cy : Nat → ClassId} {α : Nat → Nat} {σ : am_S} {i k n : Nat} (hk : k < 12) : am_cell cy α σ i (k, n) = .inr (k, (List.range (am_nf k)).map (am_fv α σ i k)) := by
  unfold am_cell
  simp [hk]
theorem am_ft_ok {ci : Nat} {C : String} {T : u_T} {N : Nat} (h : am_cl[ci]? = some (C, T, N)) : ci < 12 ∧ am_nf ci = N ∧ (∀ k, k < N → parseFieldDescriptor (T k).2.2.1 = some (am_ft ci k)) ∧ ∀ a, a < N → ∀ b, b < N → a ≠ b → (T a).2.1 ≠ (T b).2.1 := by
  match ci, h with
  | 0, h => cases h; exact ⟨by decide, rfl, tyX0_ok, nmX0⟩
  | 1, h => cases h; exact ⟨by decide, rfl, tyX1_ok, nmX1⟩
  | 2, h => cases h; exact ⟨by decide, rfl, tyX2_ok, nmX2⟩
  | 3, h => cases h; exact ⟨by decide, rfl, tyX3_ok, nmX3⟩
  | 4, h => cases h; exact ⟨by decide, rfl, tyX4_ok, nmX4⟩
  | 5, h => cases h; exact ⟨by decide, rfl, tyX5_ok, nmX5⟩
  | 6, h => cases h; exact ⟨by decide, rfl, tyX6_ok, nmX6⟩
  | 7, h => cases h; exact ⟨by decide, rfl, tyX7_ok, nmX7⟩
  | 8, h => cases h; exact ⟨by decide, rfl, tyX8_ok, nmX8⟩
  | 9, h => cases h; exact ⟨by decide, rfl, tyX9_ok, nmX9⟩
  | 10, h => cases h; exact ⟨by decide, rfl, tyX10_ok, nmX10⟩
  | 11, h => cases h; exact ⟨by decide, rfl, tyX11_ok, nmX11⟩
  | n + 12, h => simp at h
/-! locals -/
def am_lr (α : Nat → Nat) (ls : am_L) (rl : Array Slot) (n : Nat) : Prop := ls.length = n ∧ rl.size = n ∧ lv_wf rl ∧ ∀ (i : Nat) (v : Value), ls[i]? = some (some v) → rl[i]? = some (.val (am_cv α v))
def am_lv (α : Nat → Nat) (ls : am_L) : List (Nat × Value) := ls.zipIdx.filterMap (fun q => q.1.map (fun v => (q.2, am_cv α v)))
theorem am_lv_mem {α : Nat → Nat} {ls : am_L} {i : Nat} {w : Value} : (i, w) ∈ am_lv α ls ↔ ∃ v, ls[i]? = some (some v) ∧ w = am_cv α v := by
  unfold am_lv
  rw [List.mem_filterMap]
  constructor
  · rintro ⟨⟨x, j⟩, h1, h2⟩
    rw [List.mk_mem_zipIdx_iff_getElem?] at h1
    cases x with
    | none => cases h2
    | some v =>
      have e := Option.some.inj h2
      cases e
      exact ⟨v, h1, rfl⟩
  · rintro ⟨v, h1, rfl⟩
    exact ⟨(some v, i), by rw [List.mk_mem_zipIdx_iff_getElem?]; exact h1, rfl⟩
theorem am_lr.has {α : Nat → Nat} {ls : am_L} {rl : Array Slot} {n : Nat} (h : am_lr α ls rl n) : lv_has rl n (am_lv α ls) := by
  refine ⟨h.2.1, h.2.2.1, fun q hq => ?_⟩
  obtain ⟨i, w⟩ := q
  obtain ⟨v, h1, rfl⟩ := am_lv_mem.mp hq
  exact h.2.2.2 i v h1
theorem am_lget_at {K : Value → Prop} : ∀ {ls : am_L} {i : Nat}, am_lget ls i K → ∃ v, ls[i]? = some (some v) ∧ K v
  | [], _, h => h.elim
  | x :: _, 0, h => by
    cases x with
    | none => exact h.elim
    | some v => exact ⟨v, rfl, h⟩
  | _ :: xs, i + 1, h => by
    obtain ⟨v, h1, h2⟩ := am_lget_at (ls := xs) (i := i) h
    exact ⟨v, h1, h2⟩
theorem am_cut_at {i : Nat} {x : Option Value} {K : Option Value → Prop} (h : am_cut i x K) : ∃ y, K y ∧ ∀ w, y = some w → x = some w ∧ ¬ (i = 0 ∧ w.category = 2) := by
  unfold am_cut at h
  split at h
  · split at h
    · exact ⟨none, h, fun w hw => by cases hw⟩
    · exact ⟨none, h, fun w hw => by cases hw⟩
    · rename_i h1 h2
      refine ⟨x, h, fun w hw => ⟨hw, fun q => ?_⟩⟩
      cases w with
      | long z => exact h1 z hw
      | double z => exact h2 z hw
      | _ => simp [Value.category] at q
  · exact ⟨x, h, fun w hw => ⟨hw, fun q => by omega⟩⟩
theorem am_lset_at {v : Value} {K : am_L → Prop} : ∀ {ls : am_L} {i : Nat}, am_lset ls i v K → ∃ ls', K ls' ∧ ls'.length = ls.length ∧ i < ls.length ∧ ((∃ z, v = .long z) → i + 1 < ls.length) ∧
    ∀ (j : Nat) (w : Value), ls'[j]? = some (some w) → (j = i ∧ w = v) ∨ (j ≠ i ∧ ls[j]? = some (some w) ∧ ¬ (j + 1 = i ∧ w.category = 2) ∧ ¬ (j = i + 1 ∧ ∃ z, v = .long z))
  | [], _, h => h.elim
  | x :: xs, 0, h => by
    have key : (∀ z, v ≠ .long z) → K (some v :: xs) → ∃ ls', K ls' ∧ ls'.length = (x :: xs).length ∧ 0 < (x :: xs).length ∧ ((∃ z, v = .long z) → 0 + 1 < (x :: xs).length) ∧ ∀ (j : Nat) (w : Value), ls'[j]? = some (some w) → (j = 0 ∧ w = v) ∨ (j ≠ 0 ∧ (x :: xs)[j]? = some (some w) ∧ ¬ (j + 1 = 0 ∧ w.category = 2) ∧ ¬ (j = 0 + 1 ∧ ∃ z, v = .long z)) := by
      intro hv hk
      refine ⟨_, hk, rfl, by simp, fun ⟨z, hz⟩ => absurd hz (hv z), fun j w hw => ?_⟩
      cases j with
      | zero => left; exact ⟨rfl, by simpa using hw.symm⟩
      | succ j => right; exact ⟨by omega, hw, fun q => by omega, fun q => by obtain ⟨-, z, hz⟩ := q; exact hv z hz⟩
    cases v with
    | long z =>
      cases xs with
      | nil => exact h.elim
      | cons y ys =>
        refine ⟨_, h, rfl, by simp, fun _ => by simp, fun j w hw => ?_⟩
        match j, hw with
        | 0, hw => left; exact ⟨rfl, by simpa using hw.symm⟩
        | 1, hw => simp at hw
        | j + 2, hw => right; exact ⟨by omega, hw, fun q => by omega, fun q => by omega⟩
    | int _ => exact key (fun z e => by cases e) h
    | float _ => exact key (fun z e => by cases e) h
    | double _ => exact key (fun z e => by cases e) h
    | null => exact key (fun z e => by cases e) h
    | ref _ => exact key (fun z e => by cases e) h
    | retAddr _ => exact key (fun z e => by cases e) h
  | x :: xs, i + 1, h => by
    obtain ⟨ys, h1, h2, h3, h4, h5⟩ := am_lset_at (ls := xs) (i := i) h
    obtain ⟨y, h6, h7⟩ := am_cut_at h1
    refine ⟨_, h6, by simp [h2], by simp; omega, fun q => by have := h4 q; simp; omega, fun j w hw => ?_⟩
    cases j with
    | zero =>
      have hy : y = some w := by simpa using hw
      obtain ⟨g1, g2⟩ := h7 w hy
      right
      refine ⟨by omega, by simp [g1], fun q => ?_, fun q => by omega⟩
      exact g2 ⟨by omega, q.2⟩
    | succ j =>
      rcases h5 j w hw with ⟨rfl, rfl⟩ | ⟨g1, g2, g3, g4⟩
      · left; exact ⟨rfl, rfl⟩
      · right; exact ⟨by omega, g2, fun q => g3 ⟨by omega, q.2⟩, fun q => g4 ⟨by omega, q.2⟩⟩
theorem am_cv_cat {α : Nat → Nat} (v : Value) : (am_cv α v).category = v.category := by cases v <;> rfl
theorem am_lr.set1 {α : Nat → Nat} {ls ls' : am_L} {rl rl' : Array Slot} {n i : Nat} {v : Value} (h : am_lr α ls rl n) (hlen : ls'.length = ls.length) (hv : ∀ (j : Nat) (w : Value), ls'[j]? = some (some w) → (j = i ∧ w = v) ∨ (j ≠ i ∧ ls[j]? = some (some w) ∧ ¬ (j + 1 = i ∧ w.category = 2) ∧ ¬ (j = i + 1 ∧ ∃ z, v = .long z)))
    (hr : lv_has rl' n ((i, am_cv α v) :: (am_lv α ls).filter (fun q => !(q.1 == i) && !(q.1 + 1 == i && q.2.category == 2)))) : am_lr α ls' rl' n := by
  refine ⟨hlen.trans h.1, hr.1, hr.2.1, fun j w hw => ?_⟩
  rcases hv j w hw with ⟨rfl, rfl⟩ | ⟨g1, g2, g3, -⟩
  · exact hr.2.2 (j, am_cv α w) List.mem_cons_self
  · refine hr.2.2 (j, am_cv α w) (List.mem_cons_of_mem _ (List.mem_filter.mpr ⟨am_lv_mem.mpr ⟨w, g2, rfl⟩, ?_⟩))
    simp only [Bool.and_eq_true, Bool.not_eq_true', beq_eq_false_iff_ne, ne_eq, Bool.and_eq_false_iff]
    refine ⟨g1, ?_⟩
    by_cases e : j + 1 = i
    · right
      rw [am_cv_cat]
      exact fun hc => g3 ⟨e, hc⟩
    · left; exact e
theorem am_lr.set2 {α : Nat → Nat} {ls ls' : am_L} {rl rl' : Array Slot} {n i : Nat} {z : Int64} (h : am_lr α ls rl n) (hlen : ls'.length = ls.length) (hv : ∀ (j : Nat) (w : Value), ls'[j]? = some (some w) → (j = i ∧ w = .long z) ∨ (j ≠ i ∧ ls[j]? = some (some w) ∧ ¬ (j + 1 = i ∧ w.category = 2) ∧ ¬ (j = i + 1 ∧ ∃ z', (Value.long z) = .long z')))
    (hr : lv_has rl' n ((i, Value.long z) :: (am_lv α ls).filter (fun q => !(q.1 == i) && (!(q.1 == i + 1) && !(q.1 + 1 == i && q.2.category == 2))))) : am_lr α ls' rl' n := by
  refine ⟨hlen.trans h.1, hr.1, hr.2.1, fun j w hw => ?_⟩
  rcases hv j w hw with ⟨rfl, rfl⟩ | ⟨g1, g2, g3, g4⟩
  · exact hr.2.2 (j, Value.long z) List.mem_cons_self
  · refine hr.2.2 (j, am_cv α w) (List.mem_cons_of_mem _ (List.mem_filter.mpr ⟨am_lv_mem.mpr ⟨w, g2, rfl⟩, ?_⟩))
    simp only [Bool.and_eq_true, Bool.not_eq_true', beq_eq_false_iff_ne, ne_eq, Bool.and_eq_false_iff]
    refine ⟨g1, fun e => g4 ⟨e, z, rfl⟩, ?_⟩
    by_cases e : j + 1 = i
    · right
      rw [am_cv_cat]
      exact fun hc => g3 ⟨e, hc⟩
    · left; exact e
end
section
/-! names, bytes and rooms of the methods (wip/gen/meth.py) -/
def am_nm : List MethodName := [yJ6_bitCount_0f7a4, yX0_init, yX0_note, yX0_loseOldest, yX0_takeBack, yX0_becomes, yX1_init, yX1_look, yX1_ofCount, yX1_turnedBy, yX1_faults, yX1_isFree, yX1_freeSets, yX1_leastFree, yX2_init, yX2_most, yX2_solve, yX2_begin, yX2_entering, yX2_leaving, yX2_isAhead, yX2_pivot, yX2_clearBy, yX3_init, yX3_becomeAll, yX3_moveIn, yX3_placeOf, yX3_become, yX3_lose, yX3_weightOn, yX3_greatestWeight, yX4_init, yX4_play, yX4_playLost, yX4_placeOf, yX4_openOf, yX4_isOver, yX4_probesFrom, yX4_probesBy, yX4_worst, yX4_best, yX5_init, yX5_faultOfTape, yX5_faultUnless, yX5_skipName, yX5_isName, yX5_next, yX5_skips, yX5_figure, yX5_ends, yX5_isTold, yX5_tell, yX5_majority, yX5_grid, yX5_wallRow, yX5_wall, yX5_isWallTold, yX5_waysBelow, yX5_chosenBelow, yX5_plane, yX5_figures, yX5_isGroupTold, yX6_init, yX6_takes, yX6_nature, yX6_anyTwoMeet, yX6_isNonePart, yX6_isOneCount, yX6_isEven, yX6_timesOf, yX6_isJustGroups, yX7_init, yX7_begin, yX7_spans, yX7_refusal, yX7_at, yX7_put, yX7_lowestBits, yX8_init, yX8_becomes, yX8_becomesTold, yX8_all, yX8_isPart, yX8_isSet, yX8_hasBeyond, yX8_placeOf, yX8_append, yX8_removeAt, yX8_drawTurn, yX8_holdsGroup, yX8_isSuperfluous, yX8_leastCommonOf, yX8_groupsWith, yX8_common, yX9_init, yX9_append, yX9_at, yX10_init, yX10_group, yX10_element, yX10_count, yX10_load, yX10_plan, yX10_standing, yX10_stands, yX10_free, yX10_probe, yX10_add, yX10_out, yX10_size, yX10_type, yX10_read, yX10_drift, yX10_undo, yX10_seed, yX10_image, yX10_restore, yX10_keep, yX10_what, yX10_film, yX10_sheet, yX10_drop, yX10_item, yX10_copy, yX10_isSheet, yX10_isLane, yX10_oneIf, yX10_strength, yX10_power, yX10_ofFraction, yX10_commonDivisor, yX11_in, yX11_init, yX11_has, yX11_bits, yX11_all, yX11_at, yX11_find, yX11_holds, yX11_isMore, yX11_leastWith, yX11_group, yX11_turns, yX11_element, yX11_common, yX11_faults, yX11_liars, yX11_count, yX11_reduces, yX11_nth, yX11_squares, yX11_swaps, yX11_solves, yX11_takes, yX11_clears, yX11_bears, yX11_loadOf, yX11_evens, yX11_slim, yX11_loads, yX11_load, yX11_planAt, yX11_weighs, yX11_plan, yX11_drops, yX11_keep, yX11_standing, yX11_stands, yX11_isFree, yX11_free, yX11_power, yX11_digit, yX11_those, yX11_probesOf, yX11_probe, yX11_add, yX11_comes, yX11_goes, yX11_out, yX11_size, yX11_drift, yX11_seed, yX11_type, yX11_here, yX11_figure, yX11_gets, yX11_isGot, yX11_majority, yX11_grid, yX11_wall, yX11_walls, yX11_plane, yX11_told, yX11_one, yX11_isName, yX11_isText, yX11_read, yX11_notes, yX11_undo, yX11_image, yX11_restore, yX11_isSheet, yX11_cut, yX11_sheet, yX11_drop, yX11_why, yX11_item, yX11_copy, yX11_row, yX11_ofTwo, yX11_isEven, yX11_isJust, yX11_what, yX11_film, yL_law]
def am_by : List ByteArray := [cJ6_bitCount_0f7a4, cX0_init, cX0_note, cX0_loseOldest, cX0_takeBack, cX0_becomes, cX1_init, cX1_look, cX1_ofCount, cX1_turnedBy, cX1_faults, cX1_isFree, cX1_freeSets, cX1_leastFree, cX2_init, cX2_most, cX2_solve, cX2_begin, cX2_entering, cX2_leaving, cX2_isAhead, cX2_pivot, cX2_clearBy, cX3_init, cX3_becomeAll, cX3_moveIn, cX3_placeOf, cX3_become, cX3_lose, cX3_weightOn, cX3_greatestWeight, cX4_init, cX4_play, cX4_playLost, cX4_placeOf, cX4_openOf, cX4_isOver, cX4_probesFrom, cX4_probesBy, cX4_worst, cX4_best, cX5_init, cX5_faultOfTape, cX5_faultUnless, cX5_skipName, cX5_isName, cX5_next, cX5_skips, cX5_figure, cX5_ends, cX5_isTold, cX5_tell, cX5_majority, cX5_grid, cX5_wallRow, cX5_wall, cX5_isWallTold, cX5_waysBelow, cX5_chosenBelow, cX5_plane, cX5_figures, cX5_isGroupTold, cX6_init, cX6_takes, cX6_nature, cX6_anyTwoMeet, cX6_isNonePart, cX6_isOneCount, cX6_isEven, cX6_timesOf, cX6_isJustGroups, cX7_init, cX7_begin, cX7_spans, cX7_refusal, cX7_at, cX7_put, cX7_lowestBits, cX8_init, cX8_becomes, cX8_becomesTold, cX8_all, cX8_isPart, cX8_isSet, cX8_hasBeyond, cX8_placeOf, cX8_append, cX8_removeAt, cX8_drawTurn, cX8_holdsGroup, cX8_isSuperfluous, cX8_leastCommonOf, cX8_groupsWith, cX8_common, cX9_init, cX9_append, cX9_at, cX10_init, cX10_group, cX10_element, cX10_count, cX10_load, cX10_plan, cX10_standing, cX10_stands, cX10_free, cX10_probe, cX10_add, cX10_out, cX10_size, cX10_type, cX10_read, cX10_drift, cX10_undo, cX10_seed, cX10_image, cX10_restore, cX10_keep, cX10_what, cX10_film, cX10_sheet, cX10_drop, cX10_item, cX10_copy, cX10_isSheet, cX10_isLane, cX10_oneIf, cX10_strength, cX10_power, cX10_ofFraction, cX10_commonDivisor, cX11_in, cX11_init, cX11_has, cX11_bits, cX11_all, cX11_at, cX11_find, cX11_holds, cX11_isMore, cX11_leastWith, cX11_group, cX11_turns, cX11_element, cX11_common, cX11_faults, cX11_liars, cX11_count, cX11_reduces, cX11_nth, cX11_squares, cX11_swaps, cX11_solves, cX11_takes, cX11_clears, cX11_bears, cX11_loadOf, cX11_evens, cX11_slim, cX11_loads, cX11_load, cX11_planAt, cX11_weighs, cX11_plan, cX11_drops, cX11_keep, cX11_standing, cX11_stands, cX11_isFree, cX11_free, cX11_power, cX11_digit, cX11_those, cX11_probesOf, cX11_probe, cX11_add, cX11_comes, cX11_goes, cX11_out, cX11_size, cX11_drift, cX11_seed, cX11_type, cX11_here, cX11_figure, cX11_gets, cX11_isGot, cX11_majority, cX11_grid, cX11_wall, cX11_walls, cX11_plane, cX11_told, cX11_one, cX11_isName, cX11_isText, cX11_read, cX11_notes, cX11_undo, cX11_image, cX11_restore, cX11_isSheet, cX11_cut, cX11_sheet, cX11_drop, cX11_why, cX11_item, cX11_copy, cX11_row, cX11_ofTwo, cX11_isEven, cX11_isJust, cX11_what, cX11_film, cL_law]
def am_rm : List (Nat × Nat) := [(0, 0), (3, 60), (4, 126), (0, 0), (4, 126), (4, 126), (1, 20), (1, 22), (1, 20), (0, 0), (1, 60), (0, 0), (1, 21), (1, 21), (1, 20), (0, 0), (2, 50), (0, 0), (0, 0), (1, 25), (0, 0), (1, 26), (0, 0), (1, 20), (2, 83), (1, 60), (0, 0), (3, 105), (2, 83), (1, 22), (2, 60), (2, 40), (4, 133), (3, 108), (0, 0), (0, 0), (0, 0), (2, 83), (1, 60), (1, 22), (2, 83), (2, 40), (7, 174), (0, 0), (1, 21), (6, 150), (1, 21), (2, 41), (2, 41), (2, 41), (0, 0), (1, 22), (3, 63), (3, 63), (0, 0), (3, 63), (2, 43), (0, 0), (0, 0), (3, 61), (3, 65), (2, 43), (1, 20), (1, 60), (2, 46), (0, 0), (0, 0), (1, 20), (1, 23), (0, 0), (1, 22), (1, 20), (1, 60), (0, 0), (1, 22), (0, 0), (1, 22), (0, 0), (2, 40), (3, 105), (1, 60), (0, 0), (1, 20), (2, 41), (0, 0), (0, 0), (0, 0), (0, 0), (1, 22), (0, 0), (0, 0), (1, 20), (0, 0), (1, 60), (1, 20), (0, 0), (0, 0), (4, 81), (2, 44), (2, 44), (3, 106), (3, 74), (3, 84), (2, 44), (2, 48), (2, 44), (5, 158), (5, 147), (5, 147), (5, 147), (1, 21), (8, 196), (5, 147), (5, 147), (0, 0), (5, 148), (5, 148), (5, 147), (3, 88), (2, 45), (2, 83), (1, 20), (2, 45), (1, 60), (0, 0), (0, 0), (0, 0), (2, 83), (0, 0), (1, 25), (0, 0), (0, 0), (1, 20), (0, 0), (0, 0), (0, 0), (0, 0), (1, 21), (1, 21), (1, 21), (1, 22), (2, 46), (2, 44), (3, 67), (1, 22), (2, 44), (3, 66), (4, 89), (0, 0), (1, 21), (1, 21), (0, 0), (1, 24), (0, 0), (0, 0), (1, 21), (1, 21), (2, 52), (2, 44), (3, 79), (4, 104), (0, 0), (1, 21), (4, 104), (0, 0), (2, 45), (2, 44), (2, 44), (2, 44), (3, 67), (0, 0), (1, 22), (2, 43), (3, 67), (4, 93), (2, 44), (0, 0), (0, 0), (2, 44), (1, 25), (2, 44), (0, 0), (1, 25), (0, 0), (1, 25), (0, 0), (0, 0), (2, 48), (2, 48), (2, 50), (1, 21), (1, 21), (2, 48), (1, 25), (0, 0), (3, 74), (4, 96), (0, 0), (0, 0), (0, 0), (0, 0), (1, 25), (0, 0), (2, 45), (2, 45), (0, 0), (2, 45), (2, 45), (0, 0), (1, 22), (1, 22), (2, 44), (3, 70), (2, 45), (9, 217)]
def am_name (y : Nat) : MethodName := am_nm.getD y yL_law
def am_bytes (y : Nat) : ByteArray := am_by.getD y cL_law
def am_fr (y : Nat) : Nat := (am_rm.getD y (0, 0)).1
def am_lo (y : Nat) : Nat := (am_rm.getD y (0, 0)).2
def am_room (y : Nat) : Room := { frames := am_fr y, cells := 0, slots := 0, locals := am_lo y }
def am_wsm (y : Nat) : List Cond := .code (am_name y) (am_bytes y) (am_max y) (am_ret y) :: am_TS
end
section
/-! what kind each method is: 1 static, 2 a constructor, 0 else (wip/gen/chk.py) -/
def am_kdl : List Nat := [1, 2, 0, 0, 0, 0, 2, 0, 0, 0, 0, 0, 0, 0, 2, 0, 0, 0, 0, 0, 0, 0, 0, 2, 0, 0, 0, 0, 0, 0, 0, 2, 0, 0, 0, 0, 0, 0, 0, 0, 0, 2, 0, 0, 0, 0, 0, 0, 0, 0, 0, 0, 0, 0, 1, 0, 0, 0, 0, 0, 0, 0, 2, 0, 0, 0, 0, 0, 0, 0, 0, 2, 0, 0, 0, 0, 0, 0, 2, 0, 0, 0, 0, 0, 0, 0, 0, 0, 0, 0, 0, 0, 0, 0, 2, 0, 0, 2, 0, 0, 0, 0, 0, 0, 0, 0, 0, 0, 0, 0, 0, 0, 0, 0, 0, 0, 0, 0, 0, 0, 0, 0, 0, 0, 1, 1, 1, 0, 1, 1, 1, 1, 2, 1, 1, 0, 0, 0, 0, 0, 0, 0, 0, 0, 0, 0, 0, 0, 0, 1, 0, 0, 0, 0, 0, 0, 0, 0, 0, 0, 0, 0, 0, 0, 0, 0, 0, 0, 0, 0, 1, 1, 0, 0, 0, 0, 0, 0, 0, 0, 0, 0, 0, 0, 0, 0, 0, 0, 0, 0, 0, 0, 0, 0, 0, 0, 0, 0, 0, 0, 0, 1, 1, 0, 0, 0, 0, 0, 0, 0, 0, 0, 0, 0, 3]
def am_kd (y : Nat) : Nat := am_kdl.getD y 9
end
section
/-! what is checked of each place of a method's code, by the kernel; and what it stands for -/
def am_si : Nat → Nat
  | 0 => 45
  | 1 => 58
  | 2 => 62
  | 3 => 69
  | _ => 73
def am_sx : Nat → String
  | 0 => "majority"
  | 1 => "grid"
  | 2 => "wall"
  | 3 => "plane"
  | _ => "set"
def am_len : List Nat := [8, 4, 4, 5, 3]
def am_byt : List (List Int32) := [am_txt 0, am_txt 1, am_txt 2, am_txt 3, am_txt 4]
def am_il : Instr → Nat
  | .iload _ => 2
  | .lload _ => 2
  | .aload _ => 2
  | .istore _ => 2
  | .lstore _ => 2
  | .astore _ => 2
  | _ => 1
def am_swc (p : Nat) (lo : Int) : List Int → List (Int32 × Nat) → Bool
  | [], [] => true
  | o :: os, (x, t) :: r => decide (x.toInt = lo) && decide ((p : Int) + o = (t : Int)) && am_swc p (lo + 1) os r
  | _, _ => false
def am_mcl (ci : Nat) : String := match am_cl[ci]? with
  | some x => x.1
  | none => ""
/-- one place: t says where its word stands in the tables -/
def am_ok (own : String) (fr lo : Nat) (e : am_E) (t : Nat × Nat) : Bool := match e with
  | (p, ins, len, a, d, k, v, sw) => match ins with
    | .iconst n => decide (len = 1) && decide (v = .int (Int32.ofInt n))
    | .bipush n => decide (len = 2) && decide (v = .int (Int8.ofInt n).toInt32)
    | .sipush n => decide (len = 3) && decide (v = .int (Int16.ofInt n).toInt32)
    | .lconst n => decide (len = 1) && decide (v = .long (Int64.ofNat n.1))
    | .ldc i => decide (len = 2) && match k with
      | 0 => match v with
        | .int x => am_w t.1 t.2 (.constant own i x)
        | _ => false
      | _ => decide (own = RX5) && decide (a < 5) && decide (am_si a = i)
    | .ldc_w i => decide (len = 3) && match v with
      | .int x => am_w t.1 t.2 (.constant own i x)
      | _ => false
    | .ldc2_w i => decide (len = 3) && match v with
      | .long x => am_w t.1 t.2 (.constantLong own i x)
      | _ => false
    | .iinc _ n => decide (len = 3) && decide (v = .int (Int32.ofInt n))
    | .ifCond _ o => decide (len = 3) && decide ((p : Int) + o = (a : Int))
    | .if_icmp _ o => decide (len = 3) && decide ((p : Int) + o = (a : Int))
    | .goto o => decide (len = 3) && decide ((p : Int) + o = (a : Int))
    | .tableswitch df l hi os => decide ((p : Int) + df = (a : Int)) && am_swc p l os.toList sw && decide (hi = l + os.toList.length - 1)
    | .getfield i => decide (len = 3) && match am_cl[a]? with
      | some (_, T, N) => decide (d < N) && am_w t.1 t.2 (.fieldLink own i (T d).1 (T d).2.1 (T d).2.2.1) && decide ((k = 2) ↔ am_isR (am_ft a d) = true)
      | none => false
    | .putfield i => decide (len = 3) && match am_cl[a]? with
      | some (_, T, N) => decide (d < N) && am_w t.1 t.2 (.fieldLink own i (T d).1 (T d).2.1 (T d).2.2.1) && decide ((T d).2.2.2 = false) && decide (k = 0 → am_ft a d = .int) && decide (k = 1 → am_ft a d = .boolean)
      | none => false
    | .iaload => decide (len = 1) && decide (k = 0 ∨ own = RL)
    | .arraylength => decide (len = 1) && decide (own = RL)
    | .baload => decide (len = 1) && decide (a = 12 ∨ a = 16)
    | .bastore => decide (len = 1) && decide (a = 12 ∨ a = 16)
    | .aaload => decide (len = 1) && decide (a = 17 ∨ a = 18 ∨ a = 19)
    | .aastore => decide (len = 1) && decide ((a = 17 ∧ d = 7) ∨ (a = 18 ∧ d = 8))
    | .invokevirtual i => decide (len = 3) && match k with
      | 0 => decide (own = RX5) && decide (6 ≤ fr ∧ 150 ≤ lo) && am_w t.1 t.2 (.methodLink own i yJ0_length_8abf5)
      | 1 => decide (own = RX5) && decide (6 ≤ fr ∧ 150 ≤ lo) && am_w t.1 t.2 (.methodLink own i yJ0_charAt_5068e)
      | ci + 2 => am_w t.1 t.2 (.methodLink own i (am_name a)) && decide (am_fr a + 1 ≤ fr) && decide (8 + (am_max a + 11) + am_lo a ≤ lo) && decide ((parseMethodDescriptor (am_name a).desc).map (fun d => d.parameters.length) = some d) && decide ((am_name a).cls = am_mcl ci) && decide (ci < 12) && decide (am_kd a = 0)
    | .invokestatic i => decide (len = 3) && match k with
      | 0 => am_w t.1 t.2 (.methodLink own i (am_name a)) && decide (am_fr a + 1 ≤ fr) && decide (8 + (am_max a + 11) + am_lo a ≤ lo) && decide ((parseMethodDescriptor (am_name a).desc).map (fun d => d.parameters.length) = some d) && decide (am_kd a = 1)
      | 3 => am_w t.1 t.2 (.methodLink own i Lib.Math.max.name) && decide (1 ≤ fr) && decide (21 ≤ lo)
      | 4 => am_w t.1 t.2 (.methodLink own i Lib.Math.min.name) && decide (1 ≤ fr) && decide (21 ≤ lo)
      | _ => am_w t.1 t.2 (.methodLink own i arraycopyName) && decide (1 ≤ fr) && decide (8 + (nativeFrameWords "java/lang/System" "arraycopy" 5 + 11) ≤ lo)
    | _ => decide (len = am_il ins)
theorem am_bin_at {st : List Value} {K : Int32 → Int32 → List Value → Prop} (h : am_bin st K) : ∃ x y s, st = .int y :: .int x :: s ∧ K x y s := by
  unfold am_bin at h
  split at h
  · exact ⟨_, _, _, rfl, h⟩
  · exact h.elim
theorem am_un_at {st : List Value} {K : Int32 → List Value → Prop} (h : am_un st K) : ∃ x s, st = .int x :: s ∧ K x s := by
  unfold am_un at h
  split at h
  · exact ⟨_, _, rfl, h⟩
  · exact h.elim
theorem am_lbin_at {st : List Value} {K : Int64 → Int64 → List Value → Prop} (h : am_lbin st K) : ∃ x y s, st = .long y :: .long x :: s ∧ K x y s := by
  unfold am_lbin at h
  split at h
  · exact ⟨_, _, _, rfl, h⟩
  · exact h.elim
theorem am_lun_at {st : List Value} {K : Int64 → List Value → Prop} (h : am_lun st K) : ∃ x s, st = .long x :: s ∧ K x s := by
  unfold am_lun at h
  split at h
  · exact ⟨_, _, rfl, h⟩
  · exact h.elim
theorem am_rf_at {st : List Value} {K : Nat → List Value → Prop} (h : am_rf st K) : ∃ x s, st = .ref x :: s ∧ K x s := by
  unfold am_rf at h
  split at h
  · exact ⟨_, _, rfl, h⟩
  · exact h.elim
theorem am_pop_at {K : List Value → List Value → Prop} : ∀ {n : Nat} {st acc : List Value}, am_pop n st acc K → ∃ as s, st = as.reverse ++ s ∧ as.length = n ∧ K (as ++ acc) s
  | 0, st, acc, h => ⟨[], st, rfl, rfl, h⟩
  | n + 1, v :: st, acc, h => by
    obtain ⟨as, s, h1, h2, h3⟩ := am_pop_at (n := n) (st := st) (acc := v :: acc) h
    exact ⟨as ++ [v], s, by simp [h1], by simp [h2], by simpa using h3⟩
  | _ + 1, [], _, h => h.elim
theorem am_words_sum (s : List Value) : am_words s = (s.map fun v => v.category).sum := by
  induction s with
  | nil => rfl
  | cons v r ih => simp [am_words, ih]
theorem am_words_cv (α : Nat → Nat) (s : List Value) : ((s.map (am_cv α)).map fun v => v.category).sum = am_words s := by
  rw [am_words_sum, List.map_map]
  congr 1
  apply List.map_congr_left
  intro v _
  exact am_cv_cat v
end
section
/-! every place of every method is as it must be: by the kernel (wip/gen/chk.py) -/
def am_dec (cc : ByteArray) (e : am_E) : Bool := decide (decode cc e.1 = .ok (e.2.1, e.2.2.1))
def am_all (own : String) (cc : ByteArray) (fr lo : Nat) : List am_E → List (Nat × Nat) → Bool
  | [], _ => true
  | e :: r, [] => am_dec cc e && am_ok own fr lo e (0, 0) && am_all own cc fr lo r []
  | e :: r, t :: ts => am_dec cc e && am_ok own fr lo e t && am_all own cc fr lo r ts
theorem am_all_at {own : String} {cc : ByteArray} {fr lo : Nat} : ∀ {c : List am_E} {ts : List (Nat × Nat)}, am_all own cc fr lo c ts = true → ∀ e ∈ c, ∃ t, decode cc e.1 = .ok (e.2.1, e.2.2.1) ∧ am_ok own fr lo e t = true
  | [], _, _, e, he => by cases he
  | x :: r, [], h, e, he => by
    simp only [am_all, Bool.and_eq_true, am_dec, decide_eq_true_eq] at h
    rcases List.mem_cons.mp he with rfl | he
    · exact ⟨(0, 0), h.1.1, h.1.2⟩
    · exact am_all_at h.2 e he
  | x :: r, t :: ts, h, e, he => by
    simp only [am_all, Bool.and_eq_true, am_dec, decide_eq_true_eq] at h
    rcases List.mem_cons.mp he with rfl | he
    · exact ⟨t, h.1.1, h.1.2⟩
    · exact am_all_at h.2 e he
theorem am_k_J6_bitCount : am_all (am_name 0).cls cJ6_bitCount_0f7a4 (am_fr 0) (am_lo 0) am_c_J6_bitCount [(0, 0), (0, 0), (0, 0), (0, 0), (1, 69), (0, 0), (0, 0), (0, 0), (0, 0), (1, 70), (0, 0), (0, 0), (0, 0), (0, 0), (1, 70), (0, 0), (0, 0), (0, 0), (0, 0), (0, 0), (0, 0), (0, 0), (0, 0), (1, 71), (0, 0), (0, 0), (0, 0), (0, 0), (0, 0), (0, 0), (0, 0), (0, 0), (0, 0), (0, 0), (0, 0), (0, 0), (0, 0), (0, 0), (0, 0), (0, 0), (0, 0), (0, 0)] = true := by decide +kernel
theorem am_k_Hi_note : am_all (am_name 2).cls cX0_note (am_fr 2) (am_lo 2) am_c_Hi_note [(0, 0), (0, 95), (0, 0), (0, 0), (0, 0), (2, 41), (0, 0), (0, 97), (0, 0), (0, 95), (0, 0), (0, 0), (2, 45), (0, 0), (0, 0), (0, 95), (0, 0), (0, 0), (0, 95), (0, 0)] = true := by decide +kernel
theorem am_k_Hi_loseOldest : am_all (am_name 3).cls cX0_loseOldest (am_fr 3) (am_lo 3) am_c_Hi_loseOldest [(0, 0), (0, 97), (0, 0), (0, 0), (0, 0), (0, 0), (0, 0), (0, 0), (0, 0), (0, 0), (0, 0), (0, 97), (0, 0), (0, 0), (0, 0), (0, 0), (0, 97), (0, 0), (0, 0), (0, 0), (0, 0), (0, 0), (0, 0), (0, 97), (0, 0), (0, 0), (0, 0), (0, 0), (0, 0), (0, 95), (0, 0)] = true := by decide +kernel
theorem am_k_Hi_takeBack : am_all (am_name 4).cls cX0_takeBack (am_fr 4) (am_lo 4) am_c_Hi_takeBack [(0, 0), (0, 95), (0, 0), (0, 0), (0, 0), (0, 95), (0, 0), (0, 0), (0, 95), (0, 0), (0, 0), (0, 97), (0, 0), (0, 95), (0, 0), (2, 45), (0, 0)] = true := by decide +kernel
theorem am_k_Hi_becomes : am_all (am_name 5).cls cX0_becomes (am_fr 5) (am_lo 5) am_c_Hi_becomes [(0, 0), (0, 0), (0, 95), (0, 95), (0, 0), (0, 0), (0, 0), (0, 0), (0, 95), (0, 0), (0, 0), (0, 97), (0, 0), (0, 0), (0, 0), (0, 97), (0, 0), (0, 0), (2, 45), (0, 0), (0, 0), (0, 0)] = true := by decide +kernel
theorem am_k_Ho_look : am_all (am_name 7).cls cX1_look (am_fr 7) (am_lo 7) am_c_Ho_look [(0, 0), (0, 0), (1, 80), (0, 156), (0, 0), (0, 0), (0, 0), (0, 0), (0, 156), (0, 0), (0, 0), (0, 158), (0, 0), (0, 0), (0, 0), (1, 84), (0, 0), (0, 0), (0, 0), (0, 0)] = true := by decide +kernel
theorem am_k_Ho_ofCount : am_all (am_name 8).cls cX1_ofCount (am_fr 8) (am_lo 8) am_c_Ho_ofCount [(0, 0), (0, 0), (0, 0), (0, 0), (0, 0), (0, 0), (0, 156), (0, 0), (0, 0), (0, 158), (0, 0), (0, 0), (0, 0), (0, 0), (1, 116), (0, 0), (0, 0), (0, 0), (0, 0), (0, 0), (0, 0), (0, 0)] = true := by decide +kernel
theorem am_k_Ho_turnedBy : am_all (am_name 9).cls cX1_turnedBy (am_fr 9) (am_lo 9) am_c_Ho_turnedBy [(0, 0), (0, 0), (0, 0), (0, 0), (0, 0), (0, 0), (0, 156), (0, 0), (0, 0), (0, 0), (0, 0), (0, 0), (0, 0), (0, 158), (0, 0), (0, 0), (0, 0), (0, 0), (0, 158), (0, 0), (0, 0), (0, 0), (0, 0), (0, 0), (0, 0), (0, 0), (0, 0), (0, 0), (0, 0)] = true := by decide +kernel
theorem am_k_Ho_faults : am_all (am_name 10).cls cX1_faults (am_fr 10) (am_lo 10) am_c_Ho_faults [(0, 0), (0, 0), (0, 0), (0, 0), (0, 0), (0, 0), (0, 156), (0, 0), (0, 0), (0, 158), (0, 0), (0, 156), (0, 0), (0, 0), (0, 0), (0, 0), (0, 0), (0, 0), (1, 116), (1, 117), (0, 0), (0, 0), (0, 0), (0, 0), (0, 0), (0, 0), (0, 0)] = true := by decide +kernel
theorem am_k_Ho_isFree : am_all (am_name 11).cls cX1_isFree (am_fr 11) (am_lo 11) am_c_Ho_isFree [(0, 0), (0, 158), (0, 0), (0, 0), (0, 0), (0, 0), (0, 158), (0, 0), (0, 156), (0, 0), (0, 0), (0, 0), (0, 0), (0, 0), (0, 0), (0, 0), (0, 0)] = true := by decide +kernel
theorem am_k_Ho_freeSets : am_all (am_name 12).cls cX1_freeSets (am_fr 12) (am_lo 12) am_c_Ho_freeSets [(0, 0), (0, 0), (0, 0), (0, 0), (0, 0), (0, 0), (0, 156), (0, 0), (0, 0), (0, 0), (1, 210), (0, 0), (0, 0), (0, 0), (0, 0), (0, 0), (0, 0)] = true := by decide +kernel
theorem am_k_Ho_leastFree : am_all (am_name 13).cls cX1_leastFree (am_fr 13) (am_lo 13) am_c_Ho_leastFree [(0, 0), (0, 0), (0, 0), (0, 0), (0, 156), (0, 0), (0, 0), (0, 0), (1, 210), (0, 0), (0, 0), (0, 0), (0, 0), (0, 0), (0, 0), (0, 0)] = true := by decide +kernel
theorem am_k_Pa_most : am_all (am_name 15).cls cX2_most (am_fr 15) (am_lo 15) am_c_Pa_most [(0, 0), (0, 198), (0, 0), (0, 201), (0, 0), (0, 0), (0, 202), (0, 0), (0, 0)] = true := by decide +kernel
theorem am_k_Pa_solve : am_all (am_name 16).cls cX2_solve (am_fr 16) (am_lo 16) am_c_Pa_solve [(0, 0), (0, 0), (1, 127), (0, 0), (1, 131), (0, 0), (0, 0), (0, 0), (0, 0), (0, 0), (0, 0), (1, 135), (0, 0), (0, 0), (0, 0), (1, 136), (0, 0), (0, 0), (0, 0), (0, 0), (0, 0), (0, 0), (0, 0), (1, 144), (0, 0), (1, 131), (0, 0), (0, 0), (0, 0), (0, 0)] = true := by decide +kernel
theorem am_k_Pa_begin : am_all (am_name 17).cls cX2_begin (am_fr 17) (am_lo 17) am_c_Pa_begin [(0, 0), (0, 0), (0, 60), (0, 201), (0, 0), (0, 0), (0, 64), (0, 202), (0, 0), (0, 0), (0, 203), (0, 0), (0, 0), (0, 0), (0, 0), (0, 202), (0, 0), (0, 0), (0, 200), (0, 0), (0, 0), (0, 0), (0, 0), (0, 198), (0, 0), (0, 201), (0, 0), (0, 0), (0, 0), (0, 0), (0, 0), (0, 0), (0, 0), (0, 0), (0, 201), (0, 0), (0, 0), (0, 198), (0, 0), (0, 0), (0, 0), (0, 0), (0, 69), (0, 0), (0, 0), (0, 0), (0, 0), (0, 0), (0, 0), (0, 0), (0, 0), (0, 0), (0, 0), (0, 0), (0, 0), (0, 0), (0, 0), (0, 0), (0, 201), (0, 0), (0, 0), (0, 199), (0, 0), (0, 0), (0, 0), (0, 0), (0, 0), (0, 0), (0, 198), (0, 0), (0, 0), (0, 0), (0, 202), (0, 0), (0, 0), (0, 0), (0, 0), (0, 0), (0, 198), (0, 0), (0, 201), (0, 0), (0, 0), (0, 202), (0, 0), (0, 0), (0, 0)] = true := by decide +kernel
theorem am_k_Pa_entering : am_all (am_name 18).cls cX2_entering (am_fr 18) (am_lo 18) am_c_Pa_entering [(0, 0), (0, 0), (0, 0), (0, 0), (0, 0), (0, 0), (0, 202), (0, 0), (0, 0), (0, 198), (0, 0), (0, 201), (0, 0), (0, 0), (0, 0), (0, 0), (0, 0), (0, 0), (0, 0), (0, 200), (0, 0), (0, 0), (0, 0), (0, 200), (0, 0), (0, 0), (0, 0), (0, 0), (0, 0), (0, 0), (0, 0), (0, 0), (0, 0)] = true := by decide +kernel
theorem am_k_Pa_leaving : am_all (am_name 19).cls cX2_leaving (am_fr 19) (am_lo 19) am_c_Pa_leaving [(0, 0), (0, 0), (0, 0), (0, 0), (0, 0), (0, 0), (0, 201), (0, 0), (0, 0), (0, 198), (0, 0), (0, 0), (0, 0), (0, 0), (0, 0), (0, 0), (0, 0), (0, 0), (0, 0), (0, 0), (0, 0), (1, 140), (0, 0), (0, 0), (0, 0), (0, 0), (0, 0), (0, 0), (0, 0)] = true := by decide +kernel
theorem am_k_Pa_isAhead : am_all (am_name 20).cls cX2_isAhead (am_fr 20) (am_lo 20) am_c_Pa_isAhead [(0, 0), (0, 198), (0, 0), (0, 0), (0, 0), (0, 202), (0, 0), (0, 0), (0, 198), (0, 0), (0, 0), (0, 0), (0, 0), (0, 0), (0, 0), (0, 0), (0, 198), (0, 0), (0, 0), (0, 0), (0, 202), (0, 0), (0, 0), (0, 198), (0, 0), (0, 0), (0, 0), (0, 0), (0, 0), (0, 0), (0, 0), (0, 0), (0, 0), (0, 0), (0, 0), (0, 0), (0, 0), (0, 199), (0, 0), (0, 0), (0, 0), (0, 199), (0, 0), (0, 0), (0, 0), (0, 0), (0, 0), (0, 0), (0, 0)] = true := by decide +kernel
theorem am_k_Pa_pivot : am_all (am_name 21).cls cX2_pivot (am_fr 21) (am_lo 21) am_c_Pa_pivot [(0, 0), (0, 198), (0, 0), (0, 0), (0, 0), (0, 0), (0, 0), (0, 0), (0, 0), (0, 0), (0, 0), (0, 201), (0, 0), (0, 0), (0, 0), (0, 0), (0, 0), (0, 0), (0, 0), (0, 0), (1, 148), (0, 0), (0, 0), (0, 0), (0, 198), (0, 0), (0, 0), (0, 0), (0, 0), (0, 203), (0, 0), (0, 0), (0, 0), (0, 203), (0, 0), (0, 199), (0, 0), (0, 0), (0, 0), (0, 0), (0, 199), (0, 0), (0, 0), (0, 200), (0, 0), (0, 0), (0, 0), (0, 0), (0, 200), (0, 0), (0, 0), (0, 0), (0, 0)] = true := by decide +kernel
theorem am_k_Pa_clearBy : am_all (am_name 22).cls cX2_clearBy (am_fr 22) (am_lo 22) am_c_Pa_clearBy [(0, 0), (0, 198), (0, 0), (0, 0), (0, 0), (0, 0), (0, 0), (0, 0), (0, 198), (0, 0), (0, 0), (0, 0), (0, 0), (0, 0), (0, 0), (0, 0), (0, 0), (0, 0), (0, 202), (0, 0), (0, 0), (0, 0), (0, 0), (0, 0), (0, 203), (0, 0), (0, 0), (0, 198), (0, 0), (0, 0), (0, 0), (0, 0), (0, 198), (0, 0), (0, 0), (0, 0), (0, 0), (0, 0), (0, 0), (0, 0), (0, 0), (0, 198), (0, 0), (0, 0), (0, 0), (0, 0), (0, 0), (0, 0), (0, 0), (0, 203), (0, 0), (0, 0), (0, 0), (0, 0), (0, 0), (0, 198), (0, 0), (0, 0), (0, 0), (0, 0), (0, 0), (0, 0), (0, 0)] = true := by decide +kernel
theorem am_k_Pl_becomeAll : am_all (am_name 24).cls cX3_becomeAll (am_fr 24) (am_lo 24) am_c_Pl_becomeAll [(0, 0), (0, 0), (0, 42), (0, 42), (0, 0), (0, 0), (0, 0), (0, 0), (0, 0), (0, 0), (0, 0), (0, 0), (0, 0), (2, 56), (0, 0), (0, 0), (0, 0)] = true := by decide +kernel
theorem am_k_Pl_moveIn : am_all (am_name 25).cls cX3_moveIn (am_fr 25) (am_lo 25) am_c_Pl_moveIn [(0, 0), (0, 44), (0, 0), (0, 0), (0, 44), (0, 0), (0, 0), (0, 0), (0, 0), (0, 45), (0, 0), (0, 0), (0, 0), (0, 0), (0, 45), (0, 0), (0, 0), (0, 0), (0, 0), (2, 60), (0, 0), (0, 46), (0, 0), (0, 0), (0, 0), (0, 0), (0, 46), (0, 0), (0, 0), (0, 0), (0, 0), (2, 60), (0, 0)] = true := by decide +kernel
theorem am_k_Pl_placeOf : am_all (am_name 26).cls cX3_placeOf (am_fr 26) (am_lo 26) am_c_Pl_placeOf [(0, 0), (0, 0), (0, 0), (0, 0), (0, 42), (0, 0), (0, 0), (0, 44), (0, 0), (0, 0), (0, 0), (0, 0), (0, 0), (0, 0), (0, 0), (0, 0), (0, 0), (0, 0)] = true := by decide +kernel
theorem am_k_Pl_become : am_all (am_name 27).cls cX3_become (am_fr 27) (am_lo 27) am_c_Pl_become [(0, 0), (0, 0), (3, 65), (0, 0), (0, 0), (0, 0), (0, 0), (0, 0), (3, 66), (0, 0), (0, 0), (0, 42), (0, 0), (0, 0), (0, 0), (0, 0), (3, 66), (0, 0), (0, 44), (0, 0), (0, 42), (0, 0), (0, 0), (0, 0), (0, 0), (0, 0), (0, 0), (0, 0), (0, 0), (0, 45), (0, 0), (0, 42), (0, 0), (0, 0), (0, 0), (0, 0), (0, 65), (0, 0), (0, 0), (0, 70), (0, 0), (0, 0), (0, 0), (0, 0), (0, 0), (0, 0), (0, 46), (0, 0), (0, 42), (0, 0), (0, 0), (0, 0), (0, 0), (0, 65), (0, 0), (0, 0), (0, 225), (0, 0), (0, 0), (0, 0), (0, 0), (0, 0), (0, 0), (0, 0), (0, 0), (0, 0), (0, 42), (0, 0), (0, 0), (0, 42), (0, 0)] = true := by decide +kernel
theorem am_k_Pl_lose : am_all (am_name 28).cls cX3_lose (am_fr 28) (am_lo 28) am_c_Pl_lose [(0, 0), (0, 0), (0, 0), (0, 0), (0, 0), (0, 0), (0, 42), (0, 0), (0, 0), (0, 0), (0, 0), (0, 0), (0, 0), (0, 0), (2, 56), (0, 0), (0, 0), (0, 0), (0, 0), (0, 42), (0, 0), (0, 0), (0, 42), (0, 0)] = true := by decide +kernel
theorem am_k_Pl_weightOn : am_all (am_name 29).cls cX3_weightOn (am_fr 29) (am_lo 29) am_c_Pl_weightOn [(0, 0), (0, 0), (0, 0), (0, 0), (0, 0), (0, 0), (0, 0), (0, 0), (0, 45), (0, 0), (0, 0), (0, 0), (0, 0), (0, 0), (0, 0), (0, 0), (0, 0), (0, 0), (0, 0), (0, 0), (1, 175), (0, 0), (0, 0), (0, 0), (0, 46), (0, 0), (0, 0), (0, 0), (0, 0), (0, 0), (0, 0), (0, 0), (0, 0), (0, 0), (0, 0)] = true := by decide +kernel
theorem am_k_Pl_greatestWeight : am_all (am_name 30).cls cX3_greatestWeight (am_fr 30) (am_lo 30) am_c_Pl_greatestWeight [(0, 0), (0, 0), (0, 0), (0, 0), (0, 0), (0, 0), (0, 61), (0, 0), (0, 0), (0, 0), (0, 0), (0, 0), (0, 0), (0, 0), (0, 0), (1, 183), (1, 184), (0, 0), (0, 0), (0, 0), (0, 0), (0, 0)] = true := by decide +kernel
theorem am_k_Pr_play : am_all (am_name 32).cls cX4_play (am_fr 32) (am_lo 32) am_c_Pr_play [(0, 0), (0, 174), (0, 0), (1, 231), (0, 0), (0, 0), (0, 177), (0, 0), (0, 0), (0, 178), (0, 0), (0, 0), (0, 177), (0, 0), (0, 178), (1, 232), (0, 0), (0, 0), (0, 0), (0, 0), (0, 0), (0, 0), (0, 0), (0, 0), (0, 0), (0, 0), (0, 0), (0, 0), (0, 0), (0, 0), (0, 0), (0, 0), (0, 0), (0, 0), (1, 236), (0, 0), (0, 0), (0, 0)] = true := by decide +kernel
theorem am_k_Pr_playLost : am_all (am_name 33).cls cX4_playLost (am_fr 33) (am_lo 33) am_c_Pr_playLost [(0, 0), (0, 0), (0, 0), (0, 0), (0, 0), (0, 0), (0, 0), (0, 0), (0, 0), (0, 0), (0, 0), (0, 177), (0, 0), (0, 0), (0, 0), (0, 0), (0, 178), (0, 0), (0, 0), (0, 0), (0, 0), (0, 176), (0, 0), (0, 0), (0, 0), (2, 0), (0, 0), (0, 0), (0, 0), (2, 4), (0, 0), (0, 0), (0, 0), (0, 0), (0, 0)] = true := by decide +kernel
theorem am_k_Pr_placeOf : am_all (am_name 34).cls cX4_placeOf (am_fr 34) (am_lo 34) am_c_Pr_placeOf [(0, 0), (0, 175), (0, 0), (0, 0), (0, 0), (0, 0), (0, 175), (0, 0), (0, 0), (0, 0), (0, 0), (0, 0)] = true := by decide +kernel
theorem am_k_Pr_openOf : am_all (am_name 35).cls cX4_openOf (am_fr 35) (am_lo 35) am_c_Pr_openOf [(0, 0), (0, 174), (0, 157), (0, 0), (0, 0), (0, 0), (0, 0), (0, 0), (0, 0), (0, 0)] = true := by decide +kernel
theorem am_k_Pr_isOver : am_all (am_name 36).cls cX4_isOver (am_fr 36) (am_lo 36) am_c_Pr_isOver [(0, 0), (0, 174), (0, 159), (0, 0), (0, 0), (0, 0), (0, 0), (0, 174), (0, 159), (0, 0), (0, 174), (0, 157), (0, 0), (0, 0), (0, 0), (0, 0), (0, 0), (0, 0), (0, 0), (0, 0), (0, 0), (0, 0)] = true := by decide +kernel
theorem am_k_Pr_probesFrom : am_all (am_name 37).cls cX4_probesFrom (am_fr 37) (am_lo 37) am_c_Pr_probesFrom [(0, 0), (0, 0), (0, 0), (2, 8), (0, 0), (0, 0), (0, 0), (0, 0), (0, 0), (0, 0), (1, 232), (0, 0), (0, 0), (0, 0), (0, 0), (0, 0), (0, 0), (0, 0), (0, 0), (0, 0), (0, 0), (0, 0), (0, 0), (0, 0), (0, 0), (0, 0), (0, 0), (0, 0), (0, 0), (0, 0), (0, 0), (0, 0), (0, 0), (2, 12), (2, 17), (0, 0), (0, 0), (0, 0), (0, 0), (0, 0)] = true := by decide +kernel
theorem am_k_Pr_probesBy : am_all (am_name 38).cls cX4_probesBy (am_fr 38) (am_lo 38) am_c_Pr_probesBy [(0, 0), (0, 0), (0, 176), (0, 0), (0, 0), (0, 0), (0, 0), (0, 0), (2, 0), (0, 0), (0, 0), (0, 176), (0, 0), (0, 0), (0, 0), (0, 0), (0, 0), (2, 0), (0, 0), (2, 16), (0, 0), (0, 0)] = true := by decide +kernel
theorem am_k_Pr_worst : am_all (am_name 39).cls cX4_worst (am_fr 39) (am_lo 39) am_c_Pr_worst [(0, 0), (0, 176), (0, 0), (0, 0), (0, 177), (0, 0), (0, 178), (2, 0), (0, 0), (0, 0)] = true := by decide +kernel
theorem am_k_Pr_best : am_all (am_name 40).cls cX4_best (am_fr 40) (am_lo 40) am_c_Pr_best [(0, 0), (0, 0), (0, 177), (0, 0), (0, 178), (1, 232), (0, 0), (0, 0), (0, 0), (0, 177), (0, 0), (0, 178), (2, 8), (0, 0), (0, 0), (0, 0), (0, 0), (0, 0), (0, 0), (0, 0), (0, 0), (0, 0), (0, 0), (0, 0), (0, 0), (0, 0), (0, 0), (0, 0), (0, 0), (0, 0), (0, 177), (0, 0), (0, 178), (0, 0), (0, 0), (0, 0), (2, 12), (0, 0), (2, 26), (0, 0), (0, 0), (0, 0), (0, 0), (0, 0), (0, 0), (0, 0)] = true := by decide +kernel
theorem am_k_Re_faultOfTape : am_all (am_name 42).cls cX5_faultOfTape (am_fr 42) (am_lo 42) am_c_Re_faultOfTape [(0, 0), (0, 0), (0, 124), (0, 0), (0, 0), (0, 126), (0, 0), (0, 0), (0, 134), (0, 0), (2, 97), (0, 0), (0, 0), (0, 134), (0, 0), (0, 0), (2, 105), (0, 0), (0, 134), (0, 0), (0, 0), (2, 109), (0, 0), (0, 0), (2, 110), (0, 0), (0, 0), (0, 0), (2, 162), (2, 183), (0, 0), (0, 0), (2, 187), (0, 0), (0, 0), (2, 110), (0, 0), (0, 0), (0, 0), (2, 188), (2, 183), (0, 0), (0, 0), (2, 200), (0, 0), (0, 0), (2, 110), (0, 0), (0, 0), (2, 201), (0, 0), (0, 0), (0, 134), (0, 0), (0, 0), (2, 205), (0, 0), (0, 0), (0, 0), (0, 0), (0, 0), (0, 0), (2, 217), (0, 0), (0, 0), (2, 110), (0, 0), (0, 0), (0, 0), (2, 218), (2, 183), (0, 0), (0, 0), (2, 222), (0, 0), (0, 0), (2, 110), (0, 0), (0, 0), (0, 0), (2, 223), (2, 183), (0, 0), (0, 0), (0, 0)] = true := by decide +kernel
theorem am_k_Re_faultUnless : am_all (am_name 43).cls cX5_faultUnless (am_fr 43) (am_lo 43) am_c_Re_faultUnless [(0, 0), (0, 0), (0, 0), (0, 0), (0, 0), (0, 134), (0, 0)] = true := by decide +kernel
theorem am_k_Re_skipName : am_all (am_name 44).cls cX5_skipName (am_fr 44) (am_lo 44) am_c_Re_skipName [(0, 0), (0, 130), (0, 0), (0, 134), (2, 101), (0, 0), (0, 0), (0, 0), (0, 130), (0, 0), (0, 134), (2, 101), (0, 0), (0, 0), (0, 0), (0, 134), (0, 0), (0, 0), (0, 0), (0, 0), (0, 134), (0, 0), (0, 0), (0, 134), (0, 0), (0, 0)] = true := by decide +kernel
theorem am_k_Re_isName : am_all (am_name 45).cls cX5_isName (am_fr 45) (am_lo 45) am_c_Re_isName [(0, 0), (0, 0), (0, 0), (0, 0), (2, 114), (0, 0), (0, 0), (0, 0), (0, 0), (0, 0), (0, 0), (0, 0), (2, 114), (0, 0), (0, 0), (0, 130), (0, 0), (0, 0), (0, 0), (2, 101), (0, 0), (0, 0), (2, 124), (0, 0), (0, 0), (0, 0), (0, 0), (0, 0), (0, 0), (0, 0)] = true := by decide +kernel
theorem am_k_Re_next : am_all (am_name 46).cls cX5_next (am_fr 46) (am_lo 46) am_c_Re_next [(0, 0), (0, 130), (0, 0), (0, 134), (2, 101), (0, 0), (0, 0), (0, 0), (0, 134), (0, 0), (0, 0), (0, 0), (0, 0), (0, 134), (0, 0), (0, 0), (0, 134), (0, 0), (0, 0), (0, 130), (0, 0), (0, 134), (2, 101), (0, 0)] = true := by decide +kernel
theorem am_k_Re_skips : am_all (am_name 47).cls cX5_skips (am_fr 47) (am_lo 47) am_c_Re_skips [(0, 0), (2, 97), (0, 0), (0, 0), (0, 0), (0, 0), (0, 0), (0, 0), (0, 134), (0, 0), (0, 0), (0, 134), (0, 0), (0, 0)] = true := by decide +kernel
theorem am_k_Re_figure : am_all (am_name 48).cls cX5_figure (am_fr 48) (am_lo 48) am_c_Re_figure [(0, 0), (2, 97), (0, 0), (0, 0), (0, 0), (0, 0), (0, 0), (0, 0), (0, 0), (0, 0), (0, 0), (0, 0), (0, 0), (0, 0), (0, 0), (0, 134), (0, 0), (0, 0), (0, 134), (0, 0), (0, 0)] = true := by decide +kernel
theorem am_k_Re_ends : am_all (am_name 49).cls cX5_ends (am_fr 49) (am_lo 49) am_c_Re_ends [(0, 0), (2, 97), (0, 0), (0, 0), (0, 0), (0, 0), (0, 0)] = true := by decide +kernel
theorem am_k_Re_isTold : am_all (am_name 50).cls cX5_isTold (am_fr 50) (am_lo 50) am_c_Re_isTold [(0, 0), (0, 0), (0, 0), (0, 0), (0, 126), (0, 0), (0, 0), (0, 128), (0, 0), (0, 0), (0, 0), (0, 0), (0, 0), (0, 0), (0, 0), (0, 0), (0, 0), (0, 0)] = true := by decide +kernel
theorem am_k_Re_tell : am_all (am_name 51).cls cX5_tell (am_fr 51) (am_lo 51) am_c_Re_tell [(0, 0), (0, 126), (0, 0), (0, 0), (0, 0), (0, 0), (2, 179), (0, 0), (0, 0), (0, 128), (0, 0), (0, 126), (0, 0), (0, 0), (0, 0), (0, 0), (0, 126), (0, 0), (0, 0), (0, 126), (0, 0)] = true := by decide +kernel
theorem am_k_Re_majority : am_all (am_name 52).cls cX5_majority (am_fr 52) (am_lo 52) am_c_Re_majority [(0, 0), (0, 0), (0, 0), (2, 166), (0, 124), (0, 0), (0, 124), (0, 0), (0, 0), (2, 170), (0, 0), (0, 0), (0, 0), (0, 0), (0, 0), (0, 0), (0, 0), (0, 0), (0, 124), (0, 0), (0, 0), (0, 0), (2, 174), (0, 0), (0, 124), (0, 0), (0, 0), (0, 0), (0, 0), (0, 0), (0, 0), (0, 0), (2, 175), (0, 0), (0, 0), (0, 0), (0, 0)] = true := by decide +kernel
theorem am_k_Re_grid : am_all (am_name 53).cls cX5_grid (am_fr 53) (am_lo 53) am_c_Re_grid [(0, 0), (0, 0), (2, 166), (0, 0), (0, 0), (0, 0), (0, 0), (0, 0), (2, 192), (0, 0), (0, 0), (0, 0), (0, 0), (0, 0), (0, 0), (0, 0), (0, 0), (2, 196), (2, 166), (0, 0), (0, 0), (0, 0), (0, 0), (2, 170), (0, 0), (0, 0), (0, 0), (0, 0), (0, 0), (0, 0), (0, 0), (0, 124), (0, 0), (0, 0), (0, 0), (0, 0), (0, 0), (0, 0), (0, 0), (0, 0), (0, 0), (0, 0), (0, 0), (0, 0), (0, 0), (0, 0), (0, 0), (0, 0), (0, 0), (0, 0), (0, 0), (0, 0), (0, 0), (0, 0), (0, 0), (0, 0), (0, 0), (0, 0), (0, 0), (0, 0), (0, 0), (0, 0), (0, 0), (0, 0), (2, 197), (0, 0), (0, 0), (0, 0), (0, 0), (2, 175), (0, 0), (0, 0), (0, 0), (0, 0), (0, 0), (0, 0)] = true := by decide +kernel
theorem am_k_Re_wallRow : am_all (am_name 54).cls cX5_wallRow (am_fr 54) (am_lo 54) am_c_Re_wallRow [(0, 0), (0, 0), (0, 0), (0, 0), (0, 0), (0, 0), (0, 0), (0, 0)] = true := by decide +kernel
theorem am_k_Re_wall : am_all (am_name 55).cls cX5_wall (am_fr 55) (am_lo 55) am_c_Re_wall [(0, 0), (0, 0), (0, 133), (0, 0), (0, 133), (0, 0), (0, 0), (0, 0), (0, 133), (0, 0), (0, 0), (0, 0), (2, 192), (0, 0), (0, 0), (2, 170), (0, 0), (0, 0), (0, 0), (0, 0), (0, 0), (0, 124), (0, 0), (2, 196), (2, 166), (0, 0), (0, 0), (0, 0), (0, 0), (0, 0), (0, 0), (0, 132), (0, 0), (0, 133), (0, 0), (0, 0), (0, 0), (0, 0), (0, 124), (0, 0), (0, 0), (0, 124), (0, 0), (0, 0), (0, 133), (0, 0), (0, 0), (0, 133), (0, 0), (0, 0), (2, 170), (0, 0)] = true := by decide +kernel
theorem am_k_Re_isWallTold : am_all (am_name 56).cls cX5_isWallTold (am_fr 56) (am_lo 56) am_c_Re_isWallTold [(0, 0), (0, 0), (0, 0), (0, 0), (0, 0), (0, 0), (0, 133), (0, 0), (0, 0), (0, 0), (0, 0), (2, 209), (0, 0), (0, 0), (0, 0), (0, 0), (0, 0), (0, 0), (0, 0), (0, 0), (0, 0), (0, 0), (0, 0), (0, 0), (0, 0), (0, 0), (0, 0), (0, 133), (0, 0), (0, 0), (0, 0), (0, 0), (0, 0), (0, 0), (2, 209), (0, 0), (0, 0), (0, 0), (0, 132), (0, 0), (0, 0), (0, 0), (2, 197), (0, 0), (0, 0), (0, 0), (2, 213), (0, 0), (2, 175), (0, 0), (0, 0), (0, 0), (0, 0), (0, 132), (0, 0), (0, 0), (0, 0), (0, 0), (0, 0), (0, 0), (0, 0), (0, 0)] = true := by decide +kernel
theorem am_k_Re_waysBelow : am_all (am_name 57).cls cX5_waysBelow (am_fr 57) (am_lo 57) am_c_Re_waysBelow [(0, 0), (0, 0), (0, 0), (0, 0), (0, 0), (0, 0), (0, 0), (0, 0), (0, 133), (0, 0), (0, 0), (0, 0), (0, 132), (0, 0), (0, 0), (0, 0), (0, 0), (0, 0), (0, 0), (0, 0), (0, 0)] = true := by decide +kernel
theorem am_k_Re_chosenBelow : am_all (am_name 58).cls cX5_chosenBelow (am_fr 58) (am_lo 58) am_c_Re_chosenBelow [(0, 0), (0, 0), (0, 0), (0, 0), (0, 0), (0, 124), (0, 0), (0, 0), (0, 133), (0, 0), (0, 0), (0, 0), (0, 0), (0, 0), (0, 0), (0, 0), (0, 132), (0, 0), (0, 0), (0, 0), (0, 0), (0, 0), (0, 0), (0, 0), (0, 0), (0, 0), (0, 0), (0, 0), (0, 0), (0, 0), (0, 0), (0, 0), (0, 0), (0, 0), (0, 0), (0, 0), (0, 0), (0, 0), (0, 0), (0, 0), (0, 0), (0, 0), (0, 0), (0, 0)] = true := by decide +kernel
theorem am_k_Re_plane : am_all (am_name 59).cls cX5_plane (am_fr 59) (am_lo 59) am_c_Re_plane [(0, 0), (0, 0), (0, 124), (0, 0), (2, 170), (0, 0), (0, 0), (0, 0), (0, 0), (0, 0), (0, 0), (0, 0), (0, 124), (0, 0), (0, 0), (0, 0), (0, 0), (0, 0), (0, 0), (0, 0), (0, 0), (0, 0), (0, 0), (0, 0), (0, 0), (0, 0), (0, 0), (0, 0), (0, 0), (0, 0), (0, 0), (0, 0), (0, 0), (0, 0), (2, 175), (0, 0), (0, 0), (0, 0), (0, 0)] = true := by decide +kernel
theorem am_k_Re_figures : am_all (am_name 60).cls cX5_figures (am_fr 60) (am_lo 60) am_c_Re_figures [(0, 0), (0, 0), (0, 0), (2, 166), (0, 124), (0, 0), (0, 124), (0, 0), (0, 0), (2, 170), (0, 0), (0, 0), (0, 124), (0, 0), (0, 0), (0, 0), (0, 0), (0, 0), (0, 0), (0, 0), (2, 192), (0, 0), (0, 0), (0, 0), (0, 0), (0, 0), (0, 0), (0, 0), (0, 0), (0, 0), (2, 227), (0, 0), (0, 0), (0, 0), (0, 0), (0, 0), (2, 192), (0, 0), (0, 0), (2, 170), (0, 0), (0, 0), (0, 0), (0, 0), (0, 0)] = true := by decide +kernel
theorem am_k_Re_isGroupTold : am_all (am_name 61).cls cX5_isGroupTold (am_fr 61) (am_lo 61) am_c_Re_isGroupTold [(0, 0), (2, 97), (0, 0), (0, 0), (0, 126), (0, 0), (0, 0), (0, 0), (0, 0), (0, 0), (0, 0), (0, 0), (0, 130), (0, 0), (0, 134), (2, 101), (0, 0), (0, 0), (0, 0), (0, 130), (0, 0), (0, 134), (2, 101), (0, 0), (0, 0), (0, 0), (0, 134), (0, 0), (0, 0), (0, 0), (0, 130), (0, 0), (0, 134), (2, 101), (0, 0), (0, 0), (0, 0), (0, 0), (0, 0), (0, 124), (0, 0), (0, 0), (0, 0), (0, 0), (0, 0), (0, 0), (0, 0), (0, 0), (0, 0), (0, 0), (0, 0), (0, 0), (0, 0), (0, 0), (0, 0), (0, 0), (0, 0), (0, 0), (0, 134), (0, 0), (0, 0), (0, 134), (0, 0), (0, 0), (2, 97), (0, 0), (0, 0), (0, 0), (0, 0), (0, 0), (2, 179), (0, 0), (0, 0), (0, 0), (0, 0), (0, 0), (2, 175), (0, 0), (0, 0)] = true := by decide +kernel
theorem am_k_Ro_takes : am_all (am_name 63).cls cX6_takes (am_fr 63) (am_lo 63) am_c_Ro_takes [(0, 0), (0, 0), (0, 0), (3, 56), (0, 226), (0, 0), (0, 0), (0, 0), (0, 0), (0, 226), (0, 0), (0, 0), (0, 0), (0, 0), (0, 0), (3, 57), (0, 0), (0, 0), (0, 0), (0, 0), (0, 0), (0, 0), (0, 0), (0, 0), (0, 0), (0, 0), (0, 0), (0, 0), (0, 0), (0, 0), (0, 224), (0, 0), (0, 0), (0, 0), (0, 0), (0, 0), (0, 0), (0, 0), (0, 0)] = true := by decide +kernel
theorem am_k_Ro_nature : am_all (am_name 64).cls cX6_nature (am_fr 64) (am_lo 64) am_c_Ro_nature [(0, 0), (3, 78), (0, 0), (0, 0), (0, 0), (0, 0), (0, 0), (0, 0), (0, 0), (3, 82), (0, 0), (0, 0), (0, 0), (0, 0), (0, 0), (0, 0), (0, 0), (0, 0), (3, 86), (0, 0), (0, 0), (0, 0), (0, 0), (0, 0), (0, 0), (0, 0), (0, 0), (0, 0), (0, 59), (3, 91), (0, 0), (0, 0), (0, 0), (0, 0), (0, 0), (0, 0), (0, 0), (0, 0), (0, 0), (3, 99), (0, 0), (0, 0), (0, 0), (0, 0), (0, 0), (0, 0)] = true := by decide +kernel
theorem am_k_Ro_anyTwoMeet : am_all (am_name 65).cls cX6_anyTwoMeet (am_fr 65) (am_lo 65) am_c_Ro_anyTwoMeet [(0, 0), (0, 0), (0, 0), (0, 0), (0, 226), (0, 0), (0, 0), (0, 0), (0, 0), (0, 0), (0, 0), (0, 0), (0, 224), (0, 0), (0, 0), (0, 0), (0, 224), (0, 0), (0, 0), (0, 0), (0, 0), (0, 0), (0, 0), (0, 0), (0, 0), (0, 0), (0, 0), (0, 0), (0, 0)] = true := by decide +kernel
theorem am_k_Ro_isNonePart : am_all (am_name 66).cls cX6_isNonePart (am_fr 66) (am_lo 66) am_c_Ro_isNonePart [(0, 0), (0, 0), (0, 0), (0, 0), (0, 226), (0, 0), (0, 0), (0, 0), (0, 0), (0, 0), (0, 226), (0, 0), (0, 0), (0, 0), (0, 0), (0, 0), (0, 224), (0, 0), (0, 0), (0, 0), (0, 224), (0, 0), (0, 0), (0, 0), (0, 0), (0, 0), (0, 0), (0, 0), (0, 0), (0, 0), (0, 0), (0, 0), (0, 0), (0, 0), (0, 0)] = true := by decide +kernel
theorem am_k_Ro_isOneCount : am_all (am_name 67).cls cX6_isOneCount (am_fr 67) (am_lo 67) am_c_Ro_isOneCount [(0, 0), (0, 0), (0, 0), (0, 0), (0, 226), (0, 0), (0, 0), (0, 224), (0, 0), (0, 0), (3, 90), (0, 0), (0, 224), (0, 0), (0, 0), (3, 90), (0, 0), (0, 0), (0, 0), (0, 0), (0, 0), (0, 0), (0, 0)] = true := by decide +kernel
theorem am_k_Ro_isEven : am_all (am_name 68).cls cX6_isEven (am_fr 68) (am_lo 68) am_c_Ro_isEven [(0, 0), (0, 0), (0, 0), (0, 0), (0, 0), (0, 0), (0, 0), (3, 95), (0, 0), (0, 0), (3, 95), (0, 0), (0, 0), (0, 0), (0, 0), (0, 0), (0, 0), (0, 0)] = true := by decide +kernel
theorem am_k_Ro_timesOf : am_all (am_name 69).cls cX6_timesOf (am_fr 69) (am_lo 69) am_c_Ro_timesOf [(0, 0), (0, 0), (0, 0), (0, 0), (0, 0), (0, 0), (0, 226), (0, 0), (0, 0), (0, 0), (0, 224), (0, 0), (0, 0), (0, 0), (0, 0), (0, 0), (0, 0), (0, 0), (0, 0), (0, 0), (0, 0), (0, 0), (0, 0)] = true := by decide +kernel
theorem am_k_Ro_isJustGroups : am_all (am_name 70).cls cX6_isJustGroups (am_fr 70) (am_lo 70) am_c_Ro_isJustGroups [(0, 0), (0, 0), (0, 0), (0, 0), (0, 0), (0, 0), (0, 226), (0, 0), (0, 0), (0, 0), (0, 224), (0, 0), (0, 0), (3, 103), (0, 0), (0, 0), (0, 0), (0, 0), (0, 0), (0, 0), (0, 0), (0, 0), (0, 0), (0, 0), (0, 0), (0, 0), (0, 0), (0, 0), (0, 226), (0, 0), (0, 66), (0, 0), (0, 0), (3, 90), (0, 0), (0, 226), (0, 0), (0, 0), (0, 0), (0, 0), (0, 0)] = true := by decide +kernel
theorem am_k_Sh_begin : am_all (am_name 72).cls cX7_begin (am_fr 72) (am_lo 72) am_c_Sh_begin [(0, 0), (0, 0), (0, 239), (0, 0), (0, 0), (1, 1), (0, 0), (0, 0), (0, 0), (3, 124), (1, 3), (0, 0), (0, 0), (0, 0), (0, 0), (0, 0), (0, 0), (1, 5), (0, 0), (0, 0), (0, 0), (0, 0), (0, 0), (0, 0)] = true := by decide +kernel
theorem am_k_Sh_spans : am_all (am_name 73).cls cX7_spans (am_fr 73) (am_lo 73) am_c_Sh_spans [(0, 0), (0, 0), (0, 0), (0, 0), (1, 3), (0, 0), (0, 0), (0, 0), (0, 0), (0, 0), (1, 3), (0, 0), (0, 0), (0, 0), (0, 0), (0, 0), (0, 0), (0, 0)] = true := by decide +kernel
theorem am_k_Sh_refusal : am_all (am_name 74).cls cX7_refusal (am_fr 74) (am_lo 74) am_c_Sh_refusal [(0, 0), (0, 239), (0, 0), (0, 0), (0, 0), (0, 0), (1, 1), (0, 0), (0, 0), (0, 0), (0, 0), (0, 0), (0, 0), (0, 0), (3, 48), (0, 0), (0, 0), (0, 0), (0, 0), (0, 0)] = true := by decide +kernel
theorem am_k_Sh_at : am_all (am_name 75).cls cX7_at (am_fr 75) (am_lo 75) am_c_Sh_at [(0, 0), (0, 0), (0, 0), (0, 0), (1, 3), (0, 0), (0, 0), (1, 5), (0, 0), (0, 0), (0, 0), (0, 0), (0, 0)] = true := by decide +kernel
theorem am_k_Sh_put : am_all (am_name 76).cls cX7_put (am_fr 76) (am_lo 76) am_c_Sh_put [(0, 0), (0, 0), (0, 0), (0, 0), (1, 3), (0, 0), (0, 0), (1, 5), (0, 0), (0, 0), (0, 0), (3, 112), (0, 0), (0, 0)] = true := by decide +kernel
theorem am_k_Sh_lowestBits : am_all (am_name 77).cls cX7_lowestBits (am_fr 77) (am_lo 77) am_c_Sh_lowestBits [(0, 0), (1, 1), (0, 0), (0, 0), (0, 0), (0, 0), (0, 0), (0, 0), (0, 0), (0, 0), (0, 0), (0, 0), (0, 0), (0, 0), (0, 0), (0, 0), (0, 0), (0, 0), (0, 0)] = true := by decide +kernel
theorem am_k_St_becomes : am_all (am_name 79).cls cX8_becomes (am_fr 79) (am_lo 79) am_c_St_becomes [(0, 0), (0, 0), (0, 57), (0, 57), (0, 0), (0, 0), (0, 62), (0, 62), (0, 0), (0, 0), (0, 71), (0, 71), (0, 0), (0, 67), (0, 0), (0, 0), (0, 67), (0, 0), (0, 0), (2, 49), (0, 0), (0, 73), (0, 0), (0, 73), (2, 52), (0, 0)] = true := by decide +kernel
theorem am_k_St_becomesTold : am_all (am_name 80).cls cX8_becomesTold (am_fr 80) (am_lo 80) am_c_St_becomesTold [(0, 0), (0, 0), (0, 125), (0, 57), (0, 0), (0, 0), (0, 127), (0, 62), (0, 0), (0, 129), (0, 0), (0, 0), (0, 67), (0, 0), (0, 0), (2, 49), (0, 0)] = true := by decide +kernel
theorem am_k_St_all : am_all (am_name 81).cls cX8_all (am_fr 81) (am_lo 81) am_c_St_all [(0, 0), (0, 0), (0, 57), (0, 0), (0, 0), (0, 0), (0, 0)] = true := by decide +kernel
theorem am_k_St_isPart : am_all (am_name 82).cls cX8_isPart (am_fr 82) (am_lo 82) am_c_St_isPart [(0, 0), (0, 0), (0, 0), (0, 0), (1, 226), (0, 0), (0, 0), (0, 0), (0, 0), (0, 0)] = true := by decide +kernel
theorem am_k_St_isSet : am_all (am_name 83).cls cX8_isSet (am_fr 83) (am_lo 83) am_c_St_isSet [(0, 0), (0, 0), (0, 0), (0, 0), (2, 35), (0, 0), (0, 0), (0, 0), (0, 0), (0, 0)] = true := by decide +kernel
theorem am_k_St_hasBeyond : am_all (am_name 84).cls cX8_hasBeyond (am_fr 84) (am_lo 84) am_c_St_hasBeyond [(0, 0), (0, 0), (0, 0), (0, 0), (0, 62), (0, 0), (0, 0), (0, 67), (0, 0), (0, 0), (0, 0), (0, 0), (0, 0), (0, 0), (0, 0), (0, 0), (0, 0), (0, 0), (0, 0)] = true := by decide +kernel
theorem am_k_St_placeOf : am_all (am_name 85).cls cX8_placeOf (am_fr 85) (am_lo 85) am_c_St_placeOf [(0, 0), (0, 0), (0, 0), (0, 0), (0, 62), (0, 0), (0, 0), (0, 67), (0, 0), (0, 0), (0, 0), (0, 0), (0, 0), (0, 0), (0, 0), (0, 0), (0, 0), (0, 0)] = true := by decide +kernel
theorem am_k_St_append : am_all (am_name 86).cls cX8_append (am_fr 86) (am_lo 86) am_c_St_append [(0, 0), (0, 62), (0, 0), (0, 0), (0, 0), (0, 67), (0, 0), (0, 62), (0, 0), (0, 0), (0, 0), (0, 0), (0, 62), (0, 0), (0, 0), (0, 62), (0, 0)] = true := by decide +kernel
theorem am_k_St_removeAt : am_all (am_name 87).cls cX8_removeAt (am_fr 87) (am_lo 87) am_c_St_removeAt [(0, 0), (0, 0), (0, 0), (0, 0), (0, 0), (0, 0), (0, 62), (0, 0), (0, 0), (0, 67), (0, 0), (0, 0), (0, 0), (0, 0), (0, 67), (0, 0), (0, 0), (0, 0), (0, 0), (0, 0), (0, 0), (0, 0), (0, 62), (0, 0), (0, 0), (0, 62), (0, 0)] = true := by decide +kernel
theorem am_k_St_drawTurn : am_all (am_name 88).cls cX8_drawTurn (am_fr 88) (am_lo 88) am_c_St_drawTurn [(0, 0), (0, 0), (0, 71), (3, 3), (0, 0), (0, 0), (0, 0), (3, 4), (0, 0), (0, 71), (0, 0), (1, 226), (0, 0), (0, 0), (0, 0), (0, 0), (0, 0), (0, 0), (0, 71), (3, 5), (0, 0), (0, 0), (0, 0), (0, 0), (0, 0), (0, 0), (0, 0), (0, 0), (3, 6), (0, 0), (0, 0), (0, 0), (0, 0), (0, 0), (3, 7), (0, 0), (0, 0), (0, 0), (3, 8), (0, 0)] = true := by decide +kernel
theorem am_k_St_holdsGroup : am_all (am_name 89).cls cX8_holdsGroup (am_fr 89) (am_lo 89) am_c_St_holdsGroup [(0, 0), (0, 0), (0, 0), (0, 0), (0, 62), (0, 0), (0, 0), (0, 67), (0, 0), (0, 0), (0, 0), (0, 0), (0, 0), (0, 0), (0, 0), (0, 0), (0, 0), (0, 0), (0, 0), (0, 0), (0, 0)] = true := by decide +kernel
theorem am_k_St_isSuperfluous : am_all (am_name 90).cls cX8_isSuperfluous (am_fr 90) (am_lo 90) am_c_St_isSuperfluous [(0, 0), (0, 0), (0, 0), (0, 0), (0, 62), (0, 0), (0, 0), (0, 0), (0, 0), (0, 0), (0, 67), (0, 0), (0, 0), (0, 0), (0, 67), (0, 0), (0, 0), (0, 0), (0, 0), (0, 0), (0, 0), (0, 0), (0, 0), (0, 0), (0, 0), (0, 0), (0, 0)] = true := by decide +kernel
theorem am_k_St_leastCommonOf : am_all (am_name 91).cls cX8_leastCommonOf (am_fr 91) (am_lo 91) am_c_St_leastCommonOf [(0, 0), (0, 0), (0, 0), (0, 0), (0, 0), (0, 0), (0, 62), (0, 0), (0, 0), (0, 67), (0, 0), (0, 0), (0, 0), (0, 67), (0, 0), (0, 0), (0, 0), (1, 66), (0, 0), (0, 0), (0, 0), (0, 0), (0, 0), (0, 0), (0, 0), (0, 0), (0, 0), (0, 0), (0, 0), (0, 0), (0, 0), (0, 0), (0, 0), (0, 0)] = true := by decide +kernel
theorem am_k_St_groupsWith : am_all (am_name 92).cls cX8_groupsWith (am_fr 92) (am_lo 92) am_c_St_groupsWith [(0, 0), (0, 0), (0, 0), (0, 0), (0, 0), (0, 0), (0, 62), (0, 0), (0, 0), (0, 67), (0, 0), (0, 0), (0, 0), (0, 0), (0, 0), (0, 0), (0, 0), (0, 0), (0, 0), (0, 0), (0, 0), (0, 0), (0, 0), (0, 0), (0, 0)] = true := by decide +kernel
theorem am_k_St_common : am_all (am_name 93).cls cX8_common (am_fr 93) (am_lo 93) am_c_St_common [(0, 0), (0, 0), (0, 0), (0, 0), (0, 0), (0, 0), (0, 62), (0, 0), (0, 0), (0, 0), (0, 0), (0, 0), (0, 0), (0, 0), (0, 0), (0, 67), (0, 0), (0, 0), (0, 0), (0, 67), (0, 0), (0, 0), (0, 0), (1, 66), (1, 105), (0, 0), (0, 0), (0, 0), (0, 0), (0, 0), (0, 0), (0, 0)] = true := by decide +kernel
theorem am_k_Ta_append : am_all (am_name 95).cls cX9_append (am_fr 95) (am_lo 95) am_c_Ta_append [(0, 0), (0, 115), (0, 0), (0, 0), (0, 0), (0, 117), (0, 0), (0, 115), (0, 0), (0, 0), (0, 0), (0, 0), (0, 0), (0, 115), (0, 0), (0, 0), (0, 115), (0, 0)] = true := by decide +kernel
theorem am_k_Ta_at : am_all (am_name 96).cls cX9_at (am_fr 96) (am_lo 96) am_c_Ta_at [(0, 0), (0, 0), (0, 0), (0, 0), (0, 115), (0, 0), (0, 0), (0, 117), (0, 0), (0, 0), (0, 0), (0, 0), (0, 0)] = true := by decide +kernel
theorem am_k_MG_group : am_all (am_name 98).cls cX10_group (am_fr 98) (am_lo 98) am_c_MG_group [(0, 0), (0, 0), (0, 0), (0, 0), (1, 17), (0, 63), (0, 0), (0, 0), (0, 0), (0, 0), (0, 0), (0, 0), (0, 0), (0, 0), (0, 0), (0, 0), (0, 0), (1, 17), (0, 68), (0, 0), (0, 0), (0, 0), (0, 0), (0, 0), (0, 0), (0, 0), (1, 17), (0, 0), (1, 55), (1, 59), (0, 0), (0, 0), (1, 17), (0, 0), (1, 62), (0, 0)] = true := by decide +kernel
theorem am_k_MG_element : am_all (am_name 99).cls cX10_element (am_fr 99) (am_lo 99) am_c_MG_element [(0, 0), (0, 0), (0, 0), (0, 0), (1, 17), (0, 58), (0, 0), (0, 0), (0, 0), (0, 0), (0, 0), (0, 0), (0, 0), (0, 0), (0, 0), (0, 0), (0, 0), (0, 0), (1, 23), (0, 0), (1, 17), (1, 76), (0, 0), (1, 23), (0, 0), (0, 0), (0, 0), (1, 88), (0, 0), (0, 0), (1, 17), (0, 0), (0, 0), (0, 0), (1, 92), (0, 0), (0, 0), (0, 0), (0, 0), (1, 96), (0, 0), (0, 0), (0, 0)] = true := by decide +kernel
theorem am_k_MG_count : am_all (am_name 100).cls cX10_count (am_fr 100) (am_lo 100) am_c_MG_count [(0, 0), (0, 0), (0, 0), (1, 17), (0, 58), (0, 0), (0, 0), (1, 17), (0, 63), (0, 0), (0, 0), (1, 17), (0, 63), (0, 0), (0, 0), (1, 17), (1, 101), (0, 0), (0, 0), (0, 0), (0, 0), (1, 59), (0, 0), (0, 0), (1, 17), (0, 63), (0, 0), (0, 0), (0, 0), (0, 0), (0, 0), (1, 108), (0, 0), (0, 0), (1, 17), (0, 74), (0, 43), (0, 0), (0, 0), (1, 18), (0, 96), (0, 0), (0, 0), (0, 0)] = true := by decide +kernel
theorem am_k_MG_load : am_all (am_name 101).cls cX10_load (am_fr 101) (am_lo 101) am_c_MG_load [(0, 0), (0, 0), (0, 0), (0, 0), (0, 0), (0, 0), (0, 0), (0, 0), (1, 17), (0, 63), (0, 0), (0, 0), (0, 0), (0, 0), (1, 25), (0, 0), (1, 17), (1, 123), (0, 0), (1, 25), (0, 204), (0, 0), (1, 25), (1, 152), (0, 0), (1, 156), (0, 0)] = true := by decide +kernel
theorem am_k_MG_plan : am_all (am_name 102).cls cX10_plan (am_fr 102) (am_lo 102) am_c_MG_plan [(0, 0), (0, 0), (0, 0), (0, 0), (0, 0), (0, 0), (0, 0), (0, 0), (0, 0), (0, 0), (0, 0), (0, 0), (0, 0), (1, 17), (0, 74), (0, 0), (1, 166), (0, 0), (0, 0), (0, 0), (0, 0), (0, 0), (0, 0), (0, 0), (0, 0), (0, 0), (0, 0), (0, 0), (0, 0), (0, 0), (1, 17), (0, 74), (0, 0), (0, 0), (1, 17), (0, 0), (1, 17), (1, 170), (1, 171), (0, 0), (0, 0), (0, 0), (0, 0), (0, 0), (0, 0), (1, 17), (0, 74), (0, 0), (0, 0), (1, 17), (1, 179), (0, 0), (0, 0), (0, 0), (0, 0), (0, 0), (0, 0), (0, 0), (1, 156), (0, 0), (0, 0), (1, 25), (0, 0), (1, 17), (1, 123), (0, 0), (0, 0), (1, 25), (1, 152), (0, 0), (0, 0), (0, 0), (1, 25), (0, 204), (0, 0), (0, 0), (0, 0), (0, 0), (0, 0), (1, 59), (0, 0)] = true := by decide +kernel
theorem am_k_MG_standing : am_all (am_name 103).cls cX10_standing (am_fr 103) (am_lo 103) am_c_MG_standing [(0, 0), (0, 0), (0, 0), (0, 0), (1, 17), (0, 58), (0, 0), (0, 0), (0, 0), (0, 0), (1, 23), (0, 0), (1, 17), (1, 76), (0, 0), (1, 23), (0, 0), (1, 191), (0, 0)] = true := by decide +kernel
theorem am_k_MG_stands : am_all (am_name 104).cls cX10_stands (am_fr 104) (am_lo 104) am_c_MG_stands [(0, 0), (0, 0), (0, 0), (0, 0), (0, 0), (0, 0), (0, 0), (0, 0), (0, 0), (0, 0), (0, 0), (0, 0), (0, 0), (1, 23), (0, 0), (1, 17), (1, 76), (0, 0), (0, 0), (0, 0), (0, 0), (0, 0), (0, 0), (1, 17), (0, 58), (0, 0), (0, 0), (0, 0), (1, 23), (0, 0), (1, 191), (0, 0), (0, 0), (0, 0), (0, 0), (1, 199), (0, 0), (0, 0), (0, 0), (1, 17), (0, 58), (0, 0), (0, 0), (1, 199), (0, 0), (0, 0), (0, 0), (0, 0), (0, 0), (0, 0), (0, 0), (0, 0), (1, 17), (0, 58), (1, 199), (0, 0), (1, 156), (0, 0)] = true := by decide +kernel
theorem am_k_MG_free : am_all (am_name 105).cls cX10_free (am_fr 105) (am_lo 105) am_c_MG_free [(0, 0), (0, 0), (0, 0), (0, 0), (0, 0), (0, 0), (0, 0), (0, 0), (1, 23), (0, 0), (1, 17), (1, 76), (0, 0), (0, 0), (0, 0), (1, 23), (1, 206), (0, 0), (0, 0), (1, 23), (1, 214), (0, 0)] = true := by decide +kernel
theorem am_k_MG_probe : am_all (am_name 106).cls cX10_probe (am_fr 106) (am_lo 106) am_c_MG_probe [(0, 0), (1, 17), (0, 0), (1, 222), (0, 0), (0, 0), (1, 17), (0, 0), (1, 222), (0, 0), (0, 0), (0, 0), (0, 0), (0, 0), (0, 0), (0, 0), (0, 0), (0, 0), (0, 0), (0, 0), (0, 0), (0, 0), (1, 24), (0, 0), (1, 17), (0, 0), (0, 0), (1, 227), (0, 0), (0, 0), (0, 0), (1, 24), (2, 18), (0, 0), (0, 0), (1, 24), (2, 22), (0, 0)] = true := by decide +kernel
theorem am_k_MG_add : am_all (am_name 107).cls cX10_add (am_fr 107) (am_lo 107) am_c_MG_add [(0, 0), (1, 17), (0, 0), (2, 31), (0, 0), (0, 0), (0, 0), (0, 0), (1, 17), (0, 0), (2, 36), (0, 0), (0, 0), (0, 0), (0, 0), (1, 17), (0, 63), (0, 0), (0, 0), (0, 0), (0, 0), (0, 0), (1, 18), (0, 0), (1, 17), (2, 37), (0, 0), (1, 17), (0, 0), (2, 61), (0, 0), (1, 17), (0, 63), (0, 0)] = true := by decide +kernel
theorem am_k_MG_out : am_all (am_name 108).cls cX10_out (am_fr 108) (am_lo 108) am_c_MG_out [(0, 0), (1, 17), (0, 0), (2, 31), (0, 0), (0, 0), (0, 0), (0, 0), (1, 17), (0, 0), (2, 36), (0, 0), (0, 0), (0, 0), (0, 0), (0, 0), (0, 0), (1, 18), (0, 0), (1, 17), (2, 37), (0, 0), (1, 17), (0, 0), (2, 69), (0, 0), (1, 17), (0, 63), (0, 0)] = true := by decide +kernel
theorem am_k_MG_size : am_all (am_name 109).cls cX10_size (am_fr 109) (am_lo 109) am_c_MG_size [(0, 0), (0, 0), (0, 0), (0, 0), (0, 0), (0, 0), (0, 0), (0, 0), (0, 0), (0, 0), (1, 17), (0, 58), (0, 0), (0, 0), (1, 17), (0, 0), (2, 77), (0, 0), (0, 0), (0, 0), (0, 0), (1, 18), (0, 0), (1, 17), (2, 37), (0, 0), (1, 17), (0, 58), (0, 0), (0, 0), (1, 17), (0, 0), (0, 58), (0, 0), (0, 0)] = true := by decide +kernel
theorem am_k_MG_type : am_all (am_name 110).cls cX10_type (am_fr 110) (am_lo 110) am_c_MG_type [(0, 0), (0, 0), (0, 0), (0, 0), (0, 0), (0, 0), (0, 0), (0, 0), (0, 0), (1, 22), (0, 131), (0, 116), (0, 0), (0, 0), (0, 0), (0, 0), (0, 0), (1, 22), (0, 131), (0, 0), (2, 85), (0, 0), (1, 22), (0, 131), (0, 116), (0, 0)] = true := by decide +kernel
theorem am_k_MG_read : am_all (am_name 111).cls cX10_read (am_fr 111) (am_lo 111) am_c_MG_read [(0, 0), (1, 22), (2, 93), (0, 0), (0, 0), (1, 22), (0, 131), (0, 0), (0, 116), (0, 0), (0, 0), (0, 0), (0, 0), (0, 0), (0, 0), (0, 0), (0, 0), (1, 18), (0, 0), (1, 17), (2, 37), (0, 0), (1, 17), (0, 0), (1, 22), (2, 231), (0, 0), (1, 17), (0, 63), (0, 0)] = true := by decide +kernel
theorem am_k_MG_drift : am_all (am_name 112).cls cX10_drift (am_fr 112) (am_lo 112) am_c_MG_drift [(0, 0), (0, 0), (0, 0), (0, 0), (0, 0), (0, 0), (0, 0), (0, 0), (0, 0), (0, 0), (0, 0), (0, 0), (0, 0), (0, 0), (1, 18), (0, 0), (1, 17), (2, 37), (0, 0), (1, 17), (2, 239), (0, 0), (0, 0), (0, 0), (1, 17), (0, 63), (0, 0)] = true := by decide +kernel
theorem am_k_MG_undo : am_all (am_name 113).cls cX10_undo (am_fr 113) (am_lo 113) am_c_MG_undo [(0, 0), (1, 18), (0, 96), (0, 0), (0, 0), (0, 0), (0, 0), (1, 18), (0, 0), (1, 17), (3, 13), (0, 0), (1, 18), (0, 96), (0, 0)] = true := by decide +kernel
theorem am_k_MG_seed : am_all (am_name 114).cls cX10_seed (am_fr 114) (am_lo 114) am_c_MG_seed [(0, 0), (0, 0), (0, 0), (0, 0), (0, 0), (1, 17), (0, 72), (0, 0), (0, 0), (1, 17), (0, 0), (0, 72), (0, 0), (0, 0)] = true := by decide +kernel
theorem am_k_MG_image : am_all (am_name 115).cls cX10_image (am_fr 115) (am_lo 115) am_c_MG_image [(0, 0), (1, 19), (0, 0), (1, 17), (3, 25), (0, 0), (1, 20), (0, 0), (1, 18), (3, 26), (0, 0), (0, 0), (1, 21), (0, 0), (0, 0)] = true := by decide +kernel
theorem am_k_MG_restore : am_all (am_name 116).cls cX10_restore (am_fr 116) (am_lo 116) am_c_MG_restore [(0, 0), (1, 21), (0, 0), (0, 0), (0, 0), (0, 0), (1, 17), (0, 0), (1, 19), (3, 25), (0, 0), (1, 18), (0, 0), (1, 20), (3, 26), (0, 0), (0, 0)] = true := by decide +kernel
theorem am_k_MG_keep : am_all (am_name 117).cls cX10_keep (am_fr 117) (am_lo 117) am_c_MG_keep [(0, 0), (0, 0), (0, 0), (0, 0), (0, 0), (0, 0), (3, 38), (0, 0), (0, 0), (3, 41), (0, 0), (0, 0), (0, 0), (0, 0), (1, 27), (0, 0), (0, 0), (0, 0), (0, 0), (0, 0), (1, 17), (0, 63), (3, 44), (0, 0), (0, 0), (0, 0), (0, 0), (0, 0), (0, 0), (1, 17), (0, 63), (0, 0), (0, 0), (1, 26), (0, 0), (1, 27), (0, 0), (0, 0), (0, 0), (0, 0), (1, 17), (0, 63), (0, 0), (0, 0), (3, 52), (0, 0), (0, 0), (0, 0), (0, 0), (1, 18), (0, 0), (1, 17), (2, 37), (0, 0), (1, 17), (0, 74), (0, 0), (0, 0), (1, 17), (0, 0), (1, 26), (3, 61), (0, 0), (1, 17), (0, 74), (0, 43), (0, 0)] = true := by decide +kernel
theorem am_k_MG_what : am_all (am_name 118).cls cX10_what (am_fr 118) (am_lo 118) am_c_MG_what [(0, 0), (3, 38), (0, 0), (0, 0), (3, 41), (0, 0), (0, 0), (0, 0), (0, 0), (0, 0), (0, 0), (0, 0), (0, 0), (0, 0), (0, 0), (1, 27), (0, 0), (0, 0), (0, 0), (0, 0), (0, 0), (3, 44), (0, 0), (0, 0), (0, 0), (0, 0), (0, 0), (0, 0), (1, 26), (0, 0), (1, 27), (0, 0), (0, 0), (0, 0), (0, 0), (0, 0), (0, 0), (1, 17), (1, 170), (3, 52), (0, 0), (0, 0), (1, 26), (0, 0), (1, 17), (3, 74), (0, 0), (0, 0), (0, 0)] = true := by decide +kernel
theorem am_k_MG_film : am_all (am_name 119).cls cX10_film (am_fr 119) (am_lo 119) am_c_MG_film [(0, 0), (3, 38), (0, 0), (0, 0), (3, 41), (0, 0), (0, 0), (0, 0), (0, 0), (1, 27), (0, 0), (0, 0), (0, 0), (0, 0), (0, 0), (1, 17), (0, 63), (3, 44), (0, 0), (0, 0), (0, 0), (0, 0), (0, 0), (0, 0), (0, 0), (0, 0), (0, 0), (1, 17), (0, 63), (0, 0), (0, 0), (1, 27), (0, 0), (0, 0), (0, 0), (0, 0), (0, 0), (0, 0), (1, 17), (0, 68), (0, 0), (0, 0), (0, 0), (3, 108), (0, 0), (0, 0), (0, 0), (1, 17), (0, 63), (0, 0)] = true := by decide +kernel
theorem am_k_MG_sheet : am_all (am_name 120).cls cX10_sheet (am_fr 120) (am_lo 120) am_c_MG_sheet [(0, 0), (3, 38), (0, 0), (0, 0), (3, 41), (0, 0), (0, 0), (0, 0), (0, 0), (0, 0), (0, 0), (0, 0), (0, 0), (0, 0), (0, 0), (0, 0), (1, 27), (0, 0), (0, 0), (0, 0), (0, 0), (3, 120), (0, 0), (0, 0)] = true := by decide +kernel
theorem am_k_MG_drop : am_all (am_name 121).cls cX10_drop (am_fr 121) (am_lo 121) am_c_MG_drop [(0, 0), (3, 38), (0, 0), (0, 0), (0, 0), (0, 0), (1, 27), (0, 0), (0, 0), (1, 0), (0, 0), (0, 0), (0, 0), (0, 0), (1, 27), (0, 0), (0, 0), (0, 0), (1, 0), (0, 0), (1, 27), (0, 0), (0, 0), (1, 4), (0, 0)] = true := by decide +kernel
theorem am_k_MG_item : am_all (am_name 122).cls cX10_item (am_fr 122) (am_lo 122) am_c_MG_item [(0, 0), (3, 38), (0, 0), (0, 0), (3, 41), (0, 0), (0, 0), (0, 0), (0, 0), (1, 27), (0, 0), (0, 0), (0, 0), (0, 0), (0, 0), (3, 44), (0, 0), (0, 0), (0, 0), (0, 0), (0, 0), (0, 0), (1, 27), (0, 0), (0, 0), (0, 0), (0, 0), (3, 108), (0, 0), (0, 0)] = true := by decide +kernel
theorem am_k_MG_copy : am_all (am_name 123).cls cX10_copy (am_fr 123) (am_lo 123) am_c_MG_copy [(0, 0), (3, 38), (0, 0), (0, 0), (3, 38), (0, 0), (0, 0), (0, 0), (0, 0), (1, 27), (0, 0), (0, 0), (0, 0), (0, 0), (1, 27), (0, 0), (0, 0), (0, 0), (0, 0), (1, 0), (0, 0), (0, 0), (1, 0), (0, 0), (0, 0), (0, 0), (0, 0), (1, 2), (0, 0), (1, 2), (0, 0), (0, 0), (0, 0), (0, 0), (0, 0), (0, 0), (3, 137), (0, 0), (0, 0), (0, 0), (0, 0), (3, 137), (0, 0), (0, 0), (0, 0), (0, 0), (1, 6), (0, 0), (0, 0), (1, 6), (0, 0), (0, 0), (3, 138), (0, 0), (0, 0)] = true := by decide +kernel
theorem am_k_MG_isSheet : am_all (am_name 124).cls cX10_isSheet (am_fr 124) (am_lo 124) am_c_MG_isSheet [(0, 0), (0, 0), (0, 0), (0, 0), (0, 0), (0, 0), (0, 0), (0, 0), (0, 0)] = true := by decide +kernel
theorem am_k_MG_isLane : am_all (am_name 125).cls cX10_isLane (am_fr 125) (am_lo 125) am_c_MG_isLane [(0, 0), (0, 0), (0, 0), (0, 0), (0, 0), (0, 0), (0, 0), (0, 0), (0, 0)] = true := by decide +kernel
theorem am_k_MG_oneIf : am_all (am_name 126).cls cX10_oneIf (am_fr 126) (am_lo 126) am_c_MG_oneIf [(0, 0), (0, 0), (0, 0), (0, 0), (0, 0), (0, 0)] = true := by decide +kernel
theorem am_k_MG_strength : am_all (am_name 127).cls cX10_strength (am_fr 127) (am_lo 127) am_c_MG_strength [(0, 0), (1, 17), (1, 101), (0, 0), (0, 0), (0, 0), (0, 0), (0, 0), (0, 0), (0, 0), (1, 23), (0, 0), (1, 17), (1, 76), (0, 0), (1, 23), (1, 112), (0, 0), (0, 0), (0, 0), (0, 0), (0, 0), (0, 0), (0, 0), (0, 0), (0, 0), (0, 0), (0, 0), (0, 0), (0, 0), (0, 0), (0, 0), (0, 0), (0, 0), (0, 0), (0, 0), (0, 0), (0, 0), (0, 0), (0, 0), (1, 118), (0, 0)] = true := by decide +kernel
theorem am_k_MG_power : am_all (am_name 128).cls cX10_power (am_fr 128) (am_lo 128) am_c_MG_power [(0, 0), (0, 0), (0, 0), (0, 0), (0, 0), (0, 0), (0, 0), (0, 0), (0, 0), (0, 0), (0, 0), (0, 0), (0, 0), (0, 0), (0, 0)] = true := by decide +kernel
theorem am_k_MG_ofFraction : am_all (am_name 129).cls cX10_ofFraction (am_fr 129) (am_lo 129) am_c_MG_ofFraction [(0, 0), (0, 0), (1, 159), (0, 0), (0, 0), (0, 0), (0, 0), (0, 0), (0, 0), (0, 0), (0, 0), (0, 0), (0, 0), (0, 0), (0, 0), (0, 0)] = true := by decide +kernel
theorem am_k_MG_commonDivisor : am_all (am_name 130).cls cX10_commonDivisor (am_fr 130) (am_lo 130) am_c_MG_commonDivisor [(0, 0), (0, 0), (0, 0), (0, 0), (0, 0), (0, 0), (0, 0), (0, 0), (0, 0), (0, 0), (0, 0), (0, 0), (0, 0), (0, 0), (0, 0), (0, 0), (0, 0), (0, 0), (0, 0), (0, 0), (0, 0), (0, 0), (0, 0)] = true := by decide +kernel
theorem am_k_MD_in : am_all (am_name 131).cls cX11_in (am_fr 131) (am_lo 131) am_c_MD_in [(0, 0), (0, 0), (0, 0), (0, 0), (0, 0), (0, 0), (0, 0), (0, 0), (0, 0), (0, 0), (0, 0), (0, 0)] = true := by decide +kernel
theorem am_k_MD_has : am_all (am_name 133).cls cX11_has (am_fr 133) (am_lo 133) am_c_MD_has [(0, 0), (0, 0), (0, 0), (0, 0), (0, 0), (0, 0), (0, 0), (0, 0), (0, 0), (0, 0), (0, 0)] = true := by decide +kernel
theorem am_k_MD_bits : am_all (am_name 134).cls cX11_bits (am_fr 134) (am_lo 134) am_c_MD_bits [(0, 0), (0, 0), (0, 0), (0, 0), (0, 0), (0, 0), (0, 0), (0, 0), (0, 0), (0, 0), (0, 0), (0, 0), (0, 0), (0, 0), (0, 0), (0, 0)] = true := by decide +kernel
theorem am_k_MD_all : am_all (am_name 135).cls cX11_all (am_fr 135) (am_lo 135) am_c_MD_all [(0, 0), (0, 0), (3, 145), (0, 0), (0, 0), (0, 0), (0, 0), (0, 0), (0, 0)] = true := by decide +kernel
theorem am_k_MD_at : am_all (am_name 136).cls cX11_at (am_fr 136) (am_lo 136) am_c_MD_at [(0, 0), (3, 145), (0, 0), (0, 0), (0, 0), (0, 0), (0, 0)] = true := by decide +kernel
theorem am_k_MD_find : am_all (am_name 137).cls cX11_find (am_fr 137) (am_lo 137) am_c_MD_find [(0, 0), (0, 0), (0, 0), (0, 0), (0, 0), (0, 0), (3, 145), (0, 0), (0, 0), (0, 0), (0, 0), (0, 0), (3, 234), (0, 0), (0, 0), (0, 0), (0, 0), (0, 0), (0, 0), (0, 0), (0, 0), (0, 0), (0, 0)] = true := by decide +kernel
theorem am_k_MD_holds : am_all (am_name 138).cls cX11_holds (am_fr 138) (am_lo 138) am_c_MD_holds [(0, 0), (0, 0), (0, 0), (0, 0), (0, 0), (0, 0), (3, 145), (0, 0), (0, 0), (0, 0), (0, 0), (0, 0), (0, 0), (0, 0), (3, 234), (0, 0), (0, 0), (0, 0), (0, 0), (0, 0), (0, 0), (0, 0), (0, 0), (0, 0), (0, 0), (0, 0), (0, 0), (0, 0)] = true := by decide +kernel
theorem am_k_MD_isMore : am_all (am_name 139).cls cX11_isMore (am_fr 139) (am_lo 139) am_c_MD_isMore [(0, 0), (0, 0), (0, 0), (0, 0), (0, 0), (0, 0), (3, 145), (0, 0), (0, 0), (0, 0), (0, 0), (0, 0), (0, 0), (0, 0), (0, 0), (0, 0), (0, 0), (3, 234), (0, 0), (0, 0), (3, 234), (0, 0), (0, 0), (0, 0), (0, 0), (0, 0), (0, 0), (0, 0), (0, 0), (0, 0), (0, 0), (0, 0), (0, 0)] = true := by decide +kernel
theorem am_k_MD_leastWith : am_all (am_name 140).cls cX11_leastWith (am_fr 140) (am_lo 140) am_c_MD_leastWith [(0, 0), (0, 0), (0, 0), (0, 0), (0, 0), (0, 0), (3, 145), (0, 0), (0, 0), (0, 0), (0, 0), (0, 0), (3, 234), (0, 0), (0, 0), (3, 234), (0, 0), (4, 6), (0, 0), (0, 0), (0, 0), (0, 0), (0, 0), (0, 0), (0, 0), (0, 0), (0, 0), (0, 0), (0, 0), (0, 0), (0, 0), (0, 0), (0, 0), (0, 0), (0, 0)] = true := by decide +kernel
theorem am_k_MD_group : am_all (am_name 141).cls cX11_group (am_fr 141) (am_lo 141) am_c_MD_group [(0, 0), (0, 0), (0, 0), (0, 0), (3, 145), (0, 0), (0, 0), (0, 0), (0, 0), (0, 0), (3, 231), (0, 0), (0, 0), (0, 0), (0, 0), (0, 0), (0, 0), (0, 0), (3, 234), (0, 0), (0, 0), (0, 0), (3, 238), (0, 0), (0, 0), (0, 0), (0, 0), (0, 0), (0, 0), (0, 0), (4, 2), (0, 0), (0, 0), (0, 0)] = true := by decide +kernel
theorem am_k_MD_turns : am_all (am_name 142).cls cX11_turns (am_fr 142) (am_lo 142) am_c_MD_turns [(0, 0), (0, 0), (0, 0), (0, 0), (0, 0), (0, 0), (4, 20), (0, 0), (0, 0), (0, 0), (0, 0), (4, 13), (0, 0), (0, 0), (0, 0), (4, 24), (0, 0), (0, 0), (0, 0), (0, 0), (0, 0), (0, 0), (0, 0), (4, 24), (0, 0), (0, 0), (0, 0), (0, 0), (0, 0), (0, 0), (0, 0), (0, 0), (0, 0), (0, 0)] = true := by decide +kernel
theorem am_k_MD_element : am_all (am_name 143).cls cX11_element (am_fr 143) (am_lo 143) am_c_MD_element [(0, 0), (0, 0), (0, 0), (0, 0), (3, 145), (0, 0), (0, 0), (0, 0), (0, 0), (0, 0), (3, 231), (0, 0), (0, 0), (0, 0), (0, 0), (0, 0), (0, 0), (0, 0), (0, 0), (0, 0), (3, 145), (0, 0), (0, 0), (0, 0), (0, 0), (0, 0), (0, 0), (3, 234), (0, 0), (4, 13), (0, 0), (0, 0), (0, 0), (0, 0), (0, 0), (0, 0), (0, 0), (0, 0), (0, 0), (0, 0), (0, 0), (0, 0), (0, 0), (4, 6), (0, 0), (0, 0), (0, 0), (0, 0), (0, 0), (4, 16), (0, 0), (0, 0), (0, 0)] = true := by decide +kernel
theorem am_k_MD_common : am_all (am_name 144).cls cX11_common (am_fr 144) (am_lo 144) am_c_MD_common [(0, 0), (0, 0), (0, 0), (0, 0), (0, 0), (0, 0), (3, 145), (0, 0), (0, 0), (0, 0), (0, 0), (0, 0), (0, 0), (0, 0), (0, 0), (0, 0), (0, 0), (3, 234), (0, 0), (0, 0), (3, 234), (0, 0), (4, 6), (0, 0), (0, 0), (0, 0), (0, 0), (0, 0), (0, 0), (0, 0), (0, 0), (0, 0), (0, 0), (0, 0), (0, 0), (0, 0), (0, 0), (0, 0), (0, 0)] = true := by decide +kernel
theorem am_k_MD_faults : am_all (am_name 145).cls cX11_faults (am_fr 145) (am_lo 145) am_c_MD_faults [(0, 0), (3, 145), (0, 0), (0, 0), (0, 0), (0, 0), (0, 0), (0, 0), (0, 0), (0, 0), (0, 0), (4, 20), (0, 0), (0, 0), (0, 0), (4, 20), (0, 0), (0, 0), (0, 0), (0, 0), (4, 24), (0, 0), (0, 0), (4, 6), (0, 0), (0, 0), (0, 0), (4, 6), (0, 0), (0, 0), (0, 0), (0, 0), (0, 0), (0, 0), (0, 0), (0, 0), (0, 0)] = true := by decide +kernel
theorem am_k_MD_liars : am_all (am_name 146).cls cX11_liars (am_fr 146) (am_lo 146) am_c_MD_liars [(0, 0), (0, 0), (0, 0), (0, 0), (0, 0), (0, 0), (4, 36), (0, 0), (0, 0), (4, 32), (0, 0), (0, 0), (0, 0), (0, 0), (0, 0), (0, 0), (0, 0), (4, 32), (0, 0), (0, 0), (0, 0), (0, 0), (0, 0), (0, 0), (0, 0), (0, 0), (0, 0)] = true := by decide +kernel
theorem am_k_MD_count : am_all (am_name 147).cls cX11_count (am_fr 147) (am_lo 147) am_c_MD_count [(0, 0), (0, 0), (0, 0), (3, 145), (0, 0), (0, 0), (0, 0), (0, 0), (3, 145), (0, 0), (0, 0), (0, 0), (0, 0), (4, 32), (0, 0), (0, 0), (4, 32), (0, 0), (0, 0), (0, 0), (0, 0), (0, 0), (0, 0), (3, 145), (0, 0), (0, 0), (0, 0), (0, 0), (0, 0), (0, 0), (4, 36), (0, 0), (0, 0), (0, 0), (4, 40), (0, 0), (0, 0), (0, 0), (4, 40), (0, 0), (0, 0), (3, 145), (0, 0), (0, 0), (0, 0), (0, 0), (3, 164), (0, 0), (0, 0), (0, 0)] = true := by decide +kernel
theorem am_k_MD_reduces : am_all (am_name 148).cls cX11_reduces (am_fr 148) (am_lo 148) am_c_MD_reduces [(0, 0), (0, 0), (0, 0), (0, 0), (0, 0), (0, 0), (0, 0), (0, 0), (0, 0), (0, 0), (0, 0), (0, 0), (0, 0), (0, 0), (0, 0), (0, 0), (0, 0), (0, 0), (0, 0), (3, 146), (0, 0), (0, 0), (0, 0), (0, 0), (3, 147), (0, 0)] = true := by decide +kernel
theorem am_k_MD_nth : am_all (am_name 149).cls cX11_nth (am_fr 149) (am_lo 149) am_c_MD_nth [(0, 0), (0, 0), (0, 0), (0, 0), (0, 0), (0, 0), (0, 0), (0, 0), (0, 0), (4, 13), (0, 0), (0, 0), (0, 0), (0, 0), (0, 0), (0, 0), (4, 13), (0, 0), (0, 0), (0, 0), (0, 0), (0, 0), (0, 0), (0, 0), (0, 0), (0, 0), (0, 0)] = true := by decide +kernel
theorem am_k_MD_squares : am_all (am_name 150).cls cX11_squares (am_fr 150) (am_lo 150) am_c_MD_squares [(0, 0), (0, 0), (0, 0), (0, 0), (0, 0), (0, 0), (0, 0), (0, 0), (0, 0), (0, 0), (0, 0), (3, 149), (0, 0), (0, 0), (0, 0), (0, 0), (0, 0), (0, 0), (0, 0), (0, 0), (3, 150), (0, 0), (0, 0), (0, 0), (0, 0), (0, 0), (0, 0), (0, 0), (0, 0), (3, 148), (0, 0), (0, 0), (0, 0), (0, 0), (0, 0), (0, 0), (0, 0), (0, 0), (0, 0), (0, 0), (3, 234), (0, 0), (4, 13), (0, 0), (0, 0), (0, 0), (0, 0), (0, 0), (0, 0), (0, 0), (0, 0), (3, 148), (0, 0), (0, 0), (0, 0), (0, 0), (0, 0), (0, 0), (0, 0), (0, 0), (0, 0), (0, 0)] = true := by decide +kernel
theorem am_k_MD_swaps : am_all (am_name 151).cls cX11_swaps (am_fr 151) (am_lo 151) am_c_MD_swaps [(0, 0), (0, 0), (0, 0), (0, 0), (0, 0), (0, 0), (3, 148), (0, 0), (0, 0), (0, 0), (0, 0), (0, 0), (0, 0), (0, 0), (0, 0), (3, 148), (0, 0), (0, 0), (0, 0), (0, 0), (0, 0), (0, 0), (3, 148), (0, 0), (0, 0), (0, 0), (0, 0), (0, 0), (0, 0), (0, 0), (0, 0), (3, 148), (0, 0), (0, 0), (0, 0), (0, 0), (0, 0), (0, 0), (0, 0), (0, 0), (0, 0), (0, 0), (0, 0), (0, 0), (0, 0), (0, 0), (0, 0), (0, 0)] = true := by decide +kernel
theorem am_k_MD_solves : am_all (am_name 152).cls cX11_solves (am_fr 152) (am_lo 152) am_c_MD_solves [(0, 0), (0, 0), (0, 0), (0, 0), (0, 0), (0, 0), (0, 0), (0, 0), (0, 0), (0, 0), (0, 0), (0, 0), (0, 0), (0, 0), (0, 0), (3, 148), (0, 0), (0, 0), (0, 0), (0, 0), (0, 0), (0, 0), (0, 0), (0, 0), (0, 0), (0, 0), (0, 0), (0, 0), (4, 75), (0, 0), (3, 148), (0, 0), (0, 0), (0, 0), (0, 0), (0, 0), (0, 0), (0, 0), (0, 0), (0, 0), (0, 0), (0, 0), (0, 0), (0, 0), (0, 0), (0, 0), (0, 0), (0, 0), (3, 148), (0, 0), (0, 0), (0, 0), (0, 0), (0, 0), (0, 0), (0, 0), (0, 0), (0, 0), (0, 0), (0, 0), (0, 0), (0, 0), (0, 0), (0, 0), (0, 0), (3, 148), (0, 0), (0, 0), (0, 0), (0, 0), (0, 0), (0, 0), (0, 0), (3, 148), (0, 0), (0, 0), (0, 0), (0, 0), (0, 0), (0, 0), (0, 0), (0, 0), (0, 0), (3, 148), (0, 0), (0, 0), (0, 0), (0, 0), (0, 0), (0, 0), (0, 0), (0, 0), (0, 0), (0, 0), (0, 0), (0, 0), (0, 0), (0, 0), (0, 0), (0, 0), (0, 0), (0, 0), (0, 0), (0, 0), (0, 0)] = true := by decide +kernel
theorem am_k_MD_takes : am_all (am_name 153).cls cX11_takes (am_fr 153) (am_lo 153) am_c_MD_takes [(0, 0), (0, 0), (0, 0), (0, 0), (0, 0), (0, 0), (0, 0), (0, 0), (0, 0), (0, 0), (0, 0), (0, 0), (0, 0), (0, 0), (0, 0), (0, 0), (3, 148), (0, 0), (0, 0), (0, 0), (0, 0), (0, 0), (0, 0), (0, 0), (0, 0), (0, 0), (3, 148), (0, 0), (0, 0), (0, 0), (0, 0), (0, 0), (0, 0), (0, 0), (0, 0), (0, 0), (0, 0), (0, 0), (0, 0), (0, 0), (0, 0), (0, 0), (0, 0), (3, 152), (0, 0), (3, 149), (0, 0), (0, 0), (0, 0), (0, 0), (0, 0), (0, 0), (3, 151), (0, 0), (3, 150), (0, 0), (0, 0), (0, 0), (0, 0), (0, 0), (0, 0), (0, 0), (0, 0)] = true := by decide +kernel
theorem am_k_MD_clears : am_all (am_name 154).cls cX11_clears (am_fr 154) (am_lo 154) am_c_MD_clears [(0, 0), (0, 0), (0, 0), (0, 0), (0, 0), (0, 0), (3, 152), (0, 0), (0, 0), (0, 0), (0, 0), (0, 0), (0, 0), (0, 0), (0, 0), (0, 0), (0, 0), (0, 0), (3, 151), (0, 0), (0, 0), (0, 0), (0, 0), (0, 0), (0, 0)] = true := by decide +kernel
theorem am_k_MD_bears : am_all (am_name 155).cls cX11_bears (am_fr 155) (am_lo 155) am_c_MD_bears [(0, 0), (0, 0), (0, 0), (0, 0), (0, 0), (0, 0), (3, 145), (0, 0), (0, 0), (0, 0), (0, 0), (0, 0), (0, 0), (0, 0), (0, 0), (0, 0), (0, 0), (0, 0), (0, 0), (0, 0), (0, 0), (0, 0), (3, 234), (0, 0), (4, 13), (0, 0), (0, 0), (3, 151), (0, 0), (0, 0), (0, 0), (0, 0), (0, 0), (0, 0), (0, 0), (0, 0), (0, 0), (0, 0), (0, 0), (0, 0), (0, 0), (0, 0), (0, 0), (0, 0), (0, 0), (0, 0), (0, 0)] = true := by decide +kernel
theorem am_k_MD_loadOf : am_all (am_name 156).cls cX11_loadOf (am_fr 156) (am_lo 156) am_c_MD_loadOf [(0, 0), (0, 0), (0, 0), (0, 0), (0, 0), (0, 0), (3, 145), (0, 0), (0, 0), (0, 0), (0, 0), (0, 0), (0, 0), (3, 234), (0, 0), (4, 13), (0, 0), (0, 0), (3, 152), (0, 0), (0, 0), (0, 0), (0, 0), (0, 0), (0, 0), (0, 0), (0, 0), (0, 0), (0, 0)] = true := by decide +kernel
theorem am_k_MD_evens : am_all (am_name 157).cls cX11_evens (am_fr 157) (am_lo 157) am_c_MD_evens [(0, 0), (4, 6), (0, 0), (0, 0), (0, 0), (0, 0), (0, 0), (0, 0), (0, 0), (3, 149), (0, 0), (0, 0), (0, 0), (4, 60), (0, 0), (0, 0), (3, 150), (0, 0), (0, 0), (0, 0), (4, 60), (0, 0), (0, 0), (0, 0), (0, 0), (4, 63), (0, 0), (0, 0), (0, 0), (4, 67), (0, 0), (0, 0), (4, 71), (0, 0), (0, 0), (0, 0), (0, 0), (0, 0), (4, 79), (0, 0), (0, 0), (0, 0), (0, 0), (0, 0), (0, 0), (0, 0), (0, 0), (0, 0), (0, 0), (0, 0), (0, 0), (4, 83), (0, 0), (0, 0), (0, 0), (0, 0), (0, 0), (0, 0), (4, 67), (0, 0), (0, 0), (4, 71), (0, 0), (0, 0), (0, 0), (0, 0), (0, 0), (4, 79), (0, 0), (0, 0), (0, 0), (0, 0), (0, 0), (0, 0), (0, 0), (0, 0), (0, 0), (0, 0), (0, 0), (0, 0), (0, 0), (0, 0), (0, 0), (0, 0), (0, 0), (0, 0), (0, 0), (3, 151), (0, 0), (0, 0), (0, 0), (0, 0), (0, 0), (0, 0), (4, 87), (0, 0), (0, 0), (0, 0), (0, 0), (0, 0), (0, 0), (0, 0), (0, 0), (0, 0), (4, 91), (0, 0), (0, 0)] = true := by decide +kernel
theorem am_k_MD_slim : am_all (am_name 158).cls cX11_slim (am_fr 158) (am_lo 158) am_c_MD_slim [(0, 0), (0, 0), (0, 0), (0, 0), (0, 0), (0, 0), (3, 145), (0, 0), (0, 0), (0, 0), (0, 0), (0, 0), (0, 0), (3, 238), (0, 0), (0, 0), (0, 0), (0, 0), (0, 0), (0, 0), (0, 0), (0, 0), (0, 0), (0, 0), (0, 0), (0, 0)] = true := by decide +kernel
theorem am_k_MD_loads : am_all (am_name 159).cls cX11_loads (am_fr 159) (am_lo 159) am_c_MD_loads [(0, 0), (4, 52), (0, 0), (0, 0), (0, 0), (0, 0), (0, 0), (0, 0), (0, 0), (4, 20), (0, 0), (0, 0), (0, 0), (0, 0), (4, 6), (0, 0), (0, 0), (0, 0), (0, 0), (0, 0), (0, 0), (0, 0), (0, 0), (0, 0), (0, 0), (0, 0), (0, 0), (0, 0), (0, 0), (0, 0), (4, 6), (0, 0), (0, 0), (0, 0), (0, 0), (0, 0), (4, 56), (0, 0), (0, 0), (0, 0), (0, 0), (0, 0), (0, 0), (0, 0), (0, 0), (0, 0), (0, 0)] = true := by decide +kernel
theorem am_k_MD_load : am_all (am_name 160).cls cX11_load (am_fr 160) (am_lo 160) am_c_MD_load [(0, 0), (0, 0), (0, 0), (0, 0), (3, 231), (0, 0), (0, 0), (0, 0), (0, 0), (3, 145), (0, 0), (0, 0), (0, 0), (0, 0), (0, 0), (0, 0), (4, 48), (0, 0), (0, 0), (0, 0), (3, 146), (0, 0), (0, 0), (3, 147), (0, 0)] = true := by decide +kernel
theorem am_k_MD_planAt : am_all (am_name 161).cls cX11_planAt (am_fr 161) (am_lo 161) am_c_MD_planAt [(0, 0), (0, 0), (0, 0), (0, 0), (0, 0), (0, 0), (3, 145), (0, 0), (0, 0), (0, 0), (0, 0), (3, 145), (0, 0), (0, 0), (0, 0), (0, 0), (0, 0), (0, 0), (0, 0), (0, 0), (0, 0), (0, 0), (0, 0), (0, 0), (0, 0), (0, 0), (0, 0), (0, 0)] = true := by decide +kernel
theorem am_k_MD_weighs : am_all (am_name 162).cls cX11_weighs (am_fr 162) (am_lo 162) am_c_MD_weighs [(0, 0), (4, 63), (0, 0), (0, 0), (0, 0), (0, 0), (0, 0), (0, 0), (3, 145), (0, 0), (0, 0), (0, 0), (0, 0), (0, 0), (0, 0), (0, 0), (0, 0), (0, 0), (3, 152), (0, 0), (0, 0), (0, 0), (0, 0), (3, 145), (0, 0), (0, 0), (0, 0), (0, 0), (0, 0), (0, 0), (0, 0), (0, 0), (0, 0), (0, 0), (3, 234), (0, 0), (0, 0), (3, 145), (0, 0), (0, 0), (0, 0), (0, 0), (0, 0), (0, 0), (0, 0), (0, 0), (0, 0), (0, 0), (0, 0), (0, 0), (0, 0), (0, 0), (0, 0), (0, 0), (0, 0), (0, 0), (3, 152), (0, 0), (0, 0), (0, 0), (0, 0), (0, 0), (0, 0), (0, 0), (0, 0)] = true := by decide +kernel
theorem am_k_MD_plan : am_all (am_name 163).cls cX11_plan (am_fr 163) (am_lo 163) am_c_MD_plan [(0, 0), (0, 0), (0, 0), (4, 99), (3, 231), (0, 0), (0, 0), (0, 0), (0, 0), (4, 100), (3, 231), (0, 0), (0, 0), (0, 0), (0, 0), (0, 0), (4, 101), (0, 0), (0, 0), (0, 0), (0, 0), (0, 0), (0, 0), (0, 0), (0, 0), (0, 0), (0, 0), (4, 105), (0, 0), (0, 0), (0, 0), (0, 0), (0, 0), (0, 0), (0, 0), (0, 0), (0, 0), (0, 0), (0, 0), (0, 0), (0, 0), (0, 0), (4, 87), (0, 0), (0, 0), (0, 0), (0, 0), (4, 87), (0, 0), (0, 0), (0, 0), (0, 0), (0, 0), (0, 0), (0, 0), (0, 0), (4, 91), (0, 0), (0, 0), (0, 0), (0, 0), (0, 0), (0, 0), (3, 146), (0, 0), (0, 0), (3, 147), (0, 0), (0, 0), (3, 146), (0, 0), (0, 0), (3, 147), (0, 0), (0, 0), (4, 48), (0, 0), (0, 0), (3, 146), (0, 0), (0, 0), (0, 0), (3, 147), (0, 0), (0, 0), (0, 0), (0, 0), (0, 0)] = true := by decide +kernel
theorem am_k_MD_drops : am_all (am_name 164).cls cX11_drops (am_fr 164) (am_lo 164) am_c_MD_drops [(0, 0), (3, 145), (0, 0), (0, 0), (0, 0), (0, 0), (0, 0), (0, 0), (0, 0), (0, 0), (0, 0), (0, 0), (0, 0), (0, 0), (0, 0), (3, 145), (0, 0), (0, 0), (0, 0), (0, 0), (0, 0), (3, 145), (0, 0), (0, 0), (0, 0), (0, 0), (3, 145), (0, 0), (0, 0), (0, 0), (0, 0), (0, 0), (0, 0), (0, 0), (0, 0), (0, 0), (0, 0)] = true := by decide +kernel
theorem am_k_MD_keep : am_all (am_name 165).cls cX11_keep (am_fr 165) (am_lo 165) am_c_MD_keep [(0, 0), (0, 0), (0, 0), (4, 99), (3, 231), (0, 0), (0, 0), (4, 113), (0, 0), (0, 0), (0, 0), (0, 0), (4, 100), (3, 231), (0, 0), (0, 0), (0, 0), (0, 0), (3, 145), (0, 0), (0, 0), (0, 0), (0, 0), (0, 0), (0, 0), (0, 0), (0, 0), (4, 116), (0, 0), (0, 0), (0, 0), (0, 0), (0, 0), (0, 0), (0, 0), (0, 0), (0, 0), (0, 0), (0, 0), (0, 0), (0, 0), (0, 0), (0, 0), (0, 0), (0, 0), (0, 0), (0, 0), (3, 170), (0, 0), (0, 0), (0, 0), (0, 0), (0, 0), (0, 0), (0, 0), (0, 0), (0, 0), (4, 99), (3, 231), (0, 0), (0, 0), (0, 0), (0, 0), (0, 0), (0, 0), (0, 0), (0, 0), (0, 0), (0, 0), (0, 0), (0, 0), (4, 120), (0, 0), (0, 0), (4, 101), (0, 0), (0, 0), (0, 0), (0, 0), (3, 145), (0, 0), (0, 0), (0, 0), (0, 0), (0, 0), (0, 0), (0, 0), (0, 0), (0, 0), (0, 0), (4, 124), (0, 0), (0, 0), (0, 0), (3, 145), (0, 0), (0, 0), (0, 0), (0, 0), (0, 0), (0, 0), (3, 145), (0, 0), (0, 0), (0, 0), (0, 0), (0, 0), (0, 0), (0, 0), (0, 0), (0, 0), (3, 145), (0, 0), (0, 0), (0, 0), (0, 0), (0, 0), (0, 0), (0, 0), (0, 0), (0, 0), (0, 0), (3, 234), (0, 0), (0, 0), (0, 0), (0, 0), (3, 145), (0, 0), (0, 0), (0, 0), (0, 0), (0, 0), (0, 0), (0, 0), (0, 0), (0, 0), (3, 170), (0, 0), (0, 0), (0, 0), (0, 0), (0, 0), (0, 0), (0, 0), (0, 0), (0, 0), (0, 0), (0, 0), (0, 0), (0, 0), (0, 0), (0, 0), (3, 145), (0, 0), (0, 0), (0, 0), (0, 0), (0, 0), (0, 0), (0, 0), (3, 145), (0, 0), (0, 0), (0, 0)] = true := by decide +kernel
theorem am_k_MD_standing : am_all (am_name 166).cls cX11_standing (am_fr 166) (am_lo 166) am_c_MD_standing [(0, 0), (0, 0), (0, 0), (0, 0), (3, 145), (0, 0), (0, 0), (0, 0), (3, 231), (0, 0), (0, 0), (0, 0), (0, 0), (0, 0), (0, 0), (0, 0), (0, 0), (0, 0), (4, 20), (0, 0), (0, 0), (0, 0), (4, 6), (0, 0), (0, 0), (0, 0), (0, 0), (4, 24), (0, 0), (0, 0), (0, 0), (0, 0), (0, 0), (0, 0), (0, 0), (0, 0), (0, 0), (0, 0)] = true := by decide +kernel
theorem am_k_MD_stands : am_all (am_name 167).cls cX11_stands (am_fr 167) (am_lo 167) am_c_MD_stands [(0, 0), (0, 0), (0, 0), (4, 136), (3, 231), (0, 0), (0, 0), (0, 0), (0, 0), (0, 0), (3, 231), (0, 0), (0, 0), (0, 0), (0, 0), (0, 0), (0, 0), (0, 0), (0, 0), (0, 0), (0, 0), (0, 0), (4, 20), (0, 0), (0, 0), (0, 0), (4, 24), (0, 0), (0, 0), (0, 0), (0, 0), (0, 0), (0, 0), (0, 0), (0, 0), (0, 0), (3, 145), (0, 0), (0, 0), (0, 0), (0, 0), (0, 0), (0, 0), (4, 13), (0, 0), (0, 0), (0, 0), (0, 0), (0, 0), (0, 0), (0, 0), (0, 0), (0, 0), (0, 0), (0, 0), (0, 0), (0, 0), (0, 0), (0, 0), (0, 0), (0, 0), (0, 0), (0, 0), (0, 0), (3, 145), (0, 0), (0, 0), (0, 0), (0, 0), (0, 0), (0, 0), (0, 0), (0, 0), (0, 0), (0, 0), (0, 0), (0, 0), (4, 91), (0, 0), (0, 0), (0, 0), (3, 146), (0, 0), (0, 0), (3, 147), (0, 0)] = true := by decide +kernel
theorem am_k_MD_isFree : am_all (am_name 168).cls cX11_isFree (am_fr 168) (am_lo 168) am_c_MD_isFree [(0, 0), (0, 0), (4, 24), (0, 0), (0, 0), (0, 0), (0, 0), (0, 0), (0, 0), (0, 0), (0, 0), (0, 0), (3, 145), (0, 0), (0, 0), (0, 0), (0, 0), (0, 0), (0, 0), (0, 0), (3, 234), (0, 0), (0, 0), (0, 0), (0, 0), (0, 0), (0, 0), (0, 0), (0, 0), (0, 0), (0, 0), (0, 0)] = true := by decide +kernel
theorem am_k_MD_free : am_all (am_name 169).cls cX11_free (am_fr 169) (am_lo 169) am_c_MD_free [(0, 0), (0, 0), (0, 0), (0, 0), (0, 0), (4, 20), (0, 0), (0, 0), (0, 0), (0, 0), (0, 0), (0, 0), (4, 141), (0, 0), (0, 0), (0, 0), (0, 0), (0, 0), (0, 0), (0, 0), (0, 0), (4, 141), (0, 0), (0, 0), (0, 0), (0, 0), (0, 0), (0, 0), (0, 0), (0, 0), (0, 0), (0, 0), (0, 0), (0, 0), (0, 0), (0, 0), (0, 0), (0, 0), (0, 0), (0, 0)] = true := by decide +kernel
theorem am_k_MD_power : am_all (am_name 170).cls cX11_power (am_fr 170) (am_lo 170) am_c_MD_power [(0, 0), (0, 0), (0, 0), (0, 0), (0, 0), (0, 0), (0, 0), (0, 0), (0, 0), (0, 0), (0, 0), (0, 0), (0, 0), (0, 0), (0, 0)] = true := by decide +kernel
theorem am_k_MD_digit : am_all (am_name 171).cls cX11_digit (am_fr 171) (am_lo 171) am_c_MD_digit [(0, 0), (0, 0), (4, 149), (0, 0), (0, 0), (0, 0), (0, 0)] = true := by decide +kernel
theorem am_k_MD_those : am_all (am_name 172).cls cX11_those (am_fr 172) (am_lo 172) am_c_MD_those [(0, 0), (0, 0), (0, 0), (0, 0), (0, 0), (0, 0), (3, 145), (0, 0), (0, 0), (0, 0), (0, 0), (0, 0), (0, 0), (4, 160), (0, 0), (0, 0), (0, 0), (0, 0), (0, 0), (0, 0), (0, 0), (0, 0), (0, 0), (0, 0), (0, 0), (0, 0), (0, 0)] = true := by decide +kernel
theorem am_k_MD_probesOf : am_all (am_name 173).cls cX11_probesOf (am_fr 173) (am_lo 173) am_c_MD_probesOf [(0, 0), (3, 153), (0, 0), (0, 0), (0, 0), (0, 0), (3, 154), (0, 0), (0, 0), (0, 0), (0, 0), (0, 0), (0, 0), (0, 0), (4, 156), (4, 24), (0, 0), (0, 0), (0, 0), (4, 20), (0, 0), (0, 0), (0, 0), (4, 156), (0, 0), (0, 0), (0, 0), (4, 24), (0, 0), (0, 0), (0, 0), (0, 0), (0, 0), (0, 0), (0, 0), (0, 0), (3, 145), (0, 0), (0, 0), (0, 0), (0, 0), (0, 0), (4, 160), (0, 0), (0, 0), (3, 153), (0, 0), (0, 0), (4, 149), (0, 0), (0, 0), (0, 0), (0, 0), (3, 153), (0, 0), (0, 0), (0, 0), (4, 149), (0, 0), (0, 0), (0, 0), (0, 0), (0, 0), (0, 0), (0, 0), (0, 0), (0, 0), (0, 0), (0, 0), (0, 0), (0, 0), (0, 0), (3, 154), (0, 0), (0, 0), (0, 0), (0, 0), (0, 0), (0, 0), (0, 0), (3, 154), (0, 0), (0, 0), (0, 0), (0, 0), (0, 0), (0, 0), (0, 0), (0, 0), (0, 0), (0, 0), (0, 0), (0, 0), (0, 0), (3, 153), (0, 0), (0, 0), (0, 0), (0, 0)] = true := by decide +kernel
theorem am_k_MD_probe : am_all (am_name 174).cls cX11_probe (am_fr 174) (am_lo 174) am_c_MD_probe [(0, 0), (0, 0), (0, 0), (0, 0), (4, 20), (0, 0), (3, 231), (0, 0), (0, 0), (0, 0), (0, 0), (0, 0), (4, 20), (0, 0), (3, 231), (0, 0), (0, 0), (0, 0), (0, 0), (0, 0), (0, 0), (0, 0), (0, 0), (0, 0), (3, 231), (0, 0), (0, 0), (0, 0), (0, 0), (0, 0), (0, 0), (0, 0), (0, 0), (0, 0), (3, 145), (0, 0), (0, 0), (0, 0), (0, 0), (0, 0), (0, 0), (4, 13), (0, 0), (0, 0), (4, 149), (0, 0), (0, 0), (0, 0), (4, 13), (0, 0), (0, 0), (0, 0), (4, 149), (0, 0), (0, 0), (0, 0), (0, 0), (0, 0), (0, 0), (0, 0), (0, 0), (3, 145), (0, 0), (0, 0), (4, 149), (0, 0), (0, 0), (0, 0), (0, 0), (0, 0), (0, 0), (0, 0), (0, 0), (4, 152), (0, 0), (0, 0), (0, 0), (0, 0), (0, 0), (3, 153), (0, 0), (0, 0), (0, 0), (0, 0), (3, 154), (0, 0), (0, 0), (0, 0)] = true := by decide +kernel
theorem am_k_MD_add : am_all (am_name 175).cls cX11_add (am_fr 175) (am_lo 175) am_c_MD_add [(0, 0), (0, 0), (0, 0), (0, 0), (4, 20), (0, 0), (3, 231), (0, 0), (0, 0), (0, 0), (0, 0), (0, 0), (4, 167), (0, 0), (0, 0), (0, 0), (0, 0), (3, 145), (0, 0), (0, 0), (0, 0), (0, 0), (0, 0), (0, 0), (0, 0), (4, 120), (0, 0), (0, 0), (4, 171), (0, 0), (3, 145), (0, 0), (0, 0), (0, 0)] = true := by decide +kernel
theorem am_k_MD_comes : am_all (am_name 176).cls cX11_comes (am_fr 176) (am_lo 176) am_c_MD_comes [(0, 0), (3, 145), (0, 0), (0, 0), (3, 145), (0, 0), (0, 0), (0, 0), (0, 0), (0, 0), (0, 0), (3, 145), (0, 0), (0, 0), (0, 0), (0, 0), (0, 0), (0, 0), (0, 0)] = true := by decide +kernel
theorem am_k_MD_goes : am_all (am_name 177).cls cX11_goes (am_fr 177) (am_lo 177) am_c_MD_goes [(0, 0), (3, 145), (0, 0), (0, 0), (0, 0), (0, 0), (0, 0), (0, 0), (0, 0), (0, 0), (0, 0), (0, 0), (3, 145), (0, 0), (0, 0), (0, 0), (0, 0), (3, 145), (0, 0), (0, 0), (0, 0), (0, 0), (3, 145), (0, 0), (0, 0), (0, 0), (0, 0), (0, 0), (0, 0), (0, 0), (0, 0), (0, 0), (0, 0)] = true := by decide +kernel
theorem am_k_MD_out : am_all (am_name 178).cls cX11_out (am_fr 178) (am_lo 178) am_c_MD_out [(0, 0), (0, 0), (0, 0), (0, 0), (4, 20), (0, 0), (3, 231), (0, 0), (0, 0), (0, 0), (0, 0), (0, 0), (4, 167), (0, 0), (0, 0), (0, 0), (0, 0), (0, 0), (0, 0), (4, 120), (0, 0), (0, 0), (4, 179), (0, 0), (3, 145), (0, 0), (0, 0), (0, 0)] = true := by decide +kernel
theorem am_k_MD_size : am_all (am_name 179).cls cX11_size (am_fr 179) (am_lo 179) am_c_MD_size [(0, 0), (0, 0), (0, 0), (4, 187), (3, 231), (0, 0), (0, 0), (0, 0), (0, 0), (3, 145), (0, 0), (0, 0), (0, 0), (0, 0), (0, 0), (0, 0), (0, 0), (0, 0), (0, 0), (3, 145), (0, 0), (0, 0), (0, 0), (0, 0), (0, 0), (0, 0), (3, 234), (0, 0), (0, 0), (0, 0), (0, 0), (0, 0), (0, 0), (0, 0), (0, 0), (0, 0), (0, 0), (0, 0), (0, 0), (0, 0), (0, 0), (0, 0), (4, 120), (0, 0), (3, 145), (0, 0), (0, 0), (0, 0), (0, 0), (0, 0)] = true := by decide +kernel
theorem am_k_MD_drift : am_all (am_name 180).cls cX11_drift (am_fr 180) (am_lo 180) am_c_MD_drift [(0, 0), (0, 0), (0, 0), (4, 192), (3, 231), (0, 0), (0, 0), (0, 0), (0, 0), (0, 0), (0, 0), (0, 0), (0, 0), (0, 0), (4, 120), (0, 0), (3, 145), (0, 0), (0, 0), (0, 0), (4, 193), (0, 0), (4, 194), (0, 0), (4, 195), (0, 0), (0, 0), (0, 0), (3, 145), (0, 0), (0, 0), (0, 0), (0, 0), (0, 0), (4, 196), (0, 0), (0, 0), (0, 0), (4, 20), (0, 0), (0, 0), (0, 0), (0, 0), (0, 0), (0, 0), (4, 167), (0, 0), (0, 0), (0, 0), (0, 0), (0, 0), (4, 179), (0, 0), (0, 0), (3, 145), (0, 0), (0, 0), (0, 0), (0, 0), (0, 0), (0, 0), (4, 171), (0, 0), (0, 0), (0, 0), (3, 145), (0, 0), (0, 0), (0, 0)] = true := by decide +kernel
theorem am_k_MD_seed : am_all (am_name 181).cls cX11_seed (am_fr 181) (am_lo 181) am_c_MD_seed [(0, 0), (0, 0), (0, 0), (0, 0), (0, 0), (3, 145), (0, 0), (0, 0), (0, 0), (0, 0), (3, 145), (0, 0), (0, 0), (0, 0), (0, 0), (0, 0)] = true := by decide +kernel
theorem am_k_MD_type : am_all (am_name 182).cls cX11_type (am_fr 182) (am_lo 182) am_c_MD_type [(0, 0), (0, 0), (4, 205), (4, 206), (3, 231), (0, 0), (0, 0), (0, 0), (0, 0), (3, 156), (0, 0), (0, 0), (0, 0), (0, 0), (0, 0), (3, 155), (0, 0), (3, 156), (0, 0), (0, 0), (0, 0), (0, 0), (3, 156), (0, 0), (0, 0), (3, 156), (0, 0), (3, 156), (0, 0)] = true := by decide +kernel
theorem am_k_MD_here : am_all (am_name 183).cls cX11_here (am_fr 183) (am_lo 183) am_c_MD_here [(0, 0), (3, 157), (0, 0), (3, 156), (0, 0), (0, 0), (3, 155), (0, 0), (3, 157), (0, 0), (0, 0), (0, 0), (0, 0), (0, 0), (3, 157), (0, 0), (0, 0), (3, 157), (0, 0), (0, 0), (3, 157), (0, 0), (3, 156), (0, 0), (0, 0), (3, 155), (0, 0), (3, 157), (0, 0), (0, 0), (0, 0), (0, 0)] = true := by decide +kernel
theorem am_k_MD_figure : am_all (am_name 184).cls cX11_figure (am_fr 184) (am_lo 184) am_c_MD_figure [(0, 0), (4, 215), (0, 0), (0, 0), (0, 0), (0, 0), (0, 0), (0, 0), (0, 0), (0, 0), (0, 0), (3, 231), (0, 0), (0, 0), (0, 0), (0, 0), (0, 0), (3, 157), (0, 0), (0, 0), (3, 157), (0, 0), (0, 0)] = true := by decide +kernel
theorem am_k_MD_gets : am_all (am_name 185).cls cX11_gets (am_fr 185) (am_lo 185) am_c_MD_gets [(0, 0), (0, 0), (3, 161), (0, 0), (0, 0), (3, 159), (0, 0), (0, 0), (0, 0), (0, 0), (0, 0), (3, 161), (0, 0), (3, 161), (0, 0), (0, 0), (3, 160), (0, 0), (3, 159), (0, 0), (0, 0), (0, 0), (0, 0), (3, 159), (0, 0), (0, 0), (3, 159), (0, 0)] = true := by decide +kernel
theorem am_k_MD_isGot : am_all (am_name 186).cls cX11_isGot (am_fr 186) (am_lo 186) am_c_MD_isGot [(0, 0), (0, 0), (0, 0), (0, 0), (0, 0), (0, 0), (3, 159), (0, 0), (0, 0), (0, 0), (0, 0), (3, 160), (0, 0), (0, 0), (0, 0), (0, 0), (0, 0), (0, 0), (0, 0), (0, 0), (0, 0), (0, 0), (0, 0), (0, 0)] = true := by decide +kernel
theorem am_k_MD_majority : am_all (am_name 187).cls cX11_majority (am_fr 187) (am_lo 187) am_c_MD_majority [(0, 0), (0, 0), (0, 0), (4, 229), (0, 0), (0, 0), (0, 0), (3, 158), (0, 0), (0, 0), (0, 0), (0, 0), (0, 0), (0, 0), (0, 0), (0, 0), (0, 0), (0, 0), (4, 6), (0, 0), (0, 0), (0, 0), (0, 0), (0, 0), (0, 0), (0, 0), (0, 0), (4, 233), (0, 0), (0, 0), (0, 0), (0, 0), (0, 0), (0, 0), (0, 0), (0, 0)] = true := by decide +kernel
theorem am_k_MD_grid : am_all (am_name 188).cls cX11_grid (am_fr 188) (am_lo 188) am_c_MD_grid [(0, 0), (0, 0), (0, 0), (4, 229), (0, 0), (0, 0), (0, 0), (0, 0), (4, 215), (0, 0), (0, 0), (0, 0), (0, 0), (0, 0), (0, 0), (3, 157), (0, 0), (0, 0), (3, 157), (0, 0), (0, 0), (0, 0), (0, 0), (0, 0), (0, 0), (0, 0), (0, 0), (0, 0), (0, 0), (0, 0), (0, 0), (4, 229), (0, 0), (0, 0), (0, 0), (0, 0), (0, 0), (3, 158), (0, 0), (0, 0), (0, 0), (0, 0), (0, 0), (0, 0), (0, 0), (0, 0), (0, 0), (0, 0), (0, 0), (0, 0), (0, 0), (0, 0), (0, 0), (0, 0), (0, 0), (0, 0), (0, 0), (0, 0), (0, 0), (0, 0), (0, 0), (0, 0), (0, 0), (0, 0), (0, 0), (0, 0), (0, 0), (0, 0), (0, 0), (0, 0), (0, 0), (0, 0), (0, 0), (0, 0), (0, 0), (0, 0), (0, 0), (0, 0), (0, 0), (5, 1), (0, 0), (0, 0), (0, 0), (4, 233), (0, 0), (0, 0), (0, 0), (0, 0), (0, 0), (0, 0), (0, 0), (0, 0), (0, 0), (0, 0)] = true := by decide +kernel
theorem am_k_MD_wall : am_all (am_name 189).cls cX11_wall (am_fr 189) (am_lo 189) am_c_MD_wall [(0, 0), (0, 0), (0, 0), (0, 0), (3, 158), (0, 0), (0, 0), (0, 0), (0, 0), (0, 0), (0, 0), (0, 0), (0, 0), (3, 158), (0, 0), (0, 0), (0, 0), (0, 0), (0, 0), (3, 158), (0, 0), (0, 0), (0, 0), (4, 229), (0, 0), (0, 0), (0, 0), (0, 0), (0, 0), (0, 0), (3, 162), (0, 0), (0, 0), (0, 0), (0, 0), (0, 0), (0, 0), (3, 158), (0, 0), (0, 0), (3, 158), (0, 0), (0, 0), (0, 0), (0, 0), (4, 215), (0, 0), (0, 0), (0, 0), (0, 0), (0, 0), (0, 0), (0, 0), (0, 0), (3, 157), (0, 0), (0, 0), (0, 0), (0, 0), (0, 0), (0, 0), (3, 157), (0, 0), (0, 0), (0, 0), (0, 0), (0, 0), (0, 0), (0, 0), (0, 0), (0, 0), (5, 9), (0, 0), (0, 0), (0, 0), (0, 0)] = true := by decide +kernel
theorem am_k_MD_walls : am_all (am_name 190).cls cX11_walls (am_fr 190) (am_lo 190) am_c_MD_walls [(0, 0), (0, 0), (0, 0), (0, 0), (0, 0), (0, 0), (0, 0), (0, 0), (0, 0), (0, 0), (0, 0), (0, 0), (0, 0), (0, 0), (3, 162), (0, 0), (0, 0), (0, 0), (0, 0), (0, 0), (0, 0), (0, 0), (0, 0), (0, 0), (0, 0), (0, 0), (3, 162), (0, 0), (0, 0), (0, 0), (0, 0), (0, 0), (0, 0), (0, 0), (0, 0), (0, 0), (0, 0), (0, 0), (0, 0), (0, 0), (0, 0), (0, 0), (3, 162), (0, 0), (0, 0), (0, 0), (0, 0), (0, 0), (0, 0), (0, 0), (0, 0), (0, 0), (0, 0), (0, 0), (3, 158), (0, 0), (0, 0), (0, 0), (0, 0), (0, 0), (0, 0), (0, 0), (0, 0), (0, 0), (0, 0), (3, 162), (0, 0), (0, 0), (0, 0), (0, 0), (0, 0), (0, 0), (0, 0), (0, 0), (0, 0), (3, 162), (0, 0), (0, 0), (0, 0), (0, 0), (0, 0), (0, 0), (0, 0), (0, 0), (0, 0), (3, 162), (0, 0), (0, 0), (0, 0), (0, 0), (0, 0), (0, 0), (0, 0), (0, 0), (4, 233), (0, 0), (0, 0), (0, 0)] = true := by decide +kernel
theorem am_k_MD_plane : am_all (am_name 191).cls cX11_plane (am_fr 191) (am_lo 191) am_c_MD_plane [(0, 0), (0, 0), (3, 158), (0, 0), (0, 0), (0, 0), (0, 0), (0, 0), (0, 0), (0, 0), (0, 0), (0, 0), (0, 0), (0, 0), (0, 0), (0, 0), (0, 0), (0, 0), (0, 0), (0, 0), (0, 0), (0, 0), (0, 0), (0, 0), (0, 0), (0, 0), (0, 0), (0, 0), (4, 233), (0, 0), (0, 0), (0, 0), (0, 0)] = true := by decide +kernel
theorem am_k_MD_told : am_all (am_name 192).cls cX11_told (am_fr 192) (am_lo 192) am_c_MD_told [(0, 0), (0, 0), (0, 0), (0, 0), (4, 229), (3, 158), (0, 0), (3, 158), (0, 0), (0, 0), (0, 0), (0, 0), (4, 215), (0, 0), (0, 0), (0, 0), (0, 0), (0, 0), (0, 0), (0, 0), (0, 0), (0, 0), (0, 0), (3, 157), (0, 0), (0, 0), (3, 157), (0, 0), (5, 21), (0, 0), (0, 0), (0, 0), (0, 0), (4, 215), (0, 0), (0, 0), (0, 0), (0, 0), (0, 0), (0, 0), (0, 0), (0, 0), (0, 0)] = true := by decide +kernel
theorem am_k_MD_one : am_all (am_name 193).cls cX11_one (am_fr 193) (am_lo 193) am_c_MD_one [(0, 0), (4, 215), (0, 0), (5, 25), (0, 0), (0, 0), (3, 158), (0, 0), (0, 0), (3, 231), (0, 0), (0, 0), (3, 159), (0, 0), (0, 0), (0, 0), (0, 0), (0, 0), (0, 0), (0, 0), (3, 157), (0, 0), (3, 156), (0, 0), (0, 0), (3, 155), (0, 0), (3, 157), (0, 0), (0, 0), (5, 25), (5, 26), (3, 231), (0, 0), (0, 0), (3, 155), (0, 0), (3, 157), (0, 0), (0, 0), (0, 0), (0, 0), (0, 0), (0, 0), (3, 158), (0, 0), (0, 0), (0, 0), (4, 13), (0, 0), (0, 0), (0, 0), (0, 0), (0, 0), (0, 0), (0, 0), (0, 0), (0, 0), (0, 0), (0, 0), (3, 157), (0, 0), (0, 0), (3, 157), (0, 0), (0, 0), (4, 215), (0, 0), (0, 0), (0, 0), (5, 1), (0, 0), (0, 0), (0, 0), (0, 0), (0, 0), (4, 233), (0, 0), (0, 0)] = true := by decide +kernel
theorem am_k_MD_isName : am_all (am_name 194).cls cX11_isName (am_fr 194) (am_lo 194) am_c_MD_isName [(0, 0), (3, 157), (0, 0), (0, 0), (0, 0), (0, 0), (0, 0), (3, 155), (0, 0), (0, 0), (0, 0), (0, 0), (0, 0), (3, 155), (0, 0), (0, 0), (0, 0), (0, 0), (0, 0), (0, 0), (0, 0), (3, 155), (0, 0), (0, 0), (0, 0), (0, 0), (0, 0), (0, 0), (0, 0), (0, 0), (0, 0), (0, 0), (3, 155), (0, 0), (0, 0), (0, 0), (0, 0), (0, 0), (0, 0), (0, 0), (0, 0), (0, 0), (0, 0)] = true := by decide +kernel
theorem am_k_MD_isText : am_all (am_name 195).cls cX11_isText (am_fr 195) (am_lo 195) am_c_MD_isText [(0, 0), (0, 0), (3, 157), (0, 0), (0, 0), (3, 159), (0, 0), (0, 0), (3, 161), (0, 0), (4, 215), (0, 0), (0, 0), (3, 157), (0, 0), (0, 0), (3, 157), (0, 0), (3, 156), (0, 0), (0, 0), (3, 155), (0, 0), (3, 157), (0, 0), (0, 0), (4, 219), (4, 220), (3, 231), (0, 0), (0, 0), (0, 0), (3, 157), (0, 0), (0, 0), (3, 157), (0, 0), (0, 0), (0, 0), (0, 0), (0, 0), (0, 0), (0, 0), (0, 0), (4, 221), (0, 0), (0, 0), (3, 155), (0, 0), (0, 0), (0, 0), (0, 0), (0, 0), (0, 0), (0, 0), (3, 155), (0, 0), (0, 0), (0, 0), (0, 0), (0, 0), (0, 0), (0, 0), (3, 155), (0, 0), (0, 0), (0, 0), (0, 0), (0, 0), (0, 0), (0, 0), (3, 155), (0, 0), (0, 0), (0, 0), (0, 0), (0, 0), (0, 0), (0, 0), (4, 225), (0, 0), (0, 0), (0, 0), (0, 0), (0, 0), (0, 0), (0, 0), (0, 0), (0, 0), (4, 221), (0, 0), (0, 0), (4, 237), (0, 0), (0, 0), (0, 0), (0, 0), (0, 0), (0, 0), (0, 0), (0, 0), (0, 0), (4, 221), (0, 0), (0, 0), (5, 5), (0, 0), (0, 0), (0, 0), (0, 0), (0, 0), (0, 0), (0, 0), (0, 0), (0, 0), (4, 221), (0, 0), (0, 0), (3, 155), (0, 0), (0, 0), (0, 0), (0, 0), (0, 0), (0, 0), (0, 0), (5, 13), (0, 0), (0, 0), (0, 0), (0, 0), (0, 0), (0, 0), (0, 0), (0, 0), (0, 0), (4, 221), (0, 0), (0, 0), (5, 17), (0, 0), (0, 0), (0, 0), (0, 0), (3, 157), (0, 0), (0, 0), (0, 0), (0, 0), (0, 0), (4, 215), (0, 0), (0, 0), (0, 0), (0, 0), (0, 0), (0, 0), (0, 0), (0, 0), (0, 0), (3, 161), (0, 0), (0, 0), (0, 0), (0, 0), (3, 157), (3, 157), (0, 0), (0, 0), (0, 0), (3, 161), (0, 0), (0, 0), (0, 0), (0, 0), (0, 0)] = true := by decide +kernel
theorem am_k_MD_read : am_all (am_name 196).cls cX11_read (am_fr 196) (am_lo 196) am_c_MD_read [(0, 0), (4, 211), (0, 0), (0, 0), (4, 215), (0, 0), (0, 0), (3, 156), (0, 0), (0, 0), (3, 157), (0, 0), (0, 0), (0, 0), (3, 156), (0, 0), (0, 0), (0, 0), (0, 0), (0, 0), (0, 0), (0, 0), (4, 120), (0, 0), (3, 145), (0, 0), (0, 0), (3, 158), (0, 0), (0, 0), (3, 145), (0, 0), (0, 0), (3, 159), (0, 0), (0, 0), (0, 0), (0, 0), (0, 0), (3, 159), (0, 0), (0, 0), (3, 145), (0, 0), (0, 0), (0, 0), (0, 0), (3, 160), (0, 0), (0, 0), (0, 0), (0, 0), (0, 0), (0, 0), (3, 159), (0, 0)] = true := by decide +kernel
theorem am_k_MD_notes : am_all (am_name 197).cls cX11_notes (am_fr 197) (am_lo 197) am_c_MD_notes [(0, 0), (3, 164), (0, 0), (0, 0), (0, 0), (0, 0), (0, 0), (0, 0), (0, 0), (0, 0), (3, 163), (0, 0), (0, 0), (0, 0), (0, 0), (3, 163), (0, 0), (0, 0), (0, 0), (0, 0), (0, 0), (0, 0), (0, 0), (3, 164), (0, 0), (0, 0), (0, 0), (0, 0), (0, 0), (0, 0), (3, 163), (0, 0), (0, 0), (3, 164), (0, 0), (0, 0), (0, 0), (0, 0), (3, 145), (0, 0), (0, 0), (0, 0), (0, 0), (0, 0), (0, 0), (0, 0), (3, 164), (0, 0), (0, 0), (3, 164), (0, 0)] = true := by decide +kernel
theorem am_k_MD_undo : am_all (am_name 198).cls cX11_undo (am_fr 198) (am_lo 198) am_c_MD_undo [(0, 0), (3, 164), (0, 0), (0, 0), (0, 0), (0, 0), (0, 0), (3, 164), (0, 0), (0, 0), (3, 164), (0, 0), (0, 0), (0, 0), (0, 0), (0, 0), (0, 0), (3, 145), (0, 0), (0, 0), (3, 163), (0, 0), (0, 0), (3, 164), (0, 0), (0, 0), (0, 0), (0, 0), (0, 0), (0, 0), (0, 0), (0, 0), (3, 164), (0, 0)] = true := by decide +kernel
theorem am_k_MD_image : am_all (am_name 199).cls cX11_image (am_fr 199) (am_lo 199) am_c_MD_image [(0, 0), (0, 0), (0, 0), (0, 0), (0, 0), (0, 0), (3, 165), (0, 0), (0, 0), (3, 145), (0, 0), (0, 0), (0, 0), (0, 0), (0, 0), (0, 0), (0, 0), (0, 0), (0, 0), (0, 0), (0, 0), (3, 166), (0, 0), (0, 0), (3, 163), (0, 0), (0, 0), (0, 0), (0, 0), (0, 0), (0, 0), (0, 0), (3, 164), (3, 167), (0, 0), (0, 0)] = true := by decide +kernel
theorem am_k_MD_restore : am_all (am_name 200).cls cX11_restore (am_fr 200) (am_lo 200) am_c_MD_restore [(0, 0), (3, 167), (0, 0), (0, 0), (0, 0), (0, 0), (0, 0), (0, 0), (0, 0), (0, 0), (0, 0), (3, 145), (0, 0), (0, 0), (3, 165), (0, 0), (0, 0), (0, 0), (0, 0), (0, 0), (0, 0), (0, 0), (0, 0), (0, 0), (0, 0), (0, 0), (3, 163), (0, 0), (0, 0), (3, 166), (0, 0), (0, 0), (0, 0), (0, 0), (0, 0), (0, 0), (0, 0), (3, 167), (3, 164), (0, 0), (0, 0)] = true := by decide +kernel
theorem am_k_MD_isSheet : am_all (am_name 201).cls cX11_isSheet (am_fr 201) (am_lo 201) am_c_MD_isSheet [(0, 0), (0, 0), (0, 0), (4, 100), (3, 231), (0, 0)] = true := by decide +kernel
theorem am_k_MD_cut : am_all (am_name 202).cls cX11_cut (am_fr 202) (am_lo 202) am_c_MD_cut [(0, 0), (0, 0), (0, 0), (0, 0), (0, 0), (0, 0), (0, 0), (0, 0), (0, 0), (0, 0), (0, 0), (0, 0), (0, 0), (0, 0), (0, 0), (0, 0), (0, 0), (0, 0), (0, 0), (0, 0), (0, 0), (0, 0), (0, 0), (0, 0)] = true := by decide +kernel
theorem am_k_MD_sheet : am_all (am_name 203).cls cX11_sheet (am_fr 203) (am_lo 203) am_c_MD_sheet [(0, 0), (4, 113), (0, 0), (0, 0), (0, 0), (0, 0), (4, 100), (3, 231), (0, 0), (0, 0), (0, 0), (0, 0), (0, 0), (0, 0), (0, 0), (0, 0), (0, 0), (0, 0), (0, 0), (3, 168), (0, 0), (0, 0), (0, 0), (0, 0), (3, 169), (0, 0), (0, 0), (0, 0), (0, 0), (0, 0), (0, 0), (0, 0), (0, 0), (0, 0), (3, 170), (0, 0), (0, 0), (0, 0), (0, 0), (0, 0), (0, 0), (0, 0), (0, 0), (0, 0), (0, 0), (0, 0)] = true := by decide +kernel
theorem am_k_MD_drop : am_all (am_name 204).cls cX11_drop (am_fr 204) (am_lo 204) am_c_MD_drop [(0, 0), (4, 113), (0, 0), (0, 0), (0, 0), (0, 0), (3, 168), (0, 0), (0, 0), (0, 0), (0, 0), (0, 0), (0, 0), (3, 168), (0, 0), (0, 0), (0, 0), (0, 0), (3, 169), (0, 0), (0, 0), (0, 0)] = true := by decide +kernel
theorem am_k_MD_why : am_all (am_name 205).cls cX11_why (am_fr 205) (am_lo 205) am_c_MD_why [(0, 0), (3, 168), (0, 0), (0, 0), (0, 0), (0, 0), (0, 0), (0, 0), (3, 168), (0, 0), (0, 0), (0, 0), (0, 0), (0, 0), (0, 0), (0, 0), (0, 0), (0, 0), (0, 0), (3, 169), (0, 0), (0, 0), (0, 0), (0, 0), (0, 0), (0, 0), (0, 0), (0, 0), (0, 0)] = true := by decide +kernel
theorem am_k_MD_item : am_all (am_name 206).cls cX11_item (am_fr 206) (am_lo 206) am_c_MD_item [(0, 0), (4, 113), (0, 0), (0, 0), (0, 0), (0, 0), (4, 100), (3, 231), (0, 0), (0, 0), (0, 0), (0, 0), (0, 0), (0, 0), (0, 0), (0, 0), (4, 116), (0, 0), (0, 0), (0, 0), (0, 0), (0, 0), (0, 0), (3, 170), (0, 0), (0, 0), (0, 0), (0, 0), (0, 0), (0, 0), (0, 0), (5, 51), (0, 0), (0, 0), (0, 0)] = true := by decide +kernel
theorem am_k_MD_copy : am_all (am_name 207).cls cX11_copy (am_fr 207) (am_lo 207) am_c_MD_copy [(0, 0), (4, 113), (0, 0), (0, 0), (4, 113), (0, 0), (0, 0), (0, 0), (0, 0), (3, 168), (0, 0), (0, 0), (0, 0), (0, 0), (3, 168), (0, 0), (0, 0), (0, 0), (0, 0), (0, 0), (0, 0), (3, 168), (0, 0), (0, 0), (0, 0), (3, 168), (0, 0), (0, 0), (0, 0), (0, 0), (0, 0), (0, 0), (0, 0), (0, 0), (0, 0), (0, 0), (0, 0), (0, 0), (0, 0), (0, 0), (0, 0), (0, 0), (0, 0), (3, 169), (0, 0), (0, 0), (0, 0), (0, 0), (0, 0), (0, 0), (0, 0), (0, 0), (0, 0), (0, 0), (0, 0), (3, 169), (0, 0), (0, 0), (0, 0), (0, 0), (0, 0), (0, 0), (0, 0), (0, 0), (0, 0), (0, 0), (0, 0), (0, 0), (0, 0), (3, 171), (0, 0), (0, 0), (3, 170), (0, 0), (0, 0), (0, 0), (0, 0), (0, 0), (0, 0), (0, 0), (0, 0), (0, 0), (0, 0), (0, 0), (0, 0), (0, 0), (0, 0), (0, 0), (0, 0), (0, 0), (3, 170), (0, 0), (0, 0), (0, 0), (0, 0), (0, 0), (0, 0), (0, 0), (0, 0), (3, 171), (0, 0), (0, 0), (0, 0), (0, 0), (0, 0), (0, 0), (0, 0)] = true := by decide +kernel
theorem am_k_MD_row : am_all (am_name 208).cls cX11_row (am_fr 208) (am_lo 208) am_c_MD_row [(0, 0), (3, 170), (0, 0), (0, 0), (0, 0), (0, 0), (0, 0), (0, 0)] = true := by decide +kernel
theorem am_k_MD_ofTwo : am_all (am_name 209).cls cX11_ofTwo (am_fr 209) (am_lo 209) am_c_MD_ofTwo [(0, 0), (0, 0), (0, 0), (0, 0), (0, 0), (0, 0), (0, 0), (0, 0), (0, 0), (0, 0), (0, 0), (0, 0), (0, 0), (0, 0), (0, 0), (5, 67), (0, 0), (0, 0), (0, 0), (0, 0), (5, 67), (0, 0), (0, 0), (0, 0), (0, 0), (0, 0), (0, 0), (0, 0), (0, 0), (0, 0), (0, 0), (0, 0), (0, 0), (0, 0), (0, 0), (0, 0), (0, 0), (0, 0), (0, 0), (0, 0), (0, 0), (0, 0), (0, 0), (0, 0), (0, 0), (0, 0), (4, 6), (0, 0), (4, 6), (0, 0), (0, 0), (0, 0), (0, 0), (0, 0), (0, 0), (0, 0), (0, 0), (0, 0), (0, 0), (0, 0), (0, 0), (0, 0), (0, 0), (0, 0), (0, 0), (0, 0), (0, 0), (0, 0), (0, 0), (0, 0), (0, 0)] = true := by decide +kernel
theorem am_k_MD_isEven : am_all (am_name 210).cls cX11_isEven (am_fr 210) (am_lo 210) am_c_MD_isEven [(0, 0), (0, 0), (0, 0), (0, 0), (0, 0), (0, 0), (0, 0), (0, 0), (3, 145), (0, 0), (0, 0), (0, 0), (0, 0), (0, 0), (0, 0), (0, 0), (0, 0), (0, 0), (0, 0), (0, 0), (0, 0), (0, 0), (0, 0), (5, 67), (0, 0), (4, 13), (0, 0), (0, 0), (0, 0), (0, 0), (0, 0), (0, 0), (0, 0), (0, 0), (0, 0), (0, 0), (0, 0), (0, 0), (0, 0), (0, 0), (0, 0), (0, 0), (0, 0), (0, 0), (0, 0), (0, 0), (0, 0), (0, 0), (0, 0), (0, 0), (0, 0), (0, 0), (0, 0)] = true := by decide +kernel
theorem am_k_MD_isJust : am_all (am_name 211).cls cX11_isJust (am_fr 211) (am_lo 211) am_c_MD_isJust [(0, 0), (0, 0), (3, 145), (0, 0), (0, 0), (0, 0), (0, 0), (0, 0), (0, 0), (0, 0), (0, 0), (0, 0), (0, 0), (0, 0), (0, 0), (0, 0), (0, 0), (0, 0), (0, 0), (0, 0), (0, 0), (0, 0), (0, 0), (5, 67), (4, 167), (0, 0), (0, 0), (0, 0), (0, 0), (0, 0), (4, 13), (0, 0), (0, 0), (0, 0), (0, 0), (0, 0), (0, 0), (0, 0), (0, 0), (0, 0), (0, 0), (0, 0), (0, 0), (0, 0), (0, 0), (0, 0), (0, 0), (0, 0), (0, 0), (0, 0)] = true := by decide +kernel
theorem am_k_MD_what : am_all (am_name 212).cls cX11_what (am_fr 212) (am_lo 212) am_c_MD_what [(0, 0), (4, 113), (0, 0), (0, 0), (0, 0), (0, 0), (4, 100), (3, 231), (0, 0), (0, 0), (0, 0), (0, 0), (5, 62), (3, 231), (0, 0), (0, 0), (0, 0), (0, 0), (0, 0), (0, 0), (0, 0), (0, 0), (4, 116), (0, 0), (0, 0), (0, 0), (0, 0), (0, 0), (0, 0), (0, 0), (0, 0), (0, 0), (0, 0), (0, 0), (0, 0), (0, 0), (0, 0), (0, 0), (0, 0), (0, 0), (3, 170), (0, 0), (0, 0), (0, 0), (0, 0), (0, 0), (0, 0), (4, 20), (0, 0), (3, 231), (0, 0), (0, 0), (0, 0), (0, 0), (0, 0), (0, 0), (0, 0), (0, 0), (0, 0), (0, 0), (0, 0), (0, 0), (0, 0), (0, 0), (0, 0), (0, 0), (0, 0), (5, 63), (0, 0), (0, 0), (0, 0), (0, 0), (0, 0), (0, 0), (0, 0), (0, 0), (0, 0), (0, 0), (0, 0), (0, 0), (0, 0), (0, 0), (5, 71), (0, 0), (0, 0), (0, 0), (0, 0), (0, 0), (0, 0), (0, 0), (0, 0), (5, 75), (0, 0), (0, 0), (0, 0), (0, 0), (0, 0), (0, 0)] = true := by decide +kernel
theorem am_k_MD_film : am_all (am_name 213).cls cX11_film (am_fr 213) (am_lo 213) am_c_MD_film [(0, 0), (4, 113), (0, 0), (0, 0), (0, 0), (0, 0), (4, 100), (3, 231), (0, 0), (0, 0), (0, 0), (0, 0), (0, 0), (0, 0), (0, 0), (0, 0), (3, 145), (0, 0), (0, 0), (4, 116), (0, 0), (0, 0), (0, 0), (0, 0), (0, 0), (0, 0), (0, 0), (0, 0), (0, 0), (3, 145), (0, 0), (0, 0), (0, 0), (0, 0), (3, 170), (0, 0), (0, 0), (0, 0), (0, 0), (0, 0), (0, 0), (0, 0), (0, 0), (0, 0), (3, 234), (0, 0), (0, 0), (0, 0), (0, 0), (0, 0), (3, 145), (0, 0), (0, 0), (0, 0)] = true := by decide +kernel
end
section
/-! each method's words in the tables -/
theorem am_w_rf {c i : Nat} {w : Cond} (h1 : (am_tb c)[i]? = some w) (h2 : goodWord w = true) : w ∈ am_TS := am_w_in (c := c) (i := i) (by unfold am_w; rw [h1, h2]; simp)
def am_mw (y : Nat) : Prop := Cond.code (am_name y) (am_bytes y) (am_max y) (am_ret y) ∈ am_TS ∧ Cond.initialized (am_name y).cls ∈ am_TS ∧ ((am_name y).cls ≠ "java/lang/invoke/MethodHandle" ∧ (am_name y).cls ≠ "java/lang/invoke/VarHandle")
def am_mf (y : Nat) : Prop := am_mw y ∧ (am_kd y = 0 → Cond.instanceMethod (am_name y) ∈ am_TS ∧ Cond.selects (am_name y).cls (am_name y) (am_name y) ∈ am_TS) ∧ (am_kd y = 1 → Cond.static (am_name y) ∈ am_TS) ∧ (am_kd y = 2 → Cond.instanceMethod (am_name y) ∈ am_TS ∧ (am_name y).name = "<init>")
/-- a method that makes nothing: its code is checked -/
def am_pl (y : Nat) : Prop := am_mf y ∧ Jvm.plainName (am_name y).cls = true ∧ (am_name y).cls ≠ RL ∧ ∀ e ∈ am_code y, ∃ t, decode (am_bytes y) e.1 = .ok (e.2.1, e.2.2.1) ∧ am_ok (am_name y).cls (am_fr y) (am_lo y) e t = true
theorem am_f_J6_bitCount : am_mf 0 := ⟨⟨am_w_rf (c := 1) (i := 68) rfl rfl, (am_w_in (c := 0) (i := 13) (by decide +kernel)), by decide +kernel⟩, fun q => absurd q (by decide), fun _ => (am_w_in (c := 1) (i := 67) (by decide +kernel)), fun q => absurd q (by decide)⟩
theorem am_f_Hi_init : am_mf 1 := ⟨⟨am_w_rf (c := 0) (i := 90) rfl rfl, (am_w_in (c := 0) (i := 4) (by decide +kernel)), by decide +kernel⟩, fun q => absurd q (by decide), fun q => absurd q (by decide), fun _ => ⟨(am_w_in (c := 0) (i := 89) (by decide +kernel)), by decide +kernel⟩⟩
theorem am_f_Hi_note : am_mf 2 := ⟨⟨am_w_rf (c := 2) (i := 40) rfl rfl, (am_w_in (c := 0) (i := 4) (by decide +kernel)), by decide +kernel⟩, fun _ => ⟨(am_w_in (c := 2) (i := 38) (by decide +kernel)), (am_w_in (c := 2) (i := 39) (by decide +kernel))⟩, fun q => absurd q (by decide), fun q => absurd q (by decide)⟩
theorem am_f_Hi_loseOldest : am_mf 3 := ⟨⟨am_w_rf (c := 2) (i := 44) rfl rfl, (am_w_in (c := 0) (i := 4) (by decide +kernel)), by decide +kernel⟩, fun _ => ⟨(am_w_in (c := 2) (i := 43) (by decide +kernel)), (am_w_in (c := 6) (i := 14) (by decide +kernel))⟩, fun q => absurd q (by decide), fun q => absurd q (by decide)⟩
theorem am_f_Hi_takeBack : am_mf 4 := ⟨⟨am_w_rf (c := 3) (i := 16) rfl rfl, (am_w_in (c := 0) (i := 4) (by decide +kernel)), by decide +kernel⟩, fun _ => ⟨(am_w_in (c := 3) (i := 14) (by decide +kernel)), (am_w_in (c := 3) (i := 15) (by decide +kernel))⟩, fun q => absurd q (by decide), fun q => absurd q (by decide)⟩
theorem am_f_Hi_becomes : am_mf 5 := ⟨⟨am_w_rf (c := 3) (i := 29) rfl rfl, (am_w_in (c := 0) (i := 4) (by decide +kernel)), by decide +kernel⟩, fun _ => ⟨(am_w_in (c := 3) (i := 27) (by decide +kernel)), (am_w_in (c := 3) (i := 28) (by decide +kernel))⟩, fun q => absurd q (by decide), fun q => absurd q (by decide)⟩
theorem am_f_Ho_init : am_mf 6 := ⟨⟨am_w_rf (c := 0) (i := 154) rfl rfl, (am_w_in (c := 0) (i := 7) (by decide +kernel)), by decide +kernel⟩, fun q => absurd q (by decide), fun q => absurd q (by decide), fun _ => ⟨(am_w_in (c := 0) (i := 153) (by decide +kernel)), by decide +kernel⟩⟩
theorem am_f_Ho_look : am_mf 7 := ⟨⟨am_w_rf (c := 1) (i := 79) rfl rfl, (am_w_in (c := 0) (i := 7) (by decide +kernel)), by decide +kernel⟩, fun _ => ⟨(am_w_in (c := 1) (i := 77) (by decide +kernel)), (am_w_in (c := 1) (i := 78) (by decide +kernel))⟩, fun q => absurd q (by decide), fun q => absurd q (by decide)⟩
theorem am_f_Ho_ofCount : am_mf 8 := ⟨⟨am_w_rf (c := 1) (i := 194) rfl rfl, (am_w_in (c := 0) (i := 7) (by decide +kernel)), by decide +kernel⟩, fun _ => ⟨(am_w_in (c := 1) (i := 192) (by decide +kernel)), (am_w_in (c := 1) (i := 193) (by decide +kernel))⟩, fun q => absurd q (by decide), fun q => absurd q (by decide)⟩
theorem am_f_Ho_turnedBy : am_mf 9 := ⟨⟨am_w_rf (c := 1) (i := 91) rfl rfl, (am_w_in (c := 0) (i := 7) (by decide +kernel)), by decide +kernel⟩, fun _ => ⟨(am_w_in (c := 1) (i := 89) (by decide +kernel)), (am_w_in (c := 1) (i := 90) (by decide +kernel))⟩, fun q => absurd q (by decide), fun q => absurd q (by decide)⟩
theorem am_f_Ho_faults : am_mf 10 := ⟨⟨am_w_rf (c := 1) (i := 115) rfl rfl, (am_w_in (c := 0) (i := 7) (by decide +kernel)), by decide +kernel⟩, fun _ => ⟨(am_w_in (c := 1) (i := 113) (by decide +kernel)), (am_w_in (c := 1) (i := 114) (by decide +kernel))⟩, fun q => absurd q (by decide), fun q => absurd q (by decide)⟩
theorem am_f_Ho_isFree : am_mf 11 := ⟨⟨am_w_rf (c := 1) (i := 213) rfl rfl, (am_w_in (c := 0) (i := 7) (by decide +kernel)), by decide +kernel⟩, fun _ => ⟨(am_w_in (c := 1) (i := 212) (by decide +kernel)), (am_w_in (c := 6) (i := 7) (by decide +kernel))⟩, fun q => absurd q (by decide), fun q => absurd q (by decide)⟩
theorem am_f_Ho_freeSets : am_mf 12 := ⟨⟨am_w_rf (c := 1) (i := 209) rfl rfl, (am_w_in (c := 0) (i := 7) (by decide +kernel)), by decide +kernel⟩, fun _ => ⟨(am_w_in (c := 1) (i := 207) (by decide +kernel)), (am_w_in (c := 1) (i := 208) (by decide +kernel))⟩, fun q => absurd q (by decide), fun q => absurd q (by decide)⟩
theorem am_f_Ho_leastFree : am_mf 13 := ⟨⟨am_w_rf (c := 1) (i := 217) rfl rfl, (am_w_in (c := 0) (i := 7) (by decide +kernel)), by decide +kernel⟩, fun _ => ⟨(am_w_in (c := 1) (i := 215) (by decide +kernel)), (am_w_in (c := 1) (i := 216) (by decide +kernel))⟩, fun q => absurd q (by decide), fun q => absurd q (by decide)⟩
theorem am_f_Pa_init : am_mf 14 := ⟨⟨am_w_rf (c := 0) (i := 195) rfl rfl, (am_w_in (c := 0) (i := 9) (by decide +kernel)), by decide +kernel⟩, fun q => absurd q (by decide), fun q => absurd q (by decide), fun _ => ⟨(am_w_in (c := 0) (i := 194) (by decide +kernel)), by decide +kernel⟩⟩
theorem am_f_Pa_most : am_mf 15 := ⟨⟨am_w_rf (c := 1) (i := 155) rfl rfl, (am_w_in (c := 0) (i := 9) (by decide +kernel)), by decide +kernel⟩, fun _ => ⟨(am_w_in (c := 1) (i := 153) (by decide +kernel)), (am_w_in (c := 1) (i := 154) (by decide +kernel))⟩, fun q => absurd q (by decide), fun q => absurd q (by decide)⟩
theorem am_f_Pa_solve : am_mf 16 := ⟨⟨am_w_rf (c := 1) (i := 126) rfl rfl, (am_w_in (c := 0) (i := 9) (by decide +kernel)), by decide +kernel⟩, fun _ => ⟨(am_w_in (c := 1) (i := 124) (by decide +kernel)), (am_w_in (c := 1) (i := 125) (by decide +kernel))⟩, fun q => absurd q (by decide), fun q => absurd q (by decide)⟩
theorem am_f_Pa_begin : am_mf 17 := ⟨⟨am_w_rf (c := 1) (i := 130) rfl rfl, (am_w_in (c := 0) (i := 9) (by decide +kernel)), by decide +kernel⟩, fun _ => ⟨(am_w_in (c := 1) (i := 129) (by decide +kernel)), (am_w_in (c := 6) (i := 1) (by decide +kernel))⟩, fun q => absurd q (by decide), fun q => absurd q (by decide)⟩
theorem am_f_Pa_entering : am_mf 18 := ⟨⟨am_w_rf (c := 1) (i := 134) rfl rfl, (am_w_in (c := 0) (i := 9) (by decide +kernel)), by decide +kernel⟩, fun _ => ⟨(am_w_in (c := 1) (i := 133) (by decide +kernel)), (am_w_in (c := 6) (i := 2) (by decide +kernel))⟩, fun q => absurd q (by decide), fun q => absurd q (by decide)⟩
theorem am_f_Pa_leaving : am_mf 19 := ⟨⟨am_w_rf (c := 1) (i := 139) rfl rfl, (am_w_in (c := 0) (i := 9) (by decide +kernel)), by decide +kernel⟩, fun _ => ⟨(am_w_in (c := 1) (i := 138) (by decide +kernel)), (am_w_in (c := 6) (i := 3) (by decide +kernel))⟩, fun q => absurd q (by decide), fun q => absurd q (by decide)⟩
theorem am_f_Pa_isAhead : am_mf 20 := ⟨⟨am_w_rf (c := 1) (i := 143) rfl rfl, (am_w_in (c := 0) (i := 9) (by decide +kernel)), by decide +kernel⟩, fun _ => ⟨(am_w_in (c := 1) (i := 142) (by decide +kernel)), (am_w_in (c := 6) (i := 4) (by decide +kernel))⟩, fun q => absurd q (by decide), fun q => absurd q (by decide)⟩
theorem am_f_Pa_pivot : am_mf 21 := ⟨⟨am_w_rf (c := 1) (i := 147) rfl rfl, (am_w_in (c := 0) (i := 9) (by decide +kernel)), by decide +kernel⟩, fun _ => ⟨(am_w_in (c := 1) (i := 146) (by decide +kernel)), (am_w_in (c := 6) (i := 5) (by decide +kernel))⟩, fun q => absurd q (by decide), fun q => absurd q (by decide)⟩
theorem am_f_Pa_clearBy : am_mf 22 := ⟨⟨am_w_rf (c := 1) (i := 151) rfl rfl, (am_w_in (c := 0) (i := 9) (by decide +kernel)), by decide +kernel⟩, fun _ => ⟨(am_w_in (c := 1) (i := 150) (by decide +kernel)), (am_w_in (c := 6) (i := 6) (by decide +kernel))⟩, fun q => absurd q (by decide), fun q => absurd q (by decide)⟩
theorem am_f_Pl_init : am_mf 23 := ⟨⟨am_w_rf (c := 0) (i := 38) rfl rfl, (am_w_in (c := 0) (i := 3) (by decide +kernel)), by decide +kernel⟩, fun q => absurd q (by decide), fun q => absurd q (by decide), fun _ => ⟨(am_w_in (c := 0) (i := 37) (by decide +kernel)), by decide +kernel⟩⟩
theorem am_f_Pl_becomeAll : am_mf 24 := ⟨⟨am_w_rf (c := 2) (i := 55) rfl rfl, (am_w_in (c := 0) (i := 3) (by decide +kernel)), by decide +kernel⟩, fun _ => ⟨(am_w_in (c := 2) (i := 53) (by decide +kernel)), (am_w_in (c := 2) (i := 54) (by decide +kernel))⟩, fun q => absurd q (by decide), fun q => absurd q (by decide)⟩
theorem am_f_Pl_moveIn : am_mf 25 := ⟨⟨am_w_rf (c := 2) (i := 59) rfl rfl, (am_w_in (c := 0) (i := 3) (by decide +kernel)), by decide +kernel⟩, fun _ => ⟨(am_w_in (c := 2) (i := 58) (by decide +kernel)), (am_w_in (c := 6) (i := 15) (by decide +kernel))⟩, fun q => absurd q (by decide), fun q => absurd q (by decide)⟩
theorem am_f_Pl_placeOf : am_mf 26 := ⟨⟨am_w_rf (c := 1) (i := 169) rfl rfl, (am_w_in (c := 0) (i := 3) (by decide +kernel)), by decide +kernel⟩, fun _ => ⟨(am_w_in (c := 1) (i := 167) (by decide +kernel)), (am_w_in (c := 1) (i := 168) (by decide +kernel))⟩, fun q => absurd q (by decide), fun q => absurd q (by decide)⟩
theorem am_f_Pl_become : am_mf 27 := ⟨⟨am_w_rf (c := 3) (i := 64) rfl rfl, (am_w_in (c := 0) (i := 3) (by decide +kernel)), by decide +kernel⟩, fun _ => ⟨(am_w_in (c := 3) (i := 62) (by decide +kernel)), (am_w_in (c := 3) (i := 63) (by decide +kernel))⟩, fun q => absurd q (by decide), fun q => absurd q (by decide)⟩
theorem am_f_Pl_lose : am_mf 28 := ⟨⟨am_w_rf (c := 3) (i := 69) rfl rfl, (am_w_in (c := 0) (i := 3) (by decide +kernel)), by decide +kernel⟩, fun _ => ⟨(am_w_in (c := 3) (i := 68) (by decide +kernel)), (am_w_in (c := 6) (i := 34) (by decide +kernel))⟩, fun q => absurd q (by decide), fun q => absurd q (by decide)⟩
theorem am_f_Pl_weightOn : am_mf 29 := ⟨⟨am_w_rf (c := 1) (i := 174) rfl rfl, (am_w_in (c := 0) (i := 3) (by decide +kernel)), by decide +kernel⟩, fun _ => ⟨(am_w_in (c := 1) (i := 172) (by decide +kernel)), (am_w_in (c := 1) (i := 173) (by decide +kernel))⟩, fun q => absurd q (by decide), fun q => absurd q (by decide)⟩
theorem am_f_Pl_greatestWeight : am_mf 30 := ⟨⟨am_w_rf (c := 1) (i := 182) rfl rfl, (am_w_in (c := 0) (i := 3) (by decide +kernel)), by decide +kernel⟩, fun _ => ⟨(am_w_in (c := 1) (i := 180) (by decide +kernel)), (am_w_in (c := 1) (i := 181) (by decide +kernel))⟩, fun q => absurd q (by decide), fun q => absurd q (by decide)⟩
theorem am_f_Pr_init : am_mf 31 := ⟨⟨am_w_rf (c := 0) (i := 170) rfl rfl, (am_w_in (c := 0) (i := 8) (by decide +kernel)), by decide +kernel⟩, fun q => absurd q (by decide), fun q => absurd q (by decide), fun _ => ⟨(am_w_in (c := 0) (i := 169) (by decide +kernel)), by decide +kernel⟩⟩
theorem am_f_Pr_play : am_mf 32 := ⟨⟨am_w_rf (c := 1) (i := 230) rfl rfl, (am_w_in (c := 0) (i := 8) (by decide +kernel)), by decide +kernel⟩, fun _ => ⟨(am_w_in (c := 1) (i := 228) (by decide +kernel)), (am_w_in (c := 1) (i := 229) (by decide +kernel))⟩, fun q => absurd q (by decide), fun q => absurd q (by decide)⟩
theorem am_f_Pr_playLost : am_mf 33 := ⟨⟨am_w_rf (c := 1) (i := 239) rfl rfl, (am_w_in (c := 0) (i := 8) (by decide +kernel)), by decide +kernel⟩, fun _ => ⟨(am_w_in (c := 1) (i := 238) (by decide +kernel)), (am_w_in (c := 6) (i := 9) (by decide +kernel))⟩, fun q => absurd q (by decide), fun q => absurd q (by decide)⟩
theorem am_f_Pr_placeOf : am_mf 34 := ⟨⟨am_w_rf (c := 2) (i := 3) rfl rfl, (am_w_in (c := 0) (i := 8) (by decide +kernel)), by decide +kernel⟩, fun _ => ⟨(am_w_in (c := 2) (i := 2) (by decide +kernel)), (am_w_in (c := 6) (i := 10) (by decide +kernel))⟩, fun q => absurd q (by decide), fun q => absurd q (by decide)⟩
theorem am_f_Pr_openOf : am_mf 35 := ⟨⟨am_w_rf (c := 1) (i := 235) rfl rfl, (am_w_in (c := 0) (i := 8) (by decide +kernel)), by decide +kernel⟩, fun _ => ⟨(am_w_in (c := 1) (i := 234) (by decide +kernel)), (am_w_in (c := 6) (i := 8) (by decide +kernel))⟩, fun q => absurd q (by decide), fun q => absurd q (by decide)⟩
theorem am_f_Pr_isOver : am_mf 36 := ⟨⟨am_w_rf (c := 2) (i := 11) rfl rfl, (am_w_in (c := 0) (i := 8) (by decide +kernel)), by decide +kernel⟩, fun _ => ⟨(am_w_in (c := 2) (i := 10) (by decide +kernel)), (am_w_in (c := 6) (i := 12) (by decide +kernel))⟩, fun q => absurd q (by decide), fun q => absurd q (by decide)⟩
theorem am_f_Pr_probesFrom : am_mf 37 := ⟨⟨am_w_rf (c := 2) (i := 7) rfl rfl, (am_w_in (c := 0) (i := 8) (by decide +kernel)), by decide +kernel⟩, fun _ => ⟨(am_w_in (c := 2) (i := 6) (by decide +kernel)), (am_w_in (c := 6) (i := 11) (by decide +kernel))⟩, fun q => absurd q (by decide), fun q => absurd q (by decide)⟩
theorem am_f_Pr_probesBy : am_mf 38 := ⟨⟨am_w_rf (c := 2) (i := 15) rfl rfl, (am_w_in (c := 0) (i := 8) (by decide +kernel)), by decide +kernel⟩, fun _ => ⟨(am_w_in (c := 2) (i := 14) (by decide +kernel)), (am_w_in (c := 6) (i := 13) (by decide +kernel))⟩, fun q => absurd q (by decide), fun q => absurd q (by decide)⟩
theorem am_f_Pr_worst : am_mf 39 := ⟨⟨am_w_rf (c := 2) (i := 21) rfl rfl, (am_w_in (c := 0) (i := 8) (by decide +kernel)), by decide +kernel⟩, fun _ => ⟨(am_w_in (c := 2) (i := 19) (by decide +kernel)), (am_w_in (c := 2) (i := 20) (by decide +kernel))⟩, fun q => absurd q (by decide), fun q => absurd q (by decide)⟩
theorem am_f_Pr_best : am_mf 40 := ⟨⟨am_w_rf (c := 2) (i := 25) rfl rfl, (am_w_in (c := 0) (i := 8) (by decide +kernel)), by decide +kernel⟩, fun _ => ⟨(am_w_in (c := 2) (i := 23) (by decide +kernel)), (am_w_in (c := 2) (i := 24) (by decide +kernel))⟩, fun q => absurd q (by decide), fun q => absurd q (by decide)⟩
theorem am_f_Re_init : am_mf 41 := ⟨⟨am_w_rf (c := 0) (i := 107) rfl rfl, (am_w_in (c := 0) (i := 5) (by decide +kernel)), by decide +kernel⟩, fun q => absurd q (by decide), fun q => absurd q (by decide), fun _ => ⟨(am_w_in (c := 0) (i := 106) (by decide +kernel)), by decide +kernel⟩⟩
theorem am_f_Re_faultOfTape : am_mf 42 := ⟨⟨am_w_rf (c := 2) (i := 96) rfl rfl, (am_w_in (c := 0) (i := 5) (by decide +kernel)), by decide +kernel⟩, fun _ => ⟨(am_w_in (c := 2) (i := 94) (by decide +kernel)), (am_w_in (c := 2) (i := 95) (by decide +kernel))⟩, fun q => absurd q (by decide), fun q => absurd q (by decide)⟩
theorem am_f_Re_faultUnless : am_mf 43 := ⟨⟨am_w_rf (c := 2) (i := 186) rfl rfl, (am_w_in (c := 0) (i := 5) (by decide +kernel)), by decide +kernel⟩, fun _ => ⟨(am_w_in (c := 2) (i := 185) (by decide +kernel)), (am_w_in (c := 6) (i := 24) (by decide +kernel))⟩, fun q => absurd q (by decide), fun q => absurd q (by decide)⟩
theorem am_f_Re_skipName : am_mf 44 := ⟨⟨am_w_rf (c := 2) (i := 108) rfl rfl, (am_w_in (c := 0) (i := 5) (by decide +kernel)), by decide +kernel⟩, fun _ => ⟨(am_w_in (c := 2) (i := 107) (by decide +kernel)), (am_w_in (c := 6) (i := 17) (by decide +kernel))⟩, fun q => absurd q (by decide), fun q => absurd q (by decide)⟩
theorem am_f_Re_isName : am_mf 45 := ⟨⟨am_w_rf (c := 2) (i := 113) rfl rfl, (am_w_in (c := 0) (i := 5) (by decide +kernel)), by decide +kernel⟩, fun _ => ⟨(am_w_in (c := 2) (i := 112) (by decide +kernel)), (am_w_in (c := 6) (i := 18) (by decide +kernel))⟩, fun q => absurd q (by decide), fun q => absurd q (by decide)⟩
theorem am_f_Re_next : am_mf 46 := ⟨⟨am_w_rf (c := 2) (i := 100) rfl rfl, (am_w_in (c := 0) (i := 5) (by decide +kernel)), by decide +kernel⟩, fun _ => ⟨(am_w_in (c := 2) (i := 99) (by decide +kernel)), (am_w_in (c := 6) (i := 16) (by decide +kernel))⟩, fun q => absurd q (by decide), fun q => absurd q (by decide)⟩
theorem am_f_Re_skips : am_mf 47 := ⟨⟨am_w_rf (c := 2) (i := 195) rfl rfl, (am_w_in (c := 0) (i := 5) (by decide +kernel)), by decide +kernel⟩, fun _ => ⟨(am_w_in (c := 2) (i := 194) (by decide +kernel)), (am_w_in (c := 6) (i := 26) (by decide +kernel))⟩, fun q => absurd q (by decide), fun q => absurd q (by decide)⟩
theorem am_f_Re_figure : am_mf 48 := ⟨⟨am_w_rf (c := 2) (i := 169) rfl rfl, (am_w_in (c := 0) (i := 5) (by decide +kernel)), by decide +kernel⟩, fun _ => ⟨(am_w_in (c := 2) (i := 168) (by decide +kernel)), (am_w_in (c := 6) (i := 20) (by decide +kernel))⟩, fun q => absurd q (by decide), fun q => absurd q (by decide)⟩
theorem am_f_Re_ends : am_mf 49 := ⟨⟨am_w_rf (c := 2) (i := 173) rfl rfl, (am_w_in (c := 0) (i := 5) (by decide +kernel)), by decide +kernel⟩, fun _ => ⟨(am_w_in (c := 2) (i := 172) (by decide +kernel)), (am_w_in (c := 6) (i := 21) (by decide +kernel))⟩, fun q => absurd q (by decide), fun q => absurd q (by decide)⟩
theorem am_f_Re_isTold : am_mf 50 := ⟨⟨am_w_rf (c := 2) (i := 182) rfl rfl, (am_w_in (c := 0) (i := 5) (by decide +kernel)), by decide +kernel⟩, fun _ => ⟨(am_w_in (c := 2) (i := 181) (by decide +kernel)), (am_w_in (c := 6) (i := 23) (by decide +kernel))⟩, fun q => absurd q (by decide), fun q => absurd q (by decide)⟩
theorem am_f_Re_tell : am_mf 51 := ⟨⟨am_w_rf (c := 2) (i := 178) rfl rfl, (am_w_in (c := 0) (i := 5) (by decide +kernel)), by decide +kernel⟩, fun _ => ⟨(am_w_in (c := 2) (i := 177) (by decide +kernel)), (am_w_in (c := 6) (i := 22) (by decide +kernel))⟩, fun q => absurd q (by decide), fun q => absurd q (by decide)⟩
theorem am_f_Re_majority : am_mf 52 := ⟨⟨am_w_rf (c := 2) (i := 165) rfl rfl, (am_w_in (c := 0) (i := 5) (by decide +kernel)), by decide +kernel⟩, fun _ => ⟨(am_w_in (c := 2) (i := 164) (by decide +kernel)), (am_w_in (c := 6) (i := 19) (by decide +kernel))⟩, fun q => absurd q (by decide), fun q => absurd q (by decide)⟩
theorem am_f_Re_grid : am_mf 53 := ⟨⟨am_w_rf (c := 2) (i := 191) rfl rfl, (am_w_in (c := 0) (i := 5) (by decide +kernel)), by decide +kernel⟩, fun _ => ⟨(am_w_in (c := 2) (i := 190) (by decide +kernel)), (am_w_in (c := 6) (i := 25) (by decide +kernel))⟩, fun q => absurd q (by decide), fun q => absurd q (by decide)⟩
theorem am_f_Re_wallRow : am_mf 54 := ⟨⟨am_w_rf (c := 2) (i := 199) rfl rfl, (am_w_in (c := 0) (i := 5) (by decide +kernel)), by decide +kernel⟩, fun q => absurd q (by decide), fun _ => (am_w_in (c := 2) (i := 198) (by decide +kernel)), fun q => absurd q (by decide)⟩
theorem am_f_Re_wall : am_mf 55 := ⟨⟨am_w_rf (c := 2) (i := 204) rfl rfl, (am_w_in (c := 0) (i := 5) (by decide +kernel)), by decide +kernel⟩, fun _ => ⟨(am_w_in (c := 2) (i := 203) (by decide +kernel)), (am_w_in (c := 6) (i := 27) (by decide +kernel))⟩, fun q => absurd q (by decide), fun q => absurd q (by decide)⟩
theorem am_f_Re_isWallTold : am_mf 56 := ⟨⟨am_w_rf (c := 2) (i := 208) rfl rfl, (am_w_in (c := 0) (i := 5) (by decide +kernel)), by decide +kernel⟩, fun _ => ⟨(am_w_in (c := 2) (i := 207) (by decide +kernel)), (am_w_in (c := 6) (i := 28) (by decide +kernel))⟩, fun q => absurd q (by decide), fun q => absurd q (by decide)⟩
theorem am_f_Re_waysBelow : am_mf 57 := ⟨⟨am_w_rf (c := 2) (i := 212) rfl rfl, (am_w_in (c := 0) (i := 5) (by decide +kernel)), by decide +kernel⟩, fun _ => ⟨(am_w_in (c := 2) (i := 211) (by decide +kernel)), (am_w_in (c := 6) (i := 29) (by decide +kernel))⟩, fun q => absurd q (by decide), fun q => absurd q (by decide)⟩
theorem am_f_Re_chosenBelow : am_mf 58 := ⟨⟨am_w_rf (c := 2) (i := 216) rfl rfl, (am_w_in (c := 0) (i := 5) (by decide +kernel)), by decide +kernel⟩, fun _ => ⟨(am_w_in (c := 2) (i := 215) (by decide +kernel)), (am_w_in (c := 6) (i := 30) (by decide +kernel))⟩, fun q => absurd q (by decide), fun q => absurd q (by decide)⟩
theorem am_f_Re_plane : am_mf 59 := ⟨⟨am_w_rf (c := 2) (i := 221) rfl rfl, (am_w_in (c := 0) (i := 5) (by decide +kernel)), by decide +kernel⟩, fun _ => ⟨(am_w_in (c := 2) (i := 220) (by decide +kernel)), (am_w_in (c := 6) (i := 31) (by decide +kernel))⟩, fun q => absurd q (by decide), fun q => absurd q (by decide)⟩
theorem am_f_Re_figures : am_mf 60 := ⟨⟨am_w_rf (c := 2) (i := 226) rfl rfl, (am_w_in (c := 0) (i := 5) (by decide +kernel)), by decide +kernel⟩, fun _ => ⟨(am_w_in (c := 2) (i := 225) (by decide +kernel)), (am_w_in (c := 6) (i := 32) (by decide +kernel))⟩, fun q => absurd q (by decide), fun q => absurd q (by decide)⟩
theorem am_f_Re_isGroupTold : am_mf 61 := ⟨⟨am_w_rf (c := 2) (i := 230) rfl rfl, (am_w_in (c := 0) (i := 5) (by decide +kernel)), by decide +kernel⟩, fun _ => ⟨(am_w_in (c := 2) (i := 229) (by decide +kernel)), (am_w_in (c := 6) (i := 33) (by decide +kernel))⟩, fun q => absurd q (by decide), fun q => absurd q (by decide)⟩
theorem am_f_Ro_init : am_mf 62 := ⟨⟨am_w_rf (c := 0) (i := 222) rfl rfl, (am_w_in (c := 0) (i := 10) (by decide +kernel)), by decide +kernel⟩, fun q => absurd q (by decide), fun q => absurd q (by decide), fun _ => ⟨(am_w_in (c := 0) (i := 221) (by decide +kernel)), by decide +kernel⟩⟩
theorem am_f_Ro_takes : am_mf 63 := ⟨⟨am_w_rf (c := 3) (i := 55) rfl rfl, (am_w_in (c := 0) (i := 10) (by decide +kernel)), by decide +kernel⟩, fun _ => ⟨(am_w_in (c := 3) (i := 53) (by decide +kernel)), (am_w_in (c := 3) (i := 54) (by decide +kernel))⟩, fun q => absurd q (by decide), fun q => absurd q (by decide)⟩
theorem am_f_Ro_nature : am_mf 64 := ⟨⟨am_w_rf (c := 3) (i := 77) rfl rfl, (am_w_in (c := 0) (i := 10) (by decide +kernel)), by decide +kernel⟩, fun _ => ⟨(am_w_in (c := 3) (i := 75) (by decide +kernel)), (am_w_in (c := 3) (i := 76) (by decide +kernel))⟩, fun q => absurd q (by decide), fun q => absurd q (by decide)⟩
theorem am_f_Ro_anyTwoMeet : am_mf 65 := ⟨⟨am_w_rf (c := 3) (i := 81) rfl rfl, (am_w_in (c := 0) (i := 10) (by decide +kernel)), by decide +kernel⟩, fun _ => ⟨(am_w_in (c := 3) (i := 80) (by decide +kernel)), (am_w_in (c := 6) (i := 35) (by decide +kernel))⟩, fun q => absurd q (by decide), fun q => absurd q (by decide)⟩
theorem am_f_Ro_isNonePart : am_mf 66 := ⟨⟨am_w_rf (c := 3) (i := 85) rfl rfl, (am_w_in (c := 0) (i := 10) (by decide +kernel)), by decide +kernel⟩, fun _ => ⟨(am_w_in (c := 3) (i := 84) (by decide +kernel)), (am_w_in (c := 6) (i := 36) (by decide +kernel))⟩, fun q => absurd q (by decide), fun q => absurd q (by decide)⟩
theorem am_f_Ro_isOneCount : am_mf 67 := ⟨⟨am_w_rf (c := 3) (i := 89) rfl rfl, (am_w_in (c := 0) (i := 10) (by decide +kernel)), by decide +kernel⟩, fun _ => ⟨(am_w_in (c := 3) (i := 88) (by decide +kernel)), (am_w_in (c := 6) (i := 37) (by decide +kernel))⟩, fun q => absurd q (by decide), fun q => absurd q (by decide)⟩
theorem am_f_Ro_isEven : am_mf 68 := ⟨⟨am_w_rf (c := 3) (i := 94) rfl rfl, (am_w_in (c := 0) (i := 10) (by decide +kernel)), by decide +kernel⟩, fun _ => ⟨(am_w_in (c := 3) (i := 93) (by decide +kernel)), (am_w_in (c := 6) (i := 38) (by decide +kernel))⟩, fun q => absurd q (by decide), fun q => absurd q (by decide)⟩
theorem am_f_Ro_timesOf : am_mf 69 := ⟨⟨am_w_rf (c := 3) (i := 98) rfl rfl, (am_w_in (c := 0) (i := 10) (by decide +kernel)), by decide +kernel⟩, fun _ => ⟨(am_w_in (c := 3) (i := 97) (by decide +kernel)), (am_w_in (c := 6) (i := 39) (by decide +kernel))⟩, fun q => absurd q (by decide), fun q => absurd q (by decide)⟩
theorem am_f_Ro_isJustGroups : am_mf 70 := ⟨⟨am_w_rf (c := 3) (i := 102) rfl rfl, (am_w_in (c := 0) (i := 10) (by decide +kernel)), by decide +kernel⟩, fun _ => ⟨(am_w_in (c := 3) (i := 101) (by decide +kernel)), (am_w_in (c := 6) (i := 40) (by decide +kernel))⟩, fun q => absurd q (by decide), fun q => absurd q (by decide)⟩
theorem am_f_Sh_init : am_mf 71 := ⟨⟨am_w_rf (c := 0) (i := 237) rfl rfl, (am_w_in (c := 0) (i := 11) (by decide +kernel)), by decide +kernel⟩, fun q => absurd q (by decide), fun q => absurd q (by decide), fun _ => ⟨(am_w_in (c := 0) (i := 236) (by decide +kernel)), by decide +kernel⟩⟩
theorem am_f_Sh_begin : am_mf 72 := ⟨⟨am_w_rf (c := 3) (i := 123) rfl rfl, (am_w_in (c := 0) (i := 11) (by decide +kernel)), by decide +kernel⟩, fun _ => ⟨(am_w_in (c := 3) (i := 121) (by decide +kernel)), (am_w_in (c := 3) (i := 122) (by decide +kernel))⟩, fun q => absurd q (by decide), fun q => absurd q (by decide)⟩
theorem am_f_Sh_spans : am_mf 73 := ⟨⟨am_w_rf (c := 3) (i := 51) rfl rfl, (am_w_in (c := 0) (i := 11) (by decide +kernel)), by decide +kernel⟩, fun _ => ⟨(am_w_in (c := 3) (i := 49) (by decide +kernel)), (am_w_in (c := 3) (i := 50) (by decide +kernel))⟩, fun q => absurd q (by decide), fun q => absurd q (by decide)⟩
theorem am_f_Sh_refusal : am_mf 74 := ⟨⟨am_w_rf (c := 3) (i := 47) rfl rfl, (am_w_in (c := 0) (i := 11) (by decide +kernel)), by decide +kernel⟩, fun _ => ⟨(am_w_in (c := 3) (i := 45) (by decide +kernel)), (am_w_in (c := 3) (i := 46) (by decide +kernel))⟩, fun q => absurd q (by decide), fun q => absurd q (by decide)⟩
theorem am_f_Sh_at : am_mf 75 := ⟨⟨am_w_rf (c := 3) (i := 60) rfl rfl, (am_w_in (c := 0) (i := 11) (by decide +kernel)), by decide +kernel⟩, fun _ => ⟨(am_w_in (c := 3) (i := 58) (by decide +kernel)), (am_w_in (c := 3) (i := 59) (by decide +kernel))⟩, fun q => absurd q (by decide), fun q => absurd q (by decide)⟩
theorem am_f_Sh_put : am_mf 76 := ⟨⟨am_w_rf (c := 3) (i := 111) rfl rfl, (am_w_in (c := 0) (i := 11) (by decide +kernel)), by decide +kernel⟩, fun _ => ⟨(am_w_in (c := 3) (i := 109) (by decide +kernel)), (am_w_in (c := 3) (i := 110) (by decide +kernel))⟩, fun q => absurd q (by decide), fun q => absurd q (by decide)⟩
theorem am_f_Sh_lowestBits : am_mf 77 := ⟨⟨am_w_rf (c := 3) (i := 115) rfl rfl, (am_w_in (c := 0) (i := 11) (by decide +kernel)), by decide +kernel⟩, fun _ => ⟨(am_w_in (c := 3) (i := 114) (by decide +kernel)), (am_w_in (c := 6) (i := 41) (by decide +kernel))⟩, fun q => absurd q (by decide), fun q => absurd q (by decide)⟩
theorem am_f_St_init : am_mf 78 := ⟨⟨am_w_rf (c := 0) (i := 32) rfl rfl, (am_w_in (c := 0) (i := 2) (by decide +kernel)), by decide +kernel⟩, fun q => absurd q (by decide), fun q => absurd q (by decide), fun _ => ⟨(am_w_in (c := 0) (i := 31) (by decide +kernel)), by decide +kernel⟩⟩
theorem am_f_St_becomes : am_mf 79 := ⟨⟨am_w_rf (c := 2) (i := 48) rfl rfl, (am_w_in (c := 0) (i := 2) (by decide +kernel)), by decide +kernel⟩, fun _ => ⟨(am_w_in (c := 2) (i := 46) (by decide +kernel)), (am_w_in (c := 2) (i := 47) (by decide +kernel))⟩, fun q => absurd q (by decide), fun q => absurd q (by decide)⟩
theorem am_f_St_becomesTold : am_mf 80 := ⟨⟨am_w_rf (c := 2) (i := 234) rfl rfl, (am_w_in (c := 0) (i := 2) (by decide +kernel)), by decide +kernel⟩, fun _ => ⟨(am_w_in (c := 2) (i := 232) (by decide +kernel)), (am_w_in (c := 2) (i := 233) (by decide +kernel))⟩, fun q => absurd q (by decide), fun q => absurd q (by decide)⟩
theorem am_f_St_all : am_mf 81 := ⟨⟨am_w_rf (c := 1) (i := 83) rfl rfl, (am_w_in (c := 0) (i := 2) (by decide +kernel)), by decide +kernel⟩, fun _ => ⟨(am_w_in (c := 1) (i := 81) (by decide +kernel)), (am_w_in (c := 1) (i := 82) (by decide +kernel))⟩, fun q => absurd q (by decide), fun q => absurd q (by decide)⟩
theorem am_f_St_isPart : am_mf 82 := ⟨⟨am_w_rf (c := 1) (i := 225) rfl rfl, (am_w_in (c := 0) (i := 2) (by decide +kernel)), by decide +kernel⟩, fun _ => ⟨(am_w_in (c := 1) (i := 223) (by decide +kernel)), (am_w_in (c := 1) (i := 224) (by decide +kernel))⟩, fun q => absurd q (by decide), fun q => absurd q (by decide)⟩
theorem am_f_St_isSet : am_mf 83 := ⟨⟨am_w_rf (c := 2) (i := 34) rfl rfl, (am_w_in (c := 0) (i := 2) (by decide +kernel)), by decide +kernel⟩, fun _ => ⟨(am_w_in (c := 2) (i := 32) (by decide +kernel)), (am_w_in (c := 2) (i := 33) (by decide +kernel))⟩, fun q => absurd q (by decide), fun q => absurd q (by decide)⟩
theorem am_f_St_hasBeyond : am_mf 84 := ⟨⟨am_w_rf (c := 2) (i := 80) rfl rfl, (am_w_in (c := 0) (i := 2) (by decide +kernel)), by decide +kernel⟩, fun _ => ⟨(am_w_in (c := 2) (i := 78) (by decide +kernel)), (am_w_in (c := 2) (i := 79) (by decide +kernel))⟩, fun q => absurd q (by decide), fun q => absurd q (by decide)⟩
theorem am_f_St_placeOf : am_mf 85 := ⟨⟨am_w_rf (c := 1) (i := 178) rfl rfl, (am_w_in (c := 0) (i := 2) (by decide +kernel)), by decide +kernel⟩, fun _ => ⟨(am_w_in (c := 1) (i := 176) (by decide +kernel)), (am_w_in (c := 1) (i := 177) (by decide +kernel))⟩, fun q => absurd q (by decide), fun q => absurd q (by decide)⟩
theorem am_f_St_append : am_mf 86 := ⟨⟨am_w_rf (c := 2) (i := 64) rfl rfl, (am_w_in (c := 0) (i := 2) (by decide +kernel)), by decide +kernel⟩, fun _ => ⟨(am_w_in (c := 2) (i := 62) (by decide +kernel)), (am_w_in (c := 2) (i := 63) (by decide +kernel))⟩, fun q => absurd q (by decide), fun q => absurd q (by decide)⟩
theorem am_f_St_removeAt : am_mf 87 := ⟨⟨am_w_rf (c := 2) (i := 72) rfl rfl, (am_w_in (c := 0) (i := 2) (by decide +kernel)), by decide +kernel⟩, fun _ => ⟨(am_w_in (c := 2) (i := 70) (by decide +kernel)), (am_w_in (c := 2) (i := 71) (by decide +kernel))⟩, fun q => absurd q (by decide), fun q => absurd q (by decide)⟩
theorem am_f_St_drawTurn : am_mf 88 := ⟨⟨am_w_rf (c := 3) (i := 2) rfl rfl, (am_w_in (c := 0) (i := 2) (by decide +kernel)), by decide +kernel⟩, fun _ => ⟨(am_w_in (c := 3) (i := 0) (by decide +kernel)), (am_w_in (c := 3) (i := 1) (by decide +kernel))⟩, fun q => absurd q (by decide), fun q => absurd q (by decide)⟩
theorem am_f_St_holdsGroup : am_mf 89 := ⟨⟨am_w_rf (c := 1) (i := 87) rfl rfl, (am_w_in (c := 0) (i := 2) (by decide +kernel)), by decide +kernel⟩, fun _ => ⟨(am_w_in (c := 1) (i := 85) (by decide +kernel)), (am_w_in (c := 1) (i := 86) (by decide +kernel))⟩, fun q => absurd q (by decide), fun q => absurd q (by decide)⟩
theorem am_f_St_isSuperfluous : am_mf 90 := ⟨⟨am_w_rf (c := 1) (i := 58) rfl rfl, (am_w_in (c := 0) (i := 2) (by decide +kernel)), by decide +kernel⟩, fun _ => ⟨(am_w_in (c := 1) (i := 56) (by decide +kernel)), (am_w_in (c := 1) (i := 57) (by decide +kernel))⟩, fun q => absurd q (by decide), fun q => absurd q (by decide)⟩
theorem am_f_St_leastCommonOf : am_mf 91 := ⟨⟨am_w_rf (c := 1) (i := 65) rfl rfl, (am_w_in (c := 0) (i := 2) (by decide +kernel)), by decide +kernel⟩, fun _ => ⟨(am_w_in (c := 1) (i := 63) (by decide +kernel)), (am_w_in (c := 1) (i := 64) (by decide +kernel))⟩, fun q => absurd q (by decide), fun q => absurd q (by decide)⟩
theorem am_f_St_groupsWith : am_mf 92 := ⟨⟨am_w_rf (c := 1) (i := 95) rfl rfl, (am_w_in (c := 0) (i := 2) (by decide +kernel)), by decide +kernel⟩, fun _ => ⟨(am_w_in (c := 1) (i := 93) (by decide +kernel)), (am_w_in (c := 1) (i := 94) (by decide +kernel))⟩, fun q => absurd q (by decide), fun q => absurd q (by decide)⟩
theorem am_f_St_common : am_mf 93 := ⟨⟨am_w_rf (c := 1) (i := 104) rfl rfl, (am_w_in (c := 0) (i := 2) (by decide +kernel)), by decide +kernel⟩, fun _ => ⟨(am_w_in (c := 1) (i := 102) (by decide +kernel)), (am_w_in (c := 1) (i := 103) (by decide +kernel))⟩, fun q => absurd q (by decide), fun q => absurd q (by decide)⟩
theorem am_f_Ta_init : am_mf 94 := ⟨⟨am_w_rf (c := 0) (i := 113) rfl rfl, (am_w_in (c := 0) (i := 6) (by decide +kernel)), by decide +kernel⟩, fun q => absurd q (by decide), fun q => absurd q (by decide), fun _ => ⟨(am_w_in (c := 0) (i := 112) (by decide +kernel)), by decide +kernel⟩⟩
theorem am_f_Ta_append : am_mf 95 := ⟨⟨am_w_rf (c := 2) (i := 88) rfl rfl, (am_w_in (c := 0) (i := 6) (by decide +kernel)), by decide +kernel⟩, fun _ => ⟨(am_w_in (c := 2) (i := 86) (by decide +kernel)), (am_w_in (c := 2) (i := 87) (by decide +kernel))⟩, fun q => absurd q (by decide), fun q => absurd q (by decide)⟩
theorem am_f_Ta_at : am_mf 96 := ⟨⟨am_w_rf (c := 2) (i := 104) rfl rfl, (am_w_in (c := 0) (i := 6) (by decide +kernel)), by decide +kernel⟩, fun _ => ⟨(am_w_in (c := 2) (i := 102) (by decide +kernel)), (am_w_in (c := 2) (i := 103) (by decide +kernel))⟩, fun q => absurd q (by decide), fun q => absurd q (by decide)⟩
theorem am_f_MG_init : am_mf 97 := ⟨⟨am_w_rf (c := 0) (i := 24) rfl rfl, (am_w_in (c := 0) (i := 1) (by decide +kernel)), by decide +kernel⟩, fun q => absurd q (by decide), fun q => absurd q (by decide), fun _ => ⟨(am_w_in (c := 0) (i := 23) (by decide +kernel)), by decide +kernel⟩⟩
theorem am_f_MG_group : am_mf 98 := ⟨⟨am_w_rf (c := 1) (i := 54) rfl rfl, (am_w_in (c := 0) (i := 1) (by decide +kernel)), by decide +kernel⟩, fun _ => ⟨(am_w_in (c := 1) (i := 52) (by decide +kernel)), (am_w_in (c := 1) (i := 53) (by decide +kernel))⟩, fun q => absurd q (by decide), fun q => absurd q (by decide)⟩
theorem am_f_MG_element : am_mf 99 := ⟨⟨am_w_rf (c := 1) (i := 75) rfl rfl, (am_w_in (c := 0) (i := 1) (by decide +kernel)), by decide +kernel⟩, fun _ => ⟨(am_w_in (c := 1) (i := 73) (by decide +kernel)), (am_w_in (c := 1) (i := 74) (by decide +kernel))⟩, fun q => absurd q (by decide), fun q => absurd q (by decide)⟩
theorem am_f_MG_count : am_mf 100 := ⟨⟨am_w_rf (c := 1) (i := 100) rfl rfl, (am_w_in (c := 0) (i := 1) (by decide +kernel)), by decide +kernel⟩, fun _ => ⟨(am_w_in (c := 1) (i := 98) (by decide +kernel)), (am_w_in (c := 1) (i := 99) (by decide +kernel))⟩, fun q => absurd q (by decide), fun q => absurd q (by decide)⟩
theorem am_f_MG_load : am_mf 101 := ⟨⟨am_w_rf (c := 1) (i := 122) rfl rfl, (am_w_in (c := 0) (i := 1) (by decide +kernel)), by decide +kernel⟩, fun _ => ⟨(am_w_in (c := 1) (i := 120) (by decide +kernel)), (am_w_in (c := 1) (i := 121) (by decide +kernel))⟩, fun q => absurd q (by decide), fun q => absurd q (by decide)⟩
theorem am_f_MG_plan : am_mf 102 := ⟨⟨am_w_rf (c := 1) (i := 165) rfl rfl, (am_w_in (c := 0) (i := 1) (by decide +kernel)), by decide +kernel⟩, fun _ => ⟨(am_w_in (c := 1) (i := 163) (by decide +kernel)), (am_w_in (c := 1) (i := 164) (by decide +kernel))⟩, fun q => absurd q (by decide), fun q => absurd q (by decide)⟩
theorem am_f_MG_standing : am_mf 103 := ⟨⟨am_w_rf (c := 1) (i := 190) rfl rfl, (am_w_in (c := 0) (i := 1) (by decide +kernel)), by decide +kernel⟩, fun _ => ⟨(am_w_in (c := 1) (i := 188) (by decide +kernel)), (am_w_in (c := 1) (i := 189) (by decide +kernel))⟩, fun q => absurd q (by decide), fun q => absurd q (by decide)⟩
theorem am_f_MG_stands : am_mf 104 := ⟨⟨am_w_rf (c := 1) (i := 198) rfl rfl, (am_w_in (c := 0) (i := 1) (by decide +kernel)), by decide +kernel⟩, fun _ => ⟨(am_w_in (c := 1) (i := 196) (by decide +kernel)), (am_w_in (c := 1) (i := 197) (by decide +kernel))⟩, fun q => absurd q (by decide), fun q => absurd q (by decide)⟩
theorem am_f_MG_free : am_mf 105 := ⟨⟨am_w_rf (c := 1) (i := 205) rfl rfl, (am_w_in (c := 0) (i := 1) (by decide +kernel)), by decide +kernel⟩, fun _ => ⟨(am_w_in (c := 1) (i := 203) (by decide +kernel)), (am_w_in (c := 1) (i := 204) (by decide +kernel))⟩, fun q => absurd q (by decide), fun q => absurd q (by decide)⟩
theorem am_f_MG_probe : am_mf 106 := ⟨⟨am_w_rf (c := 1) (i := 221) rfl rfl, (am_w_in (c := 0) (i := 1) (by decide +kernel)), by decide +kernel⟩, fun _ => ⟨(am_w_in (c := 1) (i := 219) (by decide +kernel)), (am_w_in (c := 1) (i := 220) (by decide +kernel))⟩, fun q => absurd q (by decide), fun q => absurd q (by decide)⟩
theorem am_f_MG_add : am_mf 107 := ⟨⟨am_w_rf (c := 2) (i := 30) rfl rfl, (am_w_in (c := 0) (i := 1) (by decide +kernel)), by decide +kernel⟩, fun _ => ⟨(am_w_in (c := 2) (i := 28) (by decide +kernel)), (am_w_in (c := 2) (i := 29) (by decide +kernel))⟩, fun q => absurd q (by decide), fun q => absurd q (by decide)⟩
theorem am_f_MG_out : am_mf 108 := ⟨⟨am_w_rf (c := 2) (i := 68) rfl rfl, (am_w_in (c := 0) (i := 1) (by decide +kernel)), by decide +kernel⟩, fun _ => ⟨(am_w_in (c := 2) (i := 66) (by decide +kernel)), (am_w_in (c := 2) (i := 67) (by decide +kernel))⟩, fun q => absurd q (by decide), fun q => absurd q (by decide)⟩
theorem am_f_MG_size : am_mf 109 := ⟨⟨am_w_rf (c := 2) (i := 76) rfl rfl, (am_w_in (c := 0) (i := 1) (by decide +kernel)), by decide +kernel⟩, fun _ => ⟨(am_w_in (c := 2) (i := 74) (by decide +kernel)), (am_w_in (c := 2) (i := 75) (by decide +kernel))⟩, fun q => absurd q (by decide), fun q => absurd q (by decide)⟩
theorem am_f_MG_type : am_mf 110 := ⟨⟨am_w_rf (c := 2) (i := 84) rfl rfl, (am_w_in (c := 0) (i := 1) (by decide +kernel)), by decide +kernel⟩, fun _ => ⟨(am_w_in (c := 2) (i := 82) (by decide +kernel)), (am_w_in (c := 2) (i := 83) (by decide +kernel))⟩, fun q => absurd q (by decide), fun q => absurd q (by decide)⟩
theorem am_f_MG_read : am_mf 111 := ⟨⟨am_w_rf (c := 2) (i := 92) rfl rfl, (am_w_in (c := 0) (i := 1) (by decide +kernel)), by decide +kernel⟩, fun _ => ⟨(am_w_in (c := 2) (i := 90) (by decide +kernel)), (am_w_in (c := 2) (i := 91) (by decide +kernel))⟩, fun q => absurd q (by decide), fun q => absurd q (by decide)⟩
theorem am_f_MG_drift : am_mf 112 := ⟨⟨am_w_rf (c := 2) (i := 238) rfl rfl, (am_w_in (c := 0) (i := 1) (by decide +kernel)), by decide +kernel⟩, fun _ => ⟨(am_w_in (c := 2) (i := 236) (by decide +kernel)), (am_w_in (c := 2) (i := 237) (by decide +kernel))⟩, fun q => absurd q (by decide), fun q => absurd q (by decide)⟩
theorem am_f_MG_undo : am_mf 113 := ⟨⟨am_w_rf (c := 3) (i := 12) rfl rfl, (am_w_in (c := 0) (i := 1) (by decide +kernel)), by decide +kernel⟩, fun _ => ⟨(am_w_in (c := 3) (i := 10) (by decide +kernel)), (am_w_in (c := 3) (i := 11) (by decide +kernel))⟩, fun q => absurd q (by decide), fun q => absurd q (by decide)⟩
theorem am_f_MG_seed : am_mf 114 := ⟨⟨am_w_rf (c := 3) (i := 20) rfl rfl, (am_w_in (c := 0) (i := 1) (by decide +kernel)), by decide +kernel⟩, fun _ => ⟨(am_w_in (c := 3) (i := 18) (by decide +kernel)), (am_w_in (c := 3) (i := 19) (by decide +kernel))⟩, fun q => absurd q (by decide), fun q => absurd q (by decide)⟩
theorem am_f_MG_image : am_mf 115 := ⟨⟨am_w_rf (c := 3) (i := 24) rfl rfl, (am_w_in (c := 0) (i := 1) (by decide +kernel)), by decide +kernel⟩, fun _ => ⟨(am_w_in (c := 3) (i := 22) (by decide +kernel)), (am_w_in (c := 3) (i := 23) (by decide +kernel))⟩, fun q => absurd q (by decide), fun q => absurd q (by decide)⟩
theorem am_f_MG_restore : am_mf 116 := ⟨⟨am_w_rf (c := 3) (i := 33) rfl rfl, (am_w_in (c := 0) (i := 1) (by decide +kernel)), by decide +kernel⟩, fun _ => ⟨(am_w_in (c := 3) (i := 31) (by decide +kernel)), (am_w_in (c := 3) (i := 32) (by decide +kernel))⟩, fun q => absurd q (by decide), fun q => absurd q (by decide)⟩
theorem am_f_MG_keep : am_mf 117 := ⟨⟨am_w_rf (c := 3) (i := 37) rfl rfl, (am_w_in (c := 0) (i := 1) (by decide +kernel)), by decide +kernel⟩, fun _ => ⟨(am_w_in (c := 3) (i := 35) (by decide +kernel)), (am_w_in (c := 3) (i := 36) (by decide +kernel))⟩, fun q => absurd q (by decide), fun q => absurd q (by decide)⟩
theorem am_f_MG_what : am_mf 118 := ⟨⟨am_w_rf (c := 3) (i := 73) rfl rfl, (am_w_in (c := 0) (i := 1) (by decide +kernel)), by decide +kernel⟩, fun _ => ⟨(am_w_in (c := 3) (i := 71) (by decide +kernel)), (am_w_in (c := 3) (i := 72) (by decide +kernel))⟩, fun q => absurd q (by decide), fun q => absurd q (by decide)⟩
theorem am_f_MG_film : am_mf 119 := ⟨⟨am_w_rf (c := 3) (i := 107) rfl rfl, (am_w_in (c := 0) (i := 1) (by decide +kernel)), by decide +kernel⟩, fun _ => ⟨(am_w_in (c := 3) (i := 105) (by decide +kernel)), (am_w_in (c := 3) (i := 106) (by decide +kernel))⟩, fun q => absurd q (by decide), fun q => absurd q (by decide)⟩
theorem am_f_MG_sheet : am_mf 120 := ⟨⟨am_w_rf (c := 3) (i := 119) rfl rfl, (am_w_in (c := 0) (i := 1) (by decide +kernel)), by decide +kernel⟩, fun _ => ⟨(am_w_in (c := 3) (i := 117) (by decide +kernel)), (am_w_in (c := 3) (i := 118) (by decide +kernel))⟩, fun q => absurd q (by decide), fun q => absurd q (by decide)⟩
theorem am_f_MG_drop : am_mf 121 := ⟨⟨am_w_rf (c := 3) (i := 128) rfl rfl, (am_w_in (c := 0) (i := 1) (by decide +kernel)), by decide +kernel⟩, fun _ => ⟨(am_w_in (c := 3) (i := 126) (by decide +kernel)), (am_w_in (c := 3) (i := 127) (by decide +kernel))⟩, fun q => absurd q (by decide), fun q => absurd q (by decide)⟩
theorem am_f_MG_item : am_mf 122 := ⟨⟨am_w_rf (c := 3) (i := 132) rfl rfl, (am_w_in (c := 0) (i := 1) (by decide +kernel)), by decide +kernel⟩, fun _ => ⟨(am_w_in (c := 3) (i := 130) (by decide +kernel)), (am_w_in (c := 3) (i := 131) (by decide +kernel))⟩, fun q => absurd q (by decide), fun q => absurd q (by decide)⟩
theorem am_f_MG_copy : am_mf 123 := ⟨⟨am_w_rf (c := 3) (i := 136) rfl rfl, (am_w_in (c := 0) (i := 1) (by decide +kernel)), by decide +kernel⟩, fun _ => ⟨(am_w_in (c := 3) (i := 134) (by decide +kernel)), (am_w_in (c := 3) (i := 135) (by decide +kernel))⟩, fun q => absurd q (by decide), fun q => absurd q (by decide)⟩
theorem am_f_MG_isSheet : am_mf 124 := ⟨⟨am_w_rf (c := 3) (i := 40) rfl rfl, (am_w_in (c := 0) (i := 1) (by decide +kernel)), by decide +kernel⟩, fun q => absurd q (by decide), fun _ => (am_w_in (c := 3) (i := 39) (by decide +kernel)), fun q => absurd q (by decide)⟩
theorem am_f_MG_isLane : am_mf 125 := ⟨⟨am_w_rf (c := 3) (i := 43) rfl rfl, (am_w_in (c := 0) (i := 1) (by decide +kernel)), by decide +kernel⟩, fun q => absurd q (by decide), fun _ => (am_w_in (c := 3) (i := 42) (by decide +kernel)), fun q => absurd q (by decide)⟩
theorem am_f_MG_oneIf : am_mf 126 := ⟨⟨am_w_rf (c := 1) (i := 61) rfl rfl, (am_w_in (c := 0) (i := 1) (by decide +kernel)), by decide +kernel⟩, fun q => absurd q (by decide), fun _ => (am_w_in (c := 1) (i := 60) (by decide +kernel)), fun q => absurd q (by decide)⟩
theorem am_f_MG_strength : am_mf 127 := ⟨⟨am_w_rf (c := 1) (i := 111) rfl rfl, (am_w_in (c := 0) (i := 1) (by decide +kernel)), by decide +kernel⟩, fun _ => ⟨(am_w_in (c := 1) (i := 110) (by decide +kernel)), (am_w_in (c := 6) (i := 0) (by decide +kernel))⟩, fun q => absurd q (by decide), fun q => absurd q (by decide)⟩
theorem am_f_MG_power : am_mf 128 := ⟨⟨am_w_rf (c := 1) (i := 201) rfl rfl, (am_w_in (c := 0) (i := 1) (by decide +kernel)), by decide +kernel⟩, fun q => absurd q (by decide), fun _ => (am_w_in (c := 1) (i := 200) (by decide +kernel)), fun q => absurd q (by decide)⟩
theorem am_f_MG_ofFraction : am_mf 129 := ⟨⟨am_w_rf (c := 1) (i := 158) rfl rfl, (am_w_in (c := 0) (i := 1) (by decide +kernel)), by decide +kernel⟩, fun q => absurd q (by decide), fun _ => (am_w_in (c := 1) (i := 157) (by decide +kernel)), fun q => absurd q (by decide)⟩
theorem am_f_MG_commonDivisor : am_mf 130 := ⟨⟨am_w_rf (c := 1) (i := 161) rfl rfl, (am_w_in (c := 0) (i := 1) (by decide +kernel)), by decide +kernel⟩, fun q => absurd q (by decide), fun _ => (am_w_in (c := 1) (i := 160) (by decide +kernel)), fun q => absurd q (by decide)⟩
theorem am_f_MD_in : am_mf 131 := ⟨⟨am_w_rf (c := 3) (i := 233) rfl rfl, (am_w_in (c := 0) (i := 12) (by decide +kernel)), by decide +kernel⟩, fun q => absurd q (by decide), fun _ => (am_w_in (c := 3) (i := 232) (by decide +kernel)), fun q => absurd q (by decide)⟩
theorem am_f_MD_init : am_mf 132 := ⟨⟨am_w_rf (c := 3) (i := 143) rfl rfl, (am_w_in (c := 0) (i := 12) (by decide +kernel)), by decide +kernel⟩, fun q => absurd q (by decide), fun q => absurd q (by decide), fun _ => ⟨(am_w_in (c := 3) (i := 142) (by decide +kernel)), by decide +kernel⟩⟩
theorem am_f_MD_has : am_mf 133 := ⟨⟨am_w_rf (c := 4) (i := 15) rfl rfl, (am_w_in (c := 0) (i := 12) (by decide +kernel)), by decide +kernel⟩, fun q => absurd q (by decide), fun _ => (am_w_in (c := 4) (i := 14) (by decide +kernel)), fun q => absurd q (by decide)⟩
theorem am_f_MD_bits : am_mf 134 := ⟨⟨am_w_rf (c := 4) (i := 8) rfl rfl, (am_w_in (c := 0) (i := 12) (by decide +kernel)), by decide +kernel⟩, fun q => absurd q (by decide), fun _ => (am_w_in (c := 4) (i := 7) (by decide +kernel)), fun q => absurd q (by decide)⟩
theorem am_f_MD_all : am_mf 135 := ⟨⟨am_w_rf (c := 4) (i := 23) rfl rfl, (am_w_in (c := 0) (i := 12) (by decide +kernel)), by decide +kernel⟩, fun _ => ⟨(am_w_in (c := 4) (i := 22) (by decide +kernel)), (am_w_in (c := 6) (i := 46) (by decide +kernel))⟩, fun q => absurd q (by decide), fun q => absurd q (by decide)⟩
theorem am_f_MD_at : am_mf 136 := ⟨⟨am_w_rf (c := 3) (i := 237) rfl rfl, (am_w_in (c := 0) (i := 12) (by decide +kernel)), by decide +kernel⟩, fun _ => ⟨(am_w_in (c := 3) (i := 236) (by decide +kernel)), (am_w_in (c := 6) (i := 42) (by decide +kernel))⟩, fun q => absurd q (by decide), fun q => absurd q (by decide)⟩
theorem am_f_MD_find : am_mf 137 := ⟨⟨am_w_rf (c := 4) (i := 170) rfl rfl, (am_w_in (c := 0) (i := 12) (by decide +kernel)), by decide +kernel⟩, fun _ => ⟨(am_w_in (c := 4) (i := 169) (by decide +kernel)), (am_w_in (c := 6) (i := 70) (by decide +kernel))⟩, fun q => absurd q (by decide), fun q => absurd q (by decide)⟩
theorem am_f_MD_holds : am_mf 138 := ⟨⟨am_w_rf (c := 4) (i := 27) rfl rfl, (am_w_in (c := 0) (i := 12) (by decide +kernel)), by decide +kernel⟩, fun _ => ⟨(am_w_in (c := 4) (i := 26) (by decide +kernel)), (am_w_in (c := 6) (i := 47) (by decide +kernel))⟩, fun q => absurd q (by decide), fun q => absurd q (by decide)⟩
theorem am_f_MD_isMore : am_mf 139 := ⟨⟨am_w_rf (c := 4) (i := 1) rfl rfl, (am_w_in (c := 0) (i := 12) (by decide +kernel)), by decide +kernel⟩, fun _ => ⟨(am_w_in (c := 4) (i := 0) (by decide +kernel)), (am_w_in (c := 6) (i := 43) (by decide +kernel))⟩, fun q => absurd q (by decide), fun q => absurd q (by decide)⟩
theorem am_f_MD_leastWith : am_mf 140 := ⟨⟨am_w_rf (c := 4) (i := 5) rfl rfl, (am_w_in (c := 0) (i := 12) (by decide +kernel)), by decide +kernel⟩, fun _ => ⟨(am_w_in (c := 4) (i := 4) (by decide +kernel)), (am_w_in (c := 6) (i := 44) (by decide +kernel))⟩, fun q => absurd q (by decide), fun q => absurd q (by decide)⟩
theorem am_f_MD_group : am_mf 141 := ⟨⟨am_w_rf (c := 3) (i := 230) rfl rfl, (am_w_in (c := 0) (i := 12) (by decide +kernel)), by decide +kernel⟩, fun _ => ⟨(am_w_in (c := 3) (i := 228) (by decide +kernel)), (am_w_in (c := 3) (i := 229) (by decide +kernel))⟩, fun q => absurd q (by decide), fun q => absurd q (by decide)⟩
theorem am_f_MD_turns : am_mf 142 := ⟨⟨am_w_rf (c := 4) (i := 19) rfl rfl, (am_w_in (c := 0) (i := 12) (by decide +kernel)), by decide +kernel⟩, fun _ => ⟨(am_w_in (c := 4) (i := 18) (by decide +kernel)), (am_w_in (c := 6) (i := 45) (by decide +kernel))⟩, fun q => absurd q (by decide), fun q => absurd q (by decide)⟩
theorem am_f_MD_element : am_mf 143 := ⟨⟨am_w_rf (c := 4) (i := 12) rfl rfl, (am_w_in (c := 0) (i := 12) (by decide +kernel)), by decide +kernel⟩, fun _ => ⟨(am_w_in (c := 4) (i := 10) (by decide +kernel)), (am_w_in (c := 4) (i := 11) (by decide +kernel))⟩, fun q => absurd q (by decide), fun q => absurd q (by decide)⟩
theorem am_f_MD_common : am_mf 144 := ⟨⟨am_w_rf (c := 4) (i := 35) rfl rfl, (am_w_in (c := 0) (i := 12) (by decide +kernel)), by decide +kernel⟩, fun _ => ⟨(am_w_in (c := 4) (i := 34) (by decide +kernel)), (am_w_in (c := 6) (i := 48) (by decide +kernel))⟩, fun q => absurd q (by decide), fun q => absurd q (by decide)⟩
theorem am_f_MD_faults : am_mf 145 := ⟨⟨am_w_rf (c := 4) (i := 39) rfl rfl, (am_w_in (c := 0) (i := 12) (by decide +kernel)), by decide +kernel⟩, fun _ => ⟨(am_w_in (c := 4) (i := 38) (by decide +kernel)), (am_w_in (c := 6) (i := 49) (by decide +kernel))⟩, fun q => absurd q (by decide), fun q => absurd q (by decide)⟩
theorem am_f_MD_liars : am_mf 146 := ⟨⟨am_w_rf (c := 4) (i := 43) rfl rfl, (am_w_in (c := 0) (i := 12) (by decide +kernel)), by decide +kernel⟩, fun _ => ⟨(am_w_in (c := 4) (i := 42) (by decide +kernel)), (am_w_in (c := 6) (i := 50) (by decide +kernel))⟩, fun q => absurd q (by decide), fun q => absurd q (by decide)⟩
theorem am_f_MD_count : am_mf 147 := ⟨⟨am_w_rf (c := 4) (i := 31) rfl rfl, (am_w_in (c := 0) (i := 12) (by decide +kernel)), by decide +kernel⟩, fun _ => ⟨(am_w_in (c := 4) (i := 29) (by decide +kernel)), (am_w_in (c := 4) (i := 30) (by decide +kernel))⟩, fun q => absurd q (by decide), fun q => absurd q (by decide)⟩
theorem am_f_MD_reduces : am_mf 148 := ⟨⟨am_w_rf (c := 4) (i := 94) rfl rfl, (am_w_in (c := 0) (i := 12) (by decide +kernel)), by decide +kernel⟩, fun _ => ⟨(am_w_in (c := 4) (i := 93) (by decide +kernel)), (am_w_in (c := 6) (i := 61) (by decide +kernel))⟩, fun q => absurd q (by decide), fun q => absurd q (by decide)⟩
theorem am_f_MD_nth : am_mf 149 := ⟨⟨am_w_rf (c := 4) (i := 62) rfl rfl, (am_w_in (c := 0) (i := 12) (by decide +kernel)), by decide +kernel⟩, fun q => absurd q (by decide), fun _ => (am_w_in (c := 4) (i := 61) (by decide +kernel)), fun q => absurd q (by decide)⟩
theorem am_f_MD_squares : am_mf 150 := ⟨⟨am_w_rf (c := 4) (i := 70) rfl rfl, (am_w_in (c := 0) (i := 12) (by decide +kernel)), by decide +kernel⟩, fun _ => ⟨(am_w_in (c := 4) (i := 69) (by decide +kernel)), (am_w_in (c := 6) (i := 55) (by decide +kernel))⟩, fun q => absurd q (by decide), fun q => absurd q (by decide)⟩
theorem am_f_MD_swaps : am_mf 151 := ⟨⟨am_w_rf (c := 4) (i := 78) rfl rfl, (am_w_in (c := 0) (i := 12) (by decide +kernel)), by decide +kernel⟩, fun _ => ⟨(am_w_in (c := 4) (i := 77) (by decide +kernel)), (am_w_in (c := 6) (i := 57) (by decide +kernel))⟩, fun q => absurd q (by decide), fun q => absurd q (by decide)⟩
theorem am_f_MD_solves : am_mf 152 := ⟨⟨am_w_rf (c := 4) (i := 74) rfl rfl, (am_w_in (c := 0) (i := 12) (by decide +kernel)), by decide +kernel⟩, fun _ => ⟨(am_w_in (c := 4) (i := 73) (by decide +kernel)), (am_w_in (c := 6) (i := 56) (by decide +kernel))⟩, fun q => absurd q (by decide), fun q => absurd q (by decide)⟩
theorem am_f_MD_takes : am_mf 153 := ⟨⟨am_w_rf (c := 4) (i := 82) rfl rfl, (am_w_in (c := 0) (i := 12) (by decide +kernel)), by decide +kernel⟩, fun _ => ⟨(am_w_in (c := 4) (i := 81) (by decide +kernel)), (am_w_in (c := 6) (i := 58) (by decide +kernel))⟩, fun q => absurd q (by decide), fun q => absurd q (by decide)⟩
theorem am_f_MD_clears : am_mf 154 := ⟨⟨am_w_rf (c := 4) (i := 66) rfl rfl, (am_w_in (c := 0) (i := 12) (by decide +kernel)), by decide +kernel⟩, fun _ => ⟨(am_w_in (c := 4) (i := 65) (by decide +kernel)), (am_w_in (c := 6) (i := 54) (by decide +kernel))⟩, fun q => absurd q (by decide), fun q => absurd q (by decide)⟩
theorem am_f_MD_bears : am_mf 155 := ⟨⟨am_w_rf (c := 4) (i := 86) rfl rfl, (am_w_in (c := 0) (i := 12) (by decide +kernel)), by decide +kernel⟩, fun _ => ⟨(am_w_in (c := 4) (i := 85) (by decide +kernel)), (am_w_in (c := 6) (i := 59) (by decide +kernel))⟩, fun q => absurd q (by decide), fun q => absurd q (by decide)⟩
theorem am_f_MD_loadOf : am_mf 156 := ⟨⟨am_w_rf (c := 4) (i := 90) rfl rfl, (am_w_in (c := 0) (i := 12) (by decide +kernel)), by decide +kernel⟩, fun _ => ⟨(am_w_in (c := 4) (i := 89) (by decide +kernel)), (am_w_in (c := 6) (i := 60) (by decide +kernel))⟩, fun q => absurd q (by decide), fun q => absurd q (by decide)⟩
theorem am_f_MD_evens : am_mf 157 := ⟨⟨am_w_rf (c := 4) (i := 59) rfl rfl, (am_w_in (c := 0) (i := 12) (by decide +kernel)), by decide +kernel⟩, fun _ => ⟨(am_w_in (c := 4) (i := 58) (by decide +kernel)), (am_w_in (c := 6) (i := 53) (by decide +kernel))⟩, fun q => absurd q (by decide), fun q => absurd q (by decide)⟩
theorem am_f_MD_slim : am_mf 158 := ⟨⟨am_w_rf (c := 4) (i := 55) rfl rfl, (am_w_in (c := 0) (i := 12) (by decide +kernel)), by decide +kernel⟩, fun _ => ⟨(am_w_in (c := 4) (i := 54) (by decide +kernel)), (am_w_in (c := 6) (i := 52) (by decide +kernel))⟩, fun q => absurd q (by decide), fun q => absurd q (by decide)⟩
theorem am_f_MD_loads : am_mf 159 := ⟨⟨am_w_rf (c := 4) (i := 51) rfl rfl, (am_w_in (c := 0) (i := 12) (by decide +kernel)), by decide +kernel⟩, fun _ => ⟨(am_w_in (c := 4) (i := 50) (by decide +kernel)), (am_w_in (c := 6) (i := 51) (by decide +kernel))⟩, fun q => absurd q (by decide), fun q => absurd q (by decide)⟩
theorem am_f_MD_load : am_mf 160 := ⟨⟨am_w_rf (c := 4) (i := 47) rfl rfl, (am_w_in (c := 0) (i := 12) (by decide +kernel)), by decide +kernel⟩, fun _ => ⟨(am_w_in (c := 4) (i := 45) (by decide +kernel)), (am_w_in (c := 4) (i := 46) (by decide +kernel))⟩, fun q => absurd q (by decide), fun q => absurd q (by decide)⟩
theorem am_f_MD_planAt : am_mf 161 := ⟨⟨am_w_rf (c := 4) (i := 104) rfl rfl, (am_w_in (c := 0) (i := 12) (by decide +kernel)), by decide +kernel⟩, fun _ => ⟨(am_w_in (c := 4) (i := 103) (by decide +kernel)), (am_w_in (c := 6) (i := 62) (by decide +kernel))⟩, fun q => absurd q (by decide), fun q => absurd q (by decide)⟩
theorem am_f_MD_weighs : am_mf 162 := ⟨⟨am_w_rf (c := 4) (i := 108) rfl rfl, (am_w_in (c := 0) (i := 12) (by decide +kernel)), by decide +kernel⟩, fun _ => ⟨(am_w_in (c := 4) (i := 107) (by decide +kernel)), (am_w_in (c := 6) (i := 63) (by decide +kernel))⟩, fun q => absurd q (by decide), fun q => absurd q (by decide)⟩
theorem am_f_MD_plan : am_mf 163 := ⟨⟨am_w_rf (c := 4) (i := 98) rfl rfl, (am_w_in (c := 0) (i := 12) (by decide +kernel)), by decide +kernel⟩, fun _ => ⟨(am_w_in (c := 4) (i := 96) (by decide +kernel)), (am_w_in (c := 4) (i := 97) (by decide +kernel))⟩, fun q => absurd q (by decide), fun q => absurd q (by decide)⟩
theorem am_f_MD_drops : am_mf 164 := ⟨⟨am_w_rf (c := 4) (i := 127) rfl rfl, (am_w_in (c := 0) (i := 12) (by decide +kernel)), by decide +kernel⟩, fun _ => ⟨(am_w_in (c := 4) (i := 126) (by decide +kernel)), (am_w_in (c := 6) (i := 66) (by decide +kernel))⟩, fun q => absurd q (by decide), fun q => absurd q (by decide)⟩
theorem am_f_MD_keep : am_mf 165 := ⟨⟨am_w_rf (c := 4) (i := 112) rfl rfl, (am_w_in (c := 0) (i := 12) (by decide +kernel)), by decide +kernel⟩, fun _ => ⟨(am_w_in (c := 4) (i := 110) (by decide +kernel)), (am_w_in (c := 4) (i := 111) (by decide +kernel))⟩, fun q => absurd q (by decide), fun q => absurd q (by decide)⟩
theorem am_f_MD_standing : am_mf 166 := ⟨⟨am_w_rf (c := 4) (i := 131) rfl rfl, (am_w_in (c := 0) (i := 12) (by decide +kernel)), by decide +kernel⟩, fun _ => ⟨(am_w_in (c := 4) (i := 129) (by decide +kernel)), (am_w_in (c := 4) (i := 130) (by decide +kernel))⟩, fun q => absurd q (by decide), fun q => absurd q (by decide)⟩
theorem am_f_MD_stands : am_mf 167 := ⟨⟨am_w_rf (c := 4) (i := 135) rfl rfl, (am_w_in (c := 0) (i := 12) (by decide +kernel)), by decide +kernel⟩, fun _ => ⟨(am_w_in (c := 4) (i := 133) (by decide +kernel)), (am_w_in (c := 4) (i := 134) (by decide +kernel))⟩, fun q => absurd q (by decide), fun q => absurd q (by decide)⟩
theorem am_f_MD_isFree : am_mf 168 := ⟨⟨am_w_rf (c := 4) (i := 144) rfl rfl, (am_w_in (c := 0) (i := 12) (by decide +kernel)), by decide +kernel⟩, fun _ => ⟨(am_w_in (c := 4) (i := 143) (by decide +kernel)), (am_w_in (c := 6) (i := 67) (by decide +kernel))⟩, fun q => absurd q (by decide), fun q => absurd q (by decide)⟩
theorem am_f_MD_free : am_mf 169 := ⟨⟨am_w_rf (c := 4) (i := 140) rfl rfl, (am_w_in (c := 0) (i := 12) (by decide +kernel)), by decide +kernel⟩, fun _ => ⟨(am_w_in (c := 4) (i := 138) (by decide +kernel)), (am_w_in (c := 4) (i := 139) (by decide +kernel))⟩, fun q => absurd q (by decide), fun q => absurd q (by decide)⟩
theorem am_f_MD_power : am_mf 170 := ⟨⟨am_w_rf (c := 4) (i := 151) rfl rfl, (am_w_in (c := 0) (i := 12) (by decide +kernel)), by decide +kernel⟩, fun q => absurd q (by decide), fun _ => (am_w_in (c := 4) (i := 150) (by decide +kernel)), fun q => absurd q (by decide)⟩
theorem am_f_MD_digit : am_mf 171 := ⟨⟨am_w_rf (c := 4) (i := 162) rfl rfl, (am_w_in (c := 0) (i := 12) (by decide +kernel)), by decide +kernel⟩, fun q => absurd q (by decide), fun _ => (am_w_in (c := 4) (i := 161) (by decide +kernel)), fun q => absurd q (by decide)⟩
theorem am_f_MD_those : am_mf 172 := ⟨⟨am_w_rf (c := 4) (i := 159) rfl rfl, (am_w_in (c := 0) (i := 12) (by decide +kernel)), by decide +kernel⟩, fun _ => ⟨(am_w_in (c := 4) (i := 158) (by decide +kernel)), (am_w_in (c := 6) (i := 69) (by decide +kernel))⟩, fun q => absurd q (by decide), fun q => absurd q (by decide)⟩
theorem am_f_MD_probesOf : am_mf 173 := ⟨⟨am_w_rf (c := 4) (i := 155) rfl rfl, (am_w_in (c := 0) (i := 12) (by decide +kernel)), by decide +kernel⟩, fun _ => ⟨(am_w_in (c := 4) (i := 154) (by decide +kernel)), (am_w_in (c := 6) (i := 68) (by decide +kernel))⟩, fun q => absurd q (by decide), fun q => absurd q (by decide)⟩
theorem am_f_MD_probe : am_mf 174 := ⟨⟨am_w_rf (c := 4) (i := 148) rfl rfl, (am_w_in (c := 0) (i := 12) (by decide +kernel)), by decide +kernel⟩, fun _ => ⟨(am_w_in (c := 4) (i := 146) (by decide +kernel)), (am_w_in (c := 4) (i := 147) (by decide +kernel))⟩, fun q => absurd q (by decide), fun q => absurd q (by decide)⟩
theorem am_f_MD_add : am_mf 175 := ⟨⟨am_w_rf (c := 4) (i := 166) rfl rfl, (am_w_in (c := 0) (i := 12) (by decide +kernel)), by decide +kernel⟩, fun _ => ⟨(am_w_in (c := 4) (i := 164) (by decide +kernel)), (am_w_in (c := 4) (i := 165) (by decide +kernel))⟩, fun q => absurd q (by decide), fun q => absurd q (by decide)⟩
theorem am_f_MD_comes : am_mf 176 := ⟨⟨am_w_rf (c := 4) (i := 174) rfl rfl, (am_w_in (c := 0) (i := 12) (by decide +kernel)), by decide +kernel⟩, fun _ => ⟨(am_w_in (c := 4) (i := 173) (by decide +kernel)), (am_w_in (c := 6) (i := 71) (by decide +kernel))⟩, fun q => absurd q (by decide), fun q => absurd q (by decide)⟩
theorem am_f_MD_goes : am_mf 177 := ⟨⟨am_w_rf (c := 4) (i := 182) rfl rfl, (am_w_in (c := 0) (i := 12) (by decide +kernel)), by decide +kernel⟩, fun _ => ⟨(am_w_in (c := 4) (i := 181) (by decide +kernel)), (am_w_in (c := 6) (i := 72) (by decide +kernel))⟩, fun q => absurd q (by decide), fun q => absurd q (by decide)⟩
theorem am_f_MD_out : am_mf 178 := ⟨⟨am_w_rf (c := 4) (i := 178) rfl rfl, (am_w_in (c := 0) (i := 12) (by decide +kernel)), by decide +kernel⟩, fun _ => ⟨(am_w_in (c := 4) (i := 176) (by decide +kernel)), (am_w_in (c := 4) (i := 177) (by decide +kernel))⟩, fun q => absurd q (by decide), fun q => absurd q (by decide)⟩
theorem am_f_MD_size : am_mf 179 := ⟨⟨am_w_rf (c := 4) (i := 186) rfl rfl, (am_w_in (c := 0) (i := 12) (by decide +kernel)), by decide +kernel⟩, fun _ => ⟨(am_w_in (c := 4) (i := 184) (by decide +kernel)), (am_w_in (c := 4) (i := 185) (by decide +kernel))⟩, fun q => absurd q (by decide), fun q => absurd q (by decide)⟩
theorem am_f_MD_drift : am_mf 180 := ⟨⟨am_w_rf (c := 4) (i := 191) rfl rfl, (am_w_in (c := 0) (i := 12) (by decide +kernel)), by decide +kernel⟩, fun _ => ⟨(am_w_in (c := 4) (i := 189) (by decide +kernel)), (am_w_in (c := 4) (i := 190) (by decide +kernel))⟩, fun q => absurd q (by decide), fun q => absurd q (by decide)⟩
theorem am_f_MD_seed : am_mf 181 := ⟨⟨am_w_rf (c := 4) (i := 200) rfl rfl, (am_w_in (c := 0) (i := 12) (by decide +kernel)), by decide +kernel⟩, fun _ => ⟨(am_w_in (c := 4) (i := 198) (by decide +kernel)), (am_w_in (c := 4) (i := 199) (by decide +kernel))⟩, fun q => absurd q (by decide), fun q => absurd q (by decide)⟩
theorem am_f_MD_type : am_mf 182 := ⟨⟨am_w_rf (c := 4) (i := 204) rfl rfl, (am_w_in (c := 0) (i := 12) (by decide +kernel)), by decide +kernel⟩, fun _ => ⟨(am_w_in (c := 4) (i := 202) (by decide +kernel)), (am_w_in (c := 4) (i := 203) (by decide +kernel))⟩, fun q => absurd q (by decide), fun q => absurd q (by decide)⟩
theorem am_f_MD_here : am_mf 183 := ⟨⟨am_w_rf (c := 4) (i := 218) rfl rfl, (am_w_in (c := 0) (i := 12) (by decide +kernel)), by decide +kernel⟩, fun _ => ⟨(am_w_in (c := 4) (i := 217) (by decide +kernel)), (am_w_in (c := 6) (i := 74) (by decide +kernel))⟩, fun q => absurd q (by decide), fun q => absurd q (by decide)⟩
theorem am_f_MD_figure : am_mf 184 := ⟨⟨am_w_rf (c := 4) (i := 232) rfl rfl, (am_w_in (c := 0) (i := 12) (by decide +kernel)), by decide +kernel⟩, fun _ => ⟨(am_w_in (c := 4) (i := 231) (by decide +kernel)), (am_w_in (c := 6) (i := 77) (by decide +kernel))⟩, fun q => absurd q (by decide), fun q => absurd q (by decide)⟩
theorem am_f_MD_gets : am_mf 185 := ⟨⟨am_w_rf (c := 4) (i := 236) rfl rfl, (am_w_in (c := 0) (i := 12) (by decide +kernel)), by decide +kernel⟩, fun _ => ⟨(am_w_in (c := 4) (i := 235) (by decide +kernel)), (am_w_in (c := 6) (i := 78) (by decide +kernel))⟩, fun q => absurd q (by decide), fun q => absurd q (by decide)⟩
theorem am_f_MD_isGot : am_mf 186 := ⟨⟨am_w_rf (c := 5) (i := 4) rfl rfl, (am_w_in (c := 0) (i := 12) (by decide +kernel)), by decide +kernel⟩, fun _ => ⟨(am_w_in (c := 5) (i := 3) (by decide +kernel)), (am_w_in (c := 6) (i := 80) (by decide +kernel))⟩, fun q => absurd q (by decide), fun q => absurd q (by decide)⟩
theorem am_f_MD_majority : am_mf 187 := ⟨⟨am_w_rf (c := 4) (i := 228) rfl rfl, (am_w_in (c := 0) (i := 12) (by decide +kernel)), by decide +kernel⟩, fun _ => ⟨(am_w_in (c := 4) (i := 227) (by decide +kernel)), (am_w_in (c := 6) (i := 76) (by decide +kernel))⟩, fun q => absurd q (by decide), fun q => absurd q (by decide)⟩
theorem am_f_MD_grid : am_mf 188 := ⟨⟨am_w_rf (c := 5) (i := 0) rfl rfl, (am_w_in (c := 0) (i := 12) (by decide +kernel)), by decide +kernel⟩, fun _ => ⟨(am_w_in (c := 4) (i := 239) (by decide +kernel)), (am_w_in (c := 6) (i := 79) (by decide +kernel))⟩, fun q => absurd q (by decide), fun q => absurd q (by decide)⟩
theorem am_f_MD_wall : am_mf 189 := ⟨⟨am_w_rf (c := 5) (i := 8) rfl rfl, (am_w_in (c := 0) (i := 12) (by decide +kernel)), by decide +kernel⟩, fun _ => ⟨(am_w_in (c := 5) (i := 7) (by decide +kernel)), (am_w_in (c := 6) (i := 81) (by decide +kernel))⟩, fun q => absurd q (by decide), fun q => absurd q (by decide)⟩
theorem am_f_MD_walls : am_mf 190 := ⟨⟨am_w_rf (c := 5) (i := 12) rfl rfl, (am_w_in (c := 0) (i := 12) (by decide +kernel)), by decide +kernel⟩, fun _ => ⟨(am_w_in (c := 5) (i := 11) (by decide +kernel)), (am_w_in (c := 6) (i := 82) (by decide +kernel))⟩, fun q => absurd q (by decide), fun q => absurd q (by decide)⟩
theorem am_f_MD_plane : am_mf 191 := ⟨⟨am_w_rf (c := 5) (i := 16) rfl rfl, (am_w_in (c := 0) (i := 12) (by decide +kernel)), by decide +kernel⟩, fun _ => ⟨(am_w_in (c := 5) (i := 15) (by decide +kernel)), (am_w_in (c := 6) (i := 83) (by decide +kernel))⟩, fun q => absurd q (by decide), fun q => absurd q (by decide)⟩
theorem am_f_MD_told : am_mf 192 := ⟨⟨am_w_rf (c := 5) (i := 20) rfl rfl, (am_w_in (c := 0) (i := 12) (by decide +kernel)), by decide +kernel⟩, fun _ => ⟨(am_w_in (c := 5) (i := 19) (by decide +kernel)), (am_w_in (c := 6) (i := 84) (by decide +kernel))⟩, fun q => absurd q (by decide), fun q => absurd q (by decide)⟩
theorem am_f_MD_one : am_mf 193 := ⟨⟨am_w_rf (c := 5) (i := 24) rfl rfl, (am_w_in (c := 0) (i := 12) (by decide +kernel)), by decide +kernel⟩, fun _ => ⟨(am_w_in (c := 5) (i := 23) (by decide +kernel)), (am_w_in (c := 6) (i := 85) (by decide +kernel))⟩, fun q => absurd q (by decide), fun q => absurd q (by decide)⟩
theorem am_f_MD_isName : am_mf 194 := ⟨⟨am_w_rf (c := 4) (i := 224) rfl rfl, (am_w_in (c := 0) (i := 12) (by decide +kernel)), by decide +kernel⟩, fun _ => ⟨(am_w_in (c := 4) (i := 223) (by decide +kernel)), (am_w_in (c := 6) (i := 75) (by decide +kernel))⟩, fun q => absurd q (by decide), fun q => absurd q (by decide)⟩
theorem am_f_MD_isText : am_mf 195 := ⟨⟨am_w_rf (c := 4) (i := 214) rfl rfl, (am_w_in (c := 0) (i := 12) (by decide +kernel)), by decide +kernel⟩, fun _ => ⟨(am_w_in (c := 4) (i := 213) (by decide +kernel)), (am_w_in (c := 6) (i := 73) (by decide +kernel))⟩, fun q => absurd q (by decide), fun q => absurd q (by decide)⟩
theorem am_f_MD_read : am_mf 196 := ⟨⟨am_w_rf (c := 4) (i := 210) rfl rfl, (am_w_in (c := 0) (i := 12) (by decide +kernel)), by decide +kernel⟩, fun _ => ⟨(am_w_in (c := 4) (i := 208) (by decide +kernel)), (am_w_in (c := 4) (i := 209) (by decide +kernel))⟩, fun q => absurd q (by decide), fun q => absurd q (by decide)⟩
theorem am_f_MD_notes : am_mf 197 := ⟨⟨am_w_rf (c := 4) (i := 123) rfl rfl, (am_w_in (c := 0) (i := 12) (by decide +kernel)), by decide +kernel⟩, fun _ => ⟨(am_w_in (c := 4) (i := 122) (by decide +kernel)), (am_w_in (c := 6) (i := 65) (by decide +kernel))⟩, fun q => absurd q (by decide), fun q => absurd q (by decide)⟩
theorem am_f_MD_undo : am_mf 198 := ⟨⟨am_w_rf (c := 5) (i := 30) rfl rfl, (am_w_in (c := 0) (i := 12) (by decide +kernel)), by decide +kernel⟩, fun _ => ⟨(am_w_in (c := 5) (i := 28) (by decide +kernel)), (am_w_in (c := 5) (i := 29) (by decide +kernel))⟩, fun q => absurd q (by decide), fun q => absurd q (by decide)⟩
theorem am_f_MD_image : am_mf 199 := ⟨⟨am_w_rf (c := 5) (i := 34) rfl rfl, (am_w_in (c := 0) (i := 12) (by decide +kernel)), by decide +kernel⟩, fun _ => ⟨(am_w_in (c := 5) (i := 32) (by decide +kernel)), (am_w_in (c := 5) (i := 33) (by decide +kernel))⟩, fun q => absurd q (by decide), fun q => absurd q (by decide)⟩
theorem am_f_MD_restore : am_mf 200 := ⟨⟨am_w_rf (c := 5) (i := 38) rfl rfl, (am_w_in (c := 0) (i := 12) (by decide +kernel)), by decide +kernel⟩, fun _ => ⟨(am_w_in (c := 5) (i := 36) (by decide +kernel)), (am_w_in (c := 5) (i := 37) (by decide +kernel))⟩, fun q => absurd q (by decide), fun q => absurd q (by decide)⟩
theorem am_f_MD_isSheet : am_mf 201 := ⟨⟨am_w_rf (c := 4) (i := 115) rfl rfl, (am_w_in (c := 0) (i := 12) (by decide +kernel)), by decide +kernel⟩, fun q => absurd q (by decide), fun _ => (am_w_in (c := 4) (i := 114) (by decide +kernel)), fun q => absurd q (by decide)⟩
theorem am_f_MD_cut : am_mf 202 := ⟨⟨am_w_rf (c := 5) (i := 53) rfl rfl, (am_w_in (c := 0) (i := 12) (by decide +kernel)), by decide +kernel⟩, fun q => absurd q (by decide), fun _ => (am_w_in (c := 5) (i := 52) (by decide +kernel)), fun q => absurd q (by decide)⟩
theorem am_f_MD_sheet : am_mf 203 := ⟨⟨am_w_rf (c := 5) (i := 42) rfl rfl, (am_w_in (c := 0) (i := 12) (by decide +kernel)), by decide +kernel⟩, fun _ => ⟨(am_w_in (c := 5) (i := 40) (by decide +kernel)), (am_w_in (c := 5) (i := 41) (by decide +kernel))⟩, fun q => absurd q (by decide), fun q => absurd q (by decide)⟩
theorem am_f_MD_drop : am_mf 204 := ⟨⟨am_w_rf (c := 5) (i := 46) rfl rfl, (am_w_in (c := 0) (i := 12) (by decide +kernel)), by decide +kernel⟩, fun _ => ⟨(am_w_in (c := 5) (i := 44) (by decide +kernel)), (am_w_in (c := 5) (i := 45) (by decide +kernel))⟩, fun q => absurd q (by decide), fun q => absurd q (by decide)⟩
theorem am_f_MD_why : am_mf 205 := ⟨⟨am_w_rf (c := 4) (i := 119) rfl rfl, (am_w_in (c := 0) (i := 12) (by decide +kernel)), by decide +kernel⟩, fun _ => ⟨(am_w_in (c := 4) (i := 118) (by decide +kernel)), (am_w_in (c := 6) (i := 64) (by decide +kernel))⟩, fun q => absurd q (by decide), fun q => absurd q (by decide)⟩
theorem am_f_MD_item : am_mf 206 := ⟨⟨am_w_rf (c := 5) (i := 50) rfl rfl, (am_w_in (c := 0) (i := 12) (by decide +kernel)), by decide +kernel⟩, fun _ => ⟨(am_w_in (c := 5) (i := 48) (by decide +kernel)), (am_w_in (c := 5) (i := 49) (by decide +kernel))⟩, fun q => absurd q (by decide), fun q => absurd q (by decide)⟩
theorem am_f_MD_copy : am_mf 207 := ⟨⟨am_w_rf (c := 5) (i := 57) rfl rfl, (am_w_in (c := 0) (i := 12) (by decide +kernel)), by decide +kernel⟩, fun _ => ⟨(am_w_in (c := 5) (i := 55) (by decide +kernel)), (am_w_in (c := 5) (i := 56) (by decide +kernel))⟩, fun q => absurd q (by decide), fun q => absurd q (by decide)⟩
theorem am_f_MD_row : am_mf 208 := ⟨⟨am_w_rf (c := 5) (i := 70) rfl rfl, (am_w_in (c := 0) (i := 12) (by decide +kernel)), by decide +kernel⟩, fun _ => ⟨(am_w_in (c := 5) (i := 69) (by decide +kernel)), (am_w_in (c := 6) (i := 87) (by decide +kernel))⟩, fun q => absurd q (by decide), fun q => absurd q (by decide)⟩
theorem am_f_MD_ofTwo : am_mf 209 := ⟨⟨am_w_rf (c := 5) (i := 66) rfl rfl, (am_w_in (c := 0) (i := 12) (by decide +kernel)), by decide +kernel⟩, fun _ => ⟨(am_w_in (c := 5) (i := 65) (by decide +kernel)), (am_w_in (c := 6) (i := 86) (by decide +kernel))⟩, fun q => absurd q (by decide), fun q => absurd q (by decide)⟩
theorem am_f_MD_isEven : am_mf 210 := ⟨⟨am_w_rf (c := 5) (i := 74) rfl rfl, (am_w_in (c := 0) (i := 12) (by decide +kernel)), by decide +kernel⟩, fun _ => ⟨(am_w_in (c := 5) (i := 73) (by decide +kernel)), (am_w_in (c := 6) (i := 88) (by decide +kernel))⟩, fun q => absurd q (by decide), fun q => absurd q (by decide)⟩
theorem am_f_MD_isJust : am_mf 211 := ⟨⟨am_w_rf (c := 5) (i := 78) rfl rfl, (am_w_in (c := 0) (i := 12) (by decide +kernel)), by decide +kernel⟩, fun _ => ⟨(am_w_in (c := 5) (i := 77) (by decide +kernel)), (am_w_in (c := 6) (i := 89) (by decide +kernel))⟩, fun q => absurd q (by decide), fun q => absurd q (by decide)⟩
theorem am_f_MD_what : am_mf 212 := ⟨⟨am_w_rf (c := 5) (i := 61) rfl rfl, (am_w_in (c := 0) (i := 12) (by decide +kernel)), by decide +kernel⟩, fun _ => ⟨(am_w_in (c := 5) (i := 59) (by decide +kernel)), (am_w_in (c := 5) (i := 60) (by decide +kernel))⟩, fun q => absurd q (by decide), fun q => absurd q (by decide)⟩
theorem am_f_MD_film : am_mf 213 := ⟨⟨am_w_rf (c := 5) (i := 82) rfl rfl, (am_w_in (c := 0) (i := 12) (by decide +kernel)), by decide +kernel⟩, fun _ => ⟨(am_w_in (c := 5) (i := 80) (by decide +kernel)), (am_w_in (c := 5) (i := 81) (by decide +kernel))⟩, fun q => absurd q (by decide), fun q => absurd q (by decide)⟩
theorem am_p_J6_bitCount : am_pl m_J6_bitCount := ⟨am_f_J6_bitCount, by decide +kernel, by decide +kernel, am_all_at am_k_J6_bitCount⟩
theorem am_p_Hi_note : am_pl m_Hi_note := ⟨am_f_Hi_note, by decide +kernel, by decide +kernel, am_all_at am_k_Hi_note⟩
theorem am_p_Hi_loseOldest : am_pl m_Hi_loseOldest := ⟨am_f_Hi_loseOldest, by decide +kernel, by decide +kernel, am_all_at am_k_Hi_loseOldest⟩
theorem am_p_Hi_takeBack : am_pl m_Hi_takeBack := ⟨am_f_Hi_takeBack, by decide +kernel, by decide +kernel, am_all_at am_k_Hi_takeBack⟩
theorem am_p_Hi_becomes : am_pl m_Hi_becomes := ⟨am_f_Hi_becomes, by decide +kernel, by decide +kernel, am_all_at am_k_Hi_becomes⟩
theorem am_p_Ho_look : am_pl m_Ho_look := ⟨am_f_Ho_look, by decide +kernel, by decide +kernel, am_all_at am_k_Ho_look⟩
theorem am_p_Ho_ofCount : am_pl m_Ho_ofCount := ⟨am_f_Ho_ofCount, by decide +kernel, by decide +kernel, am_all_at am_k_Ho_ofCount⟩
theorem am_p_Ho_turnedBy : am_pl m_Ho_turnedBy := ⟨am_f_Ho_turnedBy, by decide +kernel, by decide +kernel, am_all_at am_k_Ho_turnedBy⟩
theorem am_p_Ho_faults : am_pl m_Ho_faults := ⟨am_f_Ho_faults, by decide +kernel, by decide +kernel, am_all_at am_k_Ho_faults⟩
theorem am_p_Ho_isFree : am_pl m_Ho_isFree := ⟨am_f_Ho_isFree, by decide +kernel, by decide +kernel, am_all_at am_k_Ho_isFree⟩
theorem am_p_Ho_freeSets : am_pl m_Ho_freeSets := ⟨am_f_Ho_freeSets, by decide +kernel, by decide +kernel, am_all_at am_k_Ho_freeSets⟩
theorem am_p_Ho_leastFree : am_pl m_Ho_leastFree := ⟨am_f_Ho_leastFree, by decide +kernel, by decide +kernel, am_all_at am_k_Ho_leastFree⟩
theorem am_p_Pa_most : am_pl m_Pa_most := ⟨am_f_Pa_most, by decide +kernel, by decide +kernel, am_all_at am_k_Pa_most⟩
theorem am_p_Pa_solve : am_pl m_Pa_solve := ⟨am_f_Pa_solve, by decide +kernel, by decide +kernel, am_all_at am_k_Pa_solve⟩
theorem am_p_Pa_begin : am_pl m_Pa_begin := ⟨am_f_Pa_begin, by decide +kernel, by decide +kernel, am_all_at am_k_Pa_begin⟩
theorem am_p_Pa_entering : am_pl m_Pa_entering := ⟨am_f_Pa_entering, by decide +kernel, by decide +kernel, am_all_at am_k_Pa_entering⟩
theorem am_p_Pa_leaving : am_pl m_Pa_leaving := ⟨am_f_Pa_leaving, by decide +kernel, by decide +kernel, am_all_at am_k_Pa_leaving⟩
theorem am_p_Pa_isAhead : am_pl m_Pa_isAhead := ⟨am_f_Pa_isAhead, by decide +kernel, by decide +kernel, am_all_at am_k_Pa_isAhead⟩
theorem am_p_Pa_pivot : am_pl m_Pa_pivot := ⟨am_f_Pa_pivot, by decide +kernel, by decide +kernel, am_all_at am_k_Pa_pivot⟩
theorem am_p_Pa_clearBy : am_pl m_Pa_clearBy := ⟨am_f_Pa_clearBy, by decide +kernel, by decide +kernel, am_all_at am_k_Pa_clearBy⟩
theorem am_p_Pl_becomeAll : am_pl m_Pl_becomeAll := ⟨am_f_Pl_becomeAll, by decide +kernel, by decide +kernel, am_all_at am_k_Pl_becomeAll⟩
theorem am_p_Pl_moveIn : am_pl m_Pl_moveIn := ⟨am_f_Pl_moveIn, by decide +kernel, by decide +kernel, am_all_at am_k_Pl_moveIn⟩
theorem am_p_Pl_placeOf : am_pl m_Pl_placeOf := ⟨am_f_Pl_placeOf, by decide +kernel, by decide +kernel, am_all_at am_k_Pl_placeOf⟩
theorem am_p_Pl_become : am_pl m_Pl_become := ⟨am_f_Pl_become, by decide +kernel, by decide +kernel, am_all_at am_k_Pl_become⟩
theorem am_p_Pl_lose : am_pl m_Pl_lose := ⟨am_f_Pl_lose, by decide +kernel, by decide +kernel, am_all_at am_k_Pl_lose⟩
theorem am_p_Pl_weightOn : am_pl m_Pl_weightOn := ⟨am_f_Pl_weightOn, by decide +kernel, by decide +kernel, am_all_at am_k_Pl_weightOn⟩
theorem am_p_Pl_greatestWeight : am_pl m_Pl_greatestWeight := ⟨am_f_Pl_greatestWeight, by decide +kernel, by decide +kernel, am_all_at am_k_Pl_greatestWeight⟩
theorem am_p_Pr_play : am_pl m_Pr_play := ⟨am_f_Pr_play, by decide +kernel, by decide +kernel, am_all_at am_k_Pr_play⟩
theorem am_p_Pr_playLost : am_pl m_Pr_playLost := ⟨am_f_Pr_playLost, by decide +kernel, by decide +kernel, am_all_at am_k_Pr_playLost⟩
theorem am_p_Pr_placeOf : am_pl m_Pr_placeOf := ⟨am_f_Pr_placeOf, by decide +kernel, by decide +kernel, am_all_at am_k_Pr_placeOf⟩
theorem am_p_Pr_openOf : am_pl m_Pr_openOf := ⟨am_f_Pr_openOf, by decide +kernel, by decide +kernel, am_all_at am_k_Pr_openOf⟩
theorem am_p_Pr_isOver : am_pl m_Pr_isOver := ⟨am_f_Pr_isOver, by decide +kernel, by decide +kernel, am_all_at am_k_Pr_isOver⟩
theorem am_p_Pr_probesFrom : am_pl m_Pr_probesFrom := ⟨am_f_Pr_probesFrom, by decide +kernel, by decide +kernel, am_all_at am_k_Pr_probesFrom⟩
theorem am_p_Pr_probesBy : am_pl m_Pr_probesBy := ⟨am_f_Pr_probesBy, by decide +kernel, by decide +kernel, am_all_at am_k_Pr_probesBy⟩
theorem am_p_Pr_worst : am_pl m_Pr_worst := ⟨am_f_Pr_worst, by decide +kernel, by decide +kernel, am_all_at am_k_Pr_worst⟩
theorem am_p_Pr_best : am_pl m_Pr_best := ⟨am_f_Pr_best, by decide +kernel, by decide +kernel, am_all_at am_k_Pr_best⟩
theorem am_p_Re_faultOfTape : am_pl m_Re_faultOfTape := ⟨am_f_Re_faultOfTape, by decide +kernel, by decide +kernel, am_all_at am_k_Re_faultOfTape⟩
theorem am_p_Re_faultUnless : am_pl m_Re_faultUnless := ⟨am_f_Re_faultUnless, by decide +kernel, by decide +kernel, am_all_at am_k_Re_faultUnless⟩
theorem am_p_Re_skipName : am_pl m_Re_skipName := ⟨am_f_Re_skipName, by decide +kernel, by decide +kernel, am_all_at am_k_Re_skipName⟩
theorem am_p_Re_isName : am_pl m_Re_isName := ⟨am_f_Re_isName, by decide +kernel, by decide +kernel, am_all_at am_k_Re_isName⟩
theorem am_p_Re_next : am_pl m_Re_next := ⟨am_f_Re_next, by decide +kernel, by decide +kernel, am_all_at am_k_Re_next⟩
theorem am_p_Re_skips : am_pl m_Re_skips := ⟨am_f_Re_skips, by decide +kernel, by decide +kernel, am_all_at am_k_Re_skips⟩
theorem am_p_Re_figure : am_pl m_Re_figure := ⟨am_f_Re_figure, by decide +kernel, by decide +kernel, am_all_at am_k_Re_figure⟩
theorem am_p_Re_ends : am_pl m_Re_ends := ⟨am_f_Re_ends, by decide +kernel, by decide +kernel, am_all_at am_k_Re_ends⟩
theorem am_p_Re_isTold : am_pl m_Re_isTold := ⟨am_f_Re_isTold, by decide +kernel, by decide +kernel, am_all_at am_k_Re_isTold⟩
theorem am_p_Re_tell : am_pl m_Re_tell := ⟨am_f_Re_tell, by decide +kernel, by decide +kernel, am_all_at am_k_Re_tell⟩
theorem am_p_Re_majority : am_pl m_Re_majority := ⟨am_f_Re_majority, by decide +kernel, by decide +kernel, am_all_at am_k_Re_majority⟩
theorem am_p_Re_grid : am_pl m_Re_grid := ⟨am_f_Re_grid, by decide +kernel, by decide +kernel, am_all_at am_k_Re_grid⟩
theorem am_p_Re_wallRow : am_pl m_Re_wallRow := ⟨am_f_Re_wallRow, by decide +kernel, by decide +kernel, am_all_at am_k_Re_wallRow⟩
theorem am_p_Re_wall : am_pl m_Re_wall := ⟨am_f_Re_wall, by decide +kernel, by decide +kernel, am_all_at am_k_Re_wall⟩
theorem am_p_Re_isWallTold : am_pl m_Re_isWallTold := ⟨am_f_Re_isWallTold, by decide +kernel, by decide +kernel, am_all_at am_k_Re_isWallTold⟩
theorem am_p_Re_waysBelow : am_pl m_Re_waysBelow := ⟨am_f_Re_waysBelow, by decide +kernel, by decide +kernel, am_all_at am_k_Re_waysBelow⟩
theorem am_p_Re_chosenBelow : am_pl m_Re_chosenBelow := ⟨am_f_Re_chosenBelow, by decide +kernel, by decide +kernel, am_all_at am_k_Re_chosenBelow⟩
theorem am_p_Re_plane : am_pl m_Re_plane := ⟨am_f_Re_plane, by decide +kernel, by decide +kernel, am_all_at am_k_Re_plane⟩
theorem am_p_Re_figures : am_pl m_Re_figures := ⟨am_f_Re_figures, by decide +kernel, by decide +kernel, am_all_at am_k_Re_figures⟩
theorem am_p_Re_isGroupTold : am_pl m_Re_isGroupTold := ⟨am_f_Re_isGroupTold, by decide +kernel, by decide +kernel, am_all_at am_k_Re_isGroupTold⟩
theorem am_p_Ro_takes : am_pl m_Ro_takes := ⟨am_f_Ro_takes, by decide +kernel, by decide +kernel, am_all_at am_k_Ro_takes⟩
theorem am_p_Ro_nature : am_pl m_Ro_nature := ⟨am_f_Ro_nature, by decide +kernel, by decide +kernel, am_all_at am_k_Ro_nature⟩
theorem am_p_Ro_anyTwoMeet : am_pl m_Ro_anyTwoMeet := ⟨am_f_Ro_anyTwoMeet, by decide +kernel, by decide +kernel, am_all_at am_k_Ro_anyTwoMeet⟩
theorem am_p_Ro_isNonePart : am_pl m_Ro_isNonePart := ⟨am_f_Ro_isNonePart, by decide +kernel, by decide +kernel, am_all_at am_k_Ro_isNonePart⟩
theorem am_p_Ro_isOneCount : am_pl m_Ro_isOneCount := ⟨am_f_Ro_isOneCount, by decide +kernel, by decide +kernel, am_all_at am_k_Ro_isOneCount⟩
theorem am_p_Ro_isEven : am_pl m_Ro_isEven := ⟨am_f_Ro_isEven, by decide +kernel, by decide +kernel, am_all_at am_k_Ro_isEven⟩
theorem am_p_Ro_timesOf : am_pl m_Ro_timesOf := ⟨am_f_Ro_timesOf, by decide +kernel, by decide +kernel, am_all_at am_k_Ro_timesOf⟩
theorem am_p_Ro_isJustGroups : am_pl m_Ro_isJustGroups := ⟨am_f_Ro_isJustGroups, by decide +kernel, by decide +kernel, am_all_at am_k_Ro_isJustGroups⟩
theorem am_p_Sh_begin : am_pl m_Sh_begin := ⟨am_f_Sh_begin, by decide +kernel, by decide +kernel, am_all_at am_k_Sh_begin⟩
theorem am_p_Sh_spans : am_pl m_Sh_spans := ⟨am_f_Sh_spans, by decide +kernel, by decide +kernel, am_all_at am_k_Sh_spans⟩
theorem am_p_Sh_refusal : am_pl m_Sh_refusal := ⟨am_f_Sh_refusal, by decide +kernel, by decide +kernel, am_all_at am_k_Sh_refusal⟩
theorem am_p_Sh_at : am_pl m_Sh_at := ⟨am_f_Sh_at, by decide +kernel, by decide +kernel, am_all_at am_k_Sh_at⟩
theorem am_p_Sh_put : am_pl m_Sh_put := ⟨am_f_Sh_put, by decide +kernel, by decide +kernel, am_all_at am_k_Sh_put⟩
theorem am_p_Sh_lowestBits : am_pl m_Sh_lowestBits := ⟨am_f_Sh_lowestBits, by decide +kernel, by decide +kernel, am_all_at am_k_Sh_lowestBits⟩
theorem am_p_St_becomes : am_pl m_St_becomes := ⟨am_f_St_becomes, by decide +kernel, by decide +kernel, am_all_at am_k_St_becomes⟩
theorem am_p_St_becomesTold : am_pl m_St_becomesTold := ⟨am_f_St_becomesTold, by decide +kernel, by decide +kernel, am_all_at am_k_St_becomesTold⟩
theorem am_p_St_all : am_pl m_St_all := ⟨am_f_St_all, by decide +kernel, by decide +kernel, am_all_at am_k_St_all⟩
theorem am_p_St_isPart : am_pl m_St_isPart := ⟨am_f_St_isPart, by decide +kernel, by decide +kernel, am_all_at am_k_St_isPart⟩
theorem am_p_St_isSet : am_pl m_St_isSet := ⟨am_f_St_isSet, by decide +kernel, by decide +kernel, am_all_at am_k_St_isSet⟩
theorem am_p_St_hasBeyond : am_pl m_St_hasBeyond := ⟨am_f_St_hasBeyond, by decide +kernel, by decide +kernel, am_all_at am_k_St_hasBeyond⟩
theorem am_p_St_placeOf : am_pl m_St_placeOf := ⟨am_f_St_placeOf, by decide +kernel, by decide +kernel, am_all_at am_k_St_placeOf⟩
theorem am_p_St_append : am_pl m_St_append := ⟨am_f_St_append, by decide +kernel, by decide +kernel, am_all_at am_k_St_append⟩
theorem am_p_St_removeAt : am_pl m_St_removeAt := ⟨am_f_St_removeAt, by decide +kernel, by decide +kernel, am_all_at am_k_St_removeAt⟩
theorem am_p_St_drawTurn : am_pl m_St_drawTurn := ⟨am_f_St_drawTurn, by decide +kernel, by decide +kernel, am_all_at am_k_St_drawTurn⟩
theorem am_p_St_holdsGroup : am_pl m_St_holdsGroup := ⟨am_f_St_holdsGroup, by decide +kernel, by decide +kernel, am_all_at am_k_St_holdsGroup⟩
theorem am_p_St_isSuperfluous : am_pl m_St_isSuperfluous := ⟨am_f_St_isSuperfluous, by decide +kernel, by decide +kernel, am_all_at am_k_St_isSuperfluous⟩
theorem am_p_St_leastCommonOf : am_pl m_St_leastCommonOf := ⟨am_f_St_leastCommonOf, by decide +kernel, by decide +kernel, am_all_at am_k_St_leastCommonOf⟩
theorem am_p_St_groupsWith : am_pl m_St_groupsWith := ⟨am_f_St_groupsWith, by decide +kernel, by decide +kernel, am_all_at am_k_St_groupsWith⟩
theorem am_p_St_common : am_pl m_St_common := ⟨am_f_St_common, by decide +kernel, by decide +kernel, am_all_at am_k_St_common⟩
theorem am_p_Ta_append : am_pl m_Ta_append := ⟨am_f_Ta_append, by decide +kernel, by decide +kernel, am_all_at am_k_Ta_append⟩
theorem am_p_Ta_at : am_pl m_Ta_at := ⟨am_f_Ta_at, by decide +kernel, by decide +kernel, am_all_at am_k_Ta_at⟩
theorem am_p_MG_group : am_pl m_MG_group := ⟨am_f_MG_group, by decide +kernel, by decide +kernel, am_all_at am_k_MG_group⟩
theorem am_p_MG_element : am_pl m_MG_element := ⟨am_f_MG_element, by decide +kernel, by decide +kernel, am_all_at am_k_MG_element⟩
theorem am_p_MG_count : am_pl m_MG_count := ⟨am_f_MG_count, by decide +kernel, by decide +kernel, am_all_at am_k_MG_count⟩
theorem am_p_MG_load : am_pl m_MG_load := ⟨am_f_MG_load, by decide +kernel, by decide +kernel, am_all_at am_k_MG_load⟩
theorem am_p_MG_plan : am_pl m_MG_plan := ⟨am_f_MG_plan, by decide +kernel, by decide +kernel, am_all_at am_k_MG_plan⟩
theorem am_p_MG_standing : am_pl m_MG_standing := ⟨am_f_MG_standing, by decide +kernel, by decide +kernel, am_all_at am_k_MG_standing⟩
theorem am_p_MG_stands : am_pl m_MG_stands := ⟨am_f_MG_stands, by decide +kernel, by decide +kernel, am_all_at am_k_MG_stands⟩
theorem am_p_MG_free : am_pl m_MG_free := ⟨am_f_MG_free, by decide +kernel, by decide +kernel, am_all_at am_k_MG_free⟩
theorem am_p_MG_probe : am_pl m_MG_probe := ⟨am_f_MG_probe, by decide +kernel, by decide +kernel, am_all_at am_k_MG_probe⟩
theorem am_p_MG_add : am_pl m_MG_add := ⟨am_f_MG_add, by decide +kernel, by decide +kernel, am_all_at am_k_MG_add⟩
theorem am_p_MG_out : am_pl m_MG_out := ⟨am_f_MG_out, by decide +kernel, by decide +kernel, am_all_at am_k_MG_out⟩
theorem am_p_MG_size : am_pl m_MG_size := ⟨am_f_MG_size, by decide +kernel, by decide +kernel, am_all_at am_k_MG_size⟩
theorem am_p_MG_type : am_pl m_MG_type := ⟨am_f_MG_type, by decide +kernel, by decide +kernel, am_all_at am_k_MG_type⟩
theorem am_p_MG_read : am_pl m_MG_read := ⟨am_f_MG_read, by decide +kernel, by decide +kernel, am_all_at am_k_MG_read⟩
theorem am_p_MG_drift : am_pl m_MG_drift := ⟨am_f_MG_drift, by decide +kernel, by decide +kernel, am_all_at am_k_MG_drift⟩
theorem am_p_MG_undo : am_pl m_MG_undo := ⟨am_f_MG_undo, by decide +kernel, by decide +kernel, am_all_at am_k_MG_undo⟩
theorem am_p_MG_seed : am_pl m_MG_seed := ⟨am_f_MG_seed, by decide +kernel, by decide +kernel, am_all_at am_k_MG_seed⟩
theorem am_p_MG_image : am_pl m_MG_image := ⟨am_f_MG_image, by decide +kernel, by decide +kernel, am_all_at am_k_MG_image⟩
theorem am_p_MG_restore : am_pl m_MG_restore := ⟨am_f_MG_restore, by decide +kernel, by decide +kernel, am_all_at am_k_MG_restore⟩
theorem am_p_MG_keep : am_pl m_MG_keep := ⟨am_f_MG_keep, by decide +kernel, by decide +kernel, am_all_at am_k_MG_keep⟩
theorem am_p_MG_what : am_pl m_MG_what := ⟨am_f_MG_what, by decide +kernel, by decide +kernel, am_all_at am_k_MG_what⟩
theorem am_p_MG_film : am_pl m_MG_film := ⟨am_f_MG_film, by decide +kernel, by decide +kernel, am_all_at am_k_MG_film⟩
theorem am_p_MG_sheet : am_pl m_MG_sheet := ⟨am_f_MG_sheet, by decide +kernel, by decide +kernel, am_all_at am_k_MG_sheet⟩
theorem am_p_MG_drop : am_pl m_MG_drop := ⟨am_f_MG_drop, by decide +kernel, by decide +kernel, am_all_at am_k_MG_drop⟩
theorem am_p_MG_item : am_pl m_MG_item := ⟨am_f_MG_item, by decide +kernel, by decide +kernel, am_all_at am_k_MG_item⟩
theorem am_p_MG_copy : am_pl m_MG_copy := ⟨am_f_MG_copy, by decide +kernel, by decide +kernel, am_all_at am_k_MG_copy⟩
theorem am_p_MG_isSheet : am_pl m_MG_isSheet := ⟨am_f_MG_isSheet, by decide +kernel, by decide +kernel, am_all_at am_k_MG_isSheet⟩
theorem am_p_MG_isLane : am_pl m_MG_isLane := ⟨am_f_MG_isLane, by decide +kernel, by decide +kernel, am_all_at am_k_MG_isLane⟩
theorem am_p_MG_oneIf : am_pl m_MG_oneIf := ⟨am_f_MG_oneIf, by decide +kernel, by decide +kernel, am_all_at am_k_MG_oneIf⟩
theorem am_p_MG_strength : am_pl m_MG_strength := ⟨am_f_MG_strength, by decide +kernel, by decide +kernel, am_all_at am_k_MG_strength⟩
theorem am_p_MG_power : am_pl m_MG_power := ⟨am_f_MG_power, by decide +kernel, by decide +kernel, am_all_at am_k_MG_power⟩
theorem am_p_MG_ofFraction : am_pl m_MG_ofFraction := ⟨am_f_MG_ofFraction, by decide +kernel, by decide +kernel, am_all_at am_k_MG_ofFraction⟩
theorem am_p_MG_commonDivisor : am_pl m_MG_commonDivisor := ⟨am_f_MG_commonDivisor, by decide +kernel, by decide +kernel, am_all_at am_k_MG_commonDivisor⟩
theorem am_p_MD_in : am_pl m_MD_in := ⟨am_f_MD_in, by decide +kernel, by decide +kernel, am_all_at am_k_MD_in⟩
theorem am_p_MD_has : am_pl m_MD_has := ⟨am_f_MD_has, by decide +kernel, by decide +kernel, am_all_at am_k_MD_has⟩
theorem am_p_MD_bits : am_pl m_MD_bits := ⟨am_f_MD_bits, by decide +kernel, by decide +kernel, am_all_at am_k_MD_bits⟩
theorem am_p_MD_all : am_pl m_MD_all := ⟨am_f_MD_all, by decide +kernel, by decide +kernel, am_all_at am_k_MD_all⟩
theorem am_p_MD_at : am_pl m_MD_at := ⟨am_f_MD_at, by decide +kernel, by decide +kernel, am_all_at am_k_MD_at⟩
theorem am_p_MD_find : am_pl m_MD_find := ⟨am_f_MD_find, by decide +kernel, by decide +kernel, am_all_at am_k_MD_find⟩
theorem am_p_MD_holds : am_pl m_MD_holds := ⟨am_f_MD_holds, by decide +kernel, by decide +kernel, am_all_at am_k_MD_holds⟩
theorem am_p_MD_isMore : am_pl m_MD_isMore := ⟨am_f_MD_isMore, by decide +kernel, by decide +kernel, am_all_at am_k_MD_isMore⟩
theorem am_p_MD_leastWith : am_pl m_MD_leastWith := ⟨am_f_MD_leastWith, by decide +kernel, by decide +kernel, am_all_at am_k_MD_leastWith⟩
theorem am_p_MD_group : am_pl m_MD_group := ⟨am_f_MD_group, by decide +kernel, by decide +kernel, am_all_at am_k_MD_group⟩
theorem am_p_MD_turns : am_pl m_MD_turns := ⟨am_f_MD_turns, by decide +kernel, by decide +kernel, am_all_at am_k_MD_turns⟩
theorem am_p_MD_element : am_pl m_MD_element := ⟨am_f_MD_element, by decide +kernel, by decide +kernel, am_all_at am_k_MD_element⟩
theorem am_p_MD_common : am_pl m_MD_common := ⟨am_f_MD_common, by decide +kernel, by decide +kernel, am_all_at am_k_MD_common⟩
theorem am_p_MD_faults : am_pl m_MD_faults := ⟨am_f_MD_faults, by decide +kernel, by decide +kernel, am_all_at am_k_MD_faults⟩
theorem am_p_MD_liars : am_pl m_MD_liars := ⟨am_f_MD_liars, by decide +kernel, by decide +kernel, am_all_at am_k_MD_liars⟩
theorem am_p_MD_count : am_pl m_MD_count := ⟨am_f_MD_count, by decide +kernel, by decide +kernel, am_all_at am_k_MD_count⟩
theorem am_p_MD_reduces : am_pl m_MD_reduces := ⟨am_f_MD_reduces, by decide +kernel, by decide +kernel, am_all_at am_k_MD_reduces⟩
theorem am_p_MD_nth : am_pl m_MD_nth := ⟨am_f_MD_nth, by decide +kernel, by decide +kernel, am_all_at am_k_MD_nth⟩
theorem am_p_MD_squares : am_pl m_MD_squares := ⟨am_f_MD_squares, by decide +kernel, by decide +kernel, am_all_at am_k_MD_squares⟩
theorem am_p_MD_swaps : am_pl m_MD_swaps := ⟨am_f_MD_swaps, by decide +kernel, by decide +kernel, am_all_at am_k_MD_swaps⟩
theorem am_p_MD_solves : am_pl m_MD_solves := ⟨am_f_MD_solves, by decide +kernel, by decide +kernel, am_all_at am_k_MD_solves⟩
theorem am_p_MD_takes : am_pl m_MD_takes := ⟨am_f_MD_takes, by decide +kernel, by decide +kernel, am_all_at am_k_MD_takes⟩
theorem am_p_MD_clears : am_pl m_MD_clears := ⟨am_f_MD_clears, by decide +kernel, by decide +kernel, am_all_at am_k_MD_clears⟩
theorem am_p_MD_bears : am_pl m_MD_bears := ⟨am_f_MD_bears, by decide +kernel, by decide +kernel, am_all_at am_k_MD_bears⟩
theorem am_p_MD_loadOf : am_pl m_MD_loadOf := ⟨am_f_MD_loadOf, by decide +kernel, by decide +kernel, am_all_at am_k_MD_loadOf⟩
theorem am_p_MD_evens : am_pl m_MD_evens := ⟨am_f_MD_evens, by decide +kernel, by decide +kernel, am_all_at am_k_MD_evens⟩
theorem am_p_MD_slim : am_pl m_MD_slim := ⟨am_f_MD_slim, by decide +kernel, by decide +kernel, am_all_at am_k_MD_slim⟩
theorem am_p_MD_loads : am_pl m_MD_loads := ⟨am_f_MD_loads, by decide +kernel, by decide +kernel, am_all_at am_k_MD_loads⟩
theorem am_p_MD_load : am_pl m_MD_load := ⟨am_f_MD_load, by decide +kernel, by decide +kernel, am_all_at am_k_MD_load⟩
theorem am_p_MD_planAt : am_pl m_MD_planAt := ⟨am_f_MD_planAt, by decide +kernel, by decide +kernel, am_all_at am_k_MD_planAt⟩
theorem am_p_MD_weighs : am_pl m_MD_weighs := ⟨am_f_MD_weighs, by decide +kernel, by decide +kernel, am_all_at am_k_MD_weighs⟩
theorem am_p_MD_plan : am_pl m_MD_plan := ⟨am_f_MD_plan, by decide +kernel, by decide +kernel, am_all_at am_k_MD_plan⟩
theorem am_p_MD_drops : am_pl m_MD_drops := ⟨am_f_MD_drops, by decide +kernel, by decide +kernel, am_all_at am_k_MD_drops⟩
theorem am_p_MD_keep : am_pl m_MD_keep := ⟨am_f_MD_keep, by decide +kernel, by decide +kernel, am_all_at am_k_MD_keep⟩
theorem am_p_MD_standing : am_pl m_MD_standing := ⟨am_f_MD_standing, by decide +kernel, by decide +kernel, am_all_at am_k_MD_standing⟩
theorem am_p_MD_stands : am_pl m_MD_stands := ⟨am_f_MD_stands, by decide +kernel, by decide +kernel, am_all_at am_k_MD_stands⟩
theorem am_p_MD_isFree : am_pl m_MD_isFree := ⟨am_f_MD_isFree, by decide +kernel, by decide +kernel, am_all_at am_k_MD_isFree⟩
theorem am_p_MD_free : am_pl m_MD_free := ⟨am_f_MD_free, by decide +kernel, by decide +kernel, am_all_at am_k_MD_free⟩
theorem am_p_MD_power : am_pl m_MD_power := ⟨am_f_MD_power, by decide +kernel, by decide +kernel, am_all_at am_k_MD_power⟩
theorem am_p_MD_digit : am_pl m_MD_digit := ⟨am_f_MD_digit, by decide +kernel, by decide +kernel, am_all_at am_k_MD_digit⟩
theorem am_p_MD_those : am_pl m_MD_those := ⟨am_f_MD_those, by decide +kernel, by decide +kernel, am_all_at am_k_MD_those⟩
theorem am_p_MD_probesOf : am_pl m_MD_probesOf := ⟨am_f_MD_probesOf, by decide +kernel, by decide +kernel, am_all_at am_k_MD_probesOf⟩
theorem am_p_MD_probe : am_pl m_MD_probe := ⟨am_f_MD_probe, by decide +kernel, by decide +kernel, am_all_at am_k_MD_probe⟩
theorem am_p_MD_add : am_pl m_MD_add := ⟨am_f_MD_add, by decide +kernel, by decide +kernel, am_all_at am_k_MD_add⟩
theorem am_p_MD_comes : am_pl m_MD_comes := ⟨am_f_MD_comes, by decide +kernel, by decide +kernel, am_all_at am_k_MD_comes⟩
theorem am_p_MD_goes : am_pl m_MD_goes := ⟨am_f_MD_goes, by decide +kernel, by decide +kernel, am_all_at am_k_MD_goes⟩
theorem am_p_MD_out : am_pl m_MD_out := ⟨am_f_MD_out, by decide +kernel, by decide +kernel, am_all_at am_k_MD_out⟩
theorem am_p_MD_size : am_pl m_MD_size := ⟨am_f_MD_size, by decide +kernel, by decide +kernel, am_all_at am_k_MD_size⟩
theorem am_p_MD_drift : am_pl m_MD_drift := ⟨am_f_MD_drift, by decide +kernel, by decide +kernel, am_all_at am_k_MD_drift⟩
theorem am_p_MD_seed : am_pl m_MD_seed := ⟨am_f_MD_seed, by decide +kernel, by decide +kernel, am_all_at am_k_MD_seed⟩
theorem am_p_MD_type : am_pl m_MD_type := ⟨am_f_MD_type, by decide +kernel, by decide +kernel, am_all_at am_k_MD_type⟩
theorem am_p_MD_here : am_pl m_MD_here := ⟨am_f_MD_here, by decide +kernel, by decide +kernel, am_all_at am_k_MD_here⟩
theorem am_p_MD_figure : am_pl m_MD_figure := ⟨am_f_MD_figure, by decide +kernel, by decide +kernel, am_all_at am_k_MD_figure⟩
theorem am_p_MD_gets : am_pl m_MD_gets := ⟨am_f_MD_gets, by decide +kernel, by decide +kernel, am_all_at am_k_MD_gets⟩
theorem am_p_MD_isGot : am_pl m_MD_isGot := ⟨am_f_MD_isGot, by decide +kernel, by decide +kernel, am_all_at am_k_MD_isGot⟩
theorem am_p_MD_majority : am_pl m_MD_majority := ⟨am_f_MD_majority, by decide +kernel, by decide +kernel, am_all_at am_k_MD_majority⟩
theorem am_p_MD_grid : am_pl m_MD_grid := ⟨am_f_MD_grid, by decide +kernel, by decide +kernel, am_all_at am_k_MD_grid⟩
theorem am_p_MD_wall : am_pl m_MD_wall := ⟨am_f_MD_wall, by decide +kernel, by decide +kernel, am_all_at am_k_MD_wall⟩
theorem am_p_MD_walls : am_pl m_MD_walls := ⟨am_f_MD_walls, by decide +kernel, by decide +kernel, am_all_at am_k_MD_walls⟩
theorem am_p_MD_plane : am_pl m_MD_plane := ⟨am_f_MD_plane, by decide +kernel, by decide +kernel, am_all_at am_k_MD_plane⟩
theorem am_p_MD_told : am_pl m_MD_told := ⟨am_f_MD_told, by decide +kernel, by decide +kernel, am_all_at am_k_MD_told⟩
theorem am_p_MD_one : am_pl m_MD_one := ⟨am_f_MD_one, by decide +kernel, by decide +kernel, am_all_at am_k_MD_one⟩
theorem am_p_MD_isName : am_pl m_MD_isName := ⟨am_f_MD_isName, by decide +kernel, by decide +kernel, am_all_at am_k_MD_isName⟩
theorem am_p_MD_isText : am_pl m_MD_isText := ⟨am_f_MD_isText, by decide +kernel, by decide +kernel, am_all_at am_k_MD_isText⟩
theorem am_p_MD_read : am_pl m_MD_read := ⟨am_f_MD_read, by decide +kernel, by decide +kernel, am_all_at am_k_MD_read⟩
theorem am_p_MD_notes : am_pl m_MD_notes := ⟨am_f_MD_notes, by decide +kernel, by decide +kernel, am_all_at am_k_MD_notes⟩
theorem am_p_MD_undo : am_pl m_MD_undo := ⟨am_f_MD_undo, by decide +kernel, by decide +kernel, am_all_at am_k_MD_undo⟩
theorem am_p_MD_image : am_pl m_MD_image := ⟨am_f_MD_image, by decide +kernel, by decide +kernel, am_all_at am_k_MD_image⟩
theorem am_p_MD_restore : am_pl m_MD_restore := ⟨am_f_MD_restore, by decide +kernel, by decide +kernel, am_all_at am_k_MD_restore⟩
theorem am_p_MD_isSheet : am_pl m_MD_isSheet := ⟨am_f_MD_isSheet, by decide +kernel, by decide +kernel, am_all_at am_k_MD_isSheet⟩
theorem am_p_MD_cut : am_pl m_MD_cut := ⟨am_f_MD_cut, by decide +kernel, by decide +kernel, am_all_at am_k_MD_cut⟩
theorem am_p_MD_sheet : am_pl m_MD_sheet := ⟨am_f_MD_sheet, by decide +kernel, by decide +kernel, am_all_at am_k_MD_sheet⟩
theorem am_p_MD_drop : am_pl m_MD_drop := ⟨am_f_MD_drop, by decide +kernel, by decide +kernel, am_all_at am_k_MD_drop⟩
theorem am_p_MD_why : am_pl m_MD_why := ⟨am_f_MD_why, by decide +kernel, by decide +kernel, am_all_at am_k_MD_why⟩
theorem am_p_MD_item : am_pl m_MD_item := ⟨am_f_MD_item, by decide +kernel, by decide +kernel, am_all_at am_k_MD_item⟩
theorem am_p_MD_copy : am_pl m_MD_copy := ⟨am_f_MD_copy, by decide +kernel, by decide +kernel, am_all_at am_k_MD_copy⟩
theorem am_p_MD_row : am_pl m_MD_row := ⟨am_f_MD_row, by decide +kernel, by decide +kernel, am_all_at am_k_MD_row⟩
theorem am_p_MD_ofTwo : am_pl m_MD_ofTwo := ⟨am_f_MD_ofTwo, by decide +kernel, by decide +kernel, am_all_at am_k_MD_ofTwo⟩
theorem am_p_MD_isEven : am_pl m_MD_isEven := ⟨am_f_MD_isEven, by decide +kernel, by decide +kernel, am_all_at am_k_MD_isEven⟩
theorem am_p_MD_isJust : am_pl m_MD_isJust := ⟨am_f_MD_isJust, by decide +kernel, by decide +kernel, am_all_at am_k_MD_isJust⟩
theorem am_p_MD_what : am_pl m_MD_what := ⟨am_f_MD_what, by decide +kernel, by decide +kernel, am_all_at am_k_MD_what⟩
theorem am_p_MD_film : am_pl m_MD_film := ⟨am_f_MD_film, by decide +kernel, by decide +kernel, am_all_at am_k_MD_film⟩
end
section
/-! a step of the small machine is a step of the true one -/
abbrev am_A (B0 : Nat) : Nat → Prop := fun q => B0 ≤ q
def am_tys (cy : Nat → ClassId) : List (ClassId × FieldType) := [(cy 12, .byte), (cy 13, .char), (cy 14, .int), (cy 15, .long), (cy 16, .boolean), (cy 17, .object RX7), (cy 18, .object RX8), (cy 19, .array .int)]
def am_kk (D : va_G) (cy : Nat → ClassId) (α : Nat → Nat) (s : State) : Prop := va_K D am_cl (am_tys cy) s ∧ ∀ t, t < 5 → vk_R RX5 (am_si t) (am_sx t) (α (am_SB + t)) s
/-- what stays of the JDK: the five texts, two statics -/
def am_st (α adV : Nat → Nat) (B0 : Nat) (s : State) (H : Heap) : Prop := vk_S 5 am_len am_byt (fun t => α (am_SB + t)) adV (am_A B0) s H ∧ va_Z "java/lang/String" "COMPACT_STRINGS" "Z" (.int 1) (am_A B0) s H ∧ va_Zq "jdk/internal/util/Preconditions" "SIOOBE_FORMATTER" "Ljava/util/function/BiFunction;" (am_A B0) s H
theorem am_st.moved {α adV : Nat → Nat} {B0 : Nat} {u U : State} {H : Heap} (hvm : u.vm.Alike U.vm) (h : am_st α adV B0 u H) : am_st α adV B0 U H := ⟨h.1.moved hvm, h.2.1.moved hvm, h.2.2.moved hvm⟩
theorem am_st.kept {α adV : Nat → Nat} {B0 : Nat} {U : State} {H H1 : Heap} (h : am_st α adV B0 U H) (hq : ∀ a : Nat, a < H.size → ¬ am_A B0 a → H1[a]? = H[a]?) : am_st α adV B0 U H1 := ⟨h.1.kept hq, h.2.1.kept hq, h.2.2.kept hq⟩
def am_hr (D : va_G) (cy : Nat → ClassId) (α adV : Nat → Nat) (B0 : Nat) (h : am_H) (σ : am_S) (s : State) (H : Heap) : Prop :=
  va_P D am_cl (am_ws cy α h σ) H ∧ va_D (am_A B0) (am_ws cy α h σ) ∧ am_st α adV B0 s H
def am_hok (h : am_H) : Prop := ∀ (i k n : Nat), h[i]? = some (k, n) → n < 2 ^ 31
def am_Pc (D : va_G) (cy : Nat → ClassId) (α adV : Nat → Nat) (B0 : Nat) (h : am_H) (σ : am_S) (as : List Value) : Array Value → State → Prop := fun v U => v = (as.map (am_cv α)).toArray ∧ B0 ≤ U.heap.size ∧ am_kk D cy α U ∧ am_hr D cy α adV B0 h σ U U.heap
def am_Qc (D : va_G) (cy : Nat → ClassId) (α : Nat → Nat) (B0 : Nat) (h : am_H) (q : am_Q) : Array Value → State → Outcome → State → Prop := fun _ st o t =>
  ∃ (r : Option Value) (σ : am_S), o = .returned (r.map (am_cv α)) ∧ q r σ ∧ va_P D am_cl (am_ws cy α h σ) t.heap ∧ va_D (am_A B0) (am_ws cy α h σ) ∧ va_F (am_A B0) st t
theorem am_hr.put {D : va_G} {cy : Nat → ClassId} {α adV : Nat → Nat} {B0 : Nat} {h : am_H} {σ σ' : am_S} {s : State} {H H0 H1 : Heap} {locs : List Loc} {i : Nat} {x : Nat × Nat} (hh : am_hr D cy α adV B0 h σ s H) (_hS : va_S (am_A B0) H0 H locs) (hx : h[i]? = some x) (ho : ∀ j, j ≠ i → σ'.1 j = σ.1 j ∧ σ'.2.1 j = σ.2.1 j ∧ σ'.2.2 j = σ.2.2 j) (hE : (∀ q : Nat, q < B0 → H1[q]? = H[q]?)) (hP : va_P D am_cl ((am_ws cy α h σ).set i (α i, am_cell cy α σ' i x)) H1) (hD : va_D (am_A B0) ((am_ws cy α h σ).set i (α i, am_cell cy α σ' i x))) : am_hr D cy α adV B0 h σ' s H1 := by
  refine ⟨by rw [am_ws_upd hx ho]; exact hP, by rw [am_ws_upd hx ho]; exact hD, hh.2.2.kept fun q _ hq => hE q (Nat.not_le.mp hq)⟩
/-- below B0 the heap stays: two frames over the same beginning -/
theorem am_S_eq {B0 : Nat} {H0 H H1 : Heap} {locs locs1 : List Loc} (hB : B0 ≤ H0.size) (hS : va_S (am_A B0) H0 H locs) (hS1 : va_S (am_A B0) H0 H1 locs1) : ∀ q : Nat, q < B0 → H1[q]? = H[q]? := fun q hq => (hS1.2.1 q (Nat.lt_of_lt_of_le hq hB) (Nat.not_le.mpr hq)).trans (hS.2.1 q (Nat.lt_of_lt_of_le hq hB) (Nat.not_le.mpr hq)).symm
theorem am_swc_at {x : Int32} {d : Prop} {g : Nat → Prop} {p : Nat} : ∀ {os : List Int} {sw : List (Int32 × Nat)} {lo : Int}, am_swc p lo os sw = true → am_sw x d g sw → ((x.toInt < lo ∨ lo + os.length - 1 < x.toInt) ∧ d) ∨ ∃ (i : Nat) (o : Int) (t : Nat), x.toInt = lo + i ∧ os[i]? = some o ∧ (p : Int) + o = (t : Int) ∧ g t
  | [], [], lo, _, h => by
    left
    refine ⟨?_, h⟩
    simp
    omega
  | o :: os, (y, t) :: r, lo, hc, h => by
    simp only [am_swc, Bool.and_eq_true, decide_eq_true_eq] at hc
    obtain ⟨⟨c1, c2⟩, c3⟩ := hc
    by_cases e : x = y
    · right
      subst e
      exact ⟨0, o, t, by omega, rfl, c2, h.1 rfl⟩
    · rcases am_swc_at c3 (h.2 e) with ⟨g1, g2⟩ | ⟨i, o', t', g1, g2, g3, g4⟩
      · left
        refine ⟨?_, g2⟩
        have hne : x.toInt ≠ lo := fun q => e (Int32.toInt_inj.mp (q.trans c1.symm))
        simp only [List.length_cons]
        omega
      · right
        exact ⟨i + 1, o', t', by omega, g2, g3, g4⟩
  | [], _ :: _, _, hc, _ => by simp [am_swc] at hc
  | _ :: _, [], _, hc, _ => by simp [am_swc] at hc
theorem am_inI {n j : Nat} (h : j < n) (hn : n < 2 ^ 31) : vp_in (nI j) n ∧ (nI j).toNatClampNeg = j := ⟨vp_in_nI h hn, nI_clamp (by omega)⟩
theorem am_row_up {α : Type} {f : Nat → Nat → α} {a k : Nat} {v : α} {j : Nat} (h : j ≠ a) : am_up f a k v j = f j := by
  funext b
  simp [am_up, h]
theorem am_up_self {f : Nat → Nat → Int32} {a k : Nat} {v : Int32} : am_up f a k v a = upd (f a) k v := by
  funext b
  simp [am_up, upd]
theorem am_up_selfL {f : Nat → Nat → Int64} {a k : Nat} {v : Int64} : am_up f a k v a = vp_updL (f a) k v := by
  funext b
  simp [am_up, vp_updL]
theorem am_rowr {α : Type} {f : Nat → Nat → α} {a : Nat} {g : Nat → α} {j : Nat} (h : j ≠ a) : am_row f a g j = f j := by
  funext b
  simp [am_row, h]
theorem am_row_self {α : Type} {f : Nat → Nat → α} {a : Nat} {g : Nat → α} : am_row f a g a = g := by
  funext b
  simp [am_row]
theorem am_lst_set {α : Nat → Nat} {I : Nat → Nat → Int32} {J : Nat → Nat → Int64} {R : Nat → Nat → Option Nat} {i ci d : Nat} {x : Int32} (hd : d < am_nf ci) (hr : am_isR (am_ft ci d) = false) : (List.range (am_nf ci)).map (am_fv α (am_up I i d x, J, R) i ci) = ((List.range (am_nf ci)).map (am_fv α (I, J, R) i ci)).set d (.int x) := by
  apply List.ext_getElem?
  intro j
  rw [List.getElem?_set, List.getElem?_map, List.getElem?_map, List.length_map, List.length_range]
  by_cases e : d = j
  · subst e
    rw [if_pos rfl, if_pos hd, List.getElem?_range hd]
    simp [am_fv, hr, am_up]
  · rw [if_neg e]
    by_cases hj : j < am_nf ci
    · rw [List.getElem?_range hj]
      simp [am_fv, am_up, Ne.symm e]
    · rw [List.getElem?_eq_none (by simpa using hj)]
      rfl
theorem am_fs_at {α : Nat → Nat} {σ : am_S} {i ci d : Nat} (hd : d < am_nf ci) : ((List.range (am_nf ci)).map (am_fv α σ i ci))[d]? = some (am_fv α σ i ci d) := by
  rw [List.getElem?_map, List.getElem?_range hd]
  rfl
theorem am_cls_0 : ∀ w ∈ u_ws RX0 TX0 2, w ∈ am_TS := by
  intro w hw
  obtain ⟨k, hk, rfl⟩ := List.mem_map.mp hw
  have hk := List.mem_range.mp hk
  exact am_w_in (c := (([(0, 98), (0, 100)] : List (Nat × Nat)).getD k (0, 0)).1) (i := (([(0, 98), (0, 100)] : List (Nat × Nat)).getD k (0, 0)).2) ((by decide +kernel : ∀ k, k < 2 → am_w (([(0, 98), (0, 100)] : List (Nat × Nat)).getD k (0, 0)).1 (([(0, 98), (0, 100)] : List (Nat × Nat)).getD k (0, 0)).2 (u_lay RX0 TX0 k) = true) k hk)
theorem am_cls_1 : ∀ w ∈ u_ws RX1 TX1 2, w ∈ am_TS := by
  intro w hw
  obtain ⟨k, hk, rfl⟩ := List.mem_map.mp hw
  have hk := List.mem_range.mp hk
  exact am_w_in (c := (([(0, 160), (0, 162)] : List (Nat × Nat)).getD k (0, 0)).1) (i := (([(0, 160), (0, 162)] : List (Nat × Nat)).getD k (0, 0)).2) ((by decide +kernel : ∀ k, k < 2 → am_w (([(0, 160), (0, 162)] : List (Nat × Nat)).getD k (0, 0)).1 (([(0, 160), (0, 162)] : List (Nat × Nat)).getD k (0, 0)).2 (u_lay RX1 TX1 k) = true) k hk)
theorem am_cls_2 : ∀ w ∈ u_ws RX2 TX2 6, w ∈ am_TS := by
  intro w hw
  obtain ⟨k, hk, rfl⟩ := List.mem_map.mp hw
  have hk := List.mem_range.mp hk
  exact am_w_in (c := (([(0, 205), (0, 207), (0, 209), (0, 211), (0, 213), (0, 215)] : List (Nat × Nat)).getD k (0, 0)).1) (i := (([(0, 205), (0, 207), (0, 209), (0, 211), (0, 213), (0, 215)] : List (Nat × Nat)).getD k (0, 0)).2) ((by decide +kernel : ∀ k, k < 6 → am_w (([(0, 205), (0, 207), (0, 209), (0, 211), (0, 213), (0, 215)] : List (Nat × Nat)).getD k (0, 0)).1 (([(0, 205), (0, 207), (0, 209), (0, 211), (0, 213), (0, 215)] : List (Nat × Nat)).getD k (0, 0)).2 (u_lay RX2 TX2 k) = true) k hk)
theorem am_cls_3 : ∀ w ∈ u_ws RX3 TX3 4, w ∈ am_TS := by
  intro w hw
  obtain ⟨k, hk, rfl⟩ := List.mem_map.mp hw
  have hk := List.mem_range.mp hk
  exact am_w_in (c := (([(0, 47), (0, 49), (0, 51), (0, 53)] : List (Nat × Nat)).getD k (0, 0)).1) (i := (([(0, 47), (0, 49), (0, 51), (0, 53)] : List (Nat × Nat)).getD k (0, 0)).2) ((by decide +kernel : ∀ k, k < 4 → am_w (([(0, 47), (0, 49), (0, 51), (0, 53)] : List (Nat × Nat)).getD k (0, 0)).1 (([(0, 47), (0, 49), (0, 51), (0, 53)] : List (Nat × Nat)).getD k (0, 0)).2 (u_lay RX3 TX3 k) = true) k hk)
theorem am_cls_4 : ∀ w ∈ u_ws RX4 TX4 5, w ∈ am_TS := by
  intro w hw
  obtain ⟨k, hk, rfl⟩ := List.mem_map.mp hw
  have hk := List.mem_range.mp hk
  exact am_w_in (c := (([(0, 179), (0, 181), (0, 183), (0, 185), (0, 187)] : List (Nat × Nat)).getD k (0, 0)).1) (i := (([(0, 179), (0, 181), (0, 183), (0, 185), (0, 187)] : List (Nat × Nat)).getD k (0, 0)).2) ((by decide +kernel : ∀ k, k < 5 → am_w (([(0, 179), (0, 181), (0, 183), (0, 185), (0, 187)] : List (Nat × Nat)).getD k (0, 0)).1 (([(0, 179), (0, 181), (0, 183), (0, 185), (0, 187)] : List (Nat × Nat)).getD k (0, 0)).2 (u_lay RX4 TX4 k) = true) k hk)
theorem am_cls_5 : ∀ w ∈ u_ws RX5 TX5 7, w ∈ am_TS := by
  intro w hw
  obtain ⟨k, hk, rfl⟩ := List.mem_map.mp hw
  have hk := List.mem_range.mp hk
  exact am_w_in (c := (([(0, 135), (0, 137), (0, 139), (0, 141), (0, 143), (0, 145), (0, 147)] : List (Nat × Nat)).getD k (0, 0)).1) (i := (([(0, 135), (0, 137), (0, 139), (0, 141), (0, 143), (0, 145), (0, 147)] : List (Nat × Nat)).getD k (0, 0)).2) ((by decide +kernel : ∀ k, k < 7 → am_w (([(0, 135), (0, 137), (0, 139), (0, 141), (0, 143), (0, 145), (0, 147)] : List (Nat × Nat)).getD k (0, 0)).1 (([(0, 135), (0, 137), (0, 139), (0, 141), (0, 143), (0, 145), (0, 147)] : List (Nat × Nat)).getD k (0, 0)).2 (u_lay RX5 TX5 k) = true) k hk)
theorem am_cls_6 : ∀ w ∈ u_ws RX6 TX6 2, w ∈ am_TS := by
  intro w hw
  obtain ⟨k, hk, rfl⟩ := List.mem_map.mp hw
  have hk := List.mem_range.mp hk
  exact am_w_in (c := (([(0, 227), (0, 229)] : List (Nat × Nat)).getD k (0, 0)).1) (i := (([(0, 227), (0, 229)] : List (Nat × Nat)).getD k (0, 0)).2) ((by decide +kernel : ∀ k, k < 2 → am_w (([(0, 227), (0, 229)] : List (Nat × Nat)).getD k (0, 0)).1 (([(0, 227), (0, 229)] : List (Nat × Nat)).getD k (0, 0)).2 (u_lay RX6 TX6 k) = true) k hk)
theorem am_cls_7 : ∀ w ∈ u_ws RX7 TX7 4, w ∈ am_TS := by
  intro w hw
  obtain ⟨k, hk, rfl⟩ := List.mem_map.mp hw
  have hk := List.mem_range.mp hk
  exact am_w_in (c := (([(1, 7), (1, 9), (1, 11), (1, 13)] : List (Nat × Nat)).getD k (0, 0)).1) (i := (([(1, 7), (1, 9), (1, 11), (1, 13)] : List (Nat × Nat)).getD k (0, 0)).2) ((by decide +kernel : ∀ k, k < 4 → am_w (([(1, 7), (1, 9), (1, 11), (1, 13)] : List (Nat × Nat)).getD k (0, 0)).1 (([(1, 7), (1, 9), (1, 11), (1, 13)] : List (Nat × Nat)).getD k (0, 0)).2 (u_lay RX7 TX7 k) = true) k hk)
theorem am_cls_8 : ∀ w ∈ u_ws RX8 TX8 5, w ∈ am_TS := by
  intro w hw
  obtain ⟨k, hk, rfl⟩ := List.mem_map.mp hw
  have hk := List.mem_range.mp hk
  exact am_w_in (c := (([(0, 75), (0, 77), (0, 79), (0, 81), (0, 83)] : List (Nat × Nat)).getD k (0, 0)).1) (i := (([(0, 75), (0, 77), (0, 79), (0, 81), (0, 83)] : List (Nat × Nat)).getD k (0, 0)).2) ((by decide +kernel : ∀ k, k < 5 → am_w (([(0, 75), (0, 77), (0, 79), (0, 81), (0, 83)] : List (Nat × Nat)).getD k (0, 0)).1 (([(0, 75), (0, 77), (0, 79), (0, 81), (0, 83)] : List (Nat × Nat)).getD k (0, 0)).2 (u_lay RX8 TX8 k) = true) k hk)
theorem am_cls_9 : ∀ w ∈ u_ws RX9 TX9 2, w ∈ am_TS := by
  intro w hw
  obtain ⟨k, hk, rfl⟩ := List.mem_map.mp hw
  have hk := List.mem_range.mp hk
  exact am_w_in (c := (([(0, 118), (0, 120)] : List (Nat × Nat)).getD k (0, 0)).1) (i := (([(0, 118), (0, 120)] : List (Nat × Nat)).getD k (0, 0)).2) ((by decide +kernel : ∀ k, k < 2 → am_w (([(0, 118), (0, 120)] : List (Nat × Nat)).getD k (0, 0)).1 (([(0, 118), (0, 120)] : List (Nat × Nat)).getD k (0, 0)).2 (u_lay RX9 TX9 k) = true) k hk)
theorem am_cls_10 : ∀ w ∈ u_ws RX10 TX10 11, w ∈ am_TS := by
  intro w hw
  obtain ⟨k, hk, rfl⟩ := List.mem_map.mp hw
  have hk := List.mem_range.mp hk
  exact am_w_in (c := (([(1, 28), (1, 30), (1, 32), (1, 34), (1, 36), (1, 38), (1, 40), (1, 42), (1, 44), (1, 46), (1, 48)] : List (Nat × Nat)).getD k (0, 0)).1) (i := (([(1, 28), (1, 30), (1, 32), (1, 34), (1, 36), (1, 38), (1, 40), (1, 42), (1, 44), (1, 46), (1, 48)] : List (Nat × Nat)).getD k (0, 0)).2) ((by decide +kernel : ∀ k, k < 11 → am_w (([(1, 28), (1, 30), (1, 32), (1, 34), (1, 36), (1, 38), (1, 40), (1, 42), (1, 44), (1, 46), (1, 48)] : List (Nat × Nat)).getD k (0, 0)).1 (([(1, 28), (1, 30), (1, 32), (1, 34), (1, 36), (1, 38), (1, 40), (1, 42), (1, 44), (1, 46), (1, 48)] : List (Nat × Nat)).getD k (0, 0)).2 (u_lay RX10 TX10 k) = true) k hk)
theorem am_cls_11 : ∀ w ∈ u_ws RX11 TX11 27, w ∈ am_TS := by
  intro w hw
  obtain ⟨k, hk, rfl⟩ := List.mem_map.mp hw
  have hk := List.mem_range.mp hk
  exact am_w_in (c := (([(3, 172), (3, 174), (3, 176), (3, 178), (3, 180), (3, 182), (3, 184), (3, 186), (3, 188), (3, 190), (3, 192), (3, 194), (3, 196), (3, 198), (3, 200), (3, 202), (3, 204), (3, 206), (3, 208), (3, 210), (3, 212), (3, 214), (3, 216), (3, 218), (3, 220), (3, 222), (3, 224)] : List (Nat × Nat)).getD k (0, 0)).1) (i := (([(3, 172), (3, 174), (3, 176), (3, 178), (3, 180), (3, 182), (3, 184), (3, 186), (3, 188), (3, 190), (3, 192), (3, 194), (3, 196), (3, 198), (3, 200), (3, 202), (3, 204), (3, 206), (3, 208), (3, 210), (3, 212), (3, 214), (3, 216), (3, 218), (3, 220), (3, 222), (3, 224)] : List (Nat × Nat)).getD k (0, 0)).2) ((by decide +kernel : ∀ k, k < 27 → am_w (([(3, 172), (3, 174), (3, 176), (3, 178), (3, 180), (3, 182), (3, 184), (3, 186), (3, 188), (3, 190), (3, 192), (3, 194), (3, 196), (3, 198), (3, 200), (3, 202), (3, 204), (3, 206), (3, 208), (3, 210), (3, 212), (3, 214), (3, 216), (3, 218), (3, 220), (3, 222), (3, 224)] : List (Nat × Nat)).getD k (0, 0)).1 (([(3, 172), (3, 174), (3, 176), (3, 178), (3, 180), (3, 182), (3, 184), (3, 186), (3, 188), (3, 190), (3, 192), (3, 194), (3, 196), (3, 198), (3, 200), (3, 202), (3, 204), (3, 206), (3, 208), (3, 210), (3, 212), (3, 214), (3, 216), (3, 218), (3, 220), (3, 222), (3, 224)] : List (Nat × Nat)).getD k (0, 0)).2 (u_lay RX11 TX11 k) = true) k hk)
theorem am_cls {ci : Nat} {C : String} {T : u_T} {N : Nat} (h : am_cl[ci]? = some (C, T, N)) : ∀ w ∈ u_ws C T N, w ∈ am_TS := by
  match ci, h with
  | 0, h => cases h; exact am_cls_0
  | 1, h => cases h; exact am_cls_1
  | 2, h => cases h; exact am_cls_2
  | 3, h => cases h; exact am_cls_3
  | 4, h => cases h; exact am_cls_4
  | 5, h => cases h; exact am_cls_5
  | 6, h => cases h; exact am_cls_6
  | 7, h => cases h; exact am_cls_7
  | 8, h => cases h; exact am_cls_8
  | 9, h => cases h; exact am_cls_9
  | 10, h => cases h; exact am_cls_10
  | 11, h => cases h; exact am_cls_11
  | n + 12, h => simp at h
theorem am_acn : Cond.native arraycopyName ∈ am_TS := am_w_in (c := 2) (i := 51) (by decide +kernel)
theorem am_acs : Cond.static arraycopyName ∈ am_TS := am_w_in (c := 2) (i := 50) (by decide +kernel)
theorem am_aci : Cond.initialized "java/lang/System" ∈ am_TS := am_w_in (c := 0) (i := 15) (by decide +kernel)
theorem am_mxs : Cond.static Lib.Math.max.name ∈ am_TS := am_w_in (c := 1) (i := 185) (by decide +kernel)
theorem am_mxc : Cond.code Lib.Math.max.name Lib.Math.max.code 2 (some .int) ∈ am_TS := am_w_in (c := 1) (i := 186) (by decide +kernel)
theorem am_mns : Cond.static Lib.Math.min.name ∈ am_TS := am_w_in (c := 1) (i := 106) (by decide +kernel)
theorem am_mnc : Cond.code Lib.Math.min.name Lib.Math.min.code 2 (some .int) ∈ am_TS := am_w_in (c := 1) (i := 107) (by decide +kernel)
theorem am_mxi : Cond.initialized "java/lang/Math" ∈ am_TS := am_w_in (c := 0) (i := 14) (by decide +kernel)
end
section
theorem am_alda {p : Program} {l : Launch} {e : Env} {R : Room} {s : State} {m : MethodId} {args : Array Value} {below : List Frame} {meth : Method} {c : Code} {H : Heap} {locs : List Loc} {cells slots : Nat} {Q : State → Prop} {cc : ByteArray} {pc : Nat} {ls : Array Slot} {rest : List Value} {D : va_G} {cl : List vw_C} {a : Nat} {tys : List (ClassId × FieldType)} {ws : va_W} (hexec : p.tables.exec = Jvm.exec) (hb : c.code = cc) (hK : va_K D cl tys s) (hP : va_P D cl ws H) (q0 t0 : Nat) {cA : ClassId} {ty : FieldType} {n : Nat} {f : Nat → Option Nat} (ha : ws[q0]? = some (a, .inl (cA, n, .inr (.inr (.inr (.inr f)))))) (ht : tys[t0]? = some (cA, .array ty)) {i : Int32} (hin : vp_in i n) (hdg : decode cc pc = .ok (.aaload, 1))
    (kk : W p l e R s m args below meth c H locs cells slots Q (F0 m (pc + 1) ls (va_rf (f i.toNatClampNeg) :: rest))) : W p l e R s m args below meth c H locs cells slots Q (F0 m pc ls (.int i :: .ref a :: rest)) := by
  have hlt : i.toNatClampNeg < n := Nat.not_le.mp fun q => hin (Or.inr q)
  exact W.aald (v := va_rf (f i.toNatClampNeg)) (ty := .array ty) hexec hb (hP q0 _ ha) ((hK.2 t0 _ ht).1 n (fun j => va_rf (f j))) rfl (fun q => by cases q) (by show ¬ (i < 0 ∨ (arrV _ _ _).slots.size ≤ _); rw [arrV_size]; exact hin) (by show (arrV _ _ _).slots[_]? = _; rw [arrV_read _ _ hlt]) rfl rfl hdg kk
section SIM
variable {p : Program} {l : Launch} {e : Env} {R : Room} {s : State} {m : MethodId} {args : Array Value} {below : List Frame} {meth : Method} {c : Code} {cells slots : Nat} {Q : State → Prop}
variable {D : va_G} {cy : Nat → ClassId} {α adV : Nat → Nat} {B0 : Nat} {h : am_H} {L : Nat} {xs : Nat → Int32} {own : String} {cc : ByteArray} {nL : Nat} {ret : Option FieldType}
/-- the true machine goes on from there -/
abbrev am_Go (p : Program) (l : Launch) (e : Env) (R : Room) (s : State) (m : MethodId) (args : Array Value) (below : List Frame) (meth : Method) (c : Code) (cells slots : Nat) (Q : State → Prop) (D : va_G) (cy : Nat → ClassId) (α adV : Nat → Nat) (B0 : Nat) (h : am_H) (nL : Nat) (go : am_G) : Prop :=
  ∀ (pc : Nat) (ls : am_L) (st : List Value) (σ : am_S) (H : Heap) (locs : List Loc) (rl : Array Slot), go pc ls st σ → am_hr D cy α adV B0 h σ s H → va_S (am_A B0) s.heap H locs → am_lr α ls rl nL → W p l e R s m args below meth c H locs cells slots Q (F0 m pc rl (st.map (am_cv α)))
set_option maxHeartbeats 4000000 in
theorem am_sim {go jmp : am_G} {cal : am_C} {q : am_Q} {fr lo : Nat} (hx : p.tables.exec = Jvm.exec) (hb : c.code = cc) (hml : c.maxLocals = nL) (hown : s.vm.findClass own = some m.cls) (hts : ∀ w ∈ am_TS, w.before args s = true) (hkk : am_kk D cy α s) (hok : am_hok h) (hB : B0 ≤ s.heap.size) (hfr : fr ≤ R.frames) (hlo : lo ≤ R.locals) (hcs : cells ≤ R.cells ∧ slots ≤ R.slots)
    (hscr : own = RL → va_X (α am_SC) L xs s s.heap ∧ α am_SC < B0) (hsl : L ≤ 3072 ∧ 3072 < 2 ^ 31)
    (Hgo : am_Go p l e R s m args below meth c cells slots Q D cy α adV B0 h nL go) (Hjmp : am_Go p l e R s m args below meth c cells slots Q D cy α adV B0 h nL jmp)
    (Hcv : ∀ (y d ci i : Nat) (as : List Value) (σ : am_S) (r : am_Q), cal y as σ r → am_kd y = 0 → h[i]? = some (ci, 0) → ci < 12 → (am_name y).cls = am_mcl ci → as.length = d + 1 → (∃ as', as = .ref i :: as') → ∀ (idx pc : Nat) (H : Heap) (locs : List Loc) (rl : Array Slot) (rest : List Value), decode cc pc = .ok (.invokevirtual idx, 3) → Cond.methodLink own idx (am_name y) ∈ am_TS → am_fr y + 1 ≤ fr → 8 + (am_max y + 11) + am_lo y ≤ lo → (parseMethodDescriptor (am_name y).desc).map (fun d => d.parameters.length) = some d → am_words rest ≤ 8 → am_hr D cy α adV B0 h σ s H → va_S (am_A B0) s.heap H locs → rl.size = nL →
      (∀ (w : Option Value) (σ' : am_S) (H' : Heap) (locs' : List Loc), r w σ' → am_hr D cy α adV B0 h σ' s H' → va_S (am_A B0) s.heap H' locs' → W p l e R s m args below meth c H' locs' cells slots Q (F0 m (pc + 3) rl ((am_push w rest).map (am_cv α)))) → W p l e R s m args below meth c H locs cells slots Q (F0 m pc rl ((as.reverse ++ rest).map (am_cv α))))
    (Hcs : ∀ (y d : Nat) (as : List Value) (σ : am_S) (r : am_Q), cal y as σ r → am_kd y = 1 → as.length = d → ∀ (idx pc : Nat) (H : Heap) (locs : List Loc) (rl : Array Slot) (rest : List Value), decode cc pc = .ok (.invokestatic idx, 3) → Cond.methodLink own idx (am_name y) ∈ am_TS → am_fr y + 1 ≤ fr → 8 + (am_max y + 11) + am_lo y ≤ lo → (parseMethodDescriptor (am_name y).desc).map (fun d => d.parameters.length) = some d → am_words rest ≤ 8 → am_hr D cy α adV B0 h σ s H → va_S (am_A B0) s.heap H locs → rl.size = nL →
      (∀ (w : Option Value) (σ' : am_S) (H' : Heap) (locs' : List Loc), r w σ' → am_hr D cy α adV B0 h σ' s H' → va_S (am_A B0) s.heap H' locs' → W p l e R s m args below meth c H' locs' cells slots Q (F0 m (pc + 3) rl ((am_push w rest).map (am_cv α)))) → W p l e R s m args below meth c H locs cells slots Q (F0 m pc rl ((as.reverse ++ rest).map (am_cv α))))
    (Hstr : own = RX5 → (6 ≤ fr ∧ 150 ≤ lo) → ∀ (t idx pc : Nat) (H : Heap) (locs : List Loc) (rl : Array Slot) (rest : List Value) (σ : am_S), t < 5 → decode cc pc = .ok (.invokevirtual idx, 3) → am_hr D cy α adV B0 h σ s H → va_S (am_A B0) s.heap H locs → rl.size = nL → (rest.map fun v => v.category).sum ≤ 8 →
      (Cond.methodLink own idx yJ0_length_8abf5 ∈ am_TS → W p l e R s m args below meth c H locs cells slots Q (F0 m (pc + 3) rl (.int (nI (am_txt t).length) :: rest)) → W p l e R s m args below meth c H locs cells slots Q (F0 m pc rl (.ref (α (am_SB + t)) :: rest))) ∧
      ∀ j, j < (am_txt t).length → Cond.methodLink own idx yJ0_charAt_5068e ∈ am_TS → W p l e R s m args below meth c H locs cells slots Q (F0 m (pc + 3) rl (.int ((am_txt t).getD j 0) :: rest)) → W p l e R s m args below meth c H locs cells slots Q (F0 m pc rl (.int (nI j) :: .ref (α (am_SB + t)) :: rest)))
    (Hri : ∀ (x : Int32) (ty : FieldType) (σ : am_S) (pc : Nat) (H : Heap) (locs : List Loc) (rl : Array Slot), q (some (.int x)) σ → ret = some ty → narrow ty (.int x) = .int x → decode cc pc = .ok (.ireturn, 1) → am_hr D cy α adV B0 h σ s H → va_S (am_A B0) s.heap H locs → W p l e R s m args below meth c H locs cells slots Q (F0 m pc rl [.int x]))
    (Hrl : ∀ (x : Int64) (σ : am_S) (pc : Nat) (H : Heap) (locs : List Loc) (rl : Array Slot), q (some (.long x)) σ → ret = some .long → decode cc pc = .ok (.lreturn, 1) → am_hr D cy α adV B0 h σ s H → va_S (am_A B0) s.heap H locs → W p l e R s m args below meth c H locs cells slots Q (F0 m pc rl [.long x]))
    (Hrv : ∀ (σ : am_S) (pc : Nat) (H : Heap) (locs : List Loc) (rl : Array Slot), q none σ → ret = none → decode cc pc = .ok (.return_, 1) → am_hr D cy α adV B0 h σ s H → va_S (am_A B0) s.heap H locs → W p l e R s m args below meth c H locs cells slots Q (F0 m pc rl []))
    {en : am_E} {t : Nat × Nat} (hdec : decode cc en.1 = .ok (en.2.1, en.2.2.1)) (hchk : am_ok own fr lo en t = true) {pc : Nat} {ls : am_L} {st : List Value} {σ : am_S} {H : Heap} {locs : List Loc} {rl : Array Slot} (X : am_step h L xs ret go jmp cal q en pc ls st σ) (hh : am_hr D cy α adV B0 h σ s H) (hS : va_S (am_A B0) s.heap H locs) (hl : am_lr α ls rl nL) :
    W p l e R s m args below meth c H locs cells slots Q (F0 m pc rl (st.map (am_cv α))) := by
  obtain ⟨I, J, Rr⟩ := σ
  obtain ⟨p0, ins, len, a, d, k, v, sw⟩ := en
  unfold am_step at X
  dsimp only at X hdec hchk
  generalize hbq : Nat.beq p0 pc = bb at X
  cases bb with
  | false => exact X.elim
  | true =>
    have e0 : p0 = pc := Nat.eq_of_beq_eq_true hbq
    subst e0
    dsimp only at X
    cases ins with
    | iconst n =>
      simp only [am_ok, Bool.and_eq_true, decide_eq_true_eq] at hchk
      obtain ⟨rfl, rfl⟩ := hchk
      exact lv_iconst hx hb hdec rfl (Hgo _ _ _ _ _ _ _ X hh hS hl)
    | bipush n =>
      simp only [am_ok, Bool.and_eq_true, decide_eq_true_eq] at hchk
      obtain ⟨rfl, rfl⟩ := hchk
      exact lv_bipush hx hb hdec rfl (Hgo _ _ _ _ _ _ _ X hh hS hl)
    | sipush n =>
      simp only [am_ok, Bool.and_eq_true, decide_eq_true_eq] at hchk
      obtain ⟨rfl, rfl⟩ := hchk
      exact lv_sipush hx hb hdec rfl (Hgo _ _ _ _ _ _ _ X hh hS hl)
    | lconst n =>
      simp only [am_ok, Bool.and_eq_true, decide_eq_true_eq] at hchk
      obtain ⟨rfl, rfl⟩ := hchk
      exact lv_lconst hx hb hdec rfl (Hgo _ _ _ _ _ _ _ X hh hS hl)
    | ldc i =>
      simp only [am_ok, Bool.and_eq_true, decide_eq_true_eq] at hchk
      obtain ⟨rfl, hchk⟩ := hchk
      cases k with
      | zero =>
        cases v with
        | int x => exact lv_ldc hx hb hown (hts _ (am_w_in hchk)) hdec (Hgo _ _ _ _ _ _ _ X hh hS hl)
        | _ => cases hchk
      | succ k =>
        simp only [Bool.and_eq_true, decide_eq_true_eq] at hchk
        obtain ⟨⟨rfl, h2⟩, rfl⟩ := hchk
        exact va_ldcS hx hb hown (hkk.2 a h2) hdec (Hgo _ _ _ _ _ _ _ X hh hS hl)
    | ldc_w i =>
      simp only [am_ok, Bool.and_eq_true, decide_eq_true_eq] at hchk
      obtain ⟨rfl, hchk⟩ := hchk
      cases v with
      | int x => exact lv_ldcw hx hb hown (hts _ (am_w_in hchk)) hdec (Hgo _ _ _ _ _ _ _ X hh hS hl)
      | _ => cases hchk
    | ldc2_w i =>
      simp only [am_ok, Bool.and_eq_true, decide_eq_true_eq] at hchk
      obtain ⟨rfl, hchk⟩ := hchk
      cases v with
      | long x => exact lv_ldc2 hx hb hown (hts _ (am_w_in hchk)) hdec (Hgo _ _ _ _ _ _ _ X hh hS hl)
      | _ => cases hchk
    | iload_n i =>
      obtain rfl : len = 1 := of_decide_eq_true hchk
      obtain ⟨w, h1, h2⟩ := am_lget_at X
      cases w with
      | int x => exact lv_iload_n hx hb hdec rfl (hl.2.2.2 _ _ h1) (Hgo _ _ _ _ _ _ _ h2 hh hS hl)
      | _ => exact h2.elim
    | iload i =>
      obtain rfl : len = 2 := of_decide_eq_true hchk
      obtain ⟨w, h1, h2⟩ := am_lget_at X
      cases w with
      | int x => exact lv_iload hx hb hdec (hl.2.2.2 _ _ h1) (Hgo _ _ _ _ _ _ _ h2 hh hS hl)
      | _ => exact h2.elim
    | lload_n i =>
      obtain rfl : len = 1 := of_decide_eq_true hchk
      obtain ⟨w, h1, h2⟩ := am_lget_at X
      cases w with
      | long x => exact lv_lload_n hx hb hdec rfl (hl.2.2.2 _ _ h1) (Hgo _ _ _ _ _ _ _ h2 hh hS hl)
      | _ => exact h2.elim
    | lload i =>
      obtain rfl : len = 2 := of_decide_eq_true hchk
      obtain ⟨w, h1, h2⟩ := am_lget_at X
      cases w with
      | long x => exact lv_lload hx hb hdec (hl.2.2.2 _ _ h1) (Hgo _ _ _ _ _ _ _ h2 hh hS hl)
      | _ => exact h2.elim
    | aload_n i =>
      obtain rfl : len = 1 := of_decide_eq_true hchk
      obtain ⟨w, h1, h2⟩ := am_lget_at X
      cases w with
      | ref x => exact lv_aload_n hx hb hdec rfl (hl.2.2.2 _ _ h1) (Hgo _ _ _ _ _ _ _ h2 hh hS hl)
      | _ => exact h2.elim
    | aload i =>
      obtain rfl : len = 2 := of_decide_eq_true hchk
      obtain ⟨w, h1, h2⟩ := am_lget_at X
      cases w with
      | ref x => exact lv_aload hx hb hdec (hl.2.2.2 _ _ h1) (Hgo _ _ _ _ _ _ _ h2 hh hS hl)
      | _ => exact h2.elim
    | istore_n i =>
      obtain rfl : len = 1 := of_decide_eq_true hchk
      obtain ⟨x, s', rfl, X⟩ := am_un_at X
      obtain ⟨ls', h1, h2, h3, -, h5⟩ := am_lset_at X
      exact lv_istore_n hx hb hdec rfl hl.has (by rw [← hl.1]; exact h3) rfl (fun rl' hr => Hgo _ _ _ _ _ _ _ h1 hh hS (hl.set1 h2 h5 hr))
    | istore i =>
      obtain rfl : len = 2 := of_decide_eq_true hchk
      obtain ⟨x, s', rfl, X⟩ := am_un_at X
      obtain ⟨ls', h1, h2, h3, -, h5⟩ := am_lset_at X
      exact lv_istore hx hb hdec hl.has (by rw [← hl.1]; exact h3) rfl (fun rl' hr => Hgo _ _ _ _ _ _ _ h1 hh hS (hl.set1 h2 h5 hr))
    | astore_n i =>
      obtain rfl : len = 1 := of_decide_eq_true hchk
      obtain ⟨x, s', rfl, X⟩ := am_rf_at X
      obtain ⟨ls', h1, h2, h3, -, h5⟩ := am_lset_at X
      exact lv_astore_n hx hb hdec rfl hl.has (by rw [← hl.1]; exact h3) rfl (fun rl' hr => Hgo _ _ _ _ _ _ _ h1 hh hS (hl.set1 h2 h5 hr))
    | astore i =>
      obtain rfl : len = 2 := of_decide_eq_true hchk
      obtain ⟨x, s', rfl, X⟩ := am_rf_at X
      obtain ⟨ls', h1, h2, h3, -, h5⟩ := am_lset_at X
      exact lv_astore hx hb hdec hl.has (by rw [← hl.1]; exact h3) rfl (fun rl' hr => Hgo _ _ _ _ _ _ _ h1 hh hS (hl.set1 h2 h5 hr))
    | lstore_n i =>
      obtain rfl : len = 1 := of_decide_eq_true hchk
      obtain ⟨x, s', rfl, X⟩ := am_lun_at X
      obtain ⟨ls', h1, h2, -, h4, h5⟩ := am_lset_at X
      exact lv_lstore_n hx hb hdec rfl hl.has (by rw [← hl.1]; exact h4 ⟨x, rfl⟩) rfl (fun rl' hr => Hgo _ _ _ _ _ _ _ h1 hh hS (hl.set2 h2 h5 hr))
    | lstore i =>
      obtain rfl : len = 2 := of_decide_eq_true hchk
      obtain ⟨x, s', rfl, X⟩ := am_lun_at X
      obtain ⟨ls', h1, h2, -, h4, h5⟩ := am_lset_at X
      exact lv_lstore hx hb hdec hl.has (by rw [← hl.1]; exact h4 ⟨x, rfl⟩) rfl (fun rl' hr => Hgo _ _ _ _ _ _ _ h1 hh hS (hl.set2 h2 h5 hr))
    | iinc i n =>
      simp only [am_ok, Bool.and_eq_true, decide_eq_true_eq] at hchk
      obtain ⟨rfl, rfl⟩ := hchk
      obtain ⟨w, h0, X⟩ := am_lget_at X
      cases w with
      | int x =>
        obtain ⟨ls', h1, h2, h3, -, h5⟩ := am_lset_at X
        obtain ⟨kk, hkk⟩ := List.getElem?_of_mem (am_lv_mem (α := α).mpr ⟨_, h0, rfl⟩)
        exact lv_iinc hx hb hdec hl.has hkk rfl (by rw [← hl.1]; exact h3) rfl (fun rl' hr => Hgo _ _ _ _ _ _ _ h1 hh hS (hl.set1 h2 h5 hr))
      | _ => exact X.elim
    | iadd =>
      obtain rfl : len = 1 := of_decide_eq_true hchk
      obtain ⟨x, y, s', rfl, X⟩ := am_bin_at X
      exact lv_iadd hx hb hdec (Hgo _ _ _ _ _ _ _ X hh hS hl)
    | isub =>
      obtain rfl : len = 1 := of_decide_eq_true hchk
      obtain ⟨x, y, s', rfl, X⟩ := am_bin_at X
      exact lv_isub hx hb hdec (Hgo _ _ _ _ _ _ _ X hh hS hl)
    | imul =>
      obtain rfl : len = 1 := of_decide_eq_true hchk
      obtain ⟨x, y, s', rfl, X⟩ := am_bin_at X
      exact lv_imul hx hb hdec (Hgo _ _ _ _ _ _ _ X hh hS hl)
    | iand =>
      obtain rfl : len = 1 := of_decide_eq_true hchk
      obtain ⟨x, y, s', rfl, X⟩ := am_bin_at X
      exact lv_iand hx hb hdec (Hgo _ _ _ _ _ _ _ X hh hS hl)
    | ior =>
      obtain rfl : len = 1 := of_decide_eq_true hchk
      obtain ⟨x, y, s', rfl, X⟩ := am_bin_at X
      exact lv_ior hx hb hdec (Hgo _ _ _ _ _ _ _ X hh hS hl)
    | ixor =>
      obtain rfl : len = 1 := of_decide_eq_true hchk
      obtain ⟨x, y, s', rfl, X⟩ := am_bin_at X
      exact lv_ixor hx hb hdec (Hgo _ _ _ _ _ _ _ X hh hS hl)
    | ishl =>
      obtain rfl : len = 1 := of_decide_eq_true hchk
      obtain ⟨x, y, s', rfl, X⟩ := am_bin_at X
      exact lv_ishl hx hb hdec (Hgo _ _ _ _ _ _ _ X hh hS hl)
    | ishr =>
      obtain rfl : len = 1 := of_decide_eq_true hchk
      obtain ⟨x, y, s', rfl, X⟩ := am_bin_at X
      exact lv_ishr hx hb hdec (Hgo _ _ _ _ _ _ _ X hh hS hl)
    | iushr =>
      obtain rfl : len = 1 := of_decide_eq_true hchk
      obtain ⟨x, y, s', rfl, X⟩ := am_bin_at X
      exact lv_iushr hx hb hdec rfl (Hgo _ _ _ _ _ _ _ X hh hS hl)
    | idiv =>
      obtain rfl : len = 1 := of_decide_eq_true hchk
      obtain ⟨x, y, s', rfl, X⟩ := am_bin_at X
      exact lv_idiv hx hb hdec X.1 (Hgo _ _ _ _ _ _ _ X.2 hh hS hl)
    | irem =>
      obtain rfl : len = 1 := of_decide_eq_true hchk
      obtain ⟨x, y, s', rfl, X⟩ := am_bin_at X
      exact lv_irem hx hb hdec X.1 (Hgo _ _ _ _ _ _ _ X.2 hh hS hl)
    | ladd =>
      obtain rfl : len = 1 := of_decide_eq_true hchk
      obtain ⟨x, y, s', rfl, X⟩ := am_lbin_at X
      exact lv_ladd hx hb hdec (Hgo _ _ _ _ _ _ _ X hh hS hl)
    | lmul =>
      obtain rfl : len = 1 := of_decide_eq_true hchk
      obtain ⟨x, y, s', rfl, X⟩ := am_lbin_at X
      exact lv_lmul hx hb hdec (Hgo _ _ _ _ _ _ _ X hh hS hl)
    | land =>
      obtain rfl : len = 1 := of_decide_eq_true hchk
      obtain ⟨x, y, s', rfl, X⟩ := am_lbin_at X
      exact lv_land hx hb hdec (Hgo _ _ _ _ _ _ _ X hh hS hl)
    | lor =>
      obtain rfl : len = 1 := of_decide_eq_true hchk
      obtain ⟨x, y, s', rfl, X⟩ := am_lbin_at X
      exact lv_lor hx hb hdec (Hgo _ _ _ _ _ _ _ X hh hS hl)
    | ldiv =>
      obtain rfl : len = 1 := of_decide_eq_true hchk
      obtain ⟨x, y, s', rfl, X⟩ := am_lbin_at X
      exact lv_ldiv hx hb hdec X.1 (Hgo _ _ _ _ _ _ _ X.2 hh hS hl)
    | lrem =>
      obtain rfl : len = 1 := of_decide_eq_true hchk
      obtain ⟨x, y, s', rfl, X⟩ := am_lbin_at X
      exact lv_lrem hx hb hdec X.1 (Hgo _ _ _ _ _ _ _ X.2 hh hS hl)
    | lcmp =>
      obtain rfl : len = 1 := of_decide_eq_true hchk
      obtain ⟨x, y, s', rfl, X⟩ := am_lbin_at X
      exact W.lcmp hx hb hdec (Hgo _ _ _ _ _ _ _ X hh hS hl)
    | lshl =>
      obtain rfl : len = 1 := of_decide_eq_true hchk
      obtain ⟨y, s', rfl, X⟩ := am_un_at X
      obtain ⟨x, s', rfl, X⟩ := am_lun_at X
      exact lv_lshl hx hb hdec rfl (Hgo _ _ _ _ _ _ _ X hh hS hl)
    | ineg =>
      obtain rfl : len = 1 := of_decide_eq_true hchk
      obtain ⟨x, s', rfl, X⟩ := am_un_at X
      exact lv_ineg hx hb hdec (Hgo _ _ _ _ _ _ _ X hh hS hl)
    | i2l =>
      obtain rfl : len = 1 := of_decide_eq_true hchk
      obtain ⟨x, s', rfl, X⟩ := am_un_at X
      exact lv_i2l hx hb hdec rfl (Hgo _ _ _ _ _ _ _ X hh hS hl)
    | i2b =>
      obtain rfl : len = 1 := of_decide_eq_true hchk
      obtain ⟨x, s', rfl, X⟩ := am_un_at X
      exact lv_i2b hx hb hdec rfl (Hgo _ _ _ _ _ _ _ X hh hS hl)
    | i2s =>
      obtain rfl : len = 1 := of_decide_eq_true hchk
      obtain ⟨x, s', rfl, X⟩ := am_un_at X
      exact lv_i2s hx hb hdec rfl (Hgo _ _ _ _ _ _ _ X hh hS hl)
    | i2c =>
      obtain rfl : len = 1 := of_decide_eq_true hchk
      obtain ⟨x, s', rfl, X⟩ := am_un_at X
      exact lv_i2c hx hb hdec rfl (Hgo _ _ _ _ _ _ _ X hh hS hl)
    | l2i =>
      obtain rfl : len = 1 := of_decide_eq_true hchk
      obtain ⟨x, s', rfl, X⟩ := am_lun_at X
      exact lv_l2i hx hb hdec rfl (Hgo _ _ _ _ _ _ _ X hh hS hl)
    | dup =>
      obtain rfl : len = 1 := of_decide_eq_true hchk
      dsimp only at X
      split at X
      · exact lv_dup hx hb hdec rfl (Hgo _ _ _ _ _ _ _ X hh hS hl)
      · exact lv_dup hx hb hdec rfl (Hgo _ _ _ _ _ _ _ X hh hS hl)
      · exact X.elim
    | pop =>
      obtain rfl : len = 1 := of_decide_eq_true hchk
      dsimp only at X
      split at X
      · exact lv_pop hx hb hdec rfl (Hgo _ _ _ _ _ _ _ X hh hS hl)
      · exact lv_pop hx hb hdec rfl (Hgo _ _ _ _ _ _ _ X hh hS hl)
      · exact X.elim
    | dup2 =>
      obtain rfl : len = 1 := of_decide_eq_true hchk
      dsimp only at X
      split at X
      · exact lv_dup2_11 hx hb hdec rfl rfl (Hgo _ _ _ _ _ _ _ X hh hS hl)
      · exact X.elim
    | ifCond cd o =>
      simp only [am_ok, Bool.and_eq_true, decide_eq_true_eq] at hchk
      obtain ⟨rfl, h1⟩ := hchk
      obtain ⟨x, s', rfl, X⟩ := am_un_at X
      cases cd with
      | eq => exact lv_if_eq hx hb hdec h1 (fun q => Hjmp _ _ _ _ _ _ _ (X.1 q) hh hS hl) (fun q => Hgo _ _ _ _ _ _ _ (X.2 q) hh hS hl)
      | ne => exact lv_if_ne hx hb hdec h1 (fun q => Hjmp _ _ _ _ _ _ _ (X.1 q) hh hS hl) (fun q => Hgo _ _ _ _ _ _ _ (X.2 q) hh hS hl)
      | lt => exact lv_if_lt hx hb hdec h1 (fun q => Hjmp _ _ _ _ _ _ _ (X.1 q) hh hS hl) (fun q => Hgo _ _ _ _ _ _ _ (X.2 q) hh hS hl)
      | ge => exact lv_if_ge hx hb hdec h1 (fun q => Hjmp _ _ _ _ _ _ _ (X.1 q) hh hS hl) (fun q => Hgo _ _ _ _ _ _ _ (X.2 q) hh hS hl)
      | gt => exact lv_if_gt hx hb hdec h1 (fun q => Hjmp _ _ _ _ _ _ _ (X.1 q) hh hS hl) (fun q => Hgo _ _ _ _ _ _ _ (X.2 q) hh hS hl)
      | le => exact lv_if_le hx hb hdec h1 (fun q => Hjmp _ _ _ _ _ _ _ (X.1 q) hh hS hl) (fun q => Hgo _ _ _ _ _ _ _ (X.2 q) hh hS hl)
    | if_icmp cd o =>
      simp only [am_ok, Bool.and_eq_true, decide_eq_true_eq] at hchk
      obtain ⟨rfl, h1⟩ := hchk
      obtain ⟨x, y, s', rfl, X⟩ := am_bin_at X
      cases cd with
      | eq => exact lv_icmp_eq hx hb hdec h1 (fun q => Hjmp _ _ _ _ _ _ _ (X.1 q) hh hS hl) (fun q => Hgo _ _ _ _ _ _ _ (X.2 q) hh hS hl)
      | ne => exact lv_icmp_ne hx hb hdec h1 (fun q => Hjmp _ _ _ _ _ _ _ (X.1 q) hh hS hl) (fun q => Hgo _ _ _ _ _ _ _ (X.2 q) hh hS hl)
      | lt => exact lv_icmp_lt hx hb hdec h1 (fun q => Hjmp _ _ _ _ _ _ _ (X.1 q) hh hS hl) (fun q => Hgo _ _ _ _ _ _ _ (X.2 q) hh hS hl)
      | ge => exact lv_icmp_ge hx hb hdec h1 (fun q => Hjmp _ _ _ _ _ _ _ (X.1 q) hh hS hl) (fun q => Hgo _ _ _ _ _ _ _ (X.2 q) hh hS hl)
      | gt => exact lv_icmp_gt hx hb hdec h1 (fun q => Hjmp _ _ _ _ _ _ _ (X.1 q) hh hS hl) (fun q => Hgo _ _ _ _ _ _ _ (X.2 q) hh hS hl)
      | le => exact lv_icmp_le hx hb hdec h1 (fun q => Hjmp _ _ _ _ _ _ _ (X.1 q) hh hS hl) (fun q => Hgo _ _ _ _ _ _ _ (X.2 q) hh hS hl)
    | goto o =>
      simp only [am_ok, Bool.and_eq_true, decide_eq_true_eq] at hchk
      obtain ⟨rfl, h1⟩ := hchk
      exact lv_goto hx hb hdec h1 (Hjmp _ _ _ _ _ _ _ X hh hS hl)
    | tableswitch df l0 hi os =>
      simp only [am_ok, Bool.and_eq_true, decide_eq_true_eq] at hchk
      obtain ⟨⟨h1, h2⟩, h3⟩ := hchk
      obtain ⟨x, s', rfl, X⟩ := am_un_at X
      rcases am_swc_at h2 X with ⟨g1, g2⟩ | ⟨i, o, t', g1, g2, g3, g4⟩
      · exact lv_tableOut hx hb hdec (by rw [h3]; exact g1) h1 (Hjmp _ _ _ _ _ _ _ g2 hh hS hl)
      · have hi' : i < os.toList.length := (List.getElem?_eq_some_iff.mp g2).1
        exact lv_tableIn hx hb hdec (by omega) (by omega) (by rw [show (x.toInt - l0).toNat = i by omega, ← Array.getElem?_toList]; exact g2) g3 (Hjmp _ _ _ _ _ _ _ g4 hh hS hl)
    | getfield i =>
      simp only [am_ok, Bool.and_eq_true, decide_eq_true_eq] at hchk
      obtain ⟨rfl, hchk⟩ := hchk
      obtain ⟨o, s', rfl, Y⟩ := am_rf_at X
      clear X
      split at hchk
      · rename_i C T N hcl
        simp only [Bool.and_eq_true, decide_eq_true_eq] at hchk
        obtain ⟨⟨h1, h2⟩, h3⟩ := hchk
        obtain ⟨f1, f2, f3, f4⟩ := am_ft_ok hcl
        have hin := am_cls hcl
        have hlk := hts _ (am_w_in h2)
        have key : ∀ hi : h[o]? = some (a, 0), W p l e R s m args below meth c H locs cells slots Q (F0 m (p0 + 3) rl (am_fv α (I, J, Rr) o a d :: s'.map (am_cv α))) → W p l e R s m args below meth c H locs cells slots Q (F0 m p0 rl (.ref (α o) :: s'.map (am_cv α))) := by
          intro hi kk
          have hg := am_ws_get (cy := cy) (α := α) (σ := (I, J, Rr)) hi
          rw [am_cell_O f1] at hg
          exact va_get (ci := a) hx hb hts hin hown hkk.1 hh.1 o hg hcl d h1 hlk (fun x hx => hx) (am_fs_at (by rw [f2]; exact h1)) hdec kk
        split at Y
        · obtain ⟨j, g1, g2, g3⟩ := Y
          refine key g1 ?_
          have hv : am_fv α (I, J, Rr) o a d = .ref (α j) := by
            unfold am_fv
            rw [if_pos (h3.mp rfl)]
            show va_rf ((Rr o d).map α) = _
            rw [g2]
            rfl
          rw [hv]
          exact Hgo _ _ _ _ _ _ _ g3 hh hS hl
        · rename_i hk
          refine key Y.1 ?_
          have hv : am_fv α (I, J, Rr) o a d = .int (I o d) := by
            unfold am_fv
            rw [if_neg (fun q => hk (h3.mpr q))]
          rw [hv]
          exact Hgo _ _ _ _ _ _ _ Y.2 hh hS hl
      · cases hchk
    | putfield i =>
      simp only [am_ok, Bool.and_eq_true, decide_eq_true_eq] at hchk
      obtain ⟨rfl, hchk⟩ := hchk
      split at hchk
      · rename_i C T N hcl
        simp only [Bool.and_eq_true, decide_eq_true_eq] at hchk
        obtain ⟨⟨⟨⟨h1, h2⟩, h3⟩, h4⟩, h5⟩ := hchk
        obtain ⟨f1, f2, f3, f4⟩ := am_ft_ok hcl
        have hin := am_cls hcl
        have hlk := hts _ (am_w_in h2)
        dsimp only at X
        split at X
        · rename_i x o s'
          have key : ∀ (hi : h[o]? = some (a, 0)) (hR : am_isR (am_ft a d) = false) (hn : narrow (am_ft a d) (.int x) = .int x) (hf : fits (am_ft a d) (.int x) = true) (X : go (p0 + 3) ls s' (am_up I o d x, J, Rr)), W p l e R s m args below meth c H locs cells slots Q (F0 m p0 rl (.int x :: .ref (α o) :: s'.map (am_cv α))) := by
            intro hi hR hn hf X
            have hg := am_ws_get (cy := cy) (α := α) (σ := (I, J, Rr)) hi
            rw [am_cell_O f1] at hg
            refine va_put (ci := a) (v := .int x) hx hb hts hin (am_ft a) f3 f4 hown hkk.1 hh.1 hh.2.1 hS o hg hcl d h1 hlk (fun x hx => hx) h3 (f3 d h1) hn hf (by rw [List.length_map, List.length_range, f2]; exact h1) hdec (fun H1 locs1 hP hD hS1 => ?_)
            refine Hgo _ _ _ _ _ _ _ X (hh.put hS (σ' := (am_up I o d x, J, Rr)) hi (fun j hj => ⟨am_row_up hj, rfl, rfl⟩) (am_S_eq hB hS hS1) ?_ ?_) hS1 hl
            · rw [am_cell_O f1, am_lst_set (by rw [f2]; exact h1) hR]
              exact hP
            · rw [am_cell_O f1, am_lst_set (by rw [f2]; exact h1) hR]
              exact hD
          split at X
          · have ht := h4 rfl
            exact key X.1 (by rw [ht]; rfl) (by rw [ht]; rfl) (by rw [ht]; rfl) X.2
          · have ht := h5 rfl
            rcases X.2.1 with rfl | rfl
            · exact key X.1 (by rw [ht]; rfl) (by rw [ht]; rfl) (by rw [ht]; rfl) X.2.2
            · exact key X.1 (by rw [ht]; rfl) (by rw [ht]; rfl) (by rw [ht]; rfl) X.2.2
          · exact X.elim
        · exact X.elim
      · cases hchk
    | iaload =>
      simp only [am_ok, Bool.and_eq_true, decide_eq_true_eq] at hchk
      obtain ⟨rfl, hk⟩ := hchk
      obtain ⟨i, s1, rfl, Y⟩ := am_un_at X
      clear X
      obtain ⟨o, s', rfl, Z⟩ := am_rf_at Y
      clear Y
      split at Z
      · obtain ⟨n, j, g1, g2, rfl, g4⟩ := Z
        obtain ⟨i1, i2⟩ := am_inI g2 (hok _ _ _ g1)
        have hg := am_ws_get (cy := cy) (α := α) (σ := (I, J, Rr)) g1
        rw [am_cell_I (by decide)] at hg
        refine va_iald hx hb hkk.1 hh.1 o 2 hg rfl i1 hdec ?_
        rw [i2]
        exact Hgo _ _ _ _ _ _ _ g4 hh hS hl
      · rename_i hne
        rcases hk with rfl | rfl
        · exact absurd rfl hne
        · obtain ⟨rfl, j, g2, rfl, g4⟩ := Z
          obtain ⟨hX, hXb⟩ := hscr rfl
          obtain ⟨z1, z2⟩ := hsl
          obtain ⟨i1, i2⟩ := am_inI g2 (Nat.lt_of_le_of_lt z1 z2)
          refine va_sld hx hb hX (Nat.lt_of_lt_of_le hXb hB) (Nat.not_le.mpr hXb) hS i1 hdec ?_
          rw [i2]
          exact Hgo _ _ _ _ _ _ _ g4 hh hS hl
    | arraylength =>
      simp only [am_ok, Bool.and_eq_true, decide_eq_true_eq] at hchk
      obtain ⟨rfl, rfl⟩ := hchk
      obtain ⟨o, s', rfl, Y⟩ := am_rf_at X
      clear X
      obtain ⟨rfl, Y⟩ := Y
      obtain ⟨hX, hXb⟩ := hscr rfl
      exact va_slen hx hb hX (Nat.lt_of_lt_of_le hXb hB) (Nat.not_le.mpr hXb) hS hdec (Hgo _ _ _ _ _ _ _ Y hh hS hl)
    | baload =>
      simp only [am_ok, Bool.and_eq_true, decide_eq_true_eq] at hchk
      obtain ⟨rfl, hk⟩ := hchk
      obtain ⟨i, s1, rfl, Y⟩ := am_un_at X
      clear X
      obtain ⟨o, s', rfl, Z⟩ := am_rf_at Y
      clear Y
      obtain ⟨n, j, g1, g2, rfl, g4⟩ := Z
      obtain ⟨i1, i2⟩ := am_inI g2 (hok _ _ _ g1)
      have hg := am_ws_get (cy := cy) (α := α) (σ := (I, J, Rr)) g1
      rcases hk with rfl | rfl
      · rw [am_cell_I (by decide)] at hg
        refine va_bald hx hb hkk.1 hh.1 o 0 hg rfl i1 hdec ?_
        rw [i2]
        exact Hgo _ _ _ _ _ _ _ g4 hh hS hl
      · rw [am_cell_I (by decide)] at hg
        refine va_zald hx hb hkk.1 hh.1 o 4 hg rfl i1 hdec ?_
        rw [i2]
        exact Hgo _ _ _ _ _ _ _ g4 hh hS hl
    | caload =>
      obtain rfl : len = 1 := of_decide_eq_true hchk
      obtain ⟨i, s1, rfl, Y⟩ := am_un_at X
      clear X
      obtain ⟨o, s', rfl, Z⟩ := am_rf_at Y
      clear Y
      obtain ⟨n, j, g1, g2, rfl, g4⟩ := Z
      obtain ⟨i1, i2⟩ := am_inI g2 (hok _ _ _ g1)
      have hg := am_ws_get (cy := cy) (α := α) (σ := (I, J, Rr)) g1
      rw [am_cell_I (by decide)] at hg
      refine va_cald hx hb hkk.1 hh.1 o 1 hg rfl i1 hdec ?_
      rw [i2]
      exact Hgo _ _ _ _ _ _ _ g4 hh hS hl
    | laload =>
      obtain rfl : len = 1 := of_decide_eq_true hchk
      obtain ⟨i, s1, rfl, Y⟩ := am_un_at X
      clear X
      obtain ⟨o, s', rfl, Z⟩ := am_rf_at Y
      clear Y
      obtain ⟨n, j, g1, g2, rfl, g4⟩ := Z
      obtain ⟨i1, i2⟩ := am_inI g2 (hok _ _ _ g1)
      have hg := am_ws_get (cy := cy) (α := α) (σ := (I, J, Rr)) g1
      rw [am_cell_J] at hg
      refine va_lald hx hb hkk.1 hh.1 o 3 hg rfl i1 hdec ?_
      rw [i2]
      exact Hgo _ _ _ _ _ _ _ g4 hh hS hl
    | aaload =>
      simp only [am_ok, Bool.and_eq_true, decide_eq_true_eq] at hchk
      obtain ⟨rfl, hk⟩ := hchk
      obtain ⟨i, s1, rfl, Y⟩ := am_un_at X
      clear X
      obtain ⟨o, s', rfl, Z⟩ := am_rf_at Y
      clear Y
      obtain ⟨n, j, g1, g2, rfl, r, g3, g4⟩ := Z
      obtain ⟨i1, i2⟩ := am_inI g2 (hok _ _ _ g1)
      have hg := am_ws_get (cy := cy) (α := α) (σ := (I, J, Rr)) g1
      rw [am_cell_R (by omega)] at hg
      have hv : va_rf ((fun j => ((I, J, Rr).2.2 o j).map α) (nI j).toNatClampNeg) = .ref (α r) := by
        rw [i2]
        show va_rf ((Rr o j).map α) = _
        rw [g3]
        rfl
      rcases hk with rfl | rfl | rfl
      · refine va_aldq hx hb hkk.1 hh.1 o 5 hg rfl i1 hdec ?_
        rw [hv]
        exact Hgo _ _ _ _ _ _ _ g4 hh hS hl
      · refine va_aldq hx hb hkk.1 hh.1 o 6 hg rfl i1 hdec ?_
        rw [hv]
        exact Hgo _ _ _ _ _ _ _ g4 hh hS hl
      · refine am_alda hx hb hkk.1 hh.1 o 7 hg rfl i1 hdec ?_
        rw [hv]
        exact Hgo _ _ _ _ _ _ _ g4 hh hS hl
    | iastore =>
      obtain rfl : len = 1 := of_decide_eq_true hchk
      obtain ⟨x, s0, rfl, Y0⟩ := am_un_at X
      clear X
      obtain ⟨i, s1, rfl, Y⟩ := am_un_at Y0
      clear Y0
      obtain ⟨o, s', rfl, Z⟩ := am_rf_at Y
      clear Y
      obtain ⟨n, j, g1, g2, rfl, g4⟩ := Z
      obtain ⟨i1, i2⟩ := am_inI g2 (hok _ _ _ g1)
      have hg := am_ws_get (cy := cy) (α := α) (σ := (I, J, Rr)) g1
      rw [am_cell_I (by decide)] at hg
      refine va_iast hx hb hkk.1 hh.1 hh.2.1 hS o 2 hg rfl i1 hdec (fun H1 locs1 hP hD hS1 => ?_)
      rw [i2] at hP hD
      refine Hgo _ _ _ _ _ _ _ g4 (hh.put hS (σ' := (am_up I o j x, J, Rr)) g1 (fun j hj => ⟨am_row_up hj, rfl, rfl⟩) (am_S_eq hB hS hS1) ?_ ?_) hS1 hl
      · rw [am_cell_I (by decide)]
        dsimp only
        rw [am_up_self]
        exact hP
      · rw [am_cell_I (by decide)]
        dsimp only
        rw [am_up_self]
        exact hD
    | bastore =>
      simp only [am_ok, Bool.and_eq_true, decide_eq_true_eq] at hchk
      obtain ⟨rfl, hk⟩ := hchk
      obtain ⟨x, s0, rfl, Y0⟩ := am_un_at X
      clear X
      obtain ⟨i, s1, rfl, Y⟩ := am_un_at Y0
      clear Y0
      obtain ⟨o, s', rfl, Z⟩ := am_rf_at Y
      clear Y
      obtain ⟨n, j, g1, g2, rfl, g4⟩ := Z
      obtain ⟨i1, i2⟩ := am_inI g2 (hok _ _ _ g1)
      have hg := am_ws_get (cy := cy) (α := α) (σ := (I, J, Rr)) g1
      rcases hk with rfl | rfl
      · rw [am_cell_I (by decide)] at hg
        refine va_bast hx hb hkk.1 hh.1 hh.2.1 hS o 0 hg rfl i1 hdec (fun H1 locs1 hP hD hS1 => ?_)
        rw [i2] at hP hD
        refine Hgo _ _ _ _ _ _ _ g4 (hh.put hS (σ' := (am_up I o j (vp_nar .byte x), J, Rr)) g1 (fun j hj => ⟨am_row_up hj, rfl, rfl⟩) (am_S_eq hB hS hS1) ?_ ?_) hS1 hl
        · rw [am_cell_I (by decide)]
          dsimp only
          rw [am_up_self]
          exact hP
        · rw [am_cell_I (by decide)]
          dsimp only
          rw [am_up_self]
          exact hD
      · rw [am_cell_I (by decide)] at hg
        refine va_zast hx hb hkk.1 hh.1 hh.2.1 hS o 4 hg rfl i1 hdec (fun H1 locs1 hP hD hS1 => ?_)
        rw [i2] at hP hD
        refine Hgo _ _ _ _ _ _ _ g4 (hh.put hS (σ' := (am_up I o j (vp_nar .boolean x), J, Rr)) g1 (fun j hj => ⟨am_row_up hj, rfl, rfl⟩) (am_S_eq hB hS hS1) ?_ ?_) hS1 hl
        · rw [am_cell_I (by decide)]
          dsimp only
          rw [am_up_self]
          exact hP
        · rw [am_cell_I (by decide)]
          dsimp only
          rw [am_up_self]
          exact hD
    | castore =>
      obtain rfl : len = 1 := of_decide_eq_true hchk
      obtain ⟨x, s0, rfl, Y0⟩ := am_un_at X
      clear X
      obtain ⟨i, s1, rfl, Y⟩ := am_un_at Y0
      clear Y0
      obtain ⟨o, s', rfl, Z⟩ := am_rf_at Y
      clear Y
      obtain ⟨n, j, g1, g2, rfl, g4⟩ := Z
      obtain ⟨i1, i2⟩ := am_inI g2 (hok _ _ _ g1)
      have hg := am_ws_get (cy := cy) (α := α) (σ := (I, J, Rr)) g1
      rw [am_cell_I (by decide)] at hg
      refine va_cast hx hb hkk.1 hh.1 hh.2.1 hS o 1 hg rfl i1 hdec (fun H1 locs1 hP hD hS1 => ?_)
      rw [i2] at hP hD
      refine Hgo _ _ _ _ _ _ _ g4 (hh.put hS (σ' := (am_up I o j (vp_nar .char x), J, Rr)) g1 (fun j hj => ⟨am_row_up hj, rfl, rfl⟩) (am_S_eq hB hS hS1) ?_ ?_) hS1 hl
      · rw [am_cell_I (by decide)]
        dsimp only
        rw [am_up_self]
        exact hP
      · rw [am_cell_I (by decide)]
        dsimp only
        rw [am_up_self]
        exact hD
    | lastore =>
      obtain rfl : len = 1 := of_decide_eq_true hchk
      obtain ⟨x, s0, rfl, Y0⟩ := am_lun_at X
      clear X
      obtain ⟨i, s1, rfl, Y⟩ := am_un_at Y0
      clear Y0
      obtain ⟨o, s', rfl, Z⟩ := am_rf_at Y
      clear Y
      obtain ⟨n, j, g1, g2, rfl, g4⟩ := Z
      obtain ⟨i1, i2⟩ := am_inI g2 (hok _ _ _ g1)
      have hg := am_ws_get (cy := cy) (α := α) (σ := (I, J, Rr)) g1
      rw [am_cell_J] at hg
      refine va_last hx hb hkk.1 hh.1 hh.2.1 hS o 3 hg rfl i1 hdec (fun H1 locs1 hP hD hS1 => ?_)
      rw [i2] at hP hD
      refine Hgo _ _ _ _ _ _ _ g4 (hh.put hS (σ' := (I, am_up J o j x, Rr)) g1 (fun j hj => ⟨rfl, am_row_up hj, rfl⟩) (am_S_eq hB hS hS1) ?_ ?_) hS1 hl
      · rw [am_cell_J]
        dsimp only
        rw [am_up_selfL]
        exact hP
      · rw [am_cell_J]
        dsimp only
        rw [am_up_selfL]
        exact hD
    | aastore =>
      simp only [am_ok, Bool.and_eq_true, decide_eq_true_eq] at hchk
      obtain ⟨rfl, hk⟩ := hchk
      obtain ⟨x, s0, rfl, Y0⟩ := am_rf_at X
      clear X
      obtain ⟨i, s1, rfl, Y⟩ := am_un_at Y0
      clear Y0
      obtain ⟨o, s', rfl, Z⟩ := am_rf_at Y
      clear Y
      obtain ⟨n, j, g1, g2, rfl, g3, g4⟩ := Z
      obtain ⟨i1, i2⟩ := am_inI g2 (hok _ _ _ g1)
      have hg := am_ws_get (cy := cy) (α := α) (σ := (I, J, Rr)) g1
      have hgx := am_ws_get (cy := cy) (α := α) (σ := (I, J, Rr)) g3
      have hup : (fun j' => ((I, J, am_up Rr o j (some x)).2.2 o j').map α) = va_up (fun j' => ((I, J, Rr).2.2 o j').map α) j (some (α x)) := by
        funext j'
        by_cases e : j' = j
        · simp [am_up, va_up, e]
        · simp [am_up, va_up, e]
      rcases hk with ⟨rfl, rfl⟩ | ⟨rfl, rfl⟩
      · rw [am_cell_R (by decide)] at hg
        rw [am_cell_O (by decide)] at hgx
        refine va_astq (r := (RX7, TX7, 4)) hx hb hkk.1 hh.1 hh.2.1 hS o 5 x 7 hg rfl hgx rfl i1 hdec (fun H1 locs1 hP hD hS1 => ?_)
        rw [i2] at hP hD
        refine Hgo _ _ _ _ _ _ _ g4 (hh.put hS (σ' := (I, J, am_up Rr o j (some x))) g1 (fun j hj => ⟨rfl, rfl, am_row_up hj⟩) (am_S_eq hB hS hS1) ?_ ?_) hS1 hl
        · rw [am_cell_R (by decide), hup]
          exact hP
        · rw [am_cell_R (by decide), hup]
          exact hD
      · rw [am_cell_R (by decide)] at hg
        rw [am_cell_O (by decide)] at hgx
        refine va_astq (r := (RX8, TX8, 5)) hx hb hkk.1 hh.1 hh.2.1 hS o 6 x 8 hg rfl hgx rfl i1 hdec (fun H1 locs1 hP hD hS1 => ?_)
        rw [i2] at hP hD
        refine Hgo _ _ _ _ _ _ _ g4 (hh.put hS (σ' := (I, J, am_up Rr o j (some x))) g1 (fun j hj => ⟨rfl, rfl, am_row_up hj⟩) (am_S_eq hB hS hS1) ?_ ?_) hS1 hl
        · rw [am_cell_R (by decide), hup]
          exact hP
        · rw [am_cell_R (by decide), hup]
          exact hD
    | invokevirtual i =>
      simp only [am_ok, Bool.and_eq_true, decide_eq_true_eq] at hchk
      obtain ⟨rfl, hchk⟩ := hchk
      dsimp only at X
      match k, hchk, X with
      | 0, hchk, X =>
        simp only [Bool.and_eq_true, decide_eq_true_eq] at hchk
        obtain ⟨o, s', rfl, Y⟩ := am_rf_at X
        clear X
        split at Y
        · rename_i hw
          obtain ⟨t', rfl, g2, g3⟩ := Y
          exact (Hstr hchk.1.1 hchk.1.2 t' i p0 H locs rl _ (I, J, Rr) g2 hdec hh hS hl.2.1 (by rw [am_words_cv]; exact Nat.le_of_ble_eq_true hw)).1 (am_w_in hchk.2) (Hgo _ _ _ _ _ _ _ g3 hh hS hl)
        · exact Y.elim
      | 1, hchk, X =>
        simp only [Bool.and_eq_true, decide_eq_true_eq] at hchk
        obtain ⟨x, s1, rfl, Y0⟩ := am_un_at X
        clear X
        obtain ⟨o, s', rfl, Y⟩ := am_rf_at Y0
        clear Y0
        split at Y
        · rename_i hw
          obtain ⟨t', j, rfl, g2, g3, rfl, g4⟩ := Y
          exact (Hstr hchk.1.1 hchk.1.2 t' i p0 H locs rl _ (I, J, Rr) g2 hdec hh hS hl.2.1 (by rw [am_words_cv]; exact Nat.le_of_ble_eq_true hw)).2 j g3 (am_w_in hchk.2) (Hgo _ _ _ _ _ _ _ g4 hh hS hl)
        · exact Y.elim
      | ci + 2, hchk, X =>
        simp only [Bool.and_eq_true, decide_eq_true_eq] at hchk
        obtain ⟨⟨⟨⟨⟨⟨c1, c2⟩, c3⟩, c4⟩, c5⟩, c6⟩, c7⟩ := hchk
        obtain ⟨as, s', rfl, g2, Y⟩ := am_pop_at X
        clear X
        rw [List.append_nil] at Y
        split at Y
        · rename_i hw
          split at Y
          · exact Hcv a d ci _ _ _ _ Y.2 c7 Y.1 c6 c5 g2 ⟨_, rfl⟩ i p0 H locs rl s' hdec (am_w_in c1) c2 c3 c4 (Nat.le_of_ble_eq_true hw) hh hS hl.2.1 (fun w σ' H' locs' gg hh' hS' => Hgo _ _ _ _ _ _ _ gg hh' hS' hl)
          · exact Y.elim
        · exact Y.elim
    | invokestatic i =>
      simp only [am_ok, Bool.and_eq_true, decide_eq_true_eq] at hchk
      obtain ⟨rfl, hchk⟩ := hchk
      dsimp only at X
      match k, hchk, X with
      | 0, hchk, X =>
        simp only [Bool.and_eq_true, decide_eq_true_eq] at hchk
        obtain ⟨⟨⟨⟨c1, c2⟩, c3⟩, c4⟩, c7⟩ := hchk
        obtain ⟨as, s', rfl, g2, Y⟩ := am_pop_at X
        clear X
        rw [List.append_nil] at Y
        split at Y
        · rename_i hw
          exact Hcs a d _ _ _ Y c7 g2 i p0 H locs rl s' hdec (am_w_in c1) c2 c3 c4 (Nat.le_of_ble_eq_true hw) hh hS hl.2.1 (fun w σ' H' locs' gg hh' hS' => Hgo _ _ _ _ _ _ _ gg hh' hS' hl)
        · exact Y.elim
      | 1, hchk, X =>
        simp only [Bool.and_eq_true, decide_eq_true_eq] at hchk
        obtain ⟨⟨c1, c2⟩, c3⟩ := hchk
        obtain ⟨n, s0, rfl, Y1⟩ := am_un_at X
        clear X
        obtain ⟨dp, s1, rfl, Y2⟩ := am_un_at Y1
        clear Y1
        obtain ⟨o, s2, rfl, Y3⟩ := am_rf_at Y2
        clear Y2
        obtain ⟨sp, s3, rfl, Y4⟩ := am_un_at Y3
        clear Y3
        obtain ⟨u, s', rfl, Y⟩ := am_rf_at Y4
        clear Y4
        split at Y
        · rename_i hw
          obtain ⟨nu, nt, i', j', m', g1, g2, g3, g4, rfl, rfl, rfl, g8⟩ := Y
          have b1 := hok _ _ _ g1
          have b2 := hok _ _ _ g2
          have hg1 := am_ws_get (cy := cy) (α := α) (σ := (I, J, Rr)) g1
          have hg2 := am_ws_get (cy := cy) (α := α) (σ := (I, J, Rr)) g2
          rw [am_cell_I (by decide)] at hg1 hg2
          have e1 : (nI i').toNatClampNeg = i' := nI_clamp (by omega)
          have e2 : (nI j').toNatClampNeg = j' := nI_clamp (by omega)
          have e3 : (nI m').toNatClampNeg = m' := nI_clamp (by omega)
          refine va_copyi hx hb (by rw [hml]; exact hl.2.1.symm) hown (hts _ (am_w_in c1)) (hts _ am_acn) (hts _ am_acs) (hts _ am_aci) hkk.1 hh.1 hh.2.1 hS u o 2 2 hg1 hg2 rfl rfl rfl (nI_pos (by omega)) (nI_pos (by omega)) (nI_pos (by omega)) (by rw [e1, e3]; exact g3) (by rw [e2, e3]; exact g4) (fun _ _ => rfl) (by omega) (Nat.le_trans (Nat.add_le_add_right (by rw [am_words_cv]; exact Nat.le_of_ble_eq_true hw) _) (Nat.le_trans c3 hlo)) hdec (fun H1 locs1 hP hD hS1 => ?_)
          rw [e1, e2, e3] at hP hD
          refine Hgo _ _ _ _ _ _ _ g8 (hh.put hS (σ' := (am_row I o (va_cpy (I u) (I o) i' j' m'), J, Rr)) g2 (fun j hj => ⟨am_rowr hj, rfl, rfl⟩) (am_S_eq hB hS hS1) ?_ ?_) hS1 hl
          · rw [am_cell_I (by decide)]
            dsimp only
            rw [am_row_self]
            exact hP
          · rw [am_cell_I (by decide)]
            dsimp only
            rw [am_row_self]
            exact hD
        · exact Y.elim
      | 2, hchk, X =>
        simp only [Bool.and_eq_true, decide_eq_true_eq] at hchk
        obtain ⟨⟨c1, c2⟩, c3⟩ := hchk
        obtain ⟨n, s0, rfl, Y1⟩ := am_un_at X
        clear X
        obtain ⟨dp, s1, rfl, Y2⟩ := am_un_at Y1
        clear Y1
        obtain ⟨o, s2, rfl, Y3⟩ := am_rf_at Y2
        clear Y2
        obtain ⟨sp, s3, rfl, Y4⟩ := am_un_at Y3
        clear Y3
        obtain ⟨u, s', rfl, Y⟩ := am_rf_at Y4
        clear Y4
        split at Y
        · rename_i hw
          obtain ⟨nu, nt, i', j', m', g1, g2, g3, g4, rfl, rfl, rfl, g8⟩ := Y
          have b1 := hok _ _ _ g1
          have b2 := hok _ _ _ g2
          have hg1 := am_ws_get (cy := cy) (α := α) (σ := (I, J, Rr)) g1
          have hg2 := am_ws_get (cy := cy) (α := α) (σ := (I, J, Rr)) g2
          rw [am_cell_J] at hg1 hg2
          have e1 : (nI i').toNatClampNeg = i' := nI_clamp (by omega)
          have e2 : (nI j').toNatClampNeg = j' := nI_clamp (by omega)
          have e3 : (nI m').toNatClampNeg = m' := nI_clamp (by omega)
          refine va_copyl hx hb (by rw [hml]; exact hl.2.1.symm) hown (hts _ (am_w_in c1)) (hts _ am_acn) (hts _ am_acs) (hts _ am_aci) hkk.1 hh.1 hh.2.1 hS u o 3 3 hg1 hg2 rfl rfl rfl (nI_pos (by omega)) (nI_pos (by omega)) (nI_pos (by omega)) (by rw [e1, e3]; exact g3) (by rw [e2, e3]; exact g4) (fun _ _ => rfl) (by omega) (Nat.le_trans (Nat.add_le_add_right (by rw [am_words_cv]; exact Nat.le_of_ble_eq_true hw) _) (Nat.le_trans c3 hlo)) hdec (fun H1 locs1 hP hD hS1 => ?_)
          rw [e1, e2, e3] at hP hD
          refine Hgo _ _ _ _ _ _ _ g8 (hh.put hS (σ' := (I, am_row J o (va_cpy (J u) (J o) i' j' m'), Rr)) g2 (fun j hj => ⟨rfl, am_rowr hj, rfl⟩) (am_S_eq hB hS hS1) ?_ ?_) hS1 hl
          · rw [am_cell_J]
            dsimp only
            rw [am_row_self]
            exact hP
          · rw [am_cell_J]
            dsimp only
            rw [am_row_self]
            exact hD
        · exact Y.elim
      | 3, hchk, X =>
        simp only [Bool.and_eq_true, decide_eq_true_eq] at hchk
        obtain ⟨⟨c1, c2⟩, c3⟩ := hchk
        obtain ⟨x, y, s', rfl, Y⟩ := am_bin_at X
        clear X
        split at Y
        · rename_i hw
          exact va_mmax hx hb (by rw [hml]; exact hl.2.1.symm) hown (hts _ (am_w_in c1)) (hts _ am_mxs) (hts _ am_mxi) (hts _ am_mxc) (by omega) (by rw [am_words_cv]; have := Nat.le_of_ble_eq_true hw; omega) hcs.1 hcs.2 hdec (Hgo _ _ _ _ _ _ _ Y hh hS hl)
        · exact Y.elim
      | 4, hchk, X =>
        simp only [Bool.and_eq_true, decide_eq_true_eq] at hchk
        obtain ⟨⟨c1, c2⟩, c3⟩ := hchk
        obtain ⟨x, y, s', rfl, Y⟩ := am_bin_at X
        clear X
        split at Y
        · rename_i hw
          exact va_mmin hx hb (by rw [hml]; exact hl.2.1.symm) hown (hts _ (am_w_in c1)) (hts _ am_mns) (hts _ am_mxi) (hts _ am_mnc) (by omega) (by rw [am_words_cv]; have := Nat.le_of_ble_eq_true hw; omega) hcs.1 hcs.2 hdec (Hgo _ _ _ _ _ _ _ Y hh hS hl)
        · exact Y.elim
      | k + 5, hchk, X =>
        simp only [Bool.and_eq_true, decide_eq_true_eq] at hchk
        obtain ⟨⟨c1, c2⟩, c3⟩ := hchk
        obtain ⟨n, s0, rfl, Y1⟩ := am_un_at X
        clear X
        obtain ⟨dp, s1, rfl, Y2⟩ := am_un_at Y1
        clear Y1
        obtain ⟨o, s2, rfl, Y3⟩ := am_rf_at Y2
        clear Y2
        obtain ⟨sp, s3, rfl, Y4⟩ := am_un_at Y3
        clear Y3
        obtain ⟨u, s', rfl, Y⟩ := am_rf_at Y4
        clear Y4
        split at Y
        · rename_i hw
          obtain ⟨nu, nt, i', j', m', g1, g2, g3, g4, rfl, rfl, rfl, g8⟩ := Y
          have b1 := hok _ _ _ g1
          have b2 := hok _ _ _ g2
          have hg1 := am_ws_get (cy := cy) (α := α) (σ := (I, J, Rr)) g1
          have hg2 := am_ws_get (cy := cy) (α := α) (σ := (I, J, Rr)) g2
          rw [am_cell_J] at hg1 hg2
          have e1 : (nI i').toNatClampNeg = i' := nI_clamp (by omega)
          have e2 : (nI j').toNatClampNeg = j' := nI_clamp (by omega)
          have e3 : (nI m').toNatClampNeg = m' := nI_clamp (by omega)
          refine va_copyl hx hb (by rw [hml]; exact hl.2.1.symm) hown (hts _ (am_w_in c1)) (hts _ am_acn) (hts _ am_acs) (hts _ am_aci) hkk.1 hh.1 hh.2.1 hS u o 3 3 hg1 hg2 rfl rfl rfl (nI_pos (by omega)) (nI_pos (by omega)) (nI_pos (by omega)) (by rw [e1, e3]; exact g3) (by rw [e2, e3]; exact g4) (fun _ _ => rfl) (by omega) (Nat.le_trans (Nat.add_le_add_right (by rw [am_words_cv]; exact Nat.le_of_ble_eq_true hw) _) (Nat.le_trans c3 hlo)) hdec (fun H1 locs1 hP hD hS1 => ?_)
          rw [e1, e2, e3] at hP hD
          refine Hgo _ _ _ _ _ _ _ g8 (hh.put hS (σ' := (I, am_row J o (va_cpy (J u) (J o) i' j' m'), Rr)) g2 (fun j hj => ⟨rfl, am_rowr hj, rfl⟩) (am_S_eq hB hS hS1) ?_ ?_) hS1 hl
          · rw [am_cell_J]
            dsimp only
            rw [am_row_self]
            exact hP
          · rw [am_cell_J]
            dsimp only
            rw [am_row_self]
            exact hD
        · exact Y.elim
    | ireturn =>
      obtain rfl : len = 1 := of_decide_eq_true hchk
      obtain ⟨x, s', rfl, Y⟩ := am_un_at X
      clear X
      split at Y
      · split at Y
        · exact Hri x .int _ _ _ _ _ Y rfl rfl hdec hh hS
        · rcases Y.1 with rfl | rfl
          · exact Hri 0 .boolean _ _ _ _ _ Y.2 rfl rfl hdec hh hS
          · exact Hri 1 .boolean _ _ _ _ _ Y.2 rfl rfl hdec hh hS
        · exact Hri x _ _ _ _ _ _ Y.2 rfl Y.1 hdec hh hS
        · exact Y.elim
      · exact Y.elim
    | lreturn =>
      obtain rfl : len = 1 := of_decide_eq_true hchk
      obtain ⟨x, s', rfl, Y⟩ := am_lun_at X
      clear X
      split at Y
      · split at Y
        · exact Hrl x _ _ _ _ _ Y rfl hdec hh hS
        · exact Y.elim
      · exact Y.elim
    | return_ =>
      obtain rfl : len = 1 := of_decide_eq_true hchk
      dsimp only at X
      split at X
      · exact Hrv _ _ _ _ _ X rfl hdec hh hS
      · exact X.elim
    | _ => exact X.elim
end SIM
end
section
/-! runs: what the true machine does from a place of a method on (am_run), what a whole call does (am_ev); am_u unfolds a run place by place -/
def am_frm (y : Nat) (p : Program) (s : State) (m : MethodId) (args : Array Value) (meth : Method) (c : Code) : Prop :=
  p.tables.exec = Jvm.exec ∧ c.code = am_bytes y ∧ c.maxLocals = am_max y ∧ meth.sig.returnType = am_ret y ∧ meth.locks = false ∧ s.vm.findClass (am_name y).cls = some m.cls ∧ ∀ w ∈ am_TS, w.before args s = true
def am_run (h : am_H) (y : Nat) (q : am_Q) : am_G := fun pc ls st σ =>
  ∀ (l : Launch) (D : va_G) (cy : Nat → ClassId) (α adV : Nat → Nat) (B0 : Nat) (p : Program) (e : Env) (s : State) (m : MethodId) (args : Array Value) (below : List Frame) (meth : Method) (c : Code) (H : Heap) (locs : List Loc) (rl : Array Slot),
    am_frm y p s m args meth c → am_kk D cy α s → B0 ≤ s.heap.size → am_hr D cy α adV B0 h σ s H → va_S (am_A B0) s.heap H locs → am_lr α ls rl (am_max y) →
    W p l e (am_room y) s m args below meth c H locs 0 0 (MQ below (am_Qc D cy α B0 h q) args s 0 0 (am_A B0)) (F0 m pc rl (st.map (am_cv α)))
def am_ev (h : am_H) : am_C := fun y as σ q => am_mf y ∧ ∀ q' : am_Q, (∀ r σ', q r σ' → q' r σ') → ∀ (l : Launch) (D : va_G) (cy : Nat → ClassId) (α adV : Nat → Nat) (B0 : Nat), Met l (am_name y) (am_wsm y) (am_room y) (am_Pc D cy α adV B0 h σ as) (am_Qc D cy α B0 h q') 0 0 (am_A B0)
theorem am_ev.mono {h : am_H} {y : Nat} {as : List Value} {σ : am_S} {q q' : am_Q} (H : am_ev h y as σ q) (hq : ∀ r σ', q r σ' → q' r σ') : am_ev h y as σ q' := ⟨H.1, fun q'' h2 => H.2 q'' (fun r σ' g => h2 r σ' (hq r σ' g))⟩
/-- a loop's head begins here: it stops there -/
def am_hd : List am_E → Bool
  | (_, _, _, _, _, _, _, _ :: _) :: _ => true
  | _ => false
def am_u (h : am_H) (y : Nat) (q : am_Q) : List am_E → am_G
  | [], _, _, _, _ => False
  | e :: r, pc, ls, st, σ => am_step h 0 (fun _ => 0) (am_ret y) (match am_hd r with
    | true => am_run h y q
    | false => am_u h y q r) (am_run h y q) (am_ev h) q e pc ls st σ
theorem am_kk.warm {D : va_G} {cy : Nat → ClassId} {α : Nat → Nat} {s U : State} (h : am_kk D cy α s) (hW : s.WarmedH U.vm) : am_kk D cy α U := ⟨va_K.moved hW.alike h.1, fun t ht => (h.2 t ht).warm hW⟩
theorem am_hr.warm {D : va_G} {cy : Nat → ClassId} {α adV : Nat → Nat} {B0 : Nat} {h : am_H} {σ : am_S} {s U : State} {H : Heap} (hh : am_hr D cy α adV B0 h σ s H) (hW : s.vm.Alike U.vm) : am_hr D cy α adV B0 h σ U H := ⟨hh.1, hh.2.1, hh.2.2.moved hW⟩
theorem am_Pc_blind {D : va_G} {cy : Nat → ClassId} {α adV : Nat → Nat} {B0 : Nat} {h : am_H} {σ : am_S} {as : List Value} : FrameBlind (am_Pc D cy α adV B0 h σ as) := by
  intro a U g mk q
  obtain ⟨q1, q2, q3, q4⟩ := q
  exact ⟨q1, q2, ⟨va_K.moved (u := U) (U := U.calling g mk a) (Vm.Alike.refl U.vm) q3.1, fun t ht => vk_R.same (u := U) (U := U.calling g mk a) rfl (q3.2 t ht)⟩, am_hr.warm (s := U) (U := U.calling g mk a) q4 (Vm.Alike.refl U.vm)⟩
theorem am_good {x y : Nat} (h : am_mw y) : GoodIn (am_wsm x) (am_wsm y) := by
  intro w hw
  rcases List.mem_cons.mp hw with rfl | hw
  · exact ⟨List.mem_cons_of_mem _ h.1, am_TS_good h.1⟩
  · exact ⟨List.mem_cons_of_mem _ hw, am_TS_good hw⟩
theorem am_goodT {y : Nat} (h : am_mw y) : GoodIn am_TS (am_wsm y) := by
  intro w hw
  rcases List.mem_cons.mp hw with rfl | hw
  · exact ⟨h.1, am_TS_good h.1⟩
  · exact ⟨hw, am_TS_good hw⟩
section CAL
variable {p : Program} {l : Launch} {e : Env} {R : Room} {s : State} {m : MethodId} {args : Array Value} {below : List Frame} {meth : Method} {c : Code} {cells slots : Nat} {Q : State → Prop}
variable {D : va_G} {cy : Nat → ClassId} {α adV : Nat → Nat} {B0 : Nat} {h : am_H} {own : String} {cc : ByteArray} {nL : Nat}
theorem am_after {q : am_Q} {mc ms pc : Nat} {rl : Array Slot} {st0 rest : List Value} {a : Array Value} {H : Heap} {locs : List Loc} {σ : am_S} (hB : B0 ≤ s.heap.size) (hh : am_hr D cy α adV B0 h σ s H) (hS : va_S (am_A B0) s.heap H locs) (hr : va_Run p l e R s m args below meth c H locs cells slots mc ms (F0 m pc rl st0) (rest.map (am_cv α)) (am_Qc D cy α B0 h q a) (am_A B0))
    (kk : ∀ (w : Option Value) (σ' : am_S) (H' : Heap) (locs' : List Loc), q w σ' → am_hr D cy α adV B0 h σ' s H' → va_S (am_A B0) s.heap H' locs' → W p l e R s m args below meth c H' locs' (cells + mc) (slots + ms) Q (F0 m (pc + 3) rl ((am_push w rest).map (am_cv α)))) : W p l e R s m args below meth c H locs cells slots Q (F0 m pc rl st0) := by
  intro T hT X
  obtain ⟨v, st₀, t, T', L', g0, X', gL, e1, e2, hq, st⟩ := hr T hT X
  obtain ⟨r, σ', hv, hq, hP, hD, hF⟩ := hq
  have hF2 : ∀ x : Nat, x < H.size → ¬ am_A B0 x → t.heap[x]? = H[x]? := fun x hx1 hx2 => by
    have := hF.2 x (by rw [g0]; exact hx1) hx2
    rw [this, g0]
  have hsz : H.size ≤ t.heap.size := by have := hF.1; rw [g0] at this; exact this
  have hS' : va_S (am_A B0) s.heap t.heap (locs ++ L') := ⟨Nat.le_trans hS.1 hsz, fun x h1 h2 => (hF2 x (Nat.lt_of_lt_of_le h1 hS.1) h2).trans (hS.2.1 x h1 h2), fun y hy => (List.mem_append.mp hy).elim (hS.2.2 y) (gL y)⟩
  have hv2 : v = r.map (am_cv α) := by
    injection hv
  obtain ⟨t2, a1, b1⟩ := kk r σ' t.heap (locs ++ L') hq ⟨hP, hD, hh.2.2.kept hF2⟩ hS' T' e1 X'
  refine ⟨t2, st t2 ?_, b1⟩
  have hg : ({ F0 m pc rl st0 with pc := (F0 m pc rl st0).pc + 3, stack := v.toList ++ rest.map (am_cv α) } : JFrame) = F0 m (pc + 3) rl ((am_push r rest).map (am_cv α)) := by
    rw [hv2]
    cases r <;> rfl
  rw [hg]
  exact a1
theorem am_pre {σ : am_S} {as : List Value} {H : Heap} {locs : List Loc} (hkk : am_kk D cy α s) (hB : B0 ≤ s.heap.size) (hh : am_hr D cy α adV B0 h σ s H) (hS : va_S (am_A B0) s.heap H locs) : ∀ U : State, U.heap = H → s.WarmedH U.vm → am_Pc D cy α adV B0 h σ as (as.map (am_cv α)).toArray U := by
  intro U hU hW
  refine ⟨rfl, by rw [hU]; exact Nat.le_trans hB hS.1, hkk.warm hW, ?_⟩
  rw [hU]
  exact hh.warm hW.alike
theorem am_callV {Ts : List Cond} {y d ci i idx pc fr lo : Nat} {as' : List Value} {σ : am_S} {r : am_Q} {H : Heap} {locs : List Loc} {rl : Array Slot} {rest : List Value} (hx : p.tables.exec = Jvm.exec) (hb : c.code = cc) (hml : c.maxLocals = nL) (hown : s.vm.findClass own = some m.cls) (hts : ∀ w ∈ am_TS, w.before args s = true) (hkk : am_kk D cy α s) (hB : B0 ≤ s.heap.size) (hfr : fr ≤ R.frames) (hlo : lo ≤ R.locals) (hcs : cells ≤ R.cells ∧ slots ≤ R.slots) (hkd : am_kd y = 0)
    (hev : am_ev h y (.ref i :: as') σ r) (hi : h[i]? = some (ci, 0)) (hci : ci < 12) (hcn : (am_name y).cls = am_mcl ci) (hlen : (Value.ref i :: as').length = d + 1) (hdec : decode cc pc = .ok (.invokevirtual idx, 3)) (hlk : Cond.methodLink own idx (am_name y) ∈ am_TS) (h1 : am_fr y + 1 ≤ fr) (h2 : 8 + (am_max y + 11) + am_lo y ≤ lo) (h3 : (parseMethodDescriptor (am_name y).desc).map (fun d => d.parameters.length) = some d) (hw : am_words rest ≤ 8) (hh : am_hr D cy α adV B0 h σ s H) (hS : va_S (am_A B0) s.heap H locs) (hrl : rl.size = nL)
    (kk : ∀ (w : Option Value) (σ' : am_S) (H' : Heap) (locs' : List Loc), r w σ' → am_hr D cy α adV B0 h σ' s H' → va_S (am_A B0) s.heap H' locs' → W p l e R s m args below meth c H' locs' cells slots Q (F0 m (pc + 3) rl ((am_push w rest).map (am_cv α)))) : W p l e R s m args below meth c H locs cells slots Q (F0 m pc rl (((Value.ref i :: as').reverse ++ rest).map (am_cv α))) := by
  have hmw := hev.1.1
  have hiv := hev.1.2.1 hkd
  have hM := hev.2 r (fun _ _ g => g) l D cy α adV B0
  have hG : GoodIn am_TS (wsV own idx (am_name y).cls (am_name y) (am_wsm y)) := by
    intro w hw
    unfold wsV at hw
    rcases List.mem_append.mp hw with hw | hw
    · simp only [List.mem_cons, List.not_mem_nil, or_false] at hw
      rcases hw with rfl | rfl | rfl | rfl
      · exact ⟨hlk, am_TS_good hlk⟩
      · exact ⟨hiv.1, am_TS_good hiv.1⟩
      · exact ⟨hiv.2, am_TS_good hiv.2⟩
      · exact ⟨hmw.2.1, am_TS_good hmw.2.1⟩
    · exact am_goodT hmw w hw
  have hrec : ∃ cellB : Cell, H[α i]? = some cellB ∧ cellB.vm.isStatics = false ∧ s.vm.findClass (am_name y).cls = some cellB.cls := by
    have hg := am_ws_get (cy := cy) (α := α) (σ := σ) hi
    rw [am_cell_O hci] at hg
    have hc : am_cl[ci]? = some (am_cl[ci]'(by simpa using hci)) := List.getElem?_eq_getElem _
    have := va_recv hkk.1 hh.1 hc hg
    rw [hcn]
    unfold am_mcl
    rw [hc]
    exact this
  have hrun := va_runV (R := R) (p := p) (e := e) (below := below) (meth := meth) (locs := locs) (cells := cells) (slots := slots) (b := α i) (As := as'.map (am_cv α)) (rest := rest.map (am_cv α)) (g := F0 m pc rl (((Value.ref i :: as').reverse ++ rest).map (am_cv α))) (S := ⟨hx, hb, hml, hown, hts⟩) hM
    (cwV (rm := am_room y) d hts hG rfl rfl rfl ⟨rfl, hmw.2.2.1, hmw.2.2.2, h3⟩ ⟨Nat.le_trans h1 hfr, Nat.le_trans h2 hlo⟩)
    ⟨am_Pc_blind, hrec, am_pre (as := .ref i :: as') hkk hB hh hS⟩ rfl (by rw [List.length_map]; simpa using hlen) hrl (by simp [am_cv]) (by
      have := am_words_cv α rest
      exact lv_room (by rw [this]; exact hw)) hdec ⟨by omega, by omega⟩
  exact am_after hB hh hS hrun kk
theorem am_callS {y d idx pc fr lo : Nat} {as : List Value} {σ : am_S} {r : am_Q} {H : Heap} {locs : List Loc} {rl : Array Slot} {rest : List Value} (hx : p.tables.exec = Jvm.exec) (hb : c.code = cc) (hml : c.maxLocals = nL) (hown : s.vm.findClass own = some m.cls) (hts : ∀ w ∈ am_TS, w.before args s = true) (hkk : am_kk D cy α s) (hB : B0 ≤ s.heap.size) (hfr : fr ≤ R.frames) (hlo : lo ≤ R.locals) (hcs : cells ≤ R.cells ∧ slots ≤ R.slots) (hkd : am_kd y = 1)
    (hev : am_ev h y as σ r) (hlen : as.length = d) (hdec : decode cc pc = .ok (.invokestatic idx, 3)) (hlk : Cond.methodLink own idx (am_name y) ∈ am_TS) (h1 : am_fr y + 1 ≤ fr) (h2 : 8 + (am_max y + 11) + am_lo y ≤ lo) (h3 : (parseMethodDescriptor (am_name y).desc).map (fun d => d.parameters.length) = some d) (hw : am_words rest ≤ 8) (hh : am_hr D cy α adV B0 h σ s H) (hS : va_S (am_A B0) s.heap H locs) (hrl : rl.size = nL)
    (kk : ∀ (w : Option Value) (σ' : am_S) (H' : Heap) (locs' : List Loc), r w σ' → am_hr D cy α adV B0 h σ' s H' → va_S (am_A B0) s.heap H' locs' → W p l e R s m args below meth c H' locs' cells slots Q (F0 m (pc + 3) rl ((am_push w rest).map (am_cv α)))) : W p l e R s m args below meth c H locs cells slots Q (F0 m pc rl ((as.reverse ++ rest).map (am_cv α))) := by
  have hmw := hev.1.1
  have hst := hev.1.2.2.1 hkd
  have hM := hev.2 r (fun _ _ g => g) l D cy α adV B0
  have hrun := va_runS (R := R) (p := p) (e := e) (below := below) (meth := meth) (locs := locs) (cells := cells) (slots := slots) (As := as.map (am_cv α)) (rest := rest.map (am_cv α)) (g := F0 m pc rl ((as.reverse ++ rest).map (am_cv α))) (S := ⟨hx, hb, hml, hown, hts⟩) hM
    ⟨callB_of (rm := am_room y) d hts (am_goodT hmw) rfl rfl rfl (hts _ hmw.2.1) (hts _ hlk) ⟨hmw.2.2.1, hmw.2.2.2, h3⟩ ⟨Nat.le_trans h1 hfr, Nat.le_trans h2 hlo⟩, hts _ hst⟩
    ⟨am_Pc_blind, am_pre (as := as) hkk hB hh hS⟩ rfl (by rw [List.length_map]; exact hlen) hrl (by simp) (by
      have := am_words_cv α rest
      exact lv_room (by rw [this]; exact hw)) hdec ⟨by omega, by omega⟩
  exact am_after hB hh hS hrun kk
end CAL
end
section
/-! the JDK's String.length and String.charAt on the five texts -/
def sj_Q (r : Option Value) : Array Value → State → Outcome → State → Prop := fun _ st o t => o = .returned r ∧ t.heap = st.heap
def sj_P (α adV : Nat → Nat) (B0 : Nat) (as : List Value) : Array Value → State → Prop := fun v U => v = as.toArray ∧ am_st α adV B0 U U.heap
abbrev sj_rm (fr lo : Nat) : Room := { frames := fr, cells := 0, slots := 0, locals := lo }
def sj_M (l : Launch) (α adV : Nat → Nat) (B0 : Nat) (y : MethodName) (cc : ByteArray) (n : Nat) (ret : Option FieldType) (fr lo : Nat) (as : List Value) (r : Option Value) : Prop :=
  Met l y (Cond.code y cc n ret :: am_TS) (sj_rm fr lo) (sj_P α adV B0 as) (sj_Q r) 0 0 (fun _ => False)
theorem sj_blind {α adV : Nat → Nat} {B0 : Nat} {as : List Value} : FrameBlind (sj_P α adV B0 as) := by
  intro a U g mk q
  exact ⟨q.1, am_st.moved (u := U) (U := U.calling g mk a) (Vm.Alike.refl U.vm) q.2⟩
theorem sj_of {l : Launch} {α adV : Nat → Nat} {B0 : Nat} {y : MethodName} {cc : ByteArray} {n : Nat} {ret : Option FieldType} {fr lo : Nat} {as : List Value} {r : Option Value} (hy : Jvm.plainName y.cls = true) (hn : (lg_sl as).length ≤ n)
    (body : ∀ (p : Program) (e : Env) (s : State) (m : MethodId) (args : Array Value) (below : List Frame) (meth : Method) (c : Code) (rl : Array Slot), p.tables.exec = Jvm.exec → c.code = cc → c.maxLocals = n → meth.sig.returnType = ret → meth.locks = false → s.vm.findClass y.cls = some m.cls → (∀ w ∈ am_TS, w.before args s = true) → am_st α adV B0 s s.heap → lv_has rl n (lv_args 0 as) →
      W p l e (sj_rm fr lo) s m args below meth c s.heap [] 0 0 (MQ below (sj_Q r) args s 0 0 (fun _ => False)) (F0 m 0 rl [])) : sj_M l α adV B0 y cc n ret fr lo as r := by
  refine Met.ofW (cc := cc) (maxL := n) (ret := ret) hy rfl ?_
  intro p e s m args below meth c s₁ B hml hv
  obtain ⟨rfl, hh⟩ := hv
  have hts := atoms_spec (ws := Cond.code y cc n ret :: am_TS) B.pre
  rw [lg_entry_eq]
  exact body p e s m _ below meth c _ B.exec B.bytes hml B.returns B.notSynchronized (findClass_of_methodNamed B.named) (fun w hw => hts w (List.mem_cons_of_mem _ hw)) hh (lv_entry as hn)
section SJ
variable {p : Program} {l : Launch} {e : Env} {R : Room} {s : State} {m : MethodId} {args : Array Value} {below : List Frame} {meth : Method} {c : Code} {cells slots : Nat} {Q : State → Prop}
variable {α adV : Nat → Nat} {B0 : Nat} {own : String} {cc bytes : ByteArray} {nL maxL index fr lo pc : Nat} {y : MethodName} {ret : Option FieldType} {r : Option Value} {H : Heap} {locs : List Loc} {rl : Array Slot} {rest : List Value}
theorem sj_after {st0 : List Value} {a : Array Value} (hr : va_Run p l e R s m args below meth c H locs cells slots 0 0 (F0 m pc rl st0) rest (sj_Q r a) (fun _ => False)) (kk : W p l e R s m args below meth c H locs cells slots Q (F0 m (pc + 3) rl (r.toList ++ rest))) : W p l e R s m args below meth c H locs cells slots Q (F0 m pc rl st0) := by
  intro T hT X
  obtain ⟨v, st₀, t, T', L, g0, X', gL, e1, e2, ⟨hv, hq⟩, st⟩ := hr T hT X
  have hL : L = [] := List.eq_nil_iff_forall_not_mem.mpr (fun x hx => gL x hx)
  subst hL
  rw [List.append_nil] at X'
  cases hv
  obtain ⟨t2, a1, b1⟩ := kk T' (e1.trans (hq.trans g0)) X'
  exact ⟨t2, st t2 a1, b1⟩
theorem sj_good (hcode : Cond.code y bytes maxL ret ∈ am_TS) : GoodIn am_TS (Cond.code y bytes maxL ret :: am_TS) := fun w hw => by
  rcases List.mem_cons.mp hw with rfl | hw
  · exact ⟨hcode, am_TS_good hcode⟩
  · exact ⟨hw, am_TS_good hw⟩
theorem sj_callS {as : List Value} (hM : sj_M l α adV B0 y bytes maxL ret fr lo as r) (S : CallFix p m c cc nL s args am_TS own) (hst : am_st α adV B0 s H) (hcode : Cond.code y bytes maxL ret ∈ am_TS) (hini : Cond.initialized y.cls ∈ am_TS) (hlk : Cond.methodLink own index y ∈ am_TS) (hstat : Cond.static y ∈ am_TS) (hd : y.cls ≠ "java/lang/invoke/MethodHandle" ∧ y.cls ≠ "java/lang/invoke/VarHandle" ∧ (parseMethodDescriptor y.desc).map (fun d => d.parameters.length) = some as.length) (hR : fr + 1 ≤ R.frames ∧ 8 + (maxL + 11) + lo ≤ R.locals) (hcs : cells ≤ R.cells ∧ slots ≤ R.slots) (hrl : rl.size = nL) (hw : (rest.map fun v => v.category).sum ≤ 8) (hdg : decode cc pc = .ok (.invokestatic index, 3))
    (kk : W p l e R s m args below meth c H locs cells slots Q (F0 m (pc + 3) rl (r.toList ++ rest))) : W p l e R s m args below meth c H locs cells slots Q (F0 m pc rl (as.reverse ++ rest)) := by
  have hts := S.2.2.2.2
  exact sj_after (va_runS (g := F0 m pc rl (as.reverse ++ rest)) S hM ⟨callB_of (rm := sj_rm fr lo) as.length hts (sj_good hcode) rfl rfl rfl (hts _ hini) (hts _ hlk) hd hR, hts _ hstat⟩ ⟨sj_blind, fun U hU hW => ⟨rfl, by rw [hU]; exact hst.moved hW.alike⟩⟩ rfl rfl hrl rfl (lv_room hw) hdg ⟨by omega, by omega⟩) kk
theorem sj_callV {b : Nat} {as : List Value} (hM : sj_M l α adV B0 y bytes maxL ret fr lo (.ref b :: as) r) (S : CallFix p m c cc nL s args am_TS own) (hst : am_st α adV B0 s H) (hrec : ∃ cell : Cell, H[b]? = some cell ∧ cell.vm.isStatics = false ∧ s.vm.findClass y.cls = some cell.cls) (hcode : Cond.code y bytes maxL ret ∈ am_TS) (hini : Cond.initialized y.cls ∈ am_TS) (hlk : Cond.methodLink own index y ∈ am_TS) (hins : Cond.instanceMethod y ∈ am_TS) (hsel : Cond.selects y.cls y y ∈ am_TS) (hd : y.cls ≠ "java/lang/invoke/MethodHandle" ∧ y.cls ≠ "java/lang/invoke/VarHandle" ∧ (parseMethodDescriptor y.desc).map (fun d => d.parameters.length) = some as.length) (hR : fr + 1 ≤ R.frames ∧ 8 + (maxL + 11) + lo ≤ R.locals) (hcs : cells ≤ R.cells ∧ slots ≤ R.slots) (hrl : rl.size = nL) (hw : (rest.map fun v => v.category).sum ≤ 8) (hdg : decode cc pc = .ok (.invokevirtual index, 3))
    (kk : W p l e R s m args below meth c H locs cells slots Q (F0 m (pc + 3) rl (r.toList ++ rest))) : W p l e R s m args below meth c H locs cells slots Q (F0 m pc rl (as.reverse ++ .ref b :: rest)) := by
  have hts := S.2.2.2.2
  exact sj_after (va_runV (C := y.cls) (g := F0 m pc rl (as.reverse ++ .ref b :: rest)) S hM ⟨callB_of (rm := sj_rm fr lo) as.length hts (sj_good hcode) rfl rfl rfl (hts _ hini) (hts _ hlk) hd hR, hts _ hins, hts _ hsel⟩ ⟨sj_blind, hrec, fun U hU hW => ⟨rfl, by rw [hU]; exact hst.moved hW.alike⟩⟩ rfl rfl hrl rfl (lv_room hw) hdg ⟨by omega, by omega⟩) kk
theorem sj_recv (hst : am_st α adV B0 s H) {t : Nat} (ht : t < 5) : ∃ cell : Cell, H[α (am_SB + t)]? = some cell ∧ cell.vm.isStatics = false ∧ s.vm.findClass RJ0 = some cell.cls := by
  obtain ⟨cell, h1, h2, h3, -⟩ := (hst.1.1 t ht).1
  exact ⟨cell, h1, h2, h3⟩
end SJ
theorem sj_i0 : Cond.initialized RJ0 ∈ am_TS := am_w_in (c := 0) (i := 16) (by decide +kernel)
theorem sj_i1 : Cond.initialized RJ1 ∈ am_TS := am_w_in (c := 0) (i := 17) (by decide +kernel)
theorem sj_i3 : Cond.initialized RJ3 ∈ am_TS := am_w_in (c := 0) (i := 18) (by decide +kernel)
section SJ
variable {l : Launch} {α adV : Nat → Nat} {B0 : Nat}
theorem sj_pre {i n : Int32} {w : Value} (hw : w.category = 1) (h0 : ¬ i < 0) (h1 : i < n) : sj_M l α adV B0 yJ3_checkIndex_8e157 cJ3_checkIndex_8e157 3 (some .int) 0 0 [.int i, .int n, w] (some (.int i)) := by
  refine sj_of (by decide +kernel) (by simp only [lg_sl, List.flatMap_cons, List.flatMap_nil, hw]; exact Nat.le_refl 3) ?_
  intro p e s m args below meth c rl hx hb hml hr hlk hown hts hst hl
  have l0 := hl.2.2 (0, .int i) (by simp [lv_args])
  have l1 := hl.2.2 (1, .int n) (by simp [lv_args, Value.category])
  refine lv_iload_n hx hb (k := 0) (by decide +kernel) rfl l0 ?_
  refine lv_if_lt hx hb (off := 8) (tgt := 9) (by decide +kernel) (by decide) (fun h => absurd h h0) (fun _ => ?_)
  refine lv_iload_n hx hb (k := 0) (by decide +kernel) rfl l0 ?_
  refine lv_iload_n hx hb (k := 1) (by decide +kernel) rfl l1 ?_
  refine lv_icmp_lt hx hb (off := 10) (tgt := 16) (by decide +kernel) (by decide) (fun _ => ?_) (fun h => absurd h1 h)
  refine lv_iload_n hx hb (k := 0) (by decide +kernel) rfl l0 ?_
  exact W.iret hx hb hr (fun t ht _ => ⟨rfl, ht⟩) (fun q hq => by cases hq) (by decide +kernel) hlk
theorem sj_chk {i n : Int32} (h0 : ¬ i < 0) (h1 : i < n) : sj_M l α adV B0 yJ0_checkIndex_df160 cJ0_checkIndex_df160 2 none 1 22 [.int i, .int n] none := by
  refine sj_of (by decide +kernel) (by simp [lg_sl, Value.category]) ?_
  intro p e s m args below meth c rl hx hb hml hr hlk hown hts hst hl
  have l0 := hl.2.2 (0, .int i) (by simp [lv_args])
  have l1 := hl.2.2 (1, .int n) (by simp [lv_args, Value.category])
  have hgo : ∀ w : Value, w.category = 1 → W p l e (sj_rm 1 22) s m args below meth c s.heap [] 0 0 (MQ below (sj_Q none) args s 0 0 (fun _ => False)) (F0 m 5 rl [w, .int n, .int i]) := by
    intro w hw
    refine sj_callS (index := 1059) (rest := []) (sj_pre hw h0 h1) ⟨hx, hb, hml, hown, hts⟩ hst (am_w_rf (c := 2) (i := 142) rfl rfl) sj_i3 (am_w_in (c := 2) (i := 140) (by decide +kernel)) (am_w_in (c := 2) (i := 141) (by decide +kernel)) ⟨by decide +kernel, by decide +kernel, by show _ = some (3 : Nat); decide +kernel⟩ ⟨by decide, by decide⟩ ⟨Nat.le_refl _, Nat.le_refl _⟩ hl.1 (by decide) (by decide +kernel) ?_
    refine lv_pop hx hb (by decide +kernel) rfl ?_
    exact W.vret hx hb hr (fun t ht _ => ⟨rfl, ht⟩) (fun q hq => by cases hq) (by decide +kernel) hlk
  refine lv_iload_n hx hb (k := 0) (by decide +kernel) rfl l0 ?_
  refine lv_iload_n hx hb (k := 1) (by decide +kernel) rfl l1 ?_
  have hlink := hts (Cond.fieldLink RJ0 1053 "jdk/internal/util/Preconditions" "SIOOBE_FORMATTER" "Ljava/util/function/BiFunction;") (am_w_in (c := 2) (i := 138) (by decide +kernel))
  rcases hst.2.2 with hz | ⟨t, hz⟩
  · exact va_gets hx hb hz va_S.rf hown hlink (fun _ h => h) (by decide +kernel) (hgo _ rfl)
  · exact va_gets hx hb hz va_S.rf hown hlink (fun _ h => h) (by decide +kernel) (hgo _ rfl)
theorem sj_coder {t : Nat} (ht : t < 5) : sj_M l α adV B0 yJ0_coder_7d493 cJ0_coder_7d493 1 (some .byte) 0 0 [.ref (α (am_SB + t))] (some (.int 0)) := by
  refine sj_of (by decide +kernel) (by simp [lg_sl, Value.category]) ?_
  intro p e s m args below meth c rl hx hb hml hr hlk hown hts hst hl
  have l0 := hl.2.2 (0, .ref (α (am_SB + t))) (by simp [lv_args])
  refine va_gets hx hb hst.2.1 va_S.rf hown (hts (Cond.fieldLink RJ0 38 RJ0 "COMPACT_STRINGS" "Z") (am_w_in (c := 2) (i := 122) (by decide +kernel))) (fun _ h => h) (by decide +kernel) ?_
  refine lv_if_eq hx hb (off := 10) (tgt := 13) (by decide +kernel) (by decide) (fun h => absurd h (by decide)) (fun _ => ?_)
  refine lv_aload_n hx hb (k := 0) (by decide +kernel) rfl l0 ?_
  refine vk_getf hx hb (hst.1.1 t ht).2.1 va_S.rf hown (hts (Cond.fieldLink RJ0 15 RJ0 "coder" "B") (am_w_in (c := 5) (i := 85) (by decide +kernel))) (fun _ h => h) (by decide +kernel) ?_
  refine lv_goto hx hb (off := 4) (tgt := 14) (by decide +kernel) (by decide) ?_
  exact W.zret (ty := .byte) hx hb hr (by decide +kernel) (fun t ht _ => ⟨rfl, ht⟩) (fun q hq => by cases hq) (by decide +kernel) hlk
theorem sj_lat {t : Nat} (ht : t < 5) : sj_M l α adV B0 yJ0_isLatin1_aae02 cJ0_isLatin1_aae02 1 (some .boolean) 0 0 [.ref (α (am_SB + t))] (some (.int 1)) := by
  refine sj_of (by decide +kernel) (by simp [lg_sl, Value.category]) ?_
  intro p e s m args below meth c rl hx hb hml hr hlk hown hts hst hl
  have l0 := hl.2.2 (0, .ref (α (am_SB + t))) (by simp [lv_args])
  refine va_gets hx hb hst.2.1 va_S.rf hown (hts (Cond.fieldLink RJ0 38 RJ0 "COMPACT_STRINGS" "Z") (am_w_in (c := 2) (i := 122) (by decide +kernel))) (fun _ h => h) (by decide +kernel) ?_
  refine lv_if_eq hx hb (off := 14) (tgt := 17) (by decide +kernel) (by decide) (fun h => absurd h (by decide)) (fun _ => ?_)
  refine lv_aload_n hx hb (k := 0) (by decide +kernel) rfl l0 ?_
  refine vk_getf hx hb (hst.1.1 t ht).2.1 va_S.rf hown (hts (Cond.fieldLink RJ0 15 RJ0 "coder" "B") (am_w_in (c := 5) (i := 85) (by decide +kernel))) (fun _ h => h) (by decide +kernel) ?_
  refine lv_if_ne hx hb (off := 7) (tgt := 17) (by decide +kernel) (by decide) (fun h => absurd rfl h) (fun _ => ?_)
  refine lv_iconst hx hb (n := 1) (v := 1) (by decide +kernel) (by decide) ?_
  refine lv_goto hx hb (off := 4) (tgt := 18) (by decide +kernel) (by decide) ?_
  exact W.zret (ty := .boolean) hx hb hr (by decide +kernel) (fun t ht _ => ⟨rfl, ht⟩) (fun q hq => by cases hq) (by decide +kernel) hlk
theorem sj_txt : ∀ t, t < 5 → am_len.getD t 0 = (am_txt t).length ∧ am_byt.getD t [] = am_txt t ∧ (am_txt t).length < 9 ∧ ∀ j, j < (am_txt t).length → (((am_txt t).getD j 0 &&& 255).toUInt32 % 65536).toInt32 = (am_txt t).getD j 0 ∧ narrow .char (.int ((am_txt t).getD j 0)) = .int ((am_txt t).getD j 0) := by decide +kernel
theorem sj_arr {t : Nat} (ht : t < 5) {s : State} {H : Heap} (hst : am_st α adV B0 s H) : va_T .byte (adV t) (am_txt t).length (fun j => .int ((am_txt t).getD j 0)) (am_A B0) s H := by
  have h := (hst.1.1 t ht).2.2.2
  rw [(sj_txt t ht).1, (sj_txt t ht).2.1] at h
  exact h
theorem sj_lch {t j : Nat} (ht : t < 5) (hj : j < (am_txt t).length) : sj_M l α adV B0 yJ1_charAt_3b067 cJ1_charAt_3b067 2 (some .char) 2 43 [.ref (adV t), .int (nI j)] (some (.int ((am_txt t).getD j 0))) := by
  refine sj_of (by decide +kernel) (by simp [lg_sl, Value.category]) ?_
  intro p e s m args below meth c rl hx hb hml hr hlk hown hts hst hl
  have l0 := hl.2.2 (0, .ref (adV t)) (by simp [lv_args])
  have l1 := hl.2.2 (1, .int (nI j)) (by simp [lv_args, Value.category])
  obtain ⟨-, -, hlen, hch⟩ := sj_txt t ht
  have hin := am_inI hj (by omega)
  have hlt : nI j < nI (am_txt t).length := by
    rw [Int32.lt_iff_toInt_lt]
    have a1 := nI_toInt (n := j) (by omega)
    have a2 := nI_toInt (n := (am_txt t).length) (by omega)
    omega
  refine lv_iload_n hx hb (k := 1) (by decide +kernel) rfl l1 ?_
  refine lv_aload_n hx hb (k := 0) (by decide +kernel) rfl l0 ?_
  refine va_tlen hx hb (sj_arr ht hst) va_S.rf (v := nI (am_txt t).length) rfl (by decide +kernel) ?_
  refine sj_callS (index := 9) (rest := []) (sj_chk (i := nI j) (n := nI (am_txt t).length) (fun h => hin.1 (Or.inl h)) hlt) ⟨hx, hb, hml, hown, hts⟩ hst (am_w_rf (c := 2) (i := 137) rfl rfl) sj_i0 (am_w_in (c := 2) (i := 135) (by decide +kernel)) (am_w_in (c := 2) (i := 136) (by decide +kernel)) ⟨by decide +kernel, by decide +kernel, by show _ = some (2 : Nat); decide +kernel⟩ ⟨by decide, by decide⟩ ⟨Nat.le_refl _, Nat.le_refl _⟩ hl.1 (by decide) (by decide +kernel) ?_
  refine lv_aload_n hx hb (k := 0) (by decide +kernel) rfl l0 ?_
  refine lv_iload_n hx hb (k := 1) (by decide +kernel) rfl l1 ?_
  refine va_tb hx hb (sj_arr ht hst) va_S.rf hin.1 (v := .int ((am_txt t).getD j 0)) (by rw [hin.2]) (by decide +kernel) ?_
  refine lv_sipush hx hb (n := 255) (v := 255) (by decide +kernel) (by decide) ?_
  refine lv_iand hx hb (by decide +kernel) ?_
  refine lv_i2c hx hb (by decide +kernel) (hch j hj).1 ?_
  exact W.zret (ty := .char) hx hb hr (hch j hj).2 (fun t ht _ => ⟨rfl, ht⟩) (fun q hq => by cases hq) (by decide +kernel) hlk
theorem sj_char {t j : Nat} (ht : t < 5) (hj : j < (am_txt t).length) : sj_M l α adV B0 yJ0_charAt_5068e cJ0_charAt_5068e 2 (some .char) 3 64 [.ref (α (am_SB + t)), .int (nI j)] (some (.int ((am_txt t).getD j 0))) := by
  refine sj_of (by decide +kernel) (by simp [lg_sl, Value.category]) ?_
  intro p e s m args below meth c rl hx hb hml hr hlk hown hts hst hl
  have l0 := hl.2.2 (0, .ref (α (am_SB + t))) (by simp [lv_args])
  have l1 := hl.2.2 (1, .int (nI j)) (by simp [lv_args, Value.category])
  refine lv_aload_n hx hb (k := 0) (by decide +kernel) rfl l0 ?_
  refine sj_callV (index := 492) (as := []) (rest := []) (sj_lat ht) ⟨hx, hb, hml, hown, hts⟩ hst (sj_recv hst ht) (am_w_rf (c := 2) (i := 131) rfl rfl) sj_i0 (am_w_in (c := 2) (i := 128) (by decide +kernel)) (am_w_in (c := 2) (i := 129) (by decide +kernel)) (am_w_in (c := 2) (i := 130) (by decide +kernel)) ⟨by decide +kernel, by decide +kernel, by decide +kernel⟩ ⟨by decide, by decide⟩ ⟨Nat.le_refl _, Nat.le_refl _⟩ hl.1 (by decide) (by decide +kernel) ?_
  refine lv_if_eq hx hb (off := 12) (tgt := 16) (by decide +kernel) (by decide) (fun h => absurd h (by decide)) (fun _ => ?_)
  refine lv_aload_n hx hb (k := 0) (by decide +kernel) rfl l0 ?_
  refine vk_getf hx hb (hst.1.1 t ht).2.2.1 va_S.rf hown (hts (Cond.fieldLink RJ0 9 RJ0 "value" "[B") (am_w_in (c := 5) (i := 84) (by decide +kernel))) (fun _ h => h) (by decide +kernel) ?_
  refine lv_iload_n hx hb (k := 1) (by decide +kernel) rfl l1 ?_
  refine sj_callS (index := 495) (rest := []) (sj_lch ht hj) ⟨hx, hb, hml, hown, hts⟩ hst (am_w_rf (c := 2) (i := 134) rfl rfl) sj_i1 (am_w_in (c := 2) (i := 132) (by decide +kernel)) (am_w_in (c := 2) (i := 133) (by decide +kernel)) ⟨by decide +kernel, by decide +kernel, by show _ = some (2 : Nat); decide +kernel⟩ ⟨by decide, by decide⟩ ⟨Nat.le_refl _, Nat.le_refl _⟩ hl.1 (by decide) (by decide +kernel) ?_
  exact W.zret (ty := .char) hx hb hr ((sj_txt t ht).2.2.2 j hj).2 (fun t ht _ => ⟨rfl, ht⟩) (fun q hq => by cases hq) (by decide +kernel) hlk
theorem sj_shr : ∀ t, t < 5 → nI (am_txt t).length >>> (0 &&& 31) = nI (am_txt t).length := by decide +kernel
theorem sj_len {t : Nat} (ht : t < 5) : sj_M l α adV B0 yJ0_length_8abf5 cJ0_length_8abf5 1 (some .int) 1 20 [.ref (α (am_SB + t))] (some (.int (nI (am_txt t).length))) := by
  refine sj_of (by decide +kernel) (by simp [lg_sl, Value.category]) ?_
  intro p e s m args below meth c rl hx hb hml hr hlk hown hts hst hl
  have l0 := hl.2.2 (0, .ref (α (am_SB + t))) (by simp [lv_args])
  refine lv_aload_n hx hb (k := 0) (by decide +kernel) rfl l0 ?_
  refine vk_getf hx hb (hst.1.1 t ht).2.2.1 va_S.rf hown (hts (Cond.fieldLink RJ0 9 RJ0 "value" "[B") (am_w_in (c := 5) (i := 84) (by decide +kernel))) (fun _ h => h) (by decide +kernel) ?_
  refine va_tlen hx hb (sj_arr ht hst) va_S.rf (v := nI (am_txt t).length) rfl (by decide +kernel) ?_
  refine lv_aload_n hx hb (k := 0) (by decide +kernel) rfl l0 ?_
  refine sj_callV (index := 335) (as := []) (rest := [.int (nI (am_txt t).length)]) (sj_coder ht) ⟨hx, hb, hml, hown, hts⟩ hst (sj_recv hst ht) (am_w_rf (c := 2) (i := 121) rfl rfl) sj_i0 (am_w_in (c := 2) (i := 118) (by decide +kernel)) (am_w_in (c := 2) (i := 119) (by decide +kernel)) (am_w_in (c := 2) (i := 120) (by decide +kernel)) ⟨by decide +kernel, by decide +kernel, by decide +kernel⟩ ⟨by decide, by decide⟩ ⟨Nat.le_refl _, Nat.le_refl _⟩ hl.1 (by simp [Value.category]) (by decide +kernel) ?_
  refine lv_ishr hx hb (by decide +kernel) ?_
  rw [sj_shr t ht]
  exact W.iret hx hb hr (fun t ht _ => ⟨rfl, ht⟩) (fun q hq => by cases hq) (by decide +kernel) hlk
end SJ
theorem am_str {p : Program} {l : Launch} {e : Env} {R : Room} {s : State} {m : MethodId} {args : Array Value} {below : List Frame} {meth : Method} {c : Code} {cells slots : Nat} {Q : State → Prop} {D : va_G} {cy : Nat → ClassId} {α adV : Nat → Nat} {B0 : Nat} {h : am_H} {cc : ByteArray} {nL fr lo : Nat} (hx : p.tables.exec = Jvm.exec) (hb : c.code = cc) (hml : c.maxLocals = nL) (hown : s.vm.findClass RX5 = some m.cls) (hts : ∀ w ∈ am_TS, w.before args s = true) (_hkk : am_kk D cy α s) (_hB : B0 ≤ s.heap.size) (hfr : fr ≤ R.frames) (hlo : lo ≤ R.locals) (hcs : cells ≤ R.cells ∧ slots ≤ R.slots) (h6 : 6 ≤ fr ∧ 150 ≤ lo) (t idx pc : Nat) (H : Heap) (locs : List Loc) (rl : Array Slot) (rest : List Value) (σ : am_S) (ht : t < 5) (hdec : decode cc pc = .ok (.invokevirtual idx, 3)) (hh : am_hr D cy α adV B0 h σ s H) (_hS : va_S (am_A B0) s.heap H locs) (hrl : rl.size = nL) (hw : (rest.map fun v => v.category).sum ≤ 8) :
      (Cond.methodLink RX5 idx yJ0_length_8abf5 ∈ am_TS → W p l e R s m args below meth c H locs cells slots Q (F0 m (pc + 3) rl (.int (nI (am_txt t).length) :: rest)) → W p l e R s m args below meth c H locs cells slots Q (F0 m pc rl (.ref (α (am_SB + t)) :: rest))) ∧
      ∀ j, j < (am_txt t).length → Cond.methodLink RX5 idx yJ0_charAt_5068e ∈ am_TS → W p l e R s m args below meth c H locs cells slots Q (F0 m (pc + 3) rl (.int ((am_txt t).getD j 0) :: rest)) → W p l e R s m args below meth c H locs cells slots Q (F0 m pc rl (.int (nI j) :: .ref (α (am_SB + t)) :: rest)) := by
  refine ⟨fun hlk kk => ?_, fun j hj hlk kk => ?_⟩
  · exact sj_callV (as := []) (sj_len ht) ⟨hx, hb, hml, hown, hts⟩ hh.2.2 (sj_recv hh.2.2 ht) (am_w_rf (c := 2) (i := 117) rfl rfl) sj_i0 hlk (am_w_in (c := 2) (i := 115) (by decide +kernel)) (am_w_in (c := 2) (i := 116) (by decide +kernel)) ⟨by decide +kernel, by decide +kernel, by decide +kernel⟩ ⟨by omega, by omega⟩ hcs hrl hw hdec kk
  · exact sj_callV (as := [.int (nI j)]) (sj_char ht hj) ⟨hx, hb, hml, hown, hts⟩ hh.2.2 (sj_recv hh.2.2 ht) (am_w_rf (c := 2) (i := 127) rfl rfl) sj_i0 hlk (am_w_in (c := 2) (i := 125) (by decide +kernel)) (am_w_in (c := 2) (i := 126) (by decide +kernel)) ⟨by decide +kernel, by decide +kernel, by show _ = some (1 : Nat); decide +kernel⟩ ⟨by omega, by omega⟩ hcs hrl hw hdec kk
end
