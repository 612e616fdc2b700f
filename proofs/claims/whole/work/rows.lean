section
-- ===== PART A: goes FIRST, ahead of the names: the tables' words, and 'selects' of the private methods out of them =====
/-- a private method of a class that the tables say can be made, by its rows of tables_1 -/
def lw_okq (q : MethodName × Nat) : Prop := (q.1.cls ≠ "java/lang/invoke/MethodHandle" ∧ q.1.cls ≠ "java/lang/invoke/VarHandle") ∧ Cond.instantiable q.1.cls q.2 ∈ tables_1 ∧ Cond.privateMethod q.1 ∈ tables_1 ∧ Cond.instanceMethod q.1 ∈ tables_1
theorem lw_p0 : lw_okq (⟨"JoineryFloor", "isMachine", "(I)Z"⟩, 10) := ⟨⟨by decide +kernel, by decide +kernel⟩, List.mem_of_getElem? (i := 15) (by decide +kernel), List.mem_of_getElem? (i := 354) (by decide +kernel), List.mem_of_getElem? (i := 355) (by decide +kernel)⟩
theorem lw_p1 : lw_okq (⟨"JoineryFloor", "addStep", "(III)I"⟩, 10) := ⟨⟨by decide +kernel, by decide +kernel⟩, List.mem_of_getElem? (i := 15) (by decide +kernel), List.mem_of_getElem? (i := 359) (by decide +kernel), List.mem_of_getElem? (i := 360) (by decide +kernel)⟩
theorem lw_p2 : lw_okq (⟨"JoineryFloor", "isStep", "(I)Z"⟩, 10) := ⟨⟨by decide +kernel, by decide +kernel⟩, List.mem_of_getElem? (i := 15) (by decide +kernel), List.mem_of_getElem? (i := 375) (by decide +kernel), List.mem_of_getElem? (i := 376) (by decide +kernel)⟩
theorem lw_p3 : lw_okq (⟨"JoineryFloor$Sheets", "hasPlaces", "(III)Z"⟩, 4) := ⟨⟨by decide +kernel, by decide +kernel⟩, List.mem_of_getElem? (i := 133) (by decide +kernel), List.mem_of_getElem? (i := 447) (by decide +kernel), List.mem_of_getElem? (i := 448) (by decide +kernel)⟩
theorem lw_p4 : lw_okq (⟨"JoineryFloor", "holdsSteps", "([II)Z"⟩, 10) := ⟨⟨by decide +kernel, by decide +kernel⟩, List.mem_of_getElem? (i := 15) (by decide +kernel), List.mem_of_getElem? (i := 462) (by decide +kernel), List.mem_of_getElem? (i := 463) (by decide +kernel)⟩
theorem lw_p5 : lw_okq (⟨"JoineryFloor", "addPieceBy", "(I[II)I"⟩, 10) := ⟨⟨by decide +kernel, by decide +kernel⟩, List.mem_of_getElem? (i := 15) (by decide +kernel), List.mem_of_getElem? (i := 467) (by decide +kernel), List.mem_of_getElem? (i := 468) (by decide +kernel)⟩
theorem lw_p6 : lw_okq (⟨"JoineryFloor$Day", "isNextOnMachine", "(LJoineryFloor$Floor;LJoineryFloor$Orders;I)Z"⟩, 11) := ⟨⟨by decide +kernel, by decide +kernel⟩, List.mem_of_getElem? (i := 158) (by decide +kernel), List.mem_of_getElem? (i := 491) (by decide +kernel), List.mem_of_getElem? (i := 492) (by decide +kernel)⟩
theorem lw_p7 : lw_okq (⟨"JoineryFloor$Day", "endAheadInPiece", "(LJoineryFloor$Floor;I)I"⟩, 11) := ⟨⟨by decide +kernel, by decide +kernel⟩, List.mem_of_getElem? (i := 158) (by decide +kernel), List.mem_of_getElem? (i := 499) (by decide +kernel), List.mem_of_getElem? (i := 500) (by decide +kernel)⟩
theorem lw_p8 : lw_okq (⟨"JoineryFloor$Day", "freeHand", "(LJoineryFloor$Floor;LJoineryFloor$Orders;I)I"⟩, 11) := ⟨⟨by decide +kernel, by decide +kernel⟩, List.mem_of_getElem? (i := 158) (by decide +kernel), List.mem_of_getElem? (i := 510) (by decide +kernel), List.mem_of_getElem? (i := 511) (by decide +kernel)⟩
theorem lw_p9 : lw_okq (⟨"JoineryFloor$Day", "keepLatest", "(I)V"⟩, 11) := ⟨⟨by decide +kernel, by decide +kernel⟩, List.mem_of_getElem? (i := 158) (by decide +kernel), List.mem_of_getElem? (i := 514) (by decide +kernel), List.mem_of_getElem? (i := 515) (by decide +kernel)⟩
theorem lw_p10 : lw_okq (⟨"JoineryFloor", "hasTails", "()Z"⟩, 10) := ⟨⟨by decide +kernel, by decide +kernel⟩, List.mem_of_getElem? (i := 15) (by decide +kernel), List.mem_of_getElem? (i := 550) (by decide +kernel), List.mem_of_getElem? (i := 551) (by decide +kernel)⟩
theorem lw_p11 : lw_okq (⟨"JoineryFloor$Day", "lengthFrom", "(LJoineryFloor$Floor;I)I"⟩, 11) := ⟨⟨by decide +kernel, by decide +kernel⟩, List.mem_of_getElem? (i := 158) (by decide +kernel), List.mem_of_getElem? (i := 562) (by decide +kernel), List.mem_of_getElem? (i := 563) (by decide +kernel)⟩
theorem lw_p12 : lw_okq (⟨"JoineryFloor$Day", "followsInRow", "(LJoineryFloor$Floor;II)Z"⟩, 11) := ⟨⟨by decide +kernel, by decide +kernel⟩, List.mem_of_getElem? (i := 158) (by decide +kernel), List.mem_of_getElem? (i := 583) (by decide +kernel), List.mem_of_getElem? (i := 584) (by decide +kernel)⟩
theorem lw_p13 : lw_okq (⟨"JoineryFloor", "pickBy", "(I)I"⟩, 10) := ⟨⟨by decide +kernel, by decide +kernel⟩, List.mem_of_getElem? (i := 15) (by decide +kernel), List.mem_of_getElem? (i := 597) (by decide +kernel), List.mem_of_getElem? (i := 598) (by decide +kernel)⟩
theorem lw_p14 : lw_okq (⟨"JoineryFloor", "rankBy", "(II)I"⟩, 10) := ⟨⟨by decide +kernel, by decide +kernel⟩, List.mem_of_getElem? (i := 15) (by decide +kernel), List.mem_of_getElem? (i := 603) (by decide +kernel), List.mem_of_getElem? (i := 604) (by decide +kernel)⟩
theorem lw_p15 : lw_okq (⟨"JoineryFloor", "shorten", "()Z"⟩, 10) := ⟨⟨by decide +kernel, by decide +kernel⟩, List.mem_of_getElem? (i := 15) (by decide +kernel), List.mem_of_getElem? (i := 616) (by decide +kernel), List.mem_of_getElem? (i := 617) (by decide +kernel)⟩
def lw_privs_1 : List (MethodName × Nat) := [(⟨"JoineryFloor", "isMachine", "(I)Z"⟩, 10), (⟨"JoineryFloor", "addStep", "(III)I"⟩, 10), (⟨"JoineryFloor", "isStep", "(I)Z"⟩, 10), (⟨"JoineryFloor$Sheets", "hasPlaces", "(III)Z"⟩, 4), (⟨"JoineryFloor", "holdsSteps", "([II)Z"⟩, 10), (⟨"JoineryFloor", "addPieceBy", "(I[II)I"⟩, 10), (⟨"JoineryFloor$Day", "isNextOnMachine", "(LJoineryFloor$Floor;LJoineryFloor$Orders;I)Z"⟩, 11), (⟨"JoineryFloor$Day", "endAheadInPiece", "(LJoineryFloor$Floor;I)I"⟩, 11), (⟨"JoineryFloor$Day", "freeHand", "(LJoineryFloor$Floor;LJoineryFloor$Orders;I)I"⟩, 11), (⟨"JoineryFloor$Day", "keepLatest", "(I)V"⟩, 11), (⟨"JoineryFloor", "hasTails", "()Z"⟩, 10), (⟨"JoineryFloor$Day", "lengthFrom", "(LJoineryFloor$Floor;I)I"⟩, 11), (⟨"JoineryFloor$Day", "followsInRow", "(LJoineryFloor$Floor;II)Z"⟩, 11), (⟨"JoineryFloor", "pickBy", "(I)I"⟩, 10), (⟨"JoineryFloor", "rankBy", "(II)I"⟩, 10), (⟨"JoineryFloor", "shorten", "()Z"⟩, 10)]
theorem lw_r1 : ∀ q ∈ lw_privs_1, lw_okq q := List.forall_mem_cons.mpr ⟨lw_p0, List.forall_mem_cons.mpr ⟨lw_p1, List.forall_mem_cons.mpr ⟨lw_p2, List.forall_mem_cons.mpr ⟨lw_p3, List.forall_mem_cons.mpr ⟨lw_p4, List.forall_mem_cons.mpr ⟨lw_p5, List.forall_mem_cons.mpr ⟨lw_p6, List.forall_mem_cons.mpr ⟨lw_p7, List.forall_mem_cons.mpr ⟨lw_p8, List.forall_mem_cons.mpr ⟨lw_p9, List.forall_mem_cons.mpr ⟨lw_p10, List.forall_mem_cons.mpr ⟨lw_p11, List.forall_mem_cons.mpr ⟨lw_p12, List.forall_mem_cons.mpr ⟨lw_p13, List.forall_mem_cons.mpr ⟨lw_p14, List.forall_mem_cons.mpr ⟨lw_p15, fun _ h => absurd h List.not_mem_nil⟩⟩⟩⟩⟩⟩⟩⟩⟩⟩⟩⟩⟩⟩⟩⟩
theorem lw_p16 : lw_okq (⟨"JoineryFloor", "isTight", "(II)Z"⟩, 10) := ⟨⟨by decide +kernel, by decide +kernel⟩, List.mem_of_getElem? (i := 15) (by decide +kernel), List.mem_of_getElem? (i := 620) (by decide +kernel), List.mem_of_getElem? (i := 621) (by decide +kernel)⟩
theorem lw_p17 : lw_okq (⟨"JoineryFloor", "endBySwap", "(II)I"⟩, 10) := ⟨⟨by decide +kernel, by decide +kernel⟩, List.mem_of_getElem? (i := 15) (by decide +kernel), List.mem_of_getElem? (i := 625) (by decide +kernel), List.mem_of_getElem? (i := 626) (by decide +kernel)⟩
theorem lw_p18 : lw_okq (⟨"JoineryFloor$Windows", "alongPieces", "(LJoineryFloor$Floor;)V"⟩, 6) := ⟨⟨by decide +kernel, by decide +kernel⟩, List.mem_of_getElem? (i := 205) (by decide +kernel), List.mem_of_getElem? (i := 640) (by decide +kernel), List.mem_of_getElem? (i := 641) (by decide +kernel)⟩
theorem lw_p19 : lw_okq (⟨"JoineryFloor$Windows", "raise", "(II)V"⟩, 6) := ⟨⟨by decide +kernel, by decide +kernel⟩, List.mem_of_getElem? (i := 205) (by decide +kernel), List.mem_of_getElem? (i := 644) (by decide +kernel), List.mem_of_getElem? (i := 645) (by decide +kernel)⟩
theorem lw_p20 : lw_okq (⟨"JoineryFloor$Windows", "lower", "(II)V"⟩, 6) := ⟨⟨by decide +kernel, by decide +kernel⟩, List.mem_of_getElem? (i := 205) (by decide +kernel), List.mem_of_getElem? (i := 648) (by decide +kernel), List.mem_of_getElem? (i := 649) (by decide +kernel)⟩
theorem lw_p21 : lw_okq (⟨"JoineryFloor$Windows", "lookForBurst", "(LJoineryFloor$Floor;)V"⟩, 6) := ⟨⟨by decide +kernel, by decide +kernel⟩, List.mem_of_getElem? (i := 205) (by decide +kernel), List.mem_of_getElem? (i := 652) (by decide +kernel), List.mem_of_getElem? (i := 653) (by decide +kernel)⟩
theorem lw_p22 : lw_okq (⟨"JoineryFloor$Windows", "alongPairs", "(LJoineryFloor$Floor;)V"⟩, 6) := ⟨⟨by decide +kernel, by decide +kernel⟩, List.mem_of_getElem? (i := 205) (by decide +kernel), List.mem_of_getElem? (i := 656) (by decide +kernel), List.mem_of_getElem? (i := 657) (by decide +kernel)⟩
theorem lw_p23 : lw_okq (⟨"JoineryFloor$Windows", "tellPairs", "(LJoineryFloor$Floor;)V"⟩, 6) := ⟨⟨by decide +kernel, by decide +kernel⟩, List.mem_of_getElem? (i := 205) (by decide +kernel), List.mem_of_getElem? (i := 664) (by decide +kernel), List.mem_of_getElem? (i := 665) (by decide +kernel)⟩
theorem lw_p24 : lw_okq (⟨"JoineryFloor$Windows", "tellPair", "(LJoineryFloor$Floor;II)V"⟩, 6) := ⟨⟨by decide +kernel, by decide +kernel⟩, List.mem_of_getElem? (i := 205) (by decide +kernel), List.mem_of_getElem? (i := 668) (by decide +kernel), List.mem_of_getElem? (i := 669) (by decide +kernel)⟩
theorem lw_p25 : lw_okq (⟨"JoineryFloor$Windows", "tellAhead", "(II)V"⟩, 6) := ⟨⟨by decide +kernel, by decide +kernel⟩, List.mem_of_getElem? (i := 205) (by decide +kernel), List.mem_of_getElem? (i := 676) (by decide +kernel), List.mem_of_getElem? (i := 677) (by decide +kernel)⟩
theorem lw_p26 : lw_okq (⟨"JoineryFloor$Windows", "closeSets", "(LJoineryFloor$Floor;)V"⟩, 6) := ⟨⟨by decide +kernel, by decide +kernel⟩, List.mem_of_getElem? (i := 205) (by decide +kernel), List.mem_of_getElem? (i := 680) (by decide +kernel), List.mem_of_getElem? (i := 681) (by decide +kernel)⟩
theorem lw_p27 : lw_okq (⟨"JoineryFloor$Windows", "closeSet", "(LJoineryFloor$Floor;III)V"⟩, 6) := ⟨⟨by decide +kernel, by decide +kernel⟩, List.mem_of_getElem? (i := 205) (by decide +kernel), List.mem_of_getElem? (i := 684) (by decide +kernel), List.mem_of_getElem? (i := 685) (by decide +kernel)⟩
theorem lw_p28 : lw_okq (⟨"JoineryFloor$Windows", "keepOff", "(IIIII)V"⟩, 6) := ⟨⟨by decide +kernel, by decide +kernel⟩, List.mem_of_getElem? (i := 205) (by decide +kernel), List.mem_of_getElem? (i := 688) (by decide +kernel), List.mem_of_getElem? (i := 689) (by decide +kernel)⟩
theorem lw_p29 : lw_okq (⟨"JoineryFloor$Bounds", "mostPressing", "(I)I"⟩, 5) := ⟨⟨by decide +kernel, by decide +kernel⟩, List.mem_of_getElem? (i := 235) (by decide +kernel), List.mem_of_getElem? (i := 729) (by decide +kernel), List.mem_of_getElem? (i := 730) (by decide +kernel)⟩
theorem lw_p30 : lw_okq (⟨"JoineryFloor$Bounds", "nextFirst", "(I)I"⟩, 5) := ⟨⟨by decide +kernel, by decide +kernel⟩, List.mem_of_getElem? (i := 235) (by decide +kernel), List.mem_of_getElem? (i := 733) (by decide +kernel), List.mem_of_getElem? (i := 734) (by decide +kernel)⟩
theorem lw_p31 : lw_okq (⟨"JoineryFloor$Bounds", "tryRest", "(IIIIII)I"⟩, 5) := ⟨⟨by decide +kernel, by decide +kernel⟩, List.mem_of_getElem? (i := 235) (by decide +kernel), List.mem_of_getElem? (i := 744) (by decide +kernel), List.mem_of_getElem? (i := 745) (by decide +kernel)⟩
def lw_privs_2 : List (MethodName × Nat) := [(⟨"JoineryFloor", "isTight", "(II)Z"⟩, 10), (⟨"JoineryFloor", "endBySwap", "(II)I"⟩, 10), (⟨"JoineryFloor$Windows", "alongPieces", "(LJoineryFloor$Floor;)V"⟩, 6), (⟨"JoineryFloor$Windows", "raise", "(II)V"⟩, 6), (⟨"JoineryFloor$Windows", "lower", "(II)V"⟩, 6), (⟨"JoineryFloor$Windows", "lookForBurst", "(LJoineryFloor$Floor;)V"⟩, 6), (⟨"JoineryFloor$Windows", "alongPairs", "(LJoineryFloor$Floor;)V"⟩, 6), (⟨"JoineryFloor$Windows", "tellPairs", "(LJoineryFloor$Floor;)V"⟩, 6), (⟨"JoineryFloor$Windows", "tellPair", "(LJoineryFloor$Floor;II)V"⟩, 6), (⟨"JoineryFloor$Windows", "tellAhead", "(II)V"⟩, 6), (⟨"JoineryFloor$Windows", "closeSets", "(LJoineryFloor$Floor;)V"⟩, 6), (⟨"JoineryFloor$Windows", "closeSet", "(LJoineryFloor$Floor;III)V"⟩, 6), (⟨"JoineryFloor$Windows", "keepOff", "(IIIII)V"⟩, 6), (⟨"JoineryFloor$Bounds", "mostPressing", "(I)I"⟩, 5), (⟨"JoineryFloor$Bounds", "nextFirst", "(I)I"⟩, 5), (⟨"JoineryFloor$Bounds", "tryRest", "(IIIIII)I"⟩, 5)]
theorem lw_r2 : ∀ q ∈ lw_privs_2, lw_okq q := List.forall_mem_cons.mpr ⟨lw_p16, List.forall_mem_cons.mpr ⟨lw_p17, List.forall_mem_cons.mpr ⟨lw_p18, List.forall_mem_cons.mpr ⟨lw_p19, List.forall_mem_cons.mpr ⟨lw_p20, List.forall_mem_cons.mpr ⟨lw_p21, List.forall_mem_cons.mpr ⟨lw_p22, List.forall_mem_cons.mpr ⟨lw_p23, List.forall_mem_cons.mpr ⟨lw_p24, List.forall_mem_cons.mpr ⟨lw_p25, List.forall_mem_cons.mpr ⟨lw_p26, List.forall_mem_cons.mpr ⟨lw_p27, List.forall_mem_cons.mpr ⟨lw_p28, List.forall_mem_cons.mpr ⟨lw_p29, List.forall_mem_cons.mpr ⟨lw_p30, List.forall_mem_cons.mpr ⟨lw_p31, fun _ h => absurd h List.not_mem_nil⟩⟩⟩⟩⟩⟩⟩⟩⟩⟩⟩⟩⟩⟩⟩⟩
theorem lw_p32 : lw_okq (⟨"JoineryFloor$Search", "splitCase", "(LJoineryFloor$Floor;)Z"⟩, 8) := ⟨⟨by decide +kernel, by decide +kernel⟩, List.mem_of_getElem? (i := 257) (by decide +kernel), List.mem_of_getElem? (i := 759) (by decide +kernel), List.mem_of_getElem? (i := 760) (by decide +kernel)⟩
theorem lw_p33 : lw_okq (⟨"JoineryFloor$Search", "addCase", "(II)V"⟩, 8) := ⟨⟨by decide +kernel, by decide +kernel⟩, List.mem_of_getElem? (i := 257) (by decide +kernel), List.mem_of_getElem? (i := 764) (by decide +kernel), List.mem_of_getElem? (i := 765) (by decide +kernel)⟩
theorem lw_p34 : lw_okq (⟨"JoineryFloor$Search", "tryOrders", "(LJoineryFloor$Floor;LJoineryFloor$Orders;)V"⟩, 8) := ⟨⟨by decide +kernel, by decide +kernel⟩, List.mem_of_getElem? (i := 257) (by decide +kernel), List.mem_of_getElem? (i := 768) (by decide +kernel), List.mem_of_getElem? (i := 769) (by decide +kernel)⟩
theorem lw_p35 : lw_okq (⟨"JoineryFloor$Search", "orderMachine", "(LJoineryFloor$Floor;I)V"⟩, 8) := ⟨⟨by decide +kernel, by decide +kernel⟩, List.mem_of_getElem? (i := 257) (by decide +kernel), List.mem_of_getElem? (i := 777) (by decide +kernel), List.mem_of_getElem? (i := 778) (by decide +kernel)⟩
theorem lw_p36 : lw_okq (⟨"JoineryFloor$Search", "aheadOf", "(LJoineryFloor$Floor;I)I"⟩, 8) := ⟨⟨by decide +kernel, by decide +kernel⟩, List.mem_of_getElem? (i := 257) (by decide +kernel), List.mem_of_getElem? (i := 781) (by decide +kernel), List.mem_of_getElem? (i := 782) (by decide +kernel)⟩
theorem lw_p37 : lw_okq (⟨"JoineryFloor", "stays", "(III)Z"⟩, 10) := ⟨⟨by decide +kernel, by decide +kernel⟩, List.mem_of_getElem? (i := 15) (by decide +kernel), List.mem_of_getElem? (i := 795) (by decide +kernel), List.mem_of_getElem? (i := 796) (by decide +kernel)⟩
theorem lw_p38 : lw_okq (⟨"JoineryFloorModel", "more", "(III)I"⟩, 53) := ⟨⟨by decide +kernel, by decide +kernel⟩, List.mem_of_getElem? (i := 803) (by decide +kernel), List.mem_of_getElem? (i := 993) (by decide +kernel), List.mem_of_getElem? (i := 994) (by decide +kernel)⟩
theorem lw_p39 : lw_okq (⟨"JoineryFloorModel", "isStep", "(I)Z"⟩, 53) := ⟨⟨by decide +kernel, by decide +kernel⟩, List.mem_of_getElem? (i := 803) (by decide +kernel), List.mem_of_getElem? (i := 1001) (by decide +kernel), List.mem_of_getElem? (i := 1002) (by decide +kernel)⟩
theorem lw_p40 : lw_okq (⟨"JoineryFloorModel", "placeOf", "(I)I"⟩, 53) := ⟨⟨by decide +kernel, by decide +kernel⟩, List.mem_of_getElem? (i := 803) (by decide +kernel), List.mem_of_getElem? (i := 1005) (by decide +kernel), List.mem_of_getElem? (i := 1006) (by decide +kernel)⟩
theorem lw_p41 : lw_okq (⟨"JoineryFloorModel", "isSimple", "()Z"⟩, 53) := ⟨⟨by decide +kernel, by decide +kernel⟩, List.mem_of_getElem? (i := 803) (by decide +kernel), List.mem_of_getElem? (i := 1013) (by decide +kernel), List.mem_of_getElem? (i := 1014) (by decide +kernel)⟩
theorem lw_p42 : lw_okq (⟨"JoineryFloorModel", "sumOfSpans", "()I"⟩, 53) := ⟨⟨by decide +kernel, by decide +kernel⟩, List.mem_of_getElem? (i := 803) (by decide +kernel), List.mem_of_getElem? (i := 1017) (by decide +kernel), List.mem_of_getElem? (i := 1018) (by decide +kernel)⟩
theorem lw_p43 : lw_okq (⟨"JoineryFloorModel", "work", "()Z"⟩, 53) := ⟨⟨by decide +kernel, by decide +kernel⟩, List.mem_of_getElem? (i := 803) (by decide +kernel), List.mem_of_getElem? (i := 1059) (by decide +kernel), List.mem_of_getElem? (i := 1060) (by decide +kernel)⟩
theorem lw_p44 : lw_okq (⟨"JoineryFloorModel", "isReady", "(I)Z"⟩, 53) := ⟨⟨by decide +kernel, by decide +kernel⟩, List.mem_of_getElem? (i := 803) (by decide +kernel), List.mem_of_getElem? (i := 1063) (by decide +kernel), List.mem_of_getElem? (i := 1064) (by decide +kernel)⟩
theorem lw_p45 : lw_okq (⟨"JoineryFloorModel", "ahead", "(I)I"⟩, 53) := ⟨⟨by decide +kernel, by decide +kernel⟩, List.mem_of_getElem? (i := 803) (by decide +kernel), List.mem_of_getElem? (i := 1067) (by decide +kernel), List.mem_of_getElem? (i := 1068) (by decide +kernel)⟩
theorem lw_p46 : lw_okq (⟨"JoineryFloorModel", "fromOrder", "(III)I"⟩, 53) := ⟨⟨by decide +kernel, by decide +kernel⟩, List.mem_of_getElem? (i := 803) (by decide +kernel), List.mem_of_getElem? (i := 1071) (by decide +kernel), List.mem_of_getElem? (i := 1072) (by decide +kernel)⟩
theorem lw_p47 : lw_okq (⟨"JoineryFloorModel", "exchange", "(II)V"⟩, 53) := ⟨⟨by decide +kernel, by decide +kernel⟩, List.mem_of_getElem? (i := 803) (by decide +kernel), List.mem_of_getElem? (i := 1075) (by decide +kernel), List.mem_of_getElem? (i := 1076) (by decide +kernel)⟩
def lw_privs_3 : List (MethodName × Nat) := [(⟨"JoineryFloor$Search", "splitCase", "(LJoineryFloor$Floor;)Z"⟩, 8), (⟨"JoineryFloor$Search", "addCase", "(II)V"⟩, 8), (⟨"JoineryFloor$Search", "tryOrders", "(LJoineryFloor$Floor;LJoineryFloor$Orders;)V"⟩, 8), (⟨"JoineryFloor$Search", "orderMachine", "(LJoineryFloor$Floor;I)V"⟩, 8), (⟨"JoineryFloor$Search", "aheadOf", "(LJoineryFloor$Floor;I)I"⟩, 8), (⟨"JoineryFloor", "stays", "(III)Z"⟩, 10), (⟨"JoineryFloorModel", "more", "(III)I"⟩, 53), (⟨"JoineryFloorModel", "isStep", "(I)Z"⟩, 53), (⟨"JoineryFloorModel", "placeOf", "(I)I"⟩, 53), (⟨"JoineryFloorModel", "isSimple", "()Z"⟩, 53), (⟨"JoineryFloorModel", "sumOfSpans", "()I"⟩, 53), (⟨"JoineryFloorModel", "work", "()Z"⟩, 53), (⟨"JoineryFloorModel", "isReady", "(I)Z"⟩, 53), (⟨"JoineryFloorModel", "ahead", "(I)I"⟩, 53), (⟨"JoineryFloorModel", "fromOrder", "(III)I"⟩, 53), (⟨"JoineryFloorModel", "exchange", "(II)V"⟩, 53)]
theorem lw_r3 : ∀ q ∈ lw_privs_3, lw_okq q := List.forall_mem_cons.mpr ⟨lw_p32, List.forall_mem_cons.mpr ⟨lw_p33, List.forall_mem_cons.mpr ⟨lw_p34, List.forall_mem_cons.mpr ⟨lw_p35, List.forall_mem_cons.mpr ⟨lw_p36, List.forall_mem_cons.mpr ⟨lw_p37, List.forall_mem_cons.mpr ⟨lw_p38, List.forall_mem_cons.mpr ⟨lw_p39, List.forall_mem_cons.mpr ⟨lw_p40, List.forall_mem_cons.mpr ⟨lw_p41, List.forall_mem_cons.mpr ⟨lw_p42, List.forall_mem_cons.mpr ⟨lw_p43, List.forall_mem_cons.mpr ⟨lw_p44, List.forall_mem_cons.mpr ⟨lw_p45, List.forall_mem_cons.mpr ⟨lw_p46, List.forall_mem_cons.mpr ⟨lw_p47, fun _ h => absurd h List.not_mem_nil⟩⟩⟩⟩⟩⟩⟩⟩⟩⟩⟩⟩⟩⟩⟩⟩
theorem lw_p48 : lw_okq (⟨"JoineryFloorModel", "hasTails", "()Z"⟩, 53) := ⟨⟨by decide +kernel, by decide +kernel⟩, List.mem_of_getElem? (i := 803) (by decide +kernel), List.mem_of_getElem? (i := 1095) (by decide +kernel), List.mem_of_getElem? (i := 1096) (by decide +kernel)⟩
theorem lw_p49 : lw_okq (⟨"JoineryFloorModel", "workTails", "()V"⟩, 53) := ⟨⟨by decide +kernel, by decide +kernel⟩, List.mem_of_getElem? (i := 803) (by decide +kernel), List.mem_of_getElem? (i := 1099) (by decide +kernel), List.mem_of_getElem? (i := 1100) (by decide +kernel)⟩
theorem lw_p50 : lw_okq (⟨"JoineryFloorModel", "behind", "(I)I"⟩, 53) := ⟨⟨by decide +kernel, by decide +kernel⟩, List.mem_of_getElem? (i := 803) (by decide +kernel), List.mem_of_getElem? (i := 1103) (by decide +kernel), List.mem_of_getElem? (i := 1104) (by decide +kernel)⟩
theorem lw_p51 : lw_okq (⟨"JoineryFloorModel", "next", "(I)I"⟩, 53) := ⟨⟨by decide +kernel, by decide +kernel⟩, List.mem_of_getElem? (i := 803) (by decide +kernel), List.mem_of_getElem? (i := 1107) (by decide +kernel), List.mem_of_getElem? (i := 1108) (by decide +kernel)⟩
theorem lw_p52 : lw_okq (⟨"JoineryFloorModel", "slack", "(I)I"⟩, 53) := ⟨⟨by decide +kernel, by decide +kernel⟩, List.mem_of_getElem? (i := 803) (by decide +kernel), List.mem_of_getElem? (i := 1111) (by decide +kernel), List.mem_of_getElem? (i := 1112) (by decide +kernel)⟩
theorem lw_p53 : lw_okq (⟨"JoineryFloorModel", "isNext", "(II)Z"⟩, 53) := ⟨⟨by decide +kernel, by decide +kernel⟩, List.mem_of_getElem? (i := 803) (by decide +kernel), List.mem_of_getElem? (i := 1119) (by decide +kernel), List.mem_of_getElem? (i := 1120) (by decide +kernel)⟩
theorem lw_p54 : lw_okq (⟨"JoineryFloorModel", "first", "(I)I"⟩, 53) := ⟨⟨by decide +kernel, by decide +kernel⟩, List.mem_of_getElem? (i := 803) (by decide +kernel), List.mem_of_getElem? (i := 1127) (by decide +kernel), List.mem_of_getElem? (i := 1128) (by decide +kernel)⟩
theorem lw_p55 : lw_okq (⟨"JoineryFloorModel", "early", "(I)I"⟩, 53) := ⟨⟨by decide +kernel, by decide +kernel⟩, List.mem_of_getElem? (i := 803) (by decide +kernel), List.mem_of_getElem? (i := 1131) (by decide +kernel), List.mem_of_getElem? (i := 1132) (by decide +kernel)⟩
theorem lw_p56 : lw_okq (⟨"JoineryFloorModel", "rest", "(I)I"⟩, 53) := ⟨⟨by decide +kernel, by decide +kernel⟩, List.mem_of_getElem? (i := 803) (by decide +kernel), List.mem_of_getElem? (i := 1135) (by decide +kernel), List.mem_of_getElem? (i := 1136) (by decide +kernel)⟩
theorem lw_p57 : lw_okq (⟨"JoineryFloorModel", "swapBest", "()Z"⟩, 53) := ⟨⟨by decide +kernel, by decide +kernel⟩, List.mem_of_getElem? (i := 803) (by decide +kernel), List.mem_of_getElem? (i := 1144) (by decide +kernel), List.mem_of_getElem? (i := 1145) (by decide +kernel)⟩
theorem lw_p58 : lw_okq (⟨"JoineryFloorModel", "asks", "(I)Z"⟩, 53) := ⟨⟨by decide +kernel, by decide +kernel⟩, List.mem_of_getElem? (i := 803) (by decide +kernel), List.mem_of_getElem? (i := 1153) (by decide +kernel), List.mem_of_getElem? (i := 1154) (by decide +kernel)⟩
theorem lw_p59 : lw_okq (⟨"JoineryFloorModel", "byPieces", "()V"⟩, 53) := ⟨⟨by decide +kernel, by decide +kernel⟩, List.mem_of_getElem? (i := 803) (by decide +kernel), List.mem_of_getElem? (i := 1157) (by decide +kernel), List.mem_of_getElem? (i := 1158) (by decide +kernel)⟩
theorem lw_p60 : lw_okq (⟨"JoineryFloorModel", "head", "(II)V"⟩, 53) := ⟨⟨by decide +kernel, by decide +kernel⟩, List.mem_of_getElem? (i := 803) (by decide +kernel), List.mem_of_getElem? (i := 1161) (by decide +kernel), List.mem_of_getElem? (i := 1162) (by decide +kernel)⟩
theorem lw_p61 : lw_okq (⟨"JoineryFloorModel", "dead", "(II)V"⟩, 53) := ⟨⟨by decide +kernel, by decide +kernel⟩, List.mem_of_getElem? (i := 803) (by decide +kernel), List.mem_of_getElem? (i := 1165) (by decide +kernel), List.mem_of_getElem? (i := 1166) (by decide +kernel)⟩
theorem lw_p62 : lw_okq (⟨"JoineryFloorModel", "ask", "()V"⟩, 53) := ⟨⟨by decide +kernel, by decide +kernel⟩, List.mem_of_getElem? (i := 803) (by decide +kernel), List.mem_of_getElem? (i := 1169) (by decide +kernel), List.mem_of_getElem? (i := 1170) (by decide +kernel)⟩
theorem lw_p63 : lw_okq (⟨"JoineryFloorModel", "byAhead", "()V"⟩, 53) := ⟨⟨by decide +kernel, by decide +kernel⟩, List.mem_of_getElem? (i := 803) (by decide +kernel), List.mem_of_getElem? (i := 1173) (by decide +kernel), List.mem_of_getElem? (i := 1174) (by decide +kernel)⟩
def lw_privs_4 : List (MethodName × Nat) := [(⟨"JoineryFloorModel", "hasTails", "()Z"⟩, 53), (⟨"JoineryFloorModel", "workTails", "()V"⟩, 53), (⟨"JoineryFloorModel", "behind", "(I)I"⟩, 53), (⟨"JoineryFloorModel", "next", "(I)I"⟩, 53), (⟨"JoineryFloorModel", "slack", "(I)I"⟩, 53), (⟨"JoineryFloorModel", "isNext", "(II)Z"⟩, 53), (⟨"JoineryFloorModel", "first", "(I)I"⟩, 53), (⟨"JoineryFloorModel", "early", "(I)I"⟩, 53), (⟨"JoineryFloorModel", "rest", "(I)I"⟩, 53), (⟨"JoineryFloorModel", "swapBest", "()Z"⟩, 53), (⟨"JoineryFloorModel", "asks", "(I)Z"⟩, 53), (⟨"JoineryFloorModel", "byPieces", "()V"⟩, 53), (⟨"JoineryFloorModel", "head", "(II)V"⟩, 53), (⟨"JoineryFloorModel", "dead", "(II)V"⟩, 53), (⟨"JoineryFloorModel", "ask", "()V"⟩, 53), (⟨"JoineryFloorModel", "byAhead", "()V"⟩, 53)]
theorem lw_r4 : ∀ q ∈ lw_privs_4, lw_okq q := List.forall_mem_cons.mpr ⟨lw_p48, List.forall_mem_cons.mpr ⟨lw_p49, List.forall_mem_cons.mpr ⟨lw_p50, List.forall_mem_cons.mpr ⟨lw_p51, List.forall_mem_cons.mpr ⟨lw_p52, List.forall_mem_cons.mpr ⟨lw_p53, List.forall_mem_cons.mpr ⟨lw_p54, List.forall_mem_cons.mpr ⟨lw_p55, List.forall_mem_cons.mpr ⟨lw_p56, List.forall_mem_cons.mpr ⟨lw_p57, List.forall_mem_cons.mpr ⟨lw_p58, List.forall_mem_cons.mpr ⟨lw_p59, List.forall_mem_cons.mpr ⟨lw_p60, List.forall_mem_cons.mpr ⟨lw_p61, List.forall_mem_cons.mpr ⟨lw_p62, List.forall_mem_cons.mpr ⟨lw_p63, fun _ h => absurd h List.not_mem_nil⟩⟩⟩⟩⟩⟩⟩⟩⟩⟩⟩⟩⟩⟩⟩⟩
theorem lw_p64 : lw_okq (⟨"JoineryFloorModel", "isAhead", "(II)Z"⟩, 53) := ⟨⟨by decide +kernel, by decide +kernel⟩, List.mem_of_getElem? (i := 803) (by decide +kernel), List.mem_of_getElem? (i := 1177) (by decide +kernel), List.mem_of_getElem? (i := 1178) (by decide +kernel)⟩
theorem lw_p65 : lw_okq (⟨"JoineryFloorModel", "byPairs", "(I)V"⟩, 53) := ⟨⟨by decide +kernel, by decide +kernel⟩, List.mem_of_getElem? (i := 803) (by decide +kernel), List.mem_of_getElem? (i := 1181) (by decide +kernel), List.mem_of_getElem? (i := 1182) (by decide +kernel)⟩
theorem lw_p66 : lw_okq (⟨"JoineryFloorModel", "isOn", "(II)Z"⟩, 53) := ⟨⟨by decide +kernel, by decide +kernel⟩, List.mem_of_getElem? (i := 803) (by decide +kernel), List.mem_of_getElem? (i := 1185) (by decide +kernel), List.mem_of_getElem? (i := 1186) (by decide +kernel)⟩
theorem lw_p67 : lw_okq (⟨"JoineryFloorModel", "tell", "(II)V"⟩, 53) := ⟨⟨by decide +kernel, by decide +kernel⟩, List.mem_of_getElem? (i := 803) (by decide +kernel), List.mem_of_getElem? (i := 1189) (by decide +kernel), List.mem_of_getElem? (i := 1190) (by decide +kernel)⟩
theorem lw_p68 : lw_okq (⟨"JoineryFloorModel", "bySets", "(I)V"⟩, 53) := ⟨⟨by decide +kernel, by decide +kernel⟩, List.mem_of_getElem? (i := 803) (by decide +kernel), List.mem_of_getElem? (i := 1193) (by decide +kernel), List.mem_of_getElem? (i := 1194) (by decide +kernel)⟩
theorem lw_p69 : lw_okq (⟨"JoineryFloorModel", "bySet", "(III)V"⟩, 53) := ⟨⟨by decide +kernel, by decide +kernel⟩, List.mem_of_getElem? (i := 803) (by decide +kernel), List.mem_of_getElem? (i := 1197) (by decide +kernel), List.mem_of_getElem? (i := 1198) (by decide +kernel)⟩
theorem lw_p70 : lw_okq (⟨"JoineryFloorModel", "gather", "(I)V"⟩, 53) := ⟨⟨by decide +kernel, by decide +kernel⟩, List.mem_of_getElem? (i := 803) (by decide +kernel), List.mem_of_getElem? (i := 1213) (by decide +kernel), List.mem_of_getElem? (i := 1214) (by decide +kernel)⟩
theorem lw_p71 : lw_okq (⟨"JoineryFloorModel", "cutBound", "()I"⟩, 53) := ⟨⟨by decide +kernel, by decide +kernel⟩, List.mem_of_getElem? (i := 803) (by decide +kernel), List.mem_of_getElem? (i := 1217) (by decide +kernel), List.mem_of_getElem? (i := 1218) (by decide +kernel)⟩
theorem lw_p72 : lw_okq (⟨"JoineryFloorModel", "wholeBound", "()I"⟩, 53) := ⟨⟨by decide +kernel, by decide +kernel⟩, List.mem_of_getElem? (i := 803) (by decide +kernel), List.mem_of_getElem? (i := 1222) (by decide +kernel), List.mem_of_getElem? (i := 1223) (by decide +kernel)⟩
theorem lw_p73 : lw_okq (⟨"JoineryFloorModel", "pushCase", "()V"⟩, 53) := ⟨⟨by decide +kernel, by decide +kernel⟩, List.mem_of_getElem? (i := 803) (by decide +kernel), List.mem_of_getElem? (i := 1231) (by decide +kernel), List.mem_of_getElem? (i := 1232) (by decide +kernel)⟩
theorem lw_p74 : lw_okq (⟨"JoineryFloorModel", "popCase", "()V"⟩, 53) := ⟨⟨by decide +kernel, by decide +kernel⟩, List.mem_of_getElem? (i := 803) (by decide +kernel), List.mem_of_getElem? (i := 1235) (by decide +kernel), List.mem_of_getElem? (i := 1236) (by decide +kernel)⟩
theorem lw_p75 : lw_okq (⟨"JoineryFloorModel", "parts", "()Z"⟩, 53) := ⟨⟨by decide +kernel, by decide +kernel⟩, List.mem_of_getElem? (i := 803) (by decide +kernel), List.mem_of_getElem? (i := 1239) (by decide +kernel), List.mem_of_getElem? (i := 1240) (by decide +kernel)⟩
theorem lw_p76 : lw_okq (⟨"JoineryFloorModel", "complete", "()V"⟩, 53) := ⟨⟨by decide +kernel, by decide +kernel⟩, List.mem_of_getElem? (i := 803) (by decide +kernel), List.mem_of_getElem? (i := 1243) (by decide +kernel), List.mem_of_getElem? (i := 1244) (by decide +kernel)⟩
theorem lw_p77 : lw_okq (⟨"JoineryFloorModel", "arrange", "(I)V"⟩, 53) := ⟨⟨by decide +kernel, by decide +kernel⟩, List.mem_of_getElem? (i := 803) (by decide +kernel), List.mem_of_getElem? (i := 1247) (by decide +kernel), List.mem_of_getElem? (i := 1248) (by decide +kernel)⟩
theorem lw_p78 : lw_okq (⟨"JoineryFloorModel", "aheadOf", "(I)I"⟩, 53) := ⟨⟨by decide +kernel, by decide +kernel⟩, List.mem_of_getElem? (i := 803) (by decide +kernel), List.mem_of_getElem? (i := 1251) (by decide +kernel), List.mem_of_getElem? (i := 1252) (by decide +kernel)⟩
def lw_privs_5 : List (MethodName × Nat) := [(⟨"JoineryFloorModel", "isAhead", "(II)Z"⟩, 53), (⟨"JoineryFloorModel", "byPairs", "(I)V"⟩, 53), (⟨"JoineryFloorModel", "isOn", "(II)Z"⟩, 53), (⟨"JoineryFloorModel", "tell", "(II)V"⟩, 53), (⟨"JoineryFloorModel", "bySets", "(I)V"⟩, 53), (⟨"JoineryFloorModel", "bySet", "(III)V"⟩, 53), (⟨"JoineryFloorModel", "gather", "(I)V"⟩, 53), (⟨"JoineryFloorModel", "cutBound", "()I"⟩, 53), (⟨"JoineryFloorModel", "wholeBound", "()I"⟩, 53), (⟨"JoineryFloorModel", "pushCase", "()V"⟩, 53), (⟨"JoineryFloorModel", "popCase", "()V"⟩, 53), (⟨"JoineryFloorModel", "parts", "()Z"⟩, 53), (⟨"JoineryFloorModel", "complete", "()V"⟩, 53), (⟨"JoineryFloorModel", "arrange", "(I)V"⟩, 53), (⟨"JoineryFloorModel", "aheadOf", "(I)I"⟩, 53)]
theorem lw_r5 : ∀ q ∈ lw_privs_5, lw_okq q := List.forall_mem_cons.mpr ⟨lw_p64, List.forall_mem_cons.mpr ⟨lw_p65, List.forall_mem_cons.mpr ⟨lw_p66, List.forall_mem_cons.mpr ⟨lw_p67, List.forall_mem_cons.mpr ⟨lw_p68, List.forall_mem_cons.mpr ⟨lw_p69, List.forall_mem_cons.mpr ⟨lw_p70, List.forall_mem_cons.mpr ⟨lw_p71, List.forall_mem_cons.mpr ⟨lw_p72, List.forall_mem_cons.mpr ⟨lw_p73, List.forall_mem_cons.mpr ⟨lw_p74, List.forall_mem_cons.mpr ⟨lw_p75, List.forall_mem_cons.mpr ⟨lw_p76, List.forall_mem_cons.mpr ⟨lw_p77, List.forall_mem_cons.mpr ⟨lw_p78, fun _ h => absurd h List.not_mem_nil⟩⟩⟩⟩⟩⟩⟩⟩⟩⟩⟩⟩⟩⟩⟩
def lw_privs : List (MethodName × Nat) := lw_privs_1 ++ (lw_privs_2 ++ (lw_privs_3 ++ (lw_privs_4 ++ (lw_privs_5))))
def lw_tbl : List Cond := k2_sels lw_privs ++ tables_1
theorem lw_privs_ok : ∀ q ∈ lw_privs, lw_okq q := by
  show ∀ q ∈ lw_privs_1 ++ (lw_privs_2 ++ (lw_privs_3 ++ (lw_privs_4 ++ (lw_privs_5)))), lw_okq q
  exact List.forall_mem_append.mpr ⟨lw_r1, List.forall_mem_append.mpr ⟨lw_r2, List.forall_mem_append.mpr ⟨lw_r3, List.forall_mem_append.mpr ⟨lw_r4, lw_r5⟩⟩⟩⟩
end
section
/-- the tables' word of an array of arrays (the printed row va_mna names it; it stands nowhere in the kit) -/
def va_AOA (ty : FieldType) (U : State) : Prop := (Cond.arrayOver (.array ty)).before #[] U = true
theorem va_AOA.use {ty : FieldType} {A : Array Value} {U : State} (h : va_AOA ty U) : (Cond.arrayOver (.array ty)).before A U = true := h
theorem va_AOA.of {ty : FieldType} {A : Array Value} {U : State} (h : (Cond.arrayOver (.array ty)).before A U = true) : va_AOA ty U := h
/-! ===== BEGIN words of one list among another's, by their places ===== -/
theorem goodIn_r {big : List Cond} (ws : List Cond) (ps : List Nat) (hp : ws = ps.filterMap (fun i => big[i]?)) (h : ws.all goodWord = true) : GoodIn big ws := by
  intro w hw
  have h1 := List.all_eq_true.mp h w hw
  rw [hp] at hw
  obtain ⟨i, -, hi⟩ := List.mem_filterMap.mp hw
  have hm : w ∈ big := by first | exact List.mem_of_getElem? hi | exact List.getElem?_mem hi
  exact ⟨hm, good_of_word h1⟩
theorem goodIn_app {big a b : List Cond} (ha : GoodIn big a) (hb : GoodIn big b) : GoodIn big (a ++ b) := fun w h => (List.mem_append.mp h).elim (ha w) (hb w)
theorem goodIn_ca {big a b : List Cond} {c : Cond} (ha : GoodIn big (c :: a)) (hb : GoodIn big b) : GoodIn big (c :: (a ++ b)) := fun w h => (List.mem_cons.mp h).elim (fun e => ha w (List.mem_cons.mpr (Or.inl e))) (fun h => (List.mem_append.mp h).elim (fun h => ha w (List.mem_cons.mpr (Or.inr h))) (hb w))
theorem goodIn_sub {big ws : List Cond} (hm : ∀ w ∈ ws, w ∈ big) (h : ws.all goodWord = true) : GoodIn big ws := fun w hw => ⟨hm w hw, good_of_word (List.all_eq_true.mp h w hw)⟩
/-! ===== END ===== -/

/-! ===== BEGIN new T[n][m]: the outer array a place, the inner ones among the pooled ===== -/
/-- f, but v at every address of l -/
def vr_up {α : Type} (f : Nat → α) (l : List Nat) (v : α) : Nat → α := fun a => if a ∈ l then v else f a
theorem vr_up_in {α : Type} {f : Nat → α} {l : List Nat} {v : α} {a : Nat} (h : a ∈ l) : vr_up f l v a = v := if_pos h
theorem vr_up_ne {α : Type} {f : Nat → α} {l : List Nat} {v : α} {a : Nat} (h : a ∉ l) : vr_up f l v a = f a := if_neg h
theorem vr_rows {L l : List Nat} {f : Nat → va_E} {e : va_E} (h : ∀ a, a ∈ l → a ∉ L) : va_pl L f ++ l.map (fun a => (a, e)) = va_pl (L ++ l) (vr_up f l e) := by
  unfold va_pl
  rw [List.map_append]
  congr 1
  · apply List.map_congr_left
    intro a ha
    rw [vr_up_ne (fun q => h a q ha)]
  · apply List.map_congr_left
    intro a ha
    rw [vr_up_in ha]
theorem vr_lay {X rows : va_W} {x : Nat × va_E} {pl : va_W} {D : va_G} {cl : List vw_C} {H : Heap} (hP : va_P D cl (((X ++ pl) ++ [x]) ++ rows) H) : va_P D cl ((X ++ [x]) ++ (pl ++ rows)) H := by
  rw [List.append_assoc (X ++ pl)] at hP
  have h := va_P.swap hP
  rw [← List.append_assoc X] at h
  have h2 := va_P.swap h
  rw [List.append_assoc (X ++ [x])] at h2
  exact h2
theorem vr_layD {X rows : va_W} {x : Nat × va_E} {pl : va_W} {A : Nat → Prop} (hD : va_D A (((X ++ pl) ++ [x]) ++ rows)) : va_D A ((X ++ [x]) ++ (pl ++ rows)) := by
  rw [List.append_assoc (X ++ pl)] at hD
  have h := va_D.swap hD
  rw [← List.append_assoc X] at h
  have h2 := va_D.swap h
  rw [List.append_assoc (X ++ [x])] at h2
  exact h2
theorem vr_outer (c : ClassId) (N h0 : Nat) : ∀ i : Nat, Jvm.Free.Multi.outerC c N h0 i = arrV c N (fun j => va_rf (if j < i then some (h0 + 1 + j) else none))
  | 0 => by
    show ({ cls := c, slots := Array.replicate N .null, vm := .none } : Cell) = _
    rw [arrV_new]
    refine congrArg (arrV c N) (funext fun j => ?_)
    simp [va_rf]
  | i + 1 => by
    show (Jvm.Free.Multi.outerC c N h0 i).setSlot i (.ref (h0 + 1 + i)) = _
    rw [vr_outer c N h0 i, arrV_store]
    refine congrArg (arrV c N) (funext fun j => ?_)
    by_cases e : j = i
    · subst e
      simp [updV, va_rf]
    · by_cases h : j < i
      · simp [updV, e, h, Nat.lt_succ_of_lt h]
      · simp [updV, e, h, show ¬ j < i + 1 by omega]
section VGM
variable {p : Program} {l : Launch} {e : Env} {R : Room} {s : State} {m : MethodId} {args : Array Value} {below : List Frame} {meth : Method} {c : Code} {H : Heap} {locs : List Loc} {cells slots : Nat} {Q : State → Prop}
variable {cc : ByteArray} {pc : Nat} {ls : Array Slot} {rest : List Value} {D : va_G} {cl : List vw_C} {A : Nat → Prop} {a : Nat} {tys : List (ClassId × FieldType)} {ws : va_W} {H0 : Heap}
theorem va_mna {X : va_W} {L : List Nat} {f : Nat → va_E} {cc : ByteArray} (hexec : p.tables.exec = Jvm.exec) (hb : c.code = cc) {own : String} {index : Nat} {ty : FieldType} {cy : ClassId} (hown : s.vm.findClass own = some m.cls) (hclink : (Cond.classLink own index ("[" ++ (FieldType.array ty).toString)).before args s = true) (hover : va_AOA ty s) (harr : (Cond.arrayClass ty).before args s = true) (hcy : s.vm.findClass (FieldType.array ty).toString = some cy)
    (hK : va_K D cl tys s) (hP : va_P D cl (X ++ va_pl L f) H) (hD : va_D A (X ++ va_pl L f)) (hS : va_S A H0 H locs) (hA : ∀ q, H0.size ≤ q → A q) {n k : Int32} {N' K' : Nat} {z : vp_A} (hn : ¬ n < 0) (hk : ¬ k < 0) (hN : n.toNatClampNeg = N') (hM : k.toNatClampNeg = K')
    (hb1 : N' * 4 ≤ 536870912) (hb2 : K' * componentBytes ty ≤ 536870912) (hb3 : K' ≤ 536870912) (hdf : fits ty (defaultValue ty) = true) (hdd : (defaultValue ty).isDefault = true) (hcells : cells + (1 + N') ≤ R.cells) (hslots : slots + (N' + N' * K') ≤ R.slots) (hz : ∀ c : ClassId, Jvm.Free.Multi.innerC c K' (defaultValue ty) = vp_cell c z) (hdg : decode cc pc = .ok (.multianewarray index 2, 4))
    (kk : ∀ (q : Nat) (r : Nat → Nat) (cA : ClassId) (H1 : Heap), (∀ i j : Nat, i < N' → j < N' → r i = r j → i = j) → (∀ i : Nat, i < N' → r i ∉ L) → va_K D cl (tys ++ [(cA, .array ty)]) s →
      va_P D cl ((X ++ [(q, .inl (cA, N', .inr (.inr (.inr (.inr (fun i => if i < N' then some (r i) else none))))))]) ++ va_pl (L ++ (List.range N').map r) (vr_up f ((List.range N').map r) (.inl (cy, z)))) H1 → va_D A ((X ++ [(q, .inl (cA, N', .inr (.inr (.inr (.inr (fun i => if i < N' then some (r i) else none))))))]) ++ va_pl (L ++ (List.range N').map r) (vr_up f ((List.range N').map r) (.inl (cy, z)))) → va_S A H0 H1 locs →
      W p l e R s m args below meth c H1 locs (cells + 1 + N') (slots + N' + N' * K') Q (F0 m (pc + 4) ls (.ref q :: rest))) : W p l e R s m args below meth c H locs cells slots Q (F0 m pc ls (.int k :: .int n :: rest)) := by
  subst hN
  subst hM
  intro T hT Xs
  obtain ⟨vm₁, cA, comp, -, fA, fC, hO, -, X', step⟩ := Xs.multianewarray2F hexec hown hclink (va_AOA.use hover) harr (g := F0 m pc ls (.int k :: .int n :: rest)) rfl (by rw [hb]; exact hdg) rfl hn hk hb1 hb2 hb3 hdf hdd hcells hslots
  have ec : some cy = some comp := hcy.symm.trans fC
  cases ec
  generalize hF : Jvm.Free.Multi.fill (T.setVm vm₁) cA cy n.toNatClampNeg k.toNatClampNeg (defaultValue ty) n.toNatClampNeg = F at X' step
  have hTh : (T.setVm vm₁).heap = H := hT
  obtain ⟨f1, f2, -, -⟩ := Jvm.Free.Multi.fill_facts (T.setVm vm₁) cA cy n.toNatClampNeg k.toNatClampNeg (defaultValue ty) n.toNatClampNeg
  rw [hF, hTh] at f1 f2
  have hold : ∀ x : Nat, x < H.size → F.heap[x]? = H[x]? := fun x hx => by
    have := Jvm.Free.Multi.fill_old (T.setVm vm₁) cA cy n.toNatClampNeg k.toNatClampNeg (defaultValue ty) (a := x) (by rw [hTh]; exact hx) n.toNatClampNeg
    rw [hF, hTh] at this
    exact this
  have hrow : ∀ j : Nat, j < n.toNatClampNeg → F.heap[H.size + 1 + j]? = some (vp_cell cy z) := fun j hj => by
    have := Jvm.Free.Multi.fill_inner (T.setVm vm₁) cA cy n.toNatClampNeg k.toNatClampNeg (defaultValue ty) n.toNatClampNeg j hj
    rw [hF, hTh, hz] at this
    exact this
  have hout : Jvm.Free.Multi.outerC cA n.toNatClampNeg H.size n.toNatClampNeg = vp_cell cA (n.toNatClampNeg, .inr (.inr (.inr (.inr (fun i => if i < n.toNatClampNeg then some (H.size + 1 + i) else none))))) := by
    rw [vp_cell_q]
    exact vr_outer cA n.toNatClampNeg H.size n.toNatClampNeg
  rw [hout] at f2
  have hlt : ∀ a, a ∈ L → a < H.size := fun a ha => by
    obtain ⟨k9, hk9⟩ := va_pl_get (X := X) (f := f) ha
    exact (hP k9 _ hk9).lt
  have hnl : ∀ i : Nat, i < n.toNatClampNeg → H.size + 1 + i ∉ L := fun i _ h => by
    have := hlt _ h
    omega
  have hnm : ∀ a, a ∈ (List.range n.toNatClampNeg).map (fun i => H.size + 1 + i) → a ∉ L := fun a ha h => by
    obtain ⟨i, -, rfl⟩ := List.mem_map.mp ha
    have := hlt _ h
    omega
  have hP0 : va_P D cl (X ++ va_pl L f) F.heap := hP.kept (fun k9 x hx => hold x.1 ((hP k9 x hx).lt))
  have hP1 : va_P D cl ((X ++ va_pl L f) ++ [(H.size, .inl (cA, n.toNatClampNeg, .inr (.inr (.inr (.inr (fun i => if i < n.toNatClampNeg then some (H.size + 1 + i) else none))))))]) F.heap := hP0.app (fun k9 x hx => by
    have h0 : k9 < 1 := (List.getElem?_eq_some_iff.mp hx).1
    rw [show k9 = 0 by omega] at hx
    cases hx
    exact f2)
  have hP2 : va_P D cl (((X ++ va_pl L f) ++ [(H.size, .inl (cA, n.toNatClampNeg, .inr (.inr (.inr (.inr (fun i => if i < n.toNatClampNeg then some (H.size + 1 + i) else none))))))]) ++ ((List.range n.toNatClampNeg).map (fun i => H.size + 1 + i)).map (fun a => (a, .inl (cy, z)))) F.heap := hP1.app (fun k9 x hx => by
    obtain ⟨a, ha, rfl⟩ := List.mem_map.mp (List.mem_of_getElem? hx)
    obtain ⟨i, hi, rfl⟩ := List.mem_map.mp ha
    exact hrow i (List.mem_range.mp hi))
  have hD2 : va_D A (((X ++ va_pl L f) ++ [(H.size, .inl (cA, n.toNatClampNeg, .inr (.inr (.inr (.inr (fun i => if i < n.toNatClampNeg then some (H.size + 1 + i) else none))))))]) ++ ((List.range n.toNatClampNeg).map (fun i => H.size + 1 + i)).map (fun a => (a, .inl (cy, z)))) := by
    have hD1 := hD.push (e := .inl (cA, n.toNatClampNeg, .inr (.inr (.inr (.inr (fun i => if i < n.toNatClampNeg then some (H.size + 1 + i) else none)))))) hP rfl (hA _ hS.1)
    generalize hW1 : (X ++ va_pl L f) ++ [(H.size, .inl (cA, n.toNatClampNeg, .inr (.inr (.inr (.inr (fun i => if i < n.toNatClampNeg then some (H.size + 1 + i) else none))))))] = W1 at hD1 hP1 ⊢
    have hle : ∀ (k9 : Nat) (x : Nat × va_E), W1[k9]? = some x → x.1 ≤ H.size := fun k9 x hx => by
      rw [← hW1] at hx
      by_cases hl : k9 < (X ++ va_pl L f).length
      · rw [List.getElem?_append_left hl] at hx
        exact Nat.le_of_lt ((hP k9 x hx).lt)
      · rw [List.getElem?_append_right (by omega)] at hx
        have h0 : k9 - (X ++ va_pl L f).length < 1 := (List.getElem?_eq_some_iff.mp hx).1
        rw [show k9 - (X ++ va_pl L f).length = 0 by omega] at hx
        cases hx
        exact Nat.le_refl _
    have hr : ∀ (k9 : Nat) (x : Nat × va_E), (((List.range n.toNatClampNeg).map (fun i => H.size + 1 + i)).map (fun a => ((a, .inl (cy, z)) : Nat × va_E)))[k9]? = some x → x.1 = H.size + 1 + k9 := fun k9 x hx => by
      rw [List.getElem?_map, List.getElem?_map] at hx
      by_cases h9 : k9 < n.toNatClampNeg
      · rw [List.getElem?_range h9] at hx
        cases hx
        rfl
      · have hn0 : (List.range n.toNatClampNeg)[k9]? = none := List.getElem?_eq_none (by rw [List.length_range]; omega)
        rw [hn0] at hx
        cases hx
    refine ⟨fun i j x y hi hj hxy => ?_, fun k9 x hx => ?_⟩
    · by_cases h1 : i < W1.length <;> by_cases h2 : j < W1.length
      · rw [List.getElem?_append_left h1] at hi
        rw [List.getElem?_append_left h2] at hj
        exact hD1.1 i j x y hi hj hxy
      · rw [List.getElem?_append_left h1] at hi
        rw [List.getElem?_append_right (by omega)] at hj
        have := hle _ _ hi
        have := hr _ _ hj
        omega
      · rw [List.getElem?_append_right (by omega)] at hi
        rw [List.getElem?_append_left h2] at hj
        have := hle _ _ hj
        have := hr _ _ hi
        omega
      · rw [List.getElem?_append_right (by omega)] at hi hj
        have := hr _ _ hi
        have := hr _ _ hj
        omega
    · by_cases h1 : k9 < W1.length
      · rw [List.getElem?_append_left h1] at hx
        exact hD1.2 k9 x hx
      · rw [List.getElem?_append_right (by omega)] at hx
        have := hr _ _ hx
        exact hA _ (by have := hS.1; omega)
  have hAr : ArrOfT s cA (.array ty) := fun N9 z9 => by
    obtain ⟨-, k9, hk9, cm9, hkk9⟩ := (hO 0 0 0).1
    exact ⟨(fun q hq => by cases hq), k9, hk9, cm9, hkk9⟩
  have hK2 : va_K D cl (tys ++ [(cA, .array ty)]) s := ⟨hK.1, fun k9 x hx => by
    by_cases hl : k9 < tys.length
    · rw [List.getElem?_append_left hl] at hx
      exact hK.2 k9 x hx
    · rw [List.getElem?_append_right (by omega)] at hx
      have h0 : k9 - tys.length < 1 := (List.getElem?_eq_some_iff.mp hx).1
      rw [show k9 - tys.length = 0 by omega] at hx
      cases hx
      exact ⟨hAr, fA⟩⟩
  obtain ⟨t, a1, b1⟩ := kk H.size (fun i => H.size + 1 + i) cA F.heap (fun i j _ _ h => by have h9 : H.size + 1 + i = H.size + 1 + j := h; omega) hnl hK2 (by rw [← vr_rows hnm]; exact vr_lay hP2) (by rw [← vr_rows hnm]; exact vr_layD hD2) ⟨by rw [f1]; have := hS.1; omega, fun x h1 h2 => (hold x (Nat.lt_of_lt_of_le h1 hS.1)).trans (hS.2.1 x h1 h2), hS.2.2⟩ F rfl X'
  refine ⟨t, step t ?_, b1⟩
  have e : T.heap.size = H.size := by rw [hT]
  rw [e]
  exact a1
end VGM
/-! ===== END ===== -/

/-! ===== BEGIN printed: names, fields, word lists, decode rows ===== -/
def RX0 : String := "JoineryFloor$Bounds"
def TX0 : u_T := fun k => match k with
  | 0 => ("JoineryFloor$Bounds", "first", "[I", true)
  | 1 => ("JoineryFloor$Bounds", "last", "[I", true)
  | 2 => ("JoineryFloor$Bounds", "span", "[I", true)
  | 3 => ("JoineryFloor$Bounds", "left", "[I", true)
  | _ => ("JoineryFloor$Bounds", "jobs", "I", false)
def tyX0 : Nat → FieldType := fun k => match k with
  | 0 => .array .int
  | 1 => .array .int
  | 2 => .array .int
  | 3 => .array .int
  | _ => .int
theorem nmX0 : ∀ a, a < 5 → ∀ b, b < 5 → a ≠ b → (TX0 a).2.1 ≠ (TX0 b).2.1 := by decide +kernel
theorem tyX0_ok : ∀ k, k < 5 → parseFieldDescriptor (TX0 k).2.2.1 = some (tyX0 k) := by decide +kernel
abbrev cX0_init : ByteArray := prog_2_method_1_code
def yX0_init : MethodName := ⟨RX0, "<init>", "()V"⟩
abbrev cX0_takeJobs : ByteArray := prog_2_method_2_code
def yX0_takeJobs : MethodName := ⟨RX0, "takeJobs", "(LJoineryFloor$Floor;I)V"⟩
abbrev cX0_cutBound : ByteArray := prog_2_method_3_code
def yX0_cutBound : MethodName := ⟨RX0, "cutBound", "()I"⟩
abbrev cX0_mostPressing : ByteArray := prog_2_method_4_code
def yX0_mostPressing : MethodName := ⟨RX0, "mostPressing", "(I)I"⟩
abbrev cX0_nextFirst : ByteArray := prog_2_method_5_code
def yX0_nextFirst : MethodName := ⟨RX0, "nextFirst", "(I)I"⟩
abbrev cX0_wholeBound : ByteArray := prog_2_method_6_code
def yX0_wholeBound : MethodName := ⟨RX0, "wholeBound", "(I)I"⟩
abbrev cX0_tryRest : ByteArray := prog_2_method_7_code
def yX0_tryRest : MethodName := ⟨RX0, "tryRest", "(IIIIII)I"⟩
def RX1 : String := "JoineryFloor$Day"
def TX1 : u_T := fun k => match k with
  | 0 => ("JoineryFloor$Day", "begins", "[I", true)
  | 1 => ("JoineryFloor$Day", "tails", "[I", true)
  | 2 => ("JoineryFloor$Day", "fixed", "[I", true)
  | 3 => ("JoineryFloor$Day", "notBelow", "[I", true)
  | 4 => ("JoineryFloor$Day", "end", "I", false)
  | 5 => ("JoineryFloor$Day", "laidSteps", "[I", true)
  | 6 => ("JoineryFloor$Day", "laid", "I", false)
  | 7 => ("JoineryFloor$Day", "behindOnPlain", "[I", true)
  | 8 => ("JoineryFloor$Day", "laidOfPiece", "[I", true)
  | 9 => ("JoineryFloor$Day", "laidOnMachine", "[I", true)
  | _ => ("JoineryFloor$Day", "latestEnds", "[I", true)
def tyX1 : Nat → FieldType := fun k => match k with
  | 0 => .array .int
  | 1 => .array .int
  | 2 => .array .int
  | 3 => .array .int
  | 4 => .int
  | 5 => .array .int
  | 6 => .int
  | 7 => .array .int
  | 8 => .array .int
  | 9 => .array .int
  | _ => .array .int
theorem nmX1 : ∀ a, a < 11 → ∀ b, b < 11 → a ≠ b → (TX1 a).2.1 ≠ (TX1 b).2.1 := by decide +kernel
theorem tyX1_ok : ∀ k, k < 11 → parseFieldDescriptor (TX1 k).2.2.1 = some (tyX1 k) := by decide +kernel
abbrev cX1_init : ByteArray := prog_3_method_1_code
def yX1_init : MethodName := ⟨RX1, "<init>", "()V"⟩
abbrev cX1_clear : ByteArray := prog_3_method_2_code
def yX1_clear : MethodName := ⟨RX1, "clear", "()V"⟩
abbrev cX1_work : ByteArray := prog_3_method_3_code
def yX1_work : MethodName := ⟨RX1, "work", "(LJoineryFloor$Floor;LJoineryFloor$Orders;)Z"⟩
abbrev cX1_nextOfPiece : ByteArray := prog_3_method_4_code
def yX1_nextOfPiece : MethodName := ⟨RX1, "nextOfPiece", "(LJoineryFloor$Floor;I)I"⟩
abbrev cX1_isNextOnMachine : ByteArray := prog_3_method_5_code
def yX1_isNextOnMachine : MethodName := ⟨RX1, "isNextOnMachine", "(LJoineryFloor$Floor;LJoineryFloor$Orders;I)Z"⟩
abbrev cX1_earliest : ByteArray := prog_3_method_6_code
def yX1_earliest : MethodName := ⟨RX1, "earliest", "(LJoineryFloor$Floor;LJoineryFloor$Orders;I)I"⟩
abbrev cX1_endAheadInPiece : ByteArray := prog_3_method_7_code
def yX1_endAheadInPiece : MethodName := ⟨RX1, "endAheadInPiece", "(LJoineryFloor$Floor;I)I"⟩
abbrev cX1_pauseBetween : ByteArray := prog_3_method_8_code
def yX1_pauseBetween : MethodName := ⟨RX1, "pauseBetween", "(LJoineryFloor$Floor;II)I"⟩
abbrev cX1_freeHand : ByteArray := prog_3_method_9_code
def yX1_freeHand : MethodName := ⟨RX1, "freeHand", "(LJoineryFloor$Floor;LJoineryFloor$Orders;I)I"⟩
abbrev cX1_keepLatest : ByteArray := prog_3_method_10_code
def yX1_keepLatest : MethodName := ⟨RX1, "keepLatest", "(I)V"⟩
abbrev cX1_set : ByteArray := prog_3_method_11_code
def yX1_set : MethodName := ⟨RX1, "set", "(LJoineryFloor$Floor;LJoineryFloor$Orders;II)V"⟩
abbrev cX1_endOf : ByteArray := prog_3_method_12_code
def yX1_endOf : MethodName := ⟨RX1, "endOf", "(LJoineryFloor$Floor;I)I"⟩
abbrev cX1_findTails : ByteArray := prog_3_method_13_code
def yX1_findTails : MethodName := ⟨RX1, "findTails", "(LJoineryFloor$Floor;)V"⟩
abbrev cX1_lengthFrom : ByteArray := prog_3_method_14_code
def yX1_lengthFrom : MethodName := ⟨RX1, "lengthFrom", "(LJoineryFloor$Floor;I)I"⟩
abbrev cX1_slack : ByteArray := prog_3_method_15_code
def yX1_slack : MethodName := ⟨RX1, "slack", "(LJoineryFloor$Floor;I)I"⟩
abbrev cX1_firstOfRow : ByteArray := prog_3_method_16_code
def yX1_firstOfRow : MethodName := ⟨RX1, "firstOfRow", "(LJoineryFloor$Floor;)I"⟩
abbrev cX1_nextOfRow : ByteArray := prog_3_method_17_code
def yX1_nextOfRow : MethodName := ⟨RX1, "nextOfRow", "(LJoineryFloor$Floor;I)I"⟩
abbrev cX1_followsInRow : ByteArray := prog_3_method_18_code
def yX1_followsInRow : MethodName := ⟨RX1, "followsInRow", "(LJoineryFloor$Floor;II)Z"⟩
def RX2 : String := "JoineryFloor$Floor"
def TX2 : u_T := fun k => match k with
  | 0 => ("JoineryFloor$Floor", "machines", "I", false)
  | 1 => ("JoineryFloor$Floor", "pieces", "I", false)
  | 2 => ("JoineryFloor$Floor", "steps", "I", false)
  | 3 => ("JoineryFloor$Floor", "kind", "[I", true)
  | 4 => ("JoineryFloor$Floor", "with", "[I", true)
  | 5 => ("JoineryFloor$Floor", "sort", "[I", true)
  | 6 => ("JoineryFloor$Floor", "line", "[[I", true)
  | 7 => ("JoineryFloor$Floor", "lineSize", "[I", true)
  | 8 => ("JoineryFloor$Floor", "pieceOf", "[I", true)
  | 9 => ("JoineryFloor$Floor", "machineOf", "[I", true)
  | 10 => ("JoineryFloor$Floor", "span", "[I", true)
  | 11 => ("JoineryFloor$Floor", "rank", "[I", true)
  | 12 => ("JoineryFloor$Floor", "on", "[[I", true)
  | _ => ("JoineryFloor$Floor", "onSize", "[I", true)
def tyX2 : Nat → FieldType := fun k => match k with
  | 0 => .int
  | 1 => .int
  | 2 => .int
  | 3 => .array .int
  | 4 => .array .int
  | 5 => .array .int
  | 6 => .array (.array .int)
  | 7 => .array .int
  | 8 => .array .int
  | 9 => .array .int
  | 10 => .array .int
  | 11 => .array .int
  | 12 => .array (.array .int)
  | _ => .array .int
theorem nmX2 : ∀ a, a < 14 → ∀ b, b < 14 → a ≠ b → (TX2 a).2.1 ≠ (TX2 b).2.1 := by decide +kernel
theorem tyX2_ok : ∀ k, k < 14 → parseFieldDescriptor (TX2 k).2.2.1 = some (tyX2 k) := by decide +kernel
abbrev cX2_init : ByteArray := prog_4_method_1_code
def yX2_init : MethodName := ⟨RX2, "<init>", "()V"⟩
abbrev cX2_addMachine : ByteArray := prog_4_method_2_code
def yX2_addMachine : MethodName := ⟨RX2, "addMachine", "(II)I"⟩
abbrev cX2_addPiece : ByteArray := prog_4_method_3_code
def yX2_addPiece : MethodName := ⟨RX2, "addPiece", "(I)I"⟩
abbrev cX2_addStep : ByteArray := prog_4_method_4_code
def yX2_addStep : MethodName := ⟨RX2, "addStep", "(III)I"⟩
abbrev cX2_isSimple : ByteArray := prog_4_method_5_code
def yX2_isSimple : MethodName := ⟨RX2, "isSimple", "()Z"⟩
abbrev cX2_allSpans : ByteArray := prog_4_method_6_code
def yX2_allSpans : MethodName := ⟨RX2, "allSpans", "()I"⟩
abbrev cX2_behindInPiece : ByteArray := prog_4_method_7_code
def yX2_behindInPiece : MethodName := ⟨RX2, "behindInPiece", "(I)I"⟩
abbrev cX2_spansAhead : ByteArray := prog_4_method_8_code
def yX2_spansAhead : MethodName := ⟨RX2, "spansAhead", "(I)I"⟩
abbrev cX2_spansBehind : ByteArray := prog_4_method_9_code
def yX2_spansBehind : MethodName := ⟨RX2, "spansBehind", "(I)I"⟩
def RX3 : String := "JoineryFloor$Orders"
def TX3 : u_T := fun k => match k with
  | 0 => ("JoineryFloor$Orders", "rows", "[[I", true)
  | _ => ("JoineryFloor$Orders", "size", "[I", true)
def tyX3 : Nat → FieldType := fun k => match k with
  | 0 => .array (.array .int)
  | _ => .array .int
theorem nmX3 : ∀ a, a < 2 → ∀ b, b < 2 → a ≠ b → (TX3 a).2.1 ≠ (TX3 b).2.1 := by decide +kernel
theorem tyX3_ok : ∀ k, k < 2 → parseFieldDescriptor (TX3 k).2.2.1 = some (tyX3 k) := by decide +kernel
abbrev cX3_init : ByteArray := prog_5_method_1_code
def yX3_init : MethodName := ⟨RX3, "<init>", "()V"⟩
abbrev cX3_clear : ByteArray := prog_5_method_2_code
def yX3_clear : MethodName := ⟨RX3, "clear", "()V"⟩
abbrev cX3_append : ByteArray := prog_5_method_3_code
def yX3_append : MethodName := ⟨RX3, "append", "(II)V"⟩
abbrev cX3_exchange : ByteArray := prog_5_method_4_code
def yX3_exchange : MethodName := ⟨RX3, "exchange", "(II)V"⟩
abbrev cX3_move : ByteArray := prog_5_method_5_code
def yX3_move : MethodName := ⟨RX3, "move", "(III)V"⟩
abbrev cX3_placeOf : ByteArray := prog_5_method_6_code
def yX3_placeOf : MethodName := ⟨RX3, "placeOf", "(II)I"⟩
abbrev cX3_takeFrom : ByteArray := prog_5_method_7_code
def yX3_takeFrom : MethodName := ⟨RX3, "takeFrom", "(LJoineryFloor$Orders;)V"⟩
def RX4 : String := "JoineryFloor$Search"
def TX4 : u_T := fun k => match k with
  | 0 => ("JoineryFloor$Search", "best", "I", false)
  | 1 => ("JoineryFloor$Search", "cases", "I", false)
  | 2 => ("JoineryFloor$Search", "finds", "I", false)
  | 3 => ("JoineryFloor$Search", "waits", "I", false)
  | 4 => ("JoineryFloor$Search", "waiting", "[[I", true)
  | 5 => ("JoineryFloor$Search", "windows", "LJoineryFloor$Windows;", true)
  | 6 => ("JoineryFloor$Search", "tried", "LJoineryFloor$Orders;", true)
  | _ => ("JoineryFloor$Search", "day", "LJoineryFloor$Day;", true)
def tyX4 : Nat → FieldType := fun k => match k with
  | 0 => .int
  | 1 => .int
  | 2 => .int
  | 3 => .int
  | 4 => .array (.array .int)
  | 5 => .object "JoineryFloor$Windows"
  | 6 => .object "JoineryFloor$Orders"
  | _ => .object "JoineryFloor$Day"
theorem nmX4 : ∀ a, a < 8 → ∀ b, b < 8 → a ≠ b → (TX4 a).2.1 ≠ (TX4 b).2.1 := by decide +kernel
theorem tyX4_ok : ∀ k, k < 8 → parseFieldDescriptor (TX4 k).2.2.1 = some (tyX4 k) := by decide +kernel
abbrev cX4_init : ByteArray := prog_6_method_1_code
def yX4_init : MethodName := ⟨RX4, "<init>", "()V"⟩
abbrev cX4_seek : ByteArray := prog_6_method_2_code
def yX4_seek : MethodName := ⟨RX4, "seek", "(LJoineryFloor$Floor;LJoineryFloor$Orders;I)Z"⟩
abbrev cX4_splitCase : ByteArray := prog_6_method_3_code
def yX4_splitCase : MethodName := ⟨RX4, "splitCase", "(LJoineryFloor$Floor;)Z"⟩
abbrev cX4_addCase : ByteArray := prog_6_method_4_code
def yX4_addCase : MethodName := ⟨RX4, "addCase", "(II)V"⟩
abbrev cX4_tryOrders : ByteArray := prog_6_method_5_code
def yX4_tryOrders : MethodName := ⟨RX4, "tryOrders", "(LJoineryFloor$Floor;LJoineryFloor$Orders;)V"⟩
abbrev cX4_orderMachine : ByteArray := prog_6_method_6_code
def yX4_orderMachine : MethodName := ⟨RX4, "orderMachine", "(LJoineryFloor$Floor;I)V"⟩
abbrev cX4_aheadOf : ByteArray := prog_6_method_7_code
def yX4_aheadOf : MethodName := ⟨RX4, "aheadOf", "(LJoineryFloor$Floor;I)I"⟩
def RX5 : String := "JoineryFloor$Sheets"
def TX5 : u_T := fun k => match k with
  | 0 => ("JoineryFloor$Sheets", "form", "[I", true)
  | 1 => ("JoineryFloor$Sheets", "size", "[I", true)
  | 2 => ("JoineryFloor$Sheets", "places", "[[I", true)
  | _ => ("JoineryFloor$Sheets", "code", "I", false)
def tyX5 : Nat → FieldType := fun k => match k with
  | 0 => .array .int
  | 1 => .array .int
  | 2 => .array (.array .int)
  | _ => .int
theorem nmX5 : ∀ a, a < 4 → ∀ b, b < 4 → a ≠ b → (TX5 a).2.1 ≠ (TX5 b).2.1 := by decide +kernel
theorem tyX5_ok : ∀ k, k < 4 → parseFieldDescriptor (TX5 k).2.2.1 = some (tyX5 k) := by decide +kernel
abbrev cX5_init : ByteArray := prog_7_method_1_code
def yX5_init : MethodName := ⟨RX5, "<init>", "()V"⟩
abbrev cX5_cutTo : ByteArray := prog_7_method_2_code
def yX5_cutTo : MethodName := ⟨RX5, "cutTo", "(II)I"⟩
abbrev cX5_make : ByteArray := prog_7_method_3_code
def yX5_make : MethodName := ⟨RX5, "make", "(III)V"⟩
abbrev cX5_remove : ByteArray := prog_7_method_4_code
def yX5_remove : MethodName := ⟨RX5, "remove", "(I)V"⟩
abbrev cX5_isThere : ByteArray := prog_7_method_5_code
def yX5_isThere : MethodName := ⟨RX5, "isThere", "(I)Z"⟩
abbrev cX5_codeOfPlace : ByteArray := prog_7_method_6_code
def yX5_codeOfPlace : MethodName := ⟨RX5, "codeOfPlace", "(II)I"⟩
abbrev cX5_codeOfPut : ByteArray := prog_7_method_7_code
def yX5_codeOfPut : MethodName := ⟨RX5, "codeOfPut", "(III)I"⟩
abbrev cX5_codeOfCopy : ByteArray := prog_7_method_8_code
def yX5_codeOfCopy : MethodName := ⟨RX5, "codeOfCopy", "(IIIII)I"⟩
abbrev cX5_hasPlaces : ByteArray := prog_7_method_9_code
def yX5_hasPlaces : MethodName := ⟨RX5, "hasPlaces", "(III)Z"⟩
abbrev cX5_codeOfRead : ByteArray := prog_7_method_10_code
def yX5_codeOfRead : MethodName := ⟨RX5, "codeOfRead", "(I)I"⟩
def RX6 : String := "JoineryFloor$Windows"
def TX6 : u_T := fun k => match k with
  | 0 => ("JoineryFloor$Windows", "head", "[I", true)
  | 1 => ("JoineryFloor$Windows", "dead", "[I", true)
  | 2 => ("JoineryFloor$Windows", "ahead", "[I", true)
  | 3 => ("JoineryFloor$Windows", "steps", "I", false)
  | 4 => ("JoineryFloor$Windows", "changed", "Z", false)
  | _ => ("JoineryFloor$Windows", "burst", "Z", false)
def tyX6 : Nat → FieldType := fun k => match k with
  | 0 => .array .int
  | 1 => .array .int
  | 2 => .array .int
  | 3 => .int
  | 4 => .boolean
  | _ => .boolean
theorem nmX6 : ∀ a, a < 6 → ∀ b, b < 6 → a ≠ b → (TX6 a).2.1 ≠ (TX6 b).2.1 := by decide +kernel
theorem tyX6_ok : ∀ k, k < 6 → parseFieldDescriptor (TX6 k).2.2.1 = some (tyX6 k) := by decide +kernel
abbrev cX6_init : ByteArray := prog_8_method_1_code
def yX6_init : MethodName := ⟨RX6, "<init>", "()V"⟩
abbrev cX6_narrow : ByteArray := prog_8_method_2_code
def yX6_narrow : MethodName := ⟨RX6, "narrow", "(LJoineryFloor$Floor;I)Z"⟩
abbrev cX6_isAhead : ByteArray := prog_8_method_3_code
def yX6_isAhead : MethodName := ⟨RX6, "isAhead", "(II)Z"⟩
abbrev cX6_isOpen : ByteArray := prog_8_method_4_code
def yX6_isOpen : MethodName := ⟨RX6, "isOpen", "(II)Z"⟩
abbrev cX6_lookForBurst : ByteArray := prog_8_method_5_code
def yX6_lookForBurst : MethodName := ⟨RX6, "lookForBurst", "(LJoineryFloor$Floor;)V"⟩
abbrev cX6_raise : ByteArray := prog_8_method_6_code
def yX6_raise : MethodName := ⟨RX6, "raise", "(II)V"⟩
abbrev cX6_lower : ByteArray := prog_8_method_7_code
def yX6_lower : MethodName := ⟨RX6, "lower", "(II)V"⟩
abbrev cX6_alongPieces : ByteArray := prog_8_method_8_code
def yX6_alongPieces : MethodName := ⟨RX6, "alongPieces", "(LJoineryFloor$Floor;)V"⟩
abbrev cX6_alongPairs : ByteArray := prog_8_method_9_code
def yX6_alongPairs : MethodName := ⟨RX6, "alongPairs", "(LJoineryFloor$Floor;)V"⟩
abbrev cX6_tellPairs : ByteArray := prog_8_method_10_code
def yX6_tellPairs : MethodName := ⟨RX6, "tellPairs", "(LJoineryFloor$Floor;)V"⟩
abbrev cX6_tellPair : ByteArray := prog_8_method_11_code
def yX6_tellPair : MethodName := ⟨RX6, "tellPair", "(LJoineryFloor$Floor;II)V"⟩
abbrev cX6_tellAhead : ByteArray := prog_8_method_12_code
def yX6_tellAhead : MethodName := ⟨RX6, "tellAhead", "(II)V"⟩
abbrev cX6_closeSets : ByteArray := prog_8_method_13_code
def yX6_closeSets : MethodName := ⟨RX6, "closeSets", "(LJoineryFloor$Floor;)V"⟩
abbrev cX6_closeSet : ByteArray := prog_8_method_14_code
def yX6_closeSet : MethodName := ⟨RX6, "closeSet", "(LJoineryFloor$Floor;III)V"⟩
abbrev cX6_keepOff : ByteArray := prog_8_method_15_code
def yX6_keepOff : MethodName := ⟨RX6, "keepOff", "(IIIII)V"⟩
def RX7 : String := "JoineryFloor"
def TX7 : u_T := fun k => match k with
  | 0 => ("JoineryFloor", "floor", "LJoineryFloor$Floor;", true)
  | 1 => ("JoineryFloor", "orders", "LJoineryFloor$Orders;", true)
  | 2 => ("JoineryFloor", "sheets", "LJoineryFloor$Sheets;", true)
  | 3 => ("JoineryFloor", "day", "LJoineryFloor$Day;", true)
  | 4 => ("JoineryFloor", "trial", "LJoineryFloor$Day;", true)
  | 5 => ("JoineryFloor", "asked", "LJoineryFloor$Windows;", true)
  | 6 => ("JoineryFloor", "bounds", "LJoineryFloor$Bounds;", true)
  | 7 => ("JoineryFloor", "search", "LJoineryFloor$Search;", true)
  | 8 => ("JoineryFloor", "repaired", "LJoineryFloor$Day;", true)
  | _ => ("JoineryFloor", "repairedSteps", "I", false)
def tyX7 : Nat → FieldType := fun k => match k with
  | 0 => .object "JoineryFloor$Floor"
  | 1 => .object "JoineryFloor$Orders"
  | 2 => .object "JoineryFloor$Sheets"
  | 3 => .object "JoineryFloor$Day"
  | 4 => .object "JoineryFloor$Day"
  | 5 => .object "JoineryFloor$Windows"
  | 6 => .object "JoineryFloor$Bounds"
  | 7 => .object "JoineryFloor$Search"
  | 8 => .object "JoineryFloor$Day"
  | _ => .int
theorem nmX7 : ∀ a, a < 10 → ∀ b, b < 10 → a ≠ b → (TX7 a).2.1 ≠ (TX7 b).2.1 := by decide +kernel
theorem tyX7_ok : ∀ k, k < 10 → parseFieldDescriptor (TX7 k).2.2.1 = some (tyX7 k) := by decide +kernel
abbrev cX7_init : ByteArray := prog_1_method_1_code
def yX7_init : MethodName := ⟨RX7, "<init>", "()V"⟩
abbrev cX7_machine : ByteArray := prog_1_method_2_code
def yX7_machine : MethodName := ⟨RX7, "machine", "(II)I"⟩
abbrev cX7_piece : ByteArray := prog_1_method_3_code
def yX7_piece : MethodName := ⟨RX7, "piece", "(I)I"⟩
abbrev cX7_step : ByteArray := prog_1_method_4_code
def yX7_step : MethodName := ⟨RX7, "step", "(III)I"⟩
abbrev cX7_told : ByteArray := prog_1_method_5_code
def yX7_told : MethodName := ⟨RX7, "told", "(II)I"⟩
abbrev cX7_count : ByteArray := prog_1_method_6_code
def yX7_count : MethodName := ⟨RX7, "count", "(I)I"⟩
abbrev cX7_sheet : ByteArray := prog_1_method_7_code
def yX7_sheet : MethodName := ⟨RX7, "sheet", "(III)I"⟩
abbrev cX7_tear : ByteArray := prog_1_method_8_code
def yX7_tear : MethodName := ⟨RX7, "tear", "(I)I"⟩
abbrev cX7_put : ByteArray := prog_1_method_9_code
def yX7_put : MethodName := ⟨RX7, "put", "(IIII)I"⟩
abbrev cX7_at : ByteArray := prog_1_method_10_code
def yX7_at : MethodName := ⟨RX7, "at", "(II)I"⟩
abbrev cX7_copy : ByteArray := prog_1_method_11_code
def yX7_copy : MethodName := ⟨RX7, "copy", "(IIIII)I"⟩
abbrev cX7_read : ByteArray := prog_1_method_12_code
def yX7_read : MethodName := ⟨RX7, "read", "(II)I"⟩
abbrev cX7_code : ByteArray := prog_1_method_13_code
def yX7_code : MethodName := ⟨RX7, "code", "()I"⟩
abbrev cX7_swap : ByteArray := prog_1_method_14_code
def yX7_swap : MethodName := ⟨RX7, "swap", "(II)I"⟩
abbrev cX7_lay : ByteArray := prog_1_method_15_code
def yX7_lay : MethodName := ⟨RX7, "lay", "(II)I"⟩
abbrev cX7_end : ByteArray := prog_1_method_16_code
def yX7_end : MethodName := ⟨RX7, "end", "()I"⟩
abbrev cX7_begin : ByteArray := prog_1_method_17_code
def yX7_begin : MethodName := ⟨RX7, "begin", "(I)I"⟩
abbrev cX7_tail : ByteArray := prog_1_method_18_code
def yX7_tail : MethodName := ⟨RX7, "tail", "(II)I"⟩
abbrev cX7_row : ByteArray := prog_1_method_19_code
def yX7_row : MethodName := ⟨RX7, "row", "(I)I"⟩
abbrev cX7_rule : ByteArray := prog_1_method_20_code
def yX7_rule : MethodName := ⟨RX7, "rule", "(I)I"⟩
abbrev cX7_better : ByteArray := prog_1_method_21_code
def yX7_better : MethodName := ⟨RX7, "better", "(I)I"⟩
abbrev cX7_windows : ByteArray := prog_1_method_22_code
def yX7_windows : MethodName := ⟨RX7, "windows", "(I)I"⟩
abbrev cX7_window : ByteArray := prog_1_method_23_code
def yX7_window : MethodName := ⟨RX7, "window", "(II)I"⟩
abbrev cX7_must : ByteArray := prog_1_method_24_code
def yX7_must : MethodName := ⟨RX7, "must", "(II)I"⟩
abbrev cX7_bound : ByteArray := prog_1_method_25_code
def yX7_bound : MethodName := ⟨RX7, "bound", "(II)I"⟩
abbrev cX7_least : ByteArray := prog_1_method_26_code
def yX7_least : MethodName := ⟨RX7, "least", "(I)I"⟩
abbrev cX7_found : ByteArray := prog_1_method_27_code
def yX7_found : MethodName := ⟨RX7, "found", "(I)I"⟩
abbrev cX7_fail : ByteArray := prog_1_method_28_code
def yX7_fail : MethodName := ⟨RX7, "fail", "(III)I"⟩
abbrev cX7_mended : ByteArray := prog_1_method_29_code
def yX7_mended : MethodName := ⟨RX7, "mended", "(II)I"⟩
abbrev cX7_isOut : ByteArray := prog_1_method_30_code
def yX7_isOut : MethodName := ⟨RX7, "isOut", "(III)Z"⟩
abbrev cX7_isMachine : ByteArray := prog_1_method_31_code
def yX7_isMachine : MethodName := ⟨RX7, "isMachine", "(I)Z"⟩
abbrev cX7_isStep : ByteArray := prog_1_method_32_code
def yX7_isStep : MethodName := ⟨RX7, "isStep", "(I)Z"⟩
abbrev cX7_isSheet : ByteArray := prog_1_method_33_code
def yX7_isSheet : MethodName := ⟨RX7, "isSheet", "(I)Z"⟩
abbrev cX7_addStep : ByteArray := prog_1_method_34_code
def yX7_addStep : MethodName := ⟨RX7, "addStep", "(III)I"⟩
abbrev cX7_holdsSteps : ByteArray := prog_1_method_35_code
def yX7_holdsSteps : MethodName := ⟨RX7, "holdsSteps", "([II)Z"⟩
abbrev cX7_addPieceBy : ByteArray := prog_1_method_36_code
def yX7_addPieceBy : MethodName := ⟨RX7, "addPieceBy", "(I[II)I"⟩
abbrev cX7_hasTails : ByteArray := prog_1_method_37_code
def yX7_hasTails : MethodName := ⟨RX7, "hasTails", "()Z"⟩
abbrev cX7_pickBy : ByteArray := prog_1_method_38_code
def yX7_pickBy : MethodName := ⟨RX7, "pickBy", "(I)I"⟩
abbrev cX7_rankBy : ByteArray := prog_1_method_39_code
def yX7_rankBy : MethodName := ⟨RX7, "rankBy", "(II)I"⟩
abbrev cX7_shorten : ByteArray := prog_1_method_40_code
def yX7_shorten : MethodName := ⟨RX7, "shorten", "()Z"⟩
abbrev cX7_isTight : ByteArray := prog_1_method_41_code
def yX7_isTight : MethodName := ⟨RX7, "isTight", "(II)Z"⟩
abbrev cX7_endBySwap : ByteArray := prog_1_method_42_code
def yX7_endBySwap : MethodName := ⟨RX7, "endBySwap", "(II)I"⟩
abbrev cX7_stays : ByteArray := prog_1_method_43_code
def yX7_stays : MethodName := ⟨RX7, "stays", "(III)Z"⟩
def RX8 : String := "JoineryFloorModel"
def TX8 : u_T := fun k => match k with
  | 0 => ("JoineryFloorModel", "kinds", "[I", true)
  | 1 => ("JoineryFloorModel", "withs", "[I", true)
  | 2 => ("JoineryFloorModel", "machines", "I", false)
  | 3 => ("JoineryFloorModel", "sorts", "[I", true)
  | 4 => ("JoineryFloorModel", "stepMany", "[I", true)
  | 5 => ("JoineryFloorModel", "stepRow", "[I", true)
  | 6 => ("JoineryFloorModel", "pieces", "I", false)
  | 7 => ("JoineryFloorModel", "pieceOf", "[I", true)
  | 8 => ("JoineryFloorModel", "machineOf", "[I", true)
  | 9 => ("JoineryFloorModel", "spans", "[I", true)
  | 10 => ("JoineryFloorModel", "which", "[I", true)
  | 11 => ("JoineryFloorModel", "steps", "I", false)
  | 12 => ("JoineryFloorModel", "order", "[I", true)
  | 13 => ("JoineryFloorModel", "orderMany", "[I", true)
  | 14 => ("JoineryFloorModel", "code", "I", false)
  | 15 => ("JoineryFloorModel", "sheetSize", "[I", true)
  | 16 => ("JoineryFloorModel", "sheetForm", "[I", true)
  | 17 => ("JoineryFloorModel", "sheets", "[I", true)
  | 18 => ("JoineryFloorModel", "held", "[I", true)
  | 19 => ("JoineryFloorModel", "begins", "[I", true)
  | 20 => ("JoineryFloorModel", "isSet", "[Z", true)
  | 21 => ("JoineryFloorModel", "end", "I", false)
  | 22 => ("JoineryFloorModel", "ends", "[I", true)
  | 23 => ("JoineryFloorModel", "tails", "[I", true)
  | 24 => ("JoineryFloorModel", "may", "[Z", true)
  | 25 => ("JoineryFloorModel", "heads", "[I", true)
  | 26 => ("JoineryFloorModel", "deads", "[I", true)
  | 27 => ("JoineryFloorModel", "aheads", "[I", true)
  | 28 => ("JoineryFloorModel", "hasChanged", "Z", false)
  | 29 => ("JoineryFloorModel", "hasBurst", "Z", false)
  | 30 => ("JoineryFloorModel", "isAsked", "Z", false)
  | 31 => ("JoineryFloorModel", "askedSteps", "I", false)
  | 32 => ("JoineryFloorModel", "toldHeads", "[I", true)
  | 33 => ("JoineryFloorModel", "toldDeads", "[I", true)
  | 34 => ("JoineryFloorModel", "toldAheads", "[I", true)
  | 35 => ("JoineryFloorModel", "mine", "[I", true)
  | 36 => ("JoineryFloorModel", "mineMany", "I", false)
  | 37 => ("JoineryFloorModel", "firsts", "[I", true)
  | 38 => ("JoineryFloorModel", "lasts", "[I", true)
  | 39 => ("JoineryFloorModel", "left", "[I", true)
  | 40 => ("JoineryFloorModel", "tried", "[I", true)
  | 41 => ("JoineryFloorModel", "ended", "[I", true)
  | 42 => ("JoineryFloorModel", "tops", "[I", true)
  | 43 => ("JoineryFloorModel", "pile", "[I", true)
  | 44 => ("JoineryFloorModel", "piled", "I", false)
  | 45 => ("JoineryFloorModel", "best", "I", false)
  | 46 => ("JoineryFloorModel", "cases", "I", false)
  | 47 => ("JoineryFloorModel", "found", "I", false)
  | 48 => ("JoineryFloorModel", "kept", "[I", true)
  | 49 => ("JoineryFloorModel", "isMended", "Z", false)
  | 50 => ("JoineryFloorModel", "mendedSteps", "I", false)
  | 51 => ("JoineryFloorModel", "mends", "[I", true)
  | _ => ("JoineryFloorModel", "stays", "[Z", true)
def tyX8 : Nat → FieldType := fun k => match k with
  | 0 => .array .int
  | 1 => .array .int
  | 2 => .int
  | 3 => .array .int
  | 4 => .array .int
  | 5 => .array .int
  | 6 => .int
  | 7 => .array .int
  | 8 => .array .int
  | 9 => .array .int
  | 10 => .array .int
  | 11 => .int
  | 12 => .array .int
  | 13 => .array .int
  | 14 => .int
  | 15 => .array .int
  | 16 => .array .int
  | 17 => .array .int
  | 18 => .array .int
  | 19 => .array .int
  | 20 => .array .boolean
  | 21 => .int
  | 22 => .array .int
  | 23 => .array .int
  | 24 => .array .boolean
  | 25 => .array .int
  | 26 => .array .int
  | 27 => .array .int
  | 28 => .boolean
  | 29 => .boolean
  | 30 => .boolean
  | 31 => .int
  | 32 => .array .int
  | 33 => .array .int
  | 34 => .array .int
  | 35 => .array .int
  | 36 => .int
  | 37 => .array .int
  | 38 => .array .int
  | 39 => .array .int
  | 40 => .array .int
  | 41 => .array .int
  | 42 => .array .int
  | 43 => .array .int
  | 44 => .int
  | 45 => .int
  | 46 => .int
  | 47 => .int
  | 48 => .array .int
  | 49 => .boolean
  | 50 => .int
  | 51 => .array .int
  | _ => .array .boolean
theorem nmX8 : ∀ a, a < 53 → ∀ b, b < 53 → a ≠ b → (TX8 a).2.1 ≠ (TX8 b).2.1 := by decide +kernel
theorem tyX8_ok : ∀ k, k < 53 → parseFieldDescriptor (TX8 k).2.2.1 = some (tyX8 k) := by decide +kernel
abbrev cX8_init : ByteArray := prog_10_method_1_code
def yX8_init : MethodName := ⟨RX8, "<init>", "()V"⟩
abbrev cX8_in : ByteArray := prog_10_method_3_code
def yX8_in : MethodName := ⟨RX8, "in", "(JJJ)Z"⟩
abbrev cX8_machine : ByteArray := prog_10_method_4_code
def yX8_machine : MethodName := ⟨RX8, "machine", "(II)I"⟩
abbrev cX8_piece : ByteArray := prog_10_method_5_code
def yX8_piece : MethodName := ⟨RX8, "piece", "(I)I"⟩
abbrev cX8_more : ByteArray := prog_10_method_6_code
def yX8_more : MethodName := ⟨RX8, "more", "(III)I"⟩
abbrev cX8_step : ByteArray := prog_10_method_7_code
def yX8_step : MethodName := ⟨RX8, "step", "(III)I"⟩
abbrev cX8_isStep : ByteArray := prog_10_method_8_code
def yX8_isStep : MethodName := ⟨RX8, "isStep", "(I)Z"⟩
abbrev cX8_placeOf : ByteArray := prog_10_method_9_code
def yX8_placeOf : MethodName := ⟨RX8, "placeOf", "(I)I"⟩
abbrev cX8_told : ByteArray := prog_10_method_10_code
def yX8_told : MethodName := ⟨RX8, "told", "(II)I"⟩
abbrev cX8_isSimple : ByteArray := prog_10_method_11_code
def yX8_isSimple : MethodName := ⟨RX8, "isSimple", "()Z"⟩
abbrev cX8_sumOfSpans : ByteArray := prog_10_method_12_code
def yX8_sumOfSpans : MethodName := ⟨RX8, "sumOfSpans", "()I"⟩
abbrev cX8_count : ByteArray := prog_10_method_13_code
def yX8_count : MethodName := ⟨RX8, "count", "(I)I"⟩
abbrev cX8_isSheet : ByteArray := prog_10_method_14_code
def yX8_isSheet : MethodName := ⟨RX8, "isSheet", "(I)Z"⟩
abbrev cX8_sheet : ByteArray := prog_10_method_15_code
def yX8_sheet : MethodName := ⟨RX8, "sheet", "(III)I"⟩
abbrev cX8_tear : ByteArray := prog_10_method_16_code
def yX8_tear : MethodName := ⟨RX8, "tear", "(I)I"⟩
abbrev cX8_put : ByteArray := prog_10_method_17_code
def yX8_put : MethodName := ⟨RX8, "put", "(IIII)I"⟩
abbrev cX8_at : ByteArray := prog_10_method_18_code
def yX8_at : MethodName := ⟨RX8, "at", "(II)I"⟩
abbrev cX8_copy : ByteArray := prog_10_method_19_code
def yX8_copy : MethodName := ⟨RX8, "copy", "(IIIII)I"⟩
abbrev cX8_read : ByteArray := prog_10_method_20_code
def yX8_read : MethodName := ⟨RX8, "read", "(II)I"⟩
abbrev cX8_code : ByteArray := prog_10_method_21_code
def yX8_code : MethodName := ⟨RX8, "code", "()I"⟩
abbrev cX8_ahead : ByteArray := prog_10_method_22_code
def yX8_ahead : MethodName := ⟨RX8, "ahead", "(I)I"⟩
abbrev cX8_behind : ByteArray := prog_10_method_23_code
def yX8_behind : MethodName := ⟨RX8, "behind", "(I)I"⟩
abbrev cX8_fromOrder : ByteArray := prog_10_method_24_code
def yX8_fromOrder : MethodName := ⟨RX8, "fromOrder", "(III)I"⟩
abbrev cX8_isReady : ByteArray := prog_10_method_25_code
def yX8_isReady : MethodName := ⟨RX8, "isReady", "(I)Z"⟩
abbrev cX8_work : ByteArray := prog_10_method_26_code
def yX8_work : MethodName := ⟨RX8, "work", "()Z"⟩
abbrev cX8_exchange : ByteArray := prog_10_method_27_code
def yX8_exchange : MethodName := ⟨RX8, "exchange", "(II)V"⟩
abbrev cX8_swap : ByteArray := prog_10_method_28_code
def yX8_swap : MethodName := ⟨RX8, "swap", "(II)I"⟩
abbrev cX8_lay : ByteArray := prog_10_method_29_code
def yX8_lay : MethodName := ⟨RX8, "lay", "(II)I"⟩
abbrev cX8_end : ByteArray := prog_10_method_30_code
def yX8_end : MethodName := ⟨RX8, "end", "()I"⟩
abbrev cX8_begin : ByteArray := prog_10_method_31_code
def yX8_begin : MethodName := ⟨RX8, "begin", "(I)I"⟩
abbrev cX8_next : ByteArray := prog_10_method_32_code
def yX8_next : MethodName := ⟨RX8, "next", "(I)I"⟩
abbrev cX8_workTails : ByteArray := prog_10_method_33_code
def yX8_workTails : MethodName := ⟨RX8, "workTails", "()V"⟩
abbrev cX8_hasTails : ByteArray := prog_10_method_34_code
def yX8_hasTails : MethodName := ⟨RX8, "hasTails", "()Z"⟩
abbrev cX8_slack : ByteArray := prog_10_method_35_code
def yX8_slack : MethodName := ⟨RX8, "slack", "(I)I"⟩
abbrev cX8_tail : ByteArray := prog_10_method_36_code
def yX8_tail : MethodName := ⟨RX8, "tail", "(II)I"⟩
abbrev cX8_isNext : ByteArray := prog_10_method_37_code
def yX8_isNext : MethodName := ⟨RX8, "isNext", "(II)Z"⟩
abbrev cX8_row : ByteArray := prog_10_method_38_code
def yX8_row : MethodName := ⟨RX8, "row", "(I)I"⟩
abbrev cX8_rule : ByteArray := prog_10_method_39_code
def yX8_rule : MethodName := ⟨RX8, "rule", "(I)I"⟩
abbrev cX8_first : ByteArray := prog_10_method_40_code
def yX8_first : MethodName := ⟨RX8, "first", "(I)I"⟩
abbrev cX8_early : ByteArray := prog_10_method_41_code
def yX8_early : MethodName := ⟨RX8, "early", "(I)I"⟩
abbrev cX8_rest : ByteArray := prog_10_method_42_code
def yX8_rest : MethodName := ⟨RX8, "rest", "(I)I"⟩
abbrev cX8_better : ByteArray := prog_10_method_43_code
def yX8_better : MethodName := ⟨RX8, "better", "(I)I"⟩
abbrev cX8_swapBest : ByteArray := prog_10_method_44_code
def yX8_swapBest : MethodName := ⟨RX8, "swapBest", "()Z"⟩
abbrev cX8_isAhead : ByteArray := prog_10_method_45_code
def yX8_isAhead : MethodName := ⟨RX8, "isAhead", "(II)Z"⟩
abbrev cX8_tell : ByteArray := prog_10_method_46_code
def yX8_tell : MethodName := ⟨RX8, "tell", "(II)V"⟩
abbrev cX8_head : ByteArray := prog_10_method_47_code
def yX8_head : MethodName := ⟨RX8, "head", "(II)V"⟩
abbrev cX8_dead : ByteArray := prog_10_method_48_code
def yX8_dead : MethodName := ⟨RX8, "dead", "(II)V"⟩
abbrev cX8_ask : ByteArray := prog_10_method_49_code
def yX8_ask : MethodName := ⟨RX8, "ask", "()V"⟩
abbrev cX8_byPieces : ByteArray := prog_10_method_50_code
def yX8_byPieces : MethodName := ⟨RX8, "byPieces", "()V"⟩
abbrev cX8_byAhead : ByteArray := prog_10_method_51_code
def yX8_byAhead : MethodName := ⟨RX8, "byAhead", "()V"⟩
abbrev cX8_isOn : ByteArray := prog_10_method_52_code
def yX8_isOn : MethodName := ⟨RX8, "isOn", "(II)Z"⟩
abbrev cX8_byPairs : ByteArray := prog_10_method_53_code
def yX8_byPairs : MethodName := ⟨RX8, "byPairs", "(I)V"⟩
abbrev cX8_bySets : ByteArray := prog_10_method_54_code
def yX8_bySets : MethodName := ⟨RX8, "bySets", "(I)V"⟩
abbrev cX8_bySet : ByteArray := prog_10_method_55_code
def yX8_bySet : MethodName := ⟨RX8, "bySet", "(III)V"⟩
abbrev cX8_asks : ByteArray := prog_10_method_56_code
def yX8_asks : MethodName := ⟨RX8, "asks", "(I)Z"⟩
abbrev cX8_windows : ByteArray := prog_10_method_57_code
def yX8_windows : MethodName := ⟨RX8, "windows", "(I)I"⟩
abbrev cX8_window : ByteArray := prog_10_method_58_code
def yX8_window : MethodName := ⟨RX8, "window", "(II)I"⟩
abbrev cX8_must : ByteArray := prog_10_method_59_code
def yX8_must : MethodName := ⟨RX8, "must", "(II)I"⟩
abbrev cX8_gather : ByteArray := prog_10_method_60_code
def yX8_gather : MethodName := ⟨RX8, "gather", "(I)V"⟩
abbrev cX8_cutBound : ByteArray := prog_10_method_61_code
def yX8_cutBound : MethodName := ⟨RX8, "cutBound", "()I"⟩
abbrev cX8_wholeBound : ByteArray := prog_10_method_62_code
def yX8_wholeBound : MethodName := ⟨RX8, "wholeBound", "()I"⟩
abbrev cX8_bound : ByteArray := prog_10_method_63_code
def yX8_bound : MethodName := ⟨RX8, "bound", "(II)I"⟩
abbrev cX8_pushCase : ByteArray := prog_10_method_64_code
def yX8_pushCase : MethodName := ⟨RX8, "pushCase", "()V"⟩
abbrev cX8_popCase : ByteArray := prog_10_method_65_code
def yX8_popCase : MethodName := ⟨RX8, "popCase", "()V"⟩
abbrev cX8_complete : ByteArray := prog_10_method_66_code
def yX8_complete : MethodName := ⟨RX8, "complete", "()V"⟩
abbrev cX8_aheadOf : ByteArray := prog_10_method_67_code
def yX8_aheadOf : MethodName := ⟨RX8, "aheadOf", "(I)I"⟩
abbrev cX8_arrange : ByteArray := prog_10_method_68_code
def yX8_arrange : MethodName := ⟨RX8, "arrange", "(I)V"⟩
abbrev cX8_parts : ByteArray := prog_10_method_69_code
def yX8_parts : MethodName := ⟨RX8, "parts", "()Z"⟩
abbrev cX8_least : ByteArray := prog_10_method_70_code
def yX8_least : MethodName := ⟨RX8, "least", "(I)I"⟩
abbrev cX8_found : ByteArray := prog_10_method_71_code
def yX8_found : MethodName := ⟨RX8, "found", "(I)I"⟩
abbrev cX8_fail : ByteArray := prog_10_method_72_code
def yX8_fail : MethodName := ⟨RX8, "fail", "(III)I"⟩
abbrev cX8_mended : ByteArray := prog_10_method_73_code
def yX8_mended : MethodName := ⟨RX8, "mended", "(II)I"⟩
def RJ6 : String := "java/lang/Integer"
def TJ6 : u_T := fun k => match k with
  | _ => ("", "", "", false)
def tyJ6 : Nat → FieldType := fun k => match k with
  | _ => .int
theorem nmJ6 : ∀ a, a < 0 → ∀ b, b < 0 → a ≠ b → (TJ6 a).2.1 ≠ (TJ6 b).2.1 := by decide +kernel
theorem tyJ6_ok : ∀ k, k < 0 → parseFieldDescriptor (TJ6 k).2.2.1 = some (tyJ6 k) := by decide +kernel
abbrev cJ6_bitCount_0f7a4 : ByteArray := prog_11_method_49_code
def yJ6_bitCount_0f7a4 : MethodName := ⟨RJ6, "bitCount", "(I)I"⟩
def RJ9 : String := "java/lang/Math"
def TJ9 : u_T := fun k => match k with
  | _ => ("", "", "", false)
def tyJ9 : Nat → FieldType := fun k => match k with
  | _ => .int
theorem nmJ9 : ∀ a, a < 0 → ∀ b, b < 0 → a ≠ b → (TJ9 a).2.1 ≠ (TJ9 b).2.1 := by decide +kernel
theorem tyJ9_ok : ∀ k, k < 0 → parseFieldDescriptor (TJ9 k).2.2.1 = some (tyJ9 k) := by decide +kernel
abbrev cJ9_max_7cf53 : ByteArray := prog_12_method_65_code
def yJ9_max_7cf53 : MethodName := ⟨RJ9, "max", "(II)I"⟩
abbrev cJ9_min_7cf53 : ByteArray := prog_12_method_69_code
def yJ9_min_7cf53 : MethodName := ⟨RJ9, "min", "(II)I"⟩
def RJ10 : String := "java/lang/System"
def TJ10 : u_T := fun k => match k with
  | _ => ("", "", "", false)
def tyJ10 : Nat → FieldType := fun k => match k with
  | _ => .int
theorem nmJ10 : ∀ a, a < 0 → ∀ b, b < 0 → a ≠ b → (TJ10 a).2.1 ≠ (TJ10 b).2.1 := by decide +kernel
theorem tyJ10_ok : ∀ k, k < 0 → parseFieldDescriptor (TJ10 k).2.2.1 = some (tyJ10 k) := by decide +kernel
def RJ7 : String := "java/util/Arrays"
def TJ7 : u_T := fun k => match k with
  | _ => ("", "", "", false)
def tyJ7 : Nat → FieldType := fun k => match k with
  | _ => .int
theorem nmJ7 : ∀ a, a < 0 → ∀ b, b < 0 → a ≠ b → (TJ7 a).2.1 ≠ (TJ7 b).2.1 := by decide +kernel
theorem tyJ7_ok : ∀ k, k < 0 → parseFieldDescriptor (TJ7 k).2.2.1 = some (tyJ7 k) := by decide +kernel
abbrev cJ7_fill_53178 : ByteArray := prog_14_method_103_code
def yJ7_fill_53178 : MethodName := ⟨RJ7, "fill", "([II)V"⟩
def RL : String := "JoineryFloorLaw"
abbrev cL_law : ByteArray := code
def yL_law : MethodName := ⟨RL, "law", "([I)Z"⟩
abbrev vwCl : List vw_C := [(RX0, TX0, 5), (RX1, TX1, 11), (RX2, TX2, 14), (RX3, TX3, 2), (RX4, TX4, 8), (RX5, TX5, 4), (RX6, TX6, 6), (RX7, TX7, 10), (RX8, TX8, 53)]
end
section
theorem dX0_init_0 : decode cX0_init 0 = .ok (.aload_n 0, 1) := by decide +kernel
theorem dX0_init_1 : decode cX0_init 1 = .ok (.invokespecial 3, 3) := by decide +kernel
theorem dX0_init_4 : decode cX0_init 4 = .ok (.aload_n 0, 1) := by decide +kernel
theorem dX0_init_5 : decode cX0_init 5 = .ok (.bipush 32, 2) := by decide +kernel
theorem dX0_init_7 : decode cX0_init 7 = .ok (.newarray .int, 2) := by decide +kernel
theorem dX0_init_9 : decode cX0_init 9 = .ok (.putfield 9, 3) := by decide +kernel
theorem dX0_init_12 : decode cX0_init 12 = .ok (.aload_n 0, 1) := by decide +kernel
theorem dX0_init_13 : decode cX0_init 13 = .ok (.bipush 32, 2) := by decide +kernel
theorem dX0_init_15 : decode cX0_init 15 = .ok (.newarray .int, 2) := by decide +kernel
theorem dX0_init_17 : decode cX0_init 17 = .ok (.putfield 15, 3) := by decide +kernel
theorem dX0_init_20 : decode cX0_init 20 = .ok (.aload_n 0, 1) := by decide +kernel
theorem dX0_init_21 : decode cX0_init 21 = .ok (.bipush 32, 2) := by decide +kernel
theorem dX0_init_23 : decode cX0_init 23 = .ok (.newarray .int, 2) := by decide +kernel
theorem dX0_init_25 : decode cX0_init 25 = .ok (.putfield 18, 3) := by decide +kernel
theorem dX0_init_28 : decode cX0_init 28 = .ok (.aload_n 0, 1) := by decide +kernel
theorem dX0_init_29 : decode cX0_init 29 = .ok (.bipush 32, 2) := by decide +kernel
theorem dX0_init_31 : decode cX0_init 31 = .ok (.newarray .int, 2) := by decide +kernel
theorem dX0_init_33 : decode cX0_init 33 = .ok (.putfield 21, 3) := by decide +kernel
theorem dX0_init_36 : decode cX0_init 36 = .ok (.return_, 1) := by decide +kernel
theorem dX0_takeJobs_0 : decode cX0_takeJobs 0 = .ok (.aload_n 0, 1) := by decide +kernel
theorem dX0_takeJobs_1 : decode cX0_takeJobs 1 = .ok (.aload_n 1, 1) := by decide +kernel
theorem dX0_takeJobs_2 : decode cX0_takeJobs 2 = .ok (.getfield 24, 3) := by decide +kernel
theorem dX0_takeJobs_5 : decode cX0_takeJobs 5 = .ok (.iload_n 2, 1) := by decide +kernel
theorem dX0_takeJobs_6 : decode cX0_takeJobs 6 = .ok (.iaload, 1) := by decide +kernel
theorem dX0_takeJobs_7 : decode cX0_takeJobs 7 = .ok (.putfield 29, 3) := by decide +kernel
theorem dX0_takeJobs_10 : decode cX0_takeJobs 10 = .ok (.iconst 0, 1) := by decide +kernel
theorem dX0_takeJobs_11 : decode cX0_takeJobs 11 = .ok (.istore_n 3, 1) := by decide +kernel
theorem dX0_takeJobs_12 : decode cX0_takeJobs 12 = .ok (.iload_n 3, 1) := by decide +kernel
theorem dX0_takeJobs_13 : decode cX0_takeJobs 13 = .ok (.aload_n 0, 1) := by decide +kernel
theorem dX0_takeJobs_14 : decode cX0_takeJobs 14 = .ok (.getfield 29, 3) := by decide +kernel
theorem dX0_takeJobs_17 : decode cX0_takeJobs 17 = .ok (.if_icmp .ge 56, 3) := by decide +kernel
theorem dX0_takeJobs_20 : decode cX0_takeJobs 20 = .ok (.aload_n 1, 1) := by decide +kernel
theorem dX0_takeJobs_21 : decode cX0_takeJobs 21 = .ok (.getfield 33, 3) := by decide +kernel
theorem dX0_takeJobs_24 : decode cX0_takeJobs 24 = .ok (.iload_n 2, 1) := by decide +kernel
theorem dX0_takeJobs_25 : decode cX0_takeJobs 25 = .ok (.aaload, 1) := by decide +kernel
theorem dX0_takeJobs_26 : decode cX0_takeJobs 26 = .ok (.iload_n 3, 1) := by decide +kernel
theorem dX0_takeJobs_27 : decode cX0_takeJobs 27 = .ok (.iaload, 1) := by decide +kernel
theorem dX0_takeJobs_28 : decode cX0_takeJobs 28 = .ok (.istore 4, 2) := by decide +kernel
theorem dX0_takeJobs_30 : decode cX0_takeJobs 30 = .ok (.aload_n 0, 1) := by decide +kernel
theorem dX0_takeJobs_31 : decode cX0_takeJobs 31 = .ok (.getfield 9, 3) := by decide +kernel
theorem dX0_takeJobs_34 : decode cX0_takeJobs 34 = .ok (.iload_n 3, 1) := by decide +kernel
theorem dX0_takeJobs_35 : decode cX0_takeJobs 35 = .ok (.aload_n 1, 1) := by decide +kernel
theorem dX0_takeJobs_36 : decode cX0_takeJobs 36 = .ok (.iload 4, 2) := by decide +kernel
theorem dX0_takeJobs_38 : decode cX0_takeJobs 38 = .ok (.invokevirtual 37, 3) := by decide +kernel
theorem dX0_takeJobs_41 : decode cX0_takeJobs 41 = .ok (.iastore, 1) := by decide +kernel
theorem dX0_takeJobs_42 : decode cX0_takeJobs 42 = .ok (.aload_n 0, 1) := by decide +kernel
theorem dX0_takeJobs_43 : decode cX0_takeJobs 43 = .ok (.getfield 15, 3) := by decide +kernel
theorem dX0_takeJobs_46 : decode cX0_takeJobs 46 = .ok (.iload_n 3, 1) := by decide +kernel
theorem dX0_takeJobs_47 : decode cX0_takeJobs 47 = .ok (.aload_n 1, 1) := by decide +kernel
theorem dX0_takeJobs_48 : decode cX0_takeJobs 48 = .ok (.iload 4, 2) := by decide +kernel
theorem dX0_takeJobs_50 : decode cX0_takeJobs 50 = .ok (.invokevirtual 41, 3) := by decide +kernel
theorem dX0_takeJobs_53 : decode cX0_takeJobs 53 = .ok (.iastore, 1) := by decide +kernel
theorem dX0_takeJobs_54 : decode cX0_takeJobs 54 = .ok (.aload_n 0, 1) := by decide +kernel
theorem dX0_takeJobs_55 : decode cX0_takeJobs 55 = .ok (.getfield 18, 3) := by decide +kernel
theorem dX0_takeJobs_58 : decode cX0_takeJobs 58 = .ok (.iload_n 3, 1) := by decide +kernel
theorem dX0_takeJobs_59 : decode cX0_takeJobs 59 = .ok (.aload_n 1, 1) := by decide +kernel
theorem dX0_takeJobs_60 : decode cX0_takeJobs 60 = .ok (.getfield 44, 3) := by decide +kernel
theorem dX0_takeJobs_63 : decode cX0_takeJobs 63 = .ok (.iload 4, 2) := by decide +kernel
theorem dX0_takeJobs_65 : decode cX0_takeJobs 65 = .ok (.iaload, 1) := by decide +kernel
theorem dX0_takeJobs_66 : decode cX0_takeJobs 66 = .ok (.iastore, 1) := by decide +kernel
theorem dX0_takeJobs_67 : decode cX0_takeJobs 67 = .ok (.iinc 3 1, 3) := by decide +kernel
theorem dX0_takeJobs_70 : decode cX0_takeJobs 70 = .ok (.goto (-58), 3) := by decide +kernel
theorem dX0_takeJobs_73 : decode cX0_takeJobs 73 = .ok (.return_, 1) := by decide +kernel
theorem dX0_cutBound_0 : decode cX0_cutBound 0 = .ok (.aload_n 0, 1) := by decide +kernel
theorem dX0_cutBound_1 : decode cX0_cutBound 1 = .ok (.getfield 18, 3) := by decide +kernel
theorem dX0_cutBound_4 : decode cX0_cutBound 4 = .ok (.iconst 0, 1) := by decide +kernel
theorem dX0_cutBound_5 : decode cX0_cutBound 5 = .ok (.aload_n 0, 1) := by decide +kernel
theorem dX0_cutBound_6 : decode cX0_cutBound 6 = .ok (.getfield 21, 3) := by decide +kernel
theorem dX0_cutBound_9 : decode cX0_cutBound 9 = .ok (.iconst 0, 1) := by decide +kernel
theorem dX0_cutBound_10 : decode cX0_cutBound 10 = .ok (.bipush 32, 2) := by decide +kernel
theorem dX0_cutBound_12 : decode cX0_cutBound 12 = .ok (.invokestatic 45, 3) := by decide +kernel
theorem dX0_cutBound_15 : decode cX0_cutBound 15 = .ok (.iconst 0, 1) := by decide +kernel
theorem dX0_cutBound_16 : decode cX0_cutBound 16 = .ok (.istore_n 1, 1) := by decide +kernel
theorem dX0_cutBound_17 : decode cX0_cutBound 17 = .ok (.iconst 0, 1) := by decide +kernel
theorem dX0_cutBound_18 : decode cX0_cutBound 18 = .ok (.istore_n 2, 1) := by decide +kernel
theorem dX0_cutBound_19 : decode cX0_cutBound 19 = .ok (.iconst 0, 1) := by decide +kernel
theorem dX0_cutBound_20 : decode cX0_cutBound 20 = .ok (.istore_n 3, 1) := by decide +kernel
theorem dX0_cutBound_21 : decode cX0_cutBound 21 = .ok (.iload_n 3, 1) := by decide +kernel
theorem dX0_cutBound_22 : decode cX0_cutBound 22 = .ok (.iconst 2, 1) := by decide +kernel
theorem dX0_cutBound_23 : decode cX0_cutBound 23 = .ok (.aload_n 0, 1) := by decide +kernel
theorem dX0_cutBound_24 : decode cX0_cutBound 24 = .ok (.getfield 29, 3) := by decide +kernel
theorem dX0_cutBound_27 : decode cX0_cutBound 27 = .ok (.imul, 1) := by decide +kernel
theorem dX0_cutBound_28 : decode cX0_cutBound 28 = .ok (.if_icmp .ge 125, 3) := by decide +kernel
theorem dX0_cutBound_31 : decode cX0_cutBound 31 = .ok (.aload_n 0, 1) := by decide +kernel
theorem dX0_cutBound_32 : decode cX0_cutBound 32 = .ok (.iload_n 1, 1) := by decide +kernel
theorem dX0_cutBound_33 : decode cX0_cutBound 33 = .ok (.invokevirtual 51, 3) := by decide +kernel
theorem dX0_cutBound_36 : decode cX0_cutBound 36 = .ok (.istore 4, 2) := by decide +kernel
theorem dX0_cutBound_38 : decode cX0_cutBound 38 = .ok (.aload_n 0, 1) := by decide +kernel
theorem dX0_cutBound_39 : decode cX0_cutBound 39 = .ok (.iload_n 1, 1) := by decide +kernel
theorem dX0_cutBound_40 : decode cX0_cutBound 40 = .ok (.invokevirtual 54, 3) := by decide +kernel
theorem dX0_cutBound_43 : decode cX0_cutBound 43 = .ok (.istore 5, 2) := by decide +kernel
theorem dX0_cutBound_45 : decode cX0_cutBound 45 = .ok (.iload 4, 2) := by decide +kernel
theorem dX0_cutBound_47 : decode cX0_cutBound 47 = .ok (.iconst (-1), 1) := by decide +kernel
theorem dX0_cutBound_48 : decode cX0_cutBound 48 = .ok (.if_icmp .ne 8, 3) := by decide +kernel
theorem dX0_cutBound_51 : decode cX0_cutBound 51 = .ok (.iload 5, 2) := by decide +kernel
theorem dX0_cutBound_53 : decode cX0_cutBound 53 = .ok (.goto 12, 3) := by decide +kernel
theorem dX0_cutBound_56 : decode cX0_cutBound 56 = .ok (.iload_n 1, 1) := by decide +kernel
theorem dX0_cutBound_57 : decode cX0_cutBound 57 = .ok (.aload_n 0, 1) := by decide +kernel
theorem dX0_cutBound_58 : decode cX0_cutBound 58 = .ok (.getfield 21, 3) := by decide +kernel
theorem dX0_cutBound_61 : decode cX0_cutBound 61 = .ok (.iload 4, 2) := by decide +kernel
theorem dX0_cutBound_63 : decode cX0_cutBound 63 = .ok (.iaload, 1) := by decide +kernel
theorem dX0_cutBound_64 : decode cX0_cutBound 64 = .ok (.iadd, 1) := by decide +kernel
theorem dX0_cutBound_65 : decode cX0_cutBound 65 = .ok (.istore 6, 2) := by decide +kernel
theorem dX0_cutBound_67 : decode cX0_cutBound 67 = .ok (.iload 5, 2) := by decide +kernel
theorem dX0_cutBound_69 : decode cX0_cutBound 69 = .ok (.iconst (-1), 1) := by decide +kernel
theorem dX0_cutBound_70 : decode cX0_cutBound 70 = .ok (.if_icmp .ne 8, 3) := by decide +kernel
theorem dX0_cutBound_73 : decode cX0_cutBound 73 = .ok (.iload 6, 2) := by decide +kernel
theorem dX0_cutBound_75 : decode cX0_cutBound 75 = .ok (.goto 10, 3) := by decide +kernel
theorem dX0_cutBound_78 : decode cX0_cutBound 78 = .ok (.iload 6, 2) := by decide +kernel
theorem dX0_cutBound_80 : decode cX0_cutBound 80 = .ok (.iload 5, 2) := by decide +kernel
theorem dX0_cutBound_82 : decode cX0_cutBound 82 = .ok (.invokestatic 57, 3) := by decide +kernel
theorem dX0_cutBound_85 : decode cX0_cutBound 85 = .ok (.istore 7, 2) := by decide +kernel
theorem dX0_cutBound_87 : decode cX0_cutBound 87 = .ok (.iload 7, 2) := by decide +kernel
theorem dX0_cutBound_89 : decode cX0_cutBound 89 = .ok (.iconst (-1), 1) := by decide +kernel
theorem dX0_cutBound_90 : decode cX0_cutBound 90 = .ok (.if_icmp .ne 5, 3) := by decide +kernel
theorem dX0_cutBound_93 : decode cX0_cutBound 93 = .ok (.iload_n 2, 1) := by decide +kernel
theorem dX0_cutBound_94 : decode cX0_cutBound 94 = .ok (.ireturn, 1) := by decide +kernel
theorem dX0_cutBound_95 : decode cX0_cutBound 95 = .ok (.iload 4, 2) := by decide +kernel
theorem dX0_cutBound_97 : decode cX0_cutBound 97 = .ok (.iconst (-1), 1) := by decide +kernel
theorem dX0_cutBound_98 : decode cX0_cutBound 98 = .ok (.if_icmp .eq 46, 3) := by decide +kernel
theorem dX0_cutBound_101 : decode cX0_cutBound 101 = .ok (.aload_n 0, 1) := by decide +kernel
theorem dX0_cutBound_102 : decode cX0_cutBound 102 = .ok (.getfield 21, 3) := by decide +kernel
theorem dX0_cutBound_105 : decode cX0_cutBound 105 = .ok (.iload 4, 2) := by decide +kernel
theorem dX0_cutBound_107 : decode cX0_cutBound 107 = .ok (.dup2, 1) := by decide +kernel
theorem dX0_cutBound_108 : decode cX0_cutBound 108 = .ok (.iaload, 1) := by decide +kernel
theorem dX0_cutBound_109 : decode cX0_cutBound 109 = .ok (.iload 7, 2) := by decide +kernel
theorem dX0_cutBound_111 : decode cX0_cutBound 111 = .ok (.iload_n 1, 1) := by decide +kernel
theorem dX0_cutBound_112 : decode cX0_cutBound 112 = .ok (.isub, 1) := by decide +kernel
theorem dX0_cutBound_113 : decode cX0_cutBound 113 = .ok (.isub, 1) := by decide +kernel
theorem dX0_cutBound_114 : decode cX0_cutBound 114 = .ok (.iastore, 1) := by decide +kernel
theorem dX0_cutBound_115 : decode cX0_cutBound 115 = .ok (.aload_n 0, 1) := by decide +kernel
theorem dX0_cutBound_116 : decode cX0_cutBound 116 = .ok (.getfield 21, 3) := by decide +kernel
theorem dX0_cutBound_119 : decode cX0_cutBound 119 = .ok (.iload 4, 2) := by decide +kernel
theorem dX0_cutBound_121 : decode cX0_cutBound 121 = .ok (.iaload, 1) := by decide +kernel
theorem dX0_cutBound_122 : decode cX0_cutBound 122 = .ok (.ifCond .ne 20, 3) := by decide +kernel
theorem dX0_cutBound_125 : decode cX0_cutBound 125 = .ok (.iload_n 2, 1) := by decide +kernel
theorem dX0_cutBound_126 : decode cX0_cutBound 126 = .ok (.iload 7, 2) := by decide +kernel
theorem dX0_cutBound_128 : decode cX0_cutBound 128 = .ok (.aload_n 0, 1) := by decide +kernel
theorem dX0_cutBound_129 : decode cX0_cutBound 129 = .ok (.getfield 15, 3) := by decide +kernel
theorem dX0_cutBound_132 : decode cX0_cutBound 132 = .ok (.iload 4, 2) := by decide +kernel
theorem dX0_cutBound_134 : decode cX0_cutBound 134 = .ok (.iaload, 1) := by decide +kernel
theorem dX0_cutBound_135 : decode cX0_cutBound 135 = .ok (.iadd, 1) := by decide +kernel
theorem dX0_cutBound_136 : decode cX0_cutBound 136 = .ok (.invokestatic 63, 3) := by decide +kernel
theorem dX0_cutBound_139 : decode cX0_cutBound 139 = .ok (.goto 4, 3) := by decide +kernel
theorem dX0_cutBound_142 : decode cX0_cutBound 142 = .ok (.iload_n 2, 1) := by decide +kernel
theorem dX0_cutBound_143 : decode cX0_cutBound 143 = .ok (.istore_n 2, 1) := by decide +kernel
theorem dX0_cutBound_144 : decode cX0_cutBound 144 = .ok (.iload 7, 2) := by decide +kernel
theorem dX0_cutBound_146 : decode cX0_cutBound 146 = .ok (.istore_n 1, 1) := by decide +kernel
theorem dX0_cutBound_147 : decode cX0_cutBound 147 = .ok (.iinc 3 1, 3) := by decide +kernel
theorem dX0_cutBound_150 : decode cX0_cutBound 150 = .ok (.goto (-129), 3) := by decide +kernel
theorem dX0_cutBound_153 : decode cX0_cutBound 153 = .ok (.iload_n 2, 1) := by decide +kernel
theorem dX0_cutBound_154 : decode cX0_cutBound 154 = .ok (.ireturn, 1) := by decide +kernel
theorem dX0_mostPressing_0 : decode cX0_mostPressing 0 = .ok (.iconst (-1), 1) := by decide +kernel
theorem dX0_mostPressing_1 : decode cX0_mostPressing 1 = .ok (.istore_n 2, 1) := by decide +kernel
theorem dX0_mostPressing_2 : decode cX0_mostPressing 2 = .ok (.iconst 0, 1) := by decide +kernel
theorem dX0_mostPressing_3 : decode cX0_mostPressing 3 = .ok (.istore_n 3, 1) := by decide +kernel
theorem dX0_mostPressing_4 : decode cX0_mostPressing 4 = .ok (.iload_n 3, 1) := by decide +kernel
theorem dX0_mostPressing_5 : decode cX0_mostPressing 5 = .ok (.aload_n 0, 1) := by decide +kernel
theorem dX0_mostPressing_6 : decode cX0_mostPressing 6 = .ok (.getfield 29, 3) := by decide +kernel
theorem dX0_mostPressing_9 : decode cX0_mostPressing 9 = .ok (.if_icmp .ge 62, 3) := by decide +kernel
theorem dX0_mostPressing_12 : decode cX0_mostPressing 12 = .ok (.aload_n 0, 1) := by decide +kernel
theorem dX0_mostPressing_13 : decode cX0_mostPressing 13 = .ok (.getfield 21, 3) := by decide +kernel
theorem dX0_mostPressing_16 : decode cX0_mostPressing 16 = .ok (.iload_n 3, 1) := by decide +kernel
theorem dX0_mostPressing_17 : decode cX0_mostPressing 17 = .ok (.iaload, 1) := by decide +kernel
theorem dX0_mostPressing_18 : decode cX0_mostPressing 18 = .ok (.ifCond .le 17, 3) := by decide +kernel
theorem dX0_mostPressing_21 : decode cX0_mostPressing 21 = .ok (.aload_n 0, 1) := by decide +kernel
theorem dX0_mostPressing_22 : decode cX0_mostPressing 22 = .ok (.getfield 9, 3) := by decide +kernel
theorem dX0_mostPressing_25 : decode cX0_mostPressing 25 = .ok (.iload_n 3, 1) := by decide +kernel
theorem dX0_mostPressing_26 : decode cX0_mostPressing 26 = .ok (.iaload, 1) := by decide +kernel
theorem dX0_mostPressing_27 : decode cX0_mostPressing 27 = .ok (.iload_n 1, 1) := by decide +kernel
theorem dX0_mostPressing_28 : decode cX0_mostPressing 28 = .ok (.if_icmp .gt 7, 3) := by decide +kernel
theorem dX0_mostPressing_31 : decode cX0_mostPressing 31 = .ok (.iconst 1, 1) := by decide +kernel
theorem dX0_mostPressing_32 : decode cX0_mostPressing 32 = .ok (.goto 4, 3) := by decide +kernel
theorem dX0_mostPressing_35 : decode cX0_mostPressing 35 = .ok (.iconst 0, 1) := by decide +kernel
theorem dX0_mostPressing_36 : decode cX0_mostPressing 36 = .ok (.istore 4, 2) := by decide +kernel
theorem dX0_mostPressing_38 : decode cX0_mostPressing 38 = .ok (.iload 4, 2) := by decide +kernel
theorem dX0_mostPressing_40 : decode cX0_mostPressing 40 = .ok (.ifCond .eq 25, 3) := by decide +kernel
theorem dX0_mostPressing_43 : decode cX0_mostPressing 43 = .ok (.iload_n 2, 1) := by decide +kernel
theorem dX0_mostPressing_44 : decode cX0_mostPressing 44 = .ok (.iconst (-1), 1) := by decide +kernel
theorem dX0_mostPressing_45 : decode cX0_mostPressing 45 = .ok (.if_icmp .eq 18, 3) := by decide +kernel
theorem dX0_mostPressing_48 : decode cX0_mostPressing 48 = .ok (.aload_n 0, 1) := by decide +kernel
theorem dX0_mostPressing_49 : decode cX0_mostPressing 49 = .ok (.getfield 15, 3) := by decide +kernel
theorem dX0_mostPressing_52 : decode cX0_mostPressing 52 = .ok (.iload_n 3, 1) := by decide +kernel
theorem dX0_mostPressing_53 : decode cX0_mostPressing 53 = .ok (.iaload, 1) := by decide +kernel
theorem dX0_mostPressing_54 : decode cX0_mostPressing 54 = .ok (.aload_n 0, 1) := by decide +kernel
theorem dX0_mostPressing_55 : decode cX0_mostPressing 55 = .ok (.getfield 15, 3) := by decide +kernel
theorem dX0_mostPressing_58 : decode cX0_mostPressing 58 = .ok (.iload_n 2, 1) := by decide +kernel
theorem dX0_mostPressing_59 : decode cX0_mostPressing 59 = .ok (.iaload, 1) := by decide +kernel
theorem dX0_mostPressing_60 : decode cX0_mostPressing 60 = .ok (.if_icmp .le 5, 3) := by decide +kernel
theorem dX0_mostPressing_63 : decode cX0_mostPressing 63 = .ok (.iload_n 3, 1) := by decide +kernel
theorem dX0_mostPressing_64 : decode cX0_mostPressing 64 = .ok (.istore_n 2, 1) := by decide +kernel
theorem dX0_mostPressing_65 : decode cX0_mostPressing 65 = .ok (.iinc 3 1, 3) := by decide +kernel
theorem dX0_mostPressing_68 : decode cX0_mostPressing 68 = .ok (.goto (-64), 3) := by decide +kernel
theorem dX0_mostPressing_71 : decode cX0_mostPressing 71 = .ok (.iload_n 2, 1) := by decide +kernel
theorem dX0_mostPressing_72 : decode cX0_mostPressing 72 = .ok (.ireturn, 1) := by decide +kernel
theorem dX0_nextFirst_0 : decode cX0_nextFirst 0 = .ok (.iconst (-1), 1) := by decide +kernel
theorem dX0_nextFirst_1 : decode cX0_nextFirst 1 = .ok (.istore_n 2, 1) := by decide +kernel
theorem dX0_nextFirst_2 : decode cX0_nextFirst 2 = .ok (.iconst 0, 1) := by decide +kernel
theorem dX0_nextFirst_3 : decode cX0_nextFirst 3 = .ok (.istore_n 3, 1) := by decide +kernel
theorem dX0_nextFirst_4 : decode cX0_nextFirst 4 = .ok (.iload_n 3, 1) := by decide +kernel
theorem dX0_nextFirst_5 : decode cX0_nextFirst 5 = .ok (.aload_n 0, 1) := by decide +kernel
theorem dX0_nextFirst_6 : decode cX0_nextFirst 6 = .ok (.getfield 29, 3) := by decide +kernel
theorem dX0_nextFirst_9 : decode cX0_nextFirst 9 = .ok (.if_icmp .ge 41, 3) := by decide +kernel
theorem dX0_nextFirst_12 : decode cX0_nextFirst 12 = .ok (.aload_n 0, 1) := by decide +kernel
theorem dX0_nextFirst_13 : decode cX0_nextFirst 13 = .ok (.getfield 9, 3) := by decide +kernel
theorem dX0_nextFirst_16 : decode cX0_nextFirst 16 = .ok (.iload_n 3, 1) := by decide +kernel
theorem dX0_nextFirst_17 : decode cX0_nextFirst 17 = .ok (.iaload, 1) := by decide +kernel
theorem dX0_nextFirst_18 : decode cX0_nextFirst 18 = .ok (.iload_n 1, 1) := by decide +kernel
theorem dX0_nextFirst_19 : decode cX0_nextFirst 19 = .ok (.if_icmp .le 25, 3) := by decide +kernel
theorem dX0_nextFirst_22 : decode cX0_nextFirst 22 = .ok (.iload_n 2, 1) := by decide +kernel
theorem dX0_nextFirst_23 : decode cX0_nextFirst 23 = .ok (.iconst (-1), 1) := by decide +kernel
theorem dX0_nextFirst_24 : decode cX0_nextFirst 24 = .ok (.if_icmp .eq 13, 3) := by decide +kernel
theorem dX0_nextFirst_27 : decode cX0_nextFirst 27 = .ok (.aload_n 0, 1) := by decide +kernel
theorem dX0_nextFirst_28 : decode cX0_nextFirst 28 = .ok (.getfield 9, 3) := by decide +kernel
theorem dX0_nextFirst_31 : decode cX0_nextFirst 31 = .ok (.iload_n 3, 1) := by decide +kernel
theorem dX0_nextFirst_32 : decode cX0_nextFirst 32 = .ok (.iaload, 1) := by decide +kernel
theorem dX0_nextFirst_33 : decode cX0_nextFirst 33 = .ok (.iload_n 2, 1) := by decide +kernel
theorem dX0_nextFirst_34 : decode cX0_nextFirst 34 = .ok (.if_icmp .ge 10, 3) := by decide +kernel
theorem dX0_nextFirst_37 : decode cX0_nextFirst 37 = .ok (.aload_n 0, 1) := by decide +kernel
theorem dX0_nextFirst_38 : decode cX0_nextFirst 38 = .ok (.getfield 9, 3) := by decide +kernel
theorem dX0_nextFirst_41 : decode cX0_nextFirst 41 = .ok (.iload_n 3, 1) := by decide +kernel
theorem dX0_nextFirst_42 : decode cX0_nextFirst 42 = .ok (.iaload, 1) := by decide +kernel
theorem dX0_nextFirst_43 : decode cX0_nextFirst 43 = .ok (.istore_n 2, 1) := by decide +kernel
theorem dX0_nextFirst_44 : decode cX0_nextFirst 44 = .ok (.iinc 3 1, 3) := by decide +kernel
theorem dX0_nextFirst_47 : decode cX0_nextFirst 47 = .ok (.goto (-43), 3) := by decide +kernel
theorem dX0_nextFirst_50 : decode cX0_nextFirst 50 = .ok (.iload_n 2, 1) := by decide +kernel
theorem dX0_nextFirst_51 : decode cX0_nextFirst 51 = .ok (.ireturn, 1) := by decide +kernel
theorem dX0_wholeBound_0 : decode cX0_wholeBound 0 = .ok (.aload_n 0, 1) := by decide +kernel
theorem dX0_wholeBound_1 : decode cX0_wholeBound 1 = .ok (.getfield 29, 3) := by decide +kernel
theorem dX0_wholeBound_4 : decode cX0_wholeBound 4 = .ok (.ifCond .eq 12, 3) := by decide +kernel
theorem dX0_wholeBound_7 : decode cX0_wholeBound 7 = .ok (.aload_n 0, 1) := by decide +kernel
theorem dX0_wholeBound_8 : decode cX0_wholeBound 8 = .ok (.getfield 29, 3) := by decide +kernel
theorem dX0_wholeBound_11 : decode cX0_wholeBound 11 = .ok (.bipush 8, 2) := by decide +kernel
theorem dX0_wholeBound_13 : decode cX0_wholeBound 13 = .ok (.if_icmp .le 7, 3) := by decide +kernel
theorem dX0_wholeBound_16 : decode cX0_wholeBound 16 = .ok (.iconst 0, 1) := by decide +kernel
theorem dX0_wholeBound_17 : decode cX0_wholeBound 17 = .ok (.goto 14, 3) := by decide +kernel
theorem dX0_wholeBound_20 : decode cX0_wholeBound 20 = .ok (.aload_n 0, 1) := by decide +kernel
theorem dX0_wholeBound_21 : decode cX0_wholeBound 21 = .ok (.iconst 0, 1) := by decide +kernel
theorem dX0_wholeBound_22 : decode cX0_wholeBound 22 = .ok (.iconst 0, 1) := by decide +kernel
theorem dX0_wholeBound_23 : decode cX0_wholeBound 23 = .ok (.iconst 0, 1) := by decide +kernel
theorem dX0_wholeBound_24 : decode cX0_wholeBound 24 = .ok (.ldc 66, 2) := by decide +kernel
theorem dX0_wholeBound_26 : decode cX0_wholeBound 26 = .ok (.iload_n 1, 1) := by decide +kernel
theorem dX0_wholeBound_27 : decode cX0_wholeBound 27 = .ok (.iconst 0, 1) := by decide +kernel
theorem dX0_wholeBound_28 : decode cX0_wholeBound 28 = .ok (.invokevirtual 67, 3) := by decide +kernel
theorem dX0_wholeBound_31 : decode cX0_wholeBound 31 = .ok (.ireturn, 1) := by decide +kernel
theorem dX0_tryRest_0 : decode cX0_tryRest 0 = .ok (.iload_n 3, 1) := by decide +kernel
theorem dX0_tryRest_1 : decode cX0_tryRest 1 = .ok (.iload 4, 2) := by decide +kernel
theorem dX0_tryRest_3 : decode cX0_tryRest 3 = .ok (.if_icmp .lt 6, 3) := by decide +kernel
theorem dX0_tryRest_6 : decode cX0_tryRest 6 = .ok (.iload 4, 2) := by decide +kernel
theorem dX0_tryRest_8 : decode cX0_tryRest 8 = .ok (.ireturn, 1) := by decide +kernel
theorem dX0_tryRest_9 : decode cX0_tryRest 9 = .ok (.iload 6, 2) := by decide +kernel
theorem dX0_tryRest_11 : decode cX0_tryRest 11 = .ok (.aload_n 0, 1) := by decide +kernel
theorem dX0_tryRest_12 : decode cX0_tryRest 12 = .ok (.getfield 29, 3) := by decide +kernel
theorem dX0_tryRest_15 : decode cX0_tryRest 15 = .ok (.if_icmp .lt 5, 3) := by decide +kernel
theorem dX0_tryRest_18 : decode cX0_tryRest 18 = .ok (.iload_n 3, 1) := by decide +kernel
theorem dX0_tryRest_19 : decode cX0_tryRest 19 = .ok (.ireturn, 1) := by decide +kernel
theorem dX0_tryRest_20 : decode cX0_tryRest 20 = .ok (.iload 4, 2) := by decide +kernel
theorem dX0_tryRest_22 : decode cX0_tryRest 22 = .ok (.istore 7, 2) := by decide +kernel
theorem dX0_tryRest_24 : decode cX0_tryRest 24 = .ok (.iconst 0, 1) := by decide +kernel
theorem dX0_tryRest_25 : decode cX0_tryRest 25 = .ok (.istore 8, 2) := by decide +kernel
theorem dX0_tryRest_27 : decode cX0_tryRest 27 = .ok (.iload 8, 2) := by decide +kernel
theorem dX0_tryRest_29 : decode cX0_tryRest 29 = .ok (.aload_n 0, 1) := by decide +kernel
theorem dX0_tryRest_30 : decode cX0_tryRest 30 = .ok (.getfield 29, 3) := by decide +kernel
theorem dX0_tryRest_33 : decode cX0_tryRest 33 = .ok (.if_icmp .ge 86, 3) := by decide +kernel
theorem dX0_tryRest_36 : decode cX0_tryRest 36 = .ok (.iload 7, 2) := by decide +kernel
theorem dX0_tryRest_38 : decode cX0_tryRest 38 = .ok (.iload 5, 2) := by decide +kernel
theorem dX0_tryRest_40 : decode cX0_tryRest 40 = .ok (.if_icmp .le 79, 3) := by decide +kernel
theorem dX0_tryRest_43 : decode cX0_tryRest 43 = .ok (.iload_n 1, 1) := by decide +kernel
theorem dX0_tryRest_44 : decode cX0_tryRest 44 = .ok (.iload 8, 2) := by decide +kernel
theorem dX0_tryRest_46 : decode cX0_tryRest 46 = .ok (.iushr, 1) := by decide +kernel
theorem dX0_tryRest_47 : decode cX0_tryRest 47 = .ok (.iconst 1, 1) := by decide +kernel
theorem dX0_tryRest_48 : decode cX0_tryRest 48 = .ok (.iand, 1) := by decide +kernel
theorem dX0_tryRest_49 : decode cX0_tryRest 49 = .ok (.ifCond .ne 64, 3) := by decide +kernel
theorem dX0_tryRest_52 : decode cX0_tryRest 52 = .ok (.iload_n 2, 1) := by decide +kernel
theorem dX0_tryRest_53 : decode cX0_tryRest 53 = .ok (.aload_n 0, 1) := by decide +kernel
theorem dX0_tryRest_54 : decode cX0_tryRest 54 = .ok (.getfield 9, 3) := by decide +kernel
theorem dX0_tryRest_57 : decode cX0_tryRest 57 = .ok (.iload 8, 2) := by decide +kernel
theorem dX0_tryRest_59 : decode cX0_tryRest 59 = .ok (.iaload, 1) := by decide +kernel
theorem dX0_tryRest_60 : decode cX0_tryRest 60 = .ok (.invokestatic 63, 3) := by decide +kernel
theorem dX0_tryRest_63 : decode cX0_tryRest 63 = .ok (.aload_n 0, 1) := by decide +kernel
theorem dX0_tryRest_64 : decode cX0_tryRest 64 = .ok (.getfield 18, 3) := by decide +kernel
theorem dX0_tryRest_67 : decode cX0_tryRest 67 = .ok (.iload 8, 2) := by decide +kernel
theorem dX0_tryRest_69 : decode cX0_tryRest 69 = .ok (.iaload, 1) := by decide +kernel
theorem dX0_tryRest_70 : decode cX0_tryRest 70 = .ok (.iadd, 1) := by decide +kernel
theorem dX0_tryRest_71 : decode cX0_tryRest 71 = .ok (.istore 9, 2) := by decide +kernel
theorem dX0_tryRest_73 : decode cX0_tryRest 73 = .ok (.iload_n 3, 1) := by decide +kernel
theorem dX0_tryRest_74 : decode cX0_tryRest 74 = .ok (.iload 9, 2) := by decide +kernel
theorem dX0_tryRest_76 : decode cX0_tryRest 76 = .ok (.aload_n 0, 1) := by decide +kernel
theorem dX0_tryRest_77 : decode cX0_tryRest 77 = .ok (.getfield 15, 3) := by decide +kernel
theorem dX0_tryRest_80 : decode cX0_tryRest 80 = .ok (.iload 8, 2) := by decide +kernel
theorem dX0_tryRest_82 : decode cX0_tryRest 82 = .ok (.iaload, 1) := by decide +kernel
theorem dX0_tryRest_83 : decode cX0_tryRest 83 = .ok (.iadd, 1) := by decide +kernel
theorem dX0_tryRest_84 : decode cX0_tryRest 84 = .ok (.invokestatic 63, 3) := by decide +kernel
theorem dX0_tryRest_87 : decode cX0_tryRest 87 = .ok (.istore 10, 2) := by decide +kernel
theorem dX0_tryRest_89 : decode cX0_tryRest 89 = .ok (.aload_n 0, 1) := by decide +kernel
theorem dX0_tryRest_90 : decode cX0_tryRest 90 = .ok (.iload_n 1, 1) := by decide +kernel
theorem dX0_tryRest_91 : decode cX0_tryRest 91 = .ok (.iconst 1, 1) := by decide +kernel
theorem dX0_tryRest_92 : decode cX0_tryRest 92 = .ok (.iload 8, 2) := by decide +kernel
theorem dX0_tryRest_94 : decode cX0_tryRest 94 = .ok (.ishl, 1) := by decide +kernel
theorem dX0_tryRest_95 : decode cX0_tryRest 95 = .ok (.ior, 1) := by decide +kernel
theorem dX0_tryRest_96 : decode cX0_tryRest 96 = .ok (.iload 9, 2) := by decide +kernel
theorem dX0_tryRest_98 : decode cX0_tryRest 98 = .ok (.iload 10, 2) := by decide +kernel
theorem dX0_tryRest_100 : decode cX0_tryRest 100 = .ok (.iload 7, 2) := by decide +kernel
theorem dX0_tryRest_102 : decode cX0_tryRest 102 = .ok (.iload 5, 2) := by decide +kernel
theorem dX0_tryRest_104 : decode cX0_tryRest 104 = .ok (.iload 6, 2) := by decide +kernel
theorem dX0_tryRest_106 : decode cX0_tryRest 106 = .ok (.iconst 1, 1) := by decide +kernel
theorem dX0_tryRest_107 : decode cX0_tryRest 107 = .ok (.iadd, 1) := by decide +kernel
theorem dX0_tryRest_108 : decode cX0_tryRest 108 = .ok (.invokevirtual 67, 3) := by decide +kernel
theorem dX0_tryRest_111 : decode cX0_tryRest 111 = .ok (.istore 7, 2) := by decide +kernel
theorem dX0_tryRest_113 : decode cX0_tryRest 113 = .ok (.iinc 8 1, 3) := by decide +kernel
theorem dX0_tryRest_116 : decode cX0_tryRest 116 = .ok (.goto (-89), 3) := by decide +kernel
theorem dX0_tryRest_119 : decode cX0_tryRest 119 = .ok (.iload 7, 2) := by decide +kernel
theorem dX0_tryRest_121 : decode cX0_tryRest 121 = .ok (.ireturn, 1) := by decide +kernel
theorem dX1_init_0 : decode cX1_init 0 = .ok (.aload_n 0, 1) := by decide +kernel
theorem dX1_init_1 : decode cX1_init 1 = .ok (.invokespecial 3, 3) := by decide +kernel
theorem dX1_init_4 : decode cX1_init 4 = .ok (.aload_n 0, 1) := by decide +kernel
theorem dX1_init_5 : decode cX1_init 5 = .ok (.bipush 32, 2) := by decide +kernel
theorem dX1_init_7 : decode cX1_init 7 = .ok (.newarray .int, 2) := by decide +kernel
theorem dX1_init_9 : decode cX1_init 9 = .ok (.putfield 9, 3) := by decide +kernel
theorem dX1_init_12 : decode cX1_init 12 = .ok (.aload_n 0, 1) := by decide +kernel
theorem dX1_init_13 : decode cX1_init 13 = .ok (.bipush 32, 2) := by decide +kernel
theorem dX1_init_15 : decode cX1_init 15 = .ok (.newarray .int, 2) := by decide +kernel
theorem dX1_init_17 : decode cX1_init 17 = .ok (.putfield 15, 3) := by decide +kernel
theorem dX1_init_20 : decode cX1_init 20 = .ok (.aload_n 0, 1) := by decide +kernel
theorem dX1_init_21 : decode cX1_init 21 = .ok (.bipush 32, 2) := by decide +kernel
theorem dX1_init_23 : decode cX1_init 23 = .ok (.newarray .int, 2) := by decide +kernel
theorem dX1_init_25 : decode cX1_init 25 = .ok (.putfield 18, 3) := by decide +kernel
theorem dX1_init_28 : decode cX1_init 28 = .ok (.aload_n 0, 1) := by decide +kernel
theorem dX1_init_29 : decode cX1_init 29 = .ok (.bipush 8, 2) := by decide +kernel
theorem dX1_init_31 : decode cX1_init 31 = .ok (.newarray .int, 2) := by decide +kernel
theorem dX1_init_33 : decode cX1_init 33 = .ok (.putfield 21, 3) := by decide +kernel
theorem dX1_init_36 : decode cX1_init 36 = .ok (.aload_n 0, 1) := by decide +kernel
theorem dX1_init_37 : decode cX1_init 37 = .ok (.bipush 32, 2) := by decide +kernel
theorem dX1_init_39 : decode cX1_init 39 = .ok (.newarray .int, 2) := by decide +kernel
theorem dX1_init_41 : decode cX1_init 41 = .ok (.putfield 24, 3) := by decide +kernel
theorem dX1_init_44 : decode cX1_init 44 = .ok (.aload_n 0, 1) := by decide +kernel
theorem dX1_init_45 : decode cX1_init 45 = .ok (.bipush 32, 2) := by decide +kernel
theorem dX1_init_47 : decode cX1_init 47 = .ok (.newarray .int, 2) := by decide +kernel
theorem dX1_init_49 : decode cX1_init 49 = .ok (.putfield 27, 3) := by decide +kernel
theorem dX1_init_52 : decode cX1_init 52 = .ok (.aload_n 0, 1) := by decide +kernel
theorem dX1_init_53 : decode cX1_init 53 = .ok (.bipush 12, 2) := by decide +kernel
theorem dX1_init_55 : decode cX1_init 55 = .ok (.newarray .int, 2) := by decide +kernel
theorem dX1_init_57 : decode cX1_init 57 = .ok (.putfield 30, 3) := by decide +kernel
theorem dX1_init_60 : decode cX1_init 60 = .ok (.aload_n 0, 1) := by decide +kernel
theorem dX1_init_61 : decode cX1_init 61 = .ok (.bipush 8, 2) := by decide +kernel
theorem dX1_init_63 : decode cX1_init 63 = .ok (.newarray .int, 2) := by decide +kernel
theorem dX1_init_65 : decode cX1_init 65 = .ok (.putfield 33, 3) := by decide +kernel
theorem dX1_init_68 : decode cX1_init 68 = .ok (.aload_n 0, 1) := by decide +kernel
theorem dX1_init_69 : decode cX1_init 69 = .ok (.iconst 4, 1) := by decide +kernel
theorem dX1_init_70 : decode cX1_init 70 = .ok (.newarray .int, 2) := by decide +kernel
theorem dX1_init_72 : decode cX1_init 72 = .ok (.putfield 36, 3) := by decide +kernel
theorem dX1_init_75 : decode cX1_init 75 = .ok (.aload_n 0, 1) := by decide +kernel
theorem dX1_init_76 : decode cX1_init 76 = .ok (.getfield 18, 3) := by decide +kernel
theorem dX1_init_79 : decode cX1_init 79 = .ok (.iconst (-1), 1) := by decide +kernel
theorem dX1_init_80 : decode cX1_init 80 = .ok (.invokestatic 39, 3) := by decide +kernel
theorem dX1_init_83 : decode cX1_init 83 = .ok (.return_, 1) := by decide +kernel
theorem dX1_clear_0 : decode cX1_clear 0 = .ok (.aload_n 0, 1) := by decide +kernel
theorem dX1_clear_1 : decode cX1_clear 1 = .ok (.iconst 0, 1) := by decide +kernel
theorem dX1_clear_2 : decode cX1_clear 2 = .ok (.putfield 45, 3) := by decide +kernel
theorem dX1_clear_5 : decode cX1_clear 5 = .ok (.aload_n 0, 1) := by decide +kernel
theorem dX1_clear_6 : decode cX1_clear 6 = .ok (.iconst 0, 1) := by decide +kernel
theorem dX1_clear_7 : decode cX1_clear 7 = .ok (.putfield 49, 3) := by decide +kernel
theorem dX1_clear_10 : decode cX1_clear 10 = .ok (.aload_n 0, 1) := by decide +kernel
theorem dX1_clear_11 : decode cX1_clear 11 = .ok (.getfield 27, 3) := by decide +kernel
theorem dX1_clear_14 : decode cX1_clear 14 = .ok (.iconst (-1), 1) := by decide +kernel
theorem dX1_clear_15 : decode cX1_clear 15 = .ok (.invokestatic 39, 3) := by decide +kernel
theorem dX1_clear_18 : decode cX1_clear 18 = .ok (.aload_n 0, 1) := by decide +kernel
theorem dX1_clear_19 : decode cX1_clear 19 = .ok (.getfield 30, 3) := by decide +kernel
theorem dX1_clear_22 : decode cX1_clear 22 = .ok (.iconst 0, 1) := by decide +kernel
theorem dX1_clear_23 : decode cX1_clear 23 = .ok (.invokestatic 39, 3) := by decide +kernel
theorem dX1_clear_26 : decode cX1_clear 26 = .ok (.aload_n 0, 1) := by decide +kernel
theorem dX1_clear_27 : decode cX1_clear 27 = .ok (.getfield 33, 3) := by decide +kernel
theorem dX1_clear_30 : decode cX1_clear 30 = .ok (.iconst 0, 1) := by decide +kernel
theorem dX1_clear_31 : decode cX1_clear 31 = .ok (.invokestatic 39, 3) := by decide +kernel
theorem dX1_clear_34 : decode cX1_clear 34 = .ok (.return_, 1) := by decide +kernel
theorem dX1_work_0 : decode cX1_work 0 = .ok (.aload_n 0, 1) := by decide +kernel
theorem dX1_work_1 : decode cX1_work 1 = .ok (.invokevirtual 52, 3) := by decide +kernel
theorem dX1_work_4 : decode cX1_work 4 = .ok (.iconst 1, 1) := by decide +kernel
theorem dX1_work_5 : decode cX1_work 5 = .ok (.istore_n 3, 1) := by decide +kernel
theorem dX1_work_6 : decode cX1_work 6 = .ok (.iconst 0, 1) := by decide +kernel
theorem dX1_work_7 : decode cX1_work 7 = .ok (.istore 4, 2) := by decide +kernel
theorem dX1_work_9 : decode cX1_work 9 = .ok (.iload 4, 2) := by decide +kernel
theorem dX1_work_11 : decode cX1_work 11 = .ok (.aload_n 1, 1) := by decide +kernel
theorem dX1_work_12 : decode cX1_work 12 = .ok (.getfield 55, 3) := by decide +kernel
theorem dX1_work_15 : decode cX1_work 15 = .ok (.if_icmp .ge 77, 3) := by decide +kernel
theorem dX1_work_18 : decode cX1_work 18 = .ok (.iload_n 3, 1) := by decide +kernel
theorem dX1_work_19 : decode cX1_work 19 = .ok (.ifCond .eq 73, 3) := by decide +kernel
theorem dX1_work_22 : decode cX1_work 22 = .ok (.iconst 0, 1) := by decide +kernel
theorem dX1_work_23 : decode cX1_work 23 = .ok (.istore_n 3, 1) := by decide +kernel
theorem dX1_work_24 : decode cX1_work 24 = .ok (.iconst 0, 1) := by decide +kernel
theorem dX1_work_25 : decode cX1_work 25 = .ok (.istore 5, 2) := by decide +kernel
theorem dX1_work_27 : decode cX1_work 27 = .ok (.iload 5, 2) := by decide +kernel
theorem dX1_work_29 : decode cX1_work 29 = .ok (.aload_n 1, 1) := by decide +kernel
theorem dX1_work_30 : decode cX1_work 30 = .ok (.getfield 60, 3) := by decide +kernel
theorem dX1_work_33 : decode cX1_work 33 = .ok (.if_icmp .ge 53, 3) := by decide +kernel
theorem dX1_work_36 : decode cX1_work 36 = .ok (.aload_n 0, 1) := by decide +kernel
theorem dX1_work_37 : decode cX1_work 37 = .ok (.aload_n 1, 1) := by decide +kernel
theorem dX1_work_38 : decode cX1_work 38 = .ok (.iload 5, 2) := by decide +kernel
theorem dX1_work_40 : decode cX1_work 40 = .ok (.invokevirtual 63, 3) := by decide +kernel
theorem dX1_work_43 : decode cX1_work 43 = .ok (.istore 6, 2) := by decide +kernel
theorem dX1_work_45 : decode cX1_work 45 = .ok (.iload 6, 2) := by decide +kernel
theorem dX1_work_47 : decode cX1_work 47 = .ok (.iconst (-1), 1) := by decide +kernel
theorem dX1_work_48 : decode cX1_work 48 = .ok (.if_icmp .eq 32, 3) := by decide +kernel
theorem dX1_work_51 : decode cX1_work 51 = .ok (.aload_n 0, 1) := by decide +kernel
theorem dX1_work_52 : decode cX1_work 52 = .ok (.aload_n 1, 1) := by decide +kernel
theorem dX1_work_53 : decode cX1_work 53 = .ok (.aload_n 2, 1) := by decide +kernel
theorem dX1_work_54 : decode cX1_work 54 = .ok (.iload 6, 2) := by decide +kernel
theorem dX1_work_56 : decode cX1_work 56 = .ok (.invokevirtual 67, 3) := by decide +kernel
theorem dX1_work_59 : decode cX1_work 59 = .ok (.ifCond .eq 21, 3) := by decide +kernel
theorem dX1_work_62 : decode cX1_work 62 = .ok (.aload_n 0, 1) := by decide +kernel
theorem dX1_work_63 : decode cX1_work 63 = .ok (.aload_n 1, 1) := by decide +kernel
theorem dX1_work_64 : decode cX1_work 64 = .ok (.aload_n 2, 1) := by decide +kernel
theorem dX1_work_65 : decode cX1_work 65 = .ok (.iload 6, 2) := by decide +kernel
theorem dX1_work_67 : decode cX1_work 67 = .ok (.aload_n 0, 1) := by decide +kernel
theorem dX1_work_68 : decode cX1_work 68 = .ok (.aload_n 1, 1) := by decide +kernel
theorem dX1_work_69 : decode cX1_work 69 = .ok (.aload_n 2, 1) := by decide +kernel
theorem dX1_work_70 : decode cX1_work 70 = .ok (.iload 6, 2) := by decide +kernel
theorem dX1_work_72 : decode cX1_work 72 = .ok (.invokevirtual 71, 3) := by decide +kernel
theorem dX1_work_75 : decode cX1_work 75 = .ok (.invokevirtual 75, 3) := by decide +kernel
theorem dX1_work_78 : decode cX1_work 78 = .ok (.iconst 1, 1) := by decide +kernel
theorem dX1_work_79 : decode cX1_work 79 = .ok (.istore_n 3, 1) := by decide +kernel
theorem dX1_work_80 : decode cX1_work 80 = .ok (.iinc 5 1, 3) := by decide +kernel
theorem dX1_work_83 : decode cX1_work 83 = .ok (.goto (-56), 3) := by decide +kernel
theorem dX1_work_86 : decode cX1_work 86 = .ok (.iinc 4 1, 3) := by decide +kernel
theorem dX1_work_89 : decode cX1_work 89 = .ok (.goto (-80), 3) := by decide +kernel
theorem dX1_work_92 : decode cX1_work 92 = .ok (.aload_n 0, 1) := by decide +kernel
theorem dX1_work_93 : decode cX1_work 93 = .ok (.getfield 45, 3) := by decide +kernel
theorem dX1_work_96 : decode cX1_work 96 = .ok (.aload_n 1, 1) := by decide +kernel
theorem dX1_work_97 : decode cX1_work 97 = .ok (.getfield 55, 3) := by decide +kernel
theorem dX1_work_100 : decode cX1_work 100 = .ok (.if_icmp .ne 7, 3) := by decide +kernel
theorem dX1_work_103 : decode cX1_work 103 = .ok (.iconst 1, 1) := by decide +kernel
theorem dX1_work_104 : decode cX1_work 104 = .ok (.goto 4, 3) := by decide +kernel
theorem dX1_work_107 : decode cX1_work 107 = .ok (.iconst 0, 1) := by decide +kernel
theorem dX1_work_108 : decode cX1_work 108 = .ok (.ireturn, 1) := by decide +kernel
theorem dX1_nextOfPiece_0 : decode cX1_nextOfPiece 0 = .ok (.aload_n 0, 1) := by decide +kernel
theorem dX1_nextOfPiece_1 : decode cX1_nextOfPiece 1 = .ok (.getfield 30, 3) := by decide +kernel
theorem dX1_nextOfPiece_4 : decode cX1_nextOfPiece 4 = .ok (.iload_n 2, 1) := by decide +kernel
theorem dX1_nextOfPiece_5 : decode cX1_nextOfPiece 5 = .ok (.iaload, 1) := by decide +kernel
theorem dX1_nextOfPiece_6 : decode cX1_nextOfPiece 6 = .ok (.istore_n 3, 1) := by decide +kernel
theorem dX1_nextOfPiece_7 : decode cX1_nextOfPiece 7 = .ok (.iload_n 3, 1) := by decide +kernel
theorem dX1_nextOfPiece_8 : decode cX1_nextOfPiece 8 = .ok (.aload_n 1, 1) := by decide +kernel
theorem dX1_nextOfPiece_9 : decode cX1_nextOfPiece 9 = .ok (.getfield 79, 3) := by decide +kernel
theorem dX1_nextOfPiece_12 : decode cX1_nextOfPiece 12 = .ok (.iload_n 2, 1) := by decide +kernel
theorem dX1_nextOfPiece_13 : decode cX1_nextOfPiece 13 = .ok (.iaload, 1) := by decide +kernel
theorem dX1_nextOfPiece_14 : decode cX1_nextOfPiece 14 = .ok (.if_icmp .ge 14, 3) := by decide +kernel
theorem dX1_nextOfPiece_17 : decode cX1_nextOfPiece 17 = .ok (.aload_n 1, 1) := by decide +kernel
theorem dX1_nextOfPiece_18 : decode cX1_nextOfPiece 18 = .ok (.getfield 82, 3) := by decide +kernel
theorem dX1_nextOfPiece_21 : decode cX1_nextOfPiece 21 = .ok (.iload_n 2, 1) := by decide +kernel
theorem dX1_nextOfPiece_22 : decode cX1_nextOfPiece 22 = .ok (.aaload, 1) := by decide +kernel
theorem dX1_nextOfPiece_23 : decode cX1_nextOfPiece 23 = .ok (.iload_n 3, 1) := by decide +kernel
theorem dX1_nextOfPiece_24 : decode cX1_nextOfPiece 24 = .ok (.iaload, 1) := by decide +kernel
theorem dX1_nextOfPiece_25 : decode cX1_nextOfPiece 25 = .ok (.goto 4, 3) := by decide +kernel
theorem dX1_nextOfPiece_28 : decode cX1_nextOfPiece 28 = .ok (.iconst (-1), 1) := by decide +kernel
theorem dX1_nextOfPiece_29 : decode cX1_nextOfPiece 29 = .ok (.ireturn, 1) := by decide +kernel
theorem dX1_isNextOnMachine_0 : decode cX1_isNextOnMachine 0 = .ok (.aload_n 1, 1) := by decide +kernel
theorem dX1_isNextOnMachine_1 : decode cX1_isNextOnMachine 1 = .ok (.getfield 86, 3) := by decide +kernel
theorem dX1_isNextOnMachine_4 : decode cX1_isNextOnMachine 4 = .ok (.iload_n 3, 1) := by decide +kernel
theorem dX1_isNextOnMachine_5 : decode cX1_isNextOnMachine 5 = .ok (.iaload, 1) := by decide +kernel
theorem dX1_isNextOnMachine_6 : decode cX1_isNextOnMachine 6 = .ok (.istore 4, 2) := by decide +kernel
theorem dX1_isNextOnMachine_8 : decode cX1_isNextOnMachine 8 = .ok (.aload_n 0, 1) := by decide +kernel
theorem dX1_isNextOnMachine_9 : decode cX1_isNextOnMachine 9 = .ok (.getfield 33, 3) := by decide +kernel
theorem dX1_isNextOnMachine_12 : decode cX1_isNextOnMachine 12 = .ok (.iload 4, 2) := by decide +kernel
theorem dX1_isNextOnMachine_14 : decode cX1_isNextOnMachine 14 = .ok (.iaload, 1) := by decide +kernel
theorem dX1_isNextOnMachine_15 : decode cX1_isNextOnMachine 15 = .ok (.istore 5, 2) := by decide +kernel
theorem dX1_isNextOnMachine_17 : decode cX1_isNextOnMachine 17 = .ok (.aload_n 1, 1) := by decide +kernel
theorem dX1_isNextOnMachine_18 : decode cX1_isNextOnMachine 18 = .ok (.getfield 89, 3) := by decide +kernel
theorem dX1_isNextOnMachine_21 : decode cX1_isNextOnMachine 21 = .ok (.iload 4, 2) := by decide +kernel
theorem dX1_isNextOnMachine_23 : decode cX1_isNextOnMachine 23 = .ok (.iaload, 1) := by decide +kernel
theorem dX1_isNextOnMachine_24 : decode cX1_isNextOnMachine 24 = .ok (.iconst 1, 1) := by decide +kernel
theorem dX1_isNextOnMachine_25 : decode cX1_isNextOnMachine 25 = .ok (.if_icmp .eq 29, 3) := by decide +kernel
theorem dX1_isNextOnMachine_28 : decode cX1_isNextOnMachine 28 = .ok (.iload 5, 2) := by decide +kernel
theorem dX1_isNextOnMachine_30 : decode cX1_isNextOnMachine 30 = .ok (.aload_n 2, 1) := by decide +kernel
theorem dX1_isNextOnMachine_31 : decode cX1_isNextOnMachine 31 = .ok (.getfield 92, 3) := by decide +kernel
theorem dX1_isNextOnMachine_34 : decode cX1_isNextOnMachine 34 = .ok (.iload 4, 2) := by decide +kernel
theorem dX1_isNextOnMachine_36 : decode cX1_isNextOnMachine 36 = .ok (.iaload, 1) := by decide +kernel
theorem dX1_isNextOnMachine_37 : decode cX1_isNextOnMachine 37 = .ok (.if_icmp .ge 21, 3) := by decide +kernel
theorem dX1_isNextOnMachine_40 : decode cX1_isNextOnMachine 40 = .ok (.aload_n 2, 1) := by decide +kernel
theorem dX1_isNextOnMachine_41 : decode cX1_isNextOnMachine 41 = .ok (.getfield 97, 3) := by decide +kernel
theorem dX1_isNextOnMachine_44 : decode cX1_isNextOnMachine 44 = .ok (.iload 4, 2) := by decide +kernel
theorem dX1_isNextOnMachine_46 : decode cX1_isNextOnMachine 46 = .ok (.aaload, 1) := by decide +kernel
theorem dX1_isNextOnMachine_47 : decode cX1_isNextOnMachine 47 = .ok (.iload 5, 2) := by decide +kernel
theorem dX1_isNextOnMachine_49 : decode cX1_isNextOnMachine 49 = .ok (.iaload, 1) := by decide +kernel
theorem dX1_isNextOnMachine_50 : decode cX1_isNextOnMachine 50 = .ok (.iload_n 3, 1) := by decide +kernel
theorem dX1_isNextOnMachine_51 : decode cX1_isNextOnMachine 51 = .ok (.if_icmp .ne 7, 3) := by decide +kernel
theorem dX1_isNextOnMachine_54 : decode cX1_isNextOnMachine 54 = .ok (.iconst 1, 1) := by decide +kernel
theorem dX1_isNextOnMachine_55 : decode cX1_isNextOnMachine 55 = .ok (.goto 4, 3) := by decide +kernel
theorem dX1_isNextOnMachine_58 : decode cX1_isNextOnMachine 58 = .ok (.iconst 0, 1) := by decide +kernel
theorem dX1_isNextOnMachine_59 : decode cX1_isNextOnMachine 59 = .ok (.ireturn, 1) := by decide +kernel
theorem dX1_earliest_0 : decode cX1_earliest 0 = .ok (.aload_n 0, 1) := by decide +kernel
theorem dX1_earliest_1 : decode cX1_earliest 1 = .ok (.getfield 18, 3) := by decide +kernel
theorem dX1_earliest_4 : decode cX1_earliest 4 = .ok (.iload_n 3, 1) := by decide +kernel
theorem dX1_earliest_5 : decode cX1_earliest 5 = .ok (.iaload, 1) := by decide +kernel
theorem dX1_earliest_6 : decode cX1_earliest 6 = .ok (.iconst (-1), 1) := by decide +kernel
theorem dX1_earliest_7 : decode cX1_earliest 7 = .ok (.if_icmp .eq 10, 3) := by decide +kernel
theorem dX1_earliest_10 : decode cX1_earliest 10 = .ok (.aload_n 0, 1) := by decide +kernel
theorem dX1_earliest_11 : decode cX1_earliest 11 = .ok (.getfield 18, 3) := by decide +kernel
theorem dX1_earliest_14 : decode cX1_earliest 14 = .ok (.iload_n 3, 1) := by decide +kernel
theorem dX1_earliest_15 : decode cX1_earliest 15 = .ok (.iaload, 1) := by decide +kernel
theorem dX1_earliest_16 : decode cX1_earliest 16 = .ok (.ireturn, 1) := by decide +kernel
theorem dX1_earliest_17 : decode cX1_earliest 17 = .ok (.aload_n 1, 1) := by decide +kernel
theorem dX1_earliest_18 : decode cX1_earliest 18 = .ok (.getfield 86, 3) := by decide +kernel
theorem dX1_earliest_21 : decode cX1_earliest 21 = .ok (.iload_n 3, 1) := by decide +kernel
theorem dX1_earliest_22 : decode cX1_earliest 22 = .ok (.iaload, 1) := by decide +kernel
theorem dX1_earliest_23 : decode cX1_earliest 23 = .ok (.istore 4, 2) := by decide +kernel
theorem dX1_earliest_25 : decode cX1_earliest 25 = .ok (.aload_n 0, 1) := by decide +kernel
theorem dX1_earliest_26 : decode cX1_earliest 26 = .ok (.getfield 33, 3) := by decide +kernel
theorem dX1_earliest_29 : decode cX1_earliest 29 = .ok (.iload 4, 2) := by decide +kernel
theorem dX1_earliest_31 : decode cX1_earliest 31 = .ok (.iaload, 1) := by decide +kernel
theorem dX1_earliest_32 : decode cX1_earliest 32 = .ok (.istore 5, 2) := by decide +kernel
theorem dX1_earliest_34 : decode cX1_earliest 34 = .ok (.aload_n 0, 1) := by decide +kernel
theorem dX1_earliest_35 : decode cX1_earliest 35 = .ok (.getfield 21, 3) := by decide +kernel
theorem dX1_earliest_38 : decode cX1_earliest 38 = .ok (.iload 4, 2) := by decide +kernel
theorem dX1_earliest_40 : decode cX1_earliest 40 = .ok (.iaload, 1) := by decide +kernel
theorem dX1_earliest_41 : decode cX1_earliest 41 = .ok (.aload_n 0, 1) := by decide +kernel
theorem dX1_earliest_42 : decode cX1_earliest 42 = .ok (.aload_n 1, 1) := by decide +kernel
theorem dX1_earliest_43 : decode cX1_earliest 43 = .ok (.iload_n 3, 1) := by decide +kernel
theorem dX1_earliest_44 : decode cX1_earliest 44 = .ok (.invokevirtual 100, 3) := by decide +kernel
theorem dX1_earliest_47 : decode cX1_earliest 47 = .ok (.invokestatic 103, 3) := by decide +kernel
theorem dX1_earliest_50 : decode cX1_earliest 50 = .ok (.istore 6, 2) := by decide +kernel
theorem dX1_earliest_52 : decode cX1_earliest 52 = .ok (.aload_n 1, 1) := by decide +kernel
theorem dX1_earliest_53 : decode cX1_earliest 53 = .ok (.getfield 89, 3) := by decide +kernel
theorem dX1_earliest_56 : decode cX1_earliest 56 = .ok (.iload 4, 2) := by decide +kernel
theorem dX1_earliest_58 : decode cX1_earliest 58 = .ok (.iaload, 1) := by decide +kernel
theorem dX1_earliest_59 : decode cX1_earliest 59 = .ok (.iconst 1, 1) := by decide +kernel
theorem dX1_earliest_60 : decode cX1_earliest 60 = .ok (.if_icmp .eq 8, 3) := by decide +kernel
theorem dX1_earliest_63 : decode cX1_earliest 63 = .ok (.iload 5, 2) := by decide +kernel
theorem dX1_earliest_65 : decode cX1_earliest 65 = .ok (.ifCond .ne 6, 3) := by decide +kernel
theorem dX1_earliest_68 : decode cX1_earliest 68 = .ok (.iload 6, 2) := by decide +kernel
theorem dX1_earliest_70 : decode cX1_earliest 70 = .ok (.ireturn, 1) := by decide +kernel
theorem dX1_earliest_71 : decode cX1_earliest 71 = .ok (.aload_n 2, 1) := by decide +kernel
theorem dX1_earliest_72 : decode cX1_earliest 72 = .ok (.getfield 97, 3) := by decide +kernel
theorem dX1_earliest_75 : decode cX1_earliest 75 = .ok (.iload 4, 2) := by decide +kernel
theorem dX1_earliest_77 : decode cX1_earliest 77 = .ok (.aaload, 1) := by decide +kernel
theorem dX1_earliest_78 : decode cX1_earliest 78 = .ok (.iload 5, 2) := by decide +kernel
theorem dX1_earliest_80 : decode cX1_earliest 80 = .ok (.iconst 1, 1) := by decide +kernel
theorem dX1_earliest_81 : decode cX1_earliest 81 = .ok (.isub, 1) := by decide +kernel
theorem dX1_earliest_82 : decode cX1_earliest 82 = .ok (.iaload, 1) := by decide +kernel
theorem dX1_earliest_83 : decode cX1_earliest 83 = .ok (.istore 7, 2) := by decide +kernel
theorem dX1_earliest_85 : decode cX1_earliest 85 = .ok (.aload_n 1, 1) := by decide +kernel
theorem dX1_earliest_86 : decode cX1_earliest 86 = .ok (.getfield 89, 3) := by decide +kernel
theorem dX1_earliest_89 : decode cX1_earliest 89 = .ok (.iload 4, 2) := by decide +kernel
theorem dX1_earliest_91 : decode cX1_earliest 91 = .ok (.iaload, 1) := by decide +kernel
theorem dX1_earliest_92 : decode cX1_earliest 92 = .ok (.iconst 3, 1) := by decide +kernel
theorem dX1_earliest_93 : decode cX1_earliest 93 = .ok (.if_icmp .ne 31, 3) := by decide +kernel
theorem dX1_earliest_96 : decode cX1_earliest 96 = .ok (.aload_n 0, 1) := by decide +kernel
theorem dX1_earliest_97 : decode cX1_earliest 97 = .ok (.aload_n 1, 1) := by decide +kernel
theorem dX1_earliest_98 : decode cX1_earliest 98 = .ok (.aload_n 2, 1) := by decide +kernel
theorem dX1_earliest_99 : decode cX1_earliest 99 = .ok (.iload 4, 2) := by decide +kernel
theorem dX1_earliest_101 : decode cX1_earliest 101 = .ok (.invokevirtual 109, 3) := by decide +kernel
theorem dX1_earliest_104 : decode cX1_earliest 104 = .ok (.istore 8, 2) := by decide +kernel
theorem dX1_earliest_106 : decode cX1_earliest 106 = .ok (.iload 6, 2) := by decide +kernel
theorem dX1_earliest_108 : decode cX1_earliest 108 = .ok (.aload_n 0, 1) := by decide +kernel
theorem dX1_earliest_109 : decode cX1_earliest 109 = .ok (.getfield 9, 3) := by decide +kernel
theorem dX1_earliest_112 : decode cX1_earliest 112 = .ok (.iload 7, 2) := by decide +kernel
theorem dX1_earliest_114 : decode cX1_earliest 114 = .ok (.iaload, 1) := by decide +kernel
theorem dX1_earliest_115 : decode cX1_earliest 115 = .ok (.iload 8, 2) := by decide +kernel
theorem dX1_earliest_117 : decode cX1_earliest 117 = .ok (.invokestatic 103, 3) := by decide +kernel
theorem dX1_earliest_120 : decode cX1_earliest 120 = .ok (.invokestatic 103, 3) := by decide +kernel
theorem dX1_earliest_123 : decode cX1_earliest 123 = .ok (.ireturn, 1) := by decide +kernel
theorem dX1_earliest_124 : decode cX1_earliest 124 = .ok (.iload 6, 2) := by decide +kernel
theorem dX1_earliest_126 : decode cX1_earliest 126 = .ok (.aload_n 0, 1) := by decide +kernel
theorem dX1_earliest_127 : decode cX1_earliest 127 = .ok (.aload_n 1, 1) := by decide +kernel
theorem dX1_earliest_128 : decode cX1_earliest 128 = .ok (.iload 7, 2) := by decide +kernel
theorem dX1_earliest_130 : decode cX1_earliest 130 = .ok (.invokevirtual 112, 3) := by decide +kernel
theorem dX1_earliest_133 : decode cX1_earliest 133 = .ok (.aload_n 1, 1) := by decide +kernel
theorem dX1_earliest_134 : decode cX1_earliest 134 = .ok (.iload 7, 2) := by decide +kernel
theorem dX1_earliest_136 : decode cX1_earliest 136 = .ok (.iload_n 3, 1) := by decide +kernel
theorem dX1_earliest_137 : decode cX1_earliest 137 = .ok (.invokestatic 115, 3) := by decide +kernel
theorem dX1_earliest_140 : decode cX1_earliest 140 = .ok (.iadd, 1) := by decide +kernel
theorem dX1_earliest_141 : decode cX1_earliest 141 = .ok (.invokestatic 103, 3) := by decide +kernel
theorem dX1_earliest_144 : decode cX1_earliest 144 = .ok (.ireturn, 1) := by decide +kernel
theorem dX1_endAheadInPiece_0 : decode cX1_endAheadInPiece 0 = .ok (.aload_n 1, 1) := by decide +kernel
theorem dX1_endAheadInPiece_1 : decode cX1_endAheadInPiece 1 = .ok (.getfield 119, 3) := by decide +kernel
theorem dX1_endAheadInPiece_4 : decode cX1_endAheadInPiece 4 = .ok (.iload_n 2, 1) := by decide +kernel
theorem dX1_endAheadInPiece_5 : decode cX1_endAheadInPiece 5 = .ok (.iaload, 1) := by decide +kernel
theorem dX1_endAheadInPiece_6 : decode cX1_endAheadInPiece 6 = .ok (.istore_n 3, 1) := by decide +kernel
theorem dX1_endAheadInPiece_7 : decode cX1_endAheadInPiece 7 = .ok (.iload_n 3, 1) := by decide +kernel
theorem dX1_endAheadInPiece_8 : decode cX1_endAheadInPiece 8 = .ok (.ifCond .ne 7, 3) := by decide +kernel
theorem dX1_endAheadInPiece_11 : decode cX1_endAheadInPiece 11 = .ok (.iconst 0, 1) := by decide +kernel
theorem dX1_endAheadInPiece_12 : decode cX1_endAheadInPiece 12 = .ok (.goto 23, 3) := by decide +kernel
theorem dX1_endAheadInPiece_15 : decode cX1_endAheadInPiece 15 = .ok (.aload_n 0, 1) := by decide +kernel
theorem dX1_endAheadInPiece_16 : decode cX1_endAheadInPiece 16 = .ok (.aload_n 1, 1) := by decide +kernel
theorem dX1_endAheadInPiece_17 : decode cX1_endAheadInPiece 17 = .ok (.aload_n 1, 1) := by decide +kernel
theorem dX1_endAheadInPiece_18 : decode cX1_endAheadInPiece 18 = .ok (.getfield 82, 3) := by decide +kernel
theorem dX1_endAheadInPiece_21 : decode cX1_endAheadInPiece 21 = .ok (.aload_n 1, 1) := by decide +kernel
theorem dX1_endAheadInPiece_22 : decode cX1_endAheadInPiece 22 = .ok (.getfield 122, 3) := by decide +kernel
theorem dX1_endAheadInPiece_25 : decode cX1_endAheadInPiece 25 = .ok (.iload_n 2, 1) := by decide +kernel
theorem dX1_endAheadInPiece_26 : decode cX1_endAheadInPiece 26 = .ok (.iaload, 1) := by decide +kernel
theorem dX1_endAheadInPiece_27 : decode cX1_endAheadInPiece 27 = .ok (.aaload, 1) := by decide +kernel
theorem dX1_endAheadInPiece_28 : decode cX1_endAheadInPiece 28 = .ok (.iload_n 3, 1) := by decide +kernel
theorem dX1_endAheadInPiece_29 : decode cX1_endAheadInPiece 29 = .ok (.iconst 1, 1) := by decide +kernel
theorem dX1_endAheadInPiece_30 : decode cX1_endAheadInPiece 30 = .ok (.isub, 1) := by decide +kernel
theorem dX1_endAheadInPiece_31 : decode cX1_endAheadInPiece 31 = .ok (.iaload, 1) := by decide +kernel
theorem dX1_endAheadInPiece_32 : decode cX1_endAheadInPiece 32 = .ok (.invokevirtual 112, 3) := by decide +kernel
theorem dX1_endAheadInPiece_35 : decode cX1_endAheadInPiece 35 = .ok (.ireturn, 1) := by decide +kernel
theorem dX1_pauseBetween_0 : decode cX1_pauseBetween 0 = .ok (.aload_n 0, 1) := by decide +kernel
theorem dX1_pauseBetween_1 : decode cX1_pauseBetween 1 = .ok (.getfield 86, 3) := by decide +kernel
theorem dX1_pauseBetween_4 : decode cX1_pauseBetween 4 = .ok (.iload_n 2, 1) := by decide +kernel
theorem dX1_pauseBetween_5 : decode cX1_pauseBetween 5 = .ok (.iaload, 1) := by decide +kernel
theorem dX1_pauseBetween_6 : decode cX1_pauseBetween 6 = .ok (.istore_n 3, 1) := by decide +kernel
theorem dX1_pauseBetween_7 : decode cX1_pauseBetween 7 = .ok (.aload_n 0, 1) := by decide +kernel
theorem dX1_pauseBetween_8 : decode cX1_pauseBetween 8 = .ok (.getfield 125, 3) := by decide +kernel
theorem dX1_pauseBetween_11 : decode cX1_pauseBetween 11 = .ok (.aload_n 0, 1) := by decide +kernel
theorem dX1_pauseBetween_12 : decode cX1_pauseBetween 12 = .ok (.getfield 122, 3) := by decide +kernel
theorem dX1_pauseBetween_15 : decode cX1_pauseBetween 15 = .ok (.iload_n 1, 1) := by decide +kernel
theorem dX1_pauseBetween_16 : decode cX1_pauseBetween 16 = .ok (.iaload, 1) := by decide +kernel
theorem dX1_pauseBetween_17 : decode cX1_pauseBetween 17 = .ok (.iaload, 1) := by decide +kernel
theorem dX1_pauseBetween_18 : decode cX1_pauseBetween 18 = .ok (.aload_n 0, 1) := by decide +kernel
theorem dX1_pauseBetween_19 : decode cX1_pauseBetween 19 = .ok (.getfield 125, 3) := by decide +kernel
theorem dX1_pauseBetween_22 : decode cX1_pauseBetween 22 = .ok (.aload_n 0, 1) := by decide +kernel
theorem dX1_pauseBetween_23 : decode cX1_pauseBetween 23 = .ok (.getfield 122, 3) := by decide +kernel
theorem dX1_pauseBetween_26 : decode cX1_pauseBetween 26 = .ok (.iload_n 2, 1) := by decide +kernel
theorem dX1_pauseBetween_27 : decode cX1_pauseBetween 27 = .ok (.iaload, 1) := by decide +kernel
theorem dX1_pauseBetween_28 : decode cX1_pauseBetween 28 = .ok (.iaload, 1) := by decide +kernel
theorem dX1_pauseBetween_29 : decode cX1_pauseBetween 29 = .ok (.if_icmp .ne 7, 3) := by decide +kernel
theorem dX1_pauseBetween_32 : decode cX1_pauseBetween 32 = .ok (.iconst 1, 1) := by decide +kernel
theorem dX1_pauseBetween_33 : decode cX1_pauseBetween 33 = .ok (.goto 4, 3) := by decide +kernel
theorem dX1_pauseBetween_36 : decode cX1_pauseBetween 36 = .ok (.iconst 0, 1) := by decide +kernel
theorem dX1_pauseBetween_37 : decode cX1_pauseBetween 37 = .ok (.istore 4, 2) := by decide +kernel
theorem dX1_pauseBetween_39 : decode cX1_pauseBetween 39 = .ok (.aload_n 0, 1) := by decide +kernel
theorem dX1_pauseBetween_40 : decode cX1_pauseBetween 40 = .ok (.getfield 89, 3) := by decide +kernel
theorem dX1_pauseBetween_43 : decode cX1_pauseBetween 43 = .ok (.iload_n 3, 1) := by decide +kernel
theorem dX1_pauseBetween_44 : decode cX1_pauseBetween 44 = .ok (.iaload, 1) := by decide +kernel
theorem dX1_pauseBetween_45 : decode cX1_pauseBetween 45 = .ok (.iconst 2, 1) := by decide +kernel
theorem dX1_pauseBetween_46 : decode cX1_pauseBetween 46 = .ok (.if_icmp .ne 17, 3) := by decide +kernel
theorem dX1_pauseBetween_49 : decode cX1_pauseBetween 49 = .ok (.iload 4, 2) := by decide +kernel
theorem dX1_pauseBetween_51 : decode cX1_pauseBetween 51 = .ok (.ifCond .ne 12, 3) := by decide +kernel
theorem dX1_pauseBetween_54 : decode cX1_pauseBetween 54 = .ok (.aload_n 0, 1) := by decide +kernel
theorem dX1_pauseBetween_55 : decode cX1_pauseBetween 55 = .ok (.getfield 128, 3) := by decide +kernel
theorem dX1_pauseBetween_58 : decode cX1_pauseBetween 58 = .ok (.iload_n 3, 1) := by decide +kernel
theorem dX1_pauseBetween_59 : decode cX1_pauseBetween 59 = .ok (.iaload, 1) := by decide +kernel
theorem dX1_pauseBetween_60 : decode cX1_pauseBetween 60 = .ok (.goto 4, 3) := by decide +kernel
theorem dX1_pauseBetween_63 : decode cX1_pauseBetween 63 = .ok (.iconst 0, 1) := by decide +kernel
theorem dX1_pauseBetween_64 : decode cX1_pauseBetween 64 = .ok (.ireturn, 1) := by decide +kernel
theorem dX1_freeHand_0 : decode cX1_freeHand 0 = .ok (.aload_n 0, 1) := by decide +kernel
theorem dX1_freeHand_1 : decode cX1_freeHand 1 = .ok (.getfield 36, 3) := by decide +kernel
theorem dX1_freeHand_4 : decode cX1_freeHand 4 = .ok (.iconst 0, 1) := by decide +kernel
theorem dX1_freeHand_5 : decode cX1_freeHand 5 = .ok (.invokestatic 39, 3) := by decide +kernel
theorem dX1_freeHand_8 : decode cX1_freeHand 8 = .ok (.iconst 0, 1) := by decide +kernel
theorem dX1_freeHand_9 : decode cX1_freeHand 9 = .ok (.istore 4, 2) := by decide +kernel
theorem dX1_freeHand_11 : decode cX1_freeHand 11 = .ok (.iload 4, 2) := by decide +kernel
theorem dX1_freeHand_13 : decode cX1_freeHand 13 = .ok (.aload_n 0, 1) := by decide +kernel
theorem dX1_freeHand_14 : decode cX1_freeHand 14 = .ok (.getfield 33, 3) := by decide +kernel
theorem dX1_freeHand_17 : decode cX1_freeHand 17 = .ok (.iload_n 3, 1) := by decide +kernel
theorem dX1_freeHand_18 : decode cX1_freeHand 18 = .ok (.iaload, 1) := by decide +kernel
theorem dX1_freeHand_19 : decode cX1_freeHand 19 = .ok (.if_icmp .ge 27, 3) := by decide +kernel
theorem dX1_freeHand_22 : decode cX1_freeHand 22 = .ok (.aload_n 0, 1) := by decide +kernel
theorem dX1_freeHand_23 : decode cX1_freeHand 23 = .ok (.aload_n 0, 1) := by decide +kernel
theorem dX1_freeHand_24 : decode cX1_freeHand 24 = .ok (.aload_n 1, 1) := by decide +kernel
theorem dX1_freeHand_25 : decode cX1_freeHand 25 = .ok (.aload_n 2, 1) := by decide +kernel
theorem dX1_freeHand_26 : decode cX1_freeHand 26 = .ok (.getfield 97, 3) := by decide +kernel
theorem dX1_freeHand_29 : decode cX1_freeHand 29 = .ok (.iload_n 3, 1) := by decide +kernel
theorem dX1_freeHand_30 : decode cX1_freeHand 30 = .ok (.aaload, 1) := by decide +kernel
theorem dX1_freeHand_31 : decode cX1_freeHand 31 = .ok (.iload 4, 2) := by decide +kernel
theorem dX1_freeHand_33 : decode cX1_freeHand 33 = .ok (.iaload, 1) := by decide +kernel
theorem dX1_freeHand_34 : decode cX1_freeHand 34 = .ok (.invokevirtual 112, 3) := by decide +kernel
theorem dX1_freeHand_37 : decode cX1_freeHand 37 = .ok (.invokevirtual 131, 3) := by decide +kernel
theorem dX1_freeHand_40 : decode cX1_freeHand 40 = .ok (.iinc 4 1, 3) := by decide +kernel
theorem dX1_freeHand_43 : decode cX1_freeHand 43 = .ok (.goto (-32), 3) := by decide +kernel
theorem dX1_freeHand_46 : decode cX1_freeHand 46 = .ok (.aload_n 0, 1) := by decide +kernel
theorem dX1_freeHand_47 : decode cX1_freeHand 47 = .ok (.getfield 36, 3) := by decide +kernel
theorem dX1_freeHand_50 : decode cX1_freeHand 50 = .ok (.aload_n 1, 1) := by decide +kernel
theorem dX1_freeHand_51 : decode cX1_freeHand 51 = .ok (.getfield 128, 3) := by decide +kernel
theorem dX1_freeHand_54 : decode cX1_freeHand 54 = .ok (.iload_n 3, 1) := by decide +kernel
theorem dX1_freeHand_55 : decode cX1_freeHand 55 = .ok (.iaload, 1) := by decide +kernel
theorem dX1_freeHand_56 : decode cX1_freeHand 56 = .ok (.iconst 1, 1) := by decide +kernel
theorem dX1_freeHand_57 : decode cX1_freeHand 57 = .ok (.isub, 1) := by decide +kernel
theorem dX1_freeHand_58 : decode cX1_freeHand 58 = .ok (.iaload, 1) := by decide +kernel
theorem dX1_freeHand_59 : decode cX1_freeHand 59 = .ok (.ireturn, 1) := by decide +kernel
theorem dX1_keepLatest_0 : decode cX1_keepLatest 0 = .ok (.iload_n 1, 1) := by decide +kernel
theorem dX1_keepLatest_1 : decode cX1_keepLatest 1 = .ok (.istore_n 2, 1) := by decide +kernel
theorem dX1_keepLatest_2 : decode cX1_keepLatest 2 = .ok (.iconst 0, 1) := by decide +kernel
theorem dX1_keepLatest_3 : decode cX1_keepLatest 3 = .ok (.istore_n 3, 1) := by decide +kernel
theorem dX1_keepLatest_4 : decode cX1_keepLatest 4 = .ok (.iload_n 3, 1) := by decide +kernel
theorem dX1_keepLatest_5 : decode cX1_keepLatest 5 = .ok (.iconst 4, 1) := by decide +kernel
theorem dX1_keepLatest_6 : decode cX1_keepLatest 6 = .ok (.if_icmp .ge 37, 3) := by decide +kernel
theorem dX1_keepLatest_9 : decode cX1_keepLatest 9 = .ok (.iload_n 2, 1) := by decide +kernel
theorem dX1_keepLatest_10 : decode cX1_keepLatest 10 = .ok (.aload_n 0, 1) := by decide +kernel
theorem dX1_keepLatest_11 : decode cX1_keepLatest 11 = .ok (.getfield 36, 3) := by decide +kernel
theorem dX1_keepLatest_14 : decode cX1_keepLatest 14 = .ok (.iload_n 3, 1) := by decide +kernel
theorem dX1_keepLatest_15 : decode cX1_keepLatest 15 = .ok (.iaload, 1) := by decide +kernel
theorem dX1_keepLatest_16 : decode cX1_keepLatest 16 = .ok (.if_icmp .le 21, 3) := by decide +kernel
theorem dX1_keepLatest_19 : decode cX1_keepLatest 19 = .ok (.aload_n 0, 1) := by decide +kernel
theorem dX1_keepLatest_20 : decode cX1_keepLatest 20 = .ok (.getfield 36, 3) := by decide +kernel
theorem dX1_keepLatest_23 : decode cX1_keepLatest 23 = .ok (.iload_n 3, 1) := by decide +kernel
theorem dX1_keepLatest_24 : decode cX1_keepLatest 24 = .ok (.iaload, 1) := by decide +kernel
theorem dX1_keepLatest_25 : decode cX1_keepLatest 25 = .ok (.istore 4, 2) := by decide +kernel
theorem dX1_keepLatest_27 : decode cX1_keepLatest 27 = .ok (.aload_n 0, 1) := by decide +kernel
theorem dX1_keepLatest_28 : decode cX1_keepLatest 28 = .ok (.getfield 36, 3) := by decide +kernel
theorem dX1_keepLatest_31 : decode cX1_keepLatest 31 = .ok (.iload_n 3, 1) := by decide +kernel
theorem dX1_keepLatest_32 : decode cX1_keepLatest 32 = .ok (.iload_n 2, 1) := by decide +kernel
theorem dX1_keepLatest_33 : decode cX1_keepLatest 33 = .ok (.iastore, 1) := by decide +kernel
theorem dX1_keepLatest_34 : decode cX1_keepLatest 34 = .ok (.iload 4, 2) := by decide +kernel
theorem dX1_keepLatest_36 : decode cX1_keepLatest 36 = .ok (.istore_n 2, 1) := by decide +kernel
theorem dX1_keepLatest_37 : decode cX1_keepLatest 37 = .ok (.iinc 3 1, 3) := by decide +kernel
theorem dX1_keepLatest_40 : decode cX1_keepLatest 40 = .ok (.goto (-36), 3) := by decide +kernel
theorem dX1_keepLatest_43 : decode cX1_keepLatest 43 = .ok (.return_, 1) := by decide +kernel
theorem dX1_set_0 : decode cX1_set 0 = .ok (.aload_n 1, 1) := by decide +kernel
theorem dX1_set_1 : decode cX1_set 1 = .ok (.getfield 86, 3) := by decide +kernel
theorem dX1_set_4 : decode cX1_set 4 = .ok (.iload_n 3, 1) := by decide +kernel
theorem dX1_set_5 : decode cX1_set 5 = .ok (.iaload, 1) := by decide +kernel
theorem dX1_set_6 : decode cX1_set 6 = .ok (.istore 5, 2) := by decide +kernel
theorem dX1_set_8 : decode cX1_set 8 = .ok (.aload_n 0, 1) := by decide +kernel
theorem dX1_set_9 : decode cX1_set 9 = .ok (.getfield 33, 3) := by decide +kernel
theorem dX1_set_12 : decode cX1_set 12 = .ok (.iload 5, 2) := by decide +kernel
theorem dX1_set_14 : decode cX1_set 14 = .ok (.iaload, 1) := by decide +kernel
theorem dX1_set_15 : decode cX1_set 15 = .ok (.istore 6, 2) := by decide +kernel
theorem dX1_set_17 : decode cX1_set 17 = .ok (.aload_n 0, 1) := by decide +kernel
theorem dX1_set_18 : decode cX1_set 18 = .ok (.getfield 9, 3) := by decide +kernel
theorem dX1_set_21 : decode cX1_set 21 = .ok (.iload_n 3, 1) := by decide +kernel
theorem dX1_set_22 : decode cX1_set 22 = .ok (.iload 4, 2) := by decide +kernel
theorem dX1_set_24 : decode cX1_set 24 = .ok (.iastore, 1) := by decide +kernel
theorem dX1_set_25 : decode cX1_set 25 = .ok (.aload_n 0, 1) := by decide +kernel
theorem dX1_set_26 : decode cX1_set 26 = .ok (.aload_n 0, 1) := by decide +kernel
theorem dX1_set_27 : decode cX1_set 27 = .ok (.getfield 49, 3) := by decide +kernel
theorem dX1_set_30 : decode cX1_set 30 = .ok (.aload_n 0, 1) := by decide +kernel
theorem dX1_set_31 : decode cX1_set 31 = .ok (.aload_n 1, 1) := by decide +kernel
theorem dX1_set_32 : decode cX1_set 32 = .ok (.iload_n 3, 1) := by decide +kernel
theorem dX1_set_33 : decode cX1_set 33 = .ok (.invokevirtual 112, 3) := by decide +kernel
theorem dX1_set_36 : decode cX1_set 36 = .ok (.invokestatic 103, 3) := by decide +kernel
theorem dX1_set_39 : decode cX1_set 39 = .ok (.putfield 49, 3) := by decide +kernel
theorem dX1_set_42 : decode cX1_set 42 = .ok (.aload_n 1, 1) := by decide +kernel
theorem dX1_set_43 : decode cX1_set 43 = .ok (.getfield 89, 3) := by decide +kernel
theorem dX1_set_46 : decode cX1_set 46 = .ok (.iload 5, 2) := by decide +kernel
theorem dX1_set_48 : decode cX1_set 48 = .ok (.iaload, 1) := by decide +kernel
theorem dX1_set_49 : decode cX1_set 49 = .ok (.ifCond .ne 26, 3) := by decide +kernel
theorem dX1_set_52 : decode cX1_set 52 = .ok (.iload 6, 2) := by decide +kernel
theorem dX1_set_54 : decode cX1_set 54 = .ok (.ifCond .le 21, 3) := by decide +kernel
theorem dX1_set_57 : decode cX1_set 57 = .ok (.aload_n 0, 1) := by decide +kernel
theorem dX1_set_58 : decode cX1_set 58 = .ok (.getfield 27, 3) := by decide +kernel
theorem dX1_set_61 : decode cX1_set 61 = .ok (.aload_n 2, 1) := by decide +kernel
theorem dX1_set_62 : decode cX1_set 62 = .ok (.getfield 97, 3) := by decide +kernel
theorem dX1_set_65 : decode cX1_set 65 = .ok (.iload 5, 2) := by decide +kernel
theorem dX1_set_67 : decode cX1_set 67 = .ok (.aaload, 1) := by decide +kernel
theorem dX1_set_68 : decode cX1_set 68 = .ok (.iload 6, 2) := by decide +kernel
theorem dX1_set_70 : decode cX1_set 70 = .ok (.iconst 1, 1) := by decide +kernel
theorem dX1_set_71 : decode cX1_set 71 = .ok (.isub, 1) := by decide +kernel
theorem dX1_set_72 : decode cX1_set 72 = .ok (.iaload, 1) := by decide +kernel
theorem dX1_set_73 : decode cX1_set 73 = .ok (.iload_n 3, 1) := by decide +kernel
theorem dX1_set_74 : decode cX1_set 74 = .ok (.iastore, 1) := by decide +kernel
theorem dX1_set_75 : decode cX1_set 75 = .ok (.aload_n 0, 1) := by decide +kernel
theorem dX1_set_76 : decode cX1_set 76 = .ok (.getfield 24, 3) := by decide +kernel
theorem dX1_set_79 : decode cX1_set 79 = .ok (.aload_n 0, 1) := by decide +kernel
theorem dX1_set_80 : decode cX1_set 80 = .ok (.getfield 45, 3) := by decide +kernel
theorem dX1_set_83 : decode cX1_set 83 = .ok (.iload_n 3, 1) := by decide +kernel
theorem dX1_set_84 : decode cX1_set 84 = .ok (.iastore, 1) := by decide +kernel
theorem dX1_set_85 : decode cX1_set 85 = .ok (.aload_n 0, 1) := by decide +kernel
theorem dX1_set_86 : decode cX1_set 86 = .ok (.dup, 1) := by decide +kernel
theorem dX1_set_87 : decode cX1_set 87 = .ok (.getfield 45, 3) := by decide +kernel
theorem dX1_set_90 : decode cX1_set 90 = .ok (.iconst 1, 1) := by decide +kernel
theorem dX1_set_91 : decode cX1_set 91 = .ok (.iadd, 1) := by decide +kernel
theorem dX1_set_92 : decode cX1_set 92 = .ok (.putfield 45, 3) := by decide +kernel
theorem dX1_set_95 : decode cX1_set 95 = .ok (.aload_n 0, 1) := by decide +kernel
theorem dX1_set_96 : decode cX1_set 96 = .ok (.getfield 30, 3) := by decide +kernel
theorem dX1_set_99 : decode cX1_set 99 = .ok (.aload_n 1, 1) := by decide +kernel
theorem dX1_set_100 : decode cX1_set 100 = .ok (.getfield 122, 3) := by decide +kernel
theorem dX1_set_103 : decode cX1_set 103 = .ok (.iload_n 3, 1) := by decide +kernel
theorem dX1_set_104 : decode cX1_set 104 = .ok (.iaload, 1) := by decide +kernel
theorem dX1_set_105 : decode cX1_set 105 = .ok (.dup2, 1) := by decide +kernel
theorem dX1_set_106 : decode cX1_set 106 = .ok (.iaload, 1) := by decide +kernel
theorem dX1_set_107 : decode cX1_set 107 = .ok (.iconst 1, 1) := by decide +kernel
theorem dX1_set_108 : decode cX1_set 108 = .ok (.iadd, 1) := by decide +kernel
theorem dX1_set_109 : decode cX1_set 109 = .ok (.iastore, 1) := by decide +kernel
theorem dX1_set_110 : decode cX1_set 110 = .ok (.aload_n 0, 1) := by decide +kernel
theorem dX1_set_111 : decode cX1_set 111 = .ok (.getfield 33, 3) := by decide +kernel
theorem dX1_set_114 : decode cX1_set 114 = .ok (.iload 5, 2) := by decide +kernel
theorem dX1_set_116 : decode cX1_set 116 = .ok (.dup2, 1) := by decide +kernel
theorem dX1_set_117 : decode cX1_set 117 = .ok (.iaload, 1) := by decide +kernel
theorem dX1_set_118 : decode cX1_set 118 = .ok (.iconst 1, 1) := by decide +kernel
theorem dX1_set_119 : decode cX1_set 119 = .ok (.iadd, 1) := by decide +kernel
theorem dX1_set_120 : decode cX1_set 120 = .ok (.iastore, 1) := by decide +kernel
theorem dX1_set_121 : decode cX1_set 121 = .ok (.return_, 1) := by decide +kernel
theorem dX1_endOf_0 : decode cX1_endOf 0 = .ok (.aload_n 0, 1) := by decide +kernel
theorem dX1_endOf_1 : decode cX1_endOf 1 = .ok (.getfield 9, 3) := by decide +kernel
theorem dX1_endOf_4 : decode cX1_endOf 4 = .ok (.iload_n 2, 1) := by decide +kernel
theorem dX1_endOf_5 : decode cX1_endOf 5 = .ok (.iaload, 1) := by decide +kernel
theorem dX1_endOf_6 : decode cX1_endOf 6 = .ok (.aload_n 1, 1) := by decide +kernel
theorem dX1_endOf_7 : decode cX1_endOf 7 = .ok (.getfield 135, 3) := by decide +kernel
theorem dX1_endOf_10 : decode cX1_endOf 10 = .ok (.iload_n 2, 1) := by decide +kernel
theorem dX1_endOf_11 : decode cX1_endOf 11 = .ok (.iaload, 1) := by decide +kernel
theorem dX1_endOf_12 : decode cX1_endOf 12 = .ok (.iadd, 1) := by decide +kernel
theorem dX1_endOf_13 : decode cX1_endOf 13 = .ok (.ireturn, 1) := by decide +kernel
theorem dX1_findTails_0 : decode cX1_findTails 0 = .ok (.aload_n 0, 1) := by decide +kernel
theorem dX1_findTails_1 : decode cX1_findTails 1 = .ok (.getfield 45, 3) := by decide +kernel
theorem dX1_findTails_4 : decode cX1_findTails 4 = .ok (.iconst 1, 1) := by decide +kernel
theorem dX1_findTails_5 : decode cX1_findTails 5 = .ok (.isub, 1) := by decide +kernel
theorem dX1_findTails_6 : decode cX1_findTails 6 = .ok (.istore_n 2, 1) := by decide +kernel
theorem dX1_findTails_7 : decode cX1_findTails 7 = .ok (.iload_n 2, 1) := by decide +kernel
theorem dX1_findTails_8 : decode cX1_findTails 8 = .ok (.ifCond .lt 54, 3) := by decide +kernel
theorem dX1_findTails_11 : decode cX1_findTails 11 = .ok (.aload_n 0, 1) := by decide +kernel
theorem dX1_findTails_12 : decode cX1_findTails 12 = .ok (.getfield 24, 3) := by decide +kernel
theorem dX1_findTails_15 : decode cX1_findTails 15 = .ok (.iload_n 2, 1) := by decide +kernel
theorem dX1_findTails_16 : decode cX1_findTails 16 = .ok (.iaload, 1) := by decide +kernel
theorem dX1_findTails_17 : decode cX1_findTails 17 = .ok (.istore_n 3, 1) := by decide +kernel
theorem dX1_findTails_18 : decode cX1_findTails 18 = .ok (.aload_n 0, 1) := by decide +kernel
theorem dX1_findTails_19 : decode cX1_findTails 19 = .ok (.aload_n 1, 1) := by decide +kernel
theorem dX1_findTails_20 : decode cX1_findTails 20 = .ok (.aload_n 1, 1) := by decide +kernel
theorem dX1_findTails_21 : decode cX1_findTails 21 = .ok (.iload_n 3, 1) := by decide +kernel
theorem dX1_findTails_22 : decode cX1_findTails 22 = .ok (.invokevirtual 138, 3) := by decide +kernel
theorem dX1_findTails_25 : decode cX1_findTails 25 = .ok (.invokevirtual 142, 3) := by decide +kernel
theorem dX1_findTails_28 : decode cX1_findTails 28 = .ok (.istore 4, 2) := by decide +kernel
theorem dX1_findTails_30 : decode cX1_findTails 30 = .ok (.aload_n 0, 1) := by decide +kernel
theorem dX1_findTails_31 : decode cX1_findTails 31 = .ok (.aload_n 1, 1) := by decide +kernel
theorem dX1_findTails_32 : decode cX1_findTails 32 = .ok (.aload_n 0, 1) := by decide +kernel
theorem dX1_findTails_33 : decode cX1_findTails 33 = .ok (.getfield 27, 3) := by decide +kernel
theorem dX1_findTails_36 : decode cX1_findTails 36 = .ok (.iload_n 3, 1) := by decide +kernel
theorem dX1_findTails_37 : decode cX1_findTails 37 = .ok (.iaload, 1) := by decide +kernel
theorem dX1_findTails_38 : decode cX1_findTails 38 = .ok (.invokevirtual 142, 3) := by decide +kernel
theorem dX1_findTails_41 : decode cX1_findTails 41 = .ok (.istore 5, 2) := by decide +kernel
theorem dX1_findTails_43 : decode cX1_findTails 43 = .ok (.aload_n 0, 1) := by decide +kernel
theorem dX1_findTails_44 : decode cX1_findTails 44 = .ok (.getfield 15, 3) := by decide +kernel
theorem dX1_findTails_47 : decode cX1_findTails 47 = .ok (.iload_n 3, 1) := by decide +kernel
theorem dX1_findTails_48 : decode cX1_findTails 48 = .ok (.iload 4, 2) := by decide +kernel
theorem dX1_findTails_50 : decode cX1_findTails 50 = .ok (.iload 5, 2) := by decide +kernel
theorem dX1_findTails_52 : decode cX1_findTails 52 = .ok (.invokestatic 103, 3) := by decide +kernel
theorem dX1_findTails_55 : decode cX1_findTails 55 = .ok (.iastore, 1) := by decide +kernel
theorem dX1_findTails_56 : decode cX1_findTails 56 = .ok (.iinc 2 (-1), 3) := by decide +kernel
theorem dX1_findTails_59 : decode cX1_findTails 59 = .ok (.goto (-52), 3) := by decide +kernel
theorem dX1_findTails_62 : decode cX1_findTails 62 = .ok (.return_, 1) := by decide +kernel
theorem dX1_lengthFrom_0 : decode cX1_lengthFrom 0 = .ok (.iload_n 2, 1) := by decide +kernel
theorem dX1_lengthFrom_1 : decode cX1_lengthFrom 1 = .ok (.iconst (-1), 1) := by decide +kernel
theorem dX1_lengthFrom_2 : decode cX1_lengthFrom 2 = .ok (.if_icmp .ne 7, 3) := by decide +kernel
theorem dX1_lengthFrom_5 : decode cX1_lengthFrom 5 = .ok (.iconst 0, 1) := by decide +kernel
theorem dX1_lengthFrom_6 : decode cX1_lengthFrom 6 = .ok (.goto 16, 3) := by decide +kernel
theorem dX1_lengthFrom_9 : decode cX1_lengthFrom 9 = .ok (.aload_n 1, 1) := by decide +kernel
theorem dX1_lengthFrom_10 : decode cX1_lengthFrom 10 = .ok (.getfield 135, 3) := by decide +kernel
theorem dX1_lengthFrom_13 : decode cX1_lengthFrom 13 = .ok (.iload_n 2, 1) := by decide +kernel
theorem dX1_lengthFrom_14 : decode cX1_lengthFrom 14 = .ok (.iaload, 1) := by decide +kernel
theorem dX1_lengthFrom_15 : decode cX1_lengthFrom 15 = .ok (.aload_n 0, 1) := by decide +kernel
theorem dX1_lengthFrom_16 : decode cX1_lengthFrom 16 = .ok (.getfield 15, 3) := by decide +kernel
theorem dX1_lengthFrom_19 : decode cX1_lengthFrom 19 = .ok (.iload_n 2, 1) := by decide +kernel
theorem dX1_lengthFrom_20 : decode cX1_lengthFrom 20 = .ok (.iaload, 1) := by decide +kernel
theorem dX1_lengthFrom_21 : decode cX1_lengthFrom 21 = .ok (.iadd, 1) := by decide +kernel
theorem dX1_lengthFrom_22 : decode cX1_lengthFrom 22 = .ok (.ireturn, 1) := by decide +kernel
theorem dX1_slack_0 : decode cX1_slack 0 = .ok (.aload_n 0, 1) := by decide +kernel
theorem dX1_slack_1 : decode cX1_slack 1 = .ok (.getfield 49, 3) := by decide +kernel
theorem dX1_slack_4 : decode cX1_slack 4 = .ok (.aload_n 0, 1) := by decide +kernel
theorem dX1_slack_5 : decode cX1_slack 5 = .ok (.aload_n 1, 1) := by decide +kernel
theorem dX1_slack_6 : decode cX1_slack 6 = .ok (.iload_n 2, 1) := by decide +kernel
theorem dX1_slack_7 : decode cX1_slack 7 = .ok (.invokevirtual 112, 3) := by decide +kernel
theorem dX1_slack_10 : decode cX1_slack 10 = .ok (.isub, 1) := by decide +kernel
theorem dX1_slack_11 : decode cX1_slack 11 = .ok (.aload_n 0, 1) := by decide +kernel
theorem dX1_slack_12 : decode cX1_slack 12 = .ok (.getfield 15, 3) := by decide +kernel
theorem dX1_slack_15 : decode cX1_slack 15 = .ok (.iload_n 2, 1) := by decide +kernel
theorem dX1_slack_16 : decode cX1_slack 16 = .ok (.iaload, 1) := by decide +kernel
theorem dX1_slack_17 : decode cX1_slack 17 = .ok (.isub, 1) := by decide +kernel
theorem dX1_slack_18 : decode cX1_slack 18 = .ok (.ireturn, 1) := by decide +kernel
theorem dX1_firstOfRow_0 : decode cX1_firstOfRow 0 = .ok (.iconst 0, 1) := by decide +kernel
theorem dX1_firstOfRow_1 : decode cX1_firstOfRow 1 = .ok (.istore_n 2, 1) := by decide +kernel
theorem dX1_firstOfRow_2 : decode cX1_firstOfRow 2 = .ok (.iload_n 2, 1) := by decide +kernel
theorem dX1_firstOfRow_3 : decode cX1_firstOfRow 3 = .ok (.aload_n 1, 1) := by decide +kernel
theorem dX1_firstOfRow_4 : decode cX1_firstOfRow 4 = .ok (.getfield 55, 3) := by decide +kernel
theorem dX1_firstOfRow_7 : decode cX1_firstOfRow 7 = .ok (.if_icmp .ge 29, 3) := by decide +kernel
theorem dX1_firstOfRow_10 : decode cX1_firstOfRow 10 = .ok (.aload_n 0, 1) := by decide +kernel
theorem dX1_firstOfRow_11 : decode cX1_firstOfRow 11 = .ok (.getfield 9, 3) := by decide +kernel
theorem dX1_firstOfRow_14 : decode cX1_firstOfRow 14 = .ok (.iload_n 2, 1) := by decide +kernel
theorem dX1_firstOfRow_15 : decode cX1_firstOfRow 15 = .ok (.iaload, 1) := by decide +kernel
theorem dX1_firstOfRow_16 : decode cX1_firstOfRow 16 = .ok (.ifCond .ne 14, 3) := by decide +kernel
theorem dX1_firstOfRow_19 : decode cX1_firstOfRow 19 = .ok (.aload_n 0, 1) := by decide +kernel
theorem dX1_firstOfRow_20 : decode cX1_firstOfRow 20 = .ok (.aload_n 1, 1) := by decide +kernel
theorem dX1_firstOfRow_21 : decode cX1_firstOfRow 21 = .ok (.iload_n 2, 1) := by decide +kernel
theorem dX1_firstOfRow_22 : decode cX1_firstOfRow 22 = .ok (.invokevirtual 145, 3) := by decide +kernel
theorem dX1_firstOfRow_25 : decode cX1_firstOfRow 25 = .ok (.ifCond .ne 5, 3) := by decide +kernel
theorem dX1_firstOfRow_28 : decode cX1_firstOfRow 28 = .ok (.iload_n 2, 1) := by decide +kernel
theorem dX1_firstOfRow_29 : decode cX1_firstOfRow 29 = .ok (.ireturn, 1) := by decide +kernel
theorem dX1_firstOfRow_30 : decode cX1_firstOfRow 30 = .ok (.iinc 2 1, 3) := by decide +kernel
theorem dX1_firstOfRow_33 : decode cX1_firstOfRow 33 = .ok (.goto (-31), 3) := by decide +kernel
theorem dX1_firstOfRow_36 : decode cX1_firstOfRow 36 = .ok (.iconst (-1), 1) := by decide +kernel
theorem dX1_firstOfRow_37 : decode cX1_firstOfRow 37 = .ok (.ireturn, 1) := by decide +kernel
theorem dX1_nextOfRow_0 : decode cX1_nextOfRow 0 = .ok (.aload_n 1, 1) := by decide +kernel
theorem dX1_nextOfRow_1 : decode cX1_nextOfRow 1 = .ok (.iload_n 2, 1) := by decide +kernel
theorem dX1_nextOfRow_2 : decode cX1_nextOfRow 2 = .ok (.invokevirtual 138, 3) := by decide +kernel
theorem dX1_nextOfRow_5 : decode cX1_nextOfRow 5 = .ok (.istore_n 3, 1) := by decide +kernel
theorem dX1_nextOfRow_6 : decode cX1_nextOfRow 6 = .ok (.aload_n 0, 1) := by decide +kernel
theorem dX1_nextOfRow_7 : decode cX1_nextOfRow 7 = .ok (.aload_n 1, 1) := by decide +kernel
theorem dX1_nextOfRow_8 : decode cX1_nextOfRow 8 = .ok (.iload_n 2, 1) := by decide +kernel
theorem dX1_nextOfRow_9 : decode cX1_nextOfRow 9 = .ok (.iload_n 3, 1) := by decide +kernel
theorem dX1_nextOfRow_10 : decode cX1_nextOfRow 10 = .ok (.invokevirtual 148, 3) := by decide +kernel
theorem dX1_nextOfRow_13 : decode cX1_nextOfRow 13 = .ok (.ifCond .eq 5, 3) := by decide +kernel
theorem dX1_nextOfRow_16 : decode cX1_nextOfRow 16 = .ok (.iload_n 3, 1) := by decide +kernel
theorem dX1_nextOfRow_17 : decode cX1_nextOfRow 17 = .ok (.ireturn, 1) := by decide +kernel
theorem dX1_nextOfRow_18 : decode cX1_nextOfRow 18 = .ok (.aload_n 0, 1) := by decide +kernel
theorem dX1_nextOfRow_19 : decode cX1_nextOfRow 19 = .ok (.getfield 27, 3) := by decide +kernel
theorem dX1_nextOfRow_22 : decode cX1_nextOfRow 22 = .ok (.iload_n 2, 1) := by decide +kernel
theorem dX1_nextOfRow_23 : decode cX1_nextOfRow 23 = .ok (.iaload, 1) := by decide +kernel
theorem dX1_nextOfRow_24 : decode cX1_nextOfRow 24 = .ok (.istore 4, 2) := by decide +kernel
theorem dX1_nextOfRow_26 : decode cX1_nextOfRow 26 = .ok (.aload_n 0, 1) := by decide +kernel
theorem dX1_nextOfRow_27 : decode cX1_nextOfRow 27 = .ok (.aload_n 1, 1) := by decide +kernel
theorem dX1_nextOfRow_28 : decode cX1_nextOfRow 28 = .ok (.iload_n 2, 1) := by decide +kernel
theorem dX1_nextOfRow_29 : decode cX1_nextOfRow 29 = .ok (.iload 4, 2) := by decide +kernel
theorem dX1_nextOfRow_31 : decode cX1_nextOfRow 31 = .ok (.invokevirtual 148, 3) := by decide +kernel
theorem dX1_nextOfRow_34 : decode cX1_nextOfRow 34 = .ok (.ifCond .eq 8, 3) := by decide +kernel
theorem dX1_nextOfRow_37 : decode cX1_nextOfRow 37 = .ok (.iload 4, 2) := by decide +kernel
theorem dX1_nextOfRow_39 : decode cX1_nextOfRow 39 = .ok (.goto 4, 3) := by decide +kernel
theorem dX1_nextOfRow_42 : decode cX1_nextOfRow 42 = .ok (.iconst (-1), 1) := by decide +kernel
theorem dX1_nextOfRow_43 : decode cX1_nextOfRow 43 = .ok (.ireturn, 1) := by decide +kernel
theorem dX1_followsInRow_0 : decode cX1_followsInRow 0 = .ok (.iload_n 3, 1) := by decide +kernel
theorem dX1_followsInRow_1 : decode cX1_followsInRow 1 = .ok (.iconst (-1), 1) := by decide +kernel
theorem dX1_followsInRow_2 : decode cX1_followsInRow 2 = .ok (.if_icmp .eq 31, 3) := by decide +kernel
theorem dX1_followsInRow_5 : decode cX1_followsInRow 5 = .ok (.aload_n 0, 1) := by decide +kernel
theorem dX1_followsInRow_6 : decode cX1_followsInRow 6 = .ok (.getfield 9, 3) := by decide +kernel
theorem dX1_followsInRow_9 : decode cX1_followsInRow 9 = .ok (.iload_n 3, 1) := by decide +kernel
theorem dX1_followsInRow_10 : decode cX1_followsInRow 10 = .ok (.iaload, 1) := by decide +kernel
theorem dX1_followsInRow_11 : decode cX1_followsInRow 11 = .ok (.aload_n 0, 1) := by decide +kernel
theorem dX1_followsInRow_12 : decode cX1_followsInRow 12 = .ok (.aload_n 1, 1) := by decide +kernel
theorem dX1_followsInRow_13 : decode cX1_followsInRow 13 = .ok (.iload_n 2, 1) := by decide +kernel
theorem dX1_followsInRow_14 : decode cX1_followsInRow 14 = .ok (.invokevirtual 112, 3) := by decide +kernel
theorem dX1_followsInRow_17 : decode cX1_followsInRow 17 = .ok (.if_icmp .ne 16, 3) := by decide +kernel
theorem dX1_followsInRow_20 : decode cX1_followsInRow 20 = .ok (.aload_n 0, 1) := by decide +kernel
theorem dX1_followsInRow_21 : decode cX1_followsInRow 21 = .ok (.aload_n 1, 1) := by decide +kernel
theorem dX1_followsInRow_22 : decode cX1_followsInRow 22 = .ok (.iload_n 3, 1) := by decide +kernel
theorem dX1_followsInRow_23 : decode cX1_followsInRow 23 = .ok (.invokevirtual 145, 3) := by decide +kernel
theorem dX1_followsInRow_26 : decode cX1_followsInRow 26 = .ok (.ifCond .ne 7, 3) := by decide +kernel
theorem dX1_followsInRow_29 : decode cX1_followsInRow 29 = .ok (.iconst 1, 1) := by decide +kernel
theorem dX1_followsInRow_30 : decode cX1_followsInRow 30 = .ok (.goto 4, 3) := by decide +kernel
theorem dX1_followsInRow_33 : decode cX1_followsInRow 33 = .ok (.iconst 0, 1) := by decide +kernel
theorem dX1_followsInRow_34 : decode cX1_followsInRow 34 = .ok (.ireturn, 1) := by decide +kernel
theorem dX2_init_0 : decode cX2_init 0 = .ok (.aload_n 0, 1) := by decide +kernel
theorem dX2_init_1 : decode cX2_init 1 = .ok (.invokespecial 3, 3) := by decide +kernel
theorem dX2_init_4 : decode cX2_init 4 = .ok (.aload_n 0, 1) := by decide +kernel
theorem dX2_init_5 : decode cX2_init 5 = .ok (.bipush 8, 2) := by decide +kernel
theorem dX2_init_7 : decode cX2_init 7 = .ok (.newarray .int, 2) := by decide +kernel
theorem dX2_init_9 : decode cX2_init 9 = .ok (.putfield 9, 3) := by decide +kernel
theorem dX2_init_12 : decode cX2_init 12 = .ok (.aload_n 0, 1) := by decide +kernel
theorem dX2_init_13 : decode cX2_init 13 = .ok (.bipush 8, 2) := by decide +kernel
theorem dX2_init_15 : decode cX2_init 15 = .ok (.newarray .int, 2) := by decide +kernel
theorem dX2_init_17 : decode cX2_init 17 = .ok (.putfield 15, 3) := by decide +kernel
theorem dX2_init_20 : decode cX2_init 20 = .ok (.aload_n 0, 1) := by decide +kernel
theorem dX2_init_21 : decode cX2_init 21 = .ok (.bipush 12, 2) := by decide +kernel
theorem dX2_init_23 : decode cX2_init 23 = .ok (.newarray .int, 2) := by decide +kernel
theorem dX2_init_25 : decode cX2_init 25 = .ok (.putfield 18, 3) := by decide +kernel
theorem dX2_init_28 : decode cX2_init 28 = .ok (.aload_n 0, 1) := by decide +kernel
theorem dX2_init_29 : decode cX2_init 29 = .ok (.bipush 12, 2) := by decide +kernel
theorem dX2_init_31 : decode cX2_init 31 = .ok (.bipush 8, 2) := by decide +kernel
theorem dX2_init_33 : decode cX2_init 33 = .ok (.multianewarray 21 2, 4) := by decide +kernel
theorem dX2_init_37 : decode cX2_init 37 = .ok (.putfield 23, 3) := by decide +kernel
theorem dX2_init_40 : decode cX2_init 40 = .ok (.aload_n 0, 1) := by decide +kernel
theorem dX2_init_41 : decode cX2_init 41 = .ok (.bipush 12, 2) := by decide +kernel
theorem dX2_init_43 : decode cX2_init 43 = .ok (.newarray .int, 2) := by decide +kernel
theorem dX2_init_45 : decode cX2_init 45 = .ok (.putfield 26, 3) := by decide +kernel
theorem dX2_init_48 : decode cX2_init 48 = .ok (.aload_n 0, 1) := by decide +kernel
theorem dX2_init_49 : decode cX2_init 49 = .ok (.bipush 32, 2) := by decide +kernel
theorem dX2_init_51 : decode cX2_init 51 = .ok (.newarray .int, 2) := by decide +kernel
theorem dX2_init_53 : decode cX2_init 53 = .ok (.putfield 29, 3) := by decide +kernel
theorem dX2_init_56 : decode cX2_init 56 = .ok (.aload_n 0, 1) := by decide +kernel
theorem dX2_init_57 : decode cX2_init 57 = .ok (.bipush 32, 2) := by decide +kernel
theorem dX2_init_59 : decode cX2_init 59 = .ok (.newarray .int, 2) := by decide +kernel
theorem dX2_init_61 : decode cX2_init 61 = .ok (.putfield 32, 3) := by decide +kernel
theorem dX2_init_64 : decode cX2_init 64 = .ok (.aload_n 0, 1) := by decide +kernel
theorem dX2_init_65 : decode cX2_init 65 = .ok (.bipush 32, 2) := by decide +kernel
theorem dX2_init_67 : decode cX2_init 67 = .ok (.newarray .int, 2) := by decide +kernel
theorem dX2_init_69 : decode cX2_init 69 = .ok (.putfield 35, 3) := by decide +kernel
theorem dX2_init_72 : decode cX2_init 72 = .ok (.aload_n 0, 1) := by decide +kernel
theorem dX2_init_73 : decode cX2_init 73 = .ok (.bipush 32, 2) := by decide +kernel
theorem dX2_init_75 : decode cX2_init 75 = .ok (.newarray .int, 2) := by decide +kernel
theorem dX2_init_77 : decode cX2_init 77 = .ok (.putfield 38, 3) := by decide +kernel
theorem dX2_init_80 : decode cX2_init 80 = .ok (.aload_n 0, 1) := by decide +kernel
theorem dX2_init_81 : decode cX2_init 81 = .ok (.bipush 8, 2) := by decide +kernel
theorem dX2_init_83 : decode cX2_init 83 = .ok (.bipush 32, 2) := by decide +kernel
theorem dX2_init_85 : decode cX2_init 85 = .ok (.multianewarray 21 2, 4) := by decide +kernel
theorem dX2_init_89 : decode cX2_init 89 = .ok (.putfield 41, 3) := by decide +kernel
theorem dX2_init_92 : decode cX2_init 92 = .ok (.aload_n 0, 1) := by decide +kernel
theorem dX2_init_93 : decode cX2_init 93 = .ok (.bipush 8, 2) := by decide +kernel
theorem dX2_init_95 : decode cX2_init 95 = .ok (.newarray .int, 2) := by decide +kernel
theorem dX2_init_97 : decode cX2_init 97 = .ok (.putfield 44, 3) := by decide +kernel
theorem dX2_init_100 : decode cX2_init 100 = .ok (.return_, 1) := by decide +kernel
theorem dX2_addMachine_0 : decode cX2_addMachine 0 = .ok (.aload_n 0, 1) := by decide +kernel
theorem dX2_addMachine_1 : decode cX2_addMachine 1 = .ok (.getfield 47, 3) := by decide +kernel
theorem dX2_addMachine_4 : decode cX2_addMachine 4 = .ok (.istore_n 3, 1) := by decide +kernel
theorem dX2_addMachine_5 : decode cX2_addMachine 5 = .ok (.aload_n 0, 1) := by decide +kernel
theorem dX2_addMachine_6 : decode cX2_addMachine 6 = .ok (.getfield 9, 3) := by decide +kernel
theorem dX2_addMachine_9 : decode cX2_addMachine 9 = .ok (.iload_n 3, 1) := by decide +kernel
theorem dX2_addMachine_10 : decode cX2_addMachine 10 = .ok (.iload_n 1, 1) := by decide +kernel
theorem dX2_addMachine_11 : decode cX2_addMachine 11 = .ok (.iastore, 1) := by decide +kernel
theorem dX2_addMachine_12 : decode cX2_addMachine 12 = .ok (.aload_n 0, 1) := by decide +kernel
theorem dX2_addMachine_13 : decode cX2_addMachine 13 = .ok (.getfield 15, 3) := by decide +kernel
theorem dX2_addMachine_16 : decode cX2_addMachine 16 = .ok (.iload_n 3, 1) := by decide +kernel
theorem dX2_addMachine_17 : decode cX2_addMachine 17 = .ok (.iload_n 2, 1) := by decide +kernel
theorem dX2_addMachine_18 : decode cX2_addMachine 18 = .ok (.iastore, 1) := by decide +kernel
theorem dX2_addMachine_19 : decode cX2_addMachine 19 = .ok (.aload_n 0, 1) := by decide +kernel
theorem dX2_addMachine_20 : decode cX2_addMachine 20 = .ok (.dup, 1) := by decide +kernel
theorem dX2_addMachine_21 : decode cX2_addMachine 21 = .ok (.getfield 47, 3) := by decide +kernel
theorem dX2_addMachine_24 : decode cX2_addMachine 24 = .ok (.iconst 1, 1) := by decide +kernel
theorem dX2_addMachine_25 : decode cX2_addMachine 25 = .ok (.iadd, 1) := by decide +kernel
theorem dX2_addMachine_26 : decode cX2_addMachine 26 = .ok (.putfield 47, 3) := by decide +kernel
theorem dX2_addMachine_29 : decode cX2_addMachine 29 = .ok (.iload_n 3, 1) := by decide +kernel
theorem dX2_addMachine_30 : decode cX2_addMachine 30 = .ok (.ireturn, 1) := by decide +kernel
theorem dX2_addPiece_0 : decode cX2_addPiece 0 = .ok (.aload_n 0, 1) := by decide +kernel
theorem dX2_addPiece_1 : decode cX2_addPiece 1 = .ok (.getfield 51, 3) := by decide +kernel
theorem dX2_addPiece_4 : decode cX2_addPiece 4 = .ok (.istore_n 2, 1) := by decide +kernel
theorem dX2_addPiece_5 : decode cX2_addPiece 5 = .ok (.aload_n 0, 1) := by decide +kernel
theorem dX2_addPiece_6 : decode cX2_addPiece 6 = .ok (.getfield 18, 3) := by decide +kernel
theorem dX2_addPiece_9 : decode cX2_addPiece 9 = .ok (.iload_n 2, 1) := by decide +kernel
theorem dX2_addPiece_10 : decode cX2_addPiece 10 = .ok (.iload_n 1, 1) := by decide +kernel
theorem dX2_addPiece_11 : decode cX2_addPiece 11 = .ok (.iastore, 1) := by decide +kernel
theorem dX2_addPiece_12 : decode cX2_addPiece 12 = .ok (.aload_n 0, 1) := by decide +kernel
theorem dX2_addPiece_13 : decode cX2_addPiece 13 = .ok (.dup, 1) := by decide +kernel
theorem dX2_addPiece_14 : decode cX2_addPiece 14 = .ok (.getfield 51, 3) := by decide +kernel
theorem dX2_addPiece_17 : decode cX2_addPiece 17 = .ok (.iconst 1, 1) := by decide +kernel
theorem dX2_addPiece_18 : decode cX2_addPiece 18 = .ok (.iadd, 1) := by decide +kernel
theorem dX2_addPiece_19 : decode cX2_addPiece 19 = .ok (.putfield 51, 3) := by decide +kernel
theorem dX2_addPiece_22 : decode cX2_addPiece 22 = .ok (.iload_n 2, 1) := by decide +kernel
theorem dX2_addPiece_23 : decode cX2_addPiece 23 = .ok (.ireturn, 1) := by decide +kernel
theorem dX2_addStep_0 : decode cX2_addStep 0 = .ok (.aload_n 0, 1) := by decide +kernel
theorem dX2_addStep_1 : decode cX2_addStep 1 = .ok (.getfield 54, 3) := by decide +kernel
theorem dX2_addStep_4 : decode cX2_addStep 4 = .ok (.istore 4, 2) := by decide +kernel
theorem dX2_addStep_6 : decode cX2_addStep 6 = .ok (.aload_n 0, 1) := by decide +kernel
theorem dX2_addStep_7 : decode cX2_addStep 7 = .ok (.getfield 29, 3) := by decide +kernel
theorem dX2_addStep_10 : decode cX2_addStep 10 = .ok (.iload 4, 2) := by decide +kernel
theorem dX2_addStep_12 : decode cX2_addStep 12 = .ok (.iload_n 1, 1) := by decide +kernel
theorem dX2_addStep_13 : decode cX2_addStep 13 = .ok (.iastore, 1) := by decide +kernel
theorem dX2_addStep_14 : decode cX2_addStep 14 = .ok (.aload_n 0, 1) := by decide +kernel
theorem dX2_addStep_15 : decode cX2_addStep 15 = .ok (.getfield 32, 3) := by decide +kernel
theorem dX2_addStep_18 : decode cX2_addStep 18 = .ok (.iload 4, 2) := by decide +kernel
theorem dX2_addStep_20 : decode cX2_addStep 20 = .ok (.iload_n 2, 1) := by decide +kernel
theorem dX2_addStep_21 : decode cX2_addStep 21 = .ok (.iastore, 1) := by decide +kernel
theorem dX2_addStep_22 : decode cX2_addStep 22 = .ok (.aload_n 0, 1) := by decide +kernel
theorem dX2_addStep_23 : decode cX2_addStep 23 = .ok (.getfield 35, 3) := by decide +kernel
theorem dX2_addStep_26 : decode cX2_addStep 26 = .ok (.iload 4, 2) := by decide +kernel
theorem dX2_addStep_28 : decode cX2_addStep 28 = .ok (.iload_n 3, 1) := by decide +kernel
theorem dX2_addStep_29 : decode cX2_addStep 29 = .ok (.iastore, 1) := by decide +kernel
theorem dX2_addStep_30 : decode cX2_addStep 30 = .ok (.aload_n 0, 1) := by decide +kernel
theorem dX2_addStep_31 : decode cX2_addStep 31 = .ok (.getfield 38, 3) := by decide +kernel
theorem dX2_addStep_34 : decode cX2_addStep 34 = .ok (.iload 4, 2) := by decide +kernel
theorem dX2_addStep_36 : decode cX2_addStep 36 = .ok (.aload_n 0, 1) := by decide +kernel
theorem dX2_addStep_37 : decode cX2_addStep 37 = .ok (.getfield 26, 3) := by decide +kernel
theorem dX2_addStep_40 : decode cX2_addStep 40 = .ok (.iload_n 1, 1) := by decide +kernel
theorem dX2_addStep_41 : decode cX2_addStep 41 = .ok (.iaload, 1) := by decide +kernel
theorem dX2_addStep_42 : decode cX2_addStep 42 = .ok (.iastore, 1) := by decide +kernel
theorem dX2_addStep_43 : decode cX2_addStep 43 = .ok (.aload_n 0, 1) := by decide +kernel
theorem dX2_addStep_44 : decode cX2_addStep 44 = .ok (.getfield 23, 3) := by decide +kernel
theorem dX2_addStep_47 : decode cX2_addStep 47 = .ok (.iload_n 1, 1) := by decide +kernel
theorem dX2_addStep_48 : decode cX2_addStep 48 = .ok (.aaload, 1) := by decide +kernel
theorem dX2_addStep_49 : decode cX2_addStep 49 = .ok (.aload_n 0, 1) := by decide +kernel
theorem dX2_addStep_50 : decode cX2_addStep 50 = .ok (.getfield 26, 3) := by decide +kernel
theorem dX2_addStep_53 : decode cX2_addStep 53 = .ok (.iload_n 1, 1) := by decide +kernel
theorem dX2_addStep_54 : decode cX2_addStep 54 = .ok (.iaload, 1) := by decide +kernel
theorem dX2_addStep_55 : decode cX2_addStep 55 = .ok (.iload 4, 2) := by decide +kernel
theorem dX2_addStep_57 : decode cX2_addStep 57 = .ok (.iastore, 1) := by decide +kernel
theorem dX2_addStep_58 : decode cX2_addStep 58 = .ok (.aload_n 0, 1) := by decide +kernel
theorem dX2_addStep_59 : decode cX2_addStep 59 = .ok (.getfield 26, 3) := by decide +kernel
theorem dX2_addStep_62 : decode cX2_addStep 62 = .ok (.iload_n 1, 1) := by decide +kernel
theorem dX2_addStep_63 : decode cX2_addStep 63 = .ok (.dup2, 1) := by decide +kernel
theorem dX2_addStep_64 : decode cX2_addStep 64 = .ok (.iaload, 1) := by decide +kernel
theorem dX2_addStep_65 : decode cX2_addStep 65 = .ok (.iconst 1, 1) := by decide +kernel
theorem dX2_addStep_66 : decode cX2_addStep 66 = .ok (.iadd, 1) := by decide +kernel
theorem dX2_addStep_67 : decode cX2_addStep 67 = .ok (.iastore, 1) := by decide +kernel
theorem dX2_addStep_68 : decode cX2_addStep 68 = .ok (.aload_n 0, 1) := by decide +kernel
theorem dX2_addStep_69 : decode cX2_addStep 69 = .ok (.getfield 41, 3) := by decide +kernel
theorem dX2_addStep_72 : decode cX2_addStep 72 = .ok (.iload_n 2, 1) := by decide +kernel
theorem dX2_addStep_73 : decode cX2_addStep 73 = .ok (.aaload, 1) := by decide +kernel
theorem dX2_addStep_74 : decode cX2_addStep 74 = .ok (.aload_n 0, 1) := by decide +kernel
theorem dX2_addStep_75 : decode cX2_addStep 75 = .ok (.getfield 44, 3) := by decide +kernel
theorem dX2_addStep_78 : decode cX2_addStep 78 = .ok (.iload_n 2, 1) := by decide +kernel
theorem dX2_addStep_79 : decode cX2_addStep 79 = .ok (.iaload, 1) := by decide +kernel
theorem dX2_addStep_80 : decode cX2_addStep 80 = .ok (.iload 4, 2) := by decide +kernel
theorem dX2_addStep_82 : decode cX2_addStep 82 = .ok (.iastore, 1) := by decide +kernel
theorem dX2_addStep_83 : decode cX2_addStep 83 = .ok (.aload_n 0, 1) := by decide +kernel
theorem dX2_addStep_84 : decode cX2_addStep 84 = .ok (.getfield 44, 3) := by decide +kernel
theorem dX2_addStep_87 : decode cX2_addStep 87 = .ok (.iload_n 2, 1) := by decide +kernel
theorem dX2_addStep_88 : decode cX2_addStep 88 = .ok (.dup2, 1) := by decide +kernel
theorem dX2_addStep_89 : decode cX2_addStep 89 = .ok (.iaload, 1) := by decide +kernel
theorem dX2_addStep_90 : decode cX2_addStep 90 = .ok (.iconst 1, 1) := by decide +kernel
theorem dX2_addStep_91 : decode cX2_addStep 91 = .ok (.iadd, 1) := by decide +kernel
theorem dX2_addStep_92 : decode cX2_addStep 92 = .ok (.iastore, 1) := by decide +kernel
theorem dX2_addStep_93 : decode cX2_addStep 93 = .ok (.aload_n 0, 1) := by decide +kernel
theorem dX2_addStep_94 : decode cX2_addStep 94 = .ok (.dup, 1) := by decide +kernel
theorem dX2_addStep_95 : decode cX2_addStep 95 = .ok (.getfield 54, 3) := by decide +kernel
theorem dX2_addStep_98 : decode cX2_addStep 98 = .ok (.iconst 1, 1) := by decide +kernel
theorem dX2_addStep_99 : decode cX2_addStep 99 = .ok (.iadd, 1) := by decide +kernel
theorem dX2_addStep_100 : decode cX2_addStep 100 = .ok (.putfield 54, 3) := by decide +kernel
theorem dX2_addStep_103 : decode cX2_addStep 103 = .ok (.iload 4, 2) := by decide +kernel
theorem dX2_addStep_105 : decode cX2_addStep 105 = .ok (.ireturn, 1) := by decide +kernel
theorem dX2_isSimple_0 : decode cX2_isSimple 0 = .ok (.iconst 0, 1) := by decide +kernel
theorem dX2_isSimple_1 : decode cX2_isSimple 1 = .ok (.istore_n 1, 1) := by decide +kernel
theorem dX2_isSimple_2 : decode cX2_isSimple 2 = .ok (.iload_n 1, 1) := by decide +kernel
theorem dX2_isSimple_3 : decode cX2_isSimple 3 = .ok (.aload_n 0, 1) := by decide +kernel
theorem dX2_isSimple_4 : decode cX2_isSimple 4 = .ok (.getfield 47, 3) := by decide +kernel
theorem dX2_isSimple_7 : decode cX2_isSimple 7 = .ok (.if_icmp .ge 39, 3) := by decide +kernel
theorem dX2_isSimple_10 : decode cX2_isSimple 10 = .ok (.aload_n 0, 1) := by decide +kernel
theorem dX2_isSimple_11 : decode cX2_isSimple 11 = .ok (.getfield 44, 3) := by decide +kernel
theorem dX2_isSimple_14 : decode cX2_isSimple 14 = .ok (.iload_n 1, 1) := by decide +kernel
theorem dX2_isSimple_15 : decode cX2_isSimple 15 = .ok (.iaload, 1) := by decide +kernel
theorem dX2_isSimple_16 : decode cX2_isSimple 16 = .ok (.ifCond .le 24, 3) := by decide +kernel
theorem dX2_isSimple_19 : decode cX2_isSimple 19 = .ok (.aload_n 0, 1) := by decide +kernel
theorem dX2_isSimple_20 : decode cX2_isSimple 20 = .ok (.getfield 9, 3) := by decide +kernel
theorem dX2_isSimple_23 : decode cX2_isSimple 23 = .ok (.iload_n 1, 1) := by decide +kernel
theorem dX2_isSimple_24 : decode cX2_isSimple 24 = .ok (.iaload, 1) := by decide +kernel
theorem dX2_isSimple_25 : decode cX2_isSimple 25 = .ok (.ifCond .eq 15, 3) := by decide +kernel
theorem dX2_isSimple_28 : decode cX2_isSimple 28 = .ok (.aload_n 0, 1) := by decide +kernel
theorem dX2_isSimple_29 : decode cX2_isSimple 29 = .ok (.getfield 9, 3) := by decide +kernel
theorem dX2_isSimple_32 : decode cX2_isSimple 32 = .ok (.iload_n 1, 1) := by decide +kernel
theorem dX2_isSimple_33 : decode cX2_isSimple 33 = .ok (.iaload, 1) := by decide +kernel
theorem dX2_isSimple_34 : decode cX2_isSimple 34 = .ok (.iconst 1, 1) := by decide +kernel
theorem dX2_isSimple_35 : decode cX2_isSimple 35 = .ok (.if_icmp .eq 5, 3) := by decide +kernel
theorem dX2_isSimple_38 : decode cX2_isSimple 38 = .ok (.iconst 0, 1) := by decide +kernel
theorem dX2_isSimple_39 : decode cX2_isSimple 39 = .ok (.ireturn, 1) := by decide +kernel
theorem dX2_isSimple_40 : decode cX2_isSimple 40 = .ok (.iinc 1 1, 3) := by decide +kernel
theorem dX2_isSimple_43 : decode cX2_isSimple 43 = .ok (.goto (-41), 3) := by decide +kernel
theorem dX2_isSimple_46 : decode cX2_isSimple 46 = .ok (.iconst 1, 1) := by decide +kernel
theorem dX2_isSimple_47 : decode cX2_isSimple 47 = .ok (.ireturn, 1) := by decide +kernel
theorem dX2_allSpans_0 : decode cX2_allSpans 0 = .ok (.iconst 0, 1) := by decide +kernel
theorem dX2_allSpans_1 : decode cX2_allSpans 1 = .ok (.istore_n 1, 1) := by decide +kernel
theorem dX2_allSpans_2 : decode cX2_allSpans 2 = .ok (.iconst 0, 1) := by decide +kernel
theorem dX2_allSpans_3 : decode cX2_allSpans 3 = .ok (.istore_n 2, 1) := by decide +kernel
theorem dX2_allSpans_4 : decode cX2_allSpans 4 = .ok (.iload_n 2, 1) := by decide +kernel
theorem dX2_allSpans_5 : decode cX2_allSpans 5 = .ok (.aload_n 0, 1) := by decide +kernel
theorem dX2_allSpans_6 : decode cX2_allSpans 6 = .ok (.getfield 54, 3) := by decide +kernel
theorem dX2_allSpans_9 : decode cX2_allSpans 9 = .ok (.if_icmp .ge 18, 3) := by decide +kernel
theorem dX2_allSpans_12 : decode cX2_allSpans 12 = .ok (.iload_n 1, 1) := by decide +kernel
theorem dX2_allSpans_13 : decode cX2_allSpans 13 = .ok (.aload_n 0, 1) := by decide +kernel
theorem dX2_allSpans_14 : decode cX2_allSpans 14 = .ok (.getfield 35, 3) := by decide +kernel
theorem dX2_allSpans_17 : decode cX2_allSpans 17 = .ok (.iload_n 2, 1) := by decide +kernel
theorem dX2_allSpans_18 : decode cX2_allSpans 18 = .ok (.iaload, 1) := by decide +kernel
theorem dX2_allSpans_19 : decode cX2_allSpans 19 = .ok (.iadd, 1) := by decide +kernel
theorem dX2_allSpans_20 : decode cX2_allSpans 20 = .ok (.istore_n 1, 1) := by decide +kernel
theorem dX2_allSpans_21 : decode cX2_allSpans 21 = .ok (.iinc 2 1, 3) := by decide +kernel
theorem dX2_allSpans_24 : decode cX2_allSpans 24 = .ok (.goto (-20), 3) := by decide +kernel
theorem dX2_allSpans_27 : decode cX2_allSpans 27 = .ok (.iload_n 1, 1) := by decide +kernel
theorem dX2_allSpans_28 : decode cX2_allSpans 28 = .ok (.ireturn, 1) := by decide +kernel
theorem dX2_behindInPiece_0 : decode cX2_behindInPiece 0 = .ok (.aload_n 0, 1) := by decide +kernel
theorem dX2_behindInPiece_1 : decode cX2_behindInPiece 1 = .ok (.getfield 29, 3) := by decide +kernel
theorem dX2_behindInPiece_4 : decode cX2_behindInPiece 4 = .ok (.iload_n 1, 1) := by decide +kernel
theorem dX2_behindInPiece_5 : decode cX2_behindInPiece 5 = .ok (.iaload, 1) := by decide +kernel
theorem dX2_behindInPiece_6 : decode cX2_behindInPiece 6 = .ok (.istore_n 2, 1) := by decide +kernel
theorem dX2_behindInPiece_7 : decode cX2_behindInPiece 7 = .ok (.aload_n 0, 1) := by decide +kernel
theorem dX2_behindInPiece_8 : decode cX2_behindInPiece 8 = .ok (.getfield 38, 3) := by decide +kernel
theorem dX2_behindInPiece_11 : decode cX2_behindInPiece 11 = .ok (.iload_n 1, 1) := by decide +kernel
theorem dX2_behindInPiece_12 : decode cX2_behindInPiece 12 = .ok (.iaload, 1) := by decide +kernel
theorem dX2_behindInPiece_13 : decode cX2_behindInPiece 13 = .ok (.iconst 1, 1) := by decide +kernel
theorem dX2_behindInPiece_14 : decode cX2_behindInPiece 14 = .ok (.iadd, 1) := by decide +kernel
theorem dX2_behindInPiece_15 : decode cX2_behindInPiece 15 = .ok (.istore_n 3, 1) := by decide +kernel
theorem dX2_behindInPiece_16 : decode cX2_behindInPiece 16 = .ok (.iload_n 3, 1) := by decide +kernel
theorem dX2_behindInPiece_17 : decode cX2_behindInPiece 17 = .ok (.aload_n 0, 1) := by decide +kernel
theorem dX2_behindInPiece_18 : decode cX2_behindInPiece 18 = .ok (.getfield 26, 3) := by decide +kernel
theorem dX2_behindInPiece_21 : decode cX2_behindInPiece 21 = .ok (.iload_n 2, 1) := by decide +kernel
theorem dX2_behindInPiece_22 : decode cX2_behindInPiece 22 = .ok (.iaload, 1) := by decide +kernel
theorem dX2_behindInPiece_23 : decode cX2_behindInPiece 23 = .ok (.if_icmp .ge 14, 3) := by decide +kernel
theorem dX2_behindInPiece_26 : decode cX2_behindInPiece 26 = .ok (.aload_n 0, 1) := by decide +kernel
theorem dX2_behindInPiece_27 : decode cX2_behindInPiece 27 = .ok (.getfield 23, 3) := by decide +kernel
theorem dX2_behindInPiece_30 : decode cX2_behindInPiece 30 = .ok (.iload_n 2, 1) := by decide +kernel
theorem dX2_behindInPiece_31 : decode cX2_behindInPiece 31 = .ok (.aaload, 1) := by decide +kernel
theorem dX2_behindInPiece_32 : decode cX2_behindInPiece 32 = .ok (.iload_n 3, 1) := by decide +kernel
theorem dX2_behindInPiece_33 : decode cX2_behindInPiece 33 = .ok (.iaload, 1) := by decide +kernel
theorem dX2_behindInPiece_34 : decode cX2_behindInPiece 34 = .ok (.goto 4, 3) := by decide +kernel
theorem dX2_behindInPiece_37 : decode cX2_behindInPiece 37 = .ok (.iconst (-1), 1) := by decide +kernel
theorem dX2_behindInPiece_38 : decode cX2_behindInPiece 38 = .ok (.ireturn, 1) := by decide +kernel
theorem dX2_spansAhead_0 : decode cX2_spansAhead 0 = .ok (.aload_n 0, 1) := by decide +kernel
theorem dX2_spansAhead_1 : decode cX2_spansAhead 1 = .ok (.getfield 29, 3) := by decide +kernel
theorem dX2_spansAhead_4 : decode cX2_spansAhead 4 = .ok (.iload_n 1, 1) := by decide +kernel
theorem dX2_spansAhead_5 : decode cX2_spansAhead 5 = .ok (.iaload, 1) := by decide +kernel
theorem dX2_spansAhead_6 : decode cX2_spansAhead 6 = .ok (.istore_n 2, 1) := by decide +kernel
theorem dX2_spansAhead_7 : decode cX2_spansAhead 7 = .ok (.iconst 0, 1) := by decide +kernel
theorem dX2_spansAhead_8 : decode cX2_spansAhead 8 = .ok (.istore_n 3, 1) := by decide +kernel
theorem dX2_spansAhead_9 : decode cX2_spansAhead 9 = .ok (.iconst 0, 1) := by decide +kernel
theorem dX2_spansAhead_10 : decode cX2_spansAhead 10 = .ok (.istore 4, 2) := by decide +kernel
theorem dX2_spansAhead_12 : decode cX2_spansAhead 12 = .ok (.iload 4, 2) := by decide +kernel
theorem dX2_spansAhead_14 : decode cX2_spansAhead 14 = .ok (.aload_n 0, 1) := by decide +kernel
theorem dX2_spansAhead_15 : decode cX2_spansAhead 15 = .ok (.getfield 38, 3) := by decide +kernel
theorem dX2_spansAhead_18 : decode cX2_spansAhead 18 = .ok (.iload_n 1, 1) := by decide +kernel
theorem dX2_spansAhead_19 : decode cX2_spansAhead 19 = .ok (.iaload, 1) := by decide +kernel
theorem dX2_spansAhead_20 : decode cX2_spansAhead 20 = .ok (.if_icmp .ge 26, 3) := by decide +kernel
theorem dX2_spansAhead_23 : decode cX2_spansAhead 23 = .ok (.iload_n 3, 1) := by decide +kernel
theorem dX2_spansAhead_24 : decode cX2_spansAhead 24 = .ok (.aload_n 0, 1) := by decide +kernel
theorem dX2_spansAhead_25 : decode cX2_spansAhead 25 = .ok (.getfield 35, 3) := by decide +kernel
theorem dX2_spansAhead_28 : decode cX2_spansAhead 28 = .ok (.aload_n 0, 1) := by decide +kernel
theorem dX2_spansAhead_29 : decode cX2_spansAhead 29 = .ok (.getfield 23, 3) := by decide +kernel
theorem dX2_spansAhead_32 : decode cX2_spansAhead 32 = .ok (.iload_n 2, 1) := by decide +kernel
theorem dX2_spansAhead_33 : decode cX2_spansAhead 33 = .ok (.aaload, 1) := by decide +kernel
theorem dX2_spansAhead_34 : decode cX2_spansAhead 34 = .ok (.iload 4, 2) := by decide +kernel
theorem dX2_spansAhead_36 : decode cX2_spansAhead 36 = .ok (.iaload, 1) := by decide +kernel
theorem dX2_spansAhead_37 : decode cX2_spansAhead 37 = .ok (.iaload, 1) := by decide +kernel
theorem dX2_spansAhead_38 : decode cX2_spansAhead 38 = .ok (.iadd, 1) := by decide +kernel
theorem dX2_spansAhead_39 : decode cX2_spansAhead 39 = .ok (.istore_n 3, 1) := by decide +kernel
theorem dX2_spansAhead_40 : decode cX2_spansAhead 40 = .ok (.iinc 4 1, 3) := by decide +kernel
theorem dX2_spansAhead_43 : decode cX2_spansAhead 43 = .ok (.goto (-31), 3) := by decide +kernel
theorem dX2_spansAhead_46 : decode cX2_spansAhead 46 = .ok (.iload_n 3, 1) := by decide +kernel
theorem dX2_spansAhead_47 : decode cX2_spansAhead 47 = .ok (.ireturn, 1) := by decide +kernel
theorem dX2_spansBehind_0 : decode cX2_spansBehind 0 = .ok (.aload_n 0, 1) := by decide +kernel
theorem dX2_spansBehind_1 : decode cX2_spansBehind 1 = .ok (.getfield 29, 3) := by decide +kernel
theorem dX2_spansBehind_4 : decode cX2_spansBehind 4 = .ok (.iload_n 1, 1) := by decide +kernel
theorem dX2_spansBehind_5 : decode cX2_spansBehind 5 = .ok (.iaload, 1) := by decide +kernel
theorem dX2_spansBehind_6 : decode cX2_spansBehind 6 = .ok (.istore_n 2, 1) := by decide +kernel
theorem dX2_spansBehind_7 : decode cX2_spansBehind 7 = .ok (.iconst 0, 1) := by decide +kernel
theorem dX2_spansBehind_8 : decode cX2_spansBehind 8 = .ok (.istore_n 3, 1) := by decide +kernel
theorem dX2_spansBehind_9 : decode cX2_spansBehind 9 = .ok (.aload_n 0, 1) := by decide +kernel
theorem dX2_spansBehind_10 : decode cX2_spansBehind 10 = .ok (.getfield 38, 3) := by decide +kernel
theorem dX2_spansBehind_13 : decode cX2_spansBehind 13 = .ok (.iload_n 1, 1) := by decide +kernel
theorem dX2_spansBehind_14 : decode cX2_spansBehind 14 = .ok (.iaload, 1) := by decide +kernel
theorem dX2_spansBehind_15 : decode cX2_spansBehind 15 = .ok (.iconst 1, 1) := by decide +kernel
theorem dX2_spansBehind_16 : decode cX2_spansBehind 16 = .ok (.iadd, 1) := by decide +kernel
theorem dX2_spansBehind_17 : decode cX2_spansBehind 17 = .ok (.istore 4, 2) := by decide +kernel
theorem dX2_spansBehind_19 : decode cX2_spansBehind 19 = .ok (.iload 4, 2) := by decide +kernel
theorem dX2_spansBehind_21 : decode cX2_spansBehind 21 = .ok (.aload_n 0, 1) := by decide +kernel
theorem dX2_spansBehind_22 : decode cX2_spansBehind 22 = .ok (.getfield 26, 3) := by decide +kernel
theorem dX2_spansBehind_25 : decode cX2_spansBehind 25 = .ok (.iload_n 2, 1) := by decide +kernel
theorem dX2_spansBehind_26 : decode cX2_spansBehind 26 = .ok (.iaload, 1) := by decide +kernel
theorem dX2_spansBehind_27 : decode cX2_spansBehind 27 = .ok (.if_icmp .ge 26, 3) := by decide +kernel
theorem dX2_spansBehind_30 : decode cX2_spansBehind 30 = .ok (.iload_n 3, 1) := by decide +kernel
theorem dX2_spansBehind_31 : decode cX2_spansBehind 31 = .ok (.aload_n 0, 1) := by decide +kernel
theorem dX2_spansBehind_32 : decode cX2_spansBehind 32 = .ok (.getfield 35, 3) := by decide +kernel
theorem dX2_spansBehind_35 : decode cX2_spansBehind 35 = .ok (.aload_n 0, 1) := by decide +kernel
theorem dX2_spansBehind_36 : decode cX2_spansBehind 36 = .ok (.getfield 23, 3) := by decide +kernel
theorem dX2_spansBehind_39 : decode cX2_spansBehind 39 = .ok (.iload_n 2, 1) := by decide +kernel
theorem dX2_spansBehind_40 : decode cX2_spansBehind 40 = .ok (.aaload, 1) := by decide +kernel
theorem dX2_spansBehind_41 : decode cX2_spansBehind 41 = .ok (.iload 4, 2) := by decide +kernel
theorem dX2_spansBehind_43 : decode cX2_spansBehind 43 = .ok (.iaload, 1) := by decide +kernel
theorem dX2_spansBehind_44 : decode cX2_spansBehind 44 = .ok (.iaload, 1) := by decide +kernel
theorem dX2_spansBehind_45 : decode cX2_spansBehind 45 = .ok (.iadd, 1) := by decide +kernel
theorem dX2_spansBehind_46 : decode cX2_spansBehind 46 = .ok (.istore_n 3, 1) := by decide +kernel
theorem dX2_spansBehind_47 : decode cX2_spansBehind 47 = .ok (.iinc 4 1, 3) := by decide +kernel
theorem dX2_spansBehind_50 : decode cX2_spansBehind 50 = .ok (.goto (-31), 3) := by decide +kernel
theorem dX2_spansBehind_53 : decode cX2_spansBehind 53 = .ok (.iload_n 3, 1) := by decide +kernel
theorem dX2_spansBehind_54 : decode cX2_spansBehind 54 = .ok (.ireturn, 1) := by decide +kernel
theorem dX3_init_0 : decode cX3_init 0 = .ok (.aload_n 0, 1) := by decide +kernel
theorem dX3_init_1 : decode cX3_init 1 = .ok (.invokespecial 3, 3) := by decide +kernel
theorem dX3_init_4 : decode cX3_init 4 = .ok (.aload_n 0, 1) := by decide +kernel
theorem dX3_init_5 : decode cX3_init 5 = .ok (.bipush 8, 2) := by decide +kernel
theorem dX3_init_7 : decode cX3_init 7 = .ok (.bipush 32, 2) := by decide +kernel
theorem dX3_init_9 : decode cX3_init 9 = .ok (.multianewarray 9 2, 4) := by decide +kernel
theorem dX3_init_13 : decode cX3_init 13 = .ok (.putfield 11, 3) := by decide +kernel
theorem dX3_init_16 : decode cX3_init 16 = .ok (.aload_n 0, 1) := by decide +kernel
theorem dX3_init_17 : decode cX3_init 17 = .ok (.bipush 8, 2) := by decide +kernel
theorem dX3_init_19 : decode cX3_init 19 = .ok (.newarray .int, 2) := by decide +kernel
theorem dX3_init_21 : decode cX3_init 21 = .ok (.putfield 16, 3) := by decide +kernel
theorem dX3_init_24 : decode cX3_init 24 = .ok (.return_, 1) := by decide +kernel
theorem dX3_clear_0 : decode cX3_clear 0 = .ok (.aload_n 0, 1) := by decide +kernel
theorem dX3_clear_1 : decode cX3_clear 1 = .ok (.getfield 16, 3) := by decide +kernel
theorem dX3_clear_4 : decode cX3_clear 4 = .ok (.iconst 0, 1) := by decide +kernel
theorem dX3_clear_5 : decode cX3_clear 5 = .ok (.invokestatic 20, 3) := by decide +kernel
theorem dX3_clear_8 : decode cX3_clear 8 = .ok (.return_, 1) := by decide +kernel
theorem dX3_append_0 : decode cX3_append 0 = .ok (.aload_n 0, 1) := by decide +kernel
theorem dX3_append_1 : decode cX3_append 1 = .ok (.getfield 11, 3) := by decide +kernel
theorem dX3_append_4 : decode cX3_append 4 = .ok (.iload_n 1, 1) := by decide +kernel
theorem dX3_append_5 : decode cX3_append 5 = .ok (.aaload, 1) := by decide +kernel
theorem dX3_append_6 : decode cX3_append 6 = .ok (.aload_n 0, 1) := by decide +kernel
theorem dX3_append_7 : decode cX3_append 7 = .ok (.getfield 16, 3) := by decide +kernel
theorem dX3_append_10 : decode cX3_append 10 = .ok (.iload_n 1, 1) := by decide +kernel
theorem dX3_append_11 : decode cX3_append 11 = .ok (.iaload, 1) := by decide +kernel
theorem dX3_append_12 : decode cX3_append 12 = .ok (.iload_n 2, 1) := by decide +kernel
theorem dX3_append_13 : decode cX3_append 13 = .ok (.iastore, 1) := by decide +kernel
theorem dX3_append_14 : decode cX3_append 14 = .ok (.aload_n 0, 1) := by decide +kernel
theorem dX3_append_15 : decode cX3_append 15 = .ok (.getfield 16, 3) := by decide +kernel
theorem dX3_append_18 : decode cX3_append 18 = .ok (.iload_n 1, 1) := by decide +kernel
theorem dX3_append_19 : decode cX3_append 19 = .ok (.dup2, 1) := by decide +kernel
theorem dX3_append_20 : decode cX3_append 20 = .ok (.iaload, 1) := by decide +kernel
theorem dX3_append_21 : decode cX3_append 21 = .ok (.iconst 1, 1) := by decide +kernel
theorem dX3_append_22 : decode cX3_append 22 = .ok (.iadd, 1) := by decide +kernel
theorem dX3_append_23 : decode cX3_append 23 = .ok (.iastore, 1) := by decide +kernel
theorem dX3_append_24 : decode cX3_append 24 = .ok (.return_, 1) := by decide +kernel
theorem dX3_exchange_0 : decode cX3_exchange 0 = .ok (.aload_n 0, 1) := by decide +kernel
theorem dX3_exchange_1 : decode cX3_exchange 1 = .ok (.getfield 11, 3) := by decide +kernel
theorem dX3_exchange_4 : decode cX3_exchange 4 = .ok (.iload_n 1, 1) := by decide +kernel
theorem dX3_exchange_5 : decode cX3_exchange 5 = .ok (.aaload, 1) := by decide +kernel
theorem dX3_exchange_6 : decode cX3_exchange 6 = .ok (.iload_n 2, 1) := by decide +kernel
theorem dX3_exchange_7 : decode cX3_exchange 7 = .ok (.iaload, 1) := by decide +kernel
theorem dX3_exchange_8 : decode cX3_exchange 8 = .ok (.istore_n 3, 1) := by decide +kernel
theorem dX3_exchange_9 : decode cX3_exchange 9 = .ok (.aload_n 0, 1) := by decide +kernel
theorem dX3_exchange_10 : decode cX3_exchange 10 = .ok (.getfield 11, 3) := by decide +kernel
theorem dX3_exchange_13 : decode cX3_exchange 13 = .ok (.iload_n 1, 1) := by decide +kernel
theorem dX3_exchange_14 : decode cX3_exchange 14 = .ok (.aaload, 1) := by decide +kernel
theorem dX3_exchange_15 : decode cX3_exchange 15 = .ok (.iload_n 2, 1) := by decide +kernel
theorem dX3_exchange_16 : decode cX3_exchange 16 = .ok (.aload_n 0, 1) := by decide +kernel
theorem dX3_exchange_17 : decode cX3_exchange 17 = .ok (.getfield 11, 3) := by decide +kernel
theorem dX3_exchange_20 : decode cX3_exchange 20 = .ok (.iload_n 1, 1) := by decide +kernel
theorem dX3_exchange_21 : decode cX3_exchange 21 = .ok (.aaload, 1) := by decide +kernel
theorem dX3_exchange_22 : decode cX3_exchange 22 = .ok (.iload_n 2, 1) := by decide +kernel
theorem dX3_exchange_23 : decode cX3_exchange 23 = .ok (.iconst 1, 1) := by decide +kernel
theorem dX3_exchange_24 : decode cX3_exchange 24 = .ok (.iadd, 1) := by decide +kernel
theorem dX3_exchange_25 : decode cX3_exchange 25 = .ok (.iaload, 1) := by decide +kernel
theorem dX3_exchange_26 : decode cX3_exchange 26 = .ok (.iastore, 1) := by decide +kernel
theorem dX3_exchange_27 : decode cX3_exchange 27 = .ok (.aload_n 0, 1) := by decide +kernel
theorem dX3_exchange_28 : decode cX3_exchange 28 = .ok (.getfield 11, 3) := by decide +kernel
theorem dX3_exchange_31 : decode cX3_exchange 31 = .ok (.iload_n 1, 1) := by decide +kernel
theorem dX3_exchange_32 : decode cX3_exchange 32 = .ok (.aaload, 1) := by decide +kernel
theorem dX3_exchange_33 : decode cX3_exchange 33 = .ok (.iload_n 2, 1) := by decide +kernel
theorem dX3_exchange_34 : decode cX3_exchange 34 = .ok (.iconst 1, 1) := by decide +kernel
theorem dX3_exchange_35 : decode cX3_exchange 35 = .ok (.iadd, 1) := by decide +kernel
theorem dX3_exchange_36 : decode cX3_exchange 36 = .ok (.iload_n 3, 1) := by decide +kernel
theorem dX3_exchange_37 : decode cX3_exchange 37 = .ok (.iastore, 1) := by decide +kernel
theorem dX3_exchange_38 : decode cX3_exchange 38 = .ok (.return_, 1) := by decide +kernel
theorem dX3_move_0 : decode cX3_move 0 = .ok (.iload_n 2, 1) := by decide +kernel
theorem dX3_move_1 : decode cX3_move 1 = .ok (.istore 4, 2) := by decide +kernel
theorem dX3_move_3 : decode cX3_move 3 = .ok (.iload 4, 2) := by decide +kernel
theorem dX3_move_5 : decode cX3_move 5 = .ok (.iload_n 3, 1) := by decide +kernel
theorem dX3_move_6 : decode cX3_move 6 = .ok (.if_icmp .ge 16, 3) := by decide +kernel
theorem dX3_move_9 : decode cX3_move 9 = .ok (.aload_n 0, 1) := by decide +kernel
theorem dX3_move_10 : decode cX3_move 10 = .ok (.iload_n 1, 1) := by decide +kernel
theorem dX3_move_11 : decode cX3_move 11 = .ok (.iload 4, 2) := by decide +kernel
theorem dX3_move_13 : decode cX3_move 13 = .ok (.invokevirtual 26, 3) := by decide +kernel
theorem dX3_move_16 : decode cX3_move 16 = .ok (.iinc 4 1, 3) := by decide +kernel
theorem dX3_move_19 : decode cX3_move 19 = .ok (.goto (-16), 3) := by decide +kernel
theorem dX3_move_22 : decode cX3_move 22 = .ok (.iload_n 2, 1) := by decide +kernel
theorem dX3_move_23 : decode cX3_move 23 = .ok (.istore 4, 2) := by decide +kernel
theorem dX3_move_25 : decode cX3_move 25 = .ok (.iload 4, 2) := by decide +kernel
theorem dX3_move_27 : decode cX3_move 27 = .ok (.iload_n 3, 1) := by decide +kernel
theorem dX3_move_28 : decode cX3_move 28 = .ok (.if_icmp .le 18, 3) := by decide +kernel
theorem dX3_move_31 : decode cX3_move 31 = .ok (.aload_n 0, 1) := by decide +kernel
theorem dX3_move_32 : decode cX3_move 32 = .ok (.iload_n 1, 1) := by decide +kernel
theorem dX3_move_33 : decode cX3_move 33 = .ok (.iload 4, 2) := by decide +kernel
theorem dX3_move_35 : decode cX3_move 35 = .ok (.iconst 1, 1) := by decide +kernel
theorem dX3_move_36 : decode cX3_move 36 = .ok (.isub, 1) := by decide +kernel
theorem dX3_move_37 : decode cX3_move 37 = .ok (.invokevirtual 26, 3) := by decide +kernel
theorem dX3_move_40 : decode cX3_move 40 = .ok (.iinc 4 (-1), 3) := by decide +kernel
theorem dX3_move_43 : decode cX3_move 43 = .ok (.goto (-18), 3) := by decide +kernel
theorem dX3_move_46 : decode cX3_move 46 = .ok (.return_, 1) := by decide +kernel
theorem dX3_placeOf_0 : decode cX3_placeOf 0 = .ok (.iconst 0, 1) := by decide +kernel
theorem dX3_placeOf_1 : decode cX3_placeOf 1 = .ok (.istore_n 3, 1) := by decide +kernel
theorem dX3_placeOf_2 : decode cX3_placeOf 2 = .ok (.iconst 0, 1) := by decide +kernel
theorem dX3_placeOf_3 : decode cX3_placeOf 3 = .ok (.istore 4, 2) := by decide +kernel
theorem dX3_placeOf_5 : decode cX3_placeOf 5 = .ok (.iload 4, 2) := by decide +kernel
theorem dX3_placeOf_7 : decode cX3_placeOf 7 = .ok (.aload_n 0, 1) := by decide +kernel
theorem dX3_placeOf_8 : decode cX3_placeOf 8 = .ok (.getfield 16, 3) := by decide +kernel
theorem dX3_placeOf_11 : decode cX3_placeOf 11 = .ok (.iload_n 1, 1) := by decide +kernel
theorem dX3_placeOf_12 : decode cX3_placeOf 12 = .ok (.iaload, 1) := by decide +kernel
theorem dX3_placeOf_13 : decode cX3_placeOf 13 = .ok (.if_icmp .ge 25, 3) := by decide +kernel
theorem dX3_placeOf_16 : decode cX3_placeOf 16 = .ok (.aload_n 0, 1) := by decide +kernel
theorem dX3_placeOf_17 : decode cX3_placeOf 17 = .ok (.getfield 11, 3) := by decide +kernel
theorem dX3_placeOf_20 : decode cX3_placeOf 20 = .ok (.iload_n 1, 1) := by decide +kernel
theorem dX3_placeOf_21 : decode cX3_placeOf 21 = .ok (.aaload, 1) := by decide +kernel
theorem dX3_placeOf_22 : decode cX3_placeOf 22 = .ok (.iload 4, 2) := by decide +kernel
theorem dX3_placeOf_24 : decode cX3_placeOf 24 = .ok (.iaload, 1) := by decide +kernel
theorem dX3_placeOf_25 : decode cX3_placeOf 25 = .ok (.iload_n 2, 1) := by decide +kernel
theorem dX3_placeOf_26 : decode cX3_placeOf 26 = .ok (.if_icmp .ne 6, 3) := by decide +kernel
theorem dX3_placeOf_29 : decode cX3_placeOf 29 = .ok (.iload 4, 2) := by decide +kernel
theorem dX3_placeOf_31 : decode cX3_placeOf 31 = .ok (.istore_n 3, 1) := by decide +kernel
theorem dX3_placeOf_32 : decode cX3_placeOf 32 = .ok (.iinc 4 1, 3) := by decide +kernel
theorem dX3_placeOf_35 : decode cX3_placeOf 35 = .ok (.goto (-30), 3) := by decide +kernel
theorem dX3_placeOf_38 : decode cX3_placeOf 38 = .ok (.iload_n 3, 1) := by decide +kernel
theorem dX3_placeOf_39 : decode cX3_placeOf 39 = .ok (.ireturn, 1) := by decide +kernel
theorem dX3_takeFrom_0 : decode cX3_takeFrom 0 = .ok (.iconst 0, 1) := by decide +kernel
theorem dX3_takeFrom_1 : decode cX3_takeFrom 1 = .ok (.istore_n 2, 1) := by decide +kernel
theorem dX3_takeFrom_2 : decode cX3_takeFrom 2 = .ok (.iload_n 2, 1) := by decide +kernel
theorem dX3_takeFrom_3 : decode cX3_takeFrom 3 = .ok (.bipush 8, 2) := by decide +kernel
theorem dX3_takeFrom_5 : decode cX3_takeFrom 5 = .ok (.if_icmp .ge 28, 3) := by decide +kernel
theorem dX3_takeFrom_8 : decode cX3_takeFrom 8 = .ok (.aload_n 1, 1) := by decide +kernel
theorem dX3_takeFrom_9 : decode cX3_takeFrom 9 = .ok (.getfield 11, 3) := by decide +kernel
theorem dX3_takeFrom_12 : decode cX3_takeFrom 12 = .ok (.iload_n 2, 1) := by decide +kernel
theorem dX3_takeFrom_13 : decode cX3_takeFrom 13 = .ok (.aaload, 1) := by decide +kernel
theorem dX3_takeFrom_14 : decode cX3_takeFrom 14 = .ok (.iconst 0, 1) := by decide +kernel
theorem dX3_takeFrom_15 : decode cX3_takeFrom 15 = .ok (.aload_n 0, 1) := by decide +kernel
theorem dX3_takeFrom_16 : decode cX3_takeFrom 16 = .ok (.getfield 11, 3) := by decide +kernel
theorem dX3_takeFrom_19 : decode cX3_takeFrom 19 = .ok (.iload_n 2, 1) := by decide +kernel
theorem dX3_takeFrom_20 : decode cX3_takeFrom 20 = .ok (.aaload, 1) := by decide +kernel
theorem dX3_takeFrom_21 : decode cX3_takeFrom 21 = .ok (.iconst 0, 1) := by decide +kernel
theorem dX3_takeFrom_22 : decode cX3_takeFrom 22 = .ok (.bipush 32, 2) := by decide +kernel
theorem dX3_takeFrom_24 : decode cX3_takeFrom 24 = .ok (.invokestatic 30, 3) := by decide +kernel
theorem dX3_takeFrom_27 : decode cX3_takeFrom 27 = .ok (.iinc 2 1, 3) := by decide +kernel
theorem dX3_takeFrom_30 : decode cX3_takeFrom 30 = .ok (.goto (-28), 3) := by decide +kernel
theorem dX3_takeFrom_33 : decode cX3_takeFrom 33 = .ok (.aload_n 1, 1) := by decide +kernel
theorem dX3_takeFrom_34 : decode cX3_takeFrom 34 = .ok (.getfield 16, 3) := by decide +kernel
theorem dX3_takeFrom_37 : decode cX3_takeFrom 37 = .ok (.iconst 0, 1) := by decide +kernel
theorem dX3_takeFrom_38 : decode cX3_takeFrom 38 = .ok (.aload_n 0, 1) := by decide +kernel
theorem dX3_takeFrom_39 : decode cX3_takeFrom 39 = .ok (.getfield 16, 3) := by decide +kernel
theorem dX3_takeFrom_42 : decode cX3_takeFrom 42 = .ok (.iconst 0, 1) := by decide +kernel
theorem dX3_takeFrom_43 : decode cX3_takeFrom 43 = .ok (.bipush 8, 2) := by decide +kernel
theorem dX3_takeFrom_45 : decode cX3_takeFrom 45 = .ok (.invokestatic 30, 3) := by decide +kernel
theorem dX3_takeFrom_48 : decode cX3_takeFrom 48 = .ok (.return_, 1) := by decide +kernel
theorem dX4_init_0 : decode cX4_init 0 = .ok (.aload_n 0, 1) := by decide +kernel
theorem dX4_init_1 : decode cX4_init 1 = .ok (.invokespecial 3, 3) := by decide +kernel
theorem dX4_init_4 : decode cX4_init 4 = .ok (.aload_n 0, 1) := by decide +kernel
theorem dX4_init_5 : decode cX4_init 5 = .ok (.bipush 101, 2) := by decide +kernel
theorem dX4_init_7 : decode cX4_init 7 = .ok (.bipush 32, 2) := by decide +kernel
theorem dX4_init_9 : decode cX4_init 9 = .ok (.multianewarray 9 2, 4) := by decide +kernel
theorem dX4_init_13 : decode cX4_init 13 = .ok (.putfield 11, 3) := by decide +kernel
theorem dX4_init_16 : decode cX4_init 16 = .ok (.aload_n 0, 1) := by decide +kernel
theorem dX4_init_17 : decode cX4_init 17 = .ok (.new 16, 3) := by decide +kernel
theorem dX4_init_20 : decode cX4_init 20 = .ok (.dup, 1) := by decide +kernel
theorem dX4_init_21 : decode cX4_init 21 = .ok (.invokespecial 18, 3) := by decide +kernel
theorem dX4_init_24 : decode cX4_init 24 = .ok (.putfield 19, 3) := by decide +kernel
theorem dX4_init_27 : decode cX4_init 27 = .ok (.aload_n 0, 1) := by decide +kernel
theorem dX4_init_28 : decode cX4_init 28 = .ok (.new 23, 3) := by decide +kernel
theorem dX4_init_31 : decode cX4_init 31 = .ok (.dup, 1) := by decide +kernel
theorem dX4_init_32 : decode cX4_init 32 = .ok (.invokespecial 25, 3) := by decide +kernel
theorem dX4_init_35 : decode cX4_init 35 = .ok (.putfield 26, 3) := by decide +kernel
theorem dX4_init_38 : decode cX4_init 38 = .ok (.aload_n 0, 1) := by decide +kernel
theorem dX4_init_39 : decode cX4_init 39 = .ok (.new 30, 3) := by decide +kernel
theorem dX4_init_42 : decode cX4_init 42 = .ok (.dup, 1) := by decide +kernel
theorem dX4_init_43 : decode cX4_init 43 = .ok (.invokespecial 32, 3) := by decide +kernel
theorem dX4_init_46 : decode cX4_init 46 = .ok (.putfield 33, 3) := by decide +kernel
theorem dX4_init_49 : decode cX4_init 49 = .ok (.return_, 1) := by decide +kernel
theorem dX4_seek_0 : decode cX4_seek 0 = .ok (.aload_n 0, 1) := by decide +kernel
theorem dX4_seek_1 : decode cX4_seek 1 = .ok (.iconst 0, 1) := by decide +kernel
theorem dX4_seek_2 : decode cX4_seek 2 = .ok (.putfield 37, 3) := by decide +kernel
theorem dX4_seek_5 : decode cX4_seek 5 = .ok (.aload_n 0, 1) := by decide +kernel
theorem dX4_seek_6 : decode cX4_seek 6 = .ok (.iconst 0, 1) := by decide +kernel
theorem dX4_seek_7 : decode cX4_seek 7 = .ok (.putfield 41, 3) := by decide +kernel
theorem dX4_seek_10 : decode cX4_seek 10 = .ok (.aload_n 0, 1) := by decide +kernel
theorem dX4_seek_11 : decode cX4_seek 11 = .ok (.getfield 11, 3) := by decide +kernel
theorem dX4_seek_14 : decode cX4_seek 14 = .ok (.iconst 0, 1) := by decide +kernel
theorem dX4_seek_15 : decode cX4_seek 15 = .ok (.aaload, 1) := by decide +kernel
theorem dX4_seek_16 : decode cX4_seek 16 = .ok (.iconst 0, 1) := by decide +kernel
theorem dX4_seek_17 : decode cX4_seek 17 = .ok (.invokestatic 44, 3) := by decide +kernel
theorem dX4_seek_20 : decode cX4_seek 20 = .ok (.aload_n 0, 1) := by decide +kernel
theorem dX4_seek_21 : decode cX4_seek 21 = .ok (.iconst 1, 1) := by decide +kernel
theorem dX4_seek_22 : decode cX4_seek 22 = .ok (.putfield 50, 3) := by decide +kernel
theorem dX4_seek_25 : decode cX4_seek 25 = .ok (.aload_n 0, 1) := by decide +kernel
theorem dX4_seek_26 : decode cX4_seek 26 = .ok (.getfield 50, 3) := by decide +kernel
theorem dX4_seek_29 : decode cX4_seek 29 = .ok (.ifCond .le 88, 3) := by decide +kernel
theorem dX4_seek_32 : decode cX4_seek 32 = .ok (.aload_n 0, 1) := by decide +kernel
theorem dX4_seek_33 : decode cX4_seek 33 = .ok (.getfield 37, 3) := by decide +kernel
theorem dX4_seek_36 : decode cX4_seek 36 = .ok (.iload_n 3, 1) := by decide +kernel
theorem dX4_seek_37 : decode cX4_seek 37 = .ok (.if_icmp .ge 80, 3) := by decide +kernel
theorem dX4_seek_40 : decode cX4_seek 40 = .ok (.aload_n 0, 1) := by decide +kernel
theorem dX4_seek_41 : decode cX4_seek 41 = .ok (.dup, 1) := by decide +kernel
theorem dX4_seek_42 : decode cX4_seek 42 = .ok (.getfield 37, 3) := by decide +kernel
theorem dX4_seek_45 : decode cX4_seek 45 = .ok (.iconst 1, 1) := by decide +kernel
theorem dX4_seek_46 : decode cX4_seek 46 = .ok (.iadd, 1) := by decide +kernel
theorem dX4_seek_47 : decode cX4_seek 47 = .ok (.putfield 37, 3) := by decide +kernel
theorem dX4_seek_50 : decode cX4_seek 50 = .ok (.aload_n 0, 1) := by decide +kernel
theorem dX4_seek_51 : decode cX4_seek 51 = .ok (.dup, 1) := by decide +kernel
theorem dX4_seek_52 : decode cX4_seek 52 = .ok (.getfield 50, 3) := by decide +kernel
theorem dX4_seek_55 : decode cX4_seek 55 = .ok (.iconst 1, 1) := by decide +kernel
theorem dX4_seek_56 : decode cX4_seek 56 = .ok (.isub, 1) := by decide +kernel
theorem dX4_seek_57 : decode cX4_seek 57 = .ok (.putfield 50, 3) := by decide +kernel
theorem dX4_seek_60 : decode cX4_seek 60 = .ok (.aload_n 0, 1) := by decide +kernel
theorem dX4_seek_61 : decode cX4_seek 61 = .ok (.getfield 11, 3) := by decide +kernel
theorem dX4_seek_64 : decode cX4_seek 64 = .ok (.aload_n 0, 1) := by decide +kernel
theorem dX4_seek_65 : decode cX4_seek 65 = .ok (.getfield 50, 3) := by decide +kernel
theorem dX4_seek_68 : decode cX4_seek 68 = .ok (.aaload, 1) := by decide +kernel
theorem dX4_seek_69 : decode cX4_seek 69 = .ok (.iconst 0, 1) := by decide +kernel
theorem dX4_seek_70 : decode cX4_seek 70 = .ok (.aload_n 0, 1) := by decide +kernel
theorem dX4_seek_71 : decode cX4_seek 71 = .ok (.getfield 19, 3) := by decide +kernel
theorem dX4_seek_74 : decode cX4_seek 74 = .ok (.getfield 53, 3) := by decide +kernel
theorem dX4_seek_77 : decode cX4_seek 77 = .ok (.iconst 0, 1) := by decide +kernel
theorem dX4_seek_78 : decode cX4_seek 78 = .ok (.bipush 32, 2) := by decide +kernel
theorem dX4_seek_80 : decode cX4_seek 80 = .ok (.invokestatic 57, 3) := by decide +kernel
theorem dX4_seek_83 : decode cX4_seek 83 = .ok (.aload_n 0, 1) := by decide +kernel
theorem dX4_seek_84 : decode cX4_seek 84 = .ok (.getfield 19, 3) := by decide +kernel
theorem dX4_seek_87 : decode cX4_seek 87 = .ok (.aload_n 1, 1) := by decide +kernel
theorem dX4_seek_88 : decode cX4_seek 88 = .ok (.aload_n 0, 1) := by decide +kernel
theorem dX4_seek_89 : decode cX4_seek 89 = .ok (.getfield 63, 3) := by decide +kernel
theorem dX4_seek_92 : decode cX4_seek 92 = .ok (.iconst 1, 1) := by decide +kernel
theorem dX4_seek_93 : decode cX4_seek 93 = .ok (.isub, 1) := by decide +kernel
theorem dX4_seek_94 : decode cX4_seek 94 = .ok (.invokevirtual 66, 3) := by decide +kernel
theorem dX4_seek_97 : decode cX4_seek 97 = .ok (.ifCond .eq (-72), 3) := by decide +kernel
theorem dX4_seek_100 : decode cX4_seek 100 = .ok (.aload_n 0, 1) := by decide +kernel
theorem dX4_seek_101 : decode cX4_seek 101 = .ok (.aload_n 1, 1) := by decide +kernel
theorem dX4_seek_102 : decode cX4_seek 102 = .ok (.invokevirtual 70, 3) := by decide +kernel
theorem dX4_seek_105 : decode cX4_seek 105 = .ok (.ifCond .ne (-80), 3) := by decide +kernel
theorem dX4_seek_108 : decode cX4_seek 108 = .ok (.aload_n 0, 1) := by decide +kernel
theorem dX4_seek_109 : decode cX4_seek 109 = .ok (.aload_n 1, 1) := by decide +kernel
theorem dX4_seek_110 : decode cX4_seek 110 = .ok (.aload_n 2, 1) := by decide +kernel
theorem dX4_seek_111 : decode cX4_seek 111 = .ok (.invokevirtual 74, 3) := by decide +kernel
theorem dX4_seek_114 : decode cX4_seek 114 = .ok (.goto (-89), 3) := by decide +kernel
theorem dX4_seek_117 : decode cX4_seek 117 = .ok (.aload_n 0, 1) := by decide +kernel
theorem dX4_seek_118 : decode cX4_seek 118 = .ok (.getfield 50, 3) := by decide +kernel
theorem dX4_seek_121 : decode cX4_seek 121 = .ok (.ifCond .ne 7, 3) := by decide +kernel
theorem dX4_seek_124 : decode cX4_seek 124 = .ok (.iconst 1, 1) := by decide +kernel
theorem dX4_seek_125 : decode cX4_seek 125 = .ok (.goto 4, 3) := by decide +kernel
theorem dX4_seek_128 : decode cX4_seek 128 = .ok (.iconst 0, 1) := by decide +kernel
theorem dX4_seek_129 : decode cX4_seek 129 = .ok (.ireturn, 1) := by decide +kernel
theorem dX4_splitCase_0 : decode cX4_splitCase 0 = .ok (.iconst 0, 1) := by decide +kernel
theorem dX4_splitCase_1 : decode cX4_splitCase 1 = .ok (.istore_n 2, 1) := by decide +kernel
theorem dX4_splitCase_2 : decode cX4_splitCase 2 = .ok (.iload_n 2, 1) := by decide +kernel
theorem dX4_splitCase_3 : decode cX4_splitCase 3 = .ok (.aload_n 1, 1) := by decide +kernel
theorem dX4_splitCase_4 : decode cX4_splitCase 4 = .ok (.getfield 78, 3) := by decide +kernel
theorem dX4_splitCase_7 : decode cX4_splitCase 7 = .ok (.if_icmp .ge 94, 3) := by decide +kernel
theorem dX4_splitCase_10 : decode cX4_splitCase 10 = .ok (.iload_n 2, 1) := by decide +kernel
theorem dX4_splitCase_11 : decode cX4_splitCase 11 = .ok (.iconst 1, 1) := by decide +kernel
theorem dX4_splitCase_12 : decode cX4_splitCase 12 = .ok (.iadd, 1) := by decide +kernel
theorem dX4_splitCase_13 : decode cX4_splitCase 13 = .ok (.istore_n 3, 1) := by decide +kernel
theorem dX4_splitCase_14 : decode cX4_splitCase 14 = .ok (.iload_n 3, 1) := by decide +kernel
theorem dX4_splitCase_15 : decode cX4_splitCase 15 = .ok (.aload_n 1, 1) := by decide +kernel
theorem dX4_splitCase_16 : decode cX4_splitCase 16 = .ok (.getfield 78, 3) := by decide +kernel
theorem dX4_splitCase_19 : decode cX4_splitCase 19 = .ok (.if_icmp .ge 76, 3) := by decide +kernel
theorem dX4_splitCase_22 : decode cX4_splitCase 22 = .ok (.aload_n 1, 1) := by decide +kernel
theorem dX4_splitCase_23 : decode cX4_splitCase 23 = .ok (.getfield 83, 3) := by decide +kernel
theorem dX4_splitCase_26 : decode cX4_splitCase 26 = .ok (.iload_n 2, 1) := by decide +kernel
theorem dX4_splitCase_27 : decode cX4_splitCase 27 = .ok (.iaload, 1) := by decide +kernel
theorem dX4_splitCase_28 : decode cX4_splitCase 28 = .ok (.istore 4, 2) := by decide +kernel
theorem dX4_splitCase_30 : decode cX4_splitCase 30 = .ok (.aload_n 1, 1) := by decide +kernel
theorem dX4_splitCase_31 : decode cX4_splitCase 31 = .ok (.getfield 83, 3) := by decide +kernel
theorem dX4_splitCase_34 : decode cX4_splitCase 34 = .ok (.iload_n 3, 1) := by decide +kernel
theorem dX4_splitCase_35 : decode cX4_splitCase 35 = .ok (.iaload, 1) := by decide +kernel
theorem dX4_splitCase_36 : decode cX4_splitCase 36 = .ok (.iload 4, 2) := by decide +kernel
theorem dX4_splitCase_38 : decode cX4_splitCase 38 = .ok (.if_icmp .ne 17, 3) := by decide +kernel
theorem dX4_splitCase_41 : decode cX4_splitCase 41 = .ok (.aload_n 1, 1) := by decide +kernel
theorem dX4_splitCase_42 : decode cX4_splitCase 42 = .ok (.getfield 86, 3) := by decide +kernel
theorem dX4_splitCase_45 : decode cX4_splitCase 45 = .ok (.iload 4, 2) := by decide +kernel
theorem dX4_splitCase_47 : decode cX4_splitCase 47 = .ok (.iaload, 1) := by decide +kernel
theorem dX4_splitCase_48 : decode cX4_splitCase 48 = .ok (.ifCond .ne 7, 3) := by decide +kernel
theorem dX4_splitCase_51 : decode cX4_splitCase 51 = .ok (.iconst 1, 1) := by decide +kernel
theorem dX4_splitCase_52 : decode cX4_splitCase 52 = .ok (.goto 4, 3) := by decide +kernel
theorem dX4_splitCase_55 : decode cX4_splitCase 55 = .ok (.iconst 0, 1) := by decide +kernel
theorem dX4_splitCase_56 : decode cX4_splitCase 56 = .ok (.istore 5, 2) := by decide +kernel
theorem dX4_splitCase_58 : decode cX4_splitCase 58 = .ok (.iload 5, 2) := by decide +kernel
theorem dX4_splitCase_60 : decode cX4_splitCase 60 = .ok (.ifCond .eq 29, 3) := by decide +kernel
theorem dX4_splitCase_63 : decode cX4_splitCase 63 = .ok (.aload_n 0, 1) := by decide +kernel
theorem dX4_splitCase_64 : decode cX4_splitCase 64 = .ok (.getfield 19, 3) := by decide +kernel
theorem dX4_splitCase_67 : decode cX4_splitCase 67 = .ok (.iload_n 2, 1) := by decide +kernel
theorem dX4_splitCase_68 : decode cX4_splitCase 68 = .ok (.iload_n 3, 1) := by decide +kernel
theorem dX4_splitCase_69 : decode cX4_splitCase 69 = .ok (.invokevirtual 89, 3) := by decide +kernel
theorem dX4_splitCase_72 : decode cX4_splitCase 72 = .ok (.ifCond .eq 17, 3) := by decide +kernel
theorem dX4_splitCase_75 : decode cX4_splitCase 75 = .ok (.aload_n 0, 1) := by decide +kernel
theorem dX4_splitCase_76 : decode cX4_splitCase 76 = .ok (.iload_n 3, 1) := by decide +kernel
theorem dX4_splitCase_77 : decode cX4_splitCase 77 = .ok (.iload_n 2, 1) := by decide +kernel
theorem dX4_splitCase_78 : decode cX4_splitCase 78 = .ok (.invokevirtual 93, 3) := by decide +kernel
theorem dX4_splitCase_81 : decode cX4_splitCase 81 = .ok (.aload_n 0, 1) := by decide +kernel
theorem dX4_splitCase_82 : decode cX4_splitCase 82 = .ok (.iload_n 2, 1) := by decide +kernel
end
section
theorem dX4_splitCase_83 : decode cX4_splitCase 83 = .ok (.iload_n 3, 1) := by decide +kernel
theorem dX4_splitCase_84 : decode cX4_splitCase 84 = .ok (.invokevirtual 93, 3) := by decide +kernel
theorem dX4_splitCase_87 : decode cX4_splitCase 87 = .ok (.iconst 1, 1) := by decide +kernel
theorem dX4_splitCase_88 : decode cX4_splitCase 88 = .ok (.ireturn, 1) := by decide +kernel
theorem dX4_splitCase_89 : decode cX4_splitCase 89 = .ok (.iinc 3 1, 3) := by decide +kernel
theorem dX4_splitCase_92 : decode cX4_splitCase 92 = .ok (.goto (-78), 3) := by decide +kernel
theorem dX4_splitCase_95 : decode cX4_splitCase 95 = .ok (.iinc 2 1, 3) := by decide +kernel
theorem dX4_splitCase_98 : decode cX4_splitCase 98 = .ok (.goto (-96), 3) := by decide +kernel
theorem dX4_splitCase_101 : decode cX4_splitCase 101 = .ok (.iconst 0, 1) := by decide +kernel
theorem dX4_splitCase_102 : decode cX4_splitCase 102 = .ok (.ireturn, 1) := by decide +kernel
theorem dX4_addCase_0 : decode cX4_addCase 0 = .ok (.aload_n 0, 1) := by decide +kernel
theorem dX4_addCase_1 : decode cX4_addCase 1 = .ok (.getfield 50, 3) := by decide +kernel
theorem dX4_addCase_4 : decode cX4_addCase 4 = .ok (.aload_n 0, 1) := by decide +kernel
theorem dX4_addCase_5 : decode cX4_addCase 5 = .ok (.getfield 11, 3) := by decide +kernel
theorem dX4_addCase_8 : decode cX4_addCase 8 = .ok (.arraylength, 1) := by decide +kernel
theorem dX4_addCase_9 : decode cX4_addCase 9 = .ok (.if_icmp .ge 53, 3) := by decide +kernel
theorem dX4_addCase_12 : decode cX4_addCase 12 = .ok (.aload_n 0, 1) := by decide +kernel
theorem dX4_addCase_13 : decode cX4_addCase 13 = .ok (.getfield 19, 3) := by decide +kernel
theorem dX4_addCase_16 : decode cX4_addCase 16 = .ok (.getfield 53, 3) := by decide +kernel
theorem dX4_addCase_19 : decode cX4_addCase 19 = .ok (.iconst 0, 1) := by decide +kernel
theorem dX4_addCase_20 : decode cX4_addCase 20 = .ok (.aload_n 0, 1) := by decide +kernel
theorem dX4_addCase_21 : decode cX4_addCase 21 = .ok (.getfield 11, 3) := by decide +kernel
theorem dX4_addCase_24 : decode cX4_addCase 24 = .ok (.aload_n 0, 1) := by decide +kernel
theorem dX4_addCase_25 : decode cX4_addCase 25 = .ok (.getfield 50, 3) := by decide +kernel
theorem dX4_addCase_28 : decode cX4_addCase 28 = .ok (.aaload, 1) := by decide +kernel
theorem dX4_addCase_29 : decode cX4_addCase 29 = .ok (.iconst 0, 1) := by decide +kernel
theorem dX4_addCase_30 : decode cX4_addCase 30 = .ok (.bipush 32, 2) := by decide +kernel
theorem dX4_addCase_32 : decode cX4_addCase 32 = .ok (.invokestatic 57, 3) := by decide +kernel
theorem dX4_addCase_35 : decode cX4_addCase 35 = .ok (.aload_n 0, 1) := by decide +kernel
theorem dX4_addCase_36 : decode cX4_addCase 36 = .ok (.getfield 11, 3) := by decide +kernel
theorem dX4_addCase_39 : decode cX4_addCase 39 = .ok (.aload_n 0, 1) := by decide +kernel
theorem dX4_addCase_40 : decode cX4_addCase 40 = .ok (.getfield 50, 3) := by decide +kernel
theorem dX4_addCase_43 : decode cX4_addCase 43 = .ok (.aaload, 1) := by decide +kernel
theorem dX4_addCase_44 : decode cX4_addCase 44 = .ok (.iload_n 1, 1) := by decide +kernel
theorem dX4_addCase_45 : decode cX4_addCase 45 = .ok (.dup2, 1) := by decide +kernel
theorem dX4_addCase_46 : decode cX4_addCase 46 = .ok (.iaload, 1) := by decide +kernel
theorem dX4_addCase_47 : decode cX4_addCase 47 = .ok (.iconst 1, 1) := by decide +kernel
theorem dX4_addCase_48 : decode cX4_addCase 48 = .ok (.iload_n 2, 1) := by decide +kernel
theorem dX4_addCase_49 : decode cX4_addCase 49 = .ok (.ishl, 1) := by decide +kernel
theorem dX4_addCase_50 : decode cX4_addCase 50 = .ok (.ior, 1) := by decide +kernel
theorem dX4_addCase_51 : decode cX4_addCase 51 = .ok (.iastore, 1) := by decide +kernel
theorem dX4_addCase_52 : decode cX4_addCase 52 = .ok (.aload_n 0, 1) := by decide +kernel
theorem dX4_addCase_53 : decode cX4_addCase 53 = .ok (.dup, 1) := by decide +kernel
theorem dX4_addCase_54 : decode cX4_addCase 54 = .ok (.getfield 50, 3) := by decide +kernel
theorem dX4_addCase_57 : decode cX4_addCase 57 = .ok (.iconst 1, 1) := by decide +kernel
theorem dX4_addCase_58 : decode cX4_addCase 58 = .ok (.iadd, 1) := by decide +kernel
theorem dX4_addCase_59 : decode cX4_addCase 59 = .ok (.putfield 50, 3) := by decide +kernel
theorem dX4_addCase_62 : decode cX4_addCase 62 = .ok (.return_, 1) := by decide +kernel
theorem dX4_tryOrders_0 : decode cX4_tryOrders 0 = .ok (.aload_n 0, 1) := by decide +kernel
theorem dX4_tryOrders_1 : decode cX4_tryOrders 1 = .ok (.getfield 26, 3) := by decide +kernel
theorem dX4_tryOrders_4 : decode cX4_tryOrders 4 = .ok (.aload_n 2, 1) := by decide +kernel
theorem dX4_tryOrders_5 : decode cX4_tryOrders 5 = .ok (.invokevirtual 97, 3) := by decide +kernel
theorem dX4_tryOrders_8 : decode cX4_tryOrders 8 = .ok (.iconst 0, 1) := by decide +kernel
theorem dX4_tryOrders_9 : decode cX4_tryOrders 9 = .ok (.istore_n 3, 1) := by decide +kernel
theorem dX4_tryOrders_10 : decode cX4_tryOrders 10 = .ok (.iload_n 3, 1) := by decide +kernel
theorem dX4_tryOrders_11 : decode cX4_tryOrders 11 = .ok (.aload_n 1, 1) := by decide +kernel
theorem dX4_tryOrders_12 : decode cX4_tryOrders 12 = .ok (.getfield 101, 3) := by decide +kernel
theorem dX4_tryOrders_15 : decode cX4_tryOrders 15 = .ok (.if_icmp .ge 24, 3) := by decide +kernel
theorem dX4_tryOrders_18 : decode cX4_tryOrders 18 = .ok (.aload_n 1, 1) := by decide +kernel
theorem dX4_tryOrders_19 : decode cX4_tryOrders 19 = .ok (.getfield 86, 3) := by decide +kernel
theorem dX4_tryOrders_22 : decode cX4_tryOrders 22 = .ok (.iload_n 3, 1) := by decide +kernel
theorem dX4_tryOrders_23 : decode cX4_tryOrders 23 = .ok (.iaload, 1) := by decide +kernel
theorem dX4_tryOrders_24 : decode cX4_tryOrders 24 = .ok (.ifCond .ne 9, 3) := by decide +kernel
theorem dX4_tryOrders_27 : decode cX4_tryOrders 27 = .ok (.aload_n 0, 1) := by decide +kernel
theorem dX4_tryOrders_28 : decode cX4_tryOrders 28 = .ok (.aload_n 1, 1) := by decide +kernel
theorem dX4_tryOrders_29 : decode cX4_tryOrders 29 = .ok (.iload_n 3, 1) := by decide +kernel
theorem dX4_tryOrders_30 : decode cX4_tryOrders 30 = .ok (.invokevirtual 104, 3) := by decide +kernel
theorem dX4_tryOrders_33 : decode cX4_tryOrders 33 = .ok (.iinc 3 1, 3) := by decide +kernel
theorem dX4_tryOrders_36 : decode cX4_tryOrders 36 = .ok (.goto (-26), 3) := by decide +kernel
theorem dX4_tryOrders_39 : decode cX4_tryOrders 39 = .ok (.aload_n 0, 1) := by decide +kernel
theorem dX4_tryOrders_40 : decode cX4_tryOrders 40 = .ok (.getfield 33, 3) := by decide +kernel
theorem dX4_tryOrders_43 : decode cX4_tryOrders 43 = .ok (.aload_n 1, 1) := by decide +kernel
theorem dX4_tryOrders_44 : decode cX4_tryOrders 44 = .ok (.aload_n 0, 1) := by decide +kernel
theorem dX4_tryOrders_45 : decode cX4_tryOrders 45 = .ok (.getfield 26, 3) := by decide +kernel
theorem dX4_tryOrders_48 : decode cX4_tryOrders 48 = .ok (.invokevirtual 108, 3) := by decide +kernel
theorem dX4_tryOrders_51 : decode cX4_tryOrders 51 = .ok (.ifCond .eq 46, 3) := by decide +kernel
theorem dX4_tryOrders_54 : decode cX4_tryOrders 54 = .ok (.aload_n 0, 1) := by decide +kernel
theorem dX4_tryOrders_55 : decode cX4_tryOrders 55 = .ok (.getfield 33, 3) := by decide +kernel
theorem dX4_tryOrders_58 : decode cX4_tryOrders 58 = .ok (.getfield 112, 3) := by decide +kernel
theorem dX4_tryOrders_61 : decode cX4_tryOrders 61 = .ok (.aload_n 0, 1) := by decide +kernel
theorem dX4_tryOrders_62 : decode cX4_tryOrders 62 = .ok (.getfield 63, 3) := by decide +kernel
theorem dX4_tryOrders_65 : decode cX4_tryOrders 65 = .ok (.if_icmp .ge 32, 3) := by decide +kernel
theorem dX4_tryOrders_68 : decode cX4_tryOrders 68 = .ok (.aload_n 0, 1) := by decide +kernel
theorem dX4_tryOrders_69 : decode cX4_tryOrders 69 = .ok (.aload_n 0, 1) := by decide +kernel
theorem dX4_tryOrders_70 : decode cX4_tryOrders 70 = .ok (.getfield 33, 3) := by decide +kernel
theorem dX4_tryOrders_73 : decode cX4_tryOrders 73 = .ok (.getfield 112, 3) := by decide +kernel
theorem dX4_tryOrders_76 : decode cX4_tryOrders 76 = .ok (.putfield 63, 3) := by decide +kernel
theorem dX4_tryOrders_79 : decode cX4_tryOrders 79 = .ok (.aload_n 0, 1) := by decide +kernel
theorem dX4_tryOrders_80 : decode cX4_tryOrders 80 = .ok (.dup, 1) := by decide +kernel
theorem dX4_tryOrders_81 : decode cX4_tryOrders 81 = .ok (.getfield 41, 3) := by decide +kernel
theorem dX4_tryOrders_84 : decode cX4_tryOrders 84 = .ok (.iconst 1, 1) := by decide +kernel
theorem dX4_tryOrders_85 : decode cX4_tryOrders 85 = .ok (.iadd, 1) := by decide +kernel
theorem dX4_tryOrders_86 : decode cX4_tryOrders 86 = .ok (.putfield 41, 3) := by decide +kernel
theorem dX4_tryOrders_89 : decode cX4_tryOrders 89 = .ok (.aload_n 2, 1) := by decide +kernel
theorem dX4_tryOrders_90 : decode cX4_tryOrders 90 = .ok (.aload_n 0, 1) := by decide +kernel
theorem dX4_tryOrders_91 : decode cX4_tryOrders 91 = .ok (.getfield 26, 3) := by decide +kernel
theorem dX4_tryOrders_94 : decode cX4_tryOrders 94 = .ok (.invokevirtual 97, 3) := by decide +kernel
theorem dX4_tryOrders_97 : decode cX4_tryOrders 97 = .ok (.return_, 1) := by decide +kernel
theorem dX4_orderMachine_0 : decode cX4_orderMachine 0 = .ok (.aload_n 0, 1) := by decide +kernel
theorem dX4_orderMachine_1 : decode cX4_orderMachine 1 = .ok (.getfield 26, 3) := by decide +kernel
theorem dX4_orderMachine_4 : decode cX4_orderMachine 4 = .ok (.getfield 115, 3) := by decide +kernel
theorem dX4_orderMachine_7 : decode cX4_orderMachine 7 = .ok (.iload_n 2, 1) := by decide +kernel
theorem dX4_orderMachine_8 : decode cX4_orderMachine 8 = .ok (.aaload, 1) := by decide +kernel
theorem dX4_orderMachine_9 : decode cX4_orderMachine 9 = .ok (.astore_n 3, 1) := by decide +kernel
theorem dX4_orderMachine_10 : decode cX4_orderMachine 10 = .ok (.iconst 0, 1) := by decide +kernel
theorem dX4_orderMachine_11 : decode cX4_orderMachine 11 = .ok (.istore 4, 2) := by decide +kernel
theorem dX4_orderMachine_13 : decode cX4_orderMachine 13 = .ok (.iload 4, 2) := by decide +kernel
theorem dX4_orderMachine_15 : decode cX4_orderMachine 15 = .ok (.aload_n 1, 1) := by decide +kernel
theorem dX4_orderMachine_16 : decode cX4_orderMachine 16 = .ok (.getfield 118, 3) := by decide +kernel
theorem dX4_orderMachine_19 : decode cX4_orderMachine 19 = .ok (.iload_n 2, 1) := by decide +kernel
theorem dX4_orderMachine_20 : decode cX4_orderMachine 20 = .ok (.iaload, 1) := by decide +kernel
theorem dX4_orderMachine_21 : decode cX4_orderMachine 21 = .ok (.if_icmp .ge 82, 3) := by decide +kernel
theorem dX4_orderMachine_24 : decode cX4_orderMachine 24 = .ok (.aload_n 1, 1) := by decide +kernel
theorem dX4_orderMachine_25 : decode cX4_orderMachine 25 = .ok (.getfield 121, 3) := by decide +kernel
theorem dX4_orderMachine_28 : decode cX4_orderMachine 28 = .ok (.iload_n 2, 1) := by decide +kernel
theorem dX4_orderMachine_29 : decode cX4_orderMachine 29 = .ok (.aaload, 1) := by decide +kernel
theorem dX4_orderMachine_30 : decode cX4_orderMachine 30 = .ok (.iload 4, 2) := by decide +kernel
theorem dX4_orderMachine_32 : decode cX4_orderMachine 32 = .ok (.iaload, 1) := by decide +kernel
theorem dX4_orderMachine_33 : decode cX4_orderMachine 33 = .ok (.istore 5, 2) := by decide +kernel
theorem dX4_orderMachine_35 : decode cX4_orderMachine 35 = .ok (.iload 4, 2) := by decide +kernel
theorem dX4_orderMachine_37 : decode cX4_orderMachine 37 = .ok (.istore 6, 2) := by decide +kernel
theorem dX4_orderMachine_39 : decode cX4_orderMachine 39 = .ok (.iload 4, 2) := by decide +kernel
theorem dX4_orderMachine_41 : decode cX4_orderMachine 41 = .ok (.istore 7, 2) := by decide +kernel
theorem dX4_orderMachine_43 : decode cX4_orderMachine 43 = .ok (.iload 7, 2) := by decide +kernel
theorem dX4_orderMachine_45 : decode cX4_orderMachine 45 = .ok (.ifCond .le 46, 3) := by decide +kernel
theorem dX4_orderMachine_48 : decode cX4_orderMachine 48 = .ok (.aload_n 0, 1) := by decide +kernel
theorem dX4_orderMachine_49 : decode cX4_orderMachine 49 = .ok (.aload_n 1, 1) := by decide +kernel
theorem dX4_orderMachine_50 : decode cX4_orderMachine 50 = .ok (.aload_n 3, 1) := by decide +kernel
theorem dX4_orderMachine_51 : decode cX4_orderMachine 51 = .ok (.iload 7, 2) := by decide +kernel
theorem dX4_orderMachine_53 : decode cX4_orderMachine 53 = .ok (.iconst 1, 1) := by decide +kernel
theorem dX4_orderMachine_54 : decode cX4_orderMachine 54 = .ok (.isub, 1) := by decide +kernel
theorem dX4_orderMachine_55 : decode cX4_orderMachine 55 = .ok (.iaload, 1) := by decide +kernel
theorem dX4_orderMachine_56 : decode cX4_orderMachine 56 = .ok (.invokevirtual 124, 3) := by decide +kernel
theorem dX4_orderMachine_59 : decode cX4_orderMachine 59 = .ok (.aload_n 0, 1) := by decide +kernel
theorem dX4_orderMachine_60 : decode cX4_orderMachine 60 = .ok (.aload_n 1, 1) := by decide +kernel
theorem dX4_orderMachine_61 : decode cX4_orderMachine 61 = .ok (.iload 5, 2) := by decide +kernel
theorem dX4_orderMachine_63 : decode cX4_orderMachine 63 = .ok (.invokevirtual 124, 3) := by decide +kernel
theorem dX4_orderMachine_66 : decode cX4_orderMachine 66 = .ok (.if_icmp .le 25, 3) := by decide +kernel
theorem dX4_orderMachine_69 : decode cX4_orderMachine 69 = .ok (.aload_n 3, 1) := by decide +kernel
theorem dX4_orderMachine_70 : decode cX4_orderMachine 70 = .ok (.iload 7, 2) := by decide +kernel
theorem dX4_orderMachine_72 : decode cX4_orderMachine 72 = .ok (.aload_n 3, 1) := by decide +kernel
theorem dX4_orderMachine_73 : decode cX4_orderMachine 73 = .ok (.iload 7, 2) := by decide +kernel
theorem dX4_orderMachine_75 : decode cX4_orderMachine 75 = .ok (.iconst 1, 1) := by decide +kernel
theorem dX4_orderMachine_76 : decode cX4_orderMachine 76 = .ok (.isub, 1) := by decide +kernel
theorem dX4_orderMachine_77 : decode cX4_orderMachine 77 = .ok (.iaload, 1) := by decide +kernel
theorem dX4_orderMachine_78 : decode cX4_orderMachine 78 = .ok (.iastore, 1) := by decide +kernel
theorem dX4_orderMachine_79 : decode cX4_orderMachine 79 = .ok (.iload 7, 2) := by decide +kernel
theorem dX4_orderMachine_81 : decode cX4_orderMachine 81 = .ok (.iconst 1, 1) := by decide +kernel
theorem dX4_orderMachine_82 : decode cX4_orderMachine 82 = .ok (.isub, 1) := by decide +kernel
theorem dX4_orderMachine_83 : decode cX4_orderMachine 83 = .ok (.istore 6, 2) := by decide +kernel
theorem dX4_orderMachine_85 : decode cX4_orderMachine 85 = .ok (.iinc 7 (-1), 3) := by decide +kernel
theorem dX4_orderMachine_88 : decode cX4_orderMachine 88 = .ok (.goto (-45), 3) := by decide +kernel
theorem dX4_orderMachine_91 : decode cX4_orderMachine 91 = .ok (.aload_n 3, 1) := by decide +kernel
theorem dX4_orderMachine_92 : decode cX4_orderMachine 92 = .ok (.iload 6, 2) := by decide +kernel
theorem dX4_orderMachine_94 : decode cX4_orderMachine 94 = .ok (.iload 5, 2) := by decide +kernel
theorem dX4_orderMachine_96 : decode cX4_orderMachine 96 = .ok (.iastore, 1) := by decide +kernel
theorem dX4_orderMachine_97 : decode cX4_orderMachine 97 = .ok (.iinc 4 1, 3) := by decide +kernel
theorem dX4_orderMachine_100 : decode cX4_orderMachine 100 = .ok (.goto (-87), 3) := by decide +kernel
theorem dX4_orderMachine_103 : decode cX4_orderMachine 103 = .ok (.return_, 1) := by decide +kernel
theorem dX4_aheadOf_0 : decode cX4_aheadOf 0 = .ok (.aload_n 1, 1) := by decide +kernel
theorem dX4_aheadOf_1 : decode cX4_aheadOf 1 = .ok (.getfield 83, 3) := by decide +kernel
theorem dX4_aheadOf_4 : decode cX4_aheadOf 4 = .ok (.iload_n 2, 1) := by decide +kernel
theorem dX4_aheadOf_5 : decode cX4_aheadOf 5 = .ok (.iaload, 1) := by decide +kernel
theorem dX4_aheadOf_6 : decode cX4_aheadOf 6 = .ok (.istore_n 3, 1) := by decide +kernel
theorem dX4_aheadOf_7 : decode cX4_aheadOf 7 = .ok (.iconst 0, 1) := by decide +kernel
theorem dX4_aheadOf_8 : decode cX4_aheadOf 8 = .ok (.istore 4, 2) := by decide +kernel
theorem dX4_aheadOf_10 : decode cX4_aheadOf 10 = .ok (.iconst 0, 1) := by decide +kernel
theorem dX4_aheadOf_11 : decode cX4_aheadOf 11 = .ok (.istore 5, 2) := by decide +kernel
theorem dX4_aheadOf_13 : decode cX4_aheadOf 13 = .ok (.iload 5, 2) := by decide +kernel
theorem dX4_aheadOf_15 : decode cX4_aheadOf 15 = .ok (.aload_n 1, 1) := by decide +kernel
theorem dX4_aheadOf_16 : decode cX4_aheadOf 16 = .ok (.getfield 118, 3) := by decide +kernel
theorem dX4_aheadOf_19 : decode cX4_aheadOf 19 = .ok (.iload_n 3, 1) := by decide +kernel
theorem dX4_aheadOf_20 : decode cX4_aheadOf 20 = .ok (.iaload, 1) := by decide +kernel
theorem dX4_aheadOf_21 : decode cX4_aheadOf 21 = .ok (.if_icmp .ge 39, 3) := by decide +kernel
theorem dX4_aheadOf_24 : decode cX4_aheadOf 24 = .ok (.iload 4, 2) := by decide +kernel
theorem dX4_aheadOf_26 : decode cX4_aheadOf 26 = .ok (.aload_n 0, 1) := by decide +kernel
theorem dX4_aheadOf_27 : decode cX4_aheadOf 27 = .ok (.getfield 19, 3) := by decide +kernel
theorem dX4_aheadOf_30 : decode cX4_aheadOf 30 = .ok (.aload_n 1, 1) := by decide +kernel
theorem dX4_aheadOf_31 : decode cX4_aheadOf 31 = .ok (.getfield 121, 3) := by decide +kernel
theorem dX4_aheadOf_34 : decode cX4_aheadOf 34 = .ok (.iload_n 3, 1) := by decide +kernel
theorem dX4_aheadOf_35 : decode cX4_aheadOf 35 = .ok (.aaload, 1) := by decide +kernel
theorem dX4_aheadOf_36 : decode cX4_aheadOf 36 = .ok (.iload 5, 2) := by decide +kernel
theorem dX4_aheadOf_38 : decode cX4_aheadOf 38 = .ok (.iaload, 1) := by decide +kernel
theorem dX4_aheadOf_39 : decode cX4_aheadOf 39 = .ok (.iload_n 2, 1) := by decide +kernel
theorem dX4_aheadOf_40 : decode cX4_aheadOf 40 = .ok (.invokevirtual 128, 3) := by decide +kernel
theorem dX4_aheadOf_43 : decode cX4_aheadOf 43 = .ok (.ifCond .eq 7, 3) := by decide +kernel
theorem dX4_aheadOf_46 : decode cX4_aheadOf 46 = .ok (.iconst 1, 1) := by decide +kernel
theorem dX4_aheadOf_47 : decode cX4_aheadOf 47 = .ok (.goto 4, 3) := by decide +kernel
theorem dX4_aheadOf_50 : decode cX4_aheadOf 50 = .ok (.iconst 0, 1) := by decide +kernel
theorem dX4_aheadOf_51 : decode cX4_aheadOf 51 = .ok (.iadd, 1) := by decide +kernel
theorem dX4_aheadOf_52 : decode cX4_aheadOf 52 = .ok (.istore 4, 2) := by decide +kernel
theorem dX4_aheadOf_54 : decode cX4_aheadOf 54 = .ok (.iinc 5 1, 3) := by decide +kernel
theorem dX4_aheadOf_57 : decode cX4_aheadOf 57 = .ok (.goto (-44), 3) := by decide +kernel
theorem dX4_aheadOf_60 : decode cX4_aheadOf 60 = .ok (.iload 4, 2) := by decide +kernel
theorem dX4_aheadOf_62 : decode cX4_aheadOf 62 = .ok (.ireturn, 1) := by decide +kernel
theorem dX5_init_0 : decode cX5_init 0 = .ok (.aload_n 0, 1) := by decide +kernel
theorem dX5_init_1 : decode cX5_init 1 = .ok (.invokespecial 3, 3) := by decide +kernel
theorem dX5_init_4 : decode cX5_init 4 = .ok (.aload_n 0, 1) := by decide +kernel
theorem dX5_init_5 : decode cX5_init 5 = .ok (.bipush 6, 2) := by decide +kernel
theorem dX5_init_7 : decode cX5_init 7 = .ok (.newarray .int, 2) := by decide +kernel
theorem dX5_init_9 : decode cX5_init 9 = .ok (.putfield 9, 3) := by decide +kernel
theorem dX5_init_12 : decode cX5_init 12 = .ok (.aload_n 0, 1) := by decide +kernel
theorem dX5_init_13 : decode cX5_init 13 = .ok (.bipush 6, 2) := by decide +kernel
theorem dX5_init_15 : decode cX5_init 15 = .ok (.newarray .int, 2) := by decide +kernel
theorem dX5_init_17 : decode cX5_init 17 = .ok (.putfield 15, 3) := by decide +kernel
theorem dX5_init_20 : decode cX5_init 20 = .ok (.aload_n 0, 1) := by decide +kernel
theorem dX5_init_21 : decode cX5_init 21 = .ok (.bipush 6, 2) := by decide +kernel
theorem dX5_init_23 : decode cX5_init 23 = .ok (.bipush 40, 2) := by decide +kernel
theorem dX5_init_25 : decode cX5_init 25 = .ok (.multianewarray 18 2, 4) := by decide +kernel
theorem dX5_init_29 : decode cX5_init 29 = .ok (.putfield 20, 3) := by decide +kernel
theorem dX5_init_32 : decode cX5_init 32 = .ok (.aload_n 0, 1) := by decide +kernel
theorem dX5_init_33 : decode cX5_init 33 = .ok (.getfield 9, 3) := by decide +kernel
theorem dX5_init_36 : decode cX5_init 36 = .ok (.iconst (-1), 1) := by decide +kernel
theorem dX5_init_37 : decode cX5_init 37 = .ok (.invokestatic 23, 3) := by decide +kernel
theorem dX5_init_40 : decode cX5_init 40 = .ok (.return_, 1) := by decide +kernel
theorem dX5_cutTo_0 : decode cX5_cutTo 0 = .ok (.iload_n 0, 1) := by decide +kernel
theorem dX5_cutTo_1 : decode cX5_cutTo 1 = .ok (.ifCond .ne 6, 3) := by decide +kernel
theorem dX5_cutTo_4 : decode cX5_cutTo 4 = .ok (.iload_n 1, 1) := by decide +kernel
theorem dX5_cutTo_5 : decode cX5_cutTo 5 = .ok (.i2b, 1) := by decide +kernel
theorem dX5_cutTo_6 : decode cX5_cutTo 6 = .ok (.ireturn, 1) := by decide +kernel
theorem dX5_cutTo_7 : decode cX5_cutTo 7 = .ok (.iload_n 0, 1) := by decide +kernel
theorem dX5_cutTo_8 : decode cX5_cutTo 8 = .ok (.iconst 1, 1) := by decide +kernel
theorem dX5_cutTo_9 : decode cX5_cutTo 9 = .ok (.if_icmp .ne 8, 3) := by decide +kernel
theorem dX5_cutTo_12 : decode cX5_cutTo 12 = .ok (.iload_n 1, 1) := by decide +kernel
theorem dX5_cutTo_13 : decode cX5_cutTo 13 = .ok (.i2s, 1) := by decide +kernel
theorem dX5_cutTo_14 : decode cX5_cutTo 14 = .ok (.goto 4, 3) := by decide +kernel
theorem dX5_cutTo_17 : decode cX5_cutTo 17 = .ok (.iload_n 1, 1) := by decide +kernel
theorem dX5_cutTo_18 : decode cX5_cutTo 18 = .ok (.ireturn, 1) := by decide +kernel
theorem dX5_make_0 : decode cX5_make 0 = .ok (.aload_n 0, 1) := by decide +kernel
theorem dX5_make_1 : decode cX5_make 1 = .ok (.getfield 9, 3) := by decide +kernel
theorem dX5_make_4 : decode cX5_make 4 = .ok (.iload_n 1, 1) := by decide +kernel
theorem dX5_make_5 : decode cX5_make 5 = .ok (.iload_n 2, 1) := by decide +kernel
theorem dX5_make_6 : decode cX5_make 6 = .ok (.iastore, 1) := by decide +kernel
theorem dX5_make_7 : decode cX5_make 7 = .ok (.aload_n 0, 1) := by decide +kernel
theorem dX5_make_8 : decode cX5_make 8 = .ok (.getfield 15, 3) := by decide +kernel
theorem dX5_make_11 : decode cX5_make 11 = .ok (.iload_n 1, 1) := by decide +kernel
theorem dX5_make_12 : decode cX5_make 12 = .ok (.iload_n 3, 1) := by decide +kernel
theorem dX5_make_13 : decode cX5_make 13 = .ok (.iastore, 1) := by decide +kernel
theorem dX5_make_14 : decode cX5_make 14 = .ok (.aload_n 0, 1) := by decide +kernel
theorem dX5_make_15 : decode cX5_make 15 = .ok (.getfield 20, 3) := by decide +kernel
theorem dX5_make_18 : decode cX5_make 18 = .ok (.iload_n 1, 1) := by decide +kernel
theorem dX5_make_19 : decode cX5_make 19 = .ok (.aaload, 1) := by decide +kernel
theorem dX5_make_20 : decode cX5_make 20 = .ok (.iconst 0, 1) := by decide +kernel
theorem dX5_make_21 : decode cX5_make 21 = .ok (.invokestatic 23, 3) := by decide +kernel
theorem dX5_make_24 : decode cX5_make 24 = .ok (.return_, 1) := by decide +kernel
theorem dX5_remove_0 : decode cX5_remove 0 = .ok (.aload_n 0, 1) := by decide +kernel
theorem dX5_remove_1 : decode cX5_remove 1 = .ok (.getfield 9, 3) := by decide +kernel
theorem dX5_remove_4 : decode cX5_remove 4 = .ok (.iload_n 1, 1) := by decide +kernel
theorem dX5_remove_5 : decode cX5_remove 5 = .ok (.iconst (-1), 1) := by decide +kernel
theorem dX5_remove_6 : decode cX5_remove 6 = .ok (.iastore, 1) := by decide +kernel
theorem dX5_remove_7 : decode cX5_remove 7 = .ok (.aload_n 0, 1) := by decide +kernel
theorem dX5_remove_8 : decode cX5_remove 8 = .ok (.getfield 15, 3) := by decide +kernel
theorem dX5_remove_11 : decode cX5_remove 11 = .ok (.iload_n 1, 1) := by decide +kernel
theorem dX5_remove_12 : decode cX5_remove 12 = .ok (.iconst 0, 1) := by decide +kernel
theorem dX5_remove_13 : decode cX5_remove 13 = .ok (.iastore, 1) := by decide +kernel
theorem dX5_remove_14 : decode cX5_remove 14 = .ok (.return_, 1) := by decide +kernel
theorem dX5_isThere_0 : decode cX5_isThere 0 = .ok (.aload_n 0, 1) := by decide +kernel
theorem dX5_isThere_1 : decode cX5_isThere 1 = .ok (.getfield 9, 3) := by decide +kernel
theorem dX5_isThere_4 : decode cX5_isThere 4 = .ok (.iload_n 1, 1) := by decide +kernel
theorem dX5_isThere_5 : decode cX5_isThere 5 = .ok (.iaload, 1) := by decide +kernel
theorem dX5_isThere_6 : decode cX5_isThere 6 = .ok (.iconst (-1), 1) := by decide +kernel
theorem dX5_isThere_7 : decode cX5_isThere 7 = .ok (.if_icmp .eq 7, 3) := by decide +kernel
theorem dX5_isThere_10 : decode cX5_isThere 10 = .ok (.iconst 1, 1) := by decide +kernel
theorem dX5_isThere_11 : decode cX5_isThere 11 = .ok (.goto 4, 3) := by decide +kernel
theorem dX5_isThere_14 : decode cX5_isThere 14 = .ok (.iconst 0, 1) := by decide +kernel
theorem dX5_isThere_15 : decode cX5_isThere 15 = .ok (.ireturn, 1) := by decide +kernel
theorem dX5_codeOfPlace_0 : decode cX5_codeOfPlace 0 = .ok (.aload_n 0, 1) := by decide +kernel
theorem dX5_codeOfPlace_1 : decode cX5_codeOfPlace 1 = .ok (.iload_n 1, 1) := by decide +kernel
theorem dX5_codeOfPlace_2 : decode cX5_codeOfPlace 2 = .ok (.invokevirtual 29, 3) := by decide +kernel
theorem dX5_codeOfPlace_5 : decode cX5_codeOfPlace 5 = .ok (.ifCond .ne 5, 3) := by decide +kernel
theorem dX5_codeOfPlace_8 : decode cX5_codeOfPlace 8 = .ok (.iconst 1, 1) := by decide +kernel
theorem dX5_codeOfPlace_9 : decode cX5_codeOfPlace 9 = .ok (.ireturn, 1) := by decide +kernel
theorem dX5_codeOfPlace_10 : decode cX5_codeOfPlace 10 = .ok (.iload_n 2, 1) := by decide +kernel
theorem dX5_codeOfPlace_11 : decode cX5_codeOfPlace 11 = .ok (.ifCond .lt 13, 3) := by decide +kernel
theorem dX5_codeOfPlace_14 : decode cX5_codeOfPlace 14 = .ok (.iload_n 2, 1) := by decide +kernel
theorem dX5_codeOfPlace_15 : decode cX5_codeOfPlace 15 = .ok (.aload_n 0, 1) := by decide +kernel
theorem dX5_codeOfPlace_16 : decode cX5_codeOfPlace 16 = .ok (.getfield 15, 3) := by decide +kernel
theorem dX5_codeOfPlace_19 : decode cX5_codeOfPlace 19 = .ok (.iload_n 1, 1) := by decide +kernel
theorem dX5_codeOfPlace_20 : decode cX5_codeOfPlace 20 = .ok (.iaload, 1) := by decide +kernel
theorem dX5_codeOfPlace_21 : decode cX5_codeOfPlace 21 = .ok (.if_icmp .lt 7, 3) := by decide +kernel
theorem dX5_codeOfPlace_24 : decode cX5_codeOfPlace 24 = .ok (.iconst 3, 1) := by decide +kernel
theorem dX5_codeOfPlace_25 : decode cX5_codeOfPlace 25 = .ok (.goto 4, 3) := by decide +kernel
theorem dX5_codeOfPlace_28 : decode cX5_codeOfPlace 28 = .ok (.iconst 0, 1) := by decide +kernel
theorem dX5_codeOfPlace_29 : decode cX5_codeOfPlace 29 = .ok (.ireturn, 1) := by decide +kernel
theorem dX5_codeOfPut_0 : decode cX5_codeOfPut 0 = .ok (.aload_n 0, 1) := by decide +kernel
theorem dX5_codeOfPut_1 : decode cX5_codeOfPut 1 = .ok (.iload_n 1, 1) := by decide +kernel
theorem dX5_codeOfPut_2 : decode cX5_codeOfPut 2 = .ok (.invokevirtual 29, 3) := by decide +kernel
theorem dX5_codeOfPut_5 : decode cX5_codeOfPut 5 = .ok (.ifCond .eq 15, 3) := by decide +kernel
theorem dX5_codeOfPut_8 : decode cX5_codeOfPut 8 = .ok (.aload_n 0, 1) := by decide +kernel
theorem dX5_codeOfPut_9 : decode cX5_codeOfPut 9 = .ok (.getfield 9, 3) := by decide +kernel
theorem dX5_codeOfPut_12 : decode cX5_codeOfPut 12 = .ok (.iload_n 1, 1) := by decide +kernel
theorem dX5_codeOfPut_13 : decode cX5_codeOfPut 13 = .ok (.iaload, 1) := by decide +kernel
theorem dX5_codeOfPut_14 : decode cX5_codeOfPut 14 = .ok (.iload_n 2, 1) := by decide +kernel
theorem dX5_codeOfPut_15 : decode cX5_codeOfPut 15 = .ok (.if_icmp .eq 5, 3) := by decide +kernel
theorem dX5_codeOfPut_18 : decode cX5_codeOfPut 18 = .ok (.iconst 2, 1) := by decide +kernel
theorem dX5_codeOfPut_19 : decode cX5_codeOfPut 19 = .ok (.ireturn, 1) := by decide +kernel
theorem dX5_codeOfPut_20 : decode cX5_codeOfPut 20 = .ok (.aload_n 0, 1) := by decide +kernel
theorem dX5_codeOfPut_21 : decode cX5_codeOfPut 21 = .ok (.iload_n 1, 1) := by decide +kernel
theorem dX5_codeOfPut_22 : decode cX5_codeOfPut 22 = .ok (.iload_n 3, 1) := by decide +kernel
theorem dX5_codeOfPut_23 : decode cX5_codeOfPut 23 = .ok (.invokevirtual 33, 3) := by decide +kernel
theorem dX5_codeOfPut_26 : decode cX5_codeOfPut 26 = .ok (.ireturn, 1) := by decide +kernel
theorem dX5_codeOfCopy_0 : decode cX5_codeOfCopy 0 = .ok (.aload_n 0, 1) := by decide +kernel
theorem dX5_codeOfCopy_1 : decode cX5_codeOfCopy 1 = .ok (.iload_n 1, 1) := by decide +kernel
theorem dX5_codeOfCopy_2 : decode cX5_codeOfCopy 2 = .ok (.invokevirtual 29, 3) := by decide +kernel
theorem dX5_codeOfCopy_5 : decode cX5_codeOfCopy 5 = .ok (.ifCond .eq 11, 3) := by decide +kernel
theorem dX5_codeOfCopy_8 : decode cX5_codeOfCopy 8 = .ok (.aload_n 0, 1) := by decide +kernel
theorem dX5_codeOfCopy_9 : decode cX5_codeOfCopy 9 = .ok (.iload_n 3, 1) := by decide +kernel
theorem dX5_codeOfCopy_10 : decode cX5_codeOfCopy 10 = .ok (.invokevirtual 29, 3) := by decide +kernel
theorem dX5_codeOfCopy_13 : decode cX5_codeOfCopy 13 = .ok (.ifCond .ne 5, 3) := by decide +kernel
theorem dX5_codeOfCopy_16 : decode cX5_codeOfCopy 16 = .ok (.iconst 1, 1) := by decide +kernel
theorem dX5_codeOfCopy_17 : decode cX5_codeOfCopy 17 = .ok (.ireturn, 1) := by decide +kernel
theorem dX5_codeOfCopy_18 : decode cX5_codeOfCopy 18 = .ok (.aload_n 0, 1) := by decide +kernel
theorem dX5_codeOfCopy_19 : decode cX5_codeOfCopy 19 = .ok (.getfield 9, 3) := by decide +kernel
theorem dX5_codeOfCopy_22 : decode cX5_codeOfCopy 22 = .ok (.iload_n 1, 1) := by decide +kernel
theorem dX5_codeOfCopy_23 : decode cX5_codeOfCopy 23 = .ok (.iaload, 1) := by decide +kernel
theorem dX5_codeOfCopy_24 : decode cX5_codeOfCopy 24 = .ok (.aload_n 0, 1) := by decide +kernel
theorem dX5_codeOfCopy_25 : decode cX5_codeOfCopy 25 = .ok (.getfield 9, 3) := by decide +kernel
theorem dX5_codeOfCopy_28 : decode cX5_codeOfCopy 28 = .ok (.iload_n 3, 1) := by decide +kernel
theorem dX5_codeOfCopy_29 : decode cX5_codeOfCopy 29 = .ok (.iaload, 1) := by decide +kernel
theorem dX5_codeOfCopy_30 : decode cX5_codeOfCopy 30 = .ok (.if_icmp .eq 5, 3) := by decide +kernel
theorem dX5_codeOfCopy_33 : decode cX5_codeOfCopy 33 = .ok (.iconst 2, 1) := by decide +kernel
theorem dX5_codeOfCopy_34 : decode cX5_codeOfCopy 34 = .ok (.ireturn, 1) := by decide +kernel
theorem dX5_codeOfCopy_35 : decode cX5_codeOfCopy 35 = .ok (.aload_n 0, 1) := by decide +kernel
theorem dX5_codeOfCopy_36 : decode cX5_codeOfCopy 36 = .ok (.iload_n 1, 1) := by decide +kernel
theorem dX5_codeOfCopy_37 : decode cX5_codeOfCopy 37 = .ok (.iload_n 2, 1) := by decide +kernel
theorem dX5_codeOfCopy_38 : decode cX5_codeOfCopy 38 = .ok (.iload 5, 2) := by decide +kernel
theorem dX5_codeOfCopy_40 : decode cX5_codeOfCopy 40 = .ok (.invokevirtual 37, 3) := by decide +kernel
theorem dX5_codeOfCopy_43 : decode cX5_codeOfCopy 43 = .ok (.ifCond .eq 19, 3) := by decide +kernel
theorem dX5_codeOfCopy_46 : decode cX5_codeOfCopy 46 = .ok (.aload_n 0, 1) := by decide +kernel
theorem dX5_codeOfCopy_47 : decode cX5_codeOfCopy 47 = .ok (.iload_n 3, 1) := by decide +kernel
theorem dX5_codeOfCopy_48 : decode cX5_codeOfCopy 48 = .ok (.iload 4, 2) := by decide +kernel
theorem dX5_codeOfCopy_50 : decode cX5_codeOfCopy 50 = .ok (.iload 5, 2) := by decide +kernel
theorem dX5_codeOfCopy_52 : decode cX5_codeOfCopy 52 = .ok (.invokevirtual 37, 3) := by decide +kernel
theorem dX5_codeOfCopy_55 : decode cX5_codeOfCopy 55 = .ok (.ifCond .eq 7, 3) := by decide +kernel
theorem dX5_codeOfCopy_58 : decode cX5_codeOfCopy 58 = .ok (.iconst 0, 1) := by decide +kernel
theorem dX5_codeOfCopy_59 : decode cX5_codeOfCopy 59 = .ok (.goto 4, 3) := by decide +kernel
theorem dX5_codeOfCopy_62 : decode cX5_codeOfCopy 62 = .ok (.iconst 3, 1) := by decide +kernel
theorem dX5_codeOfCopy_63 : decode cX5_codeOfCopy 63 = .ok (.ireturn, 1) := by decide +kernel
theorem dX5_hasPlaces_0 : decode cX5_hasPlaces 0 = .ok (.iload_n 2, 1) := by decide +kernel
theorem dX5_hasPlaces_1 : decode cX5_hasPlaces 1 = .ok (.ifCond .lt 33, 3) := by decide +kernel
theorem dX5_hasPlaces_4 : decode cX5_hasPlaces 4 = .ok (.iload_n 3, 1) := by decide +kernel
theorem dX5_hasPlaces_5 : decode cX5_hasPlaces 5 = .ok (.ifCond .lt 29, 3) := by decide +kernel
theorem dX5_hasPlaces_8 : decode cX5_hasPlaces 8 = .ok (.iload_n 3, 1) := by decide +kernel
theorem dX5_hasPlaces_9 : decode cX5_hasPlaces 9 = .ok (.aload_n 0, 1) := by decide +kernel
theorem dX5_hasPlaces_10 : decode cX5_hasPlaces 10 = .ok (.getfield 15, 3) := by decide +kernel
theorem dX5_hasPlaces_13 : decode cX5_hasPlaces 13 = .ok (.iload_n 1, 1) := by decide +kernel
theorem dX5_hasPlaces_14 : decode cX5_hasPlaces 14 = .ok (.iaload, 1) := by decide +kernel
theorem dX5_hasPlaces_15 : decode cX5_hasPlaces 15 = .ok (.if_icmp .gt 19, 3) := by decide +kernel
theorem dX5_hasPlaces_18 : decode cX5_hasPlaces 18 = .ok (.iload_n 2, 1) := by decide +kernel
theorem dX5_hasPlaces_19 : decode cX5_hasPlaces 19 = .ok (.aload_n 0, 1) := by decide +kernel
theorem dX5_hasPlaces_20 : decode cX5_hasPlaces 20 = .ok (.getfield 15, 3) := by decide +kernel
theorem dX5_hasPlaces_23 : decode cX5_hasPlaces 23 = .ok (.iload_n 1, 1) := by decide +kernel
theorem dX5_hasPlaces_24 : decode cX5_hasPlaces 24 = .ok (.iaload, 1) := by decide +kernel
theorem dX5_hasPlaces_25 : decode cX5_hasPlaces 25 = .ok (.iload_n 3, 1) := by decide +kernel
theorem dX5_hasPlaces_26 : decode cX5_hasPlaces 26 = .ok (.isub, 1) := by decide +kernel
theorem dX5_hasPlaces_27 : decode cX5_hasPlaces 27 = .ok (.if_icmp .gt 7, 3) := by decide +kernel
theorem dX5_hasPlaces_30 : decode cX5_hasPlaces 30 = .ok (.iconst 1, 1) := by decide +kernel
theorem dX5_hasPlaces_31 : decode cX5_hasPlaces 31 = .ok (.goto 4, 3) := by decide +kernel
theorem dX5_hasPlaces_34 : decode cX5_hasPlaces 34 = .ok (.iconst 0, 1) := by decide +kernel
theorem dX5_hasPlaces_35 : decode cX5_hasPlaces 35 = .ok (.ireturn, 1) := by decide +kernel
theorem dX5_codeOfRead_0 : decode cX5_codeOfRead 0 = .ok (.aload_n 0, 1) := by decide +kernel
theorem dX5_codeOfRead_1 : decode cX5_codeOfRead 1 = .ok (.iload_n 1, 1) := by decide +kernel
theorem dX5_codeOfRead_2 : decode cX5_codeOfRead 2 = .ok (.invokevirtual 29, 3) := by decide +kernel
theorem dX5_codeOfRead_5 : decode cX5_codeOfRead 5 = .ok (.ifCond .ne 5, 3) := by decide +kernel
theorem dX5_codeOfRead_8 : decode cX5_codeOfRead 8 = .ok (.iconst 1, 1) := by decide +kernel
theorem dX5_codeOfRead_9 : decode cX5_codeOfRead 9 = .ok (.ireturn, 1) := by decide +kernel
theorem dX5_codeOfRead_10 : decode cX5_codeOfRead 10 = .ok (.aload_n 0, 1) := by decide +kernel
theorem dX5_codeOfRead_11 : decode cX5_codeOfRead 11 = .ok (.getfield 15, 3) := by decide +kernel
theorem dX5_codeOfRead_14 : decode cX5_codeOfRead 14 = .ok (.iload_n 1, 1) := by decide +kernel
theorem dX5_codeOfRead_15 : decode cX5_codeOfRead 15 = .ok (.iaload, 1) := by decide +kernel
theorem dX5_codeOfRead_16 : decode cX5_codeOfRead 16 = .ok (.iconst 2, 1) := by decide +kernel
theorem dX5_codeOfRead_17 : decode cX5_codeOfRead 17 = .ok (.irem, 1) := by decide +kernel
theorem dX5_codeOfRead_18 : decode cX5_codeOfRead 18 = .ok (.ifCond .eq 7, 3) := by decide +kernel
theorem dX5_codeOfRead_21 : decode cX5_codeOfRead 21 = .ok (.iconst 3, 1) := by decide +kernel
theorem dX5_codeOfRead_22 : decode cX5_codeOfRead 22 = .ok (.goto 4, 3) := by decide +kernel
theorem dX5_codeOfRead_25 : decode cX5_codeOfRead 25 = .ok (.iconst 0, 1) := by decide +kernel
theorem dX5_codeOfRead_26 : decode cX5_codeOfRead 26 = .ok (.ireturn, 1) := by decide +kernel
theorem dX6_init_0 : decode cX6_init 0 = .ok (.aload_n 0, 1) := by decide +kernel
theorem dX6_init_1 : decode cX6_init 1 = .ok (.invokespecial 3, 3) := by decide +kernel
theorem dX6_init_4 : decode cX6_init 4 = .ok (.aload_n 0, 1) := by decide +kernel
theorem dX6_init_5 : decode cX6_init 5 = .ok (.bipush 32, 2) := by decide +kernel
theorem dX6_init_7 : decode cX6_init 7 = .ok (.newarray .int, 2) := by decide +kernel
theorem dX6_init_9 : decode cX6_init 9 = .ok (.putfield 9, 3) := by decide +kernel
theorem dX6_init_12 : decode cX6_init 12 = .ok (.aload_n 0, 1) := by decide +kernel
theorem dX6_init_13 : decode cX6_init 13 = .ok (.bipush 32, 2) := by decide +kernel
theorem dX6_init_15 : decode cX6_init 15 = .ok (.newarray .int, 2) := by decide +kernel
theorem dX6_init_17 : decode cX6_init 17 = .ok (.putfield 15, 3) := by decide +kernel
theorem dX6_init_20 : decode cX6_init 20 = .ok (.aload_n 0, 1) := by decide +kernel
theorem dX6_init_21 : decode cX6_init 21 = .ok (.bipush 32, 2) := by decide +kernel
theorem dX6_init_23 : decode cX6_init 23 = .ok (.newarray .int, 2) := by decide +kernel
theorem dX6_init_25 : decode cX6_init 25 = .ok (.putfield 18, 3) := by decide +kernel
theorem dX6_init_28 : decode cX6_init 28 = .ok (.return_, 1) := by decide +kernel
theorem dX6_narrow_0 : decode cX6_narrow 0 = .ok (.aload_n 0, 1) := by decide +kernel
theorem dX6_narrow_1 : decode cX6_narrow 1 = .ok (.aload_n 1, 1) := by decide +kernel
theorem dX6_narrow_2 : decode cX6_narrow 2 = .ok (.getfield 21, 3) := by decide +kernel
theorem dX6_narrow_5 : decode cX6_narrow 5 = .ok (.putfield 27, 3) := by decide +kernel
theorem dX6_narrow_8 : decode cX6_narrow 8 = .ok (.aload_n 0, 1) := by decide +kernel
theorem dX6_narrow_9 : decode cX6_narrow 9 = .ok (.getfield 9, 3) := by decide +kernel
theorem dX6_narrow_12 : decode cX6_narrow 12 = .ok (.iconst 0, 1) := by decide +kernel
theorem dX6_narrow_13 : decode cX6_narrow 13 = .ok (.invokestatic 28, 3) := by decide +kernel
theorem dX6_narrow_16 : decode cX6_narrow 16 = .ok (.aload_n 0, 1) := by decide +kernel
theorem dX6_narrow_17 : decode cX6_narrow 17 = .ok (.getfield 15, 3) := by decide +kernel
theorem dX6_narrow_20 : decode cX6_narrow 20 = .ok (.iload_n 2, 1) := by decide +kernel
theorem dX6_narrow_21 : decode cX6_narrow 21 = .ok (.invokestatic 28, 3) := by decide +kernel
theorem dX6_narrow_24 : decode cX6_narrow 24 = .ok (.aload_n 0, 1) := by decide +kernel
theorem dX6_narrow_25 : decode cX6_narrow 25 = .ok (.iconst 0, 1) := by decide +kernel
theorem dX6_narrow_26 : decode cX6_narrow 26 = .ok (.putfield 34, 3) := by decide +kernel
theorem dX6_narrow_29 : decode cX6_narrow 29 = .ok (.aload_n 0, 1) := by decide +kernel
theorem dX6_narrow_30 : decode cX6_narrow 30 = .ok (.iconst 1, 1) := by decide +kernel
theorem dX6_narrow_31 : decode cX6_narrow 31 = .ok (.putfield 38, 3) := by decide +kernel
theorem dX6_narrow_34 : decode cX6_narrow 34 = .ok (.iconst 0, 1) := by decide +kernel
theorem dX6_narrow_35 : decode cX6_narrow 35 = .ok (.istore_n 3, 1) := by decide +kernel
theorem dX6_narrow_36 : decode cX6_narrow 36 = .ok (.iload_n 3, 1) := by decide +kernel
theorem dX6_narrow_37 : decode cX6_narrow 37 = .ok (.bipush 20, 2) := by decide +kernel
theorem dX6_narrow_39 : decode cX6_narrow 39 = .ok (.if_icmp .ge 84, 3) := by decide +kernel
theorem dX6_narrow_42 : decode cX6_narrow 42 = .ok (.aload_n 0, 1) := by decide +kernel
theorem dX6_narrow_43 : decode cX6_narrow 43 = .ok (.getfield 38, 3) := by decide +kernel
theorem dX6_narrow_46 : decode cX6_narrow 46 = .ok (.ifCond .eq 77, 3) := by decide +kernel
theorem dX6_narrow_49 : decode cX6_narrow 49 = .ok (.aload_n 0, 1) := by decide +kernel
theorem dX6_narrow_50 : decode cX6_narrow 50 = .ok (.getfield 34, 3) := by decide +kernel
theorem dX6_narrow_53 : decode cX6_narrow 53 = .ok (.ifCond .ne 70, 3) := by decide +kernel
theorem dX6_narrow_56 : decode cX6_narrow 56 = .ok (.aload_n 0, 1) := by decide +kernel
theorem dX6_narrow_57 : decode cX6_narrow 57 = .ok (.iconst 0, 1) := by decide +kernel
theorem dX6_narrow_58 : decode cX6_narrow 58 = .ok (.putfield 38, 3) := by decide +kernel
theorem dX6_narrow_61 : decode cX6_narrow 61 = .ok (.aload_n 0, 1) := by decide +kernel
theorem dX6_narrow_62 : decode cX6_narrow 62 = .ok (.aload_n 1, 1) := by decide +kernel
theorem dX6_narrow_63 : decode cX6_narrow 63 = .ok (.invokevirtual 41, 3) := by decide +kernel
theorem dX6_narrow_66 : decode cX6_narrow 66 = .ok (.aload_n 0, 1) := by decide +kernel
theorem dX6_narrow_67 : decode cX6_narrow 67 = .ok (.aload_n 1, 1) := by decide +kernel
theorem dX6_narrow_68 : decode cX6_narrow 68 = .ok (.invokevirtual 45, 3) := by decide +kernel
theorem dX6_narrow_71 : decode cX6_narrow 71 = .ok (.aload_n 0, 1) := by decide +kernel
theorem dX6_narrow_72 : decode cX6_narrow 72 = .ok (.getfield 34, 3) := by decide +kernel
theorem dX6_narrow_75 : decode cX6_narrow 75 = .ok (.ifCond .ne 13, 3) := by decide +kernel
theorem dX6_narrow_78 : decode cX6_narrow 78 = .ok (.aload_n 0, 1) := by decide +kernel
theorem dX6_narrow_79 : decode cX6_narrow 79 = .ok (.aload_n 1, 1) := by decide +kernel
theorem dX6_narrow_80 : decode cX6_narrow 80 = .ok (.invokevirtual 48, 3) := by decide +kernel
theorem dX6_narrow_83 : decode cX6_narrow 83 = .ok (.aload_n 0, 1) := by decide +kernel
theorem dX6_narrow_84 : decode cX6_narrow 84 = .ok (.aload_n 1, 1) := by decide +kernel
theorem dX6_narrow_85 : decode cX6_narrow 85 = .ok (.invokevirtual 45, 3) := by decide +kernel
theorem dX6_narrow_88 : decode cX6_narrow 88 = .ok (.aload_n 0, 1) := by decide +kernel
theorem dX6_narrow_89 : decode cX6_narrow 89 = .ok (.getfield 34, 3) := by decide +kernel
theorem dX6_narrow_92 : decode cX6_narrow 92 = .ok (.ifCond .ne 8, 3) := by decide +kernel
theorem dX6_narrow_95 : decode cX6_narrow 95 = .ok (.aload_n 0, 1) := by decide +kernel
theorem dX6_narrow_96 : decode cX6_narrow 96 = .ok (.aload_n 1, 1) := by decide +kernel
theorem dX6_narrow_97 : decode cX6_narrow 97 = .ok (.invokevirtual 51, 3) := by decide +kernel
theorem dX6_narrow_100 : decode cX6_narrow 100 = .ok (.aload_n 0, 1) := by decide +kernel
theorem dX6_narrow_101 : decode cX6_narrow 101 = .ok (.getfield 34, 3) := by decide +kernel
theorem dX6_narrow_104 : decode cX6_narrow 104 = .ok (.ifCond .ne 13, 3) := by decide +kernel
theorem dX6_narrow_107 : decode cX6_narrow 107 = .ok (.aload_n 0, 1) := by decide +kernel
theorem dX6_narrow_108 : decode cX6_narrow 108 = .ok (.aload_n 1, 1) := by decide +kernel
theorem dX6_narrow_109 : decode cX6_narrow 109 = .ok (.invokevirtual 54, 3) := by decide +kernel
theorem dX6_narrow_112 : decode cX6_narrow 112 = .ok (.aload_n 0, 1) := by decide +kernel
theorem dX6_narrow_113 : decode cX6_narrow 113 = .ok (.aload_n 1, 1) := by decide +kernel
theorem dX6_narrow_114 : decode cX6_narrow 114 = .ok (.invokevirtual 45, 3) := by decide +kernel
theorem dX6_narrow_117 : decode cX6_narrow 117 = .ok (.iinc 3 1, 3) := by decide +kernel
theorem dX6_narrow_120 : decode cX6_narrow 120 = .ok (.goto (-84), 3) := by decide +kernel
theorem dX6_narrow_123 : decode cX6_narrow 123 = .ok (.aload_n 0, 1) := by decide +kernel
theorem dX6_narrow_124 : decode cX6_narrow 124 = .ok (.getfield 34, 3) := by decide +kernel
theorem dX6_narrow_127 : decode cX6_narrow 127 = .ok (.ifCond .ne 7, 3) := by decide +kernel
theorem dX6_narrow_130 : decode cX6_narrow 130 = .ok (.iconst 1, 1) := by decide +kernel
theorem dX6_narrow_131 : decode cX6_narrow 131 = .ok (.goto 4, 3) := by decide +kernel
theorem dX6_narrow_134 : decode cX6_narrow 134 = .ok (.iconst 0, 1) := by decide +kernel
theorem dX6_narrow_135 : decode cX6_narrow 135 = .ok (.ireturn, 1) := by decide +kernel
theorem dX6_isAhead_0 : decode cX6_isAhead 0 = .ok (.aload_n 0, 1) := by decide +kernel
theorem dX6_isAhead_1 : decode cX6_isAhead 1 = .ok (.getfield 18, 3) := by decide +kernel
theorem dX6_isAhead_4 : decode cX6_isAhead 4 = .ok (.iload_n 1, 1) := by decide +kernel
theorem dX6_isAhead_5 : decode cX6_isAhead 5 = .ok (.iaload, 1) := by decide +kernel
theorem dX6_isAhead_6 : decode cX6_isAhead 6 = .ok (.iload_n 2, 1) := by decide +kernel
theorem dX6_isAhead_7 : decode cX6_isAhead 7 = .ok (.iushr, 1) := by decide +kernel
theorem dX6_isAhead_8 : decode cX6_isAhead 8 = .ok (.iconst 1, 1) := by decide +kernel
theorem dX6_isAhead_9 : decode cX6_isAhead 9 = .ok (.iand, 1) := by decide +kernel
theorem dX6_isAhead_10 : decode cX6_isAhead 10 = .ok (.ifCond .eq 7, 3) := by decide +kernel
theorem dX6_isAhead_13 : decode cX6_isAhead 13 = .ok (.iconst 1, 1) := by decide +kernel
theorem dX6_isAhead_14 : decode cX6_isAhead 14 = .ok (.goto 4, 3) := by decide +kernel
theorem dX6_isAhead_17 : decode cX6_isAhead 17 = .ok (.iconst 0, 1) := by decide +kernel
theorem dX6_isAhead_18 : decode cX6_isAhead 18 = .ok (.ireturn, 1) := by decide +kernel
theorem dX6_isOpen_0 : decode cX6_isOpen 0 = .ok (.aload_n 0, 1) := by decide +kernel
theorem dX6_isOpen_1 : decode cX6_isOpen 1 = .ok (.iload_n 1, 1) := by decide +kernel
theorem dX6_isOpen_2 : decode cX6_isOpen 2 = .ok (.iload_n 2, 1) := by decide +kernel
theorem dX6_isOpen_3 : decode cX6_isOpen 3 = .ok (.invokevirtual 57, 3) := by decide +kernel
theorem dX6_isOpen_6 : decode cX6_isOpen 6 = .ok (.ifCond .ne 16, 3) := by decide +kernel
theorem dX6_isOpen_9 : decode cX6_isOpen 9 = .ok (.aload_n 0, 1) := by decide +kernel
theorem dX6_isOpen_10 : decode cX6_isOpen 10 = .ok (.iload_n 2, 1) := by decide +kernel
theorem dX6_isOpen_11 : decode cX6_isOpen 11 = .ok (.iload_n 1, 1) := by decide +kernel
theorem dX6_isOpen_12 : decode cX6_isOpen 12 = .ok (.invokevirtual 57, 3) := by decide +kernel
theorem dX6_isOpen_15 : decode cX6_isOpen 15 = .ok (.ifCond .ne 7, 3) := by decide +kernel
theorem dX6_isOpen_18 : decode cX6_isOpen 18 = .ok (.iconst 1, 1) := by decide +kernel
theorem dX6_isOpen_19 : decode cX6_isOpen 19 = .ok (.goto 4, 3) := by decide +kernel
theorem dX6_isOpen_22 : decode cX6_isOpen 22 = .ok (.iconst 0, 1) := by decide +kernel
theorem dX6_isOpen_23 : decode cX6_isOpen 23 = .ok (.ireturn, 1) := by decide +kernel
theorem dX6_lookForBurst_0 : decode cX6_lookForBurst 0 = .ok (.iconst 0, 1) := by decide +kernel
theorem dX6_lookForBurst_1 : decode cX6_lookForBurst 1 = .ok (.istore_n 2, 1) := by decide +kernel
theorem dX6_lookForBurst_2 : decode cX6_lookForBurst 2 = .ok (.iload_n 2, 1) := by decide +kernel
theorem dX6_lookForBurst_3 : decode cX6_lookForBurst 3 = .ok (.aload_n 0, 1) := by decide +kernel
theorem dX6_lookForBurst_4 : decode cX6_lookForBurst 4 = .ok (.getfield 27, 3) := by decide +kernel
theorem dX6_lookForBurst_7 : decode cX6_lookForBurst 7 = .ok (.if_icmp .ge 36, 3) := by decide +kernel
theorem dX6_lookForBurst_10 : decode cX6_lookForBurst 10 = .ok (.aload_n 0, 1) := by decide +kernel
theorem dX6_lookForBurst_11 : decode cX6_lookForBurst 11 = .ok (.getfield 15, 3) := by decide +kernel
theorem dX6_lookForBurst_14 : decode cX6_lookForBurst 14 = .ok (.iload_n 2, 1) := by decide +kernel
theorem dX6_lookForBurst_15 : decode cX6_lookForBurst 15 = .ok (.iaload, 1) := by decide +kernel
theorem dX6_lookForBurst_16 : decode cX6_lookForBurst 16 = .ok (.aload_n 0, 1) := by decide +kernel
theorem dX6_lookForBurst_17 : decode cX6_lookForBurst 17 = .ok (.getfield 9, 3) := by decide +kernel
theorem dX6_lookForBurst_20 : decode cX6_lookForBurst 20 = .ok (.iload_n 2, 1) := by decide +kernel
theorem dX6_lookForBurst_21 : decode cX6_lookForBurst 21 = .ok (.iaload, 1) := by decide +kernel
theorem dX6_lookForBurst_22 : decode cX6_lookForBurst 22 = .ok (.isub, 1) := by decide +kernel
theorem dX6_lookForBurst_23 : decode cX6_lookForBurst 23 = .ok (.aload_n 1, 1) := by decide +kernel
theorem dX6_lookForBurst_24 : decode cX6_lookForBurst 24 = .ok (.getfield 61, 3) := by decide +kernel
theorem dX6_lookForBurst_27 : decode cX6_lookForBurst 27 = .ok (.iload_n 2, 1) := by decide +kernel
theorem dX6_lookForBurst_28 : decode cX6_lookForBurst 28 = .ok (.iaload, 1) := by decide +kernel
theorem dX6_lookForBurst_29 : decode cX6_lookForBurst 29 = .ok (.if_icmp .ge 8, 3) := by decide +kernel
theorem dX6_lookForBurst_32 : decode cX6_lookForBurst 32 = .ok (.aload_n 0, 1) := by decide +kernel
theorem dX6_lookForBurst_33 : decode cX6_lookForBurst 33 = .ok (.iconst 1, 1) := by decide +kernel
theorem dX6_lookForBurst_34 : decode cX6_lookForBurst 34 = .ok (.putfield 34, 3) := by decide +kernel
theorem dX6_lookForBurst_37 : decode cX6_lookForBurst 37 = .ok (.iinc 2 1, 3) := by decide +kernel
theorem dX6_lookForBurst_40 : decode cX6_lookForBurst 40 = .ok (.goto (-38), 3) := by decide +kernel
theorem dX6_lookForBurst_43 : decode cX6_lookForBurst 43 = .ok (.return_, 1) := by decide +kernel
theorem dX6_raise_0 : decode cX6_raise 0 = .ok (.aload_n 0, 1) := by decide +kernel
theorem dX6_raise_1 : decode cX6_raise 1 = .ok (.getfield 9, 3) := by decide +kernel
theorem dX6_raise_4 : decode cX6_raise 4 = .ok (.iload_n 1, 1) := by decide +kernel
theorem dX6_raise_5 : decode cX6_raise 5 = .ok (.iaload, 1) := by decide +kernel
theorem dX6_raise_6 : decode cX6_raise 6 = .ok (.iload_n 2, 1) := by decide +kernel
theorem dX6_raise_7 : decode cX6_raise 7 = .ok (.if_icmp .ge 15, 3) := by decide +kernel
theorem dX6_raise_10 : decode cX6_raise 10 = .ok (.aload_n 0, 1) := by decide +kernel
theorem dX6_raise_11 : decode cX6_raise 11 = .ok (.getfield 9, 3) := by decide +kernel
theorem dX6_raise_14 : decode cX6_raise 14 = .ok (.iload_n 1, 1) := by decide +kernel
theorem dX6_raise_15 : decode cX6_raise 15 = .ok (.iload_n 2, 1) := by decide +kernel
theorem dX6_raise_16 : decode cX6_raise 16 = .ok (.iastore, 1) := by decide +kernel
theorem dX6_raise_17 : decode cX6_raise 17 = .ok (.aload_n 0, 1) := by decide +kernel
theorem dX6_raise_18 : decode cX6_raise 18 = .ok (.iconst 1, 1) := by decide +kernel
theorem dX6_raise_19 : decode cX6_raise 19 = .ok (.putfield 38, 3) := by decide +kernel
theorem dX6_raise_22 : decode cX6_raise 22 = .ok (.return_, 1) := by decide +kernel
theorem dX6_lower_0 : decode cX6_lower 0 = .ok (.aload_n 0, 1) := by decide +kernel
theorem dX6_lower_1 : decode cX6_lower 1 = .ok (.getfield 15, 3) := by decide +kernel
theorem dX6_lower_4 : decode cX6_lower 4 = .ok (.iload_n 1, 1) := by decide +kernel
theorem dX6_lower_5 : decode cX6_lower 5 = .ok (.iaload, 1) := by decide +kernel
theorem dX6_lower_6 : decode cX6_lower 6 = .ok (.iload_n 2, 1) := by decide +kernel
theorem dX6_lower_7 : decode cX6_lower 7 = .ok (.if_icmp .le 15, 3) := by decide +kernel
theorem dX6_lower_10 : decode cX6_lower 10 = .ok (.aload_n 0, 1) := by decide +kernel
theorem dX6_lower_11 : decode cX6_lower 11 = .ok (.getfield 15, 3) := by decide +kernel
theorem dX6_lower_14 : decode cX6_lower 14 = .ok (.iload_n 1, 1) := by decide +kernel
theorem dX6_lower_15 : decode cX6_lower 15 = .ok (.iload_n 2, 1) := by decide +kernel
theorem dX6_lower_16 : decode cX6_lower 16 = .ok (.iastore, 1) := by decide +kernel
theorem dX6_lower_17 : decode cX6_lower 17 = .ok (.aload_n 0, 1) := by decide +kernel
theorem dX6_lower_18 : decode cX6_lower 18 = .ok (.iconst 1, 1) := by decide +kernel
theorem dX6_lower_19 : decode cX6_lower 19 = .ok (.putfield 38, 3) := by decide +kernel
theorem dX6_lower_22 : decode cX6_lower 22 = .ok (.return_, 1) := by decide +kernel
theorem dX6_alongPieces_0 : decode cX6_alongPieces 0 = .ok (.iconst 0, 1) := by decide +kernel
theorem dX6_alongPieces_1 : decode cX6_alongPieces 1 = .ok (.istore_n 2, 1) := by decide +kernel
theorem dX6_alongPieces_2 : decode cX6_alongPieces 2 = .ok (.iload_n 2, 1) := by decide +kernel
theorem dX6_alongPieces_3 : decode cX6_alongPieces 3 = .ok (.aload_n 1, 1) := by decide +kernel
theorem dX6_alongPieces_4 : decode cX6_alongPieces 4 = .ok (.getfield 64, 3) := by decide +kernel
theorem dX6_alongPieces_7 : decode cX6_alongPieces 7 = .ok (.if_icmp .ge 117, 3) := by decide +kernel
theorem dX6_alongPieces_10 : decode cX6_alongPieces 10 = .ok (.aload_n 1, 1) := by decide +kernel
theorem dX6_alongPieces_11 : decode cX6_alongPieces 11 = .ok (.getfield 67, 3) := by decide +kernel
theorem dX6_alongPieces_14 : decode cX6_alongPieces 14 = .ok (.iload_n 2, 1) := by decide +kernel
theorem dX6_alongPieces_15 : decode cX6_alongPieces 15 = .ok (.aaload, 1) := by decide +kernel
theorem dX6_alongPieces_16 : decode cX6_alongPieces 16 = .ok (.astore_n 3, 1) := by decide +kernel
theorem dX6_alongPieces_17 : decode cX6_alongPieces 17 = .ok (.aload_n 1, 1) := by decide +kernel
theorem dX6_alongPieces_18 : decode cX6_alongPieces 18 = .ok (.getfield 71, 3) := by decide +kernel
theorem dX6_alongPieces_21 : decode cX6_alongPieces 21 = .ok (.iload_n 2, 1) := by decide +kernel
theorem dX6_alongPieces_22 : decode cX6_alongPieces 22 = .ok (.iaload, 1) := by decide +kernel
theorem dX6_alongPieces_23 : decode cX6_alongPieces 23 = .ok (.istore 4, 2) := by decide +kernel
theorem dX6_alongPieces_25 : decode cX6_alongPieces 25 = .ok (.iconst 1, 1) := by decide +kernel
theorem dX6_alongPieces_26 : decode cX6_alongPieces 26 = .ok (.istore 5, 2) := by decide +kernel
theorem dX6_alongPieces_28 : decode cX6_alongPieces 28 = .ok (.iload 5, 2) := by decide +kernel
theorem dX6_alongPieces_30 : decode cX6_alongPieces 30 = .ok (.iload 4, 2) := by decide +kernel
theorem dX6_alongPieces_32 : decode cX6_alongPieces 32 = .ok (.if_icmp .ge 40, 3) := by decide +kernel
theorem dX6_alongPieces_35 : decode cX6_alongPieces 35 = .ok (.aload_n 0, 1) := by decide +kernel
theorem dX6_alongPieces_36 : decode cX6_alongPieces 36 = .ok (.aload_n 3, 1) := by decide +kernel
theorem dX6_alongPieces_37 : decode cX6_alongPieces 37 = .ok (.iload 5, 2) := by decide +kernel
theorem dX6_alongPieces_39 : decode cX6_alongPieces 39 = .ok (.iaload, 1) := by decide +kernel
theorem dX6_alongPieces_40 : decode cX6_alongPieces 40 = .ok (.aload_n 0, 1) := by decide +kernel
theorem dX6_alongPieces_41 : decode cX6_alongPieces 41 = .ok (.getfield 9, 3) := by decide +kernel
theorem dX6_alongPieces_44 : decode cX6_alongPieces 44 = .ok (.aload_n 3, 1) := by decide +kernel
theorem dX6_alongPieces_45 : decode cX6_alongPieces 45 = .ok (.iload 5, 2) := by decide +kernel
theorem dX6_alongPieces_47 : decode cX6_alongPieces 47 = .ok (.iconst 1, 1) := by decide +kernel
theorem dX6_alongPieces_48 : decode cX6_alongPieces 48 = .ok (.isub, 1) := by decide +kernel
theorem dX6_alongPieces_49 : decode cX6_alongPieces 49 = .ok (.iaload, 1) := by decide +kernel
theorem dX6_alongPieces_50 : decode cX6_alongPieces 50 = .ok (.iaload, 1) := by decide +kernel
theorem dX6_alongPieces_51 : decode cX6_alongPieces 51 = .ok (.aload_n 1, 1) := by decide +kernel
theorem dX6_alongPieces_52 : decode cX6_alongPieces 52 = .ok (.getfield 61, 3) := by decide +kernel
theorem dX6_alongPieces_55 : decode cX6_alongPieces 55 = .ok (.aload_n 3, 1) := by decide +kernel
theorem dX6_alongPieces_56 : decode cX6_alongPieces 56 = .ok (.iload 5, 2) := by decide +kernel
theorem dX6_alongPieces_58 : decode cX6_alongPieces 58 = .ok (.iconst 1, 1) := by decide +kernel
theorem dX6_alongPieces_59 : decode cX6_alongPieces 59 = .ok (.isub, 1) := by decide +kernel
theorem dX6_alongPieces_60 : decode cX6_alongPieces 60 = .ok (.iaload, 1) := by decide +kernel
theorem dX6_alongPieces_61 : decode cX6_alongPieces 61 = .ok (.iaload, 1) := by decide +kernel
theorem dX6_alongPieces_62 : decode cX6_alongPieces 62 = .ok (.iadd, 1) := by decide +kernel
theorem dX6_alongPieces_63 : decode cX6_alongPieces 63 = .ok (.invokevirtual 74, 3) := by decide +kernel
theorem dX6_alongPieces_66 : decode cX6_alongPieces 66 = .ok (.iinc 5 1, 3) := by decide +kernel
theorem dX6_alongPieces_69 : decode cX6_alongPieces 69 = .ok (.goto (-41), 3) := by decide +kernel
theorem dX6_alongPieces_72 : decode cX6_alongPieces 72 = .ok (.iload 4, 2) := by decide +kernel
theorem dX6_alongPieces_74 : decode cX6_alongPieces 74 = .ok (.iconst 1, 1) := by decide +kernel
theorem dX6_alongPieces_75 : decode cX6_alongPieces 75 = .ok (.isub, 1) := by decide +kernel
theorem dX6_alongPieces_76 : decode cX6_alongPieces 76 = .ok (.istore 5, 2) := by decide +kernel
theorem dX6_alongPieces_78 : decode cX6_alongPieces 78 = .ok (.iload 5, 2) := by decide +kernel
theorem dX6_alongPieces_80 : decode cX6_alongPieces 80 = .ok (.ifCond .le 38, 3) := by decide +kernel
theorem dX6_alongPieces_83 : decode cX6_alongPieces 83 = .ok (.aload_n 0, 1) := by decide +kernel
theorem dX6_alongPieces_84 : decode cX6_alongPieces 84 = .ok (.aload_n 3, 1) := by decide +kernel
theorem dX6_alongPieces_85 : decode cX6_alongPieces 85 = .ok (.iload 5, 2) := by decide +kernel
theorem dX6_alongPieces_87 : decode cX6_alongPieces 87 = .ok (.iconst 1, 1) := by decide +kernel
theorem dX6_alongPieces_88 : decode cX6_alongPieces 88 = .ok (.isub, 1) := by decide +kernel
theorem dX6_alongPieces_89 : decode cX6_alongPieces 89 = .ok (.iaload, 1) := by decide +kernel
theorem dX6_alongPieces_90 : decode cX6_alongPieces 90 = .ok (.aload_n 0, 1) := by decide +kernel
theorem dX6_alongPieces_91 : decode cX6_alongPieces 91 = .ok (.getfield 15, 3) := by decide +kernel
theorem dX6_alongPieces_94 : decode cX6_alongPieces 94 = .ok (.aload_n 3, 1) := by decide +kernel
theorem dX6_alongPieces_95 : decode cX6_alongPieces 95 = .ok (.iload 5, 2) := by decide +kernel
theorem dX6_alongPieces_97 : decode cX6_alongPieces 97 = .ok (.iaload, 1) := by decide +kernel
theorem dX6_alongPieces_98 : decode cX6_alongPieces 98 = .ok (.iaload, 1) := by decide +kernel
theorem dX6_alongPieces_99 : decode cX6_alongPieces 99 = .ok (.aload_n 1, 1) := by decide +kernel
theorem dX6_alongPieces_100 : decode cX6_alongPieces 100 = .ok (.getfield 61, 3) := by decide +kernel
theorem dX6_alongPieces_103 : decode cX6_alongPieces 103 = .ok (.aload_n 3, 1) := by decide +kernel
theorem dX6_alongPieces_104 : decode cX6_alongPieces 104 = .ok (.iload 5, 2) := by decide +kernel
theorem dX6_alongPieces_106 : decode cX6_alongPieces 106 = .ok (.iaload, 1) := by decide +kernel
theorem dX6_alongPieces_107 : decode cX6_alongPieces 107 = .ok (.iaload, 1) := by decide +kernel
theorem dX6_alongPieces_108 : decode cX6_alongPieces 108 = .ok (.isub, 1) := by decide +kernel
theorem dX6_alongPieces_109 : decode cX6_alongPieces 109 = .ok (.invokevirtual 78, 3) := by decide +kernel
theorem dX6_alongPieces_112 : decode cX6_alongPieces 112 = .ok (.iinc 5 (-1), 3) := by decide +kernel
theorem dX6_alongPieces_115 : decode cX6_alongPieces 115 = .ok (.goto (-37), 3) := by decide +kernel
theorem dX6_alongPieces_118 : decode cX6_alongPieces 118 = .ok (.iinc 2 1, 3) := by decide +kernel
theorem dX6_alongPieces_121 : decode cX6_alongPieces 121 = .ok (.goto (-119), 3) := by decide +kernel
theorem dX6_alongPieces_124 : decode cX6_alongPieces 124 = .ok (.return_, 1) := by decide +kernel
theorem dX6_alongPairs_0 : decode cX6_alongPairs 0 = .ok (.iconst 0, 1) := by decide +kernel
theorem dX6_alongPairs_1 : decode cX6_alongPairs 1 = .ok (.istore_n 2, 1) := by decide +kernel
theorem dX6_alongPairs_2 : decode cX6_alongPairs 2 = .ok (.iload_n 2, 1) := by decide +kernel
theorem dX6_alongPairs_3 : decode cX6_alongPairs 3 = .ok (.aload_n 0, 1) := by decide +kernel
theorem dX6_alongPairs_4 : decode cX6_alongPairs 4 = .ok (.getfield 27, 3) := by decide +kernel
theorem dX6_alongPairs_7 : decode cX6_alongPairs 7 = .ok (.if_icmp .ge 70, 3) := by decide +kernel
theorem dX6_alongPairs_10 : decode cX6_alongPairs 10 = .ok (.iconst 0, 1) := by decide +kernel
theorem dX6_alongPairs_11 : decode cX6_alongPairs 11 = .ok (.istore_n 3, 1) := by decide +kernel
theorem dX6_alongPairs_12 : decode cX6_alongPairs 12 = .ok (.iload_n 3, 1) := by decide +kernel
theorem dX6_alongPairs_13 : decode cX6_alongPairs 13 = .ok (.aload_n 0, 1) := by decide +kernel
theorem dX6_alongPairs_14 : decode cX6_alongPairs 14 = .ok (.getfield 27, 3) := by decide +kernel
theorem dX6_alongPairs_17 : decode cX6_alongPairs 17 = .ok (.if_icmp .ge 54, 3) := by decide +kernel
theorem dX6_alongPairs_20 : decode cX6_alongPairs 20 = .ok (.aload_n 0, 1) := by decide +kernel
theorem dX6_alongPairs_21 : decode cX6_alongPairs 21 = .ok (.iload_n 2, 1) := by decide +kernel
theorem dX6_alongPairs_22 : decode cX6_alongPairs 22 = .ok (.iload_n 3, 1) := by decide +kernel
theorem dX6_alongPairs_23 : decode cX6_alongPairs 23 = .ok (.invokevirtual 57, 3) := by decide +kernel
theorem dX6_alongPairs_26 : decode cX6_alongPairs 26 = .ok (.ifCond .eq 39, 3) := by decide +kernel
theorem dX6_alongPairs_29 : decode cX6_alongPairs 29 = .ok (.aload_n 0, 1) := by decide +kernel
theorem dX6_alongPairs_30 : decode cX6_alongPairs 30 = .ok (.iload_n 3, 1) := by decide +kernel
theorem dX6_alongPairs_31 : decode cX6_alongPairs 31 = .ok (.aload_n 0, 1) := by decide +kernel
theorem dX6_alongPairs_32 : decode cX6_alongPairs 32 = .ok (.getfield 9, 3) := by decide +kernel
theorem dX6_alongPairs_35 : decode cX6_alongPairs 35 = .ok (.iload_n 2, 1) := by decide +kernel
theorem dX6_alongPairs_36 : decode cX6_alongPairs 36 = .ok (.iaload, 1) := by decide +kernel
theorem dX6_alongPairs_37 : decode cX6_alongPairs 37 = .ok (.aload_n 1, 1) := by decide +kernel
theorem dX6_alongPairs_38 : decode cX6_alongPairs 38 = .ok (.getfield 61, 3) := by decide +kernel
theorem dX6_alongPairs_41 : decode cX6_alongPairs 41 = .ok (.iload_n 2, 1) := by decide +kernel
theorem dX6_alongPairs_42 : decode cX6_alongPairs 42 = .ok (.iaload, 1) := by decide +kernel
theorem dX6_alongPairs_43 : decode cX6_alongPairs 43 = .ok (.iadd, 1) := by decide +kernel
theorem dX6_alongPairs_44 : decode cX6_alongPairs 44 = .ok (.invokevirtual 74, 3) := by decide +kernel
theorem dX6_alongPairs_47 : decode cX6_alongPairs 47 = .ok (.aload_n 0, 1) := by decide +kernel
theorem dX6_alongPairs_48 : decode cX6_alongPairs 48 = .ok (.iload_n 2, 1) := by decide +kernel
theorem dX6_alongPairs_49 : decode cX6_alongPairs 49 = .ok (.aload_n 0, 1) := by decide +kernel
theorem dX6_alongPairs_50 : decode cX6_alongPairs 50 = .ok (.getfield 15, 3) := by decide +kernel
theorem dX6_alongPairs_53 : decode cX6_alongPairs 53 = .ok (.iload_n 3, 1) := by decide +kernel
theorem dX6_alongPairs_54 : decode cX6_alongPairs 54 = .ok (.iaload, 1) := by decide +kernel
theorem dX6_alongPairs_55 : decode cX6_alongPairs 55 = .ok (.aload_n 1, 1) := by decide +kernel
theorem dX6_alongPairs_56 : decode cX6_alongPairs 56 = .ok (.getfield 61, 3) := by decide +kernel
theorem dX6_alongPairs_59 : decode cX6_alongPairs 59 = .ok (.iload_n 3, 1) := by decide +kernel
theorem dX6_alongPairs_60 : decode cX6_alongPairs 60 = .ok (.iaload, 1) := by decide +kernel
theorem dX6_alongPairs_61 : decode cX6_alongPairs 61 = .ok (.isub, 1) := by decide +kernel
theorem dX6_alongPairs_62 : decode cX6_alongPairs 62 = .ok (.invokevirtual 78, 3) := by decide +kernel
theorem dX6_alongPairs_65 : decode cX6_alongPairs 65 = .ok (.iinc 3 1, 3) := by decide +kernel
theorem dX6_alongPairs_68 : decode cX6_alongPairs 68 = .ok (.goto (-56), 3) := by decide +kernel
theorem dX6_alongPairs_71 : decode cX6_alongPairs 71 = .ok (.iinc 2 1, 3) := by decide +kernel
theorem dX6_alongPairs_74 : decode cX6_alongPairs 74 = .ok (.goto (-72), 3) := by decide +kernel
theorem dX6_alongPairs_77 : decode cX6_alongPairs 77 = .ok (.return_, 1) := by decide +kernel
theorem dX6_tellPairs_0 : decode cX6_tellPairs 0 = .ok (.iconst 0, 1) := by decide +kernel
theorem dX6_tellPairs_1 : decode cX6_tellPairs 1 = .ok (.istore_n 2, 1) := by decide +kernel
theorem dX6_tellPairs_2 : decode cX6_tellPairs 2 = .ok (.iload_n 2, 1) := by decide +kernel
theorem dX6_tellPairs_3 : decode cX6_tellPairs 3 = .ok (.aload_n 1, 1) := by decide +kernel
theorem dX6_tellPairs_4 : decode cX6_tellPairs 4 = .ok (.getfield 81, 3) := by decide +kernel
theorem dX6_tellPairs_7 : decode cX6_tellPairs 7 = .ok (.if_icmp .ge 92, 3) := by decide +kernel
theorem dX6_tellPairs_10 : decode cX6_tellPairs 10 = .ok (.aload_n 1, 1) := by decide +kernel
theorem dX6_tellPairs_11 : decode cX6_tellPairs 11 = .ok (.getfield 84, 3) := by decide +kernel
theorem dX6_tellPairs_14 : decode cX6_tellPairs 14 = .ok (.iload_n 2, 1) := by decide +kernel
theorem dX6_tellPairs_15 : decode cX6_tellPairs 15 = .ok (.iaload, 1) := by decide +kernel
theorem dX6_tellPairs_16 : decode cX6_tellPairs 16 = .ok (.ifCond .ne 12, 3) := by decide +kernel
theorem dX6_tellPairs_19 : decode cX6_tellPairs 19 = .ok (.aload_n 1, 1) := by decide +kernel
theorem dX6_tellPairs_20 : decode cX6_tellPairs 20 = .ok (.getfield 87, 3) := by decide +kernel
theorem dX6_tellPairs_23 : decode cX6_tellPairs 23 = .ok (.iload_n 2, 1) := by decide +kernel
theorem dX6_tellPairs_24 : decode cX6_tellPairs 24 = .ok (.iaload, 1) := by decide +kernel
theorem dX6_tellPairs_25 : decode cX6_tellPairs 25 = .ok (.goto 4, 3) := by decide +kernel
theorem dX6_tellPairs_28 : decode cX6_tellPairs 28 = .ok (.iconst 0, 1) := by decide +kernel
theorem dX6_tellPairs_29 : decode cX6_tellPairs 29 = .ok (.istore_n 3, 1) := by decide +kernel
theorem dX6_tellPairs_30 : decode cX6_tellPairs 30 = .ok (.iconst 0, 1) := by decide +kernel
theorem dX6_tellPairs_31 : decode cX6_tellPairs 31 = .ok (.istore 4, 2) := by decide +kernel
theorem dX6_tellPairs_33 : decode cX6_tellPairs 33 = .ok (.iload 4, 2) := by decide +kernel
theorem dX6_tellPairs_35 : decode cX6_tellPairs 35 = .ok (.iload_n 3, 1) := by decide +kernel
theorem dX6_tellPairs_36 : decode cX6_tellPairs 36 = .ok (.if_icmp .ge 57, 3) := by decide +kernel
theorem dX6_tellPairs_39 : decode cX6_tellPairs 39 = .ok (.iload 4, 2) := by decide +kernel
theorem dX6_tellPairs_41 : decode cX6_tellPairs 41 = .ok (.iconst 1, 1) := by decide +kernel
theorem dX6_tellPairs_42 : decode cX6_tellPairs 42 = .ok (.iadd, 1) := by decide +kernel
theorem dX6_tellPairs_43 : decode cX6_tellPairs 43 = .ok (.istore 5, 2) := by decide +kernel
theorem dX6_tellPairs_45 : decode cX6_tellPairs 45 = .ok (.iload 5, 2) := by decide +kernel
theorem dX6_tellPairs_47 : decode cX6_tellPairs 47 = .ok (.iload_n 3, 1) := by decide +kernel
theorem dX6_tellPairs_48 : decode cX6_tellPairs 48 = .ok (.if_icmp .ge 39, 3) := by decide +kernel
theorem dX6_tellPairs_51 : decode cX6_tellPairs 51 = .ok (.aload_n 0, 1) := by decide +kernel
theorem dX6_tellPairs_52 : decode cX6_tellPairs 52 = .ok (.getfield 34, 3) := by decide +kernel
theorem dX6_tellPairs_55 : decode cX6_tellPairs 55 = .ok (.ifCond .ne 32, 3) := by decide +kernel
theorem dX6_tellPairs_58 : decode cX6_tellPairs 58 = .ok (.aload_n 0, 1) := by decide +kernel
theorem dX6_tellPairs_59 : decode cX6_tellPairs 59 = .ok (.aload_n 1, 1) := by decide +kernel
theorem dX6_tellPairs_60 : decode cX6_tellPairs 60 = .ok (.aload_n 1, 1) := by decide +kernel
theorem dX6_tellPairs_61 : decode cX6_tellPairs 61 = .ok (.getfield 90, 3) := by decide +kernel
theorem dX6_tellPairs_64 : decode cX6_tellPairs 64 = .ok (.iload_n 2, 1) := by decide +kernel
theorem dX6_tellPairs_65 : decode cX6_tellPairs 65 = .ok (.aaload, 1) := by decide +kernel
theorem dX6_tellPairs_66 : decode cX6_tellPairs 66 = .ok (.iload 4, 2) := by decide +kernel
theorem dX6_tellPairs_68 : decode cX6_tellPairs 68 = .ok (.iaload, 1) := by decide +kernel
theorem dX6_tellPairs_69 : decode cX6_tellPairs 69 = .ok (.aload_n 1, 1) := by decide +kernel
theorem dX6_tellPairs_70 : decode cX6_tellPairs 70 = .ok (.getfield 90, 3) := by decide +kernel
theorem dX6_tellPairs_73 : decode cX6_tellPairs 73 = .ok (.iload_n 2, 1) := by decide +kernel
theorem dX6_tellPairs_74 : decode cX6_tellPairs 74 = .ok (.aaload, 1) := by decide +kernel
theorem dX6_tellPairs_75 : decode cX6_tellPairs 75 = .ok (.iload 5, 2) := by decide +kernel
theorem dX6_tellPairs_77 : decode cX6_tellPairs 77 = .ok (.iaload, 1) := by decide +kernel
theorem dX6_tellPairs_78 : decode cX6_tellPairs 78 = .ok (.invokevirtual 93, 3) := by decide +kernel
theorem dX6_tellPairs_81 : decode cX6_tellPairs 81 = .ok (.iinc 5 1, 3) := by decide +kernel
theorem dX6_tellPairs_84 : decode cX6_tellPairs 84 = .ok (.goto (-39), 3) := by decide +kernel
theorem dX6_tellPairs_87 : decode cX6_tellPairs 87 = .ok (.iinc 4 1, 3) := by decide +kernel
theorem dX6_tellPairs_90 : decode cX6_tellPairs 90 = .ok (.goto (-57), 3) := by decide +kernel
theorem dX6_tellPairs_93 : decode cX6_tellPairs 93 = .ok (.iinc 2 1, 3) := by decide +kernel
theorem dX6_tellPairs_96 : decode cX6_tellPairs 96 = .ok (.goto (-94), 3) := by decide +kernel
theorem dX6_tellPairs_99 : decode cX6_tellPairs 99 = .ok (.return_, 1) := by decide +kernel
theorem dX6_tellPair_0 : decode cX6_tellPair 0 = .ok (.aload_n 0, 1) := by decide +kernel
theorem dX6_tellPair_1 : decode cX6_tellPair 1 = .ok (.iload_n 2, 1) := by decide +kernel
theorem dX6_tellPair_2 : decode cX6_tellPair 2 = .ok (.iload_n 3, 1) := by decide +kernel
theorem dX6_tellPair_3 : decode cX6_tellPair 3 = .ok (.invokevirtual 97, 3) := by decide +kernel
theorem dX6_tellPair_6 : decode cX6_tellPair 6 = .ok (.ifCond .ne 4, 3) := by decide +kernel
theorem dX6_tellPair_9 : decode cX6_tellPair 9 = .ok (.return_, 1) := by decide +kernel
theorem dX6_tellPair_10 : decode cX6_tellPair 10 = .ok (.aload_n 1, 1) := by decide +kernel
theorem dX6_tellPair_11 : decode cX6_tellPair 11 = .ok (.getfield 61, 3) := by decide +kernel
theorem dX6_tellPair_14 : decode cX6_tellPair 14 = .ok (.iload_n 2, 1) := by decide +kernel
theorem dX6_tellPair_15 : decode cX6_tellPair 15 = .ok (.iaload, 1) := by decide +kernel
theorem dX6_tellPair_16 : decode cX6_tellPair 16 = .ok (.aload_n 1, 1) := by decide +kernel
theorem dX6_tellPair_17 : decode cX6_tellPair 17 = .ok (.getfield 61, 3) := by decide +kernel
theorem dX6_tellPair_20 : decode cX6_tellPair 20 = .ok (.iload_n 3, 1) := by decide +kernel
theorem dX6_tellPair_21 : decode cX6_tellPair 21 = .ok (.iaload, 1) := by decide +kernel
theorem dX6_tellPair_22 : decode cX6_tellPair 22 = .ok (.iadd, 1) := by decide +kernel
theorem dX6_tellPair_23 : decode cX6_tellPair 23 = .ok (.istore 4, 2) := by decide +kernel
theorem dX6_tellPair_25 : decode cX6_tellPair 25 = .ok (.aload_n 0, 1) := by decide +kernel
theorem dX6_tellPair_26 : decode cX6_tellPair 26 = .ok (.getfield 9, 3) := by decide +kernel
theorem dX6_tellPair_29 : decode cX6_tellPair 29 = .ok (.iload_n 2, 1) := by decide +kernel
theorem dX6_tellPair_30 : decode cX6_tellPair 30 = .ok (.iaload, 1) := by decide +kernel
theorem dX6_tellPair_31 : decode cX6_tellPair 31 = .ok (.iload 4, 2) := by decide +kernel
theorem dX6_tellPair_33 : decode cX6_tellPair 33 = .ok (.iadd, 1) := by decide +kernel
theorem dX6_tellPair_34 : decode cX6_tellPair 34 = .ok (.aload_n 0, 1) := by decide +kernel
theorem dX6_tellPair_35 : decode cX6_tellPair 35 = .ok (.getfield 15, 3) := by decide +kernel
theorem dX6_tellPair_38 : decode cX6_tellPair 38 = .ok (.iload_n 3, 1) := by decide +kernel
theorem dX6_tellPair_39 : decode cX6_tellPair 39 = .ok (.iaload, 1) := by decide +kernel
theorem dX6_tellPair_40 : decode cX6_tellPair 40 = .ok (.if_icmp .le 7, 3) := by decide +kernel
theorem dX6_tellPair_43 : decode cX6_tellPair 43 = .ok (.iconst 1, 1) := by decide +kernel
theorem dX6_tellPair_44 : decode cX6_tellPair 44 = .ok (.goto 4, 3) := by decide +kernel
theorem dX6_tellPair_47 : decode cX6_tellPair 47 = .ok (.iconst 0, 1) := by decide +kernel
theorem dX6_tellPair_48 : decode cX6_tellPair 48 = .ok (.istore 5, 2) := by decide +kernel
theorem dX6_tellPair_50 : decode cX6_tellPair 50 = .ok (.aload_n 0, 1) := by decide +kernel
theorem dX6_tellPair_51 : decode cX6_tellPair 51 = .ok (.getfield 9, 3) := by decide +kernel
theorem dX6_tellPair_54 : decode cX6_tellPair 54 = .ok (.iload_n 3, 1) := by decide +kernel
theorem dX6_tellPair_55 : decode cX6_tellPair 55 = .ok (.iaload, 1) := by decide +kernel
theorem dX6_tellPair_56 : decode cX6_tellPair 56 = .ok (.iload 4, 2) := by decide +kernel
theorem dX6_tellPair_58 : decode cX6_tellPair 58 = .ok (.iadd, 1) := by decide +kernel
theorem dX6_tellPair_59 : decode cX6_tellPair 59 = .ok (.aload_n 0, 1) := by decide +kernel
theorem dX6_tellPair_60 : decode cX6_tellPair 60 = .ok (.getfield 15, 3) := by decide +kernel
theorem dX6_tellPair_63 : decode cX6_tellPair 63 = .ok (.iload_n 2, 1) := by decide +kernel
theorem dX6_tellPair_64 : decode cX6_tellPair 64 = .ok (.iaload, 1) := by decide +kernel
theorem dX6_tellPair_65 : decode cX6_tellPair 65 = .ok (.if_icmp .le 7, 3) := by decide +kernel
theorem dX6_tellPair_68 : decode cX6_tellPair 68 = .ok (.iconst 1, 1) := by decide +kernel
theorem dX6_tellPair_69 : decode cX6_tellPair 69 = .ok (.goto 4, 3) := by decide +kernel
theorem dX6_tellPair_72 : decode cX6_tellPair 72 = .ok (.iconst 0, 1) := by decide +kernel
theorem dX6_tellPair_73 : decode cX6_tellPair 73 = .ok (.istore 6, 2) := by decide +kernel
theorem dX6_tellPair_75 : decode cX6_tellPair 75 = .ok (.iload 5, 2) := by decide +kernel
theorem dX6_tellPair_77 : decode cX6_tellPair 77 = .ok (.ifCond .eq 16, 3) := by decide +kernel
theorem dX6_tellPair_80 : decode cX6_tellPair 80 = .ok (.iload 6, 2) := by decide +kernel
theorem dX6_tellPair_82 : decode cX6_tellPair 82 = .ok (.ifCond .eq 11, 3) := by decide +kernel
theorem dX6_tellPair_85 : decode cX6_tellPair 85 = .ok (.aload_n 0, 1) := by decide +kernel
theorem dX6_tellPair_86 : decode cX6_tellPair 86 = .ok (.iconst 1, 1) := by decide +kernel
theorem dX6_tellPair_87 : decode cX6_tellPair 87 = .ok (.putfield 34, 3) := by decide +kernel
theorem dX6_tellPair_90 : decode cX6_tellPair 90 = .ok (.goto 28, 3) := by decide +kernel
theorem dX6_tellPair_93 : decode cX6_tellPair 93 = .ok (.iload 5, 2) := by decide +kernel
theorem dX6_tellPair_95 : decode cX6_tellPair 95 = .ok (.ifCond .eq 12, 3) := by decide +kernel
theorem dX6_tellPair_98 : decode cX6_tellPair 98 = .ok (.aload_n 0, 1) := by decide +kernel
theorem dX6_tellPair_99 : decode cX6_tellPair 99 = .ok (.iload_n 3, 1) := by decide +kernel
theorem dX6_tellPair_100 : decode cX6_tellPair 100 = .ok (.iload_n 2, 1) := by decide +kernel
theorem dX6_tellPair_101 : decode cX6_tellPair 101 = .ok (.invokevirtual 100, 3) := by decide +kernel
theorem dX6_tellPair_104 : decode cX6_tellPair 104 = .ok (.goto 14, 3) := by decide +kernel
theorem dX6_tellPair_107 : decode cX6_tellPair 107 = .ok (.iload 6, 2) := by decide +kernel
theorem dX6_tellPair_109 : decode cX6_tellPair 109 = .ok (.ifCond .eq 9, 3) := by decide +kernel
theorem dX6_tellPair_112 : decode cX6_tellPair 112 = .ok (.aload_n 0, 1) := by decide +kernel
theorem dX6_tellPair_113 : decode cX6_tellPair 113 = .ok (.iload_n 2, 1) := by decide +kernel
theorem dX6_tellPair_114 : decode cX6_tellPair 114 = .ok (.iload_n 3, 1) := by decide +kernel
theorem dX6_tellPair_115 : decode cX6_tellPair 115 = .ok (.invokevirtual 100, 3) := by decide +kernel
theorem dX6_tellPair_118 : decode cX6_tellPair 118 = .ok (.return_, 1) := by decide +kernel
theorem dX6_tellAhead_0 : decode cX6_tellAhead 0 = .ok (.aload_n 0, 1) := by decide +kernel
theorem dX6_tellAhead_1 : decode cX6_tellAhead 1 = .ok (.getfield 18, 3) := by decide +kernel
theorem dX6_tellAhead_4 : decode cX6_tellAhead 4 = .ok (.iload_n 1, 1) := by decide +kernel
theorem dX6_tellAhead_5 : decode cX6_tellAhead 5 = .ok (.dup2, 1) := by decide +kernel
theorem dX6_tellAhead_6 : decode cX6_tellAhead 6 = .ok (.iaload, 1) := by decide +kernel
theorem dX6_tellAhead_7 : decode cX6_tellAhead 7 = .ok (.iconst 1, 1) := by decide +kernel
theorem dX6_tellAhead_8 : decode cX6_tellAhead 8 = .ok (.iload_n 2, 1) := by decide +kernel
theorem dX6_tellAhead_9 : decode cX6_tellAhead 9 = .ok (.ishl, 1) := by decide +kernel
theorem dX6_tellAhead_10 : decode cX6_tellAhead 10 = .ok (.ior, 1) := by decide +kernel
theorem dX6_tellAhead_11 : decode cX6_tellAhead 11 = .ok (.iastore, 1) := by decide +kernel
theorem dX6_tellAhead_12 : decode cX6_tellAhead 12 = .ok (.aload_n 0, 1) := by decide +kernel
theorem dX6_tellAhead_13 : decode cX6_tellAhead 13 = .ok (.iconst 1, 1) := by decide +kernel
theorem dX6_tellAhead_14 : decode cX6_tellAhead 14 = .ok (.putfield 38, 3) := by decide +kernel
theorem dX6_tellAhead_17 : decode cX6_tellAhead 17 = .ok (.return_, 1) := by decide +kernel
theorem dX6_closeSets_0 : decode cX6_closeSets 0 = .ok (.iconst 0, 1) := by decide +kernel
theorem dX6_closeSets_1 : decode cX6_closeSets 1 = .ok (.istore_n 2, 1) := by decide +kernel
theorem dX6_closeSets_2 : decode cX6_closeSets 2 = .ok (.iload_n 2, 1) := by decide +kernel
theorem dX6_closeSets_3 : decode cX6_closeSets 3 = .ok (.aload_n 1, 1) := by decide +kernel
theorem dX6_closeSets_4 : decode cX6_closeSets 4 = .ok (.getfield 81, 3) := by decide +kernel
theorem dX6_closeSets_7 : decode cX6_closeSets 7 = .ok (.if_icmp .ge 100, 3) := by decide +kernel
theorem dX6_closeSets_10 : decode cX6_closeSets 10 = .ok (.aload_n 1, 1) := by decide +kernel
theorem dX6_closeSets_11 : decode cX6_closeSets 11 = .ok (.getfield 84, 3) := by decide +kernel
theorem dX6_closeSets_14 : decode cX6_closeSets 14 = .ok (.iload_n 2, 1) := by decide +kernel
theorem dX6_closeSets_15 : decode cX6_closeSets 15 = .ok (.iaload, 1) := by decide +kernel
theorem dX6_closeSets_16 : decode cX6_closeSets 16 = .ok (.ifCond .ne 12, 3) := by decide +kernel
theorem dX6_closeSets_19 : decode cX6_closeSets 19 = .ok (.aload_n 1, 1) := by decide +kernel
theorem dX6_closeSets_20 : decode cX6_closeSets 20 = .ok (.getfield 87, 3) := by decide +kernel
theorem dX6_closeSets_23 : decode cX6_closeSets 23 = .ok (.iload_n 2, 1) := by decide +kernel
theorem dX6_closeSets_24 : decode cX6_closeSets 24 = .ok (.iaload, 1) := by decide +kernel
theorem dX6_closeSets_25 : decode cX6_closeSets 25 = .ok (.goto 4, 3) := by decide +kernel
theorem dX6_closeSets_28 : decode cX6_closeSets 28 = .ok (.iconst 0, 1) := by decide +kernel
theorem dX6_closeSets_29 : decode cX6_closeSets 29 = .ok (.istore_n 3, 1) := by decide +kernel
theorem dX6_closeSets_30 : decode cX6_closeSets 30 = .ok (.iconst 0, 1) := by decide +kernel
theorem dX6_closeSets_31 : decode cX6_closeSets 31 = .ok (.istore 4, 2) := by decide +kernel
theorem dX6_closeSets_33 : decode cX6_closeSets 33 = .ok (.iload 4, 2) := by decide +kernel
theorem dX6_closeSets_35 : decode cX6_closeSets 35 = .ok (.iload_n 3, 1) := by decide +kernel
theorem dX6_closeSets_36 : decode cX6_closeSets 36 = .ok (.if_icmp .ge 65, 3) := by decide +kernel
theorem dX6_closeSets_39 : decode cX6_closeSets 39 = .ok (.iconst 0, 1) := by decide +kernel
theorem dX6_closeSets_40 : decode cX6_closeSets 40 = .ok (.istore 5, 2) := by decide +kernel
theorem dX6_closeSets_42 : decode cX6_closeSets 42 = .ok (.iload 5, 2) := by decide +kernel
theorem dX6_closeSets_44 : decode cX6_closeSets 44 = .ok (.iload_n 3, 1) := by decide +kernel
theorem dX6_closeSets_45 : decode cX6_closeSets 45 = .ok (.if_icmp .ge 50, 3) := by decide +kernel
theorem dX6_closeSets_48 : decode cX6_closeSets 48 = .ok (.aload_n 0, 1) := by decide +kernel
theorem dX6_closeSets_49 : decode cX6_closeSets 49 = .ok (.getfield 34, 3) := by decide +kernel
theorem dX6_closeSets_52 : decode cX6_closeSets 52 = .ok (.ifCond .ne 43, 3) := by decide +kernel
theorem dX6_closeSets_55 : decode cX6_closeSets 55 = .ok (.aload_n 0, 1) := by decide +kernel
theorem dX6_closeSets_56 : decode cX6_closeSets 56 = .ok (.aload_n 1, 1) := by decide +kernel
theorem dX6_closeSets_57 : decode cX6_closeSets 57 = .ok (.iload_n 2, 1) := by decide +kernel
theorem dX6_closeSets_58 : decode cX6_closeSets 58 = .ok (.aload_n 0, 1) := by decide +kernel
theorem dX6_closeSets_59 : decode cX6_closeSets 59 = .ok (.getfield 9, 3) := by decide +kernel
theorem dX6_closeSets_62 : decode cX6_closeSets 62 = .ok (.aload_n 1, 1) := by decide +kernel
theorem dX6_closeSets_63 : decode cX6_closeSets 63 = .ok (.getfield 90, 3) := by decide +kernel
theorem dX6_closeSets_66 : decode cX6_closeSets 66 = .ok (.iload_n 2, 1) := by decide +kernel
theorem dX6_closeSets_67 : decode cX6_closeSets 67 = .ok (.aaload, 1) := by decide +kernel
theorem dX6_closeSets_68 : decode cX6_closeSets 68 = .ok (.iload 4, 2) := by decide +kernel
theorem dX6_closeSets_70 : decode cX6_closeSets 70 = .ok (.iaload, 1) := by decide +kernel
theorem dX6_closeSets_71 : decode cX6_closeSets 71 = .ok (.iaload, 1) := by decide +kernel
theorem dX6_closeSets_72 : decode cX6_closeSets 72 = .ok (.aload_n 0, 1) := by decide +kernel
theorem dX6_closeSets_73 : decode cX6_closeSets 73 = .ok (.getfield 15, 3) := by decide +kernel
theorem dX6_closeSets_76 : decode cX6_closeSets 76 = .ok (.aload_n 1, 1) := by decide +kernel
theorem dX6_closeSets_77 : decode cX6_closeSets 77 = .ok (.getfield 90, 3) := by decide +kernel
theorem dX6_closeSets_80 : decode cX6_closeSets 80 = .ok (.iload_n 2, 1) := by decide +kernel
theorem dX6_closeSets_81 : decode cX6_closeSets 81 = .ok (.aaload, 1) := by decide +kernel
theorem dX6_closeSets_82 : decode cX6_closeSets 82 = .ok (.iload 5, 2) := by decide +kernel
theorem dX6_closeSets_84 : decode cX6_closeSets 84 = .ok (.iaload, 1) := by decide +kernel
theorem dX6_closeSets_85 : decode cX6_closeSets 85 = .ok (.iaload, 1) := by decide +kernel
theorem dX6_closeSets_86 : decode cX6_closeSets 86 = .ok (.invokevirtual 103, 3) := by decide +kernel
theorem dX6_closeSets_89 : decode cX6_closeSets 89 = .ok (.iinc 5 1, 3) := by decide +kernel
theorem dX6_closeSets_92 : decode cX6_closeSets 92 = .ok (.goto (-50), 3) := by decide +kernel
theorem dX6_closeSets_95 : decode cX6_closeSets 95 = .ok (.iinc 4 1, 3) := by decide +kernel
theorem dX6_closeSets_98 : decode cX6_closeSets 98 = .ok (.goto (-65), 3) := by decide +kernel
theorem dX6_closeSets_101 : decode cX6_closeSets 101 = .ok (.iinc 2 1, 3) := by decide +kernel
theorem dX6_closeSets_104 : decode cX6_closeSets 104 = .ok (.goto (-102), 3) := by decide +kernel
theorem dX6_closeSets_107 : decode cX6_closeSets 107 = .ok (.return_, 1) := by decide +kernel
theorem dX6_closeSet_0 : decode cX6_closeSet 0 = .ok (.iconst 0, 1) := by decide +kernel
theorem dX6_closeSet_1 : decode cX6_closeSet 1 = .ok (.istore 5, 2) := by decide +kernel
theorem dX6_closeSet_3 : decode cX6_closeSet 3 = .ok (.iconst 0, 1) := by decide +kernel
theorem dX6_closeSet_4 : decode cX6_closeSet 4 = .ok (.istore 6, 2) := by decide +kernel
theorem dX6_closeSet_6 : decode cX6_closeSet 6 = .ok (.iconst 0, 1) := by decide +kernel
theorem dX6_closeSet_7 : decode cX6_closeSet 7 = .ok (.istore 7, 2) := by decide +kernel
theorem dX6_closeSet_9 : decode cX6_closeSet 9 = .ok (.iload 7, 2) := by decide +kernel
theorem dX6_closeSet_11 : decode cX6_closeSet 11 = .ok (.aload_n 1, 1) := by decide +kernel
theorem dX6_closeSet_12 : decode cX6_closeSet 12 = .ok (.getfield 87, 3) := by decide +kernel
theorem dX6_closeSet_15 : decode cX6_closeSet 15 = .ok (.iload_n 2, 1) := by decide +kernel
theorem dX6_closeSet_16 : decode cX6_closeSet 16 = .ok (.iaload, 1) := by decide +kernel
theorem dX6_closeSet_17 : decode cX6_closeSet 17 = .ok (.if_icmp .ge 64, 3) := by decide +kernel
theorem dX6_closeSet_20 : decode cX6_closeSet 20 = .ok (.aload_n 1, 1) := by decide +kernel
theorem dX6_closeSet_21 : decode cX6_closeSet 21 = .ok (.getfield 90, 3) := by decide +kernel
theorem dX6_closeSet_24 : decode cX6_closeSet 24 = .ok (.iload_n 2, 1) := by decide +kernel
theorem dX6_closeSet_25 : decode cX6_closeSet 25 = .ok (.aaload, 1) := by decide +kernel
theorem dX6_closeSet_26 : decode cX6_closeSet 26 = .ok (.iload 7, 2) := by decide +kernel
theorem dX6_closeSet_28 : decode cX6_closeSet 28 = .ok (.iaload, 1) := by decide +kernel
theorem dX6_closeSet_29 : decode cX6_closeSet 29 = .ok (.istore 8, 2) := by decide +kernel
theorem dX6_closeSet_31 : decode cX6_closeSet 31 = .ok (.aload_n 0, 1) := by decide +kernel
theorem dX6_closeSet_32 : decode cX6_closeSet 32 = .ok (.getfield 9, 3) := by decide +kernel
theorem dX6_closeSet_35 : decode cX6_closeSet 35 = .ok (.iload 8, 2) := by decide +kernel
theorem dX6_closeSet_37 : decode cX6_closeSet 37 = .ok (.iaload, 1) := by decide +kernel
theorem dX6_closeSet_38 : decode cX6_closeSet 38 = .ok (.iload_n 3, 1) := by decide +kernel
theorem dX6_closeSet_39 : decode cX6_closeSet 39 = .ok (.if_icmp .lt 36, 3) := by decide +kernel
theorem dX6_closeSet_42 : decode cX6_closeSet 42 = .ok (.aload_n 0, 1) := by decide +kernel
theorem dX6_closeSet_43 : decode cX6_closeSet 43 = .ok (.getfield 15, 3) := by decide +kernel
theorem dX6_closeSet_46 : decode cX6_closeSet 46 = .ok (.iload 8, 2) := by decide +kernel
theorem dX6_closeSet_48 : decode cX6_closeSet 48 = .ok (.iaload, 1) := by decide +kernel
theorem dX6_closeSet_49 : decode cX6_closeSet 49 = .ok (.iload 4, 2) := by decide +kernel
theorem dX6_closeSet_51 : decode cX6_closeSet 51 = .ok (.if_icmp .gt 24, 3) := by decide +kernel
theorem dX6_closeSet_54 : decode cX6_closeSet 54 = .ok (.iload 5, 2) := by decide +kernel
theorem dX6_closeSet_56 : decode cX6_closeSet 56 = .ok (.iconst 1, 1) := by decide +kernel
theorem dX6_closeSet_57 : decode cX6_closeSet 57 = .ok (.iload 8, 2) := by decide +kernel
theorem dX6_closeSet_59 : decode cX6_closeSet 59 = .ok (.ishl, 1) := by decide +kernel
theorem dX6_closeSet_60 : decode cX6_closeSet 60 = .ok (.ior, 1) := by decide +kernel
theorem dX6_closeSet_61 : decode cX6_closeSet 61 = .ok (.istore 5, 2) := by decide +kernel
theorem dX6_closeSet_63 : decode cX6_closeSet 63 = .ok (.iload 6, 2) := by decide +kernel
theorem dX6_closeSet_65 : decode cX6_closeSet 65 = .ok (.aload_n 1, 1) := by decide +kernel
theorem dX6_closeSet_66 : decode cX6_closeSet 66 = .ok (.getfield 61, 3) := by decide +kernel
theorem dX6_closeSet_69 : decode cX6_closeSet 69 = .ok (.iload 8, 2) := by decide +kernel
theorem dX6_closeSet_71 : decode cX6_closeSet 71 = .ok (.iaload, 1) := by decide +kernel
theorem dX6_closeSet_72 : decode cX6_closeSet 72 = .ok (.iadd, 1) := by decide +kernel
theorem dX6_closeSet_73 : decode cX6_closeSet 73 = .ok (.istore 6, 2) := by decide +kernel
theorem dX6_closeSet_75 : decode cX6_closeSet 75 = .ok (.iinc 7 1, 3) := by decide +kernel
theorem dX6_closeSet_78 : decode cX6_closeSet 78 = .ok (.goto (-69), 3) := by decide +kernel
theorem dX6_closeSet_81 : decode cX6_closeSet 81 = .ok (.iload 5, 2) := by decide +kernel
theorem dX6_closeSet_83 : decode cX6_closeSet 83 = .ok (.ifCond .ne 4, 3) := by decide +kernel
theorem dX6_closeSet_86 : decode cX6_closeSet 86 = .ok (.return_, 1) := by decide +kernel
theorem dX6_closeSet_87 : decode cX6_closeSet 87 = .ok (.iload 6, 2) := by decide +kernel
theorem dX6_closeSet_89 : decode cX6_closeSet 89 = .ok (.iload 4, 2) := by decide +kernel
theorem dX6_closeSet_91 : decode cX6_closeSet 91 = .ok (.iload_n 3, 1) := by decide +kernel
theorem dX6_closeSet_92 : decode cX6_closeSet 92 = .ok (.isub, 1) := by decide +kernel
theorem dX6_closeSet_93 : decode cX6_closeSet 93 = .ok (.if_icmp .le 9, 3) := by decide +kernel
theorem dX6_closeSet_96 : decode cX6_closeSet 96 = .ok (.aload_n 0, 1) := by decide +kernel
theorem dX6_closeSet_97 : decode cX6_closeSet 97 = .ok (.iconst 1, 1) := by decide +kernel
theorem dX6_closeSet_98 : decode cX6_closeSet 98 = .ok (.putfield 34, 3) := by decide +kernel
theorem dX6_closeSet_101 : decode cX6_closeSet 101 = .ok (.return_, 1) := by decide +kernel
theorem dX6_closeSet_102 : decode cX6_closeSet 102 = .ok (.iconst 0, 1) := by decide +kernel
theorem dX6_closeSet_103 : decode cX6_closeSet 103 = .ok (.istore 7, 2) := by decide +kernel
theorem dX6_closeSet_105 : decode cX6_closeSet 105 = .ok (.iload 7, 2) := by decide +kernel
theorem dX6_closeSet_107 : decode cX6_closeSet 107 = .ok (.aload_n 1, 1) := by decide +kernel
theorem dX6_closeSet_108 : decode cX6_closeSet 108 = .ok (.getfield 87, 3) := by decide +kernel
theorem dX6_closeSet_111 : decode cX6_closeSet 111 = .ok (.iload_n 2, 1) := by decide +kernel
theorem dX6_closeSet_112 : decode cX6_closeSet 112 = .ok (.iaload, 1) := by decide +kernel
theorem dX6_closeSet_113 : decode cX6_closeSet 113 = .ok (.if_icmp .ge 48, 3) := by decide +kernel
theorem dX6_closeSet_116 : decode cX6_closeSet 116 = .ok (.aload_n 1, 1) := by decide +kernel
theorem dX6_closeSet_117 : decode cX6_closeSet 117 = .ok (.getfield 90, 3) := by decide +kernel
theorem dX6_closeSet_120 : decode cX6_closeSet 120 = .ok (.iload_n 2, 1) := by decide +kernel
theorem dX6_closeSet_121 : decode cX6_closeSet 121 = .ok (.aaload, 1) := by decide +kernel
theorem dX6_closeSet_122 : decode cX6_closeSet 122 = .ok (.iload 7, 2) := by decide +kernel
theorem dX6_closeSet_124 : decode cX6_closeSet 124 = .ok (.iaload, 1) := by decide +kernel
theorem dX6_closeSet_125 : decode cX6_closeSet 125 = .ok (.istore 8, 2) := by decide +kernel
theorem dX6_closeSet_127 : decode cX6_closeSet 127 = .ok (.iload 5, 2) := by decide +kernel
theorem dX6_closeSet_129 : decode cX6_closeSet 129 = .ok (.iload 8, 2) := by decide +kernel
theorem dX6_closeSet_131 : decode cX6_closeSet 131 = .ok (.iushr, 1) := by decide +kernel
theorem dX6_closeSet_132 : decode cX6_closeSet 132 = .ok (.iconst 1, 1) := by decide +kernel
theorem dX6_closeSet_133 : decode cX6_closeSet 133 = .ok (.iand, 1) := by decide +kernel
theorem dX6_closeSet_134 : decode cX6_closeSet 134 = .ok (.ifCond .ne 21, 3) := by decide +kernel
theorem dX6_closeSet_137 : decode cX6_closeSet 137 = .ok (.aload_n 0, 1) := by decide +kernel
theorem dX6_closeSet_138 : decode cX6_closeSet 138 = .ok (.iload 8, 2) := by decide +kernel
theorem dX6_closeSet_140 : decode cX6_closeSet 140 = .ok (.aload_n 1, 1) := by decide +kernel
theorem dX6_closeSet_141 : decode cX6_closeSet 141 = .ok (.getfield 61, 3) := by decide +kernel
theorem dX6_closeSet_144 : decode cX6_closeSet 144 = .ok (.iload 8, 2) := by decide +kernel
theorem dX6_closeSet_146 : decode cX6_closeSet 146 = .ok (.iaload, 1) := by decide +kernel
theorem dX6_closeSet_147 : decode cX6_closeSet 147 = .ok (.iload_n 3, 1) := by decide +kernel
theorem dX6_closeSet_148 : decode cX6_closeSet 148 = .ok (.iload 4, 2) := by decide +kernel
theorem dX6_closeSet_150 : decode cX6_closeSet 150 = .ok (.iload 6, 2) := by decide +kernel
theorem dX6_closeSet_152 : decode cX6_closeSet 152 = .ok (.invokevirtual 107, 3) := by decide +kernel
theorem dX6_closeSet_155 : decode cX6_closeSet 155 = .ok (.iinc 7 1, 3) := by decide +kernel
theorem dX6_closeSet_158 : decode cX6_closeSet 158 = .ok (.goto (-53), 3) := by decide +kernel
theorem dX6_closeSet_161 : decode cX6_closeSet 161 = .ok (.return_, 1) := by decide +kernel
theorem dX6_keepOff_0 : decode cX6_keepOff 0 = .ok (.aload_n 0, 1) := by decide +kernel
theorem dX6_keepOff_1 : decode cX6_keepOff 1 = .ok (.getfield 9, 3) := by decide +kernel
theorem dX6_keepOff_4 : decode cX6_keepOff 4 = .ok (.iload_n 1, 1) := by decide +kernel
theorem dX6_keepOff_5 : decode cX6_keepOff 5 = .ok (.iaload, 1) := by decide +kernel
theorem dX6_keepOff_6 : decode cX6_keepOff 6 = .ok (.iload_n 3, 1) := by decide +kernel
theorem dX6_keepOff_7 : decode cX6_keepOff 7 = .ok (.invokestatic 111, 3) := by decide +kernel
theorem dX6_keepOff_10 : decode cX6_keepOff 10 = .ok (.iload 5, 2) := by decide +kernel
theorem dX6_keepOff_12 : decode cX6_keepOff 12 = .ok (.iadd, 1) := by decide +kernel
theorem dX6_keepOff_13 : decode cX6_keepOff 13 = .ok (.iload_n 2, 1) := by decide +kernel
theorem dX6_keepOff_14 : decode cX6_keepOff 14 = .ok (.iadd, 1) := by decide +kernel
theorem dX6_keepOff_15 : decode cX6_keepOff 15 = .ok (.iload 4, 2) := by decide +kernel
theorem dX6_keepOff_17 : decode cX6_keepOff 17 = .ok (.if_icmp .le 12, 3) := by decide +kernel
theorem dX6_keepOff_20 : decode cX6_keepOff 20 = .ok (.aload_n 0, 1) := by decide +kernel
theorem dX6_keepOff_21 : decode cX6_keepOff 21 = .ok (.iload_n 1, 1) := by decide +kernel
theorem dX6_keepOff_22 : decode cX6_keepOff 22 = .ok (.iload_n 3, 1) := by decide +kernel
theorem dX6_keepOff_23 : decode cX6_keepOff 23 = .ok (.iload 5, 2) := by decide +kernel
theorem dX6_keepOff_25 : decode cX6_keepOff 25 = .ok (.iadd, 1) := by decide +kernel
theorem dX6_keepOff_26 : decode cX6_keepOff 26 = .ok (.invokevirtual 74, 3) := by decide +kernel
theorem dX6_keepOff_29 : decode cX6_keepOff 29 = .ok (.iload_n 3, 1) := by decide +kernel
theorem dX6_keepOff_30 : decode cX6_keepOff 30 = .ok (.iload 5, 2) := by decide +kernel
theorem dX6_keepOff_32 : decode cX6_keepOff 32 = .ok (.iadd, 1) := by decide +kernel
theorem dX6_keepOff_33 : decode cX6_keepOff 33 = .ok (.iload_n 2, 1) := by decide +kernel
theorem dX6_keepOff_34 : decode cX6_keepOff 34 = .ok (.iadd, 1) := by decide +kernel
theorem dX6_keepOff_35 : decode cX6_keepOff 35 = .ok (.iload 4, 2) := by decide +kernel
theorem dX6_keepOff_37 : decode cX6_keepOff 37 = .ok (.aload_n 0, 1) := by decide +kernel
theorem dX6_keepOff_38 : decode cX6_keepOff 38 = .ok (.getfield 15, 3) := by decide +kernel
theorem dX6_keepOff_41 : decode cX6_keepOff 41 = .ok (.iload_n 1, 1) := by decide +kernel
theorem dX6_keepOff_42 : decode cX6_keepOff 42 = .ok (.iaload, 1) := by decide +kernel
theorem dX6_keepOff_43 : decode cX6_keepOff 43 = .ok (.invokestatic 117, 3) := by decide +kernel
theorem dX6_keepOff_46 : decode cX6_keepOff 46 = .ok (.if_icmp .le 13, 3) := by decide +kernel
theorem dX6_keepOff_49 : decode cX6_keepOff 49 = .ok (.aload_n 0, 1) := by decide +kernel
theorem dX6_keepOff_50 : decode cX6_keepOff 50 = .ok (.iload_n 1, 1) := by decide +kernel
theorem dX6_keepOff_51 : decode cX6_keepOff 51 = .ok (.iload 4, 2) := by decide +kernel
theorem dX6_keepOff_53 : decode cX6_keepOff 53 = .ok (.iload 5, 2) := by decide +kernel
theorem dX6_keepOff_55 : decode cX6_keepOff 55 = .ok (.isub, 1) := by decide +kernel
theorem dX6_keepOff_56 : decode cX6_keepOff 56 = .ok (.invokevirtual 78, 3) := by decide +kernel
theorem dX6_keepOff_59 : decode cX6_keepOff 59 = .ok (.return_, 1) := by decide +kernel
theorem dX7_init_0 : decode cX7_init 0 = .ok (.aload_n 0, 1) := by decide +kernel
theorem dX7_init_1 : decode cX7_init 1 = .ok (.invokespecial 1, 3) := by decide +kernel
theorem dX7_init_4 : decode cX7_init 4 = .ok (.aload_n 0, 1) := by decide +kernel
theorem dX7_init_5 : decode cX7_init 5 = .ok (.new 7, 3) := by decide +kernel
theorem dX7_init_8 : decode cX7_init 8 = .ok (.dup, 1) := by decide +kernel
theorem dX7_init_9 : decode cX7_init 9 = .ok (.invokespecial 9, 3) := by decide +kernel
theorem dX7_init_12 : decode cX7_init 12 = .ok (.putfield 10, 3) := by decide +kernel
theorem dX7_init_15 : decode cX7_init 15 = .ok (.aload_n 0, 1) := by decide +kernel
theorem dX7_init_16 : decode cX7_init 16 = .ok (.new 16, 3) := by decide +kernel
theorem dX7_init_19 : decode cX7_init 19 = .ok (.dup, 1) := by decide +kernel
theorem dX7_init_20 : decode cX7_init 20 = .ok (.invokespecial 18, 3) := by decide +kernel
theorem dX7_init_23 : decode cX7_init 23 = .ok (.putfield 19, 3) := by decide +kernel
theorem dX7_init_26 : decode cX7_init 26 = .ok (.aload_n 0, 1) := by decide +kernel
theorem dX7_init_27 : decode cX7_init 27 = .ok (.new 23, 3) := by decide +kernel
theorem dX7_init_30 : decode cX7_init 30 = .ok (.dup, 1) := by decide +kernel
theorem dX7_init_31 : decode cX7_init 31 = .ok (.invokespecial 25, 3) := by decide +kernel
theorem dX7_init_34 : decode cX7_init 34 = .ok (.putfield 26, 3) := by decide +kernel
theorem dX7_init_37 : decode cX7_init 37 = .ok (.aload_n 0, 1) := by decide +kernel
theorem dX7_init_38 : decode cX7_init 38 = .ok (.new 30, 3) := by decide +kernel
theorem dX7_init_41 : decode cX7_init 41 = .ok (.dup, 1) := by decide +kernel
theorem dX7_init_42 : decode cX7_init 42 = .ok (.invokespecial 32, 3) := by decide +kernel
theorem dX7_init_45 : decode cX7_init 45 = .ok (.putfield 33, 3) := by decide +kernel
theorem dX7_init_48 : decode cX7_init 48 = .ok (.aload_n 0, 1) := by decide +kernel
theorem dX7_init_49 : decode cX7_init 49 = .ok (.new 30, 3) := by decide +kernel
theorem dX7_init_52 : decode cX7_init 52 = .ok (.dup, 1) := by decide +kernel
theorem dX7_init_53 : decode cX7_init 53 = .ok (.invokespecial 32, 3) := by decide +kernel
theorem dX7_init_56 : decode cX7_init 56 = .ok (.putfield 37, 3) := by decide +kernel
theorem dX7_init_59 : decode cX7_init 59 = .ok (.aload_n 0, 1) := by decide +kernel
theorem dX7_init_60 : decode cX7_init 60 = .ok (.new 40, 3) := by decide +kernel
theorem dX7_init_63 : decode cX7_init 63 = .ok (.dup, 1) := by decide +kernel
theorem dX7_init_64 : decode cX7_init 64 = .ok (.invokespecial 42, 3) := by decide +kernel
theorem dX7_init_67 : decode cX7_init 67 = .ok (.putfield 43, 3) := by decide +kernel
theorem dX7_init_70 : decode cX7_init 70 = .ok (.aload_n 0, 1) := by decide +kernel
theorem dX7_init_71 : decode cX7_init 71 = .ok (.new 47, 3) := by decide +kernel
theorem dX7_init_74 : decode cX7_init 74 = .ok (.dup, 1) := by decide +kernel
theorem dX7_init_75 : decode cX7_init 75 = .ok (.invokespecial 49, 3) := by decide +kernel
theorem dX7_init_78 : decode cX7_init 78 = .ok (.putfield 50, 3) := by decide +kernel
theorem dX7_init_81 : decode cX7_init 81 = .ok (.aload_n 0, 1) := by decide +kernel
theorem dX7_init_82 : decode cX7_init 82 = .ok (.new 54, 3) := by decide +kernel
theorem dX7_init_85 : decode cX7_init 85 = .ok (.dup, 1) := by decide +kernel
theorem dX7_init_86 : decode cX7_init 86 = .ok (.invokespecial 56, 3) := by decide +kernel
theorem dX7_init_89 : decode cX7_init 89 = .ok (.putfield 57, 3) := by decide +kernel
theorem dX7_init_92 : decode cX7_init 92 = .ok (.aload_n 0, 1) := by decide +kernel
theorem dX7_init_93 : decode cX7_init 93 = .ok (.new 30, 3) := by decide +kernel
theorem dX7_init_96 : decode cX7_init 96 = .ok (.dup, 1) := by decide +kernel
theorem dX7_init_97 : decode cX7_init 97 = .ok (.invokespecial 32, 3) := by decide +kernel
theorem dX7_init_100 : decode cX7_init 100 = .ok (.putfield 61, 3) := by decide +kernel
theorem dX7_init_103 : decode cX7_init 103 = .ok (.aload_n 0, 1) := by decide +kernel
theorem dX7_init_104 : decode cX7_init 104 = .ok (.iconst 0, 1) := by decide +kernel
theorem dX7_init_105 : decode cX7_init 105 = .ok (.putfield 64, 3) := by decide +kernel
theorem dX7_init_108 : decode cX7_init 108 = .ok (.return_, 1) := by decide +kernel
theorem dX7_machine_0 : decode cX7_machine 0 = .ok (.iload_n 1, 1) := by decide +kernel
theorem dX7_machine_1 : decode cX7_machine 1 = .ok (.iconst 0, 1) := by decide +kernel
theorem dX7_machine_2 : decode cX7_machine 2 = .ok (.iconst 3, 1) := by decide +kernel
theorem dX7_machine_3 : decode cX7_machine 3 = .ok (.invokestatic 68, 3) := by decide +kernel
theorem dX7_machine_6 : decode cX7_machine 6 = .ok (.ifCond .eq 6, 3) := by decide +kernel
theorem dX7_machine_9 : decode cX7_machine 9 = .ok (.ldc 72, 2) := by decide +kernel
theorem dX7_machine_11 : decode cX7_machine 11 = .ok (.ireturn, 1) := by decide +kernel
theorem dX7_machine_12 : decode cX7_machine 12 = .ok (.iload_n 1, 1) := by decide +kernel
theorem dX7_machine_13 : decode cX7_machine 13 = .ok (.iconst 2, 1) := by decide +kernel
theorem dX7_machine_14 : decode cX7_machine 14 = .ok (.if_icmp .ne 16, 3) := by decide +kernel
theorem dX7_machine_17 : decode cX7_machine 17 = .ok (.iload_n 2, 1) := by decide +kernel
theorem dX7_machine_18 : decode cX7_machine 18 = .ok (.iconst 0, 1) := by decide +kernel
theorem dX7_machine_19 : decode cX7_machine 19 = .ok (.bipush 100, 2) := by decide +kernel
theorem dX7_machine_21 : decode cX7_machine 21 = .ok (.invokestatic 68, 3) := by decide +kernel
theorem dX7_machine_24 : decode cX7_machine 24 = .ok (.ifCond .eq 6, 3) := by decide +kernel
theorem dX7_machine_27 : decode cX7_machine 27 = .ok (.ldc 72, 2) := by decide +kernel
theorem dX7_machine_29 : decode cX7_machine 29 = .ok (.ireturn, 1) := by decide +kernel
theorem dX7_machine_30 : decode cX7_machine 30 = .ok (.iload_n 1, 1) := by decide +kernel
theorem dX7_machine_31 : decode cX7_machine 31 = .ok (.iconst 3, 1) := by decide +kernel
theorem dX7_machine_32 : decode cX7_machine 32 = .ok (.if_icmp .ne 15, 3) := by decide +kernel
theorem dX7_machine_35 : decode cX7_machine 35 = .ok (.iload_n 2, 1) := by decide +kernel
theorem dX7_machine_36 : decode cX7_machine 36 = .ok (.iconst 1, 1) := by decide +kernel
theorem dX7_machine_37 : decode cX7_machine 37 = .ok (.iconst 4, 1) := by decide +kernel
theorem dX7_machine_38 : decode cX7_machine 38 = .ok (.invokestatic 68, 3) := by decide +kernel
theorem dX7_machine_41 : decode cX7_machine 41 = .ok (.ifCond .eq 6, 3) := by decide +kernel
theorem dX7_machine_44 : decode cX7_machine 44 = .ok (.ldc 72, 2) := by decide +kernel
theorem dX7_machine_46 : decode cX7_machine 46 = .ok (.ireturn, 1) := by decide +kernel
theorem dX7_machine_47 : decode cX7_machine 47 = .ok (.aload_n 0, 1) := by decide +kernel
theorem dX7_machine_48 : decode cX7_machine 48 = .ok (.getfield 10, 3) := by decide +kernel
theorem dX7_machine_51 : decode cX7_machine 51 = .ok (.getfield 73, 3) := by decide +kernel
theorem dX7_machine_54 : decode cX7_machine 54 = .ok (.bipush 8, 2) := by decide +kernel
theorem dX7_machine_56 : decode cX7_machine 56 = .ok (.if_icmp .lt 6, 3) := by decide +kernel
theorem dX7_machine_59 : decode cX7_machine 59 = .ok (.ldc 76, 2) := by decide +kernel
theorem dX7_machine_61 : decode cX7_machine 61 = .ok (.ireturn, 1) := by decide +kernel
theorem dX7_machine_62 : decode cX7_machine 62 = .ok (.aload_n 0, 1) := by decide +kernel
theorem dX7_machine_63 : decode cX7_machine 63 = .ok (.getfield 10, 3) := by decide +kernel
theorem dX7_machine_66 : decode cX7_machine 66 = .ok (.iload_n 1, 1) := by decide +kernel
theorem dX7_machine_67 : decode cX7_machine 67 = .ok (.iload_n 2, 1) := by decide +kernel
theorem dX7_machine_68 : decode cX7_machine 68 = .ok (.invokevirtual 77, 3) := by decide +kernel
theorem dX7_machine_71 : decode cX7_machine 71 = .ok (.ireturn, 1) := by decide +kernel
theorem dX7_piece_0 : decode cX7_piece 0 = .ok (.iload_n 1, 1) := by decide +kernel
theorem dX7_piece_1 : decode cX7_piece 1 = .ok (.iconst 0, 1) := by decide +kernel
theorem dX7_piece_2 : decode cX7_piece 2 = .ok (.bipush 9, 2) := by decide +kernel
theorem dX7_piece_4 : decode cX7_piece 4 = .ok (.invokestatic 68, 3) := by decide +kernel
theorem dX7_piece_7 : decode cX7_piece 7 = .ok (.ifCond .eq 6, 3) := by decide +kernel
theorem dX7_piece_10 : decode cX7_piece 10 = .ok (.ldc 72, 2) := by decide +kernel
theorem dX7_piece_12 : decode cX7_piece 12 = .ok (.ireturn, 1) := by decide +kernel
theorem dX7_piece_13 : decode cX7_piece 13 = .ok (.aload_n 0, 1) := by decide +kernel
theorem dX7_piece_14 : decode cX7_piece 14 = .ok (.getfield 10, 3) := by decide +kernel
theorem dX7_piece_17 : decode cX7_piece 17 = .ok (.getfield 81, 3) := by decide +kernel
theorem dX7_piece_20 : decode cX7_piece 20 = .ok (.bipush 12, 2) := by decide +kernel
theorem dX7_piece_22 : decode cX7_piece 22 = .ok (.if_icmp .lt 6, 3) := by decide +kernel
theorem dX7_piece_25 : decode cX7_piece 25 = .ok (.ldc 76, 2) := by decide +kernel
theorem dX7_piece_27 : decode cX7_piece 27 = .ok (.ireturn, 1) := by decide +kernel
theorem dX7_piece_28 : decode cX7_piece 28 = .ok (.aload_n 0, 1) := by decide +kernel
theorem dX7_piece_29 : decode cX7_piece 29 = .ok (.getfield 10, 3) := by decide +kernel
theorem dX7_piece_32 : decode cX7_piece 32 = .ok (.iload_n 1, 1) := by decide +kernel
theorem dX7_piece_33 : decode cX7_piece 33 = .ok (.invokevirtual 84, 3) := by decide +kernel
theorem dX7_piece_36 : decode cX7_piece 36 = .ok (.ireturn, 1) := by decide +kernel
theorem dX7_step_0 : decode cX7_step 0 = .ok (.iload_n 1, 1) := by decide +kernel
theorem dX7_step_1 : decode cX7_step 1 = .ok (.iconst 0, 1) := by decide +kernel
theorem dX7_step_2 : decode cX7_step 2 = .ok (.aload_n 0, 1) := by decide +kernel
theorem dX7_step_3 : decode cX7_step 3 = .ok (.getfield 10, 3) := by decide +kernel
theorem dX7_step_6 : decode cX7_step 6 = .ok (.getfield 81, 3) := by decide +kernel
theorem dX7_step_9 : decode cX7_step 9 = .ok (.iconst 1, 1) := by decide +kernel
theorem dX7_step_10 : decode cX7_step 10 = .ok (.isub, 1) := by decide +kernel
theorem dX7_step_11 : decode cX7_step 11 = .ok (.invokestatic 68, 3) := by decide +kernel
theorem dX7_step_14 : decode cX7_step 14 = .ok (.ifCond .ne 11, 3) := by decide +kernel
theorem dX7_step_17 : decode cX7_step 17 = .ok (.aload_n 0, 1) := by decide +kernel
theorem dX7_step_18 : decode cX7_step 18 = .ok (.iload_n 2, 1) := by decide +kernel
theorem dX7_step_19 : decode cX7_step 19 = .ok (.invokevirtual 88, 3) := by decide +kernel
theorem dX7_step_22 : decode cX7_step 22 = .ok (.ifCond .ne 6, 3) := by decide +kernel
theorem dX7_step_25 : decode cX7_step 25 = .ok (.ldc 92, 2) := by decide +kernel
theorem dX7_step_27 : decode cX7_step 27 = .ok (.ireturn, 1) := by decide +kernel
theorem dX7_step_28 : decode cX7_step 28 = .ok (.iload_n 3, 1) := by decide +kernel
theorem dX7_step_29 : decode cX7_step 29 = .ok (.iconst 1, 1) := by decide +kernel
theorem dX7_step_30 : decode cX7_step 30 = .ok (.sipush 1000, 3) := by decide +kernel
theorem dX7_step_33 : decode cX7_step 33 = .ok (.invokestatic 68, 3) := by decide +kernel
theorem dX7_step_36 : decode cX7_step 36 = .ok (.ifCond .eq 6, 3) := by decide +kernel
theorem dX7_step_39 : decode cX7_step 39 = .ok (.ldc 72, 2) := by decide +kernel
theorem dX7_step_41 : decode cX7_step 41 = .ok (.ireturn, 1) := by decide +kernel
theorem dX7_step_42 : decode cX7_step 42 = .ok (.aload_n 0, 1) := by decide +kernel
theorem dX7_step_43 : decode cX7_step 43 = .ok (.getfield 10, 3) := by decide +kernel
theorem dX7_step_46 : decode cX7_step 46 = .ok (.getfield 93, 3) := by decide +kernel
theorem dX7_step_49 : decode cX7_step 49 = .ok (.iload_n 1, 1) := by decide +kernel
theorem dX7_step_50 : decode cX7_step 50 = .ok (.iaload, 1) := by decide +kernel
theorem dX7_step_51 : decode cX7_step 51 = .ok (.bipush 8, 2) := by decide +kernel
theorem dX7_step_53 : decode cX7_step 53 = .ok (.if_icmp .ge 15, 3) := by decide +kernel
theorem dX7_step_56 : decode cX7_step 56 = .ok (.aload_n 0, 1) := by decide +kernel
theorem dX7_step_57 : decode cX7_step 57 = .ok (.getfield 10, 3) := by decide +kernel
theorem dX7_step_60 : decode cX7_step 60 = .ok (.getfield 97, 3) := by decide +kernel
theorem dX7_step_63 : decode cX7_step 63 = .ok (.bipush 32, 2) := by decide +kernel
theorem dX7_step_65 : decode cX7_step 65 = .ok (.if_icmp .lt 6, 3) := by decide +kernel
theorem dX7_step_68 : decode cX7_step 68 = .ok (.ldc 76, 2) := by decide +kernel
theorem dX7_step_70 : decode cX7_step 70 = .ok (.ireturn, 1) := by decide +kernel
theorem dX7_step_71 : decode cX7_step 71 = .ok (.aload_n 0, 1) := by decide +kernel
theorem dX7_step_72 : decode cX7_step 72 = .ok (.iload_n 1, 1) := by decide +kernel
theorem dX7_step_73 : decode cX7_step 73 = .ok (.iload_n 2, 1) := by decide +kernel
theorem dX7_step_74 : decode cX7_step 74 = .ok (.iload_n 3, 1) := by decide +kernel
theorem dX7_step_75 : decode cX7_step 75 = .ok (.invokevirtual 100, 3) := by decide +kernel
theorem dX7_step_78 : decode cX7_step 78 = .ok (.ireturn, 1) := by decide +kernel
theorem dX7_told_0 : decode cX7_told 0 = .ok (.aload_n 0, 1) := by decide +kernel
theorem dX7_told_1 : decode cX7_told 1 = .ok (.iload_n 1, 1) := by decide +kernel
theorem dX7_told_2 : decode cX7_told 2 = .ok (.invokevirtual 104, 3) := by decide +kernel
theorem dX7_told_5 : decode cX7_told 5 = .ok (.ifCond .ne 6, 3) := by decide +kernel
theorem dX7_told_8 : decode cX7_told 8 = .ok (.ldc 92, 2) := by decide +kernel
theorem dX7_told_10 : decode cX7_told 10 = .ok (.ireturn, 1) := by decide +kernel
theorem dX7_told_11 : decode cX7_told 11 = .ok (.iload_n 2, 1) := by decide +kernel
theorem dX7_told_12 : decode cX7_told 12 = .ok (.tableswitch 94 0 4 #[36, 46, 56, 66, 76], 36) := by decide +kernel
theorem dX7_told_48 : decode cX7_told 48 = .ok (.aload_n 0, 1) := by decide +kernel
theorem dX7_told_49 : decode cX7_told 49 = .ok (.getfield 10, 3) := by decide +kernel
theorem dX7_told_52 : decode cX7_told 52 = .ok (.getfield 107, 3) := by decide +kernel
theorem dX7_told_55 : decode cX7_told 55 = .ok (.iload_n 1, 1) := by decide +kernel
theorem dX7_told_56 : decode cX7_told 56 = .ok (.iaload, 1) := by decide +kernel
theorem dX7_told_57 : decode cX7_told 57 = .ok (.ireturn, 1) := by decide +kernel
theorem dX7_told_58 : decode cX7_told 58 = .ok (.aload_n 0, 1) := by decide +kernel
theorem dX7_told_59 : decode cX7_told 59 = .ok (.getfield 10, 3) := by decide +kernel
theorem dX7_told_62 : decode cX7_told 62 = .ok (.getfield 110, 3) := by decide +kernel
theorem dX7_told_65 : decode cX7_told 65 = .ok (.iload_n 1, 1) := by decide +kernel
theorem dX7_told_66 : decode cX7_told 66 = .ok (.iaload, 1) := by decide +kernel
theorem dX7_told_67 : decode cX7_told 67 = .ok (.ireturn, 1) := by decide +kernel
theorem dX7_told_68 : decode cX7_told 68 = .ok (.aload_n 0, 1) := by decide +kernel
theorem dX7_told_69 : decode cX7_told 69 = .ok (.getfield 10, 3) := by decide +kernel
theorem dX7_told_72 : decode cX7_told 72 = .ok (.getfield 113, 3) := by decide +kernel
theorem dX7_told_75 : decode cX7_told 75 = .ok (.iload_n 1, 1) := by decide +kernel
theorem dX7_told_76 : decode cX7_told 76 = .ok (.iaload, 1) := by decide +kernel
theorem dX7_told_77 : decode cX7_told 77 = .ok (.ireturn, 1) := by decide +kernel
theorem dX7_told_78 : decode cX7_told 78 = .ok (.aload_n 0, 1) := by decide +kernel
theorem dX7_told_79 : decode cX7_told 79 = .ok (.getfield 10, 3) := by decide +kernel
theorem dX7_told_82 : decode cX7_told 82 = .ok (.getfield 116, 3) := by decide +kernel
theorem dX7_told_85 : decode cX7_told 85 = .ok (.iload_n 1, 1) := by decide +kernel
theorem dX7_told_86 : decode cX7_told 86 = .ok (.iaload, 1) := by decide +kernel
theorem dX7_told_87 : decode cX7_told 87 = .ok (.ireturn, 1) := by decide +kernel
theorem dX7_told_88 : decode cX7_told 88 = .ok (.aload_n 0, 1) := by decide +kernel
theorem dX7_told_89 : decode cX7_told 89 = .ok (.getfield 19, 3) := by decide +kernel
theorem dX7_told_92 : decode cX7_told 92 = .ok (.aload_n 0, 1) := by decide +kernel
theorem dX7_told_93 : decode cX7_told 93 = .ok (.getfield 10, 3) := by decide +kernel
theorem dX7_told_96 : decode cX7_told 96 = .ok (.getfield 110, 3) := by decide +kernel
theorem dX7_told_99 : decode cX7_told 99 = .ok (.iload_n 1, 1) := by decide +kernel
theorem dX7_told_100 : decode cX7_told 100 = .ok (.iaload, 1) := by decide +kernel
theorem dX7_told_101 : decode cX7_told 101 = .ok (.iload_n 1, 1) := by decide +kernel
theorem dX7_told_102 : decode cX7_told 102 = .ok (.invokevirtual 119, 3) := by decide +kernel
theorem dX7_told_105 : decode cX7_told 105 = .ok (.ireturn, 1) := by decide +kernel
theorem dX7_told_106 : decode cX7_told 106 = .ok (.ldc 72, 2) := by decide +kernel
theorem dX7_told_108 : decode cX7_told 108 = .ok (.ireturn, 1) := by decide +kernel
theorem dX7_count_0 : decode cX7_count 0 = .ok (.iload_n 1, 1) := by decide +kernel
theorem dX7_count_1 : decode cX7_count 1 = .ok (.tableswitch 83 0 4 #[35, 43, 51, 59, 75], 35) := by decide +kernel
theorem dX7_count_36 : decode cX7_count 36 = .ok (.aload_n 0, 1) := by decide +kernel
theorem dX7_count_37 : decode cX7_count 37 = .ok (.getfield 10, 3) := by decide +kernel
theorem dX7_count_40 : decode cX7_count 40 = .ok (.getfield 73, 3) := by decide +kernel
theorem dX7_count_43 : decode cX7_count 43 = .ok (.ireturn, 1) := by decide +kernel
theorem dX7_count_44 : decode cX7_count 44 = .ok (.aload_n 0, 1) := by decide +kernel
theorem dX7_count_45 : decode cX7_count 45 = .ok (.getfield 10, 3) := by decide +kernel
theorem dX7_count_48 : decode cX7_count 48 = .ok (.getfield 81, 3) := by decide +kernel
theorem dX7_count_51 : decode cX7_count 51 = .ok (.ireturn, 1) := by decide +kernel
theorem dX7_count_52 : decode cX7_count 52 = .ok (.aload_n 0, 1) := by decide +kernel
theorem dX7_count_53 : decode cX7_count 53 = .ok (.getfield 10, 3) := by decide +kernel
theorem dX7_count_56 : decode cX7_count 56 = .ok (.getfield 97, 3) := by decide +kernel
theorem dX7_count_59 : decode cX7_count 59 = .ok (.ireturn, 1) := by decide +kernel
theorem dX7_count_60 : decode cX7_count 60 = .ok (.aload_n 0, 1) := by decide +kernel
theorem dX7_count_61 : decode cX7_count 61 = .ok (.getfield 10, 3) := by decide +kernel
theorem dX7_count_64 : decode cX7_count 64 = .ok (.invokevirtual 122, 3) := by decide +kernel
theorem dX7_count_67 : decode cX7_count 67 = .ok (.ifCond .eq 7, 3) := by decide +kernel
theorem dX7_count_70 : decode cX7_count 70 = .ok (.iconst 1, 1) := by decide +kernel
theorem dX7_count_71 : decode cX7_count 71 = .ok (.goto 4, 3) := by decide +kernel
theorem dX7_count_74 : decode cX7_count 74 = .ok (.iconst 0, 1) := by decide +kernel
theorem dX7_count_75 : decode cX7_count 75 = .ok (.ireturn, 1) := by decide +kernel
theorem dX7_count_76 : decode cX7_count 76 = .ok (.aload_n 0, 1) := by decide +kernel
theorem dX7_count_77 : decode cX7_count 77 = .ok (.getfield 10, 3) := by decide +kernel
theorem dX7_count_80 : decode cX7_count 80 = .ok (.invokevirtual 126, 3) := by decide +kernel
theorem dX7_count_83 : decode cX7_count 83 = .ok (.ireturn, 1) := by decide +kernel
theorem dX7_count_84 : decode cX7_count 84 = .ok (.ldc 72, 2) := by decide +kernel
theorem dX7_count_86 : decode cX7_count 86 = .ok (.ireturn, 1) := by decide +kernel
theorem dX7_sheet_0 : decode cX7_sheet 0 = .ok (.iload_n 1, 1) := by decide +kernel
theorem dX7_sheet_1 : decode cX7_sheet 1 = .ok (.invokestatic 130, 3) := by decide +kernel
theorem dX7_sheet_4 : decode cX7_sheet 4 = .ok (.ifCond .ne 6, 3) := by decide +kernel
theorem dX7_sheet_7 : decode cX7_sheet 7 = .ok (.ldc 92, 2) := by decide +kernel
theorem dX7_sheet_9 : decode cX7_sheet 9 = .ok (.ireturn, 1) := by decide +kernel
theorem dX7_sheet_10 : decode cX7_sheet 10 = .ok (.iload_n 2, 1) := by decide +kernel
theorem dX7_sheet_11 : decode cX7_sheet 11 = .ok (.iconst 0, 1) := by decide +kernel
theorem dX7_sheet_12 : decode cX7_sheet 12 = .ok (.iconst 2, 1) := by decide +kernel
theorem dX7_sheet_13 : decode cX7_sheet 13 = .ok (.invokestatic 68, 3) := by decide +kernel
theorem dX7_sheet_16 : decode cX7_sheet 16 = .ok (.ifCond .ne 9, 3) := by decide +kernel
theorem dX7_sheet_19 : decode cX7_sheet 19 = .ok (.iload_n 3, 1) := by decide +kernel
theorem dX7_sheet_20 : decode cX7_sheet 20 = .ok (.bipush 40, 2) := by decide +kernel
theorem dX7_sheet_22 : decode cX7_sheet 22 = .ok (.if_icmp .le 6, 3) := by decide +kernel
theorem dX7_sheet_25 : decode cX7_sheet 25 = .ok (.ldc 72, 2) := by decide +kernel
theorem dX7_sheet_27 : decode cX7_sheet 27 = .ok (.ireturn, 1) := by decide +kernel
theorem dX7_sheet_28 : decode cX7_sheet 28 = .ok (.aload_n 0, 1) := by decide +kernel
theorem dX7_sheet_29 : decode cX7_sheet 29 = .ok (.getfield 26, 3) := by decide +kernel
theorem dX7_sheet_32 : decode cX7_sheet 32 = .ok (.iload_n 3, 1) := by decide +kernel
theorem dX7_sheet_33 : decode cX7_sheet 33 = .ok (.ifCond .ge 7, 3) := by decide +kernel
theorem dX7_sheet_36 : decode cX7_sheet 36 = .ok (.iconst 4, 1) := by decide +kernel
theorem dX7_sheet_37 : decode cX7_sheet 37 = .ok (.goto 4, 3) := by decide +kernel
theorem dX7_sheet_40 : decode cX7_sheet 40 = .ok (.iconst 0, 1) := by decide +kernel
theorem dX7_sheet_41 : decode cX7_sheet 41 = .ok (.putfield 133, 3) := by decide +kernel
theorem dX7_sheet_44 : decode cX7_sheet 44 = .ok (.aload_n 0, 1) := by decide +kernel
theorem dX7_sheet_45 : decode cX7_sheet 45 = .ok (.getfield 26, 3) := by decide +kernel
theorem dX7_sheet_48 : decode cX7_sheet 48 = .ok (.getfield 133, 3) := by decide +kernel
theorem dX7_sheet_51 : decode cX7_sheet 51 = .ok (.ifCond .eq 5, 3) := by decide +kernel
theorem dX7_sheet_54 : decode cX7_sheet 54 = .ok (.iconst 0, 1) := by decide +kernel
theorem dX7_sheet_55 : decode cX7_sheet 55 = .ok (.ireturn, 1) := by decide +kernel
theorem dX7_sheet_56 : decode cX7_sheet 56 = .ok (.aload_n 0, 1) := by decide +kernel
theorem dX7_sheet_57 : decode cX7_sheet 57 = .ok (.getfield 26, 3) := by decide +kernel
theorem dX7_sheet_60 : decode cX7_sheet 60 = .ok (.iload_n 1, 1) := by decide +kernel
theorem dX7_sheet_61 : decode cX7_sheet 61 = .ok (.iload_n 2, 1) := by decide +kernel
theorem dX7_sheet_62 : decode cX7_sheet 62 = .ok (.iload_n 3, 1) := by decide +kernel
theorem dX7_sheet_63 : decode cX7_sheet 63 = .ok (.invokevirtual 136, 3) := by decide +kernel
theorem dX7_sheet_66 : decode cX7_sheet 66 = .ok (.iload_n 3, 1) := by decide +kernel
theorem dX7_sheet_67 : decode cX7_sheet 67 = .ok (.ireturn, 1) := by decide +kernel
theorem dX7_tear_0 : decode cX7_tear 0 = .ok (.iload_n 1, 1) := by decide +kernel
theorem dX7_tear_1 : decode cX7_tear 1 = .ok (.invokestatic 130, 3) := by decide +kernel
theorem dX7_tear_4 : decode cX7_tear 4 = .ok (.ifCond .ne 6, 3) := by decide +kernel
theorem dX7_tear_7 : decode cX7_tear 7 = .ok (.ldc 92, 2) := by decide +kernel
theorem dX7_tear_9 : decode cX7_tear 9 = .ok (.ireturn, 1) := by decide +kernel
theorem dX7_tear_10 : decode cX7_tear 10 = .ok (.aload_n 0, 1) := by decide +kernel
theorem dX7_tear_11 : decode cX7_tear 11 = .ok (.getfield 26, 3) := by decide +kernel
theorem dX7_tear_14 : decode cX7_tear 14 = .ok (.iload_n 1, 1) := by decide +kernel
theorem dX7_tear_15 : decode cX7_tear 15 = .ok (.invokevirtual 140, 3) := by decide +kernel
theorem dX7_tear_18 : decode cX7_tear 18 = .ok (.ifCond .eq 7, 3) := by decide +kernel
theorem dX7_tear_21 : decode cX7_tear 21 = .ok (.iconst 1, 1) := by decide +kernel
theorem dX7_tear_22 : decode cX7_tear 22 = .ok (.goto 4, 3) := by decide +kernel
theorem dX7_tear_25 : decode cX7_tear 25 = .ok (.iconst 0, 1) := by decide +kernel
theorem dX7_tear_26 : decode cX7_tear 26 = .ok (.istore_n 2, 1) := by decide +kernel
theorem dX7_tear_27 : decode cX7_tear 27 = .ok (.aload_n 0, 1) := by decide +kernel
theorem dX7_tear_28 : decode cX7_tear 28 = .ok (.getfield 26, 3) := by decide +kernel
theorem dX7_tear_31 : decode cX7_tear 31 = .ok (.iload_n 1, 1) := by decide +kernel
theorem dX7_tear_32 : decode cX7_tear 32 = .ok (.invokevirtual 143, 3) := by decide +kernel
theorem dX7_tear_35 : decode cX7_tear 35 = .ok (.iload_n 2, 1) := by decide +kernel
theorem dX7_tear_36 : decode cX7_tear 36 = .ok (.ireturn, 1) := by decide +kernel
theorem dX7_put_0 : decode cX7_put 0 = .ok (.iload_n 1, 1) := by decide +kernel
theorem dX7_put_1 : decode cX7_put 1 = .ok (.invokestatic 130, 3) := by decide +kernel
theorem dX7_put_4 : decode cX7_put 4 = .ok (.ifCond .ne 6, 3) := by decide +kernel
theorem dX7_put_7 : decode cX7_put 7 = .ok (.ldc 92, 2) := by decide +kernel
theorem dX7_put_9 : decode cX7_put 9 = .ok (.ireturn, 1) := by decide +kernel
theorem dX7_put_10 : decode cX7_put 10 = .ok (.iload_n 2, 1) := by decide +kernel
theorem dX7_put_11 : decode cX7_put 11 = .ok (.iconst 0, 1) := by decide +kernel
theorem dX7_put_12 : decode cX7_put 12 = .ok (.iconst 2, 1) := by decide +kernel
theorem dX7_put_13 : decode cX7_put 13 = .ok (.invokestatic 68, 3) := by decide +kernel
theorem dX7_put_16 : decode cX7_put 16 = .ok (.ifCond .eq 6, 3) := by decide +kernel
theorem dX7_put_19 : decode cX7_put 19 = .ok (.ldc 72, 2) := by decide +kernel
theorem dX7_put_21 : decode cX7_put 21 = .ok (.ireturn, 1) := by decide +kernel
theorem dX7_put_22 : decode cX7_put 22 = .ok (.aload_n 0, 1) := by decide +kernel
theorem dX7_put_23 : decode cX7_put 23 = .ok (.getfield 26, 3) := by decide +kernel
theorem dX7_put_26 : decode cX7_put 26 = .ok (.aload_n 0, 1) := by decide +kernel
theorem dX7_put_27 : decode cX7_put 27 = .ok (.getfield 26, 3) := by decide +kernel
theorem dX7_put_30 : decode cX7_put 30 = .ok (.iload_n 1, 1) := by decide +kernel
theorem dX7_put_31 : decode cX7_put 31 = .ok (.iload_n 2, 1) := by decide +kernel
theorem dX7_put_32 : decode cX7_put 32 = .ok (.iload_n 3, 1) := by decide +kernel
theorem dX7_put_33 : decode cX7_put 33 = .ok (.invokevirtual 147, 3) := by decide +kernel
theorem dX7_put_36 : decode cX7_put 36 = .ok (.putfield 133, 3) := by decide +kernel
theorem dX7_put_39 : decode cX7_put 39 = .ok (.aload_n 0, 1) := by decide +kernel
theorem dX7_put_40 : decode cX7_put 40 = .ok (.getfield 26, 3) := by decide +kernel
theorem dX7_put_43 : decode cX7_put 43 = .ok (.getfield 133, 3) := by decide +kernel
theorem dX7_put_46 : decode cX7_put 46 = .ok (.ifCond .eq 5, 3) := by decide +kernel
theorem dX7_put_49 : decode cX7_put 49 = .ok (.iconst 0, 1) := by decide +kernel
theorem dX7_put_50 : decode cX7_put 50 = .ok (.ireturn, 1) := by decide +kernel
theorem dX7_put_51 : decode cX7_put 51 = .ok (.aload_n 0, 1) := by decide +kernel
theorem dX7_put_52 : decode cX7_put 52 = .ok (.getfield 26, 3) := by decide +kernel
theorem dX7_put_55 : decode cX7_put 55 = .ok (.getfield 150, 3) := by decide +kernel
theorem dX7_put_58 : decode cX7_put 58 = .ok (.iload_n 1, 1) := by decide +kernel
theorem dX7_put_59 : decode cX7_put 59 = .ok (.aaload, 1) := by decide +kernel
theorem dX7_put_60 : decode cX7_put 60 = .ok (.iload_n 3, 1) := by decide +kernel
theorem dX7_put_61 : decode cX7_put 61 = .ok (.iload_n 2, 1) := by decide +kernel
theorem dX7_put_62 : decode cX7_put 62 = .ok (.iload 4, 2) := by decide +kernel
theorem dX7_put_64 : decode cX7_put 64 = .ok (.invokestatic 154, 3) := by decide +kernel
theorem dX7_put_67 : decode cX7_put 67 = .ok (.iastore, 1) := by decide +kernel
theorem dX7_put_68 : decode cX7_put 68 = .ok (.aload_n 0, 1) := by decide +kernel
theorem dX7_put_69 : decode cX7_put 69 = .ok (.getfield 26, 3) := by decide +kernel
theorem dX7_put_72 : decode cX7_put 72 = .ok (.getfield 150, 3) := by decide +kernel
theorem dX7_put_75 : decode cX7_put 75 = .ok (.iload_n 1, 1) := by decide +kernel
theorem dX7_put_76 : decode cX7_put 76 = .ok (.aaload, 1) := by decide +kernel
theorem dX7_put_77 : decode cX7_put 77 = .ok (.iload_n 3, 1) := by decide +kernel
theorem dX7_put_78 : decode cX7_put 78 = .ok (.iaload, 1) := by decide +kernel
theorem dX7_put_79 : decode cX7_put 79 = .ok (.ireturn, 1) := by decide +kernel
theorem dX7_at_0 : decode cX7_at 0 = .ok (.iload_n 1, 1) := by decide +kernel
theorem dX7_at_1 : decode cX7_at 1 = .ok (.invokestatic 130, 3) := by decide +kernel
theorem dX7_at_4 : decode cX7_at 4 = .ok (.ifCond .ne 6, 3) := by decide +kernel
theorem dX7_at_7 : decode cX7_at 7 = .ok (.ldc 92, 2) := by decide +kernel
theorem dX7_at_9 : decode cX7_at 9 = .ok (.ireturn, 1) := by decide +kernel
theorem dX7_at_10 : decode cX7_at 10 = .ok (.aload_n 0, 1) := by decide +kernel
theorem dX7_at_11 : decode cX7_at 11 = .ok (.getfield 26, 3) := by decide +kernel
theorem dX7_at_14 : decode cX7_at 14 = .ok (.aload_n 0, 1) := by decide +kernel
theorem dX7_at_15 : decode cX7_at 15 = .ok (.getfield 26, 3) := by decide +kernel
theorem dX7_at_18 : decode cX7_at 18 = .ok (.iload_n 1, 1) := by decide +kernel
theorem dX7_at_19 : decode cX7_at 19 = .ok (.iload_n 2, 1) := by decide +kernel
theorem dX7_at_20 : decode cX7_at 20 = .ok (.invokevirtual 157, 3) := by decide +kernel
theorem dX7_at_23 : decode cX7_at 23 = .ok (.putfield 133, 3) := by decide +kernel
theorem dX7_at_26 : decode cX7_at 26 = .ok (.aload_n 0, 1) := by decide +kernel
theorem dX7_at_27 : decode cX7_at 27 = .ok (.getfield 26, 3) := by decide +kernel
theorem dX7_at_30 : decode cX7_at 30 = .ok (.getfield 133, 3) := by decide +kernel
theorem dX7_at_33 : decode cX7_at 33 = .ok (.ifCond .eq 7, 3) := by decide +kernel
theorem dX7_at_36 : decode cX7_at 36 = .ok (.iconst 0, 1) := by decide +kernel
theorem dX7_at_37 : decode cX7_at 37 = .ok (.goto 14, 3) := by decide +kernel
theorem dX7_at_40 : decode cX7_at 40 = .ok (.aload_n 0, 1) := by decide +kernel
theorem dX7_at_41 : decode cX7_at 41 = .ok (.getfield 26, 3) := by decide +kernel
theorem dX7_at_44 : decode cX7_at 44 = .ok (.getfield 150, 3) := by decide +kernel
theorem dX7_at_47 : decode cX7_at 47 = .ok (.iload_n 1, 1) := by decide +kernel
theorem dX7_at_48 : decode cX7_at 48 = .ok (.aaload, 1) := by decide +kernel
theorem dX7_at_49 : decode cX7_at 49 = .ok (.iload_n 2, 1) := by decide +kernel
theorem dX7_at_50 : decode cX7_at 50 = .ok (.iaload, 1) := by decide +kernel
theorem dX7_at_51 : decode cX7_at 51 = .ok (.ireturn, 1) := by decide +kernel
theorem dX7_copy_0 : decode cX7_copy 0 = .ok (.iload_n 1, 1) := by decide +kernel
theorem dX7_copy_1 : decode cX7_copy 1 = .ok (.invokestatic 130, 3) := by decide +kernel
theorem dX7_copy_4 : decode cX7_copy 4 = .ok (.ifCond .eq 10, 3) := by decide +kernel
theorem dX7_copy_7 : decode cX7_copy 7 = .ok (.iload_n 3, 1) := by decide +kernel
theorem dX7_copy_8 : decode cX7_copy 8 = .ok (.invokestatic 130, 3) := by decide +kernel
theorem dX7_copy_11 : decode cX7_copy 11 = .ok (.ifCond .ne 6, 3) := by decide +kernel
theorem dX7_copy_14 : decode cX7_copy 14 = .ok (.ldc 92, 2) := by decide +kernel
theorem dX7_copy_16 : decode cX7_copy 16 = .ok (.ireturn, 1) := by decide +kernel
theorem dX7_copy_17 : decode cX7_copy 17 = .ok (.aload_n 0, 1) := by decide +kernel
theorem dX7_copy_18 : decode cX7_copy 18 = .ok (.getfield 26, 3) := by decide +kernel
theorem dX7_copy_21 : decode cX7_copy 21 = .ok (.aload_n 0, 1) := by decide +kernel
theorem dX7_copy_22 : decode cX7_copy 22 = .ok (.getfield 26, 3) := by decide +kernel
theorem dX7_copy_25 : decode cX7_copy 25 = .ok (.iload_n 1, 1) := by decide +kernel
theorem dX7_copy_26 : decode cX7_copy 26 = .ok (.iload_n 2, 1) := by decide +kernel
theorem dX7_copy_27 : decode cX7_copy 27 = .ok (.iload_n 3, 1) := by decide +kernel
theorem dX7_copy_28 : decode cX7_copy 28 = .ok (.iload 4, 2) := by decide +kernel
theorem dX7_copy_30 : decode cX7_copy 30 = .ok (.iload 5, 2) := by decide +kernel
theorem dX7_copy_32 : decode cX7_copy 32 = .ok (.invokevirtual 160, 3) := by decide +kernel
theorem dX7_copy_35 : decode cX7_copy 35 = .ok (.putfield 133, 3) := by decide +kernel
theorem dX7_copy_38 : decode cX7_copy 38 = .ok (.aload_n 0, 1) := by decide +kernel
theorem dX7_copy_39 : decode cX7_copy 39 = .ok (.getfield 26, 3) := by decide +kernel
theorem dX7_copy_42 : decode cX7_copy 42 = .ok (.getfield 133, 3) := by decide +kernel
theorem dX7_copy_45 : decode cX7_copy 45 = .ok (.ifCond .eq 5, 3) := by decide +kernel
theorem dX7_copy_48 : decode cX7_copy 48 = .ok (.iconst 0, 1) := by decide +kernel
theorem dX7_copy_49 : decode cX7_copy 49 = .ok (.ireturn, 1) := by decide +kernel
theorem dX7_copy_50 : decode cX7_copy 50 = .ok (.aload_n 0, 1) := by decide +kernel
theorem dX7_copy_51 : decode cX7_copy 51 = .ok (.getfield 26, 3) := by decide +kernel
theorem dX7_copy_54 : decode cX7_copy 54 = .ok (.getfield 150, 3) := by decide +kernel
theorem dX7_copy_57 : decode cX7_copy 57 = .ok (.iload_n 1, 1) := by decide +kernel
theorem dX7_copy_58 : decode cX7_copy 58 = .ok (.aaload, 1) := by decide +kernel
theorem dX7_copy_59 : decode cX7_copy 59 = .ok (.iload_n 2, 1) := by decide +kernel
theorem dX7_copy_60 : decode cX7_copy 60 = .ok (.aload_n 0, 1) := by decide +kernel
theorem dX7_copy_61 : decode cX7_copy 61 = .ok (.getfield 26, 3) := by decide +kernel
theorem dX7_copy_64 : decode cX7_copy 64 = .ok (.getfield 150, 3) := by decide +kernel
theorem dX7_copy_67 : decode cX7_copy 67 = .ok (.iload_n 3, 1) := by decide +kernel
theorem dX7_copy_68 : decode cX7_copy 68 = .ok (.aaload, 1) := by decide +kernel
theorem dX7_copy_69 : decode cX7_copy 69 = .ok (.iload 4, 2) := by decide +kernel
theorem dX7_copy_71 : decode cX7_copy 71 = .ok (.iload 5, 2) := by decide +kernel
theorem dX7_copy_73 : decode cX7_copy 73 = .ok (.invokestatic 164, 3) := by decide +kernel
theorem dX7_copy_76 : decode cX7_copy 76 = .ok (.iconst 1, 1) := by decide +kernel
theorem dX7_copy_77 : decode cX7_copy 77 = .ok (.ireturn, 1) := by decide +kernel
theorem dX7_read_0 : decode cX7_read 0 = .ok (.iload_n 1, 1) := by decide +kernel
theorem dX7_read_1 : decode cX7_read 1 = .ok (.invokestatic 130, 3) := by decide +kernel
theorem dX7_read_4 : decode cX7_read 4 = .ok (.ifCond .ne 6, 3) := by decide +kernel
theorem dX7_read_7 : decode cX7_read 7 = .ok (.ldc 92, 2) := by decide +kernel
theorem dX7_read_9 : decode cX7_read 9 = .ok (.ireturn, 1) := by decide +kernel
theorem dX7_read_10 : decode cX7_read 10 = .ok (.iload_n 2, 1) := by decide +kernel
theorem dX7_read_11 : decode cX7_read 11 = .ok (.iconst 0, 1) := by decide +kernel
theorem dX7_read_12 : decode cX7_read 12 = .ok (.bipush 9, 2) := by decide +kernel
theorem dX7_read_14 : decode cX7_read 14 = .ok (.invokestatic 68, 3) := by decide +kernel
theorem dX7_read_17 : decode cX7_read 17 = .ok (.ifCond .eq 6, 3) := by decide +kernel
theorem dX7_read_20 : decode cX7_read 20 = .ok (.ldc 72, 2) := by decide +kernel
theorem dX7_read_22 : decode cX7_read 22 = .ok (.ireturn, 1) := by decide +kernel
theorem dX7_read_23 : decode cX7_read 23 = .ok (.aload_n 0, 1) := by decide +kernel
theorem dX7_read_24 : decode cX7_read 24 = .ok (.getfield 26, 3) := by decide +kernel
theorem dX7_read_27 : decode cX7_read 27 = .ok (.iload_n 1, 1) := by decide +kernel
theorem dX7_read_28 : decode cX7_read 28 = .ok (.invokevirtual 170, 3) := by decide +kernel
theorem dX7_read_31 : decode cX7_read 31 = .ok (.istore_n 3, 1) := by decide +kernel
theorem dX7_read_32 : decode cX7_read 32 = .ok (.iload_n 3, 1) := by decide +kernel
theorem dX7_read_33 : decode cX7_read 33 = .ok (.ifCond .eq 13, 3) := by decide +kernel
theorem dX7_read_36 : decode cX7_read 36 = .ok (.aload_n 0, 1) := by decide +kernel
theorem dX7_read_37 : decode cX7_read 37 = .ok (.getfield 26, 3) := by decide +kernel
theorem dX7_read_40 : decode cX7_read 40 = .ok (.iload_n 3, 1) := by decide +kernel
theorem dX7_read_41 : decode cX7_read 41 = .ok (.putfield 133, 3) := by decide +kernel
theorem dX7_read_44 : decode cX7_read 44 = .ok (.iconst 0, 1) := by decide +kernel
theorem dX7_read_45 : decode cX7_read 45 = .ok (.ireturn, 1) := by decide +kernel
theorem dX7_read_46 : decode cX7_read 46 = .ok (.aload_n 0, 1) := by decide +kernel
theorem dX7_read_47 : decode cX7_read 47 = .ok (.getfield 26, 3) := by decide +kernel
theorem dX7_read_50 : decode cX7_read 50 = .ok (.getfield 173, 3) := by decide +kernel
theorem dX7_read_53 : decode cX7_read 53 = .ok (.iload_n 1, 1) := by decide +kernel
theorem dX7_read_54 : decode cX7_read 54 = .ok (.iaload, 1) := by decide +kernel
theorem dX7_read_55 : decode cX7_read 55 = .ok (.iconst 2, 1) := by decide +kernel
theorem dX7_read_56 : decode cX7_read 56 = .ok (.idiv, 1) := by decide +kernel
theorem dX7_read_57 : decode cX7_read 57 = .ok (.istore 4, 2) := by decide +kernel
theorem dX7_read_59 : decode cX7_read 59 = .ok (.aload_n 0, 1) := by decide +kernel
theorem dX7_read_60 : decode cX7_read 60 = .ok (.aload_n 0, 1) := by decide +kernel
theorem dX7_read_61 : decode cX7_read 61 = .ok (.getfield 26, 3) := by decide +kernel
theorem dX7_read_64 : decode cX7_read 64 = .ok (.getfield 150, 3) := by decide +kernel
theorem dX7_read_67 : decode cX7_read 67 = .ok (.iload_n 1, 1) := by decide +kernel
theorem dX7_read_68 : decode cX7_read 68 = .ok (.aaload, 1) := by decide +kernel
theorem dX7_read_69 : decode cX7_read 69 = .ok (.iload 4, 2) := by decide +kernel
theorem dX7_read_71 : decode cX7_read 71 = .ok (.invokevirtual 176, 3) := by decide +kernel
theorem dX7_read_74 : decode cX7_read 74 = .ok (.ifCond .ne 6, 3) := by decide +kernel
theorem dX7_read_77 : decode cX7_read 77 = .ok (.ldc 180, 2) := by decide +kernel
theorem dX7_read_79 : decode cX7_read 79 = .ok (.ireturn, 1) := by decide +kernel
theorem dX7_read_80 : decode cX7_read 80 = .ok (.aload_n 0, 1) := by decide +kernel
theorem dX7_read_81 : decode cX7_read 81 = .ok (.getfield 10, 3) := by decide +kernel
theorem dX7_read_84 : decode cX7_read 84 = .ok (.getfield 81, 3) := by decide +kernel
theorem dX7_read_87 : decode cX7_read 87 = .ok (.bipush 12, 2) := by decide +kernel
theorem dX7_read_89 : decode cX7_read 89 = .ok (.if_icmp .ge 25, 3) := by decide +kernel
theorem dX7_read_92 : decode cX7_read 92 = .ok (.iload 4, 2) := by decide +kernel
theorem dX7_read_94 : decode cX7_read 94 = .ok (.bipush 8, 2) := by decide +kernel
theorem dX7_read_96 : decode cX7_read 96 = .ok (.if_icmp .gt 18, 3) := by decide +kernel
theorem dX7_read_99 : decode cX7_read 99 = .ok (.aload_n 0, 1) := by decide +kernel
theorem dX7_read_100 : decode cX7_read 100 = .ok (.getfield 10, 3) := by decide +kernel
theorem dX7_read_103 : decode cX7_read 103 = .ok (.getfield 97, 3) := by decide +kernel
theorem dX7_read_106 : decode cX7_read 106 = .ok (.iload 4, 2) := by decide +kernel
theorem dX7_read_108 : decode cX7_read 108 = .ok (.iadd, 1) := by decide +kernel
theorem dX7_read_109 : decode cX7_read 109 = .ok (.bipush 32, 2) := by decide +kernel
theorem dX7_read_111 : decode cX7_read 111 = .ok (.if_icmp .le 6, 3) := by decide +kernel
theorem dX7_read_114 : decode cX7_read 114 = .ok (.ldc 76, 2) := by decide +kernel
theorem dX7_read_116 : decode cX7_read 116 = .ok (.ireturn, 1) := by decide +kernel
theorem dX7_read_117 : decode cX7_read 117 = .ok (.aload_n 0, 1) := by decide +kernel
theorem dX7_read_118 : decode cX7_read 118 = .ok (.getfield 26, 3) := by decide +kernel
theorem dX7_read_121 : decode cX7_read 121 = .ok (.iconst 0, 1) := by decide +kernel
theorem dX7_read_122 : decode cX7_read 122 = .ok (.putfield 133, 3) := by decide +kernel
theorem dX7_read_125 : decode cX7_read 125 = .ok (.aload_n 0, 1) := by decide +kernel
theorem dX7_read_126 : decode cX7_read 126 = .ok (.iload_n 2, 1) := by decide +kernel
theorem dX7_read_127 : decode cX7_read 127 = .ok (.aload_n 0, 1) := by decide +kernel
theorem dX7_read_128 : decode cX7_read 128 = .ok (.getfield 26, 3) := by decide +kernel
theorem dX7_read_131 : decode cX7_read 131 = .ok (.getfield 150, 3) := by decide +kernel
theorem dX7_read_134 : decode cX7_read 134 = .ok (.iload_n 1, 1) := by decide +kernel
theorem dX7_read_135 : decode cX7_read 135 = .ok (.aaload, 1) := by decide +kernel
theorem dX7_read_136 : decode cX7_read 136 = .ok (.iload 4, 2) := by decide +kernel
theorem dX7_read_138 : decode cX7_read 138 = .ok (.invokevirtual 181, 3) := by decide +kernel
theorem dX7_read_141 : decode cX7_read 141 = .ok (.ireturn, 1) := by decide +kernel
theorem dX7_code_0 : decode cX7_code 0 = .ok (.aload_n 0, 1) := by decide +kernel
theorem dX7_code_1 : decode cX7_code 1 = .ok (.getfield 26, 3) := by decide +kernel
theorem dX7_code_4 : decode cX7_code 4 = .ok (.getfield 133, 3) := by decide +kernel
theorem dX7_code_7 : decode cX7_code 7 = .ok (.ireturn, 1) := by decide +kernel
theorem dX7_swap_0 : decode cX7_swap 0 = .ok (.aload_n 0, 1) := by decide +kernel
theorem dX7_swap_1 : decode cX7_swap 1 = .ok (.iload_n 1, 1) := by decide +kernel
theorem dX7_swap_2 : decode cX7_swap 2 = .ok (.invokevirtual 88, 3) := by decide +kernel
theorem dX7_swap_5 : decode cX7_swap 5 = .ok (.ifCond .ne 6, 3) := by decide +kernel
theorem dX7_swap_8 : decode cX7_swap 8 = .ok (.ldc 92, 2) := by decide +kernel
theorem dX7_swap_10 : decode cX7_swap 10 = .ok (.ireturn, 1) := by decide +kernel
theorem dX7_swap_11 : decode cX7_swap 11 = .ok (.iload_n 2, 1) := by decide +kernel
theorem dX7_swap_12 : decode cX7_swap 12 = .ok (.iconst 0, 1) := by decide +kernel
theorem dX7_swap_13 : decode cX7_swap 13 = .ok (.aload_n 0, 1) := by decide +kernel
theorem dX7_swap_14 : decode cX7_swap 14 = .ok (.getfield 19, 3) := by decide +kernel
theorem dX7_swap_17 : decode cX7_swap 17 = .ok (.getfield 185, 3) := by decide +kernel
theorem dX7_swap_20 : decode cX7_swap 20 = .ok (.iload_n 1, 1) := by decide +kernel
theorem dX7_swap_21 : decode cX7_swap 21 = .ok (.iaload, 1) := by decide +kernel
theorem dX7_swap_22 : decode cX7_swap 22 = .ok (.iconst 2, 1) := by decide +kernel
theorem dX7_swap_23 : decode cX7_swap 23 = .ok (.isub, 1) := by decide +kernel
theorem dX7_swap_24 : decode cX7_swap 24 = .ok (.invokestatic 68, 3) := by decide +kernel
theorem dX7_swap_27 : decode cX7_swap 27 = .ok (.ifCond .eq 6, 3) := by decide +kernel
theorem dX7_swap_30 : decode cX7_swap 30 = .ok (.ldc 72, 2) := by decide +kernel
theorem dX7_swap_32 : decode cX7_swap 32 = .ok (.ireturn, 1) := by decide +kernel
theorem dX7_swap_33 : decode cX7_swap 33 = .ok (.aload_n 0, 1) := by decide +kernel
theorem dX7_swap_34 : decode cX7_swap 34 = .ok (.getfield 10, 3) := by decide +kernel
theorem dX7_swap_37 : decode cX7_swap 37 = .ok (.getfield 186, 3) := by decide +kernel
theorem dX7_swap_40 : decode cX7_swap 40 = .ok (.iload_n 1, 1) := by decide +kernel
theorem dX7_swap_41 : decode cX7_swap 41 = .ok (.iaload, 1) := by decide +kernel
theorem dX7_swap_42 : decode cX7_swap 42 = .ok (.iconst 1, 1) := by decide +kernel
theorem dX7_swap_43 : decode cX7_swap 43 = .ok (.if_icmp .ne 6, 3) := by decide +kernel
theorem dX7_swap_46 : decode cX7_swap 46 = .ok (.ldc 180, 2) := by decide +kernel
theorem dX7_swap_48 : decode cX7_swap 48 = .ok (.ireturn, 1) := by decide +kernel
theorem dX7_swap_49 : decode cX7_swap 49 = .ok (.aload_n 0, 1) := by decide +kernel
theorem dX7_swap_50 : decode cX7_swap 50 = .ok (.getfield 33, 3) := by decide +kernel
theorem dX7_swap_53 : decode cX7_swap 53 = .ok (.aload_n 0, 1) := by decide +kernel
theorem dX7_swap_54 : decode cX7_swap 54 = .ok (.getfield 10, 3) := by decide +kernel
theorem dX7_swap_57 : decode cX7_swap 57 = .ok (.aload_n 0, 1) := by decide +kernel
end
section
theorem dX7_swap_58 : decode cX7_swap 58 = .ok (.getfield 19, 3) := by decide +kernel
theorem dX7_swap_61 : decode cX7_swap 61 = .ok (.invokevirtual 189, 3) := by decide +kernel
theorem dX7_swap_64 : decode cX7_swap 64 = .ok (.istore_n 3, 1) := by decide +kernel
theorem dX7_swap_65 : decode cX7_swap 65 = .ok (.aload_n 0, 1) := by decide +kernel
theorem dX7_swap_66 : decode cX7_swap 66 = .ok (.getfield 19, 3) := by decide +kernel
theorem dX7_swap_69 : decode cX7_swap 69 = .ok (.iload_n 1, 1) := by decide +kernel
theorem dX7_swap_70 : decode cX7_swap 70 = .ok (.iload_n 2, 1) := by decide +kernel
theorem dX7_swap_71 : decode cX7_swap 71 = .ok (.invokevirtual 193, 3) := by decide +kernel
theorem dX7_swap_74 : decode cX7_swap 74 = .ok (.iload_n 3, 1) := by decide +kernel
theorem dX7_swap_75 : decode cX7_swap 75 = .ok (.ifCond .eq 32, 3) := by decide +kernel
theorem dX7_swap_78 : decode cX7_swap 78 = .ok (.aload_n 0, 1) := by decide +kernel
theorem dX7_swap_79 : decode cX7_swap 79 = .ok (.getfield 33, 3) := by decide +kernel
theorem dX7_swap_82 : decode cX7_swap 82 = .ok (.aload_n 0, 1) := by decide +kernel
theorem dX7_swap_83 : decode cX7_swap 83 = .ok (.getfield 10, 3) := by decide +kernel
theorem dX7_swap_86 : decode cX7_swap 86 = .ok (.aload_n 0, 1) := by decide +kernel
theorem dX7_swap_87 : decode cX7_swap 87 = .ok (.getfield 19, 3) := by decide +kernel
theorem dX7_swap_90 : decode cX7_swap 90 = .ok (.invokevirtual 189, 3) := by decide +kernel
theorem dX7_swap_93 : decode cX7_swap 93 = .ok (.ifCond .ne 14, 3) := by decide +kernel
theorem dX7_swap_96 : decode cX7_swap 96 = .ok (.aload_n 0, 1) := by decide +kernel
theorem dX7_swap_97 : decode cX7_swap 97 = .ok (.getfield 19, 3) := by decide +kernel
theorem dX7_swap_100 : decode cX7_swap 100 = .ok (.iload_n 1, 1) := by decide +kernel
theorem dX7_swap_101 : decode cX7_swap 101 = .ok (.iload_n 2, 1) := by decide +kernel
theorem dX7_swap_102 : decode cX7_swap 102 = .ok (.invokevirtual 193, 3) := by decide +kernel
theorem dX7_swap_105 : decode cX7_swap 105 = .ok (.iconst 0, 1) := by decide +kernel
theorem dX7_swap_106 : decode cX7_swap 106 = .ok (.ireturn, 1) := by decide +kernel
theorem dX7_swap_107 : decode cX7_swap 107 = .ok (.iconst 1, 1) := by decide +kernel
theorem dX7_swap_108 : decode cX7_swap 108 = .ok (.ireturn, 1) := by decide +kernel
theorem dX7_lay_0 : decode cX7_lay 0 = .ok (.aload_n 0, 1) := by decide +kernel
theorem dX7_lay_1 : decode cX7_lay 1 = .ok (.iload_n 1, 1) := by decide +kernel
theorem dX7_lay_2 : decode cX7_lay 2 = .ok (.invokevirtual 104, 3) := by decide +kernel
theorem dX7_lay_5 : decode cX7_lay 5 = .ok (.ifCond .ne 6, 3) := by decide +kernel
theorem dX7_lay_8 : decode cX7_lay 8 = .ok (.ldc 92, 2) := by decide +kernel
theorem dX7_lay_10 : decode cX7_lay 10 = .ok (.ireturn, 1) := by decide +kernel
theorem dX7_lay_11 : decode cX7_lay 11 = .ok (.aload_n 0, 1) := by decide +kernel
theorem dX7_lay_12 : decode cX7_lay 12 = .ok (.getfield 10, 3) := by decide +kernel
theorem dX7_lay_15 : decode cX7_lay 15 = .ok (.getfield 110, 3) := by decide +kernel
theorem dX7_lay_18 : decode cX7_lay 18 = .ok (.iload_n 1, 1) := by decide +kernel
theorem dX7_lay_19 : decode cX7_lay 19 = .ok (.iaload, 1) := by decide +kernel
theorem dX7_lay_20 : decode cX7_lay 20 = .ok (.istore_n 3, 1) := by decide +kernel
theorem dX7_lay_21 : decode cX7_lay 21 = .ok (.iload_n 2, 1) := by decide +kernel
theorem dX7_lay_22 : decode cX7_lay 22 = .ok (.iconst 0, 1) := by decide +kernel
theorem dX7_lay_23 : decode cX7_lay 23 = .ok (.aload_n 0, 1) := by decide +kernel
theorem dX7_lay_24 : decode cX7_lay 24 = .ok (.getfield 19, 3) := by decide +kernel
theorem dX7_lay_27 : decode cX7_lay 27 = .ok (.getfield 185, 3) := by decide +kernel
theorem dX7_lay_30 : decode cX7_lay 30 = .ok (.iload_n 3, 1) := by decide +kernel
theorem dX7_lay_31 : decode cX7_lay 31 = .ok (.iaload, 1) := by decide +kernel
theorem dX7_lay_32 : decode cX7_lay 32 = .ok (.iconst 1, 1) := by decide +kernel
theorem dX7_lay_33 : decode cX7_lay 33 = .ok (.isub, 1) := by decide +kernel
theorem dX7_lay_34 : decode cX7_lay 34 = .ok (.invokestatic 68, 3) := by decide +kernel
theorem dX7_lay_37 : decode cX7_lay 37 = .ok (.ifCond .eq 6, 3) := by decide +kernel
theorem dX7_lay_40 : decode cX7_lay 40 = .ok (.ldc 72, 2) := by decide +kernel
theorem dX7_lay_42 : decode cX7_lay 42 = .ok (.ireturn, 1) := by decide +kernel
theorem dX7_lay_43 : decode cX7_lay 43 = .ok (.aload_n 0, 1) := by decide +kernel
theorem dX7_lay_44 : decode cX7_lay 44 = .ok (.getfield 19, 3) := by decide +kernel
theorem dX7_lay_47 : decode cX7_lay 47 = .ok (.iload_n 3, 1) := by decide +kernel
theorem dX7_lay_48 : decode cX7_lay 48 = .ok (.aload_n 0, 1) := by decide +kernel
theorem dX7_lay_49 : decode cX7_lay 49 = .ok (.getfield 19, 3) := by decide +kernel
theorem dX7_lay_52 : decode cX7_lay 52 = .ok (.iload_n 3, 1) := by decide +kernel
theorem dX7_lay_53 : decode cX7_lay 53 = .ok (.iload_n 1, 1) := by decide +kernel
theorem dX7_lay_54 : decode cX7_lay 54 = .ok (.invokevirtual 119, 3) := by decide +kernel
theorem dX7_lay_57 : decode cX7_lay 57 = .ok (.iload_n 2, 1) := by decide +kernel
theorem dX7_lay_58 : decode cX7_lay 58 = .ok (.invokevirtual 197, 3) := by decide +kernel
theorem dX7_lay_61 : decode cX7_lay 61 = .ok (.aload_n 0, 1) := by decide +kernel
theorem dX7_lay_62 : decode cX7_lay 62 = .ok (.getfield 33, 3) := by decide +kernel
theorem dX7_lay_65 : decode cX7_lay 65 = .ok (.aload_n 0, 1) := by decide +kernel
theorem dX7_lay_66 : decode cX7_lay 66 = .ok (.getfield 10, 3) := by decide +kernel
theorem dX7_lay_69 : decode cX7_lay 69 = .ok (.aload_n 0, 1) := by decide +kernel
theorem dX7_lay_70 : decode cX7_lay 70 = .ok (.getfield 19, 3) := by decide +kernel
theorem dX7_lay_73 : decode cX7_lay 73 = .ok (.invokevirtual 189, 3) := by decide +kernel
theorem dX7_lay_76 : decode cX7_lay 76 = .ok (.ifCond .eq 7, 3) := by decide +kernel
theorem dX7_lay_79 : decode cX7_lay 79 = .ok (.iconst 1, 1) := by decide +kernel
theorem dX7_lay_80 : decode cX7_lay 80 = .ok (.goto 4, 3) := by decide +kernel
theorem dX7_lay_83 : decode cX7_lay 83 = .ok (.iconst 0, 1) := by decide +kernel
theorem dX7_lay_84 : decode cX7_lay 84 = .ok (.ireturn, 1) := by decide +kernel
theorem dX7_end_0 : decode cX7_end 0 = .ok (.aload_n 0, 1) := by decide +kernel
theorem dX7_end_1 : decode cX7_end 1 = .ok (.getfield 33, 3) := by decide +kernel
theorem dX7_end_4 : decode cX7_end 4 = .ok (.aload_n 0, 1) := by decide +kernel
theorem dX7_end_5 : decode cX7_end 5 = .ok (.getfield 10, 3) := by decide +kernel
theorem dX7_end_8 : decode cX7_end 8 = .ok (.aload_n 0, 1) := by decide +kernel
theorem dX7_end_9 : decode cX7_end 9 = .ok (.getfield 19, 3) := by decide +kernel
theorem dX7_end_12 : decode cX7_end 12 = .ok (.invokevirtual 189, 3) := by decide +kernel
theorem dX7_end_15 : decode cX7_end 15 = .ok (.ifCond .eq 13, 3) := by decide +kernel
theorem dX7_end_18 : decode cX7_end 18 = .ok (.aload_n 0, 1) := by decide +kernel
theorem dX7_end_19 : decode cX7_end 19 = .ok (.getfield 33, 3) := by decide +kernel
theorem dX7_end_22 : decode cX7_end 22 = .ok (.getfield 200, 3) := by decide +kernel
theorem dX7_end_25 : decode cX7_end 25 = .ok (.goto 4, 3) := by decide +kernel
theorem dX7_end_28 : decode cX7_end 28 = .ok (.iconst (-1), 1) := by decide +kernel
theorem dX7_end_29 : decode cX7_end 29 = .ok (.ireturn, 1) := by decide +kernel
theorem dX7_begin_0 : decode cX7_begin 0 = .ok (.aload_n 0, 1) := by decide +kernel
theorem dX7_begin_1 : decode cX7_begin 1 = .ok (.iload_n 1, 1) := by decide +kernel
theorem dX7_begin_2 : decode cX7_begin 2 = .ok (.invokevirtual 104, 3) := by decide +kernel
theorem dX7_begin_5 : decode cX7_begin 5 = .ok (.ifCond .ne 6, 3) := by decide +kernel
theorem dX7_begin_8 : decode cX7_begin 8 = .ok (.ldc 92, 2) := by decide +kernel
theorem dX7_begin_10 : decode cX7_begin 10 = .ok (.ireturn, 1) := by decide +kernel
theorem dX7_begin_11 : decode cX7_begin 11 = .ok (.aload_n 0, 1) := by decide +kernel
theorem dX7_begin_12 : decode cX7_begin 12 = .ok (.getfield 33, 3) := by decide +kernel
theorem dX7_begin_15 : decode cX7_begin 15 = .ok (.aload_n 0, 1) := by decide +kernel
theorem dX7_begin_16 : decode cX7_begin 16 = .ok (.getfield 10, 3) := by decide +kernel
theorem dX7_begin_19 : decode cX7_begin 19 = .ok (.aload_n 0, 1) := by decide +kernel
theorem dX7_begin_20 : decode cX7_begin 20 = .ok (.getfield 19, 3) := by decide +kernel
theorem dX7_begin_23 : decode cX7_begin 23 = .ok (.invokevirtual 189, 3) := by decide +kernel
theorem dX7_begin_26 : decode cX7_begin 26 = .ok (.ifCond .eq 15, 3) := by decide +kernel
theorem dX7_begin_29 : decode cX7_begin 29 = .ok (.aload_n 0, 1) := by decide +kernel
theorem dX7_begin_30 : decode cX7_begin 30 = .ok (.getfield 33, 3) := by decide +kernel
theorem dX7_begin_33 : decode cX7_begin 33 = .ok (.getfield 203, 3) := by decide +kernel
theorem dX7_begin_36 : decode cX7_begin 36 = .ok (.iload_n 1, 1) := by decide +kernel
theorem dX7_begin_37 : decode cX7_begin 37 = .ok (.iaload, 1) := by decide +kernel
theorem dX7_begin_38 : decode cX7_begin 38 = .ok (.goto 5, 3) := by decide +kernel
theorem dX7_begin_41 : decode cX7_begin 41 = .ok (.ldc 180, 2) := by decide +kernel
theorem dX7_begin_43 : decode cX7_begin 43 = .ok (.ireturn, 1) := by decide +kernel
theorem dX7_tail_0 : decode cX7_tail 0 = .ok (.aload_n 0, 1) := by decide +kernel
theorem dX7_tail_1 : decode cX7_tail 1 = .ok (.iload_n 1, 1) := by decide +kernel
theorem dX7_tail_2 : decode cX7_tail 2 = .ok (.invokevirtual 104, 3) := by decide +kernel
theorem dX7_tail_5 : decode cX7_tail 5 = .ok (.ifCond .ne 6, 3) := by decide +kernel
theorem dX7_tail_8 : decode cX7_tail 8 = .ok (.ldc 92, 2) := by decide +kernel
theorem dX7_tail_10 : decode cX7_tail 10 = .ok (.ireturn, 1) := by decide +kernel
theorem dX7_tail_11 : decode cX7_tail 11 = .ok (.iload_n 2, 1) := by decide +kernel
theorem dX7_tail_12 : decode cX7_tail 12 = .ok (.iconst 0, 1) := by decide +kernel
theorem dX7_tail_13 : decode cX7_tail 13 = .ok (.iconst 1, 1) := by decide +kernel
theorem dX7_tail_14 : decode cX7_tail 14 = .ok (.invokestatic 68, 3) := by decide +kernel
theorem dX7_tail_17 : decode cX7_tail 17 = .ok (.ifCond .eq 6, 3) := by decide +kernel
theorem dX7_tail_20 : decode cX7_tail 20 = .ok (.ldc 72, 2) := by decide +kernel
theorem dX7_tail_22 : decode cX7_tail 22 = .ok (.ireturn, 1) := by decide +kernel
theorem dX7_tail_23 : decode cX7_tail 23 = .ok (.aload_n 0, 1) := by decide +kernel
theorem dX7_tail_24 : decode cX7_tail 24 = .ok (.invokevirtual 206, 3) := by decide +kernel
theorem dX7_tail_27 : decode cX7_tail 27 = .ok (.ifCond .ne 6, 3) := by decide +kernel
theorem dX7_tail_30 : decode cX7_tail 30 = .ok (.ldc 180, 2) := by decide +kernel
theorem dX7_tail_32 : decode cX7_tail 32 = .ok (.ireturn, 1) := by decide +kernel
theorem dX7_tail_33 : decode cX7_tail 33 = .ok (.iload_n 2, 1) := by decide +kernel
theorem dX7_tail_34 : decode cX7_tail 34 = .ok (.ifCond .ne 15, 3) := by decide +kernel
theorem dX7_tail_37 : decode cX7_tail 37 = .ok (.aload_n 0, 1) := by decide +kernel
theorem dX7_tail_38 : decode cX7_tail 38 = .ok (.getfield 33, 3) := by decide +kernel
theorem dX7_tail_41 : decode cX7_tail 41 = .ok (.getfield 209, 3) := by decide +kernel
theorem dX7_tail_44 : decode cX7_tail 44 = .ok (.iload_n 1, 1) := by decide +kernel
theorem dX7_tail_45 : decode cX7_tail 45 = .ok (.iaload, 1) := by decide +kernel
theorem dX7_tail_46 : decode cX7_tail 46 = .ok (.goto 15, 3) := by decide +kernel
theorem dX7_tail_49 : decode cX7_tail 49 = .ok (.aload_n 0, 1) := by decide +kernel
theorem dX7_tail_50 : decode cX7_tail 50 = .ok (.getfield 33, 3) := by decide +kernel
theorem dX7_tail_53 : decode cX7_tail 53 = .ok (.aload_n 0, 1) := by decide +kernel
theorem dX7_tail_54 : decode cX7_tail 54 = .ok (.getfield 10, 3) := by decide +kernel
theorem dX7_tail_57 : decode cX7_tail 57 = .ok (.iload_n 1, 1) := by decide +kernel
theorem dX7_tail_58 : decode cX7_tail 58 = .ok (.invokevirtual 212, 3) := by decide +kernel
theorem dX7_tail_61 : decode cX7_tail 61 = .ok (.ireturn, 1) := by decide +kernel
theorem dX7_row_0 : decode cX7_row 0 = .ok (.aload_n 0, 1) := by decide +kernel
theorem dX7_row_1 : decode cX7_row 1 = .ok (.invokevirtual 206, 3) := by decide +kernel
theorem dX7_row_4 : decode cX7_row 4 = .ok (.ifCond .ne 6, 3) := by decide +kernel
theorem dX7_row_7 : decode cX7_row 7 = .ok (.ldc 180, 2) := by decide +kernel
theorem dX7_row_9 : decode cX7_row 9 = .ok (.ireturn, 1) := by decide +kernel
theorem dX7_row_10 : decode cX7_row 10 = .ok (.iload_n 1, 1) := by decide +kernel
theorem dX7_row_11 : decode cX7_row 11 = .ok (.iconst 0, 1) := by decide +kernel
theorem dX7_row_12 : decode cX7_row 12 = .ok (.aload_n 0, 1) := by decide +kernel
theorem dX7_row_13 : decode cX7_row 13 = .ok (.getfield 10, 3) := by decide +kernel
theorem dX7_row_16 : decode cX7_row 16 = .ok (.getfield 97, 3) := by decide +kernel
theorem dX7_row_19 : decode cX7_row 19 = .ok (.iconst 1, 1) := by decide +kernel
theorem dX7_row_20 : decode cX7_row 20 = .ok (.isub, 1) := by decide +kernel
theorem dX7_row_21 : decode cX7_row 21 = .ok (.invokestatic 68, 3) := by decide +kernel
theorem dX7_row_24 : decode cX7_row 24 = .ok (.ifCond .eq 5, 3) := by decide +kernel
theorem dX7_row_27 : decode cX7_row 27 = .ok (.iconst (-1), 1) := by decide +kernel
theorem dX7_row_28 : decode cX7_row 28 = .ok (.ireturn, 1) := by decide +kernel
theorem dX7_row_29 : decode cX7_row 29 = .ok (.aload_n 0, 1) := by decide +kernel
theorem dX7_row_30 : decode cX7_row 30 = .ok (.getfield 33, 3) := by decide +kernel
theorem dX7_row_33 : decode cX7_row 33 = .ok (.aload_n 0, 1) := by decide +kernel
theorem dX7_row_34 : decode cX7_row 34 = .ok (.getfield 10, 3) := by decide +kernel
theorem dX7_row_37 : decode cX7_row 37 = .ok (.invokevirtual 216, 3) := by decide +kernel
theorem dX7_row_40 : decode cX7_row 40 = .ok (.istore_n 2, 1) := by decide +kernel
theorem dX7_row_41 : decode cX7_row 41 = .ok (.iconst 0, 1) := by decide +kernel
theorem dX7_row_42 : decode cX7_row 42 = .ok (.istore_n 3, 1) := by decide +kernel
theorem dX7_row_43 : decode cX7_row 43 = .ok (.iload_n 3, 1) := by decide +kernel
theorem dX7_row_44 : decode cX7_row 44 = .ok (.iload_n 1, 1) := by decide +kernel
theorem dX7_row_45 : decode cX7_row 45 = .ok (.if_icmp .ge 27, 3) := by decide +kernel
theorem dX7_row_48 : decode cX7_row 48 = .ok (.iload_n 2, 1) := by decide +kernel
theorem dX7_row_49 : decode cX7_row 49 = .ok (.iconst (-1), 1) := by decide +kernel
theorem dX7_row_50 : decode cX7_row 50 = .ok (.if_icmp .eq 22, 3) := by decide +kernel
theorem dX7_row_53 : decode cX7_row 53 = .ok (.aload_n 0, 1) := by decide +kernel
theorem dX7_row_54 : decode cX7_row 54 = .ok (.getfield 33, 3) := by decide +kernel
theorem dX7_row_57 : decode cX7_row 57 = .ok (.aload_n 0, 1) := by decide +kernel
theorem dX7_row_58 : decode cX7_row 58 = .ok (.getfield 10, 3) := by decide +kernel
theorem dX7_row_61 : decode cX7_row 61 = .ok (.iload_n 2, 1) := by decide +kernel
theorem dX7_row_62 : decode cX7_row 62 = .ok (.invokevirtual 220, 3) := by decide +kernel
theorem dX7_row_65 : decode cX7_row 65 = .ok (.istore_n 2, 1) := by decide +kernel
theorem dX7_row_66 : decode cX7_row 66 = .ok (.iinc 3 1, 3) := by decide +kernel
theorem dX7_row_69 : decode cX7_row 69 = .ok (.goto (-26), 3) := by decide +kernel
theorem dX7_row_72 : decode cX7_row 72 = .ok (.iload_n 2, 1) := by decide +kernel
theorem dX7_row_73 : decode cX7_row 73 = .ok (.ireturn, 1) := by decide +kernel
theorem dX7_rule_0 : decode cX7_rule 0 = .ok (.iload_n 1, 1) := by decide +kernel
theorem dX7_rule_1 : decode cX7_rule 1 = .ok (.iconst 0, 1) := by decide +kernel
theorem dX7_rule_2 : decode cX7_rule 2 = .ok (.iconst 2, 1) := by decide +kernel
theorem dX7_rule_3 : decode cX7_rule 3 = .ok (.invokestatic 68, 3) := by decide +kernel
theorem dX7_rule_6 : decode cX7_rule 6 = .ok (.ifCond .eq 6, 3) := by decide +kernel
theorem dX7_rule_9 : decode cX7_rule 9 = .ok (.ldc 72, 2) := by decide +kernel
theorem dX7_rule_11 : decode cX7_rule 11 = .ok (.ireturn, 1) := by decide +kernel
theorem dX7_rule_12 : decode cX7_rule 12 = .ok (.aload_n 0, 1) := by decide +kernel
theorem dX7_rule_13 : decode cX7_rule 13 = .ok (.getfield 19, 3) := by decide +kernel
theorem dX7_rule_16 : decode cX7_rule 16 = .ok (.invokevirtual 223, 3) := by decide +kernel
theorem dX7_rule_19 : decode cX7_rule 19 = .ok (.aload_n 0, 1) := by decide +kernel
theorem dX7_rule_20 : decode cX7_rule 20 = .ok (.getfield 33, 3) := by decide +kernel
theorem dX7_rule_23 : decode cX7_rule 23 = .ok (.invokevirtual 226, 3) := by decide +kernel
theorem dX7_rule_26 : decode cX7_rule 26 = .ok (.iconst 0, 1) := by decide +kernel
theorem dX7_rule_27 : decode cX7_rule 27 = .ok (.istore_n 2, 1) := by decide +kernel
theorem dX7_rule_28 : decode cX7_rule 28 = .ok (.iload_n 2, 1) := by decide +kernel
theorem dX7_rule_29 : decode cX7_rule 29 = .ok (.aload_n 0, 1) := by decide +kernel
theorem dX7_rule_30 : decode cX7_rule 30 = .ok (.getfield 10, 3) := by decide +kernel
theorem dX7_rule_33 : decode cX7_rule 33 = .ok (.getfield 97, 3) := by decide +kernel
theorem dX7_rule_36 : decode cX7_rule 36 = .ok (.if_icmp .ge 73, 3) := by decide +kernel
theorem dX7_rule_39 : decode cX7_rule 39 = .ok (.aload_n 0, 1) := by decide +kernel
theorem dX7_rule_40 : decode cX7_rule 40 = .ok (.iload_n 1, 1) := by decide +kernel
theorem dX7_rule_41 : decode cX7_rule 41 = .ok (.invokevirtual 227, 3) := by decide +kernel
theorem dX7_rule_44 : decode cX7_rule 44 = .ok (.istore_n 3, 1) := by decide +kernel
theorem dX7_rule_45 : decode cX7_rule 45 = .ok (.iload_n 3, 1) := by decide +kernel
theorem dX7_rule_46 : decode cX7_rule 46 = .ok (.iconst (-1), 1) := by decide +kernel
theorem dX7_rule_47 : decode cX7_rule 47 = .ok (.if_icmp .eq 56, 3) := by decide +kernel
theorem dX7_rule_50 : decode cX7_rule 50 = .ok (.aload_n 0, 1) := by decide +kernel
theorem dX7_rule_51 : decode cX7_rule 51 = .ok (.getfield 33, 3) := by decide +kernel
theorem dX7_rule_54 : decode cX7_rule 54 = .ok (.aload_n 0, 1) := by decide +kernel
theorem dX7_rule_55 : decode cX7_rule 55 = .ok (.getfield 10, 3) := by decide +kernel
theorem dX7_rule_58 : decode cX7_rule 58 = .ok (.aload_n 0, 1) := by decide +kernel
theorem dX7_rule_59 : decode cX7_rule 59 = .ok (.getfield 19, 3) := by decide +kernel
theorem dX7_rule_62 : decode cX7_rule 62 = .ok (.iload_n 3, 1) := by decide +kernel
theorem dX7_rule_63 : decode cX7_rule 63 = .ok (.invokevirtual 230, 3) := by decide +kernel
theorem dX7_rule_66 : decode cX7_rule 66 = .ok (.istore 4, 2) := by decide +kernel
theorem dX7_rule_68 : decode cX7_rule 68 = .ok (.aload_n 0, 1) := by decide +kernel
theorem dX7_rule_69 : decode cX7_rule 69 = .ok (.getfield 19, 3) := by decide +kernel
theorem dX7_rule_72 : decode cX7_rule 72 = .ok (.aload_n 0, 1) := by decide +kernel
theorem dX7_rule_73 : decode cX7_rule 73 = .ok (.getfield 10, 3) := by decide +kernel
theorem dX7_rule_76 : decode cX7_rule 76 = .ok (.getfield 110, 3) := by decide +kernel
theorem dX7_rule_79 : decode cX7_rule 79 = .ok (.iload_n 3, 1) := by decide +kernel
theorem dX7_rule_80 : decode cX7_rule 80 = .ok (.iaload, 1) := by decide +kernel
theorem dX7_rule_81 : decode cX7_rule 81 = .ok (.iload_n 3, 1) := by decide +kernel
theorem dX7_rule_82 : decode cX7_rule 82 = .ok (.invokevirtual 234, 3) := by decide +kernel
theorem dX7_rule_85 : decode cX7_rule 85 = .ok (.aload_n 0, 1) := by decide +kernel
theorem dX7_rule_86 : decode cX7_rule 86 = .ok (.getfield 33, 3) := by decide +kernel
theorem dX7_rule_89 : decode cX7_rule 89 = .ok (.aload_n 0, 1) := by decide +kernel
theorem dX7_rule_90 : decode cX7_rule 90 = .ok (.getfield 10, 3) := by decide +kernel
theorem dX7_rule_93 : decode cX7_rule 93 = .ok (.aload_n 0, 1) := by decide +kernel
theorem dX7_rule_94 : decode cX7_rule 94 = .ok (.getfield 19, 3) := by decide +kernel
theorem dX7_rule_97 : decode cX7_rule 97 = .ok (.iload_n 3, 1) := by decide +kernel
theorem dX7_rule_98 : decode cX7_rule 98 = .ok (.iload 4, 2) := by decide +kernel
theorem dX7_rule_100 : decode cX7_rule 100 = .ok (.invokevirtual 237, 3) := by decide +kernel
theorem dX7_rule_103 : decode cX7_rule 103 = .ok (.iinc 2 1, 3) := by decide +kernel
theorem dX7_rule_106 : decode cX7_rule 106 = .ok (.goto (-78), 3) := by decide +kernel
theorem dX7_rule_109 : decode cX7_rule 109 = .ok (.aload_n 0, 1) := by decide +kernel
theorem dX7_rule_110 : decode cX7_rule 110 = .ok (.getfield 33, 3) := by decide +kernel
theorem dX7_rule_113 : decode cX7_rule 113 = .ok (.getfield 200, 3) := by decide +kernel
theorem dX7_rule_116 : decode cX7_rule 116 = .ok (.ireturn, 1) := by decide +kernel
theorem dX7_better_0 : decode cX7_better 0 = .ok (.iload_n 1, 1) := by decide +kernel
theorem dX7_better_1 : decode cX7_better 1 = .ok (.iconst 0, 1) := by decide +kernel
theorem dX7_better_2 : decode cX7_better 2 = .ok (.bipush 50, 2) := by decide +kernel
theorem dX7_better_4 : decode cX7_better 4 = .ok (.invokestatic 68, 3) := by decide +kernel
theorem dX7_better_7 : decode cX7_better 7 = .ok (.ifCond .eq 6, 3) := by decide +kernel
theorem dX7_better_10 : decode cX7_better 10 = .ok (.ldc 72, 2) := by decide +kernel
theorem dX7_better_12 : decode cX7_better 12 = .ok (.ireturn, 1) := by decide +kernel
theorem dX7_better_13 : decode cX7_better 13 = .ok (.aload_n 0, 1) := by decide +kernel
theorem dX7_better_14 : decode cX7_better 14 = .ok (.invokevirtual 206, 3) := by decide +kernel
theorem dX7_better_17 : decode cX7_better 17 = .ok (.ifCond .ne 6, 3) := by decide +kernel
theorem dX7_better_20 : decode cX7_better 20 = .ok (.ldc 180, 2) := by decide +kernel
theorem dX7_better_22 : decode cX7_better 22 = .ok (.ireturn, 1) := by decide +kernel
theorem dX7_better_23 : decode cX7_better 23 = .ok (.iconst 0, 1) := by decide +kernel
theorem dX7_better_24 : decode cX7_better 24 = .ok (.istore_n 2, 1) := by decide +kernel
theorem dX7_better_25 : decode cX7_better 25 = .ok (.iload_n 2, 1) := by decide +kernel
theorem dX7_better_26 : decode cX7_better 26 = .ok (.iload_n 1, 1) := by decide +kernel
theorem dX7_better_27 : decode cX7_better 27 = .ok (.if_icmp .ge 16, 3) := by decide +kernel
theorem dX7_better_30 : decode cX7_better 30 = .ok (.aload_n 0, 1) := by decide +kernel
theorem dX7_better_31 : decode cX7_better 31 = .ok (.invokevirtual 241, 3) := by decide +kernel
theorem dX7_better_34 : decode cX7_better 34 = .ok (.ifCond .eq 9, 3) := by decide +kernel
theorem dX7_better_37 : decode cX7_better 37 = .ok (.iinc 2 1, 3) := by decide +kernel
theorem dX7_better_40 : decode cX7_better 40 = .ok (.goto (-15), 3) := by decide +kernel
theorem dX7_better_43 : decode cX7_better 43 = .ok (.iload_n 2, 1) := by decide +kernel
theorem dX7_better_44 : decode cX7_better 44 = .ok (.ireturn, 1) := by decide +kernel
theorem dX7_windows_0 : decode cX7_windows 0 = .ok (.iload_n 1, 1) := by decide +kernel
theorem dX7_windows_1 : decode cX7_windows 1 = .ok (.iconst 0, 1) := by decide +kernel
theorem dX7_windows_2 : decode cX7_windows 2 = .ok (.ldc 244, 2) := by decide +kernel
theorem dX7_windows_4 : decode cX7_windows 4 = .ok (.invokestatic 68, 3) := by decide +kernel
theorem dX7_windows_7 : decode cX7_windows 7 = .ok (.ifCond .eq 6, 3) := by decide +kernel
theorem dX7_windows_10 : decode cX7_windows 10 = .ok (.ldc 72, 2) := by decide +kernel
theorem dX7_windows_12 : decode cX7_windows 12 = .ok (.ireturn, 1) := by decide +kernel
theorem dX7_windows_13 : decode cX7_windows 13 = .ok (.aload_n 0, 1) := by decide +kernel
theorem dX7_windows_14 : decode cX7_windows 14 = .ok (.getfield 10, 3) := by decide +kernel
theorem dX7_windows_17 : decode cX7_windows 17 = .ok (.invokevirtual 122, 3) := by decide +kernel
theorem dX7_windows_20 : decode cX7_windows 20 = .ok (.ifCond .ne 6, 3) := by decide +kernel
theorem dX7_windows_23 : decode cX7_windows 23 = .ok (.ldc 180, 2) := by decide +kernel
theorem dX7_windows_25 : decode cX7_windows 25 = .ok (.ireturn, 1) := by decide +kernel
theorem dX7_windows_26 : decode cX7_windows 26 = .ok (.aload_n 0, 1) := by decide +kernel
theorem dX7_windows_27 : decode cX7_windows 27 = .ok (.getfield 43, 3) := by decide +kernel
theorem dX7_windows_30 : decode cX7_windows 30 = .ok (.getfield 245, 3) := by decide +kernel
theorem dX7_windows_33 : decode cX7_windows 33 = .ok (.iconst 0, 1) := by decide +kernel
theorem dX7_windows_34 : decode cX7_windows 34 = .ok (.invokestatic 248, 3) := by decide +kernel
theorem dX7_windows_37 : decode cX7_windows 37 = .ok (.aload_n 0, 1) := by decide +kernel
theorem dX7_windows_38 : decode cX7_windows 38 = .ok (.getfield 43, 3) := by decide +kernel
theorem dX7_windows_41 : decode cX7_windows 41 = .ok (.aload_n 0, 1) := by decide +kernel
theorem dX7_windows_42 : decode cX7_windows 42 = .ok (.getfield 10, 3) := by decide +kernel
theorem dX7_windows_45 : decode cX7_windows 45 = .ok (.iload_n 1, 1) := by decide +kernel
theorem dX7_windows_46 : decode cX7_windows 46 = .ok (.invokevirtual 254, 3) := by decide +kernel
theorem dX7_windows_49 : decode cX7_windows 49 = .ok (.ifCond .eq 7, 3) := by decide +kernel
theorem dX7_windows_52 : decode cX7_windows 52 = .ok (.iconst 1, 1) := by decide +kernel
theorem dX7_windows_53 : decode cX7_windows 53 = .ok (.goto 4, 3) := by decide +kernel
theorem dX7_windows_56 : decode cX7_windows 56 = .ok (.iconst 0, 1) := by decide +kernel
theorem dX7_windows_57 : decode cX7_windows 57 = .ok (.ireturn, 1) := by decide +kernel
theorem dX7_window_0 : decode cX7_window 0 = .ok (.aload_n 0, 1) := by decide +kernel
theorem dX7_window_1 : decode cX7_window 1 = .ok (.iload_n 1, 1) := by decide +kernel
theorem dX7_window_2 : decode cX7_window 2 = .ok (.invokevirtual 104, 3) := by decide +kernel
theorem dX7_window_5 : decode cX7_window 5 = .ok (.ifCond .ne 6, 3) := by decide +kernel
theorem dX7_window_8 : decode cX7_window 8 = .ok (.ldc 92, 2) := by decide +kernel
theorem dX7_window_10 : decode cX7_window 10 = .ok (.ireturn, 1) := by decide +kernel
theorem dX7_window_11 : decode cX7_window 11 = .ok (.iload_n 2, 1) := by decide +kernel
theorem dX7_window_12 : decode cX7_window 12 = .ok (.iconst 0, 1) := by decide +kernel
theorem dX7_window_13 : decode cX7_window 13 = .ok (.iconst 2, 1) := by decide +kernel
theorem dX7_window_14 : decode cX7_window 14 = .ok (.invokestatic 68, 3) := by decide +kernel
theorem dX7_window_17 : decode cX7_window 17 = .ok (.ifCond .eq 6, 3) := by decide +kernel
theorem dX7_window_20 : decode cX7_window 20 = .ok (.ldc 72, 2) := by decide +kernel
theorem dX7_window_22 : decode cX7_window 22 = .ok (.ireturn, 1) := by decide +kernel
theorem dX7_window_23 : decode cX7_window 23 = .ok (.iload_n 1, 1) := by decide +kernel
theorem dX7_window_24 : decode cX7_window 24 = .ok (.aload_n 0, 1) := by decide +kernel
theorem dX7_window_25 : decode cX7_window 25 = .ok (.getfield 43, 3) := by decide +kernel
theorem dX7_window_28 : decode cX7_window 28 = .ok (.getfield 258, 3) := by decide +kernel
theorem dX7_window_31 : decode cX7_window 31 = .ok (.if_icmp .lt 5, 3) := by decide +kernel
theorem dX7_window_34 : decode cX7_window 34 = .ok (.iconst (-1), 1) := by decide +kernel
theorem dX7_window_35 : decode cX7_window 35 = .ok (.ireturn, 1) := by decide +kernel
theorem dX7_window_36 : decode cX7_window 36 = .ok (.iload_n 2, 1) := by decide +kernel
theorem dX7_window_37 : decode cX7_window 37 = .ok (.ifCond .ne 13, 3) := by decide +kernel
theorem dX7_window_40 : decode cX7_window 40 = .ok (.aload_n 0, 1) := by decide +kernel
theorem dX7_window_41 : decode cX7_window 41 = .ok (.getfield 43, 3) := by decide +kernel
theorem dX7_window_44 : decode cX7_window 44 = .ok (.getfield 259, 3) := by decide +kernel
theorem dX7_window_47 : decode cX7_window 47 = .ok (.iload_n 1, 1) := by decide +kernel
theorem dX7_window_48 : decode cX7_window 48 = .ok (.iaload, 1) := by decide +kernel
theorem dX7_window_49 : decode cX7_window 49 = .ok (.ireturn, 1) := by decide +kernel
theorem dX7_window_50 : decode cX7_window 50 = .ok (.iload_n 2, 1) := by decide +kernel
theorem dX7_window_51 : decode cX7_window 51 = .ok (.iconst 1, 1) := by decide +kernel
theorem dX7_window_52 : decode cX7_window 52 = .ok (.if_icmp .ne 15, 3) := by decide +kernel
theorem dX7_window_55 : decode cX7_window 55 = .ok (.aload_n 0, 1) := by decide +kernel
theorem dX7_window_56 : decode cX7_window 56 = .ok (.getfield 43, 3) := by decide +kernel
theorem dX7_window_59 : decode cX7_window 59 = .ok (.getfield 262, 3) := by decide +kernel
theorem dX7_window_62 : decode cX7_window 62 = .ok (.iload_n 1, 1) := by decide +kernel
theorem dX7_window_63 : decode cX7_window 63 = .ok (.iaload, 1) := by decide +kernel
theorem dX7_window_64 : decode cX7_window 64 = .ok (.goto 15, 3) := by decide +kernel
theorem dX7_window_67 : decode cX7_window 67 = .ok (.aload_n 0, 1) := by decide +kernel
theorem dX7_window_68 : decode cX7_window 68 = .ok (.getfield 43, 3) := by decide +kernel
theorem dX7_window_71 : decode cX7_window 71 = .ok (.getfield 245, 3) := by decide +kernel
theorem dX7_window_74 : decode cX7_window 74 = .ok (.iload_n 1, 1) := by decide +kernel
theorem dX7_window_75 : decode cX7_window 75 = .ok (.iaload, 1) := by decide +kernel
theorem dX7_window_76 : decode cX7_window 76 = .ok (.invokestatic 265, 3) := by decide +kernel
theorem dX7_window_79 : decode cX7_window 79 = .ok (.ireturn, 1) := by decide +kernel
theorem dX7_must_0 : decode cX7_must 0 = .ok (.aload_n 0, 1) := by decide +kernel
theorem dX7_must_1 : decode cX7_must 1 = .ok (.iload_n 1, 1) := by decide +kernel
theorem dX7_must_2 : decode cX7_must 2 = .ok (.invokevirtual 104, 3) := by decide +kernel
theorem dX7_must_5 : decode cX7_must 5 = .ok (.ifCond .eq 11, 3) := by decide +kernel
theorem dX7_must_8 : decode cX7_must 8 = .ok (.aload_n 0, 1) := by decide +kernel
theorem dX7_must_9 : decode cX7_must 9 = .ok (.iload_n 2, 1) := by decide +kernel
theorem dX7_must_10 : decode cX7_must 10 = .ok (.invokevirtual 104, 3) := by decide +kernel
theorem dX7_must_13 : decode cX7_must 13 = .ok (.ifCond .ne 6, 3) := by decide +kernel
theorem dX7_must_16 : decode cX7_must 16 = .ok (.ldc 92, 2) := by decide +kernel
theorem dX7_must_18 : decode cX7_must 18 = .ok (.ireturn, 1) := by decide +kernel
theorem dX7_must_19 : decode cX7_must 19 = .ok (.aload_n 0, 1) := by decide +kernel
theorem dX7_must_20 : decode cX7_must 20 = .ok (.getfield 43, 3) := by decide +kernel
theorem dX7_must_23 : decode cX7_must 23 = .ok (.iload_n 1, 1) := by decide +kernel
theorem dX7_must_24 : decode cX7_must 24 = .ok (.iload_n 2, 1) := by decide +kernel
theorem dX7_must_25 : decode cX7_must 25 = .ok (.invokevirtual 270, 3) := by decide +kernel
theorem dX7_must_28 : decode cX7_must 28 = .ok (.ifCond .eq 5, 3) := by decide +kernel
theorem dX7_must_31 : decode cX7_must 31 = .ok (.iconst 1, 1) := by decide +kernel
theorem dX7_must_32 : decode cX7_must 32 = .ok (.ireturn, 1) := by decide +kernel
theorem dX7_must_33 : decode cX7_must 33 = .ok (.aload_n 0, 1) := by decide +kernel
theorem dX7_must_34 : decode cX7_must 34 = .ok (.getfield 43, 3) := by decide +kernel
theorem dX7_must_37 : decode cX7_must 37 = .ok (.iload_n 2, 1) := by decide +kernel
theorem dX7_must_38 : decode cX7_must 38 = .ok (.iload_n 1, 1) := by decide +kernel
theorem dX7_must_39 : decode cX7_must 39 = .ok (.invokevirtual 270, 3) := by decide +kernel
theorem dX7_must_42 : decode cX7_must 42 = .ok (.ifCond .eq 7, 3) := by decide +kernel
theorem dX7_must_45 : decode cX7_must 45 = .ok (.iconst 2, 1) := by decide +kernel
theorem dX7_must_46 : decode cX7_must 46 = .ok (.goto 4, 3) := by decide +kernel
theorem dX7_must_49 : decode cX7_must 49 = .ok (.iconst 0, 1) := by decide +kernel
theorem dX7_must_50 : decode cX7_must 50 = .ok (.ireturn, 1) := by decide +kernel
theorem dX7_bound_0 : decode cX7_bound 0 = .ok (.aload_n 0, 1) := by decide +kernel
theorem dX7_bound_1 : decode cX7_bound 1 = .ok (.iload_n 1, 1) := by decide +kernel
theorem dX7_bound_2 : decode cX7_bound 2 = .ok (.invokevirtual 88, 3) := by decide +kernel
theorem dX7_bound_5 : decode cX7_bound 5 = .ok (.ifCond .ne 6, 3) := by decide +kernel
theorem dX7_bound_8 : decode cX7_bound 8 = .ok (.ldc 92, 2) := by decide +kernel
theorem dX7_bound_10 : decode cX7_bound 10 = .ok (.ireturn, 1) := by decide +kernel
theorem dX7_bound_11 : decode cX7_bound 11 = .ok (.iload_n 2, 1) := by decide +kernel
theorem dX7_bound_12 : decode cX7_bound 12 = .ok (.iconst 0, 1) := by decide +kernel
theorem dX7_bound_13 : decode cX7_bound 13 = .ok (.iconst 1, 1) := by decide +kernel
theorem dX7_bound_14 : decode cX7_bound 14 = .ok (.invokestatic 68, 3) := by decide +kernel
theorem dX7_bound_17 : decode cX7_bound 17 = .ok (.ifCond .eq 6, 3) := by decide +kernel
theorem dX7_bound_20 : decode cX7_bound 20 = .ok (.ldc 72, 2) := by decide +kernel
theorem dX7_bound_22 : decode cX7_bound 22 = .ok (.ireturn, 1) := by decide +kernel
theorem dX7_bound_23 : decode cX7_bound 23 = .ok (.aload_n 0, 1) := by decide +kernel
theorem dX7_bound_24 : decode cX7_bound 24 = .ok (.getfield 10, 3) := by decide +kernel
theorem dX7_bound_27 : decode cX7_bound 27 = .ok (.getfield 186, 3) := by decide +kernel
theorem dX7_bound_30 : decode cX7_bound 30 = .ok (.iload_n 1, 1) := by decide +kernel
theorem dX7_bound_31 : decode cX7_bound 31 = .ok (.iaload, 1) := by decide +kernel
theorem dX7_bound_32 : decode cX7_bound 32 = .ok (.ifCond .ne 22, 3) := by decide +kernel
theorem dX7_bound_35 : decode cX7_bound 35 = .ok (.iload_n 2, 1) := by decide +kernel
theorem dX7_bound_36 : decode cX7_bound 36 = .ok (.iconst 1, 1) := by decide +kernel
theorem dX7_bound_37 : decode cX7_bound 37 = .ok (.if_icmp .ne 20, 3) := by decide +kernel
theorem dX7_bound_40 : decode cX7_bound 40 = .ok (.aload_n 0, 1) := by decide +kernel
theorem dX7_bound_41 : decode cX7_bound 41 = .ok (.getfield 10, 3) := by decide +kernel
theorem dX7_bound_44 : decode cX7_bound 44 = .ok (.getfield 274, 3) := by decide +kernel
theorem dX7_bound_47 : decode cX7_bound 47 = .ok (.iload_n 1, 1) := by decide +kernel
theorem dX7_bound_48 : decode cX7_bound 48 = .ok (.iaload, 1) := by decide +kernel
theorem dX7_bound_49 : decode cX7_bound 49 = .ok (.bipush 8, 2) := by decide +kernel
theorem dX7_bound_51 : decode cX7_bound 51 = .ok (.if_icmp .le 6, 3) := by decide +kernel
theorem dX7_bound_54 : decode cX7_bound 54 = .ok (.ldc 180, 2) := by decide +kernel
theorem dX7_bound_56 : decode cX7_bound 56 = .ok (.ireturn, 1) := by decide +kernel
theorem dX7_bound_57 : decode cX7_bound 57 = .ok (.aload_n 0, 1) := by decide +kernel
theorem dX7_bound_58 : decode cX7_bound 58 = .ok (.getfield 50, 3) := by decide +kernel
theorem dX7_bound_61 : decode cX7_bound 61 = .ok (.aload_n 0, 1) := by decide +kernel
theorem dX7_bound_62 : decode cX7_bound 62 = .ok (.getfield 10, 3) := by decide +kernel
theorem dX7_bound_65 : decode cX7_bound 65 = .ok (.iload_n 1, 1) := by decide +kernel
theorem dX7_bound_66 : decode cX7_bound 66 = .ok (.invokevirtual 277, 3) := by decide +kernel
theorem dX7_bound_69 : decode cX7_bound 69 = .ok (.aload_n 0, 1) := by decide +kernel
theorem dX7_bound_70 : decode cX7_bound 70 = .ok (.getfield 50, 3) := by decide +kernel
theorem dX7_bound_73 : decode cX7_bound 73 = .ok (.invokevirtual 281, 3) := by decide +kernel
theorem dX7_bound_76 : decode cX7_bound 76 = .ok (.istore_n 3, 1) := by decide +kernel
theorem dX7_bound_77 : decode cX7_bound 77 = .ok (.iload_n 2, 1) := by decide +kernel
theorem dX7_bound_78 : decode cX7_bound 78 = .ok (.ifCond .ne 7, 3) := by decide +kernel
theorem dX7_bound_81 : decode cX7_bound 81 = .ok (.iload_n 3, 1) := by decide +kernel
theorem dX7_bound_82 : decode cX7_bound 82 = .ok (.goto 11, 3) := by decide +kernel
theorem dX7_bound_85 : decode cX7_bound 85 = .ok (.aload_n 0, 1) := by decide +kernel
theorem dX7_bound_86 : decode cX7_bound 86 = .ok (.getfield 50, 3) := by decide +kernel
theorem dX7_bound_89 : decode cX7_bound 89 = .ok (.iload_n 3, 1) := by decide +kernel
theorem dX7_bound_90 : decode cX7_bound 90 = .ok (.invokevirtual 284, 3) := by decide +kernel
theorem dX7_bound_93 : decode cX7_bound 93 = .ok (.ireturn, 1) := by decide +kernel
theorem dX7_least_0 : decode cX7_least 0 = .ok (.iload_n 1, 1) := by decide +kernel
theorem dX7_least_1 : decode cX7_least 1 = .ok (.iconst 0, 1) := by decide +kernel
theorem dX7_least_2 : decode cX7_least 2 = .ok (.bipush 100, 2) := by decide +kernel
theorem dX7_least_4 : decode cX7_least 4 = .ok (.invokestatic 68, 3) := by decide +kernel
theorem dX7_least_7 : decode cX7_least 7 = .ok (.ifCond .eq 6, 3) := by decide +kernel
theorem dX7_least_10 : decode cX7_least 10 = .ok (.ldc 72, 2) := by decide +kernel
theorem dX7_least_12 : decode cX7_least 12 = .ok (.ireturn, 1) := by decide +kernel
theorem dX7_least_13 : decode cX7_least 13 = .ok (.aload_n 0, 1) := by decide +kernel
theorem dX7_least_14 : decode cX7_least 14 = .ok (.getfield 10, 3) := by decide +kernel
theorem dX7_least_17 : decode cX7_least 17 = .ok (.invokevirtual 122, 3) := by decide +kernel
theorem dX7_least_20 : decode cX7_least 20 = .ok (.ifCond .eq 13, 3) := by decide +kernel
theorem dX7_least_23 : decode cX7_least 23 = .ok (.aload_n 0, 1) := by decide +kernel
theorem dX7_least_24 : decode cX7_least 24 = .ok (.getfield 10, 3) := by decide +kernel
theorem dX7_least_27 : decode cX7_least 27 = .ok (.getfield 97, 3) := by decide +kernel
theorem dX7_least_30 : decode cX7_least 30 = .ok (.ifCond .ne 6, 3) := by decide +kernel
theorem dX7_least_33 : decode cX7_least 33 = .ok (.ldc 180, 2) := by decide +kernel
theorem dX7_least_35 : decode cX7_least 35 = .ok (.ireturn, 1) := by decide +kernel
theorem dX7_least_36 : decode cX7_least 36 = .ok (.aload_n 0, 1) := by decide +kernel
theorem dX7_least_37 : decode cX7_least 37 = .ok (.getfield 57, 3) := by decide +kernel
theorem dX7_least_40 : decode cX7_least 40 = .ok (.aload_n 0, 1) := by decide +kernel
theorem dX7_least_41 : decode cX7_least 41 = .ok (.getfield 33, 3) := by decide +kernel
theorem dX7_least_44 : decode cX7_least 44 = .ok (.aload_n 0, 1) := by decide +kernel
theorem dX7_least_45 : decode cX7_least 45 = .ok (.getfield 10, 3) := by decide +kernel
theorem dX7_least_48 : decode cX7_least 48 = .ok (.aload_n 0, 1) := by decide +kernel
theorem dX7_least_49 : decode cX7_least 49 = .ok (.getfield 19, 3) := by decide +kernel
theorem dX7_least_52 : decode cX7_least 52 = .ok (.invokevirtual 189, 3) := by decide +kernel
theorem dX7_least_55 : decode cX7_least 55 = .ok (.ifCond .eq 13, 3) := by decide +kernel
theorem dX7_least_58 : decode cX7_least 58 = .ok (.aload_n 0, 1) := by decide +kernel
theorem dX7_least_59 : decode cX7_least 59 = .ok (.getfield 33, 3) := by decide +kernel
theorem dX7_least_62 : decode cX7_least 62 = .ok (.getfield 200, 3) := by decide +kernel
theorem dX7_least_65 : decode cX7_least 65 = .ok (.goto 12, 3) := by decide +kernel
theorem dX7_least_68 : decode cX7_least 68 = .ok (.aload_n 0, 1) := by decide +kernel
theorem dX7_least_69 : decode cX7_least 69 = .ok (.getfield 10, 3) := by decide +kernel
theorem dX7_least_72 : decode cX7_least 72 = .ok (.invokevirtual 126, 3) := by decide +kernel
theorem dX7_least_75 : decode cX7_least 75 = .ok (.iconst 1, 1) := by decide +kernel
theorem dX7_least_76 : decode cX7_least 76 = .ok (.iadd, 1) := by decide +kernel
theorem dX7_least_77 : decode cX7_least 77 = .ok (.putfield 287, 3) := by decide +kernel
theorem dX7_least_80 : decode cX7_least 80 = .ok (.aload_n 0, 1) := by decide +kernel
theorem dX7_least_81 : decode cX7_least 81 = .ok (.getfield 57, 3) := by decide +kernel
theorem dX7_least_84 : decode cX7_least 84 = .ok (.aload_n 0, 1) := by decide +kernel
theorem dX7_least_85 : decode cX7_least 85 = .ok (.getfield 10, 3) := by decide +kernel
theorem dX7_least_88 : decode cX7_least 88 = .ok (.aload_n 0, 1) := by decide +kernel
theorem dX7_least_89 : decode cX7_least 89 = .ok (.getfield 19, 3) := by decide +kernel
theorem dX7_least_92 : decode cX7_least 92 = .ok (.iload_n 1, 1) := by decide +kernel
theorem dX7_least_93 : decode cX7_least 93 = .ok (.invokevirtual 290, 3) := by decide +kernel
theorem dX7_least_96 : decode cX7_least 96 = .ok (.ifCond .eq 7, 3) := by decide +kernel
theorem dX7_least_99 : decode cX7_least 99 = .ok (.iconst 1, 1) := by decide +kernel
theorem dX7_least_100 : decode cX7_least 100 = .ok (.goto 4, 3) := by decide +kernel
theorem dX7_least_103 : decode cX7_least 103 = .ok (.iconst 0, 1) := by decide +kernel
theorem dX7_least_104 : decode cX7_least 104 = .ok (.ireturn, 1) := by decide +kernel
theorem dX7_found_0 : decode cX7_found 0 = .ok (.iload_n 1, 1) := by decide +kernel
theorem dX7_found_1 : decode cX7_found 1 = .ok (.tableswitch 51 0 2 #[27, 35, 43], 27) := by decide +kernel
theorem dX7_found_28 : decode cX7_found 28 = .ok (.aload_n 0, 1) := by decide +kernel
theorem dX7_found_29 : decode cX7_found 29 = .ok (.getfield 57, 3) := by decide +kernel
theorem dX7_found_32 : decode cX7_found 32 = .ok (.getfield 287, 3) := by decide +kernel
theorem dX7_found_35 : decode cX7_found 35 = .ok (.ireturn, 1) := by decide +kernel
theorem dX7_found_36 : decode cX7_found 36 = .ok (.aload_n 0, 1) := by decide +kernel
theorem dX7_found_37 : decode cX7_found 37 = .ok (.getfield 57, 3) := by decide +kernel
theorem dX7_found_40 : decode cX7_found 40 = .ok (.getfield 294, 3) := by decide +kernel
theorem dX7_found_43 : decode cX7_found 43 = .ok (.ireturn, 1) := by decide +kernel
theorem dX7_found_44 : decode cX7_found 44 = .ok (.aload_n 0, 1) := by decide +kernel
theorem dX7_found_45 : decode cX7_found 45 = .ok (.getfield 57, 3) := by decide +kernel
theorem dX7_found_48 : decode cX7_found 48 = .ok (.getfield 297, 3) := by decide +kernel
theorem dX7_found_51 : decode cX7_found 51 = .ok (.ireturn, 1) := by decide +kernel
theorem dX7_found_52 : decode cX7_found 52 = .ok (.ldc 72, 2) := by decide +kernel
theorem dX7_found_54 : decode cX7_found 54 = .ok (.ireturn, 1) := by decide +kernel
theorem dX7_fail_0 : decode cX7_fail 0 = .ok (.aload_n 0, 1) := by decide +kernel
theorem dX7_fail_1 : decode cX7_fail 1 = .ok (.iload_n 1, 1) := by decide +kernel
theorem dX7_fail_2 : decode cX7_fail 2 = .ok (.invokevirtual 88, 3) := by decide +kernel
theorem dX7_fail_5 : decode cX7_fail 5 = .ok (.ifCond .ne 6, 3) := by decide +kernel
theorem dX7_fail_8 : decode cX7_fail 8 = .ok (.ldc 92, 2) := by decide +kernel
theorem dX7_fail_10 : decode cX7_fail 10 = .ok (.ireturn, 1) := by decide +kernel
theorem dX7_fail_11 : decode cX7_fail 11 = .ok (.iload_n 2, 1) := by decide +kernel
theorem dX7_fail_12 : decode cX7_fail 12 = .ok (.iconst 0, 1) := by decide +kernel
theorem dX7_fail_13 : decode cX7_fail 13 = .ok (.ldc 244, 2) := by decide +kernel
theorem dX7_fail_15 : decode cX7_fail 15 = .ok (.invokestatic 68, 3) := by decide +kernel
theorem dX7_fail_18 : decode cX7_fail 18 = .ok (.ifCond .ne 14, 3) := by decide +kernel
theorem dX7_fail_21 : decode cX7_fail 21 = .ok (.iload_n 3, 1) := by decide +kernel
theorem dX7_fail_22 : decode cX7_fail 22 = .ok (.iconst 0, 1) := by decide +kernel
theorem dX7_fail_23 : decode cX7_fail 23 = .ok (.sipush 10000, 3) := by decide +kernel
theorem dX7_fail_26 : decode cX7_fail 26 = .ok (.invokestatic 68, 3) := by decide +kernel
theorem dX7_fail_29 : decode cX7_fail 29 = .ok (.ifCond .eq 6, 3) := by decide +kernel
theorem dX7_fail_32 : decode cX7_fail 32 = .ok (.ldc 72, 2) := by decide +kernel
theorem dX7_fail_34 : decode cX7_fail 34 = .ok (.ireturn, 1) := by decide +kernel
theorem dX7_fail_35 : decode cX7_fail 35 = .ok (.aload_n 0, 1) := by decide +kernel
theorem dX7_fail_36 : decode cX7_fail 36 = .ok (.getfield 33, 3) := by decide +kernel
theorem dX7_fail_39 : decode cX7_fail 39 = .ok (.aload_n 0, 1) := by decide +kernel
theorem dX7_fail_40 : decode cX7_fail 40 = .ok (.getfield 10, 3) := by decide +kernel
theorem dX7_fail_43 : decode cX7_fail 43 = .ok (.aload_n 0, 1) := by decide +kernel
theorem dX7_fail_44 : decode cX7_fail 44 = .ok (.getfield 19, 3) := by decide +kernel
theorem dX7_fail_47 : decode cX7_fail 47 = .ok (.invokevirtual 189, 3) := by decide +kernel
theorem dX7_fail_50 : decode cX7_fail 50 = .ok (.ifCond .ne 6, 3) := by decide +kernel
theorem dX7_fail_53 : decode cX7_fail 53 = .ok (.ldc 180, 2) := by decide +kernel
theorem dX7_fail_55 : decode cX7_fail 55 = .ok (.ireturn, 1) := by decide +kernel
theorem dX7_fail_56 : decode cX7_fail 56 = .ok (.aload_n 0, 1) := by decide +kernel
theorem dX7_fail_57 : decode cX7_fail 57 = .ok (.getfield 61, 3) := by decide +kernel
theorem dX7_fail_60 : decode cX7_fail 60 = .ok (.getfield 300, 3) := by decide +kernel
theorem dX7_fail_63 : decode cX7_fail 63 = .ok (.iload_n 2, 1) := by decide +kernel
theorem dX7_fail_64 : decode cX7_fail 64 = .ok (.invokestatic 248, 3) := by decide +kernel
theorem dX7_fail_67 : decode cX7_fail 67 = .ok (.aload_n 0, 1) := by decide +kernel
theorem dX7_fail_68 : decode cX7_fail 68 = .ok (.getfield 61, 3) := by decide +kernel
theorem dX7_fail_71 : decode cX7_fail 71 = .ok (.getfield 300, 3) := by decide +kernel
theorem dX7_fail_74 : decode cX7_fail 74 = .ok (.iload_n 1, 1) := by decide +kernel
theorem dX7_fail_75 : decode cX7_fail 75 = .ok (.iload_n 2, 1) := by decide +kernel
theorem dX7_fail_76 : decode cX7_fail 76 = .ok (.iload_n 3, 1) := by decide +kernel
theorem dX7_fail_77 : decode cX7_fail 77 = .ok (.iadd, 1) := by decide +kernel
theorem dX7_fail_78 : decode cX7_fail 78 = .ok (.iastore, 1) := by decide +kernel
theorem dX7_fail_79 : decode cX7_fail 79 = .ok (.iconst 0, 1) := by decide +kernel
theorem dX7_fail_80 : decode cX7_fail 80 = .ok (.istore 4, 2) := by decide +kernel
theorem dX7_fail_82 : decode cX7_fail 82 = .ok (.iload 4, 2) := by decide +kernel
theorem dX7_fail_84 : decode cX7_fail 84 = .ok (.aload_n 0, 1) := by decide +kernel
theorem dX7_fail_85 : decode cX7_fail 85 = .ok (.getfield 10, 3) := by decide +kernel
theorem dX7_fail_88 : decode cX7_fail 88 = .ok (.getfield 97, 3) := by decide +kernel
theorem dX7_fail_91 : decode cX7_fail 91 = .ok (.if_icmp .ge 44, 3) := by decide +kernel
theorem dX7_fail_94 : decode cX7_fail 94 = .ok (.aload_n 0, 1) := by decide +kernel
theorem dX7_fail_95 : decode cX7_fail 95 = .ok (.getfield 61, 3) := by decide +kernel
theorem dX7_fail_98 : decode cX7_fail 98 = .ok (.getfield 303, 3) := by decide +kernel
theorem dX7_fail_101 : decode cX7_fail 101 = .ok (.iload 4, 2) := by decide +kernel
theorem dX7_fail_103 : decode cX7_fail 103 = .ok (.aload_n 0, 1) := by decide +kernel
theorem dX7_fail_104 : decode cX7_fail 104 = .ok (.iload 4, 2) := by decide +kernel
theorem dX7_fail_106 : decode cX7_fail 106 = .ok (.iload_n 1, 1) := by decide +kernel
theorem dX7_fail_107 : decode cX7_fail 107 = .ok (.iload_n 2, 1) := by decide +kernel
theorem dX7_fail_108 : decode cX7_fail 108 = .ok (.invokevirtual 306, 3) := by decide +kernel
theorem dX7_fail_111 : decode cX7_fail 111 = .ok (.ifCond .eq 16, 3) := by decide +kernel
theorem dX7_fail_114 : decode cX7_fail 114 = .ok (.aload_n 0, 1) := by decide +kernel
theorem dX7_fail_115 : decode cX7_fail 115 = .ok (.getfield 33, 3) := by decide +kernel
theorem dX7_fail_118 : decode cX7_fail 118 = .ok (.getfield 203, 3) := by decide +kernel
theorem dX7_fail_121 : decode cX7_fail 121 = .ok (.iload 4, 2) := by decide +kernel
theorem dX7_fail_123 : decode cX7_fail 123 = .ok (.iaload, 1) := by decide +kernel
theorem dX7_fail_124 : decode cX7_fail 124 = .ok (.goto 4, 3) := by decide +kernel
theorem dX7_fail_127 : decode cX7_fail 127 = .ok (.iconst (-1), 1) := by decide +kernel
theorem dX7_fail_128 : decode cX7_fail 128 = .ok (.iastore, 1) := by decide +kernel
theorem dX7_fail_129 : decode cX7_fail 129 = .ok (.iinc 4 1, 3) := by decide +kernel
theorem dX7_fail_132 : decode cX7_fail 132 = .ok (.goto (-50), 3) := by decide +kernel
theorem dX7_fail_135 : decode cX7_fail 135 = .ok (.aload_n 0, 1) := by decide +kernel
theorem dX7_fail_136 : decode cX7_fail 136 = .ok (.getfield 61, 3) := by decide +kernel
theorem dX7_fail_139 : decode cX7_fail 139 = .ok (.aload_n 0, 1) := by decide +kernel
theorem dX7_fail_140 : decode cX7_fail 140 = .ok (.getfield 10, 3) := by decide +kernel
theorem dX7_fail_143 : decode cX7_fail 143 = .ok (.aload_n 0, 1) := by decide +kernel
theorem dX7_fail_144 : decode cX7_fail 144 = .ok (.getfield 19, 3) := by decide +kernel
theorem dX7_fail_147 : decode cX7_fail 147 = .ok (.invokevirtual 189, 3) := by decide +kernel
theorem dX7_fail_150 : decode cX7_fail 150 = .ok (.pop, 1) := by decide +kernel
theorem dX7_fail_151 : decode cX7_fail 151 = .ok (.aload_n 0, 1) := by decide +kernel
theorem dX7_fail_152 : decode cX7_fail 152 = .ok (.aload_n 0, 1) := by decide +kernel
theorem dX7_fail_153 : decode cX7_fail 153 = .ok (.getfield 10, 3) := by decide +kernel
theorem dX7_fail_156 : decode cX7_fail 156 = .ok (.getfield 97, 3) := by decide +kernel
theorem dX7_fail_159 : decode cX7_fail 159 = .ok (.putfield 64, 3) := by decide +kernel
theorem dX7_fail_162 : decode cX7_fail 162 = .ok (.aload_n 0, 1) := by decide +kernel
theorem dX7_fail_163 : decode cX7_fail 163 = .ok (.getfield 61, 3) := by decide +kernel
theorem dX7_fail_166 : decode cX7_fail 166 = .ok (.getfield 200, 3) := by decide +kernel
theorem dX7_fail_169 : decode cX7_fail 169 = .ok (.ireturn, 1) := by decide +kernel
theorem dX7_mended_0 : decode cX7_mended 0 = .ok (.aload_n 0, 1) := by decide +kernel
theorem dX7_mended_1 : decode cX7_mended 1 = .ok (.iload_n 1, 1) := by decide +kernel
theorem dX7_mended_2 : decode cX7_mended 2 = .ok (.invokevirtual 104, 3) := by decide +kernel
theorem dX7_mended_5 : decode cX7_mended 5 = .ok (.ifCond .ne 6, 3) := by decide +kernel
theorem dX7_mended_8 : decode cX7_mended 8 = .ok (.ldc 92, 2) := by decide +kernel
theorem dX7_mended_10 : decode cX7_mended 10 = .ok (.ireturn, 1) := by decide +kernel
theorem dX7_mended_11 : decode cX7_mended 11 = .ok (.iload_n 2, 1) := by decide +kernel
theorem dX7_mended_12 : decode cX7_mended 12 = .ok (.iconst 0, 1) := by decide +kernel
theorem dX7_mended_13 : decode cX7_mended 13 = .ok (.iconst 1, 1) := by decide +kernel
theorem dX7_mended_14 : decode cX7_mended 14 = .ok (.invokestatic 68, 3) := by decide +kernel
theorem dX7_mended_17 : decode cX7_mended 17 = .ok (.ifCond .eq 6, 3) := by decide +kernel
theorem dX7_mended_20 : decode cX7_mended 20 = .ok (.ldc 72, 2) := by decide +kernel
theorem dX7_mended_22 : decode cX7_mended 22 = .ok (.ireturn, 1) := by decide +kernel
theorem dX7_mended_23 : decode cX7_mended 23 = .ok (.iload_n 1, 1) := by decide +kernel
theorem dX7_mended_24 : decode cX7_mended 24 = .ok (.aload_n 0, 1) := by decide +kernel
theorem dX7_mended_25 : decode cX7_mended 25 = .ok (.getfield 64, 3) := by decide +kernel
theorem dX7_mended_28 : decode cX7_mended 28 = .ok (.if_icmp .lt 5, 3) := by decide +kernel
theorem dX7_mended_31 : decode cX7_mended 31 = .ok (.iconst (-1), 1) := by decide +kernel
theorem dX7_mended_32 : decode cX7_mended 32 = .ok (.ireturn, 1) := by decide +kernel
theorem dX7_mended_33 : decode cX7_mended 33 = .ok (.iload_n 2, 1) := by decide +kernel
theorem dX7_mended_34 : decode cX7_mended 34 = .ok (.ifCond .ne 13, 3) := by decide +kernel
theorem dX7_mended_37 : decode cX7_mended 37 = .ok (.aload_n 0, 1) := by decide +kernel
theorem dX7_mended_38 : decode cX7_mended 38 = .ok (.getfield 61, 3) := by decide +kernel
theorem dX7_mended_41 : decode cX7_mended 41 = .ok (.getfield 203, 3) := by decide +kernel
theorem dX7_mended_44 : decode cX7_mended 44 = .ok (.iload_n 1, 1) := by decide +kernel
theorem dX7_mended_45 : decode cX7_mended 45 = .ok (.iaload, 1) := by decide +kernel
theorem dX7_mended_46 : decode cX7_mended 46 = .ok (.ireturn, 1) := by decide +kernel
theorem dX7_mended_47 : decode cX7_mended 47 = .ok (.aload_n 0, 1) := by decide +kernel
theorem dX7_mended_48 : decode cX7_mended 48 = .ok (.getfield 61, 3) := by decide +kernel
theorem dX7_mended_51 : decode cX7_mended 51 = .ok (.getfield 303, 3) := by decide +kernel
theorem dX7_mended_54 : decode cX7_mended 54 = .ok (.iload_n 1, 1) := by decide +kernel
theorem dX7_mended_55 : decode cX7_mended 55 = .ok (.iaload, 1) := by decide +kernel
theorem dX7_mended_56 : decode cX7_mended 56 = .ok (.iconst (-1), 1) := by decide +kernel
theorem dX7_mended_57 : decode cX7_mended 57 = .ok (.if_icmp .eq 7, 3) := by decide +kernel
theorem dX7_mended_60 : decode cX7_mended 60 = .ok (.iconst 1, 1) := by decide +kernel
theorem dX7_mended_61 : decode cX7_mended 61 = .ok (.goto 4, 3) := by decide +kernel
theorem dX7_mended_64 : decode cX7_mended 64 = .ok (.iconst 0, 1) := by decide +kernel
theorem dX7_mended_65 : decode cX7_mended 65 = .ok (.ireturn, 1) := by decide +kernel
theorem dX7_isOut_0 : decode cX7_isOut 0 = .ok (.iload_n 0, 1) := by decide +kernel
theorem dX7_isOut_1 : decode cX7_isOut 1 = .ok (.iload_n 1, 1) := by decide +kernel
theorem dX7_isOut_2 : decode cX7_isOut 2 = .ok (.if_icmp .lt 8, 3) := by decide +kernel
theorem dX7_isOut_5 : decode cX7_isOut 5 = .ok (.iload_n 0, 1) := by decide +kernel
theorem dX7_isOut_6 : decode cX7_isOut 6 = .ok (.iload_n 2, 1) := by decide +kernel
theorem dX7_isOut_7 : decode cX7_isOut 7 = .ok (.if_icmp .le 7, 3) := by decide +kernel
theorem dX7_isOut_10 : decode cX7_isOut 10 = .ok (.iconst 1, 1) := by decide +kernel
theorem dX7_isOut_11 : decode cX7_isOut 11 = .ok (.goto 4, 3) := by decide +kernel
theorem dX7_isOut_14 : decode cX7_isOut 14 = .ok (.iconst 0, 1) := by decide +kernel
theorem dX7_isOut_15 : decode cX7_isOut 15 = .ok (.ireturn, 1) := by decide +kernel
theorem dX7_isMachine_0 : decode cX7_isMachine 0 = .ok (.iload_n 1, 1) := by decide +kernel
theorem dX7_isMachine_1 : decode cX7_isMachine 1 = .ok (.iconst 0, 1) := by decide +kernel
theorem dX7_isMachine_2 : decode cX7_isMachine 2 = .ok (.aload_n 0, 1) := by decide +kernel
theorem dX7_isMachine_3 : decode cX7_isMachine 3 = .ok (.getfield 10, 3) := by decide +kernel
theorem dX7_isMachine_6 : decode cX7_isMachine 6 = .ok (.getfield 73, 3) := by decide +kernel
theorem dX7_isMachine_9 : decode cX7_isMachine 9 = .ok (.iconst 1, 1) := by decide +kernel
theorem dX7_isMachine_10 : decode cX7_isMachine 10 = .ok (.isub, 1) := by decide +kernel
theorem dX7_isMachine_11 : decode cX7_isMachine 11 = .ok (.invokestatic 68, 3) := by decide +kernel
theorem dX7_isMachine_14 : decode cX7_isMachine 14 = .ok (.ifCond .ne 7, 3) := by decide +kernel
theorem dX7_isMachine_17 : decode cX7_isMachine 17 = .ok (.iconst 1, 1) := by decide +kernel
theorem dX7_isMachine_18 : decode cX7_isMachine 18 = .ok (.goto 4, 3) := by decide +kernel
theorem dX7_isMachine_21 : decode cX7_isMachine 21 = .ok (.iconst 0, 1) := by decide +kernel
theorem dX7_isMachine_22 : decode cX7_isMachine 22 = .ok (.ireturn, 1) := by decide +kernel
theorem dX7_isStep_0 : decode cX7_isStep 0 = .ok (.iload_n 1, 1) := by decide +kernel
theorem dX7_isStep_1 : decode cX7_isStep 1 = .ok (.iconst 0, 1) := by decide +kernel
theorem dX7_isStep_2 : decode cX7_isStep 2 = .ok (.aload_n 0, 1) := by decide +kernel
theorem dX7_isStep_3 : decode cX7_isStep 3 = .ok (.getfield 10, 3) := by decide +kernel
theorem dX7_isStep_6 : decode cX7_isStep 6 = .ok (.getfield 97, 3) := by decide +kernel
theorem dX7_isStep_9 : decode cX7_isStep 9 = .ok (.iconst 1, 1) := by decide +kernel
theorem dX7_isStep_10 : decode cX7_isStep 10 = .ok (.isub, 1) := by decide +kernel
theorem dX7_isStep_11 : decode cX7_isStep 11 = .ok (.invokestatic 68, 3) := by decide +kernel
theorem dX7_isStep_14 : decode cX7_isStep 14 = .ok (.ifCond .ne 7, 3) := by decide +kernel
theorem dX7_isStep_17 : decode cX7_isStep 17 = .ok (.iconst 1, 1) := by decide +kernel
theorem dX7_isStep_18 : decode cX7_isStep 18 = .ok (.goto 4, 3) := by decide +kernel
theorem dX7_isStep_21 : decode cX7_isStep 21 = .ok (.iconst 0, 1) := by decide +kernel
theorem dX7_isStep_22 : decode cX7_isStep 22 = .ok (.ireturn, 1) := by decide +kernel
theorem dX7_isSheet_0 : decode cX7_isSheet 0 = .ok (.iload_n 0, 1) := by decide +kernel
theorem dX7_isSheet_1 : decode cX7_isSheet 1 = .ok (.iconst 0, 1) := by decide +kernel
theorem dX7_isSheet_2 : decode cX7_isSheet 2 = .ok (.iconst 5, 1) := by decide +kernel
theorem dX7_isSheet_3 : decode cX7_isSheet 3 = .ok (.invokestatic 68, 3) := by decide +kernel
theorem dX7_isSheet_6 : decode cX7_isSheet 6 = .ok (.ifCond .ne 7, 3) := by decide +kernel
theorem dX7_isSheet_9 : decode cX7_isSheet 9 = .ok (.iconst 1, 1) := by decide +kernel
theorem dX7_isSheet_10 : decode cX7_isSheet 10 = .ok (.goto 4, 3) := by decide +kernel
theorem dX7_isSheet_13 : decode cX7_isSheet 13 = .ok (.iconst 0, 1) := by decide +kernel
theorem dX7_isSheet_14 : decode cX7_isSheet 14 = .ok (.ireturn, 1) := by decide +kernel
theorem dX7_addStep_0 : decode cX7_addStep 0 = .ok (.aload_n 0, 1) := by decide +kernel
theorem dX7_addStep_1 : decode cX7_addStep 1 = .ok (.getfield 10, 3) := by decide +kernel
theorem dX7_addStep_4 : decode cX7_addStep 4 = .ok (.iload_n 1, 1) := by decide +kernel
theorem dX7_addStep_5 : decode cX7_addStep 5 = .ok (.iload_n 2, 1) := by decide +kernel
theorem dX7_addStep_6 : decode cX7_addStep 6 = .ok (.iload_n 3, 1) := by decide +kernel
theorem dX7_addStep_7 : decode cX7_addStep 7 = .ok (.invokevirtual 309, 3) := by decide +kernel
theorem dX7_addStep_10 : decode cX7_addStep 10 = .ok (.istore 4, 2) := by decide +kernel
theorem dX7_addStep_12 : decode cX7_addStep 12 = .ok (.aload_n 0, 1) := by decide +kernel
theorem dX7_addStep_13 : decode cX7_addStep 13 = .ok (.getfield 19, 3) := by decide +kernel
theorem dX7_addStep_16 : decode cX7_addStep 16 = .ok (.iload_n 2, 1) := by decide +kernel
theorem dX7_addStep_17 : decode cX7_addStep 17 = .ok (.iload 4, 2) := by decide +kernel
theorem dX7_addStep_19 : decode cX7_addStep 19 = .ok (.invokevirtual 234, 3) := by decide +kernel
theorem dX7_addStep_22 : decode cX7_addStep 22 = .ok (.iload 4, 2) := by decide +kernel
theorem dX7_addStep_24 : decode cX7_addStep 24 = .ok (.ireturn, 1) := by decide +kernel
theorem dX7_holdsSteps_0 : decode cX7_holdsSteps 0 = .ok (.iconst 0, 1) := by decide +kernel
theorem dX7_holdsSteps_1 : decode cX7_holdsSteps 1 = .ok (.istore_n 3, 1) := by decide +kernel
theorem dX7_holdsSteps_2 : decode cX7_holdsSteps 2 = .ok (.iload_n 3, 1) := by decide +kernel
theorem dX7_holdsSteps_3 : decode cX7_holdsSteps 3 = .ok (.iload_n 2, 1) := by decide +kernel
theorem dX7_holdsSteps_4 : decode cX7_holdsSteps 4 = .ok (.if_icmp .ge 40, 3) := by decide +kernel
theorem dX7_holdsSteps_7 : decode cX7_holdsSteps 7 = .ok (.aload_n 0, 1) := by decide +kernel
theorem dX7_holdsSteps_8 : decode cX7_holdsSteps 8 = .ok (.aload_n 1, 1) := by decide +kernel
theorem dX7_holdsSteps_9 : decode cX7_holdsSteps 9 = .ok (.iconst 2, 1) := by decide +kernel
theorem dX7_holdsSteps_10 : decode cX7_holdsSteps 10 = .ok (.iload_n 3, 1) := by decide +kernel
theorem dX7_holdsSteps_11 : decode cX7_holdsSteps 11 = .ok (.imul, 1) := by decide +kernel
theorem dX7_holdsSteps_12 : decode cX7_holdsSteps 12 = .ok (.iaload, 1) := by decide +kernel
theorem dX7_holdsSteps_13 : decode cX7_holdsSteps 13 = .ok (.invokevirtual 88, 3) := by decide +kernel
theorem dX7_holdsSteps_16 : decode cX7_holdsSteps 16 = .ok (.ifCond .eq 20, 3) := by decide +kernel
theorem dX7_holdsSteps_19 : decode cX7_holdsSteps 19 = .ok (.aload_n 1, 1) := by decide +kernel
theorem dX7_holdsSteps_20 : decode cX7_holdsSteps 20 = .ok (.iconst 2, 1) := by decide +kernel
theorem dX7_holdsSteps_21 : decode cX7_holdsSteps 21 = .ok (.iload_n 3, 1) := by decide +kernel
theorem dX7_holdsSteps_22 : decode cX7_holdsSteps 22 = .ok (.imul, 1) := by decide +kernel
theorem dX7_holdsSteps_23 : decode cX7_holdsSteps 23 = .ok (.iconst 1, 1) := by decide +kernel
theorem dX7_holdsSteps_24 : decode cX7_holdsSteps 24 = .ok (.iadd, 1) := by decide +kernel
theorem dX7_holdsSteps_25 : decode cX7_holdsSteps 25 = .ok (.iaload, 1) := by decide +kernel
theorem dX7_holdsSteps_26 : decode cX7_holdsSteps 26 = .ok (.iconst 1, 1) := by decide +kernel
theorem dX7_holdsSteps_27 : decode cX7_holdsSteps 27 = .ok (.sipush 1000, 3) := by decide +kernel
theorem dX7_holdsSteps_30 : decode cX7_holdsSteps 30 = .ok (.invokestatic 68, 3) := by decide +kernel
theorem dX7_holdsSteps_33 : decode cX7_holdsSteps 33 = .ok (.ifCond .eq 5, 3) := by decide +kernel
theorem dX7_holdsSteps_36 : decode cX7_holdsSteps 36 = .ok (.iconst 0, 1) := by decide +kernel
theorem dX7_holdsSteps_37 : decode cX7_holdsSteps 37 = .ok (.ireturn, 1) := by decide +kernel
theorem dX7_holdsSteps_38 : decode cX7_holdsSteps 38 = .ok (.iinc 3 1, 3) := by decide +kernel
theorem dX7_holdsSteps_41 : decode cX7_holdsSteps 41 = .ok (.goto (-39), 3) := by decide +kernel
theorem dX7_holdsSteps_44 : decode cX7_holdsSteps 44 = .ok (.iconst 1, 1) := by decide +kernel
theorem dX7_holdsSteps_45 : decode cX7_holdsSteps 45 = .ok (.ireturn, 1) := by decide +kernel
theorem dX7_addPieceBy_0 : decode cX7_addPieceBy 0 = .ok (.aload_n 0, 1) := by decide +kernel
theorem dX7_addPieceBy_1 : decode cX7_addPieceBy 1 = .ok (.getfield 10, 3) := by decide +kernel
theorem dX7_addPieceBy_4 : decode cX7_addPieceBy 4 = .ok (.iload_n 1, 1) := by decide +kernel
theorem dX7_addPieceBy_5 : decode cX7_addPieceBy 5 = .ok (.invokevirtual 84, 3) := by decide +kernel
theorem dX7_addPieceBy_8 : decode cX7_addPieceBy 8 = .ok (.istore 4, 2) := by decide +kernel
theorem dX7_addPieceBy_10 : decode cX7_addPieceBy 10 = .ok (.iconst 0, 1) := by decide +kernel
theorem dX7_addPieceBy_11 : decode cX7_addPieceBy 11 = .ok (.istore 5, 2) := by decide +kernel
theorem dX7_addPieceBy_13 : decode cX7_addPieceBy 13 = .ok (.iload 5, 2) := by decide +kernel
theorem dX7_addPieceBy_15 : decode cX7_addPieceBy 15 = .ok (.iload_n 3, 1) := by decide +kernel
theorem dX7_addPieceBy_16 : decode cX7_addPieceBy 16 = .ok (.if_icmp .ge 30, 3) := by decide +kernel
theorem dX7_addPieceBy_19 : decode cX7_addPieceBy 19 = .ok (.aload_n 0, 1) := by decide +kernel
theorem dX7_addPieceBy_20 : decode cX7_addPieceBy 20 = .ok (.iload 4, 2) := by decide +kernel
theorem dX7_addPieceBy_22 : decode cX7_addPieceBy 22 = .ok (.aload_n 2, 1) := by decide +kernel
theorem dX7_addPieceBy_23 : decode cX7_addPieceBy 23 = .ok (.iconst 2, 1) := by decide +kernel
theorem dX7_addPieceBy_24 : decode cX7_addPieceBy 24 = .ok (.iload 5, 2) := by decide +kernel
theorem dX7_addPieceBy_26 : decode cX7_addPieceBy 26 = .ok (.imul, 1) := by decide +kernel
theorem dX7_addPieceBy_27 : decode cX7_addPieceBy 27 = .ok (.iaload, 1) := by decide +kernel
theorem dX7_addPieceBy_28 : decode cX7_addPieceBy 28 = .ok (.aload_n 2, 1) := by decide +kernel
theorem dX7_addPieceBy_29 : decode cX7_addPieceBy 29 = .ok (.iconst 2, 1) := by decide +kernel
theorem dX7_addPieceBy_30 : decode cX7_addPieceBy 30 = .ok (.iload 5, 2) := by decide +kernel
theorem dX7_addPieceBy_32 : decode cX7_addPieceBy 32 = .ok (.imul, 1) := by decide +kernel
theorem dX7_addPieceBy_33 : decode cX7_addPieceBy 33 = .ok (.iconst 1, 1) := by decide +kernel
theorem dX7_addPieceBy_34 : decode cX7_addPieceBy 34 = .ok (.iadd, 1) := by decide +kernel
theorem dX7_addPieceBy_35 : decode cX7_addPieceBy 35 = .ok (.iaload, 1) := by decide +kernel
theorem dX7_addPieceBy_36 : decode cX7_addPieceBy 36 = .ok (.invokevirtual 100, 3) := by decide +kernel
theorem dX7_addPieceBy_39 : decode cX7_addPieceBy 39 = .ok (.pop, 1) := by decide +kernel
theorem dX7_addPieceBy_40 : decode cX7_addPieceBy 40 = .ok (.iinc 5 1, 3) := by decide +kernel
theorem dX7_addPieceBy_43 : decode cX7_addPieceBy 43 = .ok (.goto (-30), 3) := by decide +kernel
theorem dX7_addPieceBy_46 : decode cX7_addPieceBy 46 = .ok (.iload 4, 2) := by decide +kernel
theorem dX7_addPieceBy_48 : decode cX7_addPieceBy 48 = .ok (.ireturn, 1) := by decide +kernel
theorem dX7_hasTails_0 : decode cX7_hasTails 0 = .ok (.aload_n 0, 1) := by decide +kernel
theorem dX7_hasTails_1 : decode cX7_hasTails 1 = .ok (.getfield 10, 3) := by decide +kernel
theorem dX7_hasTails_4 : decode cX7_hasTails 4 = .ok (.invokevirtual 122, 3) := by decide +kernel
theorem dX7_hasTails_7 : decode cX7_hasTails 7 = .ok (.ifCond .eq 21, 3) := by decide +kernel
theorem dX7_hasTails_10 : decode cX7_hasTails 10 = .ok (.aload_n 0, 1) := by decide +kernel
theorem dX7_hasTails_11 : decode cX7_hasTails 11 = .ok (.getfield 33, 3) := by decide +kernel
theorem dX7_hasTails_14 : decode cX7_hasTails 14 = .ok (.aload_n 0, 1) := by decide +kernel
theorem dX7_hasTails_15 : decode cX7_hasTails 15 = .ok (.getfield 10, 3) := by decide +kernel
theorem dX7_hasTails_18 : decode cX7_hasTails 18 = .ok (.aload_n 0, 1) := by decide +kernel
theorem dX7_hasTails_19 : decode cX7_hasTails 19 = .ok (.getfield 19, 3) := by decide +kernel
theorem dX7_hasTails_22 : decode cX7_hasTails 22 = .ok (.invokevirtual 189, 3) := by decide +kernel
theorem dX7_hasTails_25 : decode cX7_hasTails 25 = .ok (.ifCond .ne 5, 3) := by decide +kernel
theorem dX7_hasTails_28 : decode cX7_hasTails 28 = .ok (.iconst 0, 1) := by decide +kernel
theorem dX7_hasTails_29 : decode cX7_hasTails 29 = .ok (.ireturn, 1) := by decide +kernel
theorem dX7_hasTails_30 : decode cX7_hasTails 30 = .ok (.aload_n 0, 1) := by decide +kernel
theorem dX7_hasTails_31 : decode cX7_hasTails 31 = .ok (.getfield 33, 3) := by decide +kernel
theorem dX7_hasTails_34 : decode cX7_hasTails 34 = .ok (.aload_n 0, 1) := by decide +kernel
theorem dX7_hasTails_35 : decode cX7_hasTails 35 = .ok (.getfield 10, 3) := by decide +kernel
theorem dX7_hasTails_38 : decode cX7_hasTails 38 = .ok (.invokevirtual 310, 3) := by decide +kernel
theorem dX7_hasTails_41 : decode cX7_hasTails 41 = .ok (.iconst 1, 1) := by decide +kernel
theorem dX7_hasTails_42 : decode cX7_hasTails 42 = .ok (.ireturn, 1) := by decide +kernel
theorem dX7_pickBy_0 : decode cX7_pickBy 0 = .ok (.iconst (-1), 1) := by decide +kernel
theorem dX7_pickBy_1 : decode cX7_pickBy 1 = .ok (.istore_n 2, 1) := by decide +kernel
theorem dX7_pickBy_2 : decode cX7_pickBy 2 = .ok (.iconst 0, 1) := by decide +kernel
theorem dX7_pickBy_3 : decode cX7_pickBy 3 = .ok (.istore_n 3, 1) := by decide +kernel
theorem dX7_pickBy_4 : decode cX7_pickBy 4 = .ok (.iconst 0, 1) := by decide +kernel
theorem dX7_pickBy_5 : decode cX7_pickBy 5 = .ok (.istore 4, 2) := by decide +kernel
theorem dX7_pickBy_7 : decode cX7_pickBy 7 = .ok (.iconst 0, 1) := by decide +kernel
theorem dX7_pickBy_8 : decode cX7_pickBy 8 = .ok (.istore 5, 2) := by decide +kernel
theorem dX7_pickBy_10 : decode cX7_pickBy 10 = .ok (.iload 5, 2) := by decide +kernel
theorem dX7_pickBy_12 : decode cX7_pickBy 12 = .ok (.aload_n 0, 1) := by decide +kernel
theorem dX7_pickBy_13 : decode cX7_pickBy 13 = .ok (.getfield 10, 3) := by decide +kernel
theorem dX7_pickBy_16 : decode cX7_pickBy 16 = .ok (.getfield 81, 3) := by decide +kernel
theorem dX7_pickBy_19 : decode cX7_pickBy 19 = .ok (.if_icmp .ge 104, 3) := by decide +kernel
theorem dX7_pickBy_22 : decode cX7_pickBy 22 = .ok (.aload_n 0, 1) := by decide +kernel
theorem dX7_pickBy_23 : decode cX7_pickBy 23 = .ok (.getfield 33, 3) := by decide +kernel
theorem dX7_pickBy_26 : decode cX7_pickBy 26 = .ok (.aload_n 0, 1) := by decide +kernel
theorem dX7_pickBy_27 : decode cX7_pickBy 27 = .ok (.getfield 10, 3) := by decide +kernel
theorem dX7_pickBy_30 : decode cX7_pickBy 30 = .ok (.iload 5, 2) := by decide +kernel
theorem dX7_pickBy_32 : decode cX7_pickBy 32 = .ok (.invokevirtual 314, 3) := by decide +kernel
theorem dX7_pickBy_35 : decode cX7_pickBy 35 = .ok (.istore 6, 2) := by decide +kernel
theorem dX7_pickBy_37 : decode cX7_pickBy 37 = .ok (.iload 6, 2) := by decide +kernel
theorem dX7_pickBy_39 : decode cX7_pickBy 39 = .ok (.iconst (-1), 1) := by decide +kernel
theorem dX7_pickBy_40 : decode cX7_pickBy 40 = .ok (.if_icmp .eq 77, 3) := by decide +kernel
theorem dX7_pickBy_43 : decode cX7_pickBy 43 = .ok (.aload_n 0, 1) := by decide +kernel
theorem dX7_pickBy_44 : decode cX7_pickBy 44 = .ok (.getfield 33, 3) := by decide +kernel
theorem dX7_pickBy_47 : decode cX7_pickBy 47 = .ok (.aload_n 0, 1) := by decide +kernel
theorem dX7_pickBy_48 : decode cX7_pickBy 48 = .ok (.getfield 10, 3) := by decide +kernel
theorem dX7_pickBy_51 : decode cX7_pickBy 51 = .ok (.aload_n 0, 1) := by decide +kernel
theorem dX7_pickBy_52 : decode cX7_pickBy 52 = .ok (.getfield 19, 3) := by decide +kernel
theorem dX7_pickBy_55 : decode cX7_pickBy 55 = .ok (.iload 6, 2) := by decide +kernel
theorem dX7_pickBy_57 : decode cX7_pickBy 57 = .ok (.invokevirtual 230, 3) := by decide +kernel
theorem dX7_pickBy_60 : decode cX7_pickBy 60 = .ok (.istore 7, 2) := by decide +kernel
theorem dX7_pickBy_62 : decode cX7_pickBy 62 = .ok (.aload_n 0, 1) := by decide +kernel
theorem dX7_pickBy_63 : decode cX7_pickBy 63 = .ok (.iload_n 1, 1) := by decide +kernel
theorem dX7_pickBy_64 : decode cX7_pickBy 64 = .ok (.iload 6, 2) := by decide +kernel
theorem dX7_pickBy_66 : decode cX7_pickBy 66 = .ok (.invokevirtual 317, 3) := by decide +kernel
theorem dX7_pickBy_69 : decode cX7_pickBy 69 = .ok (.istore 8, 2) := by decide +kernel
theorem dX7_pickBy_71 : decode cX7_pickBy 71 = .ok (.iload 7, 2) := by decide +kernel
theorem dX7_pickBy_73 : decode cX7_pickBy 73 = .ok (.iload_n 3, 1) := by decide +kernel
theorem dX7_pickBy_74 : decode cX7_pickBy 74 = .ok (.if_icmp .lt 16, 3) := by decide +kernel
theorem dX7_pickBy_77 : decode cX7_pickBy 77 = .ok (.iload 7, 2) := by decide +kernel
theorem dX7_pickBy_79 : decode cX7_pickBy 79 = .ok (.iload_n 3, 1) := by decide +kernel
theorem dX7_pickBy_80 : decode cX7_pickBy 80 = .ok (.if_icmp .ne 14, 3) := by decide +kernel
theorem dX7_pickBy_83 : decode cX7_pickBy 83 = .ok (.iload 8, 2) := by decide +kernel
theorem dX7_pickBy_85 : decode cX7_pickBy 85 = .ok (.iload 4, 2) := by decide +kernel
theorem dX7_pickBy_87 : decode cX7_pickBy 87 = .ok (.if_icmp .ge 7, 3) := by decide +kernel
theorem dX7_pickBy_90 : decode cX7_pickBy 90 = .ok (.iconst 1, 1) := by decide +kernel
theorem dX7_pickBy_91 : decode cX7_pickBy 91 = .ok (.goto 4, 3) := by decide +kernel
theorem dX7_pickBy_94 : decode cX7_pickBy 94 = .ok (.iconst 0, 1) := by decide +kernel
theorem dX7_pickBy_95 : decode cX7_pickBy 95 = .ok (.istore 9, 2) := by decide +kernel
theorem dX7_pickBy_97 : decode cX7_pickBy 97 = .ok (.iload_n 2, 1) := by decide +kernel
theorem dX7_pickBy_98 : decode cX7_pickBy 98 = .ok (.iconst (-1), 1) := by decide +kernel
theorem dX7_pickBy_99 : decode cX7_pickBy 99 = .ok (.if_icmp .eq 8, 3) := by decide +kernel
theorem dX7_pickBy_102 : decode cX7_pickBy 102 = .ok (.iload 9, 2) := by decide +kernel
theorem dX7_pickBy_104 : decode cX7_pickBy 104 = .ok (.ifCond .eq 13, 3) := by decide +kernel
theorem dX7_pickBy_107 : decode cX7_pickBy 107 = .ok (.iload 6, 2) := by decide +kernel
theorem dX7_pickBy_109 : decode cX7_pickBy 109 = .ok (.istore_n 2, 1) := by decide +kernel
theorem dX7_pickBy_110 : decode cX7_pickBy 110 = .ok (.iload 7, 2) := by decide +kernel
theorem dX7_pickBy_112 : decode cX7_pickBy 112 = .ok (.istore_n 3, 1) := by decide +kernel
theorem dX7_pickBy_113 : decode cX7_pickBy 113 = .ok (.iload 8, 2) := by decide +kernel
theorem dX7_pickBy_115 : decode cX7_pickBy 115 = .ok (.istore 4, 2) := by decide +kernel
theorem dX7_pickBy_117 : decode cX7_pickBy 117 = .ok (.iinc 5 1, 3) := by decide +kernel
theorem dX7_pickBy_120 : decode cX7_pickBy 120 = .ok (.goto (-110), 3) := by decide +kernel
theorem dX7_pickBy_123 : decode cX7_pickBy 123 = .ok (.iload_n 2, 1) := by decide +kernel
theorem dX7_pickBy_124 : decode cX7_pickBy 124 = .ok (.ireturn, 1) := by decide +kernel
theorem dX7_rankBy_0 : decode cX7_rankBy 0 = .ok (.iload_n 1, 1) := by decide +kernel
theorem dX7_rankBy_1 : decode cX7_rankBy 1 = .ok (.ifCond .ne 13, 3) := by decide +kernel
theorem dX7_rankBy_4 : decode cX7_rankBy 4 = .ok (.aload_n 0, 1) := by decide +kernel
theorem dX7_rankBy_5 : decode cX7_rankBy 5 = .ok (.getfield 10, 3) := by decide +kernel
theorem dX7_rankBy_8 : decode cX7_rankBy 8 = .ok (.getfield 113, 3) := by decide +kernel
theorem dX7_rankBy_11 : decode cX7_rankBy 11 = .ok (.iload_n 2, 1) := by decide +kernel
theorem dX7_rankBy_12 : decode cX7_rankBy 12 = .ok (.iaload, 1) := by decide +kernel
theorem dX7_rankBy_13 : decode cX7_rankBy 13 = .ok (.ireturn, 1) := by decide +kernel
theorem dX7_rankBy_14 : decode cX7_rankBy 14 = .ok (.iload_n 1, 1) := by decide +kernel
theorem dX7_rankBy_15 : decode cX7_rankBy 15 = .ok (.iconst 1, 1) := by decide +kernel
theorem dX7_rankBy_16 : decode cX7_rankBy 16 = .ok (.if_icmp .ne 25, 3) := by decide +kernel
theorem dX7_rankBy_19 : decode cX7_rankBy 19 = .ok (.aload_n 0, 1) := by decide +kernel
theorem dX7_rankBy_20 : decode cX7_rankBy 20 = .ok (.getfield 10, 3) := by decide +kernel
theorem dX7_rankBy_23 : decode cX7_rankBy 23 = .ok (.getfield 113, 3) := by decide +kernel
theorem dX7_rankBy_26 : decode cX7_rankBy 26 = .ok (.iload_n 2, 1) := by decide +kernel
theorem dX7_rankBy_27 : decode cX7_rankBy 27 = .ok (.iaload, 1) := by decide +kernel
theorem dX7_rankBy_28 : decode cX7_rankBy 28 = .ok (.aload_n 0, 1) := by decide +kernel
theorem dX7_rankBy_29 : decode cX7_rankBy 29 = .ok (.getfield 10, 3) := by decide +kernel
theorem dX7_rankBy_32 : decode cX7_rankBy 32 = .ok (.iload_n 2, 1) := by decide +kernel
theorem dX7_rankBy_33 : decode cX7_rankBy 33 = .ok (.invokevirtual 320, 3) := by decide +kernel
theorem dX7_rankBy_36 : decode cX7_rankBy 36 = .ok (.iadd, 1) := by decide +kernel
theorem dX7_rankBy_37 : decode cX7_rankBy 37 = .ok (.ineg, 1) := by decide +kernel
theorem dX7_rankBy_38 : decode cX7_rankBy 38 = .ok (.goto 4, 3) := by decide +kernel
theorem dX7_rankBy_41 : decode cX7_rankBy 41 = .ok (.iconst 0, 1) := by decide +kernel
theorem dX7_rankBy_42 : decode cX7_rankBy 42 = .ok (.ireturn, 1) := by decide +kernel
theorem dX7_shorten_0 : decode cX7_shorten 0 = .ok (.aload_n 0, 1) := by decide +kernel
theorem dX7_shorten_1 : decode cX7_shorten 1 = .ok (.invokevirtual 206, 3) := by decide +kernel
theorem dX7_shorten_4 : decode cX7_shorten 4 = .ok (.ifCond .ne 5, 3) := by decide +kernel
theorem dX7_shorten_7 : decode cX7_shorten 7 = .ok (.iconst 0, 1) := by decide +kernel
theorem dX7_shorten_8 : decode cX7_shorten 8 = .ok (.ireturn, 1) := by decide +kernel
theorem dX7_shorten_9 : decode cX7_shorten 9 = .ok (.aload_n 0, 1) := by decide +kernel
theorem dX7_shorten_10 : decode cX7_shorten 10 = .ok (.getfield 33, 3) := by decide +kernel
theorem dX7_shorten_13 : decode cX7_shorten 13 = .ok (.getfield 200, 3) := by decide +kernel
theorem dX7_shorten_16 : decode cX7_shorten 16 = .ok (.istore_n 1, 1) := by decide +kernel
theorem dX7_shorten_17 : decode cX7_shorten 17 = .ok (.iconst (-1), 1) := by decide +kernel
theorem dX7_shorten_18 : decode cX7_shorten 18 = .ok (.istore_n 2, 1) := by decide +kernel
theorem dX7_shorten_19 : decode cX7_shorten 19 = .ok (.iconst (-1), 1) := by decide +kernel
theorem dX7_shorten_20 : decode cX7_shorten 20 = .ok (.istore_n 3, 1) := by decide +kernel
theorem dX7_shorten_21 : decode cX7_shorten 21 = .ok (.iconst 0, 1) := by decide +kernel
theorem dX7_shorten_22 : decode cX7_shorten 22 = .ok (.istore 4, 2) := by decide +kernel
theorem dX7_shorten_24 : decode cX7_shorten 24 = .ok (.iload 4, 2) := by decide +kernel
theorem dX7_shorten_26 : decode cX7_shorten 26 = .ok (.aload_n 0, 1) := by decide +kernel
theorem dX7_shorten_27 : decode cX7_shorten 27 = .ok (.getfield 10, 3) := by decide +kernel
theorem dX7_shorten_30 : decode cX7_shorten 30 = .ok (.getfield 73, 3) := by decide +kernel
theorem dX7_shorten_33 : decode cX7_shorten 33 = .ok (.if_icmp .ge 77, 3) := by decide +kernel
theorem dX7_shorten_36 : decode cX7_shorten 36 = .ok (.iconst 0, 1) := by decide +kernel
theorem dX7_shorten_37 : decode cX7_shorten 37 = .ok (.istore 5, 2) := by decide +kernel
theorem dX7_shorten_39 : decode cX7_shorten 39 = .ok (.iload 5, 2) := by decide +kernel
theorem dX7_shorten_41 : decode cX7_shorten 41 = .ok (.iconst 1, 1) := by decide +kernel
theorem dX7_shorten_42 : decode cX7_shorten 42 = .ok (.iadd, 1) := by decide +kernel
theorem dX7_shorten_43 : decode cX7_shorten 43 = .ok (.aload_n 0, 1) := by decide +kernel
theorem dX7_shorten_44 : decode cX7_shorten 44 = .ok (.getfield 19, 3) := by decide +kernel
theorem dX7_shorten_47 : decode cX7_shorten 47 = .ok (.getfield 185, 3) := by decide +kernel
theorem dX7_shorten_50 : decode cX7_shorten 50 = .ok (.iload 4, 2) := by decide +kernel
theorem dX7_shorten_52 : decode cX7_shorten 52 = .ok (.iaload, 1) := by decide +kernel
theorem dX7_shorten_53 : decode cX7_shorten 53 = .ok (.if_icmp .ge 51, 3) := by decide +kernel
theorem dX7_shorten_56 : decode cX7_shorten 56 = .ok (.aload_n 0, 1) := by decide +kernel
theorem dX7_shorten_57 : decode cX7_shorten 57 = .ok (.iload 4, 2) := by decide +kernel
theorem dX7_shorten_59 : decode cX7_shorten 59 = .ok (.iload 5, 2) := by decide +kernel
theorem dX7_shorten_61 : decode cX7_shorten 61 = .ok (.invokevirtual 323, 3) := by decide +kernel
theorem dX7_shorten_64 : decode cX7_shorten 64 = .ok (.ifCond .eq 34, 3) := by decide +kernel
theorem dX7_shorten_67 : decode cX7_shorten 67 = .ok (.aload_n 0, 1) := by decide +kernel
theorem dX7_shorten_68 : decode cX7_shorten 68 = .ok (.iload 4, 2) := by decide +kernel
theorem dX7_shorten_70 : decode cX7_shorten 70 = .ok (.iload 5, 2) := by decide +kernel
theorem dX7_shorten_72 : decode cX7_shorten 72 = .ok (.invokevirtual 326, 3) := by decide +kernel
theorem dX7_shorten_75 : decode cX7_shorten 75 = .ok (.istore 6, 2) := by decide +kernel
theorem dX7_shorten_77 : decode cX7_shorten 77 = .ok (.iload 6, 2) := by decide +kernel
theorem dX7_shorten_79 : decode cX7_shorten 79 = .ok (.iconst (-1), 1) := by decide +kernel
theorem dX7_shorten_80 : decode cX7_shorten 80 = .ok (.if_icmp .eq 18, 3) := by decide +kernel
theorem dX7_shorten_83 : decode cX7_shorten 83 = .ok (.iload 6, 2) := by decide +kernel
theorem dX7_shorten_85 : decode cX7_shorten 85 = .ok (.iload_n 1, 1) := by decide +kernel
theorem dX7_shorten_86 : decode cX7_shorten 86 = .ok (.if_icmp .ge 12, 3) := by decide +kernel
theorem dX7_shorten_89 : decode cX7_shorten 89 = .ok (.iload 6, 2) := by decide +kernel
theorem dX7_shorten_91 : decode cX7_shorten 91 = .ok (.istore_n 1, 1) := by decide +kernel
theorem dX7_shorten_92 : decode cX7_shorten 92 = .ok (.iload 4, 2) := by decide +kernel
theorem dX7_shorten_94 : decode cX7_shorten 94 = .ok (.istore_n 2, 1) := by decide +kernel
theorem dX7_shorten_95 : decode cX7_shorten 95 = .ok (.iload 5, 2) := by decide +kernel
theorem dX7_shorten_97 : decode cX7_shorten 97 = .ok (.istore_n 3, 1) := by decide +kernel
theorem dX7_shorten_98 : decode cX7_shorten 98 = .ok (.iinc 5 1, 3) := by decide +kernel
theorem dX7_shorten_101 : decode cX7_shorten 101 = .ok (.goto (-62), 3) := by decide +kernel
theorem dX7_shorten_104 : decode cX7_shorten 104 = .ok (.iinc 4 1, 3) := by decide +kernel
theorem dX7_shorten_107 : decode cX7_shorten 107 = .ok (.goto (-83), 3) := by decide +kernel
theorem dX7_shorten_110 : decode cX7_shorten 110 = .ok (.iload_n 2, 1) := by decide +kernel
theorem dX7_shorten_111 : decode cX7_shorten 111 = .ok (.iconst (-1), 1) := by decide +kernel
theorem dX7_shorten_112 : decode cX7_shorten 112 = .ok (.if_icmp .ne 5, 3) := by decide +kernel
theorem dX7_shorten_115 : decode cX7_shorten 115 = .ok (.iconst 0, 1) := by decide +kernel
theorem dX7_shorten_116 : decode cX7_shorten 116 = .ok (.ireturn, 1) := by decide +kernel
theorem dX7_shorten_117 : decode cX7_shorten 117 = .ok (.aload_n 0, 1) := by decide +kernel
theorem dX7_shorten_118 : decode cX7_shorten 118 = .ok (.getfield 19, 3) := by decide +kernel
theorem dX7_shorten_121 : decode cX7_shorten 121 = .ok (.iload_n 2, 1) := by decide +kernel
theorem dX7_shorten_122 : decode cX7_shorten 122 = .ok (.iload_n 3, 1) := by decide +kernel
theorem dX7_shorten_123 : decode cX7_shorten 123 = .ok (.invokevirtual 193, 3) := by decide +kernel
theorem dX7_shorten_126 : decode cX7_shorten 126 = .ok (.iconst 1, 1) := by decide +kernel
theorem dX7_shorten_127 : decode cX7_shorten 127 = .ok (.ireturn, 1) := by decide +kernel
theorem dX7_isTight_0 : decode cX7_isTight 0 = .ok (.aload_n 0, 1) := by decide +kernel
theorem dX7_isTight_1 : decode cX7_isTight 1 = .ok (.getfield 10, 3) := by decide +kernel
theorem dX7_isTight_4 : decode cX7_isTight 4 = .ok (.getfield 186, 3) := by decide +kernel
theorem dX7_isTight_7 : decode cX7_isTight 7 = .ok (.iload_n 1, 1) := by decide +kernel
theorem dX7_isTight_8 : decode cX7_isTight 8 = .ok (.iaload, 1) := by decide +kernel
theorem dX7_isTight_9 : decode cX7_isTight 9 = .ok (.ifCond .eq 5, 3) := by decide +kernel
theorem dX7_isTight_12 : decode cX7_isTight 12 = .ok (.iconst 0, 1) := by decide +kernel
theorem dX7_isTight_13 : decode cX7_isTight 13 = .ok (.ireturn, 1) := by decide +kernel
theorem dX7_isTight_14 : decode cX7_isTight 14 = .ok (.aload_n 0, 1) := by decide +kernel
theorem dX7_isTight_15 : decode cX7_isTight 15 = .ok (.getfield 19, 3) := by decide +kernel
theorem dX7_isTight_18 : decode cX7_isTight 18 = .ok (.getfield 329, 3) := by decide +kernel
theorem dX7_isTight_21 : decode cX7_isTight 21 = .ok (.iload_n 1, 1) := by decide +kernel
theorem dX7_isTight_22 : decode cX7_isTight 22 = .ok (.aaload, 1) := by decide +kernel
theorem dX7_isTight_23 : decode cX7_isTight 23 = .ok (.iload_n 2, 1) := by decide +kernel
theorem dX7_isTight_24 : decode cX7_isTight 24 = .ok (.iaload, 1) := by decide +kernel
theorem dX7_isTight_25 : decode cX7_isTight 25 = .ok (.istore_n 3, 1) := by decide +kernel
theorem dX7_isTight_26 : decode cX7_isTight 26 = .ok (.aload_n 0, 1) := by decide +kernel
theorem dX7_isTight_27 : decode cX7_isTight 27 = .ok (.getfield 19, 3) := by decide +kernel
theorem dX7_isTight_30 : decode cX7_isTight 30 = .ok (.getfield 329, 3) := by decide +kernel
theorem dX7_isTight_33 : decode cX7_isTight 33 = .ok (.iload_n 1, 1) := by decide +kernel
theorem dX7_isTight_34 : decode cX7_isTight 34 = .ok (.aaload, 1) := by decide +kernel
theorem dX7_isTight_35 : decode cX7_isTight 35 = .ok (.iload_n 2, 1) := by decide +kernel
theorem dX7_isTight_36 : decode cX7_isTight 36 = .ok (.iconst 1, 1) := by decide +kernel
theorem dX7_isTight_37 : decode cX7_isTight 37 = .ok (.iadd, 1) := by decide +kernel
theorem dX7_isTight_38 : decode cX7_isTight 38 = .ok (.iaload, 1) := by decide +kernel
theorem dX7_isTight_39 : decode cX7_isTight 39 = .ok (.istore 4, 2) := by decide +kernel
theorem dX7_isTight_41 : decode cX7_isTight 41 = .ok (.aload_n 0, 1) := by decide +kernel
theorem dX7_isTight_42 : decode cX7_isTight 42 = .ok (.getfield 33, 3) := by decide +kernel
theorem dX7_isTight_45 : decode cX7_isTight 45 = .ok (.aload_n 0, 1) := by decide +kernel
theorem dX7_isTight_46 : decode cX7_isTight 46 = .ok (.getfield 10, 3) := by decide +kernel
theorem dX7_isTight_49 : decode cX7_isTight 49 = .ok (.iload_n 3, 1) := by decide +kernel
theorem dX7_isTight_50 : decode cX7_isTight 50 = .ok (.invokevirtual 212, 3) := by decide +kernel
theorem dX7_isTight_53 : decode cX7_isTight 53 = .ok (.ifCond .ne 48, 3) := by decide +kernel
theorem dX7_isTight_56 : decode cX7_isTight 56 = .ok (.aload_n 0, 1) := by decide +kernel
theorem dX7_isTight_57 : decode cX7_isTight 57 = .ok (.getfield 33, 3) := by decide +kernel
theorem dX7_isTight_60 : decode cX7_isTight 60 = .ok (.aload_n 0, 1) := by decide +kernel
theorem dX7_isTight_61 : decode cX7_isTight 61 = .ok (.getfield 10, 3) := by decide +kernel
theorem dX7_isTight_64 : decode cX7_isTight 64 = .ok (.iload 4, 2) := by decide +kernel
theorem dX7_isTight_66 : decode cX7_isTight 66 = .ok (.invokevirtual 212, 3) := by decide +kernel
theorem dX7_isTight_69 : decode cX7_isTight 69 = .ok (.ifCond .ne 32, 3) := by decide +kernel
theorem dX7_isTight_72 : decode cX7_isTight 72 = .ok (.aload_n 0, 1) := by decide +kernel
theorem dX7_isTight_73 : decode cX7_isTight 73 = .ok (.getfield 33, 3) := by decide +kernel
theorem dX7_isTight_76 : decode cX7_isTight 76 = .ok (.aload_n 0, 1) := by decide +kernel
theorem dX7_isTight_77 : decode cX7_isTight 77 = .ok (.getfield 10, 3) := by decide +kernel
theorem dX7_isTight_80 : decode cX7_isTight 80 = .ok (.iload_n 3, 1) := by decide +kernel
theorem dX7_isTight_81 : decode cX7_isTight 81 = .ok (.invokevirtual 332, 3) := by decide +kernel
theorem dX7_isTight_84 : decode cX7_isTight 84 = .ok (.aload_n 0, 1) := by decide +kernel
theorem dX7_isTight_85 : decode cX7_isTight 85 = .ok (.getfield 33, 3) := by decide +kernel
theorem dX7_isTight_88 : decode cX7_isTight 88 = .ok (.getfield 203, 3) := by decide +kernel
theorem dX7_isTight_91 : decode cX7_isTight 91 = .ok (.iload 4, 2) := by decide +kernel
theorem dX7_isTight_93 : decode cX7_isTight 93 = .ok (.iaload, 1) := by decide +kernel
theorem dX7_isTight_94 : decode cX7_isTight 94 = .ok (.if_icmp .ne 7, 3) := by decide +kernel
theorem dX7_isTight_97 : decode cX7_isTight 97 = .ok (.iconst 1, 1) := by decide +kernel
theorem dX7_isTight_98 : decode cX7_isTight 98 = .ok (.goto 4, 3) := by decide +kernel
theorem dX7_isTight_101 : decode cX7_isTight 101 = .ok (.iconst 0, 1) := by decide +kernel
theorem dX7_isTight_102 : decode cX7_isTight 102 = .ok (.ireturn, 1) := by decide +kernel
theorem dX7_endBySwap_0 : decode cX7_endBySwap 0 = .ok (.aload_n 0, 1) := by decide +kernel
theorem dX7_endBySwap_1 : decode cX7_endBySwap 1 = .ok (.getfield 19, 3) := by decide +kernel
theorem dX7_endBySwap_4 : decode cX7_endBySwap 4 = .ok (.iload_n 1, 1) := by decide +kernel
theorem dX7_endBySwap_5 : decode cX7_endBySwap 5 = .ok (.iload_n 2, 1) := by decide +kernel
theorem dX7_endBySwap_6 : decode cX7_endBySwap 6 = .ok (.invokevirtual 193, 3) := by decide +kernel
theorem dX7_endBySwap_9 : decode cX7_endBySwap 9 = .ok (.aload_n 0, 1) := by decide +kernel
theorem dX7_endBySwap_10 : decode cX7_endBySwap 10 = .ok (.getfield 37, 3) := by decide +kernel
theorem dX7_endBySwap_13 : decode cX7_endBySwap 13 = .ok (.aload_n 0, 1) := by decide +kernel
theorem dX7_endBySwap_14 : decode cX7_endBySwap 14 = .ok (.getfield 10, 3) := by decide +kernel
theorem dX7_endBySwap_17 : decode cX7_endBySwap 17 = .ok (.aload_n 0, 1) := by decide +kernel
theorem dX7_endBySwap_18 : decode cX7_endBySwap 18 = .ok (.getfield 19, 3) := by decide +kernel
theorem dX7_endBySwap_21 : decode cX7_endBySwap 21 = .ok (.invokevirtual 189, 3) := by decide +kernel
theorem dX7_endBySwap_24 : decode cX7_endBySwap 24 = .ok (.ifCond .eq 13, 3) := by decide +kernel
theorem dX7_endBySwap_27 : decode cX7_endBySwap 27 = .ok (.aload_n 0, 1) := by decide +kernel
theorem dX7_endBySwap_28 : decode cX7_endBySwap 28 = .ok (.getfield 37, 3) := by decide +kernel
theorem dX7_endBySwap_31 : decode cX7_endBySwap 31 = .ok (.getfield 200, 3) := by decide +kernel
theorem dX7_endBySwap_34 : decode cX7_endBySwap 34 = .ok (.goto 4, 3) := by decide +kernel
theorem dX7_endBySwap_37 : decode cX7_endBySwap 37 = .ok (.iconst (-1), 1) := by decide +kernel
theorem dX7_endBySwap_38 : decode cX7_endBySwap 38 = .ok (.istore_n 3, 1) := by decide +kernel
theorem dX7_endBySwap_39 : decode cX7_endBySwap 39 = .ok (.aload_n 0, 1) := by decide +kernel
theorem dX7_endBySwap_40 : decode cX7_endBySwap 40 = .ok (.getfield 19, 3) := by decide +kernel
theorem dX7_endBySwap_43 : decode cX7_endBySwap 43 = .ok (.iload_n 1, 1) := by decide +kernel
theorem dX7_endBySwap_44 : decode cX7_endBySwap 44 = .ok (.iload_n 2, 1) := by decide +kernel
theorem dX7_endBySwap_45 : decode cX7_endBySwap 45 = .ok (.invokevirtual 193, 3) := by decide +kernel
theorem dX7_endBySwap_48 : decode cX7_endBySwap 48 = .ok (.iload_n 3, 1) := by decide +kernel
theorem dX7_endBySwap_49 : decode cX7_endBySwap 49 = .ok (.ireturn, 1) := by decide +kernel
theorem dX7_stays_0 : decode cX7_stays 0 = .ok (.aload_n 0, 1) := by decide +kernel
theorem dX7_stays_1 : decode cX7_stays 1 = .ok (.getfield 33, 3) := by decide +kernel
theorem dX7_stays_4 : decode cX7_stays 4 = .ok (.aload_n 0, 1) := by decide +kernel
theorem dX7_stays_5 : decode cX7_stays 5 = .ok (.getfield 10, 3) := by decide +kernel
theorem dX7_stays_8 : decode cX7_stays 8 = .ok (.iload_n 1, 1) := by decide +kernel
theorem dX7_stays_9 : decode cX7_stays 9 = .ok (.invokevirtual 332, 3) := by decide +kernel
theorem dX7_stays_12 : decode cX7_stays 12 = .ok (.iload_n 3, 1) := by decide +kernel
theorem dX7_stays_13 : decode cX7_stays 13 = .ok (.if_icmp .gt 5, 3) := by decide +kernel
theorem dX7_stays_16 : decode cX7_stays 16 = .ok (.iconst 1, 1) := by decide +kernel
theorem dX7_stays_17 : decode cX7_stays 17 = .ok (.ireturn, 1) := by decide +kernel
theorem dX7_stays_18 : decode cX7_stays 18 = .ok (.aload_n 0, 1) := by decide +kernel
theorem dX7_stays_19 : decode cX7_stays 19 = .ok (.getfield 33, 3) := by decide +kernel
theorem dX7_stays_22 : decode cX7_stays 22 = .ok (.getfield 203, 3) := by decide +kernel
theorem dX7_stays_25 : decode cX7_stays 25 = .ok (.iload_n 1, 1) := by decide +kernel
theorem dX7_stays_26 : decode cX7_stays 26 = .ok (.iaload, 1) := by decide +kernel
theorem dX7_stays_27 : decode cX7_stays 27 = .ok (.iload_n 3, 1) := by decide +kernel
theorem dX7_stays_28 : decode cX7_stays 28 = .ok (.if_icmp .ge 20, 3) := by decide +kernel
theorem dX7_stays_31 : decode cX7_stays 31 = .ok (.aload_n 0, 1) := by decide +kernel
theorem dX7_stays_32 : decode cX7_stays 32 = .ok (.getfield 10, 3) := by decide +kernel
theorem dX7_stays_35 : decode cX7_stays 35 = .ok (.getfield 110, 3) := by decide +kernel
theorem dX7_stays_38 : decode cX7_stays 38 = .ok (.iload_n 1, 1) := by decide +kernel
theorem dX7_stays_39 : decode cX7_stays 39 = .ok (.iaload, 1) := by decide +kernel
theorem dX7_stays_40 : decode cX7_stays 40 = .ok (.iload_n 2, 1) := by decide +kernel
theorem dX7_stays_41 : decode cX7_stays 41 = .ok (.if_icmp .eq 7, 3) := by decide +kernel
theorem dX7_stays_44 : decode cX7_stays 44 = .ok (.iconst 1, 1) := by decide +kernel
theorem dX7_stays_45 : decode cX7_stays 45 = .ok (.goto 4, 3) := by decide +kernel
theorem dX7_stays_48 : decode cX7_stays 48 = .ok (.iconst 0, 1) := by decide +kernel
theorem dX7_stays_49 : decode cX7_stays 49 = .ok (.ireturn, 1) := by decide +kernel
theorem dX8_init_0 : decode cX8_init 0 = .ok (.aload_n 0, 1) := by decide +kernel
theorem dX8_init_1 : decode cX8_init 1 = .ok (.invokespecial 1, 3) := by decide +kernel
theorem dX8_init_4 : decode cX8_init 4 = .ok (.aload_n 0, 1) := by decide +kernel
theorem dX8_init_5 : decode cX8_init 5 = .ok (.bipush 8, 2) := by decide +kernel
theorem dX8_init_7 : decode cX8_init 7 = .ok (.newarray .int, 2) := by decide +kernel
theorem dX8_init_9 : decode cX8_init 9 = .ok (.putfield 7, 3) := by decide +kernel
theorem dX8_init_12 : decode cX8_init 12 = .ok (.aload_n 0, 1) := by decide +kernel
theorem dX8_init_13 : decode cX8_init 13 = .ok (.bipush 8, 2) := by decide +kernel
theorem dX8_init_15 : decode cX8_init 15 = .ok (.newarray .int, 2) := by decide +kernel
theorem dX8_init_17 : decode cX8_init 17 = .ok (.putfield 13, 3) := by decide +kernel
theorem dX8_init_20 : decode cX8_init 20 = .ok (.aload_n 0, 1) := by decide +kernel
theorem dX8_init_21 : decode cX8_init 21 = .ok (.bipush 12, 2) := by decide +kernel
theorem dX8_init_23 : decode cX8_init 23 = .ok (.newarray .int, 2) := by decide +kernel
theorem dX8_init_25 : decode cX8_init 25 = .ok (.putfield 16, 3) := by decide +kernel
theorem dX8_init_28 : decode cX8_init 28 = .ok (.aload_n 0, 1) := by decide +kernel
theorem dX8_init_29 : decode cX8_init 29 = .ok (.bipush 12, 2) := by decide +kernel
theorem dX8_init_31 : decode cX8_init 31 = .ok (.newarray .int, 2) := by decide +kernel
theorem dX8_init_33 : decode cX8_init 33 = .ok (.putfield 19, 3) := by decide +kernel
theorem dX8_init_36 : decode cX8_init 36 = .ok (.aload_n 0, 1) := by decide +kernel
theorem dX8_init_37 : decode cX8_init 37 = .ok (.bipush 96, 2) := by decide +kernel
theorem dX8_init_39 : decode cX8_init 39 = .ok (.newarray .int, 2) := by decide +kernel
theorem dX8_init_41 : decode cX8_init 41 = .ok (.putfield 22, 3) := by decide +kernel
theorem dX8_init_44 : decode cX8_init 44 = .ok (.aload_n 0, 1) := by decide +kernel
theorem dX8_init_45 : decode cX8_init 45 = .ok (.bipush 32, 2) := by decide +kernel
theorem dX8_init_47 : decode cX8_init 47 = .ok (.newarray .int, 2) := by decide +kernel
theorem dX8_init_49 : decode cX8_init 49 = .ok (.putfield 25, 3) := by decide +kernel
theorem dX8_init_52 : decode cX8_init 52 = .ok (.aload_n 0, 1) := by decide +kernel
theorem dX8_init_53 : decode cX8_init 53 = .ok (.bipush 32, 2) := by decide +kernel
theorem dX8_init_55 : decode cX8_init 55 = .ok (.newarray .int, 2) := by decide +kernel
theorem dX8_init_57 : decode cX8_init 57 = .ok (.putfield 28, 3) := by decide +kernel
theorem dX8_init_60 : decode cX8_init 60 = .ok (.aload_n 0, 1) := by decide +kernel
theorem dX8_init_61 : decode cX8_init 61 = .ok (.bipush 32, 2) := by decide +kernel
theorem dX8_init_63 : decode cX8_init 63 = .ok (.newarray .int, 2) := by decide +kernel
theorem dX8_init_65 : decode cX8_init 65 = .ok (.putfield 31, 3) := by decide +kernel
theorem dX8_init_68 : decode cX8_init 68 = .ok (.aload_n 0, 1) := by decide +kernel
theorem dX8_init_69 : decode cX8_init 69 = .ok (.bipush 32, 2) := by decide +kernel
theorem dX8_init_71 : decode cX8_init 71 = .ok (.newarray .int, 2) := by decide +kernel
theorem dX8_init_73 : decode cX8_init 73 = .ok (.putfield 34, 3) := by decide +kernel
theorem dX8_init_76 : decode cX8_init 76 = .ok (.aload_n 0, 1) := by decide +kernel
theorem dX8_init_77 : decode cX8_init 77 = .ok (.sipush 256, 3) := by decide +kernel
theorem dX8_init_80 : decode cX8_init 80 = .ok (.newarray .int, 2) := by decide +kernel
theorem dX8_init_82 : decode cX8_init 82 = .ok (.putfield 37, 3) := by decide +kernel
theorem dX8_init_85 : decode cX8_init 85 = .ok (.aload_n 0, 1) := by decide +kernel
theorem dX8_init_86 : decode cX8_init 86 = .ok (.bipush 8, 2) := by decide +kernel
theorem dX8_init_88 : decode cX8_init 88 = .ok (.newarray .int, 2) := by decide +kernel
theorem dX8_init_90 : decode cX8_init 90 = .ok (.putfield 40, 3) := by decide +kernel
theorem dX8_init_93 : decode cX8_init 93 = .ok (.aload_n 0, 1) := by decide +kernel
theorem dX8_init_94 : decode cX8_init 94 = .ok (.bipush 6, 2) := by decide +kernel
theorem dX8_init_96 : decode cX8_init 96 = .ok (.newarray .int, 2) := by decide +kernel
theorem dX8_init_98 : decode cX8_init 98 = .ok (.putfield 43, 3) := by decide +kernel
theorem dX8_init_101 : decode cX8_init 101 = .ok (.aload_n 0, 1) := by decide +kernel
theorem dX8_init_102 : decode cX8_init 102 = .ok (.bipush 6, 2) := by decide +kernel
theorem dX8_init_104 : decode cX8_init 104 = .ok (.newarray .int, 2) := by decide +kernel
theorem dX8_init_106 : decode cX8_init 106 = .ok (.putfield 46, 3) := by decide +kernel
theorem dX8_init_109 : decode cX8_init 109 = .ok (.aload_n 0, 1) := by decide +kernel
theorem dX8_init_110 : decode cX8_init 110 = .ok (.sipush 240, 3) := by decide +kernel
theorem dX8_init_113 : decode cX8_init 113 = .ok (.newarray .int, 2) := by decide +kernel
theorem dX8_init_115 : decode cX8_init 115 = .ok (.putfield 49, 3) := by decide +kernel
theorem dX8_init_118 : decode cX8_init 118 = .ok (.aload_n 0, 1) := by decide +kernel
theorem dX8_init_119 : decode cX8_init 119 = .ok (.bipush 40, 2) := by decide +kernel
theorem dX8_init_121 : decode cX8_init 121 = .ok (.newarray .int, 2) := by decide +kernel
theorem dX8_init_123 : decode cX8_init 123 = .ok (.putfield 52, 3) := by decide +kernel
theorem dX8_init_126 : decode cX8_init 126 = .ok (.aload_n 0, 1) := by decide +kernel
theorem dX8_init_127 : decode cX8_init 127 = .ok (.bipush 32, 2) := by decide +kernel
theorem dX8_init_129 : decode cX8_init 129 = .ok (.newarray .int, 2) := by decide +kernel
theorem dX8_init_131 : decode cX8_init 131 = .ok (.putfield 55, 3) := by decide +kernel
theorem dX8_init_134 : decode cX8_init 134 = .ok (.aload_n 0, 1) := by decide +kernel
theorem dX8_init_135 : decode cX8_init 135 = .ok (.bipush 32, 2) := by decide +kernel
theorem dX8_init_137 : decode cX8_init 137 = .ok (.newarray .boolean, 2) := by decide +kernel
theorem dX8_init_139 : decode cX8_init 139 = .ok (.putfield 58, 3) := by decide +kernel
theorem dX8_init_142 : decode cX8_init 142 = .ok (.aload_n 0, 1) := by decide +kernel
theorem dX8_init_143 : decode cX8_init 143 = .ok (.bipush 32, 2) := by decide +kernel
theorem dX8_init_145 : decode cX8_init 145 = .ok (.newarray .int, 2) := by decide +kernel
theorem dX8_init_147 : decode cX8_init 147 = .ok (.putfield 62, 3) := by decide +kernel
theorem dX8_init_150 : decode cX8_init 150 = .ok (.aload_n 0, 1) := by decide +kernel
theorem dX8_init_151 : decode cX8_init 151 = .ok (.bipush 32, 2) := by decide +kernel
theorem dX8_init_153 : decode cX8_init 153 = .ok (.newarray .int, 2) := by decide +kernel
theorem dX8_init_155 : decode cX8_init 155 = .ok (.putfield 65, 3) := by decide +kernel
theorem dX8_init_158 : decode cX8_init 158 = .ok (.aload_n 0, 1) := by decide +kernel
theorem dX8_init_159 : decode cX8_init 159 = .ok (.sipush 256, 3) := by decide +kernel
theorem dX8_init_162 : decode cX8_init 162 = .ok (.newarray .boolean, 2) := by decide +kernel
theorem dX8_init_164 : decode cX8_init 164 = .ok (.putfield 68, 3) := by decide +kernel
theorem dX8_init_167 : decode cX8_init 167 = .ok (.aload_n 0, 1) := by decide +kernel
theorem dX8_init_168 : decode cX8_init 168 = .ok (.bipush 32, 2) := by decide +kernel
theorem dX8_init_170 : decode cX8_init 170 = .ok (.newarray .int, 2) := by decide +kernel
theorem dX8_init_172 : decode cX8_init 172 = .ok (.putfield 71, 3) := by decide +kernel
theorem dX8_init_175 : decode cX8_init 175 = .ok (.aload_n 0, 1) := by decide +kernel
theorem dX8_init_176 : decode cX8_init 176 = .ok (.bipush 32, 2) := by decide +kernel
theorem dX8_init_178 : decode cX8_init 178 = .ok (.newarray .int, 2) := by decide +kernel
theorem dX8_init_180 : decode cX8_init 180 = .ok (.putfield 74, 3) := by decide +kernel
theorem dX8_init_183 : decode cX8_init 183 = .ok (.aload_n 0, 1) := by decide +kernel
theorem dX8_init_184 : decode cX8_init 184 = .ok (.bipush 32, 2) := by decide +kernel
theorem dX8_init_186 : decode cX8_init 186 = .ok (.newarray .int, 2) := by decide +kernel
theorem dX8_init_188 : decode cX8_init 188 = .ok (.putfield 77, 3) := by decide +kernel
theorem dX8_init_191 : decode cX8_init 191 = .ok (.aload_n 0, 1) := by decide +kernel
theorem dX8_init_192 : decode cX8_init 192 = .ok (.bipush 32, 2) := by decide +kernel
theorem dX8_init_194 : decode cX8_init 194 = .ok (.newarray .int, 2) := by decide +kernel
theorem dX8_init_196 : decode cX8_init 196 = .ok (.putfield 80, 3) := by decide +kernel
theorem dX8_init_199 : decode cX8_init 199 = .ok (.aload_n 0, 1) := by decide +kernel
theorem dX8_init_200 : decode cX8_init 200 = .ok (.bipush 32, 2) := by decide +kernel
theorem dX8_init_202 : decode cX8_init 202 = .ok (.newarray .int, 2) := by decide +kernel
theorem dX8_init_204 : decode cX8_init 204 = .ok (.putfield 83, 3) := by decide +kernel
theorem dX8_init_207 : decode cX8_init 207 = .ok (.aload_n 0, 1) := by decide +kernel
theorem dX8_init_208 : decode cX8_init 208 = .ok (.bipush 32, 2) := by decide +kernel
theorem dX8_init_210 : decode cX8_init 210 = .ok (.newarray .int, 2) := by decide +kernel
theorem dX8_init_212 : decode cX8_init 212 = .ok (.putfield 86, 3) := by decide +kernel
theorem dX8_init_215 : decode cX8_init 215 = .ok (.aload_n 0, 1) := by decide +kernel
theorem dX8_init_216 : decode cX8_init 216 = .ok (.bipush 32, 2) := by decide +kernel
theorem dX8_init_218 : decode cX8_init 218 = .ok (.newarray .int, 2) := by decide +kernel
theorem dX8_init_220 : decode cX8_init 220 = .ok (.putfield 89, 3) := by decide +kernel
theorem dX8_init_223 : decode cX8_init 223 = .ok (.aload_n 0, 1) := by decide +kernel
theorem dX8_init_224 : decode cX8_init 224 = .ok (.bipush 32, 2) := by decide +kernel
theorem dX8_init_226 : decode cX8_init 226 = .ok (.newarray .int, 2) := by decide +kernel
theorem dX8_init_228 : decode cX8_init 228 = .ok (.putfield 92, 3) := by decide +kernel
theorem dX8_init_231 : decode cX8_init 231 = .ok (.aload_n 0, 1) := by decide +kernel
theorem dX8_init_232 : decode cX8_init 232 = .ok (.bipush 32, 2) := by decide +kernel
theorem dX8_init_234 : decode cX8_init 234 = .ok (.newarray .int, 2) := by decide +kernel
theorem dX8_init_236 : decode cX8_init 236 = .ok (.putfield 95, 3) := by decide +kernel
theorem dX8_init_239 : decode cX8_init 239 = .ok (.aload_n 0, 1) := by decide +kernel
theorem dX8_init_240 : decode cX8_init 240 = .ok (.bipush 32, 2) := by decide +kernel
theorem dX8_init_242 : decode cX8_init 242 = .ok (.newarray .int, 2) := by decide +kernel
theorem dX8_init_244 : decode cX8_init 244 = .ok (.putfield 98, 3) := by decide +kernel
theorem dX8_init_247 : decode cX8_init 247 = .ok (.aload_n 0, 1) := by decide +kernel
theorem dX8_init_248 : decode cX8_init 248 = .ok (.bipush 9, 2) := by decide +kernel
theorem dX8_init_250 : decode cX8_init 250 = .ok (.newarray .int, 2) := by decide +kernel
theorem dX8_init_252 : decode cX8_init 252 = .ok (.putfield 101, 3) := by decide +kernel
theorem dX8_init_255 : decode cX8_init 255 = .ok (.aload_n 0, 1) := by decide +kernel
theorem dX8_init_256 : decode cX8_init 256 = .ok (.bipush 9, 2) := by decide +kernel
theorem dX8_init_258 : decode cX8_init 258 = .ok (.newarray .int, 2) := by decide +kernel
theorem dX8_init_260 : decode cX8_init 260 = .ok (.putfield 104, 3) := by decide +kernel
theorem dX8_init_263 : decode cX8_init 263 = .ok (.aload_n 0, 1) := by decide +kernel
theorem dX8_init_264 : decode cX8_init 264 = .ok (.bipush 9, 2) := by decide +kernel
theorem dX8_init_266 : decode cX8_init 266 = .ok (.newarray .int, 2) := by decide +kernel
theorem dX8_init_268 : decode cX8_init 268 = .ok (.putfield 107, 3) := by decide +kernel
theorem dX8_init_271 : decode cX8_init 271 = .ok (.aload_n 0, 1) := by decide +kernel
theorem dX8_init_272 : decode cX8_init 272 = .ok (.sipush 6720, 3) := by decide +kernel
theorem dX8_init_275 : decode cX8_init 275 = .ok (.newarray .int, 2) := by decide +kernel
theorem dX8_init_277 : decode cX8_init 277 = .ok (.putfield 110, 3) := by decide +kernel
theorem dX8_init_280 : decode cX8_init 280 = .ok (.aload_n 0, 1) := by decide +kernel
theorem dX8_init_281 : decode cX8_init 281 = .ok (.sipush 256, 3) := by decide +kernel
theorem dX8_init_284 : decode cX8_init 284 = .ok (.newarray .int, 2) := by decide +kernel
theorem dX8_init_286 : decode cX8_init 286 = .ok (.putfield 113, 3) := by decide +kernel
theorem dX8_init_289 : decode cX8_init 289 = .ok (.aload_n 0, 1) := by decide +kernel
theorem dX8_init_290 : decode cX8_init 290 = .ok (.bipush 32, 2) := by decide +kernel
theorem dX8_init_292 : decode cX8_init 292 = .ok (.newarray .int, 2) := by decide +kernel
theorem dX8_init_294 : decode cX8_init 294 = .ok (.putfield 116, 3) := by decide +kernel
theorem dX8_init_297 : decode cX8_init 297 = .ok (.aload_n 0, 1) := by decide +kernel
theorem dX8_init_298 : decode cX8_init 298 = .ok (.bipush 32, 2) := by decide +kernel
theorem dX8_init_300 : decode cX8_init 300 = .ok (.newarray .boolean, 2) := by decide +kernel
theorem dX8_init_302 : decode cX8_init 302 = .ok (.putfield 119, 3) := by decide +kernel
theorem dX8_init_305 : decode cX8_init 305 = .ok (.iconst 0, 1) := by decide +kernel
theorem dX8_init_306 : decode cX8_init 306 = .ok (.istore_n 1, 1) := by decide +kernel
theorem dX8_init_307 : decode cX8_init 307 = .ok (.iload_n 1, 1) := by decide +kernel
theorem dX8_init_308 : decode cX8_init 308 = .ok (.bipush 6, 2) := by decide +kernel
theorem dX8_init_310 : decode cX8_init 310 = .ok (.if_icmp .ge 16, 3) := by decide +kernel
theorem dX8_init_313 : decode cX8_init 313 = .ok (.aload_n 0, 1) := by decide +kernel
theorem dX8_init_314 : decode cX8_init 314 = .ok (.getfield 43, 3) := by decide +kernel
theorem dX8_init_317 : decode cX8_init 317 = .ok (.iload_n 1, 1) := by decide +kernel
theorem dX8_init_318 : decode cX8_init 318 = .ok (.iconst (-1), 1) := by decide +kernel
theorem dX8_init_319 : decode cX8_init 319 = .ok (.iastore, 1) := by decide +kernel
theorem dX8_init_320 : decode cX8_init 320 = .ok (.iinc 1 1, 3) := by decide +kernel
theorem dX8_init_323 : decode cX8_init 323 = .ok (.goto (-16), 3) := by decide +kernel
theorem dX8_init_326 : decode cX8_init 326 = .ok (.return_, 1) := by decide +kernel
theorem dX8_in_0 : decode cX8_in 0 = .ok (.lload_n 0, 1) := by decide +kernel
theorem dX8_in_1 : decode cX8_in 1 = .ok (.lload_n 2, 1) := by decide +kernel
theorem dX8_in_2 : decode cX8_in 2 = .ok (.lcmp, 1) := by decide +kernel
theorem dX8_in_3 : decode cX8_in 3 = .ok (.ifCond .lt 14, 3) := by decide +kernel
theorem dX8_in_6 : decode cX8_in 6 = .ok (.lload_n 0, 1) := by decide +kernel
theorem dX8_in_7 : decode cX8_in 7 = .ok (.lload 4, 2) := by decide +kernel
theorem dX8_in_9 : decode cX8_in 9 = .ok (.lcmp, 1) := by decide +kernel
theorem dX8_in_10 : decode cX8_in 10 = .ok (.ifCond .gt 7, 3) := by decide +kernel
theorem dX8_in_13 : decode cX8_in 13 = .ok (.iconst 1, 1) := by decide +kernel
theorem dX8_in_14 : decode cX8_in 14 = .ok (.goto 4, 3) := by decide +kernel
theorem dX8_in_17 : decode cX8_in 17 = .ok (.iconst 0, 1) := by decide +kernel
theorem dX8_in_18 : decode cX8_in 18 = .ok (.ireturn, 1) := by decide +kernel
theorem dX8_machine_0 : decode cX8_machine 0 = .ok (.iload_n 1, 1) := by decide +kernel
theorem dX8_machine_1 : decode cX8_machine 1 = .ok (.i2l, 1) := by decide +kernel
theorem dX8_machine_2 : decode cX8_machine 2 = .ok (.lconst 0, 1) := by decide +kernel
theorem dX8_machine_3 : decode cX8_machine 3 = .ok (.ldc2_w 122, 3) := by decide +kernel
theorem dX8_machine_6 : decode cX8_machine 6 = .ok (.invokestatic 124, 3) := by decide +kernel
theorem dX8_machine_9 : decode cX8_machine 9 = .ok (.ifCond .eq 37, 3) := by decide +kernel
theorem dX8_machine_12 : decode cX8_machine 12 = .ok (.iload_n 1, 1) := by decide +kernel
theorem dX8_machine_13 : decode cX8_machine 13 = .ok (.iconst 2, 1) := by decide +kernel
theorem dX8_machine_14 : decode cX8_machine 14 = .ok (.if_icmp .ne 15, 3) := by decide +kernel
theorem dX8_machine_17 : decode cX8_machine 17 = .ok (.iload_n 2, 1) := by decide +kernel
theorem dX8_machine_18 : decode cX8_machine 18 = .ok (.i2l, 1) := by decide +kernel
theorem dX8_machine_19 : decode cX8_machine 19 = .ok (.lconst 0, 1) := by decide +kernel
theorem dX8_machine_20 : decode cX8_machine 20 = .ok (.ldc2_w 128, 3) := by decide +kernel
theorem dX8_machine_23 : decode cX8_machine 23 = .ok (.invokestatic 124, 3) := by decide +kernel
theorem dX8_machine_26 : decode cX8_machine 26 = .ok (.ifCond .eq 20, 3) := by decide +kernel
theorem dX8_machine_29 : decode cX8_machine 29 = .ok (.iload_n 1, 1) := by decide +kernel
theorem dX8_machine_30 : decode cX8_machine 30 = .ok (.iconst 3, 1) := by decide +kernel
theorem dX8_machine_31 : decode cX8_machine 31 = .ok (.if_icmp .ne 18, 3) := by decide +kernel
theorem dX8_machine_34 : decode cX8_machine 34 = .ok (.iload_n 2, 1) := by decide +kernel
theorem dX8_machine_35 : decode cX8_machine 35 = .ok (.i2l, 1) := by decide +kernel
theorem dX8_machine_36 : decode cX8_machine 36 = .ok (.lconst 1, 1) := by decide +kernel
theorem dX8_machine_37 : decode cX8_machine 37 = .ok (.ldc2_w 130, 3) := by decide +kernel
theorem dX8_machine_40 : decode cX8_machine 40 = .ok (.invokestatic 124, 3) := by decide +kernel
theorem dX8_machine_43 : decode cX8_machine 43 = .ok (.ifCond .ne 6, 3) := by decide +kernel
theorem dX8_machine_46 : decode cX8_machine 46 = .ok (.ldc 132, 2) := by decide +kernel
theorem dX8_machine_48 : decode cX8_machine 48 = .ok (.ireturn, 1) := by decide +kernel
theorem dX8_machine_49 : decode cX8_machine 49 = .ok (.aload_n 0, 1) := by decide +kernel
theorem dX8_machine_50 : decode cX8_machine 50 = .ok (.getfield 133, 3) := by decide +kernel
theorem dX8_machine_53 : decode cX8_machine 53 = .ok (.bipush 8, 2) := by decide +kernel
theorem dX8_machine_55 : decode cX8_machine 55 = .ok (.if_icmp .ne 6, 3) := by decide +kernel
theorem dX8_machine_58 : decode cX8_machine 58 = .ok (.ldc 137, 2) := by decide +kernel
theorem dX8_machine_60 : decode cX8_machine 60 = .ok (.ireturn, 1) := by decide +kernel
theorem dX8_machine_61 : decode cX8_machine 61 = .ok (.aload_n 0, 1) := by decide +kernel
theorem dX8_machine_62 : decode cX8_machine 62 = .ok (.getfield 7, 3) := by decide +kernel
theorem dX8_machine_65 : decode cX8_machine 65 = .ok (.aload_n 0, 1) := by decide +kernel
theorem dX8_machine_66 : decode cX8_machine 66 = .ok (.getfield 133, 3) := by decide +kernel
theorem dX8_machine_69 : decode cX8_machine 69 = .ok (.iload_n 1, 1) := by decide +kernel
theorem dX8_machine_70 : decode cX8_machine 70 = .ok (.iastore, 1) := by decide +kernel
theorem dX8_machine_71 : decode cX8_machine 71 = .ok (.aload_n 0, 1) := by decide +kernel
theorem dX8_machine_72 : decode cX8_machine 72 = .ok (.getfield 13, 3) := by decide +kernel
theorem dX8_machine_75 : decode cX8_machine 75 = .ok (.aload_n 0, 1) := by decide +kernel
theorem dX8_machine_76 : decode cX8_machine 76 = .ok (.getfield 133, 3) := by decide +kernel
theorem dX8_machine_79 : decode cX8_machine 79 = .ok (.iload_n 2, 1) := by decide +kernel
theorem dX8_machine_80 : decode cX8_machine 80 = .ok (.iastore, 1) := by decide +kernel
theorem dX8_machine_81 : decode cX8_machine 81 = .ok (.aload_n 0, 1) := by decide +kernel
theorem dX8_machine_82 : decode cX8_machine 82 = .ok (.dup, 1) := by decide +kernel
theorem dX8_machine_83 : decode cX8_machine 83 = .ok (.getfield 133, 3) := by decide +kernel
theorem dX8_machine_86 : decode cX8_machine 86 = .ok (.iconst 1, 1) := by decide +kernel
theorem dX8_machine_87 : decode cX8_machine 87 = .ok (.iadd, 1) := by decide +kernel
theorem dX8_machine_88 : decode cX8_machine 88 = .ok (.putfield 133, 3) := by decide +kernel
theorem dX8_machine_91 : decode cX8_machine 91 = .ok (.aload_n 0, 1) := by decide +kernel
theorem dX8_machine_92 : decode cX8_machine 92 = .ok (.getfield 133, 3) := by decide +kernel
theorem dX8_machine_95 : decode cX8_machine 95 = .ok (.iconst 1, 1) := by decide +kernel
theorem dX8_machine_96 : decode cX8_machine 96 = .ok (.isub, 1) := by decide +kernel
theorem dX8_machine_97 : decode cX8_machine 97 = .ok (.ireturn, 1) := by decide +kernel
theorem dX8_piece_0 : decode cX8_piece 0 = .ok (.iload_n 1, 1) := by decide +kernel
theorem dX8_piece_1 : decode cX8_piece 1 = .ok (.i2l, 1) := by decide +kernel
theorem dX8_piece_2 : decode cX8_piece 2 = .ok (.lconst 0, 1) := by decide +kernel
theorem dX8_piece_3 : decode cX8_piece 3 = .ok (.ldc2_w 138, 3) := by decide +kernel
theorem dX8_piece_6 : decode cX8_piece 6 = .ok (.invokestatic 124, 3) := by decide +kernel
theorem dX8_piece_9 : decode cX8_piece 9 = .ok (.ifCond .ne 6, 3) := by decide +kernel
theorem dX8_piece_12 : decode cX8_piece 12 = .ok (.ldc 132, 2) := by decide +kernel
theorem dX8_piece_14 : decode cX8_piece 14 = .ok (.ireturn, 1) := by decide +kernel
theorem dX8_piece_15 : decode cX8_piece 15 = .ok (.aload_n 0, 1) := by decide +kernel
theorem dX8_piece_16 : decode cX8_piece 16 = .ok (.getfield 140, 3) := by decide +kernel
theorem dX8_piece_19 : decode cX8_piece 19 = .ok (.bipush 12, 2) := by decide +kernel
theorem dX8_piece_21 : decode cX8_piece 21 = .ok (.if_icmp .ne 6, 3) := by decide +kernel
theorem dX8_piece_24 : decode cX8_piece 24 = .ok (.ldc 137, 2) := by decide +kernel
theorem dX8_piece_26 : decode cX8_piece 26 = .ok (.ireturn, 1) := by decide +kernel
theorem dX8_piece_27 : decode cX8_piece 27 = .ok (.aload_n 0, 1) := by decide +kernel
theorem dX8_piece_28 : decode cX8_piece 28 = .ok (.getfield 16, 3) := by decide +kernel
theorem dX8_piece_31 : decode cX8_piece 31 = .ok (.aload_n 0, 1) := by decide +kernel
theorem dX8_piece_32 : decode cX8_piece 32 = .ok (.getfield 140, 3) := by decide +kernel
theorem dX8_piece_35 : decode cX8_piece 35 = .ok (.iload_n 1, 1) := by decide +kernel
theorem dX8_piece_36 : decode cX8_piece 36 = .ok (.iastore, 1) := by decide +kernel
theorem dX8_piece_37 : decode cX8_piece 37 = .ok (.aload_n 0, 1) := by decide +kernel
theorem dX8_piece_38 : decode cX8_piece 38 = .ok (.getfield 19, 3) := by decide +kernel
theorem dX8_piece_41 : decode cX8_piece 41 = .ok (.aload_n 0, 1) := by decide +kernel
theorem dX8_piece_42 : decode cX8_piece 42 = .ok (.getfield 140, 3) := by decide +kernel
theorem dX8_piece_45 : decode cX8_piece 45 = .ok (.iconst 0, 1) := by decide +kernel
theorem dX8_piece_46 : decode cX8_piece 46 = .ok (.iastore, 1) := by decide +kernel
theorem dX8_piece_47 : decode cX8_piece 47 = .ok (.aload_n 0, 1) := by decide +kernel
theorem dX8_piece_48 : decode cX8_piece 48 = .ok (.dup, 1) := by decide +kernel
theorem dX8_piece_49 : decode cX8_piece 49 = .ok (.getfield 140, 3) := by decide +kernel
theorem dX8_piece_52 : decode cX8_piece 52 = .ok (.iconst 1, 1) := by decide +kernel
theorem dX8_piece_53 : decode cX8_piece 53 = .ok (.iadd, 1) := by decide +kernel
theorem dX8_piece_54 : decode cX8_piece 54 = .ok (.putfield 140, 3) := by decide +kernel
theorem dX8_piece_57 : decode cX8_piece 57 = .ok (.aload_n 0, 1) := by decide +kernel
theorem dX8_piece_58 : decode cX8_piece 58 = .ok (.getfield 140, 3) := by decide +kernel
theorem dX8_piece_61 : decode cX8_piece 61 = .ok (.iconst 1, 1) := by decide +kernel
theorem dX8_piece_62 : decode cX8_piece 62 = .ok (.isub, 1) := by decide +kernel
theorem dX8_piece_63 : decode cX8_piece 63 = .ok (.ireturn, 1) := by decide +kernel
theorem dX8_more_0 : decode cX8_more 0 = .ok (.aload_n 0, 1) := by decide +kernel
theorem dX8_more_1 : decode cX8_more 1 = .ok (.getfield 143, 3) := by decide +kernel
theorem dX8_more_4 : decode cX8_more 4 = .ok (.istore 4, 2) := by decide +kernel
theorem dX8_more_6 : decode cX8_more 6 = .ok (.aload_n 0, 1) := by decide +kernel
theorem dX8_more_7 : decode cX8_more 7 = .ok (.getfield 25, 3) := by decide +kernel
theorem dX8_more_10 : decode cX8_more 10 = .ok (.iload 4, 2) := by decide +kernel
theorem dX8_more_12 : decode cX8_more 12 = .ok (.iload_n 1, 1) := by decide +kernel
theorem dX8_more_13 : decode cX8_more 13 = .ok (.iastore, 1) := by decide +kernel
theorem dX8_more_14 : decode cX8_more 14 = .ok (.aload_n 0, 1) := by decide +kernel
theorem dX8_more_15 : decode cX8_more 15 = .ok (.getfield 28, 3) := by decide +kernel
theorem dX8_more_18 : decode cX8_more 18 = .ok (.iload 4, 2) := by decide +kernel
theorem dX8_more_20 : decode cX8_more 20 = .ok (.iload_n 2, 1) := by decide +kernel
theorem dX8_more_21 : decode cX8_more 21 = .ok (.iastore, 1) := by decide +kernel
theorem dX8_more_22 : decode cX8_more 22 = .ok (.aload_n 0, 1) := by decide +kernel
theorem dX8_more_23 : decode cX8_more 23 = .ok (.getfield 31, 3) := by decide +kernel
theorem dX8_more_26 : decode cX8_more 26 = .ok (.iload 4, 2) := by decide +kernel
theorem dX8_more_28 : decode cX8_more 28 = .ok (.iload_n 3, 1) := by decide +kernel
theorem dX8_more_29 : decode cX8_more 29 = .ok (.iastore, 1) := by decide +kernel
theorem dX8_more_30 : decode cX8_more 30 = .ok (.aload_n 0, 1) := by decide +kernel
theorem dX8_more_31 : decode cX8_more 31 = .ok (.getfield 34, 3) := by decide +kernel
theorem dX8_more_34 : decode cX8_more 34 = .ok (.iload 4, 2) := by decide +kernel
theorem dX8_more_36 : decode cX8_more 36 = .ok (.aload_n 0, 1) := by decide +kernel
theorem dX8_more_37 : decode cX8_more 37 = .ok (.getfield 19, 3) := by decide +kernel
theorem dX8_more_40 : decode cX8_more 40 = .ok (.iload_n 1, 1) := by decide +kernel
theorem dX8_more_41 : decode cX8_more 41 = .ok (.iaload, 1) := by decide +kernel
theorem dX8_more_42 : decode cX8_more 42 = .ok (.iastore, 1) := by decide +kernel
theorem dX8_more_43 : decode cX8_more 43 = .ok (.aload_n 0, 1) := by decide +kernel
theorem dX8_more_44 : decode cX8_more 44 = .ok (.getfield 22, 3) := by decide +kernel
theorem dX8_more_47 : decode cX8_more 47 = .ok (.bipush 8, 2) := by decide +kernel
theorem dX8_more_49 : decode cX8_more 49 = .ok (.iload_n 1, 1) := by decide +kernel
theorem dX8_more_50 : decode cX8_more 50 = .ok (.imul, 1) := by decide +kernel
theorem dX8_more_51 : decode cX8_more 51 = .ok (.aload_n 0, 1) := by decide +kernel
theorem dX8_more_52 : decode cX8_more 52 = .ok (.getfield 19, 3) := by decide +kernel
theorem dX8_more_55 : decode cX8_more 55 = .ok (.iload_n 1, 1) := by decide +kernel
theorem dX8_more_56 : decode cX8_more 56 = .ok (.iaload, 1) := by decide +kernel
theorem dX8_more_57 : decode cX8_more 57 = .ok (.iadd, 1) := by decide +kernel
theorem dX8_more_58 : decode cX8_more 58 = .ok (.iload 4, 2) := by decide +kernel
theorem dX8_more_60 : decode cX8_more 60 = .ok (.iastore, 1) := by decide +kernel
theorem dX8_more_61 : decode cX8_more 61 = .ok (.aload_n 0, 1) := by decide +kernel
theorem dX8_more_62 : decode cX8_more 62 = .ok (.getfield 19, 3) := by decide +kernel
theorem dX8_more_65 : decode cX8_more 65 = .ok (.iload_n 1, 1) := by decide +kernel
theorem dX8_more_66 : decode cX8_more 66 = .ok (.dup2, 1) := by decide +kernel
theorem dX8_more_67 : decode cX8_more 67 = .ok (.iaload, 1) := by decide +kernel
theorem dX8_more_68 : decode cX8_more 68 = .ok (.iconst 1, 1) := by decide +kernel
theorem dX8_more_69 : decode cX8_more 69 = .ok (.iadd, 1) := by decide +kernel
theorem dX8_more_70 : decode cX8_more 70 = .ok (.iastore, 1) := by decide +kernel
theorem dX8_more_71 : decode cX8_more 71 = .ok (.aload_n 0, 1) := by decide +kernel
theorem dX8_more_72 : decode cX8_more 72 = .ok (.getfield 37, 3) := by decide +kernel
theorem dX8_more_75 : decode cX8_more 75 = .ok (.bipush 32, 2) := by decide +kernel
theorem dX8_more_77 : decode cX8_more 77 = .ok (.iload_n 2, 1) := by decide +kernel
theorem dX8_more_78 : decode cX8_more 78 = .ok (.imul, 1) := by decide +kernel
theorem dX8_more_79 : decode cX8_more 79 = .ok (.aload_n 0, 1) := by decide +kernel
theorem dX8_more_80 : decode cX8_more 80 = .ok (.getfield 40, 3) := by decide +kernel
theorem dX8_more_83 : decode cX8_more 83 = .ok (.iload_n 2, 1) := by decide +kernel
theorem dX8_more_84 : decode cX8_more 84 = .ok (.iaload, 1) := by decide +kernel
theorem dX8_more_85 : decode cX8_more 85 = .ok (.iadd, 1) := by decide +kernel
theorem dX8_more_86 : decode cX8_more 86 = .ok (.iload 4, 2) := by decide +kernel
theorem dX8_more_88 : decode cX8_more 88 = .ok (.iastore, 1) := by decide +kernel
theorem dX8_more_89 : decode cX8_more 89 = .ok (.aload_n 0, 1) := by decide +kernel
theorem dX8_more_90 : decode cX8_more 90 = .ok (.getfield 40, 3) := by decide +kernel
theorem dX8_more_93 : decode cX8_more 93 = .ok (.iload_n 2, 1) := by decide +kernel
theorem dX8_more_94 : decode cX8_more 94 = .ok (.dup2, 1) := by decide +kernel
theorem dX8_more_95 : decode cX8_more 95 = .ok (.iaload, 1) := by decide +kernel
theorem dX8_more_96 : decode cX8_more 96 = .ok (.iconst 1, 1) := by decide +kernel
theorem dX8_more_97 : decode cX8_more 97 = .ok (.iadd, 1) := by decide +kernel
theorem dX8_more_98 : decode cX8_more 98 = .ok (.iastore, 1) := by decide +kernel
theorem dX8_more_99 : decode cX8_more 99 = .ok (.aload_n 0, 1) := by decide +kernel
theorem dX8_more_100 : decode cX8_more 100 = .ok (.dup, 1) := by decide +kernel
theorem dX8_more_101 : decode cX8_more 101 = .ok (.getfield 143, 3) := by decide +kernel
theorem dX8_more_104 : decode cX8_more 104 = .ok (.iconst 1, 1) := by decide +kernel
theorem dX8_more_105 : decode cX8_more 105 = .ok (.iadd, 1) := by decide +kernel
theorem dX8_more_106 : decode cX8_more 106 = .ok (.putfield 143, 3) := by decide +kernel
theorem dX8_more_109 : decode cX8_more 109 = .ok (.iload 4, 2) := by decide +kernel
theorem dX8_more_111 : decode cX8_more 111 = .ok (.ireturn, 1) := by decide +kernel
theorem dX8_step_0 : decode cX8_step 0 = .ok (.iload_n 1, 1) := by decide +kernel
theorem dX8_step_1 : decode cX8_step 1 = .ok (.i2l, 1) := by decide +kernel
theorem dX8_step_2 : decode cX8_step 2 = .ok (.lconst 0, 1) := by decide +kernel
theorem dX8_step_3 : decode cX8_step 3 = .ok (.aload_n 0, 1) := by decide +kernel
theorem dX8_step_4 : decode cX8_step 4 = .ok (.getfield 140, 3) := by decide +kernel
theorem dX8_step_7 : decode cX8_step 7 = .ok (.iconst 1, 1) := by decide +kernel
theorem dX8_step_8 : decode cX8_step 8 = .ok (.isub, 1) := by decide +kernel
theorem dX8_step_9 : decode cX8_step 9 = .ok (.i2l, 1) := by decide +kernel
theorem dX8_step_10 : decode cX8_step 10 = .ok (.invokestatic 124, 3) := by decide +kernel
theorem dX8_step_13 : decode cX8_step 13 = .ok (.ifCond .eq 19, 3) := by decide +kernel
theorem dX8_step_16 : decode cX8_step 16 = .ok (.iload_n 2, 1) := by decide +kernel
theorem dX8_step_17 : decode cX8_step 17 = .ok (.i2l, 1) := by decide +kernel
theorem dX8_step_18 : decode cX8_step 18 = .ok (.lconst 0, 1) := by decide +kernel
theorem dX8_step_19 : decode cX8_step 19 = .ok (.aload_n 0, 1) := by decide +kernel
theorem dX8_step_20 : decode cX8_step 20 = .ok (.getfield 133, 3) := by decide +kernel
theorem dX8_step_23 : decode cX8_step 23 = .ok (.iconst 1, 1) := by decide +kernel
theorem dX8_step_24 : decode cX8_step 24 = .ok (.isub, 1) := by decide +kernel
theorem dX8_step_25 : decode cX8_step 25 = .ok (.i2l, 1) := by decide +kernel
theorem dX8_step_26 : decode cX8_step 26 = .ok (.invokestatic 124, 3) := by decide +kernel
theorem dX8_step_29 : decode cX8_step 29 = .ok (.ifCond .ne 6, 3) := by decide +kernel
theorem dX8_step_32 : decode cX8_step 32 = .ok (.ldc 146, 2) := by decide +kernel
theorem dX8_step_34 : decode cX8_step 34 = .ok (.ireturn, 1) := by decide +kernel
theorem dX8_step_35 : decode cX8_step 35 = .ok (.iload_n 3, 1) := by decide +kernel
theorem dX8_step_36 : decode cX8_step 36 = .ok (.i2l, 1) := by decide +kernel
theorem dX8_step_37 : decode cX8_step 37 = .ok (.lconst 1, 1) := by decide +kernel
theorem dX8_step_38 : decode cX8_step 38 = .ok (.ldc2_w 147, 3) := by decide +kernel
theorem dX8_step_41 : decode cX8_step 41 = .ok (.invokestatic 124, 3) := by decide +kernel
theorem dX8_step_44 : decode cX8_step 44 = .ok (.ifCond .ne 6, 3) := by decide +kernel
theorem dX8_step_47 : decode cX8_step 47 = .ok (.ldc 132, 2) := by decide +kernel
theorem dX8_step_49 : decode cX8_step 49 = .ok (.ireturn, 1) := by decide +kernel
theorem dX8_step_50 : decode cX8_step 50 = .ok (.aload_n 0, 1) := by decide +kernel
theorem dX8_step_51 : decode cX8_step 51 = .ok (.getfield 19, 3) := by decide +kernel
theorem dX8_step_54 : decode cX8_step 54 = .ok (.iload_n 1, 1) := by decide +kernel
theorem dX8_step_55 : decode cX8_step 55 = .ok (.iaload, 1) := by decide +kernel
theorem dX8_step_56 : decode cX8_step 56 = .ok (.bipush 8, 2) := by decide +kernel
theorem dX8_step_58 : decode cX8_step 58 = .ok (.if_icmp .eq 12, 3) := by decide +kernel
theorem dX8_step_61 : decode cX8_step 61 = .ok (.aload_n 0, 1) := by decide +kernel
theorem dX8_step_62 : decode cX8_step 62 = .ok (.getfield 143, 3) := by decide +kernel
theorem dX8_step_65 : decode cX8_step 65 = .ok (.bipush 32, 2) := by decide +kernel
theorem dX8_step_67 : decode cX8_step 67 = .ok (.if_icmp .ne 8, 3) := by decide +kernel
theorem dX8_step_70 : decode cX8_step 70 = .ok (.ldc 137, 2) := by decide +kernel
theorem dX8_step_72 : decode cX8_step 72 = .ok (.goto 10, 3) := by decide +kernel
theorem dX8_step_75 : decode cX8_step 75 = .ok (.aload_n 0, 1) := by decide +kernel
theorem dX8_step_76 : decode cX8_step 76 = .ok (.iload_n 1, 1) := by decide +kernel
theorem dX8_step_77 : decode cX8_step 77 = .ok (.iload_n 2, 1) := by decide +kernel
theorem dX8_step_78 : decode cX8_step 78 = .ok (.iload_n 3, 1) := by decide +kernel
theorem dX8_step_79 : decode cX8_step 79 = .ok (.invokevirtual 149, 3) := by decide +kernel
theorem dX8_step_82 : decode cX8_step 82 = .ok (.ireturn, 1) := by decide +kernel
theorem dX8_isStep_0 : decode cX8_isStep 0 = .ok (.iload_n 1, 1) := by decide +kernel
theorem dX8_isStep_1 : decode cX8_isStep 1 = .ok (.i2l, 1) := by decide +kernel
theorem dX8_isStep_2 : decode cX8_isStep 2 = .ok (.lconst 0, 1) := by decide +kernel
theorem dX8_isStep_3 : decode cX8_isStep 3 = .ok (.aload_n 0, 1) := by decide +kernel
theorem dX8_isStep_4 : decode cX8_isStep 4 = .ok (.getfield 143, 3) := by decide +kernel
theorem dX8_isStep_7 : decode cX8_isStep 7 = .ok (.iconst 1, 1) := by decide +kernel
theorem dX8_isStep_8 : decode cX8_isStep 8 = .ok (.isub, 1) := by decide +kernel
theorem dX8_isStep_9 : decode cX8_isStep 9 = .ok (.i2l, 1) := by decide +kernel
theorem dX8_isStep_10 : decode cX8_isStep 10 = .ok (.invokestatic 124, 3) := by decide +kernel
theorem dX8_isStep_13 : decode cX8_isStep 13 = .ok (.ireturn, 1) := by decide +kernel
theorem dX8_placeOf_0 : decode cX8_placeOf 0 = .ok (.aload_n 0, 1) := by decide +kernel
theorem dX8_placeOf_1 : decode cX8_placeOf 1 = .ok (.getfield 28, 3) := by decide +kernel
theorem dX8_placeOf_4 : decode cX8_placeOf 4 = .ok (.iload_n 1, 1) := by decide +kernel
theorem dX8_placeOf_5 : decode cX8_placeOf 5 = .ok (.iaload, 1) := by decide +kernel
theorem dX8_placeOf_6 : decode cX8_placeOf 6 = .ok (.istore_n 2, 1) := by decide +kernel
theorem dX8_placeOf_7 : decode cX8_placeOf 7 = .ok (.iconst 0, 1) := by decide +kernel
theorem dX8_placeOf_8 : decode cX8_placeOf 8 = .ok (.istore_n 3, 1) := by decide +kernel
theorem dX8_placeOf_9 : decode cX8_placeOf 9 = .ok (.aload_n 0, 1) := by decide +kernel
theorem dX8_placeOf_10 : decode cX8_placeOf 10 = .ok (.getfield 37, 3) := by decide +kernel
theorem dX8_placeOf_13 : decode cX8_placeOf 13 = .ok (.bipush 32, 2) := by decide +kernel
theorem dX8_placeOf_15 : decode cX8_placeOf 15 = .ok (.iload_n 2, 1) := by decide +kernel
theorem dX8_placeOf_16 : decode cX8_placeOf 16 = .ok (.imul, 1) := by decide +kernel
theorem dX8_placeOf_17 : decode cX8_placeOf 17 = .ok (.iload_n 3, 1) := by decide +kernel
theorem dX8_placeOf_18 : decode cX8_placeOf 18 = .ok (.iadd, 1) := by decide +kernel
theorem dX8_placeOf_19 : decode cX8_placeOf 19 = .ok (.iaload, 1) := by decide +kernel
theorem dX8_placeOf_20 : decode cX8_placeOf 20 = .ok (.iload_n 1, 1) := by decide +kernel
theorem dX8_placeOf_21 : decode cX8_placeOf 21 = .ok (.if_icmp .eq 9, 3) := by decide +kernel
theorem dX8_placeOf_24 : decode cX8_placeOf 24 = .ok (.iinc 3 1, 3) := by decide +kernel
theorem dX8_placeOf_27 : decode cX8_placeOf 27 = .ok (.goto (-18), 3) := by decide +kernel
theorem dX8_placeOf_30 : decode cX8_placeOf 30 = .ok (.iload_n 3, 1) := by decide +kernel
theorem dX8_placeOf_31 : decode cX8_placeOf 31 = .ok (.ireturn, 1) := by decide +kernel
theorem dX8_told_0 : decode cX8_told 0 = .ok (.aload_n 0, 1) := by decide +kernel
theorem dX8_told_1 : decode cX8_told 1 = .ok (.iload_n 1, 1) := by decide +kernel
theorem dX8_told_2 : decode cX8_told 2 = .ok (.invokevirtual 153, 3) := by decide +kernel
theorem dX8_told_5 : decode cX8_told 5 = .ok (.ifCond .ne 6, 3) := by decide +kernel
theorem dX8_told_8 : decode cX8_told 8 = .ok (.ldc 146, 2) := by decide +kernel
theorem dX8_told_10 : decode cX8_told 10 = .ok (.ireturn, 1) := by decide +kernel
theorem dX8_told_11 : decode cX8_told 11 = .ok (.iload_n 2, 1) := by decide +kernel
theorem dX8_told_12 : decode cX8_told 12 = .ok (.tableswitch 70 0 4 #[36, 43, 50, 57, 64], 36) := by decide +kernel
theorem dX8_told_48 : decode cX8_told 48 = .ok (.aload_n 0, 1) := by decide +kernel
theorem dX8_told_49 : decode cX8_told 49 = .ok (.getfield 25, 3) := by decide +kernel
theorem dX8_told_52 : decode cX8_told 52 = .ok (.iload_n 1, 1) := by decide +kernel
theorem dX8_told_53 : decode cX8_told 53 = .ok (.iaload, 1) := by decide +kernel
theorem dX8_told_54 : decode cX8_told 54 = .ok (.ireturn, 1) := by decide +kernel
theorem dX8_told_55 : decode cX8_told 55 = .ok (.aload_n 0, 1) := by decide +kernel
theorem dX8_told_56 : decode cX8_told 56 = .ok (.getfield 28, 3) := by decide +kernel
theorem dX8_told_59 : decode cX8_told 59 = .ok (.iload_n 1, 1) := by decide +kernel
theorem dX8_told_60 : decode cX8_told 60 = .ok (.iaload, 1) := by decide +kernel
theorem dX8_told_61 : decode cX8_told 61 = .ok (.ireturn, 1) := by decide +kernel
theorem dX8_told_62 : decode cX8_told 62 = .ok (.aload_n 0, 1) := by decide +kernel
theorem dX8_told_63 : decode cX8_told 63 = .ok (.getfield 31, 3) := by decide +kernel
theorem dX8_told_66 : decode cX8_told 66 = .ok (.iload_n 1, 1) := by decide +kernel
theorem dX8_told_67 : decode cX8_told 67 = .ok (.iaload, 1) := by decide +kernel
theorem dX8_told_68 : decode cX8_told 68 = .ok (.ireturn, 1) := by decide +kernel
theorem dX8_told_69 : decode cX8_told 69 = .ok (.aload_n 0, 1) := by decide +kernel
theorem dX8_told_70 : decode cX8_told 70 = .ok (.getfield 34, 3) := by decide +kernel
theorem dX8_told_73 : decode cX8_told 73 = .ok (.iload_n 1, 1) := by decide +kernel
theorem dX8_told_74 : decode cX8_told 74 = .ok (.iaload, 1) := by decide +kernel
theorem dX8_told_75 : decode cX8_told 75 = .ok (.ireturn, 1) := by decide +kernel
theorem dX8_told_76 : decode cX8_told 76 = .ok (.aload_n 0, 1) := by decide +kernel
theorem dX8_told_77 : decode cX8_told 77 = .ok (.iload_n 1, 1) := by decide +kernel
theorem dX8_told_78 : decode cX8_told 78 = .ok (.invokevirtual 157, 3) := by decide +kernel
theorem dX8_told_81 : decode cX8_told 81 = .ok (.ireturn, 1) := by decide +kernel
theorem dX8_told_82 : decode cX8_told 82 = .ok (.ldc 132, 2) := by decide +kernel
theorem dX8_told_84 : decode cX8_told 84 = .ok (.ireturn, 1) := by decide +kernel
theorem dX8_isSimple_0 : decode cX8_isSimple 0 = .ok (.iconst 1, 1) := by decide +kernel
theorem dX8_isSimple_1 : decode cX8_isSimple 1 = .ok (.istore_n 1, 1) := by decide +kernel
theorem dX8_isSimple_2 : decode cX8_isSimple 2 = .ok (.iconst 0, 1) := by decide +kernel
theorem dX8_isSimple_3 : decode cX8_isSimple 3 = .ok (.istore_n 2, 1) := by decide +kernel
theorem dX8_isSimple_4 : decode cX8_isSimple 4 = .ok (.iload_n 2, 1) := by decide +kernel
theorem dX8_isSimple_5 : decode cX8_isSimple 5 = .ok (.aload_n 0, 1) := by decide +kernel
theorem dX8_isSimple_6 : decode cX8_isSimple 6 = .ok (.getfield 143, 3) := by decide +kernel
theorem dX8_isSimple_9 : decode cX8_isSimple 9 = .ok (.if_icmp .ge 34, 3) := by decide +kernel
theorem dX8_isSimple_12 : decode cX8_isSimple 12 = .ok (.iload_n 1, 1) := by decide +kernel
theorem dX8_isSimple_13 : decode cX8_isSimple 13 = .ok (.ifCond .eq 22, 3) := by decide +kernel
theorem dX8_isSimple_16 : decode cX8_isSimple 16 = .ok (.aload_n 0, 1) := by decide +kernel
theorem dX8_isSimple_17 : decode cX8_isSimple 17 = .ok (.getfield 7, 3) := by decide +kernel
theorem dX8_isSimple_20 : decode cX8_isSimple 20 = .ok (.aload_n 0, 1) := by decide +kernel
theorem dX8_isSimple_21 : decode cX8_isSimple 21 = .ok (.getfield 28, 3) := by decide +kernel
theorem dX8_isSimple_24 : decode cX8_isSimple 24 = .ok (.iload_n 2, 1) := by decide +kernel
theorem dX8_isSimple_25 : decode cX8_isSimple 25 = .ok (.iaload, 1) := by decide +kernel
theorem dX8_isSimple_26 : decode cX8_isSimple 26 = .ok (.iaload, 1) := by decide +kernel
theorem dX8_isSimple_27 : decode cX8_isSimple 27 = .ok (.iconst 1, 1) := by decide +kernel
theorem dX8_isSimple_28 : decode cX8_isSimple 28 = .ok (.if_icmp .gt 7, 3) := by decide +kernel
theorem dX8_isSimple_31 : decode cX8_isSimple 31 = .ok (.iconst 1, 1) := by decide +kernel
theorem dX8_isSimple_32 : decode cX8_isSimple 32 = .ok (.goto 4, 3) := by decide +kernel
theorem dX8_isSimple_35 : decode cX8_isSimple 35 = .ok (.iconst 0, 1) := by decide +kernel
theorem dX8_isSimple_36 : decode cX8_isSimple 36 = .ok (.istore_n 1, 1) := by decide +kernel
theorem dX8_isSimple_37 : decode cX8_isSimple 37 = .ok (.iinc 2 1, 3) := by decide +kernel
theorem dX8_isSimple_40 : decode cX8_isSimple 40 = .ok (.goto (-36), 3) := by decide +kernel
theorem dX8_isSimple_43 : decode cX8_isSimple 43 = .ok (.iload_n 1, 1) := by decide +kernel
theorem dX8_isSimple_44 : decode cX8_isSimple 44 = .ok (.ireturn, 1) := by decide +kernel
theorem dX8_sumOfSpans_0 : decode cX8_sumOfSpans 0 = .ok (.iconst 0, 1) := by decide +kernel
theorem dX8_sumOfSpans_1 : decode cX8_sumOfSpans 1 = .ok (.istore_n 1, 1) := by decide +kernel
end
section
theorem dX8_sumOfSpans_2 : decode cX8_sumOfSpans 2 = .ok (.iconst 0, 1) := by decide +kernel
theorem dX8_sumOfSpans_3 : decode cX8_sumOfSpans 3 = .ok (.istore_n 2, 1) := by decide +kernel
theorem dX8_sumOfSpans_4 : decode cX8_sumOfSpans 4 = .ok (.iload_n 2, 1) := by decide +kernel
theorem dX8_sumOfSpans_5 : decode cX8_sumOfSpans 5 = .ok (.aload_n 0, 1) := by decide +kernel
theorem dX8_sumOfSpans_6 : decode cX8_sumOfSpans 6 = .ok (.getfield 143, 3) := by decide +kernel
theorem dX8_sumOfSpans_9 : decode cX8_sumOfSpans 9 = .ok (.if_icmp .ge 18, 3) := by decide +kernel
theorem dX8_sumOfSpans_12 : decode cX8_sumOfSpans 12 = .ok (.iload_n 1, 1) := by decide +kernel
theorem dX8_sumOfSpans_13 : decode cX8_sumOfSpans 13 = .ok (.aload_n 0, 1) := by decide +kernel
theorem dX8_sumOfSpans_14 : decode cX8_sumOfSpans 14 = .ok (.getfield 31, 3) := by decide +kernel
theorem dX8_sumOfSpans_17 : decode cX8_sumOfSpans 17 = .ok (.iload_n 2, 1) := by decide +kernel
theorem dX8_sumOfSpans_18 : decode cX8_sumOfSpans 18 = .ok (.iaload, 1) := by decide +kernel
theorem dX8_sumOfSpans_19 : decode cX8_sumOfSpans 19 = .ok (.iadd, 1) := by decide +kernel
theorem dX8_sumOfSpans_20 : decode cX8_sumOfSpans 20 = .ok (.istore_n 1, 1) := by decide +kernel
theorem dX8_sumOfSpans_21 : decode cX8_sumOfSpans 21 = .ok (.iinc 2 1, 3) := by decide +kernel
theorem dX8_sumOfSpans_24 : decode cX8_sumOfSpans 24 = .ok (.goto (-20), 3) := by decide +kernel
theorem dX8_sumOfSpans_27 : decode cX8_sumOfSpans 27 = .ok (.iload_n 1, 1) := by decide +kernel
theorem dX8_sumOfSpans_28 : decode cX8_sumOfSpans 28 = .ok (.ireturn, 1) := by decide +kernel
theorem dX8_count_0 : decode cX8_count 0 = .ok (.iload_n 1, 1) := by decide +kernel
theorem dX8_count_1 : decode cX8_count 1 = .ok (.ifCond .ne 10, 3) := by decide +kernel
theorem dX8_count_4 : decode cX8_count 4 = .ok (.aload_n 0, 1) := by decide +kernel
theorem dX8_count_5 : decode cX8_count 5 = .ok (.getfield 133, 3) := by decide +kernel
theorem dX8_count_8 : decode cX8_count 8 = .ok (.goto 61, 3) := by decide +kernel
theorem dX8_count_11 : decode cX8_count 11 = .ok (.iload_n 1, 1) := by decide +kernel
theorem dX8_count_12 : decode cX8_count 12 = .ok (.iconst 1, 1) := by decide +kernel
theorem dX8_count_13 : decode cX8_count 13 = .ok (.if_icmp .ne 10, 3) := by decide +kernel
theorem dX8_count_16 : decode cX8_count 16 = .ok (.aload_n 0, 1) := by decide +kernel
theorem dX8_count_17 : decode cX8_count 17 = .ok (.getfield 140, 3) := by decide +kernel
theorem dX8_count_20 : decode cX8_count 20 = .ok (.goto 49, 3) := by decide +kernel
theorem dX8_count_23 : decode cX8_count 23 = .ok (.iload_n 1, 1) := by decide +kernel
theorem dX8_count_24 : decode cX8_count 24 = .ok (.iconst 2, 1) := by decide +kernel
theorem dX8_count_25 : decode cX8_count 25 = .ok (.if_icmp .ne 10, 3) := by decide +kernel
theorem dX8_count_28 : decode cX8_count 28 = .ok (.aload_n 0, 1) := by decide +kernel
theorem dX8_count_29 : decode cX8_count 29 = .ok (.getfield 143, 3) := by decide +kernel
theorem dX8_count_32 : decode cX8_count 32 = .ok (.goto 37, 3) := by decide +kernel
theorem dX8_count_35 : decode cX8_count 35 = .ok (.iload_n 1, 1) := by decide +kernel
theorem dX8_count_36 : decode cX8_count 36 = .ok (.iconst 3, 1) := by decide +kernel
theorem dX8_count_37 : decode cX8_count 37 = .ok (.if_icmp .ne 18, 3) := by decide +kernel
theorem dX8_count_40 : decode cX8_count 40 = .ok (.aload_n 0, 1) := by decide +kernel
theorem dX8_count_41 : decode cX8_count 41 = .ok (.invokevirtual 161, 3) := by decide +kernel
theorem dX8_count_44 : decode cX8_count 44 = .ok (.ifCond .eq 7, 3) := by decide +kernel
theorem dX8_count_47 : decode cX8_count 47 = .ok (.iconst 1, 1) := by decide +kernel
theorem dX8_count_48 : decode cX8_count 48 = .ok (.goto 21, 3) := by decide +kernel
theorem dX8_count_51 : decode cX8_count 51 = .ok (.iconst 0, 1) := by decide +kernel
theorem dX8_count_52 : decode cX8_count 52 = .ok (.goto 17, 3) := by decide +kernel
theorem dX8_count_55 : decode cX8_count 55 = .ok (.iload_n 1, 1) := by decide +kernel
theorem dX8_count_56 : decode cX8_count 56 = .ok (.iconst 4, 1) := by decide +kernel
theorem dX8_count_57 : decode cX8_count 57 = .ok (.if_icmp .ne 10, 3) := by decide +kernel
theorem dX8_count_60 : decode cX8_count 60 = .ok (.aload_n 0, 1) := by decide +kernel
theorem dX8_count_61 : decode cX8_count 61 = .ok (.invokevirtual 165, 3) := by decide +kernel
theorem dX8_count_64 : decode cX8_count 64 = .ok (.goto 5, 3) := by decide +kernel
theorem dX8_count_67 : decode cX8_count 67 = .ok (.ldc 132, 2) := by decide +kernel
theorem dX8_count_69 : decode cX8_count 69 = .ok (.ireturn, 1) := by decide +kernel
theorem dX8_isSheet_0 : decode cX8_isSheet 0 = .ok (.iload_n 0, 1) := by decide +kernel
theorem dX8_isSheet_1 : decode cX8_isSheet 1 = .ok (.i2l, 1) := by decide +kernel
theorem dX8_isSheet_2 : decode cX8_isSheet 2 = .ok (.lconst 0, 1) := by decide +kernel
theorem dX8_isSheet_3 : decode cX8_isSheet 3 = .ok (.ldc2_w 169, 3) := by decide +kernel
theorem dX8_isSheet_6 : decode cX8_isSheet 6 = .ok (.invokestatic 124, 3) := by decide +kernel
theorem dX8_isSheet_9 : decode cX8_isSheet 9 = .ok (.ireturn, 1) := by decide +kernel
theorem dX8_sheet_0 : decode cX8_sheet 0 = .ok (.iload_n 1, 1) := by decide +kernel
theorem dX8_sheet_1 : decode cX8_sheet 1 = .ok (.invokestatic 171, 3) := by decide +kernel
theorem dX8_sheet_4 : decode cX8_sheet 4 = .ok (.ifCond .ne 6, 3) := by decide +kernel
theorem dX8_sheet_7 : decode cX8_sheet 7 = .ok (.ldc 146, 2) := by decide +kernel
theorem dX8_sheet_9 : decode cX8_sheet 9 = .ok (.ireturn, 1) := by decide +kernel
theorem dX8_sheet_10 : decode cX8_sheet 10 = .ok (.iload_n 2, 1) := by decide +kernel
theorem dX8_sheet_11 : decode cX8_sheet 11 = .ok (.i2l, 1) := by decide +kernel
theorem dX8_sheet_12 : decode cX8_sheet 12 = .ok (.lconst 0, 1) := by decide +kernel
theorem dX8_sheet_13 : decode cX8_sheet 13 = .ok (.ldc2_w 174, 3) := by decide +kernel
theorem dX8_sheet_16 : decode cX8_sheet 16 = .ok (.invokestatic 124, 3) := by decide +kernel
theorem dX8_sheet_19 : decode cX8_sheet 19 = .ok (.ifCond .eq 9, 3) := by decide +kernel
theorem dX8_sheet_22 : decode cX8_sheet 22 = .ok (.iload_n 3, 1) := by decide +kernel
theorem dX8_sheet_23 : decode cX8_sheet 23 = .ok (.bipush 40, 2) := by decide +kernel
theorem dX8_sheet_25 : decode cX8_sheet 25 = .ok (.if_icmp .le 6, 3) := by decide +kernel
theorem dX8_sheet_28 : decode cX8_sheet 28 = .ok (.ldc 132, 2) := by decide +kernel
theorem dX8_sheet_30 : decode cX8_sheet 30 = .ok (.ireturn, 1) := by decide +kernel
theorem dX8_sheet_31 : decode cX8_sheet 31 = .ok (.aload_n 0, 1) := by decide +kernel
theorem dX8_sheet_32 : decode cX8_sheet 32 = .ok (.iload_n 3, 1) := by decide +kernel
theorem dX8_sheet_33 : decode cX8_sheet 33 = .ok (.ifCond .ge 7, 3) := by decide +kernel
theorem dX8_sheet_36 : decode cX8_sheet 36 = .ok (.iconst 4, 1) := by decide +kernel
theorem dX8_sheet_37 : decode cX8_sheet 37 = .ok (.goto 4, 3) := by decide +kernel
theorem dX8_sheet_40 : decode cX8_sheet 40 = .ok (.iconst 0, 1) := by decide +kernel
theorem dX8_sheet_41 : decode cX8_sheet 41 = .ok (.putfield 176, 3) := by decide +kernel
theorem dX8_sheet_44 : decode cX8_sheet 44 = .ok (.aload_n 0, 1) := by decide +kernel
theorem dX8_sheet_45 : decode cX8_sheet 45 = .ok (.getfield 176, 3) := by decide +kernel
theorem dX8_sheet_48 : decode cX8_sheet 48 = .ok (.ifCond .le 5, 3) := by decide +kernel
theorem dX8_sheet_51 : decode cX8_sheet 51 = .ok (.iconst 0, 1) := by decide +kernel
theorem dX8_sheet_52 : decode cX8_sheet 52 = .ok (.ireturn, 1) := by decide +kernel
theorem dX8_sheet_53 : decode cX8_sheet 53 = .ok (.aload_n 0, 1) := by decide +kernel
theorem dX8_sheet_54 : decode cX8_sheet 54 = .ok (.getfield 46, 3) := by decide +kernel
theorem dX8_sheet_57 : decode cX8_sheet 57 = .ok (.iload_n 1, 1) := by decide +kernel
theorem dX8_sheet_58 : decode cX8_sheet 58 = .ok (.iload_n 2, 1) := by decide +kernel
theorem dX8_sheet_59 : decode cX8_sheet 59 = .ok (.iastore, 1) := by decide +kernel
theorem dX8_sheet_60 : decode cX8_sheet 60 = .ok (.aload_n 0, 1) := by decide +kernel
theorem dX8_sheet_61 : decode cX8_sheet 61 = .ok (.getfield 43, 3) := by decide +kernel
theorem dX8_sheet_64 : decode cX8_sheet 64 = .ok (.iload_n 1, 1) := by decide +kernel
theorem dX8_sheet_65 : decode cX8_sheet 65 = .ok (.iload_n 3, 1) := by decide +kernel
theorem dX8_sheet_66 : decode cX8_sheet 66 = .ok (.iastore, 1) := by decide +kernel
theorem dX8_sheet_67 : decode cX8_sheet 67 = .ok (.iconst 0, 1) := by decide +kernel
theorem dX8_sheet_68 : decode cX8_sheet 68 = .ok (.istore 4, 2) := by decide +kernel
theorem dX8_sheet_70 : decode cX8_sheet 70 = .ok (.iload 4, 2) := by decide +kernel
theorem dX8_sheet_72 : decode cX8_sheet 72 = .ok (.iload_n 3, 1) := by decide +kernel
theorem dX8_sheet_73 : decode cX8_sheet 73 = .ok (.if_icmp .ge 22, 3) := by decide +kernel
theorem dX8_sheet_76 : decode cX8_sheet 76 = .ok (.aload_n 0, 1) := by decide +kernel
theorem dX8_sheet_77 : decode cX8_sheet 77 = .ok (.getfield 49, 3) := by decide +kernel
theorem dX8_sheet_80 : decode cX8_sheet 80 = .ok (.bipush 40, 2) := by decide +kernel
theorem dX8_sheet_82 : decode cX8_sheet 82 = .ok (.iload_n 1, 1) := by decide +kernel
theorem dX8_sheet_83 : decode cX8_sheet 83 = .ok (.imul, 1) := by decide +kernel
theorem dX8_sheet_84 : decode cX8_sheet 84 = .ok (.iload 4, 2) := by decide +kernel
theorem dX8_sheet_86 : decode cX8_sheet 86 = .ok (.iadd, 1) := by decide +kernel
theorem dX8_sheet_87 : decode cX8_sheet 87 = .ok (.iconst 0, 1) := by decide +kernel
theorem dX8_sheet_88 : decode cX8_sheet 88 = .ok (.iastore, 1) := by decide +kernel
theorem dX8_sheet_89 : decode cX8_sheet 89 = .ok (.iinc 4 1, 3) := by decide +kernel
theorem dX8_sheet_92 : decode cX8_sheet 92 = .ok (.goto (-22), 3) := by decide +kernel
theorem dX8_sheet_95 : decode cX8_sheet 95 = .ok (.iload_n 3, 1) := by decide +kernel
theorem dX8_sheet_96 : decode cX8_sheet 96 = .ok (.ireturn, 1) := by decide +kernel
theorem dX8_tear_0 : decode cX8_tear 0 = .ok (.iload_n 1, 1) := by decide +kernel
theorem dX8_tear_1 : decode cX8_tear 1 = .ok (.invokestatic 171, 3) := by decide +kernel
theorem dX8_tear_4 : decode cX8_tear 4 = .ok (.ifCond .ne 6, 3) := by decide +kernel
theorem dX8_tear_7 : decode cX8_tear 7 = .ok (.ldc 146, 2) := by decide +kernel
theorem dX8_tear_9 : decode cX8_tear 9 = .ok (.ireturn, 1) := by decide +kernel
theorem dX8_tear_10 : decode cX8_tear 10 = .ok (.aload_n 0, 1) := by decide +kernel
theorem dX8_tear_11 : decode cX8_tear 11 = .ok (.getfield 43, 3) := by decide +kernel
theorem dX8_tear_14 : decode cX8_tear 14 = .ok (.iload_n 1, 1) := by decide +kernel
theorem dX8_tear_15 : decode cX8_tear 15 = .ok (.iaload, 1) := by decide +kernel
theorem dX8_tear_16 : decode cX8_tear 16 = .ok (.ifCond .ge 7, 3) := by decide +kernel
theorem dX8_tear_19 : decode cX8_tear 19 = .ok (.iconst 0, 1) := by decide +kernel
theorem dX8_tear_20 : decode cX8_tear 20 = .ok (.goto 4, 3) := by decide +kernel
theorem dX8_tear_23 : decode cX8_tear 23 = .ok (.iconst 1, 1) := by decide +kernel
theorem dX8_tear_24 : decode cX8_tear 24 = .ok (.istore_n 2, 1) := by decide +kernel
theorem dX8_tear_25 : decode cX8_tear 25 = .ok (.aload_n 0, 1) := by decide +kernel
theorem dX8_tear_26 : decode cX8_tear 26 = .ok (.getfield 43, 3) := by decide +kernel
theorem dX8_tear_29 : decode cX8_tear 29 = .ok (.iload_n 1, 1) := by decide +kernel
theorem dX8_tear_30 : decode cX8_tear 30 = .ok (.iconst (-1), 1) := by decide +kernel
theorem dX8_tear_31 : decode cX8_tear 31 = .ok (.iastore, 1) := by decide +kernel
theorem dX8_tear_32 : decode cX8_tear 32 = .ok (.iload_n 2, 1) := by decide +kernel
theorem dX8_tear_33 : decode cX8_tear 33 = .ok (.ireturn, 1) := by decide +kernel
theorem dX8_put_0 : decode cX8_put 0 = .ok (.iload_n 1, 1) := by decide +kernel
theorem dX8_put_1 : decode cX8_put 1 = .ok (.invokestatic 171, 3) := by decide +kernel
theorem dX8_put_4 : decode cX8_put 4 = .ok (.ifCond .ne 6, 3) := by decide +kernel
theorem dX8_put_7 : decode cX8_put 7 = .ok (.ldc 146, 2) := by decide +kernel
theorem dX8_put_9 : decode cX8_put 9 = .ok (.ireturn, 1) := by decide +kernel
theorem dX8_put_10 : decode cX8_put 10 = .ok (.iload_n 2, 1) := by decide +kernel
theorem dX8_put_11 : decode cX8_put 11 = .ok (.i2l, 1) := by decide +kernel
theorem dX8_put_12 : decode cX8_put 12 = .ok (.lconst 0, 1) := by decide +kernel
theorem dX8_put_13 : decode cX8_put 13 = .ok (.ldc2_w 174, 3) := by decide +kernel
theorem dX8_put_16 : decode cX8_put 16 = .ok (.invokestatic 124, 3) := by decide +kernel
theorem dX8_put_19 : decode cX8_put 19 = .ok (.ifCond .ne 6, 3) := by decide +kernel
theorem dX8_put_22 : decode cX8_put 22 = .ok (.ldc 132, 2) := by decide +kernel
theorem dX8_put_24 : decode cX8_put 24 = .ok (.ireturn, 1) := by decide +kernel
theorem dX8_put_25 : decode cX8_put 25 = .ok (.aload_n 0, 1) := by decide +kernel
theorem dX8_put_26 : decode cX8_put 26 = .ok (.aload_n 0, 1) := by decide +kernel
theorem dX8_put_27 : decode cX8_put 27 = .ok (.getfield 43, 3) := by decide +kernel
theorem dX8_put_30 : decode cX8_put 30 = .ok (.iload_n 1, 1) := by decide +kernel
theorem dX8_put_31 : decode cX8_put 31 = .ok (.iaload, 1) := by decide +kernel
theorem dX8_put_32 : decode cX8_put 32 = .ok (.ifCond .ge 7, 3) := by decide +kernel
theorem dX8_put_35 : decode cX8_put 35 = .ok (.iconst 1, 1) := by decide +kernel
theorem dX8_put_36 : decode cX8_put 36 = .ok (.goto 40, 3) := by decide +kernel
theorem dX8_put_39 : decode cX8_put 39 = .ok (.aload_n 0, 1) := by decide +kernel
theorem dX8_put_40 : decode cX8_put 40 = .ok (.getfield 46, 3) := by decide +kernel
theorem dX8_put_43 : decode cX8_put 43 = .ok (.iload_n 1, 1) := by decide +kernel
theorem dX8_put_44 : decode cX8_put 44 = .ok (.iaload, 1) := by decide +kernel
theorem dX8_put_45 : decode cX8_put 45 = .ok (.iload_n 2, 1) := by decide +kernel
theorem dX8_put_46 : decode cX8_put 46 = .ok (.if_icmp .eq 7, 3) := by decide +kernel
theorem dX8_put_49 : decode cX8_put 49 = .ok (.iconst 2, 1) := by decide +kernel
theorem dX8_put_50 : decode cX8_put 50 = .ok (.goto 26, 3) := by decide +kernel
theorem dX8_put_53 : decode cX8_put 53 = .ok (.iload_n 3, 1) := by decide +kernel
theorem dX8_put_54 : decode cX8_put 54 = .ok (.i2l, 1) := by decide +kernel
theorem dX8_put_55 : decode cX8_put 55 = .ok (.lconst 0, 1) := by decide +kernel
theorem dX8_put_56 : decode cX8_put 56 = .ok (.aload_n 0, 1) := by decide +kernel
theorem dX8_put_57 : decode cX8_put 57 = .ok (.getfield 43, 3) := by decide +kernel
theorem dX8_put_60 : decode cX8_put 60 = .ok (.iload_n 1, 1) := by decide +kernel
theorem dX8_put_61 : decode cX8_put 61 = .ok (.iaload, 1) := by decide +kernel
theorem dX8_put_62 : decode cX8_put 62 = .ok (.iconst 1, 1) := by decide +kernel
theorem dX8_put_63 : decode cX8_put 63 = .ok (.isub, 1) := by decide +kernel
theorem dX8_put_64 : decode cX8_put 64 = .ok (.i2l, 1) := by decide +kernel
theorem dX8_put_65 : decode cX8_put 65 = .ok (.invokestatic 124, 3) := by decide +kernel
theorem dX8_put_68 : decode cX8_put 68 = .ok (.ifCond .ne 7, 3) := by decide +kernel
theorem dX8_put_71 : decode cX8_put 71 = .ok (.iconst 3, 1) := by decide +kernel
theorem dX8_put_72 : decode cX8_put 72 = .ok (.goto 4, 3) := by decide +kernel
theorem dX8_put_75 : decode cX8_put 75 = .ok (.iconst 0, 1) := by decide +kernel
theorem dX8_put_76 : decode cX8_put 76 = .ok (.putfield 176, 3) := by decide +kernel
theorem dX8_put_79 : decode cX8_put 79 = .ok (.aload_n 0, 1) := by decide +kernel
theorem dX8_put_80 : decode cX8_put 80 = .ok (.getfield 176, 3) := by decide +kernel
theorem dX8_put_83 : decode cX8_put 83 = .ok (.ifCond .le 5, 3) := by decide +kernel
theorem dX8_put_86 : decode cX8_put 86 = .ok (.iconst 0, 1) := by decide +kernel
theorem dX8_put_87 : decode cX8_put 87 = .ok (.ireturn, 1) := by decide +kernel
theorem dX8_put_88 : decode cX8_put 88 = .ok (.aload_n 0, 1) := by decide +kernel
theorem dX8_put_89 : decode cX8_put 89 = .ok (.getfield 49, 3) := by decide +kernel
theorem dX8_put_92 : decode cX8_put 92 = .ok (.bipush 40, 2) := by decide +kernel
theorem dX8_put_94 : decode cX8_put 94 = .ok (.iload_n 1, 1) := by decide +kernel
theorem dX8_put_95 : decode cX8_put 95 = .ok (.imul, 1) := by decide +kernel
theorem dX8_put_96 : decode cX8_put 96 = .ok (.iload_n 3, 1) := by decide +kernel
theorem dX8_put_97 : decode cX8_put 97 = .ok (.iadd, 1) := by decide +kernel
theorem dX8_put_98 : decode cX8_put 98 = .ok (.iload_n 2, 1) := by decide +kernel
theorem dX8_put_99 : decode cX8_put 99 = .ok (.ifCond .ne 9, 3) := by decide +kernel
theorem dX8_put_102 : decode cX8_put 102 = .ok (.iload 4, 2) := by decide +kernel
theorem dX8_put_104 : decode cX8_put 104 = .ok (.i2b, 1) := by decide +kernel
theorem dX8_put_105 : decode cX8_put 105 = .ok (.goto 16, 3) := by decide +kernel
theorem dX8_put_108 : decode cX8_put 108 = .ok (.iload_n 2, 1) := by decide +kernel
theorem dX8_put_109 : decode cX8_put 109 = .ok (.iconst 1, 1) := by decide +kernel
theorem dX8_put_110 : decode cX8_put 110 = .ok (.if_icmp .ne 9, 3) := by decide +kernel
theorem dX8_put_113 : decode cX8_put 113 = .ok (.iload 4, 2) := by decide +kernel
theorem dX8_put_115 : decode cX8_put 115 = .ok (.i2s, 1) := by decide +kernel
theorem dX8_put_116 : decode cX8_put 116 = .ok (.goto 5, 3) := by decide +kernel
theorem dX8_put_119 : decode cX8_put 119 = .ok (.iload 4, 2) := by decide +kernel
theorem dX8_put_121 : decode cX8_put 121 = .ok (.iastore, 1) := by decide +kernel
theorem dX8_put_122 : decode cX8_put 122 = .ok (.aload_n 0, 1) := by decide +kernel
theorem dX8_put_123 : decode cX8_put 123 = .ok (.getfield 49, 3) := by decide +kernel
theorem dX8_put_126 : decode cX8_put 126 = .ok (.bipush 40, 2) := by decide +kernel
theorem dX8_put_128 : decode cX8_put 128 = .ok (.iload_n 1, 1) := by decide +kernel
theorem dX8_put_129 : decode cX8_put 129 = .ok (.imul, 1) := by decide +kernel
theorem dX8_put_130 : decode cX8_put 130 = .ok (.iload_n 3, 1) := by decide +kernel
theorem dX8_put_131 : decode cX8_put 131 = .ok (.iadd, 1) := by decide +kernel
theorem dX8_put_132 : decode cX8_put 132 = .ok (.iaload, 1) := by decide +kernel
theorem dX8_put_133 : decode cX8_put 133 = .ok (.ireturn, 1) := by decide +kernel
theorem dX8_at_0 : decode cX8_at 0 = .ok (.iload_n 1, 1) := by decide +kernel
theorem dX8_at_1 : decode cX8_at 1 = .ok (.invokestatic 171, 3) := by decide +kernel
theorem dX8_at_4 : decode cX8_at 4 = .ok (.ifCond .ne 6, 3) := by decide +kernel
theorem dX8_at_7 : decode cX8_at 7 = .ok (.ldc 146, 2) := by decide +kernel
theorem dX8_at_9 : decode cX8_at 9 = .ok (.ireturn, 1) := by decide +kernel
theorem dX8_at_10 : decode cX8_at 10 = .ok (.aload_n 0, 1) := by decide +kernel
theorem dX8_at_11 : decode cX8_at 11 = .ok (.aload_n 0, 1) := by decide +kernel
theorem dX8_at_12 : decode cX8_at 12 = .ok (.getfield 43, 3) := by decide +kernel
theorem dX8_at_15 : decode cX8_at 15 = .ok (.iload_n 1, 1) := by decide +kernel
theorem dX8_at_16 : decode cX8_at 16 = .ok (.iaload, 1) := by decide +kernel
theorem dX8_at_17 : decode cX8_at 17 = .ok (.ifCond .ge 7, 3) := by decide +kernel
theorem dX8_at_20 : decode cX8_at 20 = .ok (.iconst 1, 1) := by decide +kernel
theorem dX8_at_21 : decode cX8_at 21 = .ok (.goto 26, 3) := by decide +kernel
theorem dX8_at_24 : decode cX8_at 24 = .ok (.iload_n 2, 1) := by decide +kernel
theorem dX8_at_25 : decode cX8_at 25 = .ok (.i2l, 1) := by decide +kernel
theorem dX8_at_26 : decode cX8_at 26 = .ok (.lconst 0, 1) := by decide +kernel
theorem dX8_at_27 : decode cX8_at 27 = .ok (.aload_n 0, 1) := by decide +kernel
theorem dX8_at_28 : decode cX8_at 28 = .ok (.getfield 43, 3) := by decide +kernel
theorem dX8_at_31 : decode cX8_at 31 = .ok (.iload_n 1, 1) := by decide +kernel
theorem dX8_at_32 : decode cX8_at 32 = .ok (.iaload, 1) := by decide +kernel
theorem dX8_at_33 : decode cX8_at 33 = .ok (.iconst 1, 1) := by decide +kernel
theorem dX8_at_34 : decode cX8_at 34 = .ok (.isub, 1) := by decide +kernel
theorem dX8_at_35 : decode cX8_at 35 = .ok (.i2l, 1) := by decide +kernel
theorem dX8_at_36 : decode cX8_at 36 = .ok (.invokestatic 124, 3) := by decide +kernel
theorem dX8_at_39 : decode cX8_at 39 = .ok (.ifCond .ne 7, 3) := by decide +kernel
theorem dX8_at_42 : decode cX8_at 42 = .ok (.iconst 3, 1) := by decide +kernel
theorem dX8_at_43 : decode cX8_at 43 = .ok (.goto 4, 3) := by decide +kernel
theorem dX8_at_46 : decode cX8_at 46 = .ok (.iconst 0, 1) := by decide +kernel
theorem dX8_at_47 : decode cX8_at 47 = .ok (.putfield 176, 3) := by decide +kernel
theorem dX8_at_50 : decode cX8_at 50 = .ok (.aload_n 0, 1) := by decide +kernel
theorem dX8_at_51 : decode cX8_at 51 = .ok (.getfield 176, 3) := by decide +kernel
theorem dX8_at_54 : decode cX8_at 54 = .ok (.ifCond .le 7, 3) := by decide +kernel
theorem dX8_at_57 : decode cX8_at 57 = .ok (.iconst 0, 1) := by decide +kernel
theorem dX8_at_58 : decode cX8_at 58 = .ok (.goto 14, 3) := by decide +kernel
theorem dX8_at_61 : decode cX8_at 61 = .ok (.aload_n 0, 1) := by decide +kernel
theorem dX8_at_62 : decode cX8_at 62 = .ok (.getfield 49, 3) := by decide +kernel
theorem dX8_at_65 : decode cX8_at 65 = .ok (.bipush 40, 2) := by decide +kernel
theorem dX8_at_67 : decode cX8_at 67 = .ok (.iload_n 1, 1) := by decide +kernel
theorem dX8_at_68 : decode cX8_at 68 = .ok (.imul, 1) := by decide +kernel
theorem dX8_at_69 : decode cX8_at 69 = .ok (.iload_n 2, 1) := by decide +kernel
theorem dX8_at_70 : decode cX8_at 70 = .ok (.iadd, 1) := by decide +kernel
theorem dX8_at_71 : decode cX8_at 71 = .ok (.iaload, 1) := by decide +kernel
theorem dX8_at_72 : decode cX8_at 72 = .ok (.ireturn, 1) := by decide +kernel
theorem dX8_copy_0 : decode cX8_copy 0 = .ok (.iload_n 1, 1) := by decide +kernel
theorem dX8_copy_1 : decode cX8_copy 1 = .ok (.invokestatic 171, 3) := by decide +kernel
theorem dX8_copy_4 : decode cX8_copy 4 = .ok (.ifCond .eq 10, 3) := by decide +kernel
theorem dX8_copy_7 : decode cX8_copy 7 = .ok (.iload_n 3, 1) := by decide +kernel
theorem dX8_copy_8 : decode cX8_copy 8 = .ok (.invokestatic 171, 3) := by decide +kernel
theorem dX8_copy_11 : decode cX8_copy 11 = .ok (.ifCond .ne 6, 3) := by decide +kernel
theorem dX8_copy_14 : decode cX8_copy 14 = .ok (.ldc 146, 2) := by decide +kernel
theorem dX8_copy_16 : decode cX8_copy 16 = .ok (.ireturn, 1) := by decide +kernel
theorem dX8_copy_17 : decode cX8_copy 17 = .ok (.iload_n 2, 1) := by decide +kernel
theorem dX8_copy_18 : decode cX8_copy 18 = .ok (.ifCond .lt 52, 3) := by decide +kernel
theorem dX8_copy_21 : decode cX8_copy 21 = .ok (.iload 4, 2) := by decide +kernel
theorem dX8_copy_23 : decode cX8_copy 23 = .ok (.ifCond .lt 47, 3) := by decide +kernel
theorem dX8_copy_26 : decode cX8_copy 26 = .ok (.iload 5, 2) := by decide +kernel
theorem dX8_copy_28 : decode cX8_copy 28 = .ok (.ifCond .lt 42, 3) := by decide +kernel
theorem dX8_copy_31 : decode cX8_copy 31 = .ok (.iload_n 2, 1) := by decide +kernel
theorem dX8_copy_32 : decode cX8_copy 32 = .ok (.i2l, 1) := by decide +kernel
theorem dX8_copy_33 : decode cX8_copy 33 = .ok (.iload 5, 2) := by decide +kernel
theorem dX8_copy_35 : decode cX8_copy 35 = .ok (.i2l, 1) := by decide +kernel
theorem dX8_copy_36 : decode cX8_copy 36 = .ok (.ladd, 1) := by decide +kernel
theorem dX8_copy_37 : decode cX8_copy 37 = .ok (.aload_n 0, 1) := by decide +kernel
theorem dX8_copy_38 : decode cX8_copy 38 = .ok (.getfield 43, 3) := by decide +kernel
theorem dX8_copy_41 : decode cX8_copy 41 = .ok (.iload_n 1, 1) := by decide +kernel
theorem dX8_copy_42 : decode cX8_copy 42 = .ok (.iaload, 1) := by decide +kernel
theorem dX8_copy_43 : decode cX8_copy 43 = .ok (.i2l, 1) := by decide +kernel
theorem dX8_copy_44 : decode cX8_copy 44 = .ok (.lcmp, 1) := by decide +kernel
theorem dX8_copy_45 : decode cX8_copy 45 = .ok (.ifCond .gt 25, 3) := by decide +kernel
theorem dX8_copy_48 : decode cX8_copy 48 = .ok (.iload 4, 2) := by decide +kernel
theorem dX8_copy_50 : decode cX8_copy 50 = .ok (.i2l, 1) := by decide +kernel
theorem dX8_copy_51 : decode cX8_copy 51 = .ok (.iload 5, 2) := by decide +kernel
theorem dX8_copy_53 : decode cX8_copy 53 = .ok (.i2l, 1) := by decide +kernel
theorem dX8_copy_54 : decode cX8_copy 54 = .ok (.ladd, 1) := by decide +kernel
theorem dX8_copy_55 : decode cX8_copy 55 = .ok (.aload_n 0, 1) := by decide +kernel
theorem dX8_copy_56 : decode cX8_copy 56 = .ok (.getfield 43, 3) := by decide +kernel
theorem dX8_copy_59 : decode cX8_copy 59 = .ok (.iload_n 3, 1) := by decide +kernel
theorem dX8_copy_60 : decode cX8_copy 60 = .ok (.iaload, 1) := by decide +kernel
theorem dX8_copy_61 : decode cX8_copy 61 = .ok (.i2l, 1) := by decide +kernel
theorem dX8_copy_62 : decode cX8_copy 62 = .ok (.lcmp, 1) := by decide +kernel
theorem dX8_copy_63 : decode cX8_copy 63 = .ok (.ifCond .gt 7, 3) := by decide +kernel
theorem dX8_copy_66 : decode cX8_copy 66 = .ok (.iconst 1, 1) := by decide +kernel
theorem dX8_copy_67 : decode cX8_copy 67 = .ok (.goto 4, 3) := by decide +kernel
theorem dX8_copy_70 : decode cX8_copy 70 = .ok (.iconst 0, 1) := by decide +kernel
theorem dX8_copy_71 : decode cX8_copy 71 = .ok (.istore 6, 2) := by decide +kernel
theorem dX8_copy_73 : decode cX8_copy 73 = .ok (.aload_n 0, 1) := by decide +kernel
theorem dX8_copy_74 : decode cX8_copy 74 = .ok (.aload_n 0, 1) := by decide +kernel
theorem dX8_copy_75 : decode cX8_copy 75 = .ok (.getfield 43, 3) := by decide +kernel
theorem dX8_copy_78 : decode cX8_copy 78 = .ok (.iload_n 1, 1) := by decide +kernel
theorem dX8_copy_79 : decode cX8_copy 79 = .ok (.iaload, 1) := by decide +kernel
theorem dX8_copy_80 : decode cX8_copy 80 = .ok (.ifCond .lt 12, 3) := by decide +kernel
theorem dX8_copy_83 : decode cX8_copy 83 = .ok (.aload_n 0, 1) := by decide +kernel
theorem dX8_copy_84 : decode cX8_copy 84 = .ok (.getfield 43, 3) := by decide +kernel
theorem dX8_copy_87 : decode cX8_copy 87 = .ok (.iload_n 3, 1) := by decide +kernel
theorem dX8_copy_88 : decode cX8_copy 88 = .ok (.iaload, 1) := by decide +kernel
theorem dX8_copy_89 : decode cX8_copy 89 = .ok (.ifCond .ge 7, 3) := by decide +kernel
theorem dX8_copy_92 : decode cX8_copy 92 = .ok (.iconst 1, 1) := by decide +kernel
theorem dX8_copy_93 : decode cX8_copy 93 = .ok (.goto 32, 3) := by decide +kernel
theorem dX8_copy_96 : decode cX8_copy 96 = .ok (.aload_n 0, 1) := by decide +kernel
theorem dX8_copy_97 : decode cX8_copy 97 = .ok (.getfield 46, 3) := by decide +kernel
theorem dX8_copy_100 : decode cX8_copy 100 = .ok (.iload_n 1, 1) := by decide +kernel
theorem dX8_copy_101 : decode cX8_copy 101 = .ok (.iaload, 1) := by decide +kernel
theorem dX8_copy_102 : decode cX8_copy 102 = .ok (.aload_n 0, 1) := by decide +kernel
theorem dX8_copy_103 : decode cX8_copy 103 = .ok (.getfield 46, 3) := by decide +kernel
theorem dX8_copy_106 : decode cX8_copy 106 = .ok (.iload_n 3, 1) := by decide +kernel
theorem dX8_copy_107 : decode cX8_copy 107 = .ok (.iaload, 1) := by decide +kernel
theorem dX8_copy_108 : decode cX8_copy 108 = .ok (.if_icmp .eq 7, 3) := by decide +kernel
theorem dX8_copy_111 : decode cX8_copy 111 = .ok (.iconst 2, 1) := by decide +kernel
theorem dX8_copy_112 : decode cX8_copy 112 = .ok (.goto 13, 3) := by decide +kernel
theorem dX8_copy_115 : decode cX8_copy 115 = .ok (.iload 6, 2) := by decide +kernel
theorem dX8_copy_117 : decode cX8_copy 117 = .ok (.ifCond .ne 7, 3) := by decide +kernel
theorem dX8_copy_120 : decode cX8_copy 120 = .ok (.iconst 3, 1) := by decide +kernel
theorem dX8_copy_121 : decode cX8_copy 121 = .ok (.goto 4, 3) := by decide +kernel
theorem dX8_copy_124 : decode cX8_copy 124 = .ok (.iconst 0, 1) := by decide +kernel
theorem dX8_copy_125 : decode cX8_copy 125 = .ok (.putfield 176, 3) := by decide +kernel
theorem dX8_copy_128 : decode cX8_copy 128 = .ok (.aload_n 0, 1) := by decide +kernel
theorem dX8_copy_129 : decode cX8_copy 129 = .ok (.getfield 176, 3) := by decide +kernel
theorem dX8_copy_132 : decode cX8_copy 132 = .ok (.ifCond .le 5, 3) := by decide +kernel
theorem dX8_copy_135 : decode cX8_copy 135 = .ok (.iconst 0, 1) := by decide +kernel
theorem dX8_copy_136 : decode cX8_copy 136 = .ok (.ireturn, 1) := by decide +kernel
theorem dX8_copy_137 : decode cX8_copy 137 = .ok (.iconst 0, 1) := by decide +kernel
theorem dX8_copy_138 : decode cX8_copy 138 = .ok (.istore 7, 2) := by decide +kernel
theorem dX8_copy_140 : decode cX8_copy 140 = .ok (.iload 7, 2) := by decide +kernel
theorem dX8_copy_142 : decode cX8_copy 142 = .ok (.iload 5, 2) := by decide +kernel
theorem dX8_copy_144 : decode cX8_copy 144 = .ok (.if_icmp .ge 30, 3) := by decide +kernel
theorem dX8_copy_147 : decode cX8_copy 147 = .ok (.aload_n 0, 1) := by decide +kernel
theorem dX8_copy_148 : decode cX8_copy 148 = .ok (.getfield 52, 3) := by decide +kernel
theorem dX8_copy_151 : decode cX8_copy 151 = .ok (.iload 7, 2) := by decide +kernel
theorem dX8_copy_153 : decode cX8_copy 153 = .ok (.aload_n 0, 1) := by decide +kernel
theorem dX8_copy_154 : decode cX8_copy 154 = .ok (.getfield 49, 3) := by decide +kernel
theorem dX8_copy_157 : decode cX8_copy 157 = .ok (.bipush 40, 2) := by decide +kernel
theorem dX8_copy_159 : decode cX8_copy 159 = .ok (.iload_n 1, 1) := by decide +kernel
theorem dX8_copy_160 : decode cX8_copy 160 = .ok (.imul, 1) := by decide +kernel
theorem dX8_copy_161 : decode cX8_copy 161 = .ok (.iload_n 2, 1) := by decide +kernel
theorem dX8_copy_162 : decode cX8_copy 162 = .ok (.iadd, 1) := by decide +kernel
theorem dX8_copy_163 : decode cX8_copy 163 = .ok (.iload 7, 2) := by decide +kernel
theorem dX8_copy_165 : decode cX8_copy 165 = .ok (.iadd, 1) := by decide +kernel
theorem dX8_copy_166 : decode cX8_copy 166 = .ok (.iaload, 1) := by decide +kernel
theorem dX8_copy_167 : decode cX8_copy 167 = .ok (.iastore, 1) := by decide +kernel
theorem dX8_copy_168 : decode cX8_copy 168 = .ok (.iinc 7 1, 3) := by decide +kernel
theorem dX8_copy_171 : decode cX8_copy 171 = .ok (.goto (-31), 3) := by decide +kernel
theorem dX8_copy_174 : decode cX8_copy 174 = .ok (.iconst 0, 1) := by decide +kernel
theorem dX8_copy_175 : decode cX8_copy 175 = .ok (.istore 7, 2) := by decide +kernel
theorem dX8_copy_177 : decode cX8_copy 177 = .ok (.iload 7, 2) := by decide +kernel
theorem dX8_copy_179 : decode cX8_copy 179 = .ok (.iload 5, 2) := by decide +kernel
theorem dX8_copy_181 : decode cX8_copy 181 = .ok (.if_icmp .ge 31, 3) := by decide +kernel
theorem dX8_copy_184 : decode cX8_copy 184 = .ok (.aload_n 0, 1) := by decide +kernel
theorem dX8_copy_185 : decode cX8_copy 185 = .ok (.getfield 49, 3) := by decide +kernel
theorem dX8_copy_188 : decode cX8_copy 188 = .ok (.bipush 40, 2) := by decide +kernel
theorem dX8_copy_190 : decode cX8_copy 190 = .ok (.iload_n 3, 1) := by decide +kernel
theorem dX8_copy_191 : decode cX8_copy 191 = .ok (.imul, 1) := by decide +kernel
theorem dX8_copy_192 : decode cX8_copy 192 = .ok (.iload 4, 2) := by decide +kernel
theorem dX8_copy_194 : decode cX8_copy 194 = .ok (.iadd, 1) := by decide +kernel
theorem dX8_copy_195 : decode cX8_copy 195 = .ok (.iload 7, 2) := by decide +kernel
theorem dX8_copy_197 : decode cX8_copy 197 = .ok (.iadd, 1) := by decide +kernel
theorem dX8_copy_198 : decode cX8_copy 198 = .ok (.aload_n 0, 1) := by decide +kernel
theorem dX8_copy_199 : decode cX8_copy 199 = .ok (.getfield 52, 3) := by decide +kernel
theorem dX8_copy_202 : decode cX8_copy 202 = .ok (.iload 7, 2) := by decide +kernel
theorem dX8_copy_204 : decode cX8_copy 204 = .ok (.iaload, 1) := by decide +kernel
theorem dX8_copy_205 : decode cX8_copy 205 = .ok (.iastore, 1) := by decide +kernel
theorem dX8_copy_206 : decode cX8_copy 206 = .ok (.iinc 7 1, 3) := by decide +kernel
theorem dX8_copy_209 : decode cX8_copy 209 = .ok (.goto (-32), 3) := by decide +kernel
theorem dX8_copy_212 : decode cX8_copy 212 = .ok (.iconst 1, 1) := by decide +kernel
theorem dX8_copy_213 : decode cX8_copy 213 = .ok (.ireturn, 1) := by decide +kernel
theorem dX8_read_0 : decode cX8_read 0 = .ok (.iload_n 1, 1) := by decide +kernel
theorem dX8_read_1 : decode cX8_read 1 = .ok (.invokestatic 171, 3) := by decide +kernel
theorem dX8_read_4 : decode cX8_read 4 = .ok (.ifCond .ne 6, 3) := by decide +kernel
theorem dX8_read_7 : decode cX8_read 7 = .ok (.ldc 146, 2) := by decide +kernel
theorem dX8_read_9 : decode cX8_read 9 = .ok (.ireturn, 1) := by decide +kernel
theorem dX8_read_10 : decode cX8_read 10 = .ok (.iload_n 2, 1) := by decide +kernel
theorem dX8_read_11 : decode cX8_read 11 = .ok (.i2l, 1) := by decide +kernel
theorem dX8_read_12 : decode cX8_read 12 = .ok (.lconst 0, 1) := by decide +kernel
theorem dX8_read_13 : decode cX8_read 13 = .ok (.ldc2_w 138, 3) := by decide +kernel
theorem dX8_read_16 : decode cX8_read 16 = .ok (.invokestatic 124, 3) := by decide +kernel
theorem dX8_read_19 : decode cX8_read 19 = .ok (.ifCond .ne 6, 3) := by decide +kernel
theorem dX8_read_22 : decode cX8_read 22 = .ok (.ldc 132, 2) := by decide +kernel
theorem dX8_read_24 : decode cX8_read 24 = .ok (.ireturn, 1) := by decide +kernel
theorem dX8_read_25 : decode cX8_read 25 = .ok (.aload_n 0, 1) := by decide +kernel
theorem dX8_read_26 : decode cX8_read 26 = .ok (.getfield 43, 3) := by decide +kernel
theorem dX8_read_29 : decode cX8_read 29 = .ok (.iload_n 1, 1) := by decide +kernel
theorem dX8_read_30 : decode cX8_read 30 = .ok (.iaload, 1) := by decide +kernel
theorem dX8_read_31 : decode cX8_read 31 = .ok (.ifCond .ge 7, 3) := by decide +kernel
theorem dX8_read_34 : decode cX8_read 34 = .ok (.iconst 1, 1) := by decide +kernel
theorem dX8_read_35 : decode cX8_read 35 = .ok (.goto 19, 3) := by decide +kernel
theorem dX8_read_38 : decode cX8_read 38 = .ok (.aload_n 0, 1) := by decide +kernel
theorem dX8_read_39 : decode cX8_read 39 = .ok (.getfield 43, 3) := by decide +kernel
theorem dX8_read_42 : decode cX8_read 42 = .ok (.iload_n 1, 1) := by decide +kernel
theorem dX8_read_43 : decode cX8_read 43 = .ok (.iaload, 1) := by decide +kernel
theorem dX8_read_44 : decode cX8_read 44 = .ok (.iconst 2, 1) := by decide +kernel
theorem dX8_read_45 : decode cX8_read 45 = .ok (.irem, 1) := by decide +kernel
theorem dX8_read_46 : decode cX8_read 46 = .ok (.ifCond .eq 7, 3) := by decide +kernel
theorem dX8_read_49 : decode cX8_read 49 = .ok (.iconst 3, 1) := by decide +kernel
theorem dX8_read_50 : decode cX8_read 50 = .ok (.goto 4, 3) := by decide +kernel
theorem dX8_read_53 : decode cX8_read 53 = .ok (.iconst 0, 1) := by decide +kernel
theorem dX8_read_54 : decode cX8_read 54 = .ok (.istore_n 3, 1) := by decide +kernel
theorem dX8_read_55 : decode cX8_read 55 = .ok (.iload_n 3, 1) := by decide +kernel
theorem dX8_read_56 : decode cX8_read 56 = .ok (.ifCond .le 10, 3) := by decide +kernel
theorem dX8_read_59 : decode cX8_read 59 = .ok (.aload_n 0, 1) := by decide +kernel
theorem dX8_read_60 : decode cX8_read 60 = .ok (.iload_n 3, 1) := by decide +kernel
theorem dX8_read_61 : decode cX8_read 61 = .ok (.putfield 176, 3) := by decide +kernel
theorem dX8_read_64 : decode cX8_read 64 = .ok (.iconst 0, 1) := by decide +kernel
theorem dX8_read_65 : decode cX8_read 65 = .ok (.ireturn, 1) := by decide +kernel
theorem dX8_read_66 : decode cX8_read 66 = .ok (.aload_n 0, 1) := by decide +kernel
theorem dX8_read_67 : decode cX8_read 67 = .ok (.getfield 43, 3) := by decide +kernel
theorem dX8_read_70 : decode cX8_read 70 = .ok (.iload_n 1, 1) := by decide +kernel
theorem dX8_read_71 : decode cX8_read 71 = .ok (.iaload, 1) := by decide +kernel
theorem dX8_read_72 : decode cX8_read 72 = .ok (.iconst 2, 1) := by decide +kernel
theorem dX8_read_73 : decode cX8_read 73 = .ok (.idiv, 1) := by decide +kernel
theorem dX8_read_74 : decode cX8_read 74 = .ok (.istore 4, 2) := by decide +kernel
theorem dX8_read_76 : decode cX8_read 76 = .ok (.iconst 1, 1) := by decide +kernel
theorem dX8_read_77 : decode cX8_read 77 = .ok (.istore 5, 2) := by decide +kernel
theorem dX8_read_79 : decode cX8_read 79 = .ok (.iconst 0, 1) := by decide +kernel
theorem dX8_read_80 : decode cX8_read 80 = .ok (.istore 6, 2) := by decide +kernel
theorem dX8_read_82 : decode cX8_read 82 = .ok (.iload 6, 2) := by decide +kernel
theorem dX8_read_84 : decode cX8_read 84 = .ok (.iload 4, 2) := by decide +kernel
theorem dX8_read_86 : decode cX8_read 86 = .ok (.if_icmp .ge 77, 3) := by decide +kernel
theorem dX8_read_89 : decode cX8_read 89 = .ok (.iload 5, 2) := by decide +kernel
theorem dX8_read_91 : decode cX8_read 91 = .ok (.ifCond .eq 63, 3) := by decide +kernel
theorem dX8_read_94 : decode cX8_read 94 = .ok (.aload_n 0, 1) := by decide +kernel
theorem dX8_read_95 : decode cX8_read 95 = .ok (.getfield 49, 3) := by decide +kernel
theorem dX8_read_98 : decode cX8_read 98 = .ok (.bipush 40, 2) := by decide +kernel
theorem dX8_read_100 : decode cX8_read 100 = .ok (.iload_n 1, 1) := by decide +kernel
theorem dX8_read_101 : decode cX8_read 101 = .ok (.imul, 1) := by decide +kernel
theorem dX8_read_102 : decode cX8_read 102 = .ok (.iconst 2, 1) := by decide +kernel
theorem dX8_read_103 : decode cX8_read 103 = .ok (.iload 6, 2) := by decide +kernel
theorem dX8_read_105 : decode cX8_read 105 = .ok (.imul, 1) := by decide +kernel
theorem dX8_read_106 : decode cX8_read 106 = .ok (.iadd, 1) := by decide +kernel
theorem dX8_read_107 : decode cX8_read 107 = .ok (.iaload, 1) := by decide +kernel
theorem dX8_read_108 : decode cX8_read 108 = .ok (.i2l, 1) := by decide +kernel
theorem dX8_read_109 : decode cX8_read 109 = .ok (.lconst 0, 1) := by decide +kernel
theorem dX8_read_110 : decode cX8_read 110 = .ok (.aload_n 0, 1) := by decide +kernel
theorem dX8_read_111 : decode cX8_read 111 = .ok (.getfield 133, 3) := by decide +kernel
theorem dX8_read_114 : decode cX8_read 114 = .ok (.iconst 1, 1) := by decide +kernel
theorem dX8_read_115 : decode cX8_read 115 = .ok (.isub, 1) := by decide +kernel
theorem dX8_read_116 : decode cX8_read 116 = .ok (.i2l, 1) := by decide +kernel
theorem dX8_read_117 : decode cX8_read 117 = .ok (.invokestatic 124, 3) := by decide +kernel
theorem dX8_read_120 : decode cX8_read 120 = .ok (.ifCond .eq 34, 3) := by decide +kernel
theorem dX8_read_123 : decode cX8_read 123 = .ok (.aload_n 0, 1) := by decide +kernel
theorem dX8_read_124 : decode cX8_read 124 = .ok (.getfield 49, 3) := by decide +kernel
theorem dX8_read_127 : decode cX8_read 127 = .ok (.bipush 40, 2) := by decide +kernel
theorem dX8_read_129 : decode cX8_read 129 = .ok (.iload_n 1, 1) := by decide +kernel
theorem dX8_read_130 : decode cX8_read 130 = .ok (.imul, 1) := by decide +kernel
theorem dX8_read_131 : decode cX8_read 131 = .ok (.iconst 2, 1) := by decide +kernel
theorem dX8_read_132 : decode cX8_read 132 = .ok (.iload 6, 2) := by decide +kernel
theorem dX8_read_134 : decode cX8_read 134 = .ok (.imul, 1) := by decide +kernel
theorem dX8_read_135 : decode cX8_read 135 = .ok (.iadd, 1) := by decide +kernel
theorem dX8_read_136 : decode cX8_read 136 = .ok (.iconst 1, 1) := by decide +kernel
theorem dX8_read_137 : decode cX8_read 137 = .ok (.iadd, 1) := by decide +kernel
theorem dX8_read_138 : decode cX8_read 138 = .ok (.iaload, 1) := by decide +kernel
theorem dX8_read_139 : decode cX8_read 139 = .ok (.i2l, 1) := by decide +kernel
theorem dX8_read_140 : decode cX8_read 140 = .ok (.lconst 1, 1) := by decide +kernel
theorem dX8_read_141 : decode cX8_read 141 = .ok (.ldc2_w 147, 3) := by decide +kernel
theorem dX8_read_144 : decode cX8_read 144 = .ok (.invokestatic 124, 3) := by decide +kernel
theorem dX8_read_147 : decode cX8_read 147 = .ok (.ifCond .eq 7, 3) := by decide +kernel
theorem dX8_read_150 : decode cX8_read 150 = .ok (.iconst 1, 1) := by decide +kernel
theorem dX8_read_151 : decode cX8_read 151 = .ok (.goto 4, 3) := by decide +kernel
theorem dX8_read_154 : decode cX8_read 154 = .ok (.iconst 0, 1) := by decide +kernel
theorem dX8_read_155 : decode cX8_read 155 = .ok (.istore 5, 2) := by decide +kernel
theorem dX8_read_157 : decode cX8_read 157 = .ok (.iinc 6 1, 3) := by decide +kernel
theorem dX8_read_160 : decode cX8_read 160 = .ok (.goto (-78), 3) := by decide +kernel
theorem dX8_read_163 : decode cX8_read 163 = .ok (.iload 5, 2) := by decide +kernel
theorem dX8_read_165 : decode cX8_read 165 = .ok (.ifCond .ne 6, 3) := by decide +kernel
theorem dX8_read_168 : decode cX8_read 168 = .ok (.ldc 179, 2) := by decide +kernel
theorem dX8_read_170 : decode cX8_read 170 = .ok (.ireturn, 1) := by decide +kernel
theorem dX8_read_171 : decode cX8_read 171 = .ok (.aload_n 0, 1) := by decide +kernel
theorem dX8_read_172 : decode cX8_read 172 = .ok (.getfield 140, 3) := by decide +kernel
theorem dX8_read_175 : decode cX8_read 175 = .ok (.bipush 12, 2) := by decide +kernel
theorem dX8_read_177 : decode cX8_read 177 = .ok (.if_icmp .eq 22, 3) := by decide +kernel
theorem dX8_read_180 : decode cX8_read 180 = .ok (.iload 4, 2) := by decide +kernel
theorem dX8_read_182 : decode cX8_read 182 = .ok (.bipush 8, 2) := by decide +kernel
theorem dX8_read_184 : decode cX8_read 184 = .ok (.if_icmp .gt 15, 3) := by decide +kernel
theorem dX8_read_187 : decode cX8_read 187 = .ok (.aload_n 0, 1) := by decide +kernel
theorem dX8_read_188 : decode cX8_read 188 = .ok (.getfield 143, 3) := by decide +kernel
theorem dX8_read_191 : decode cX8_read 191 = .ok (.iload 4, 2) := by decide +kernel
theorem dX8_read_193 : decode cX8_read 193 = .ok (.iadd, 1) := by decide +kernel
theorem dX8_read_194 : decode cX8_read 194 = .ok (.bipush 32, 2) := by decide +kernel
theorem dX8_read_196 : decode cX8_read 196 = .ok (.if_icmp .le 6, 3) := by decide +kernel
theorem dX8_read_199 : decode cX8_read 199 = .ok (.ldc 137, 2) := by decide +kernel
theorem dX8_read_201 : decode cX8_read 201 = .ok (.ireturn, 1) := by decide +kernel
theorem dX8_read_202 : decode cX8_read 202 = .ok (.aload_n 0, 1) := by decide +kernel
theorem dX8_read_203 : decode cX8_read 203 = .ok (.iconst 0, 1) := by decide +kernel
theorem dX8_read_204 : decode cX8_read 204 = .ok (.putfield 176, 3) := by decide +kernel
theorem dX8_read_207 : decode cX8_read 207 = .ok (.aload_n 0, 1) := by decide +kernel
theorem dX8_read_208 : decode cX8_read 208 = .ok (.getfield 16, 3) := by decide +kernel
theorem dX8_read_211 : decode cX8_read 211 = .ok (.aload_n 0, 1) := by decide +kernel
theorem dX8_read_212 : decode cX8_read 212 = .ok (.getfield 140, 3) := by decide +kernel
theorem dX8_read_215 : decode cX8_read 215 = .ok (.iload_n 2, 1) := by decide +kernel
theorem dX8_read_216 : decode cX8_read 216 = .ok (.iastore, 1) := by decide +kernel
theorem dX8_read_217 : decode cX8_read 217 = .ok (.aload_n 0, 1) := by decide +kernel
theorem dX8_read_218 : decode cX8_read 218 = .ok (.getfield 19, 3) := by decide +kernel
theorem dX8_read_221 : decode cX8_read 221 = .ok (.aload_n 0, 1) := by decide +kernel
theorem dX8_read_222 : decode cX8_read 222 = .ok (.getfield 140, 3) := by decide +kernel
theorem dX8_read_225 : decode cX8_read 225 = .ok (.iconst 0, 1) := by decide +kernel
theorem dX8_read_226 : decode cX8_read 226 = .ok (.iastore, 1) := by decide +kernel
theorem dX8_read_227 : decode cX8_read 227 = .ok (.aload_n 0, 1) := by decide +kernel
theorem dX8_read_228 : decode cX8_read 228 = .ok (.dup, 1) := by decide +kernel
theorem dX8_read_229 : decode cX8_read 229 = .ok (.getfield 140, 3) := by decide +kernel
theorem dX8_read_232 : decode cX8_read 232 = .ok (.iconst 1, 1) := by decide +kernel
theorem dX8_read_233 : decode cX8_read 233 = .ok (.iadd, 1) := by decide +kernel
theorem dX8_read_234 : decode cX8_read 234 = .ok (.putfield 140, 3) := by decide +kernel
theorem dX8_read_237 : decode cX8_read 237 = .ok (.iconst 0, 1) := by decide +kernel
theorem dX8_read_238 : decode cX8_read 238 = .ok (.istore 6, 2) := by decide +kernel
theorem dX8_read_240 : decode cX8_read 240 = .ok (.iload 6, 2) := by decide +kernel
theorem dX8_read_242 : decode cX8_read 242 = .ok (.iload 4, 2) := by decide +kernel
theorem dX8_read_244 : decode cX8_read 244 = .ok (.if_icmp .ge 51, 3) := by decide +kernel
theorem dX8_read_247 : decode cX8_read 247 = .ok (.aload_n 0, 1) := by decide +kernel
theorem dX8_read_248 : decode cX8_read 248 = .ok (.aload_n 0, 1) := by decide +kernel
theorem dX8_read_249 : decode cX8_read 249 = .ok (.getfield 140, 3) := by decide +kernel
theorem dX8_read_252 : decode cX8_read 252 = .ok (.iconst 1, 1) := by decide +kernel
theorem dX8_read_253 : decode cX8_read 253 = .ok (.isub, 1) := by decide +kernel
theorem dX8_read_254 : decode cX8_read 254 = .ok (.aload_n 0, 1) := by decide +kernel
theorem dX8_read_255 : decode cX8_read 255 = .ok (.getfield 49, 3) := by decide +kernel
theorem dX8_read_258 : decode cX8_read 258 = .ok (.bipush 40, 2) := by decide +kernel
theorem dX8_read_260 : decode cX8_read 260 = .ok (.iload_n 1, 1) := by decide +kernel
theorem dX8_read_261 : decode cX8_read 261 = .ok (.imul, 1) := by decide +kernel
theorem dX8_read_262 : decode cX8_read 262 = .ok (.iconst 2, 1) := by decide +kernel
theorem dX8_read_263 : decode cX8_read 263 = .ok (.iload 6, 2) := by decide +kernel
theorem dX8_read_265 : decode cX8_read 265 = .ok (.imul, 1) := by decide +kernel
theorem dX8_read_266 : decode cX8_read 266 = .ok (.iadd, 1) := by decide +kernel
theorem dX8_read_267 : decode cX8_read 267 = .ok (.iaload, 1) := by decide +kernel
theorem dX8_read_268 : decode cX8_read 268 = .ok (.aload_n 0, 1) := by decide +kernel
theorem dX8_read_269 : decode cX8_read 269 = .ok (.getfield 49, 3) := by decide +kernel
theorem dX8_read_272 : decode cX8_read 272 = .ok (.bipush 40, 2) := by decide +kernel
theorem dX8_read_274 : decode cX8_read 274 = .ok (.iload_n 1, 1) := by decide +kernel
theorem dX8_read_275 : decode cX8_read 275 = .ok (.imul, 1) := by decide +kernel
theorem dX8_read_276 : decode cX8_read 276 = .ok (.iconst 2, 1) := by decide +kernel
theorem dX8_read_277 : decode cX8_read 277 = .ok (.iload 6, 2) := by decide +kernel
theorem dX8_read_279 : decode cX8_read 279 = .ok (.imul, 1) := by decide +kernel
theorem dX8_read_280 : decode cX8_read 280 = .ok (.iadd, 1) := by decide +kernel
theorem dX8_read_281 : decode cX8_read 281 = .ok (.iconst 1, 1) := by decide +kernel
theorem dX8_read_282 : decode cX8_read 282 = .ok (.iadd, 1) := by decide +kernel
theorem dX8_read_283 : decode cX8_read 283 = .ok (.iaload, 1) := by decide +kernel
theorem dX8_read_284 : decode cX8_read 284 = .ok (.invokevirtual 149, 3) := by decide +kernel
theorem dX8_read_287 : decode cX8_read 287 = .ok (.istore 7, 2) := by decide +kernel
theorem dX8_read_289 : decode cX8_read 289 = .ok (.iinc 6 1, 3) := by decide +kernel
theorem dX8_read_292 : decode cX8_read 292 = .ok (.goto (-52), 3) := by decide +kernel
theorem dX8_read_295 : decode cX8_read 295 = .ok (.aload_n 0, 1) := by decide +kernel
theorem dX8_read_296 : decode cX8_read 296 = .ok (.getfield 140, 3) := by decide +kernel
theorem dX8_read_299 : decode cX8_read 299 = .ok (.iconst 1, 1) := by decide +kernel
theorem dX8_read_300 : decode cX8_read 300 = .ok (.isub, 1) := by decide +kernel
theorem dX8_read_301 : decode cX8_read 301 = .ok (.ireturn, 1) := by decide +kernel
theorem dX8_code_0 : decode cX8_code 0 = .ok (.aload_n 0, 1) := by decide +kernel
theorem dX8_code_1 : decode cX8_code 1 = .ok (.getfield 176, 3) := by decide +kernel
theorem dX8_code_4 : decode cX8_code 4 = .ok (.ireturn, 1) := by decide +kernel
theorem dX8_ahead_0 : decode cX8_ahead 0 = .ok (.aload_n 0, 1) := by decide +kernel
theorem dX8_ahead_1 : decode cX8_ahead 1 = .ok (.getfield 34, 3) := by decide +kernel
theorem dX8_ahead_4 : decode cX8_ahead 4 = .ok (.iload_n 1, 1) := by decide +kernel
theorem dX8_ahead_5 : decode cX8_ahead 5 = .ok (.iaload, 1) := by decide +kernel
theorem dX8_ahead_6 : decode cX8_ahead 6 = .ok (.ifCond .ne 7, 3) := by decide +kernel
theorem dX8_ahead_9 : decode cX8_ahead 9 = .ok (.iconst (-1), 1) := by decide +kernel
theorem dX8_ahead_10 : decode cX8_ahead 10 = .ok (.goto 26, 3) := by decide +kernel
theorem dX8_ahead_13 : decode cX8_ahead 13 = .ok (.aload_n 0, 1) := by decide +kernel
theorem dX8_ahead_14 : decode cX8_ahead 14 = .ok (.getfield 22, 3) := by decide +kernel
theorem dX8_ahead_17 : decode cX8_ahead 17 = .ok (.bipush 8, 2) := by decide +kernel
theorem dX8_ahead_19 : decode cX8_ahead 19 = .ok (.aload_n 0, 1) := by decide +kernel
theorem dX8_ahead_20 : decode cX8_ahead 20 = .ok (.getfield 25, 3) := by decide +kernel
theorem dX8_ahead_23 : decode cX8_ahead 23 = .ok (.iload_n 1, 1) := by decide +kernel
theorem dX8_ahead_24 : decode cX8_ahead 24 = .ok (.iaload, 1) := by decide +kernel
theorem dX8_ahead_25 : decode cX8_ahead 25 = .ok (.imul, 1) := by decide +kernel
theorem dX8_ahead_26 : decode cX8_ahead 26 = .ok (.aload_n 0, 1) := by decide +kernel
theorem dX8_ahead_27 : decode cX8_ahead 27 = .ok (.getfield 34, 3) := by decide +kernel
theorem dX8_ahead_30 : decode cX8_ahead 30 = .ok (.iload_n 1, 1) := by decide +kernel
theorem dX8_ahead_31 : decode cX8_ahead 31 = .ok (.iaload, 1) := by decide +kernel
theorem dX8_ahead_32 : decode cX8_ahead 32 = .ok (.iadd, 1) := by decide +kernel
theorem dX8_ahead_33 : decode cX8_ahead 33 = .ok (.iconst 1, 1) := by decide +kernel
theorem dX8_ahead_34 : decode cX8_ahead 34 = .ok (.isub, 1) := by decide +kernel
theorem dX8_ahead_35 : decode cX8_ahead 35 = .ok (.iaload, 1) := by decide +kernel
theorem dX8_ahead_36 : decode cX8_ahead 36 = .ok (.ireturn, 1) := by decide +kernel
theorem dX8_behind_0 : decode cX8_behind 0 = .ok (.aload_n 0, 1) := by decide +kernel
theorem dX8_behind_1 : decode cX8_behind 1 = .ok (.getfield 34, 3) := by decide +kernel
theorem dX8_behind_4 : decode cX8_behind 4 = .ok (.iload_n 1, 1) := by decide +kernel
theorem dX8_behind_5 : decode cX8_behind 5 = .ok (.iaload, 1) := by decide +kernel
theorem dX8_behind_6 : decode cX8_behind 6 = .ok (.iconst 1, 1) := by decide +kernel
theorem dX8_behind_7 : decode cX8_behind 7 = .ok (.iadd, 1) := by decide +kernel
theorem dX8_behind_8 : decode cX8_behind 8 = .ok (.aload_n 0, 1) := by decide +kernel
theorem dX8_behind_9 : decode cX8_behind 9 = .ok (.getfield 19, 3) := by decide +kernel
theorem dX8_behind_12 : decode cX8_behind 12 = .ok (.aload_n 0, 1) := by decide +kernel
theorem dX8_behind_13 : decode cX8_behind 13 = .ok (.getfield 25, 3) := by decide +kernel
theorem dX8_behind_16 : decode cX8_behind 16 = .ok (.iload_n 1, 1) := by decide +kernel
theorem dX8_behind_17 : decode cX8_behind 17 = .ok (.iaload, 1) := by decide +kernel
theorem dX8_behind_18 : decode cX8_behind 18 = .ok (.iaload, 1) := by decide +kernel
theorem dX8_behind_19 : decode cX8_behind 19 = .ok (.if_icmp .ne 7, 3) := by decide +kernel
theorem dX8_behind_22 : decode cX8_behind 22 = .ok (.iconst (-1), 1) := by decide +kernel
theorem dX8_behind_23 : decode cX8_behind 23 = .ok (.goto 26, 3) := by decide +kernel
theorem dX8_behind_26 : decode cX8_behind 26 = .ok (.aload_n 0, 1) := by decide +kernel
theorem dX8_behind_27 : decode cX8_behind 27 = .ok (.getfield 22, 3) := by decide +kernel
theorem dX8_behind_30 : decode cX8_behind 30 = .ok (.bipush 8, 2) := by decide +kernel
theorem dX8_behind_32 : decode cX8_behind 32 = .ok (.aload_n 0, 1) := by decide +kernel
theorem dX8_behind_33 : decode cX8_behind 33 = .ok (.getfield 25, 3) := by decide +kernel
theorem dX8_behind_36 : decode cX8_behind 36 = .ok (.iload_n 1, 1) := by decide +kernel
theorem dX8_behind_37 : decode cX8_behind 37 = .ok (.iaload, 1) := by decide +kernel
theorem dX8_behind_38 : decode cX8_behind 38 = .ok (.imul, 1) := by decide +kernel
theorem dX8_behind_39 : decode cX8_behind 39 = .ok (.aload_n 0, 1) := by decide +kernel
theorem dX8_behind_40 : decode cX8_behind 40 = .ok (.getfield 34, 3) := by decide +kernel
theorem dX8_behind_43 : decode cX8_behind 43 = .ok (.iload_n 1, 1) := by decide +kernel
theorem dX8_behind_44 : decode cX8_behind 44 = .ok (.iaload, 1) := by decide +kernel
theorem dX8_behind_45 : decode cX8_behind 45 = .ok (.iadd, 1) := by decide +kernel
theorem dX8_behind_46 : decode cX8_behind 46 = .ok (.iconst 1, 1) := by decide +kernel
theorem dX8_behind_47 : decode cX8_behind 47 = .ok (.iadd, 1) := by decide +kernel
theorem dX8_behind_48 : decode cX8_behind 48 = .ok (.iaload, 1) := by decide +kernel
theorem dX8_behind_49 : decode cX8_behind 49 = .ok (.ireturn, 1) := by decide +kernel
theorem dX8_fromOrder_0 : decode cX8_fromOrder 0 = .ok (.aload_n 0, 1) := by decide +kernel
theorem dX8_fromOrder_1 : decode cX8_fromOrder 1 = .ok (.getfield 7, 3) := by decide +kernel
theorem dX8_fromOrder_4 : decode cX8_fromOrder 4 = .ok (.iload_n 1, 1) := by decide +kernel
theorem dX8_fromOrder_5 : decode cX8_fromOrder 5 = .ok (.iaload, 1) := by decide +kernel
theorem dX8_fromOrder_6 : decode cX8_fromOrder 6 = .ok (.iconst 1, 1) := by decide +kernel
theorem dX8_fromOrder_7 : decode cX8_fromOrder 7 = .ok (.if_icmp .eq 7, 3) := by decide +kernel
theorem dX8_fromOrder_10 : decode cX8_fromOrder 10 = .ok (.iload_n 2, 1) := by decide +kernel
theorem dX8_fromOrder_11 : decode cX8_fromOrder 11 = .ok (.ifCond .ne 5, 3) := by decide +kernel
theorem dX8_fromOrder_14 : decode cX8_fromOrder 14 = .ok (.iconst 0, 1) := by decide +kernel
theorem dX8_fromOrder_15 : decode cX8_fromOrder 15 = .ok (.ireturn, 1) := by decide +kernel
theorem dX8_fromOrder_16 : decode cX8_fromOrder 16 = .ok (.aload_n 0, 1) := by decide +kernel
theorem dX8_fromOrder_17 : decode cX8_fromOrder 17 = .ok (.getfield 37, 3) := by decide +kernel
theorem dX8_fromOrder_20 : decode cX8_fromOrder 20 = .ok (.bipush 32, 2) := by decide +kernel
theorem dX8_fromOrder_22 : decode cX8_fromOrder 22 = .ok (.iload_n 1, 1) := by decide +kernel
theorem dX8_fromOrder_23 : decode cX8_fromOrder 23 = .ok (.imul, 1) := by decide +kernel
theorem dX8_fromOrder_24 : decode cX8_fromOrder 24 = .ok (.iload_n 2, 1) := by decide +kernel
theorem dX8_fromOrder_25 : decode cX8_fromOrder 25 = .ok (.iadd, 1) := by decide +kernel
theorem dX8_fromOrder_26 : decode cX8_fromOrder 26 = .ok (.iconst 1, 1) := by decide +kernel
theorem dX8_fromOrder_27 : decode cX8_fromOrder 27 = .ok (.isub, 1) := by decide +kernel
theorem dX8_fromOrder_28 : decode cX8_fromOrder 28 = .ok (.iaload, 1) := by decide +kernel
theorem dX8_fromOrder_29 : decode cX8_fromOrder 29 = .ok (.istore 4, 2) := by decide +kernel
theorem dX8_fromOrder_31 : decode cX8_fromOrder 31 = .ok (.aload_n 0, 1) := by decide +kernel
theorem dX8_fromOrder_32 : decode cX8_fromOrder 32 = .ok (.getfield 7, 3) := by decide +kernel
theorem dX8_fromOrder_35 : decode cX8_fromOrder 35 = .ok (.iload_n 1, 1) := by decide +kernel
theorem dX8_fromOrder_36 : decode cX8_fromOrder 36 = .ok (.iaload, 1) := by decide +kernel
theorem dX8_fromOrder_37 : decode cX8_fromOrder 37 = .ok (.iconst 3, 1) := by decide +kernel
theorem dX8_fromOrder_38 : decode cX8_fromOrder 38 = .ok (.if_icmp .eq 70, 3) := by decide +kernel
theorem dX8_fromOrder_41 : decode cX8_fromOrder 41 = .ok (.aload_n 0, 1) := by decide +kernel
theorem dX8_fromOrder_42 : decode cX8_fromOrder 42 = .ok (.getfield 7, 3) := by decide +kernel
theorem dX8_fromOrder_45 : decode cX8_fromOrder 45 = .ok (.iload_n 1, 1) := by decide +kernel
theorem dX8_fromOrder_46 : decode cX8_fromOrder 46 = .ok (.iaload, 1) := by decide +kernel
theorem dX8_fromOrder_47 : decode cX8_fromOrder 47 = .ok (.iconst 2, 1) := by decide +kernel
theorem dX8_fromOrder_48 : decode cX8_fromOrder 48 = .ok (.if_icmp .ne 38, 3) := by decide +kernel
theorem dX8_fromOrder_51 : decode cX8_fromOrder 51 = .ok (.aload_n 0, 1) := by decide +kernel
theorem dX8_fromOrder_52 : decode cX8_fromOrder 52 = .ok (.getfield 16, 3) := by decide +kernel
theorem dX8_fromOrder_55 : decode cX8_fromOrder 55 = .ok (.aload_n 0, 1) := by decide +kernel
theorem dX8_fromOrder_56 : decode cX8_fromOrder 56 = .ok (.getfield 25, 3) := by decide +kernel
theorem dX8_fromOrder_59 : decode cX8_fromOrder 59 = .ok (.iload 4, 2) := by decide +kernel
theorem dX8_fromOrder_61 : decode cX8_fromOrder 61 = .ok (.iaload, 1) := by decide +kernel
theorem dX8_fromOrder_62 : decode cX8_fromOrder 62 = .ok (.iaload, 1) := by decide +kernel
theorem dX8_fromOrder_63 : decode cX8_fromOrder 63 = .ok (.aload_n 0, 1) := by decide +kernel
theorem dX8_fromOrder_64 : decode cX8_fromOrder 64 = .ok (.getfield 16, 3) := by decide +kernel
theorem dX8_fromOrder_67 : decode cX8_fromOrder 67 = .ok (.aload_n 0, 1) := by decide +kernel
theorem dX8_fromOrder_68 : decode cX8_fromOrder 68 = .ok (.getfield 25, 3) := by decide +kernel
theorem dX8_fromOrder_71 : decode cX8_fromOrder 71 = .ok (.iload_n 3, 1) := by decide +kernel
theorem dX8_fromOrder_72 : decode cX8_fromOrder 72 = .ok (.iaload, 1) := by decide +kernel
theorem dX8_fromOrder_73 : decode cX8_fromOrder 73 = .ok (.iaload, 1) := by decide +kernel
theorem dX8_fromOrder_74 : decode cX8_fromOrder 74 = .ok (.if_icmp .eq 12, 3) := by decide +kernel
theorem dX8_fromOrder_77 : decode cX8_fromOrder 77 = .ok (.aload_n 0, 1) := by decide +kernel
theorem dX8_fromOrder_78 : decode cX8_fromOrder 78 = .ok (.getfield 13, 3) := by decide +kernel
theorem dX8_fromOrder_81 : decode cX8_fromOrder 81 = .ok (.iload_n 1, 1) := by decide +kernel
theorem dX8_fromOrder_82 : decode cX8_fromOrder 82 = .ok (.iaload, 1) := by decide +kernel
theorem dX8_fromOrder_83 : decode cX8_fromOrder 83 = .ok (.goto 4, 3) := by decide +kernel
theorem dX8_fromOrder_86 : decode cX8_fromOrder 86 = .ok (.iconst 0, 1) := by decide +kernel
theorem dX8_fromOrder_87 : decode cX8_fromOrder 87 = .ok (.istore 5, 2) := by decide +kernel
theorem dX8_fromOrder_89 : decode cX8_fromOrder 89 = .ok (.aload_n 0, 1) := by decide +kernel
theorem dX8_fromOrder_90 : decode cX8_fromOrder 90 = .ok (.getfield 55, 3) := by decide +kernel
theorem dX8_fromOrder_93 : decode cX8_fromOrder 93 = .ok (.iload 4, 2) := by decide +kernel
theorem dX8_fromOrder_95 : decode cX8_fromOrder 95 = .ok (.iaload, 1) := by decide +kernel
theorem dX8_fromOrder_96 : decode cX8_fromOrder 96 = .ok (.aload_n 0, 1) := by decide +kernel
theorem dX8_fromOrder_97 : decode cX8_fromOrder 97 = .ok (.getfield 31, 3) := by decide +kernel
theorem dX8_fromOrder_100 : decode cX8_fromOrder 100 = .ok (.iload 4, 2) := by decide +kernel
theorem dX8_fromOrder_102 : decode cX8_fromOrder 102 = .ok (.iaload, 1) := by decide +kernel
theorem dX8_fromOrder_103 : decode cX8_fromOrder 103 = .ok (.iadd, 1) := by decide +kernel
theorem dX8_fromOrder_104 : decode cX8_fromOrder 104 = .ok (.iload 5, 2) := by decide +kernel
theorem dX8_fromOrder_106 : decode cX8_fromOrder 106 = .ok (.iadd, 1) := by decide +kernel
theorem dX8_fromOrder_107 : decode cX8_fromOrder 107 = .ok (.ireturn, 1) := by decide +kernel
theorem dX8_fromOrder_108 : decode cX8_fromOrder 108 = .ok (.aload_n 0, 1) := by decide +kernel
theorem dX8_fromOrder_109 : decode cX8_fromOrder 109 = .ok (.getfield 55, 3) := by decide +kernel
theorem dX8_fromOrder_112 : decode cX8_fromOrder 112 = .ok (.iload 4, 2) := by decide +kernel
theorem dX8_fromOrder_114 : decode cX8_fromOrder 114 = .ok (.iaload, 1) := by decide +kernel
theorem dX8_fromOrder_115 : decode cX8_fromOrder 115 = .ok (.istore 5, 2) := by decide +kernel
theorem dX8_fromOrder_117 : decode cX8_fromOrder 117 = .ok (.aload_n 0, 1) := by decide +kernel
theorem dX8_fromOrder_118 : decode cX8_fromOrder 118 = .ok (.getfield 13, 3) := by decide +kernel
theorem dX8_fromOrder_121 : decode cX8_fromOrder 121 = .ok (.iload_n 1, 1) := by decide +kernel
theorem dX8_fromOrder_122 : decode cX8_fromOrder 122 = .ok (.iaload, 1) := by decide +kernel
theorem dX8_fromOrder_123 : decode cX8_fromOrder 123 = .ok (.istore 6, 2) := by decide +kernel
theorem dX8_fromOrder_125 : decode cX8_fromOrder 125 = .ok (.iload_n 2, 1) := by decide +kernel
theorem dX8_fromOrder_126 : decode cX8_fromOrder 126 = .ok (.iload 6, 2) := by decide +kernel
theorem dX8_fromOrder_128 : decode cX8_fromOrder 128 = .ok (.if_icmp .lt 133, 3) := by decide +kernel
theorem dX8_fromOrder_131 : decode cX8_fromOrder 131 = .ok (.iconst 0, 1) := by decide +kernel
theorem dX8_fromOrder_132 : decode cX8_fromOrder 132 = .ok (.istore 7, 2) := by decide +kernel
theorem dX8_fromOrder_134 : decode cX8_fromOrder 134 = .ok (.iload 7, 2) := by decide +kernel
theorem dX8_fromOrder_136 : decode cX8_fromOrder 136 = .ok (.iload_n 2, 1) := by decide +kernel
theorem dX8_fromOrder_137 : decode cX8_fromOrder 137 = .ok (.if_icmp .ge 94, 3) := by decide +kernel
theorem dX8_fromOrder_140 : decode cX8_fromOrder 140 = .ok (.aload_n 0, 1) := by decide +kernel
theorem dX8_fromOrder_141 : decode cX8_fromOrder 141 = .ok (.getfield 37, 3) := by decide +kernel
theorem dX8_fromOrder_144 : decode cX8_fromOrder 144 = .ok (.bipush 32, 2) := by decide +kernel
theorem dX8_fromOrder_146 : decode cX8_fromOrder 146 = .ok (.iload_n 1, 1) := by decide +kernel
theorem dX8_fromOrder_147 : decode cX8_fromOrder 147 = .ok (.imul, 1) := by decide +kernel
theorem dX8_fromOrder_148 : decode cX8_fromOrder 148 = .ok (.iload 7, 2) := by decide +kernel
theorem dX8_fromOrder_150 : decode cX8_fromOrder 150 = .ok (.iadd, 1) := by decide +kernel
theorem dX8_fromOrder_151 : decode cX8_fromOrder 151 = .ok (.iaload, 1) := by decide +kernel
theorem dX8_fromOrder_152 : decode cX8_fromOrder 152 = .ok (.istore 8, 2) := by decide +kernel
theorem dX8_fromOrder_154 : decode cX8_fromOrder 154 = .ok (.aload_n 0, 1) := by decide +kernel
theorem dX8_fromOrder_155 : decode cX8_fromOrder 155 = .ok (.getfield 55, 3) := by decide +kernel
theorem dX8_fromOrder_158 : decode cX8_fromOrder 158 = .ok (.iload 8, 2) := by decide +kernel
theorem dX8_fromOrder_160 : decode cX8_fromOrder 160 = .ok (.iaload, 1) := by decide +kernel
theorem dX8_fromOrder_161 : decode cX8_fromOrder 161 = .ok (.aload_n 0, 1) := by decide +kernel
theorem dX8_fromOrder_162 : decode cX8_fromOrder 162 = .ok (.getfield 31, 3) := by decide +kernel
theorem dX8_fromOrder_165 : decode cX8_fromOrder 165 = .ok (.iload 8, 2) := by decide +kernel
theorem dX8_fromOrder_167 : decode cX8_fromOrder 167 = .ok (.iaload, 1) := by decide +kernel
theorem dX8_fromOrder_168 : decode cX8_fromOrder 168 = .ok (.iadd, 1) := by decide +kernel
theorem dX8_fromOrder_169 : decode cX8_fromOrder 169 = .ok (.istore 9, 2) := by decide +kernel
theorem dX8_fromOrder_171 : decode cX8_fromOrder 171 = .ok (.iload 7, 2) := by decide +kernel
theorem dX8_fromOrder_173 : decode cX8_fromOrder 173 = .ok (.istore 10, 2) := by decide +kernel
theorem dX8_fromOrder_175 : decode cX8_fromOrder 175 = .ok (.iload 10, 2) := by decide +kernel
theorem dX8_fromOrder_177 : decode cX8_fromOrder 177 = .ok (.ifCond .le 39, 3) := by decide +kernel
theorem dX8_fromOrder_180 : decode cX8_fromOrder 180 = .ok (.aload_n 0, 1) := by decide +kernel
theorem dX8_fromOrder_181 : decode cX8_fromOrder 181 = .ok (.getfield 62, 3) := by decide +kernel
theorem dX8_fromOrder_184 : decode cX8_fromOrder 184 = .ok (.iload 10, 2) := by decide +kernel
theorem dX8_fromOrder_186 : decode cX8_fromOrder 186 = .ok (.iconst 1, 1) := by decide +kernel
theorem dX8_fromOrder_187 : decode cX8_fromOrder 187 = .ok (.isub, 1) := by decide +kernel
theorem dX8_fromOrder_188 : decode cX8_fromOrder 188 = .ok (.iaload, 1) := by decide +kernel
theorem dX8_fromOrder_189 : decode cX8_fromOrder 189 = .ok (.iload 9, 2) := by decide +kernel
theorem dX8_fromOrder_191 : decode cX8_fromOrder 191 = .ok (.if_icmp .ge 25, 3) := by decide +kernel
theorem dX8_fromOrder_194 : decode cX8_fromOrder 194 = .ok (.aload_n 0, 1) := by decide +kernel
theorem dX8_fromOrder_195 : decode cX8_fromOrder 195 = .ok (.getfield 62, 3) := by decide +kernel
theorem dX8_fromOrder_198 : decode cX8_fromOrder 198 = .ok (.iload 10, 2) := by decide +kernel
theorem dX8_fromOrder_200 : decode cX8_fromOrder 200 = .ok (.aload_n 0, 1) := by decide +kernel
theorem dX8_fromOrder_201 : decode cX8_fromOrder 201 = .ok (.getfield 62, 3) := by decide +kernel
theorem dX8_fromOrder_204 : decode cX8_fromOrder 204 = .ok (.iload 10, 2) := by decide +kernel
theorem dX8_fromOrder_206 : decode cX8_fromOrder 206 = .ok (.iconst 1, 1) := by decide +kernel
theorem dX8_fromOrder_207 : decode cX8_fromOrder 207 = .ok (.isub, 1) := by decide +kernel
theorem dX8_fromOrder_208 : decode cX8_fromOrder 208 = .ok (.iaload, 1) := by decide +kernel
theorem dX8_fromOrder_209 : decode cX8_fromOrder 209 = .ok (.iastore, 1) := by decide +kernel
theorem dX8_fromOrder_210 : decode cX8_fromOrder 210 = .ok (.iinc 10 (-1), 3) := by decide +kernel
theorem dX8_fromOrder_213 : decode cX8_fromOrder 213 = .ok (.goto (-38), 3) := by decide +kernel
theorem dX8_fromOrder_216 : decode cX8_fromOrder 216 = .ok (.aload_n 0, 1) := by decide +kernel
theorem dX8_fromOrder_217 : decode cX8_fromOrder 217 = .ok (.getfield 62, 3) := by decide +kernel
theorem dX8_fromOrder_220 : decode cX8_fromOrder 220 = .ok (.iload 10, 2) := by decide +kernel
theorem dX8_fromOrder_222 : decode cX8_fromOrder 222 = .ok (.iload 9, 2) := by decide +kernel
theorem dX8_fromOrder_224 : decode cX8_fromOrder 224 = .ok (.iastore, 1) := by decide +kernel
theorem dX8_fromOrder_225 : decode cX8_fromOrder 225 = .ok (.iinc 7 1, 3) := by decide +kernel
theorem dX8_fromOrder_228 : decode cX8_fromOrder 228 = .ok (.goto (-94), 3) := by decide +kernel
theorem dX8_fromOrder_231 : decode cX8_fromOrder 231 = .ok (.aload_n 0, 1) := by decide +kernel
theorem dX8_fromOrder_232 : decode cX8_fromOrder 232 = .ok (.getfield 62, 3) := by decide +kernel
theorem dX8_fromOrder_235 : decode cX8_fromOrder 235 = .ok (.iload 6, 2) := by decide +kernel
theorem dX8_fromOrder_237 : decode cX8_fromOrder 237 = .ok (.iconst 1, 1) := by decide +kernel
theorem dX8_fromOrder_238 : decode cX8_fromOrder 238 = .ok (.isub, 1) := by decide +kernel
theorem dX8_fromOrder_239 : decode cX8_fromOrder 239 = .ok (.iaload, 1) := by decide +kernel
theorem dX8_fromOrder_240 : decode cX8_fromOrder 240 = .ok (.iload 5, 2) := by decide +kernel
theorem dX8_fromOrder_242 : decode cX8_fromOrder 242 = .ok (.if_icmp .le 15, 3) := by decide +kernel
theorem dX8_fromOrder_245 : decode cX8_fromOrder 245 = .ok (.aload_n 0, 1) := by decide +kernel
theorem dX8_fromOrder_246 : decode cX8_fromOrder 246 = .ok (.getfield 62, 3) := by decide +kernel
theorem dX8_fromOrder_249 : decode cX8_fromOrder 249 = .ok (.iload 6, 2) := by decide +kernel
theorem dX8_fromOrder_251 : decode cX8_fromOrder 251 = .ok (.iconst 1, 1) := by decide +kernel
theorem dX8_fromOrder_252 : decode cX8_fromOrder 252 = .ok (.isub, 1) := by decide +kernel
theorem dX8_fromOrder_253 : decode cX8_fromOrder 253 = .ok (.iaload, 1) := by decide +kernel
theorem dX8_fromOrder_254 : decode cX8_fromOrder 254 = .ok (.goto 5, 3) := by decide +kernel
theorem dX8_fromOrder_257 : decode cX8_fromOrder 257 = .ok (.iload 5, 2) := by decide +kernel
theorem dX8_fromOrder_259 : decode cX8_fromOrder 259 = .ok (.istore 5, 2) := by decide +kernel
theorem dX8_fromOrder_261 : decode cX8_fromOrder 261 = .ok (.iload 5, 2) := by decide +kernel
theorem dX8_fromOrder_263 : decode cX8_fromOrder 263 = .ok (.ireturn, 1) := by decide +kernel
theorem dX8_isReady_0 : decode cX8_isReady 0 = .ok (.aload_n 0, 1) := by decide +kernel
theorem dX8_isReady_1 : decode cX8_isReady 1 = .ok (.iload_n 1, 1) := by decide +kernel
theorem dX8_isReady_2 : decode cX8_isReady 2 = .ok (.invokevirtual 180, 3) := by decide +kernel
theorem dX8_isReady_5 : decode cX8_isReady 5 = .ok (.istore_n 2, 1) := by decide +kernel
theorem dX8_isReady_6 : decode cX8_isReady 6 = .ok (.iload_n 2, 1) := by decide +kernel
theorem dX8_isReady_7 : decode cX8_isReady 7 = .ok (.ifCond .lt 14, 3) := by decide +kernel
theorem dX8_isReady_10 : decode cX8_isReady 10 = .ok (.aload_n 0, 1) := by decide +kernel
theorem dX8_isReady_11 : decode cX8_isReady 11 = .ok (.getfield 58, 3) := by decide +kernel
theorem dX8_isReady_14 : decode cX8_isReady 14 = .ok (.iload_n 2, 1) := by decide +kernel
theorem dX8_isReady_15 : decode cX8_isReady 15 = .ok (.baload, 1) := by decide +kernel
theorem dX8_isReady_16 : decode cX8_isReady 16 = .ok (.ifCond .ne 5, 3) := by decide +kernel
theorem dX8_isReady_19 : decode cX8_isReady 19 = .ok (.iconst 0, 1) := by decide +kernel
theorem dX8_isReady_20 : decode cX8_isReady 20 = .ok (.ireturn, 1) := by decide +kernel
theorem dX8_isReady_21 : decode cX8_isReady 21 = .ok (.aload_n 0, 1) := by decide +kernel
theorem dX8_isReady_22 : decode cX8_isReady 22 = .ok (.getfield 28, 3) := by decide +kernel
theorem dX8_isReady_25 : decode cX8_isReady 25 = .ok (.iload_n 1, 1) := by decide +kernel
theorem dX8_isReady_26 : decode cX8_isReady 26 = .ok (.iaload, 1) := by decide +kernel
theorem dX8_isReady_27 : decode cX8_isReady 27 = .ok (.istore_n 3, 1) := by decide +kernel
theorem dX8_isReady_28 : decode cX8_isReady 28 = .ok (.iconst 1, 1) := by decide +kernel
theorem dX8_isReady_29 : decode cX8_isReady 29 = .ok (.istore 4, 2) := by decide +kernel
theorem dX8_isReady_31 : decode cX8_isReady 31 = .ok (.aload_n 0, 1) := by decide +kernel
theorem dX8_isReady_32 : decode cX8_isReady 32 = .ok (.iload_n 1, 1) := by decide +kernel
theorem dX8_isReady_33 : decode cX8_isReady 33 = .ok (.invokevirtual 157, 3) := by decide +kernel
theorem dX8_isReady_36 : decode cX8_isReady 36 = .ok (.iconst 1, 1) := by decide +kernel
theorem dX8_isReady_37 : decode cX8_isReady 37 = .ok (.isub, 1) := by decide +kernel
theorem dX8_isReady_38 : decode cX8_isReady 38 = .ok (.istore 5, 2) := by decide +kernel
theorem dX8_isReady_40 : decode cX8_isReady 40 = .ok (.iload 5, 2) := by decide +kernel
theorem dX8_isReady_42 : decode cX8_isReady 42 = .ok (.ifCond .lt 43, 3) := by decide +kernel
theorem dX8_isReady_45 : decode cX8_isReady 45 = .ok (.iload 4, 2) := by decide +kernel
theorem dX8_isReady_47 : decode cX8_isReady 47 = .ok (.ifCond .eq 38, 3) := by decide +kernel
theorem dX8_isReady_50 : decode cX8_isReady 50 = .ok (.aload_n 0, 1) := by decide +kernel
theorem dX8_isReady_51 : decode cX8_isReady 51 = .ok (.getfield 7, 3) := by decide +kernel
theorem dX8_isReady_54 : decode cX8_isReady 54 = .ok (.iload_n 3, 1) := by decide +kernel
theorem dX8_isReady_55 : decode cX8_isReady 55 = .ok (.iaload, 1) := by decide +kernel
theorem dX8_isReady_56 : decode cX8_isReady 56 = .ok (.iconst 1, 1) := by decide +kernel
theorem dX8_isReady_57 : decode cX8_isReady 57 = .ok (.if_icmp .eq 28, 3) := by decide +kernel
theorem dX8_isReady_60 : decode cX8_isReady 60 = .ok (.aload_n 0, 1) := by decide +kernel
theorem dX8_isReady_61 : decode cX8_isReady 61 = .ok (.getfield 58, 3) := by decide +kernel
theorem dX8_isReady_64 : decode cX8_isReady 64 = .ok (.aload_n 0, 1) := by decide +kernel
theorem dX8_isReady_65 : decode cX8_isReady 65 = .ok (.getfield 37, 3) := by decide +kernel
theorem dX8_isReady_68 : decode cX8_isReady 68 = .ok (.bipush 32, 2) := by decide +kernel
theorem dX8_isReady_70 : decode cX8_isReady 70 = .ok (.iload_n 3, 1) := by decide +kernel
theorem dX8_isReady_71 : decode cX8_isReady 71 = .ok (.imul, 1) := by decide +kernel
theorem dX8_isReady_72 : decode cX8_isReady 72 = .ok (.iload 5, 2) := by decide +kernel
theorem dX8_isReady_74 : decode cX8_isReady 74 = .ok (.iadd, 1) := by decide +kernel
theorem dX8_isReady_75 : decode cX8_isReady 75 = .ok (.iaload, 1) := by decide +kernel
theorem dX8_isReady_76 : decode cX8_isReady 76 = .ok (.baload, 1) := by decide +kernel
theorem dX8_isReady_77 : decode cX8_isReady 77 = .ok (.istore 4, 2) := by decide +kernel
theorem dX8_isReady_79 : decode cX8_isReady 79 = .ok (.iinc 5 (-1), 3) := by decide +kernel
theorem dX8_isReady_82 : decode cX8_isReady 82 = .ok (.goto (-42), 3) := by decide +kernel
theorem dX8_isReady_85 : decode cX8_isReady 85 = .ok (.iload 4, 2) := by decide +kernel
theorem dX8_isReady_87 : decode cX8_isReady 87 = .ok (.ireturn, 1) := by decide +kernel
theorem dX8_work_0 : decode cX8_work 0 = .ok (.iconst 0, 1) := by decide +kernel
theorem dX8_work_1 : decode cX8_work 1 = .ok (.istore_n 1, 1) := by decide +kernel
theorem dX8_work_2 : decode cX8_work 2 = .ok (.iload_n 1, 1) := by decide +kernel
theorem dX8_work_3 : decode cX8_work 3 = .ok (.aload_n 0, 1) := by decide +kernel
theorem dX8_work_4 : decode cX8_work 4 = .ok (.getfield 143, 3) := by decide +kernel
theorem dX8_work_7 : decode cX8_work 7 = .ok (.if_icmp .ge 16, 3) := by decide +kernel
theorem dX8_work_10 : decode cX8_work 10 = .ok (.aload_n 0, 1) := by decide +kernel
theorem dX8_work_11 : decode cX8_work 11 = .ok (.getfield 58, 3) := by decide +kernel
theorem dX8_work_14 : decode cX8_work 14 = .ok (.iload_n 1, 1) := by decide +kernel
theorem dX8_work_15 : decode cX8_work 15 = .ok (.iconst 0, 1) := by decide +kernel
theorem dX8_work_16 : decode cX8_work 16 = .ok (.bastore, 1) := by decide +kernel
theorem dX8_work_17 : decode cX8_work 17 = .ok (.iinc 1 1, 3) := by decide +kernel
theorem dX8_work_20 : decode cX8_work 20 = .ok (.goto (-18), 3) := by decide +kernel
theorem dX8_work_23 : decode cX8_work 23 = .ok (.aload_n 0, 1) := by decide +kernel
theorem dX8_work_24 : decode cX8_work 24 = .ok (.iconst 0, 1) := by decide +kernel
theorem dX8_work_25 : decode cX8_work 25 = .ok (.putfield 183, 3) := by decide +kernel
theorem dX8_work_28 : decode cX8_work 28 = .ok (.iconst 0, 1) := by decide +kernel
theorem dX8_work_29 : decode cX8_work 29 = .ok (.istore_n 1, 1) := by decide +kernel
theorem dX8_work_30 : decode cX8_work 30 = .ok (.iconst 1, 1) := by decide +kernel
theorem dX8_work_31 : decode cX8_work 31 = .ok (.istore_n 2, 1) := by decide +kernel
theorem dX8_work_32 : decode cX8_work 32 = .ok (.iload_n 2, 1) := by decide +kernel
theorem dX8_work_33 : decode cX8_work 33 = .ok (.ifCond .eq 168, 3) := by decide +kernel
theorem dX8_work_36 : decode cX8_work 36 = .ok (.iconst 0, 1) := by decide +kernel
theorem dX8_work_37 : decode cX8_work 37 = .ok (.istore_n 2, 1) := by decide +kernel
theorem dX8_work_38 : decode cX8_work 38 = .ok (.iconst 0, 1) := by decide +kernel
theorem dX8_work_39 : decode cX8_work 39 = .ok (.istore_n 3, 1) := by decide +kernel
theorem dX8_work_40 : decode cX8_work 40 = .ok (.iload_n 3, 1) := by decide +kernel
theorem dX8_work_41 : decode cX8_work 41 = .ok (.aload_n 0, 1) := by decide +kernel
theorem dX8_work_42 : decode cX8_work 42 = .ok (.getfield 143, 3) := by decide +kernel
theorem dX8_work_45 : decode cX8_work 45 = .ok (.if_icmp .ge 153, 3) := by decide +kernel
theorem dX8_work_48 : decode cX8_work 48 = .ok (.aload_n 0, 1) := by decide +kernel
theorem dX8_work_49 : decode cX8_work 49 = .ok (.getfield 58, 3) := by decide +kernel
theorem dX8_work_52 : decode cX8_work 52 = .ok (.iload_n 3, 1) := by decide +kernel
theorem dX8_work_53 : decode cX8_work 53 = .ok (.baload, 1) := by decide +kernel
theorem dX8_work_54 : decode cX8_work 54 = .ok (.ifCond .ne 138, 3) := by decide +kernel
theorem dX8_work_57 : decode cX8_work 57 = .ok (.aload_n 0, 1) := by decide +kernel
theorem dX8_work_58 : decode cX8_work 58 = .ok (.iload_n 3, 1) := by decide +kernel
theorem dX8_work_59 : decode cX8_work 59 = .ok (.invokevirtual 186, 3) := by decide +kernel
theorem dX8_work_62 : decode cX8_work 62 = .ok (.ifCond .eq 130, 3) := by decide +kernel
theorem dX8_work_65 : decode cX8_work 65 = .ok (.aload_n 0, 1) := by decide +kernel
theorem dX8_work_66 : decode cX8_work 66 = .ok (.iload_n 3, 1) := by decide +kernel
theorem dX8_work_67 : decode cX8_work 67 = .ok (.invokevirtual 180, 3) := by decide +kernel
theorem dX8_work_70 : decode cX8_work 70 = .ok (.istore 4, 2) := by decide +kernel
theorem dX8_work_72 : decode cX8_work 72 = .ok (.iload 4, 2) := by decide +kernel
theorem dX8_work_74 : decode cX8_work 74 = .ok (.ifCond .ge 7, 3) := by decide +kernel
theorem dX8_work_77 : decode cX8_work 77 = .ok (.iconst 0, 1) := by decide +kernel
theorem dX8_work_78 : decode cX8_work 78 = .ok (.goto 18, 3) := by decide +kernel
theorem dX8_work_81 : decode cX8_work 81 = .ok (.aload_n 0, 1) := by decide +kernel
theorem dX8_work_82 : decode cX8_work 82 = .ok (.getfield 55, 3) := by decide +kernel
theorem dX8_work_85 : decode cX8_work 85 = .ok (.iload 4, 2) := by decide +kernel
theorem dX8_work_87 : decode cX8_work 87 = .ok (.iaload, 1) := by decide +kernel
theorem dX8_work_88 : decode cX8_work 88 = .ok (.aload_n 0, 1) := by decide +kernel
theorem dX8_work_89 : decode cX8_work 89 = .ok (.getfield 31, 3) := by decide +kernel
theorem dX8_work_92 : decode cX8_work 92 = .ok (.iload 4, 2) := by decide +kernel
theorem dX8_work_94 : decode cX8_work 94 = .ok (.iaload, 1) := by decide +kernel
theorem dX8_work_95 : decode cX8_work 95 = .ok (.iadd, 1) := by decide +kernel
theorem dX8_work_96 : decode cX8_work 96 = .ok (.istore 5, 2) := by decide +kernel
theorem dX8_work_98 : decode cX8_work 98 = .ok (.aload_n 0, 1) := by decide +kernel
theorem dX8_work_99 : decode cX8_work 99 = .ok (.aload_n 0, 1) := by decide +kernel
theorem dX8_work_100 : decode cX8_work 100 = .ok (.getfield 28, 3) := by decide +kernel
theorem dX8_work_103 : decode cX8_work 103 = .ok (.iload_n 3, 1) := by decide +kernel
theorem dX8_work_104 : decode cX8_work 104 = .ok (.iaload, 1) := by decide +kernel
theorem dX8_work_105 : decode cX8_work 105 = .ok (.aload_n 0, 1) := by decide +kernel
theorem dX8_work_106 : decode cX8_work 106 = .ok (.iload_n 3, 1) := by decide +kernel
theorem dX8_work_107 : decode cX8_work 107 = .ok (.invokevirtual 157, 3) := by decide +kernel
theorem dX8_work_110 : decode cX8_work 110 = .ok (.iload_n 3, 1) := by decide +kernel
theorem dX8_work_111 : decode cX8_work 111 = .ok (.invokevirtual 189, 3) := by decide +kernel
theorem dX8_work_114 : decode cX8_work 114 = .ok (.istore 6, 2) := by decide +kernel
theorem dX8_work_116 : decode cX8_work 116 = .ok (.aload_n 0, 1) := by decide +kernel
theorem dX8_work_117 : decode cX8_work 117 = .ok (.getfield 55, 3) := by decide +kernel
theorem dX8_work_120 : decode cX8_work 120 = .ok (.iload_n 3, 1) := by decide +kernel
theorem dX8_work_121 : decode cX8_work 121 = .ok (.iload 5, 2) := by decide +kernel
theorem dX8_work_123 : decode cX8_work 123 = .ok (.iload 6, 2) := by decide +kernel
theorem dX8_work_125 : decode cX8_work 125 = .ok (.if_icmp .le 8, 3) := by decide +kernel
theorem dX8_work_128 : decode cX8_work 128 = .ok (.iload 5, 2) := by decide +kernel
theorem dX8_work_130 : decode cX8_work 130 = .ok (.goto 5, 3) := by decide +kernel
theorem dX8_work_133 : decode cX8_work 133 = .ok (.iload 6, 2) := by decide +kernel
theorem dX8_work_135 : decode cX8_work 135 = .ok (.iastore, 1) := by decide +kernel
theorem dX8_work_136 : decode cX8_work 136 = .ok (.aload_n 0, 1) := by decide +kernel
theorem dX8_work_137 : decode cX8_work 137 = .ok (.getfield 58, 3) := by decide +kernel
theorem dX8_work_140 : decode cX8_work 140 = .ok (.iload_n 3, 1) := by decide +kernel
theorem dX8_work_141 : decode cX8_work 141 = .ok (.iconst 1, 1) := by decide +kernel
theorem dX8_work_142 : decode cX8_work 142 = .ok (.bastore, 1) := by decide +kernel
theorem dX8_work_143 : decode cX8_work 143 = .ok (.iinc 1 1, 3) := by decide +kernel
theorem dX8_work_146 : decode cX8_work 146 = .ok (.iconst 1, 1) := by decide +kernel
theorem dX8_work_147 : decode cX8_work 147 = .ok (.istore_n 2, 1) := by decide +kernel
theorem dX8_work_148 : decode cX8_work 148 = .ok (.aload_n 0, 1) := by decide +kernel
theorem dX8_work_149 : decode cX8_work 149 = .ok (.aload_n 0, 1) := by decide +kernel
theorem dX8_work_150 : decode cX8_work 150 = .ok (.getfield 55, 3) := by decide +kernel
theorem dX8_work_153 : decode cX8_work 153 = .ok (.iload_n 3, 1) := by decide +kernel
theorem dX8_work_154 : decode cX8_work 154 = .ok (.iaload, 1) := by decide +kernel
theorem dX8_work_155 : decode cX8_work 155 = .ok (.aload_n 0, 1) := by decide +kernel
theorem dX8_work_156 : decode cX8_work 156 = .ok (.getfield 31, 3) := by decide +kernel
theorem dX8_work_159 : decode cX8_work 159 = .ok (.iload_n 3, 1) := by decide +kernel
theorem dX8_work_160 : decode cX8_work 160 = .ok (.iaload, 1) := by decide +kernel
theorem dX8_work_161 : decode cX8_work 161 = .ok (.iadd, 1) := by decide +kernel
theorem dX8_work_162 : decode cX8_work 162 = .ok (.aload_n 0, 1) := by decide +kernel
theorem dX8_work_163 : decode cX8_work 163 = .ok (.getfield 183, 3) := by decide +kernel
theorem dX8_work_166 : decode cX8_work 166 = .ok (.if_icmp .le 19, 3) := by decide +kernel
theorem dX8_work_169 : decode cX8_work 169 = .ok (.aload_n 0, 1) := by decide +kernel
theorem dX8_work_170 : decode cX8_work 170 = .ok (.getfield 55, 3) := by decide +kernel
theorem dX8_work_173 : decode cX8_work 173 = .ok (.iload_n 3, 1) := by decide +kernel
theorem dX8_work_174 : decode cX8_work 174 = .ok (.iaload, 1) := by decide +kernel
theorem dX8_work_175 : decode cX8_work 175 = .ok (.aload_n 0, 1) := by decide +kernel
theorem dX8_work_176 : decode cX8_work 176 = .ok (.getfield 31, 3) := by decide +kernel
theorem dX8_work_179 : decode cX8_work 179 = .ok (.iload_n 3, 1) := by decide +kernel
theorem dX8_work_180 : decode cX8_work 180 = .ok (.iaload, 1) := by decide +kernel
theorem dX8_work_181 : decode cX8_work 181 = .ok (.iadd, 1) := by decide +kernel
theorem dX8_work_182 : decode cX8_work 182 = .ok (.goto 7, 3) := by decide +kernel
theorem dX8_work_185 : decode cX8_work 185 = .ok (.aload_n 0, 1) := by decide +kernel
theorem dX8_work_186 : decode cX8_work 186 = .ok (.getfield 183, 3) := by decide +kernel
theorem dX8_work_189 : decode cX8_work 189 = .ok (.putfield 183, 3) := by decide +kernel
theorem dX8_work_192 : decode cX8_work 192 = .ok (.iinc 3 1, 3) := by decide +kernel
theorem dX8_work_195 : decode cX8_work 195 = .ok (.goto (-155), 3) := by decide +kernel
theorem dX8_work_198 : decode cX8_work 198 = .ok (.goto (-166), 3) := by decide +kernel
theorem dX8_work_201 : decode cX8_work 201 = .ok (.iload_n 1, 1) := by decide +kernel
theorem dX8_work_202 : decode cX8_work 202 = .ok (.aload_n 0, 1) := by decide +kernel
theorem dX8_work_203 : decode cX8_work 203 = .ok (.getfield 143, 3) := by decide +kernel
theorem dX8_work_206 : decode cX8_work 206 = .ok (.if_icmp .ne 7, 3) := by decide +kernel
theorem dX8_work_209 : decode cX8_work 209 = .ok (.iconst 1, 1) := by decide +kernel
theorem dX8_work_210 : decode cX8_work 210 = .ok (.goto 4, 3) := by decide +kernel
theorem dX8_work_213 : decode cX8_work 213 = .ok (.iconst 0, 1) := by decide +kernel
theorem dX8_work_214 : decode cX8_work 214 = .ok (.ireturn, 1) := by decide +kernel
theorem dX8_exchange_0 : decode cX8_exchange 0 = .ok (.aload_n 0, 1) := by decide +kernel
theorem dX8_exchange_1 : decode cX8_exchange 1 = .ok (.getfield 37, 3) := by decide +kernel
theorem dX8_exchange_4 : decode cX8_exchange 4 = .ok (.bipush 32, 2) := by decide +kernel
theorem dX8_exchange_6 : decode cX8_exchange 6 = .ok (.iload_n 1, 1) := by decide +kernel
theorem dX8_exchange_7 : decode cX8_exchange 7 = .ok (.imul, 1) := by decide +kernel
theorem dX8_exchange_8 : decode cX8_exchange 8 = .ok (.iload_n 2, 1) := by decide +kernel
theorem dX8_exchange_9 : decode cX8_exchange 9 = .ok (.iadd, 1) := by decide +kernel
theorem dX8_exchange_10 : decode cX8_exchange 10 = .ok (.iaload, 1) := by decide +kernel
theorem dX8_exchange_11 : decode cX8_exchange 11 = .ok (.istore_n 3, 1) := by decide +kernel
theorem dX8_exchange_12 : decode cX8_exchange 12 = .ok (.aload_n 0, 1) := by decide +kernel
theorem dX8_exchange_13 : decode cX8_exchange 13 = .ok (.getfield 37, 3) := by decide +kernel
theorem dX8_exchange_16 : decode cX8_exchange 16 = .ok (.bipush 32, 2) := by decide +kernel
theorem dX8_exchange_18 : decode cX8_exchange 18 = .ok (.iload_n 1, 1) := by decide +kernel
theorem dX8_exchange_19 : decode cX8_exchange 19 = .ok (.imul, 1) := by decide +kernel
theorem dX8_exchange_20 : decode cX8_exchange 20 = .ok (.iload_n 2, 1) := by decide +kernel
theorem dX8_exchange_21 : decode cX8_exchange 21 = .ok (.iadd, 1) := by decide +kernel
theorem dX8_exchange_22 : decode cX8_exchange 22 = .ok (.aload_n 0, 1) := by decide +kernel
theorem dX8_exchange_23 : decode cX8_exchange 23 = .ok (.getfield 37, 3) := by decide +kernel
theorem dX8_exchange_26 : decode cX8_exchange 26 = .ok (.bipush 32, 2) := by decide +kernel
theorem dX8_exchange_28 : decode cX8_exchange 28 = .ok (.iload_n 1, 1) := by decide +kernel
theorem dX8_exchange_29 : decode cX8_exchange 29 = .ok (.imul, 1) := by decide +kernel
theorem dX8_exchange_30 : decode cX8_exchange 30 = .ok (.iload_n 2, 1) := by decide +kernel
theorem dX8_exchange_31 : decode cX8_exchange 31 = .ok (.iadd, 1) := by decide +kernel
theorem dX8_exchange_32 : decode cX8_exchange 32 = .ok (.iconst 1, 1) := by decide +kernel
theorem dX8_exchange_33 : decode cX8_exchange 33 = .ok (.iadd, 1) := by decide +kernel
theorem dX8_exchange_34 : decode cX8_exchange 34 = .ok (.iaload, 1) := by decide +kernel
theorem dX8_exchange_35 : decode cX8_exchange 35 = .ok (.iastore, 1) := by decide +kernel
theorem dX8_exchange_36 : decode cX8_exchange 36 = .ok (.aload_n 0, 1) := by decide +kernel
theorem dX8_exchange_37 : decode cX8_exchange 37 = .ok (.getfield 37, 3) := by decide +kernel
theorem dX8_exchange_40 : decode cX8_exchange 40 = .ok (.bipush 32, 2) := by decide +kernel
theorem dX8_exchange_42 : decode cX8_exchange 42 = .ok (.iload_n 1, 1) := by decide +kernel
theorem dX8_exchange_43 : decode cX8_exchange 43 = .ok (.imul, 1) := by decide +kernel
theorem dX8_exchange_44 : decode cX8_exchange 44 = .ok (.iload_n 2, 1) := by decide +kernel
theorem dX8_exchange_45 : decode cX8_exchange 45 = .ok (.iadd, 1) := by decide +kernel
theorem dX8_exchange_46 : decode cX8_exchange 46 = .ok (.iconst 1, 1) := by decide +kernel
theorem dX8_exchange_47 : decode cX8_exchange 47 = .ok (.iadd, 1) := by decide +kernel
theorem dX8_exchange_48 : decode cX8_exchange 48 = .ok (.iload_n 3, 1) := by decide +kernel
theorem dX8_exchange_49 : decode cX8_exchange 49 = .ok (.iastore, 1) := by decide +kernel
theorem dX8_exchange_50 : decode cX8_exchange 50 = .ok (.return_, 1) := by decide +kernel
theorem dX8_swap_0 : decode cX8_swap 0 = .ok (.iload_n 1, 1) := by decide +kernel
theorem dX8_swap_1 : decode cX8_swap 1 = .ok (.i2l, 1) := by decide +kernel
theorem dX8_swap_2 : decode cX8_swap 2 = .ok (.lconst 0, 1) := by decide +kernel
theorem dX8_swap_3 : decode cX8_swap 3 = .ok (.aload_n 0, 1) := by decide +kernel
theorem dX8_swap_4 : decode cX8_swap 4 = .ok (.getfield 133, 3) := by decide +kernel
theorem dX8_swap_7 : decode cX8_swap 7 = .ok (.iconst 1, 1) := by decide +kernel
theorem dX8_swap_8 : decode cX8_swap 8 = .ok (.isub, 1) := by decide +kernel
theorem dX8_swap_9 : decode cX8_swap 9 = .ok (.i2l, 1) := by decide +kernel
theorem dX8_swap_10 : decode cX8_swap 10 = .ok (.invokestatic 124, 3) := by decide +kernel
theorem dX8_swap_13 : decode cX8_swap 13 = .ok (.ifCond .ne 6, 3) := by decide +kernel
theorem dX8_swap_16 : decode cX8_swap 16 = .ok (.ldc 146, 2) := by decide +kernel
theorem dX8_swap_18 : decode cX8_swap 18 = .ok (.ireturn, 1) := by decide +kernel
theorem dX8_swap_19 : decode cX8_swap 19 = .ok (.iload_n 2, 1) := by decide +kernel
theorem dX8_swap_20 : decode cX8_swap 20 = .ok (.i2l, 1) := by decide +kernel
theorem dX8_swap_21 : decode cX8_swap 21 = .ok (.lconst 0, 1) := by decide +kernel
theorem dX8_swap_22 : decode cX8_swap 22 = .ok (.aload_n 0, 1) := by decide +kernel
theorem dX8_swap_23 : decode cX8_swap 23 = .ok (.getfield 40, 3) := by decide +kernel
theorem dX8_swap_26 : decode cX8_swap 26 = .ok (.iload_n 1, 1) := by decide +kernel
theorem dX8_swap_27 : decode cX8_swap 27 = .ok (.iaload, 1) := by decide +kernel
theorem dX8_swap_28 : decode cX8_swap 28 = .ok (.iconst 2, 1) := by decide +kernel
theorem dX8_swap_29 : decode cX8_swap 29 = .ok (.isub, 1) := by decide +kernel
theorem dX8_swap_30 : decode cX8_swap 30 = .ok (.i2l, 1) := by decide +kernel
theorem dX8_swap_31 : decode cX8_swap 31 = .ok (.invokestatic 124, 3) := by decide +kernel
theorem dX8_swap_34 : decode cX8_swap 34 = .ok (.ifCond .ne 6, 3) := by decide +kernel
theorem dX8_swap_37 : decode cX8_swap 37 = .ok (.ldc 132, 2) := by decide +kernel
theorem dX8_swap_39 : decode cX8_swap 39 = .ok (.ireturn, 1) := by decide +kernel
theorem dX8_swap_40 : decode cX8_swap 40 = .ok (.aload_n 0, 1) := by decide +kernel
theorem dX8_swap_41 : decode cX8_swap 41 = .ok (.getfield 7, 3) := by decide +kernel
theorem dX8_swap_44 : decode cX8_swap 44 = .ok (.iload_n 1, 1) := by decide +kernel
theorem dX8_swap_45 : decode cX8_swap 45 = .ok (.iaload, 1) := by decide +kernel
theorem dX8_swap_46 : decode cX8_swap 46 = .ok (.iconst 1, 1) := by decide +kernel
theorem dX8_swap_47 : decode cX8_swap 47 = .ok (.if_icmp .ne 6, 3) := by decide +kernel
theorem dX8_swap_50 : decode cX8_swap 50 = .ok (.ldc 179, 2) := by decide +kernel
theorem dX8_swap_52 : decode cX8_swap 52 = .ok (.ireturn, 1) := by decide +kernel
theorem dX8_swap_53 : decode cX8_swap 53 = .ok (.aload_n 0, 1) := by decide +kernel
theorem dX8_swap_54 : decode cX8_swap 54 = .ok (.invokevirtual 192, 3) := by decide +kernel
theorem dX8_swap_57 : decode cX8_swap 57 = .ok (.istore_n 3, 1) := by decide +kernel
theorem dX8_swap_58 : decode cX8_swap 58 = .ok (.aload_n 0, 1) := by decide +kernel
theorem dX8_swap_59 : decode cX8_swap 59 = .ok (.iload_n 1, 1) := by decide +kernel
theorem dX8_swap_60 : decode cX8_swap 60 = .ok (.iload_n 2, 1) := by decide +kernel
theorem dX8_swap_61 : decode cX8_swap 61 = .ok (.invokevirtual 195, 3) := by decide +kernel
theorem dX8_swap_64 : decode cX8_swap 64 = .ok (.iload_n 3, 1) := by decide +kernel
theorem dX8_swap_65 : decode cX8_swap 65 = .ok (.ifCond .eq 18, 3) := by decide +kernel
theorem dX8_swap_68 : decode cX8_swap 68 = .ok (.aload_n 0, 1) := by decide +kernel
theorem dX8_swap_69 : decode cX8_swap 69 = .ok (.invokevirtual 192, 3) := by decide +kernel
theorem dX8_swap_72 : decode cX8_swap 72 = .ok (.ifCond .ne 11, 3) := by decide +kernel
theorem dX8_swap_75 : decode cX8_swap 75 = .ok (.aload_n 0, 1) := by decide +kernel
theorem dX8_swap_76 : decode cX8_swap 76 = .ok (.iload_n 1, 1) := by decide +kernel
theorem dX8_swap_77 : decode cX8_swap 77 = .ok (.iload_n 2, 1) := by decide +kernel
theorem dX8_swap_78 : decode cX8_swap 78 = .ok (.invokevirtual 195, 3) := by decide +kernel
theorem dX8_swap_81 : decode cX8_swap 81 = .ok (.iconst 0, 1) := by decide +kernel
theorem dX8_swap_82 : decode cX8_swap 82 = .ok (.ireturn, 1) := by decide +kernel
theorem dX8_swap_83 : decode cX8_swap 83 = .ok (.iconst 1, 1) := by decide +kernel
theorem dX8_swap_84 : decode cX8_swap 84 = .ok (.ireturn, 1) := by decide +kernel
theorem dX8_lay_0 : decode cX8_lay 0 = .ok (.aload_n 0, 1) := by decide +kernel
theorem dX8_lay_1 : decode cX8_lay 1 = .ok (.iload_n 1, 1) := by decide +kernel
theorem dX8_lay_2 : decode cX8_lay 2 = .ok (.invokevirtual 153, 3) := by decide +kernel
theorem dX8_lay_5 : decode cX8_lay 5 = .ok (.ifCond .ne 6, 3) := by decide +kernel
theorem dX8_lay_8 : decode cX8_lay 8 = .ok (.ldc 146, 2) := by decide +kernel
theorem dX8_lay_10 : decode cX8_lay 10 = .ok (.ireturn, 1) := by decide +kernel
theorem dX8_lay_11 : decode cX8_lay 11 = .ok (.aload_n 0, 1) := by decide +kernel
theorem dX8_lay_12 : decode cX8_lay 12 = .ok (.getfield 28, 3) := by decide +kernel
theorem dX8_lay_15 : decode cX8_lay 15 = .ok (.iload_n 1, 1) := by decide +kernel
theorem dX8_lay_16 : decode cX8_lay 16 = .ok (.iaload, 1) := by decide +kernel
theorem dX8_lay_17 : decode cX8_lay 17 = .ok (.istore_n 3, 1) := by decide +kernel
theorem dX8_lay_18 : decode cX8_lay 18 = .ok (.iload_n 2, 1) := by decide +kernel
theorem dX8_lay_19 : decode cX8_lay 19 = .ok (.i2l, 1) := by decide +kernel
theorem dX8_lay_20 : decode cX8_lay 20 = .ok (.lconst 0, 1) := by decide +kernel
theorem dX8_lay_21 : decode cX8_lay 21 = .ok (.aload_n 0, 1) := by decide +kernel
theorem dX8_lay_22 : decode cX8_lay 22 = .ok (.getfield 40, 3) := by decide +kernel
theorem dX8_lay_25 : decode cX8_lay 25 = .ok (.iload_n 3, 1) := by decide +kernel
theorem dX8_lay_26 : decode cX8_lay 26 = .ok (.iaload, 1) := by decide +kernel
theorem dX8_lay_27 : decode cX8_lay 27 = .ok (.iconst 1, 1) := by decide +kernel
theorem dX8_lay_28 : decode cX8_lay 28 = .ok (.isub, 1) := by decide +kernel
theorem dX8_lay_29 : decode cX8_lay 29 = .ok (.i2l, 1) := by decide +kernel
theorem dX8_lay_30 : decode cX8_lay 30 = .ok (.invokestatic 124, 3) := by decide +kernel
theorem dX8_lay_33 : decode cX8_lay 33 = .ok (.ifCond .ne 6, 3) := by decide +kernel
theorem dX8_lay_36 : decode cX8_lay 36 = .ok (.ldc 132, 2) := by decide +kernel
theorem dX8_lay_38 : decode cX8_lay 38 = .ok (.ireturn, 1) := by decide +kernel
theorem dX8_lay_39 : decode cX8_lay 39 = .ok (.aload_n 0, 1) := by decide +kernel
theorem dX8_lay_40 : decode cX8_lay 40 = .ok (.iload_n 1, 1) := by decide +kernel
theorem dX8_lay_41 : decode cX8_lay 41 = .ok (.invokevirtual 157, 3) := by decide +kernel
theorem dX8_lay_44 : decode cX8_lay 44 = .ok (.istore 4, 2) := by decide +kernel
theorem dX8_lay_46 : decode cX8_lay 46 = .ok (.iload 4, 2) := by decide +kernel
theorem dX8_lay_48 : decode cX8_lay 48 = .ok (.iload_n 2, 1) := by decide +kernel
theorem dX8_lay_49 : decode cX8_lay 49 = .ok (.if_icmp .ge 16, 3) := by decide +kernel
theorem dX8_lay_52 : decode cX8_lay 52 = .ok (.aload_n 0, 1) := by decide +kernel
theorem dX8_lay_53 : decode cX8_lay 53 = .ok (.iload_n 3, 1) := by decide +kernel
theorem dX8_lay_54 : decode cX8_lay 54 = .ok (.iload 4, 2) := by decide +kernel
theorem dX8_lay_56 : decode cX8_lay 56 = .ok (.invokevirtual 195, 3) := by decide +kernel
theorem dX8_lay_59 : decode cX8_lay 59 = .ok (.iinc 4 1, 3) := by decide +kernel
theorem dX8_lay_62 : decode cX8_lay 62 = .ok (.goto (-16), 3) := by decide +kernel
theorem dX8_lay_65 : decode cX8_lay 65 = .ok (.iload 4, 2) := by decide +kernel
theorem dX8_lay_67 : decode cX8_lay 67 = .ok (.iload_n 2, 1) := by decide +kernel
theorem dX8_lay_68 : decode cX8_lay 68 = .ok (.if_icmp .le 18, 3) := by decide +kernel
theorem dX8_lay_71 : decode cX8_lay 71 = .ok (.aload_n 0, 1) := by decide +kernel
theorem dX8_lay_72 : decode cX8_lay 72 = .ok (.iload_n 3, 1) := by decide +kernel
theorem dX8_lay_73 : decode cX8_lay 73 = .ok (.iload 4, 2) := by decide +kernel
theorem dX8_lay_75 : decode cX8_lay 75 = .ok (.iconst 1, 1) := by decide +kernel
theorem dX8_lay_76 : decode cX8_lay 76 = .ok (.isub, 1) := by decide +kernel
theorem dX8_lay_77 : decode cX8_lay 77 = .ok (.invokevirtual 195, 3) := by decide +kernel
theorem dX8_lay_80 : decode cX8_lay 80 = .ok (.iinc 4 (-1), 3) := by decide +kernel
theorem dX8_lay_83 : decode cX8_lay 83 = .ok (.goto (-18), 3) := by decide +kernel
theorem dX8_lay_86 : decode cX8_lay 86 = .ok (.aload_n 0, 1) := by decide +kernel
theorem dX8_lay_87 : decode cX8_lay 87 = .ok (.invokevirtual 192, 3) := by decide +kernel
theorem dX8_lay_90 : decode cX8_lay 90 = .ok (.ifCond .eq 7, 3) := by decide +kernel
theorem dX8_lay_93 : decode cX8_lay 93 = .ok (.iconst 1, 1) := by decide +kernel
theorem dX8_lay_94 : decode cX8_lay 94 = .ok (.goto 4, 3) := by decide +kernel
theorem dX8_lay_97 : decode cX8_lay 97 = .ok (.iconst 0, 1) := by decide +kernel
theorem dX8_lay_98 : decode cX8_lay 98 = .ok (.ireturn, 1) := by decide +kernel
theorem dX8_end_0 : decode cX8_end 0 = .ok (.aload_n 0, 1) := by decide +kernel
theorem dX8_end_1 : decode cX8_end 1 = .ok (.invokevirtual 192, 3) := by decide +kernel
theorem dX8_end_4 : decode cX8_end 4 = .ok (.ifCond .eq 10, 3) := by decide +kernel
theorem dX8_end_7 : decode cX8_end 7 = .ok (.aload_n 0, 1) := by decide +kernel
theorem dX8_end_8 : decode cX8_end 8 = .ok (.getfield 183, 3) := by decide +kernel
theorem dX8_end_11 : decode cX8_end 11 = .ok (.goto 4, 3) := by decide +kernel
theorem dX8_end_14 : decode cX8_end 14 = .ok (.iconst (-1), 1) := by decide +kernel
theorem dX8_end_15 : decode cX8_end 15 = .ok (.ireturn, 1) := by decide +kernel
theorem dX8_begin_0 : decode cX8_begin 0 = .ok (.aload_n 0, 1) := by decide +kernel
theorem dX8_begin_1 : decode cX8_begin 1 = .ok (.iload_n 1, 1) := by decide +kernel
theorem dX8_begin_2 : decode cX8_begin 2 = .ok (.invokevirtual 153, 3) := by decide +kernel
theorem dX8_begin_5 : decode cX8_begin 5 = .ok (.ifCond .ne 8, 3) := by decide +kernel
theorem dX8_begin_8 : decode cX8_begin 8 = .ok (.ldc 146, 2) := by decide +kernel
theorem dX8_begin_10 : decode cX8_begin 10 = .ok (.goto 21, 3) := by decide +kernel
theorem dX8_begin_13 : decode cX8_begin 13 = .ok (.aload_n 0, 1) := by decide +kernel
theorem dX8_begin_14 : decode cX8_begin 14 = .ok (.invokevirtual 192, 3) := by decide +kernel
theorem dX8_begin_17 : decode cX8_begin 17 = .ok (.ifCond .eq 12, 3) := by decide +kernel
theorem dX8_begin_20 : decode cX8_begin 20 = .ok (.aload_n 0, 1) := by decide +kernel
theorem dX8_begin_21 : decode cX8_begin 21 = .ok (.getfield 55, 3) := by decide +kernel
theorem dX8_begin_24 : decode cX8_begin 24 = .ok (.iload_n 1, 1) := by decide +kernel
theorem dX8_begin_25 : decode cX8_begin 25 = .ok (.iaload, 1) := by decide +kernel
theorem dX8_begin_26 : decode cX8_begin 26 = .ok (.goto 5, 3) := by decide +kernel
theorem dX8_begin_29 : decode cX8_begin 29 = .ok (.ldc 179, 2) := by decide +kernel
theorem dX8_begin_31 : decode cX8_begin 31 = .ok (.ireturn, 1) := by decide +kernel
theorem dX8_next_0 : decode cX8_next 0 = .ok (.aload_n 0, 1) := by decide +kernel
theorem dX8_next_1 : decode cX8_next 1 = .ok (.getfield 28, 3) := by decide +kernel
theorem dX8_next_4 : decode cX8_next 4 = .ok (.iload_n 1, 1) := by decide +kernel
theorem dX8_next_5 : decode cX8_next 5 = .ok (.iaload, 1) := by decide +kernel
theorem dX8_next_6 : decode cX8_next 6 = .ok (.istore_n 2, 1) := by decide +kernel
theorem dX8_next_7 : decode cX8_next 7 = .ok (.aload_n 0, 1) := by decide +kernel
theorem dX8_next_8 : decode cX8_next 8 = .ok (.iload_n 1, 1) := by decide +kernel
theorem dX8_next_9 : decode cX8_next 9 = .ok (.invokevirtual 157, 3) := by decide +kernel
theorem dX8_next_12 : decode cX8_next 12 = .ok (.istore_n 3, 1) := by decide +kernel
theorem dX8_next_13 : decode cX8_next 13 = .ok (.aload_n 0, 1) := by decide +kernel
theorem dX8_next_14 : decode cX8_next 14 = .ok (.getfield 7, 3) := by decide +kernel
theorem dX8_next_17 : decode cX8_next 17 = .ok (.iload_n 2, 1) := by decide +kernel
theorem dX8_next_18 : decode cX8_next 18 = .ok (.iaload, 1) := by decide +kernel
theorem dX8_next_19 : decode cX8_next 19 = .ok (.ifCond .ne 31, 3) := by decide +kernel
theorem dX8_next_22 : decode cX8_next 22 = .ok (.iload_n 3, 1) := by decide +kernel
theorem dX8_next_23 : decode cX8_next 23 = .ok (.iconst 1, 1) := by decide +kernel
theorem dX8_next_24 : decode cX8_next 24 = .ok (.iadd, 1) := by decide +kernel
theorem dX8_next_25 : decode cX8_next 25 = .ok (.aload_n 0, 1) := by decide +kernel
theorem dX8_next_26 : decode cX8_next 26 = .ok (.getfield 40, 3) := by decide +kernel
theorem dX8_next_29 : decode cX8_next 29 = .ok (.iload_n 2, 1) := by decide +kernel
theorem dX8_next_30 : decode cX8_next 30 = .ok (.iaload, 1) := by decide +kernel
theorem dX8_next_31 : decode cX8_next 31 = .ok (.if_icmp .ge 19, 3) := by decide +kernel
theorem dX8_next_34 : decode cX8_next 34 = .ok (.aload_n 0, 1) := by decide +kernel
theorem dX8_next_35 : decode cX8_next 35 = .ok (.getfield 37, 3) := by decide +kernel
theorem dX8_next_38 : decode cX8_next 38 = .ok (.bipush 32, 2) := by decide +kernel
theorem dX8_next_40 : decode cX8_next 40 = .ok (.iload_n 2, 1) := by decide +kernel
theorem dX8_next_41 : decode cX8_next 41 = .ok (.imul, 1) := by decide +kernel
theorem dX8_next_42 : decode cX8_next 42 = .ok (.iload_n 3, 1) := by decide +kernel
theorem dX8_next_43 : decode cX8_next 43 = .ok (.iadd, 1) := by decide +kernel
theorem dX8_next_44 : decode cX8_next 44 = .ok (.iconst 1, 1) := by decide +kernel
theorem dX8_next_45 : decode cX8_next 45 = .ok (.iadd, 1) := by decide +kernel
theorem dX8_next_46 : decode cX8_next 46 = .ok (.iaload, 1) := by decide +kernel
theorem dX8_next_47 : decode cX8_next 47 = .ok (.goto 4, 3) := by decide +kernel
theorem dX8_next_50 : decode cX8_next 50 = .ok (.iconst (-1), 1) := by decide +kernel
theorem dX8_next_51 : decode cX8_next 51 = .ok (.ireturn, 1) := by decide +kernel
theorem dX8_workTails_0 : decode cX8_workTails 0 = .ok (.iconst 0, 1) := by decide +kernel
theorem dX8_workTails_1 : decode cX8_workTails 1 = .ok (.istore_n 1, 1) := by decide +kernel
theorem dX8_workTails_2 : decode cX8_workTails 2 = .ok (.iload_n 1, 1) := by decide +kernel
theorem dX8_workTails_3 : decode cX8_workTails 3 = .ok (.aload_n 0, 1) := by decide +kernel
theorem dX8_workTails_4 : decode cX8_workTails 4 = .ok (.getfield 143, 3) := by decide +kernel
theorem dX8_workTails_7 : decode cX8_workTails 7 = .ok (.if_icmp .ge 16, 3) := by decide +kernel
theorem dX8_workTails_10 : decode cX8_workTails 10 = .ok (.aload_n 0, 1) := by decide +kernel
theorem dX8_workTails_11 : decode cX8_workTails 11 = .ok (.getfield 58, 3) := by decide +kernel
theorem dX8_workTails_14 : decode cX8_workTails 14 = .ok (.iload_n 1, 1) := by decide +kernel
theorem dX8_workTails_15 : decode cX8_workTails 15 = .ok (.iconst 0, 1) := by decide +kernel
theorem dX8_workTails_16 : decode cX8_workTails 16 = .ok (.bastore, 1) := by decide +kernel
theorem dX8_workTails_17 : decode cX8_workTails 17 = .ok (.iinc 1 1, 3) := by decide +kernel
theorem dX8_workTails_20 : decode cX8_workTails 20 = .ok (.goto (-18), 3) := by decide +kernel
theorem dX8_workTails_23 : decode cX8_workTails 23 = .ok (.iconst 0, 1) := by decide +kernel
theorem dX8_workTails_24 : decode cX8_workTails 24 = .ok (.istore_n 1, 1) := by decide +kernel
theorem dX8_workTails_25 : decode cX8_workTails 25 = .ok (.iload_n 1, 1) := by decide +kernel
theorem dX8_workTails_26 : decode cX8_workTails 26 = .ok (.aload_n 0, 1) := by decide +kernel
theorem dX8_workTails_27 : decode cX8_workTails 27 = .ok (.getfield 143, 3) := by decide +kernel
theorem dX8_workTails_30 : decode cX8_workTails 30 = .ok (.if_icmp .ge 146, 3) := by decide +kernel
theorem dX8_workTails_33 : decode cX8_workTails 33 = .ok (.iconst (-1), 1) := by decide +kernel
theorem dX8_workTails_34 : decode cX8_workTails 34 = .ok (.istore_n 2, 1) := by decide +kernel
theorem dX8_workTails_35 : decode cX8_workTails 35 = .ok (.iconst 0, 1) := by decide +kernel
theorem dX8_workTails_36 : decode cX8_workTails 36 = .ok (.istore_n 3, 1) := by decide +kernel
theorem dX8_workTails_37 : decode cX8_workTails 37 = .ok (.iload_n 3, 1) := by decide +kernel
theorem dX8_workTails_38 : decode cX8_workTails 38 = .ok (.aload_n 0, 1) := by decide +kernel
theorem dX8_workTails_39 : decode cX8_workTails 39 = .ok (.getfield 143, 3) := by decide +kernel
theorem dX8_workTails_42 : decode cX8_workTails 42 = .ok (.if_icmp .ge 39, 3) := by decide +kernel
theorem dX8_workTails_45 : decode cX8_workTails 45 = .ok (.aload_n 0, 1) := by decide +kernel
theorem dX8_workTails_46 : decode cX8_workTails 46 = .ok (.getfield 58, 3) := by decide +kernel
theorem dX8_workTails_49 : decode cX8_workTails 49 = .ok (.iload_n 3, 1) := by decide +kernel
theorem dX8_workTails_50 : decode cX8_workTails 50 = .ok (.baload, 1) := by decide +kernel
theorem dX8_workTails_51 : decode cX8_workTails 51 = .ok (.ifCond .ne 24, 3) := by decide +kernel
theorem dX8_workTails_54 : decode cX8_workTails 54 = .ok (.iload_n 2, 1) := by decide +kernel
theorem dX8_workTails_55 : decode cX8_workTails 55 = .ok (.ifCond .lt 18, 3) := by decide +kernel
theorem dX8_workTails_58 : decode cX8_workTails 58 = .ok (.aload_n 0, 1) := by decide +kernel
theorem dX8_workTails_59 : decode cX8_workTails 59 = .ok (.getfield 55, 3) := by decide +kernel
theorem dX8_workTails_62 : decode cX8_workTails 62 = .ok (.iload_n 3, 1) := by decide +kernel
theorem dX8_workTails_63 : decode cX8_workTails 63 = .ok (.iaload, 1) := by decide +kernel
theorem dX8_workTails_64 : decode cX8_workTails 64 = .ok (.aload_n 0, 1) := by decide +kernel
theorem dX8_workTails_65 : decode cX8_workTails 65 = .ok (.getfield 55, 3) := by decide +kernel
theorem dX8_workTails_68 : decode cX8_workTails 68 = .ok (.iload_n 2, 1) := by decide +kernel
theorem dX8_workTails_69 : decode cX8_workTails 69 = .ok (.iaload, 1) := by decide +kernel
theorem dX8_workTails_70 : decode cX8_workTails 70 = .ok (.if_icmp .le 5, 3) := by decide +kernel
theorem dX8_workTails_73 : decode cX8_workTails 73 = .ok (.iload_n 3, 1) := by decide +kernel
theorem dX8_workTails_74 : decode cX8_workTails 74 = .ok (.istore_n 2, 1) := by decide +kernel
theorem dX8_workTails_75 : decode cX8_workTails 75 = .ok (.iinc 3 1, 3) := by decide +kernel
theorem dX8_workTails_78 : decode cX8_workTails 78 = .ok (.goto (-41), 3) := by decide +kernel
theorem dX8_workTails_81 : decode cX8_workTails 81 = .ok (.aload_n 0, 1) := by decide +kernel
theorem dX8_workTails_82 : decode cX8_workTails 82 = .ok (.iload_n 2, 1) := by decide +kernel
theorem dX8_workTails_83 : decode cX8_workTails 83 = .ok (.invokevirtual 199, 3) := by decide +kernel
theorem dX8_workTails_86 : decode cX8_workTails 86 = .ok (.istore_n 3, 1) := by decide +kernel
theorem dX8_workTails_87 : decode cX8_workTails 87 = .ok (.aload_n 0, 1) := by decide +kernel
theorem dX8_workTails_88 : decode cX8_workTails 88 = .ok (.iload_n 2, 1) := by decide +kernel
theorem dX8_workTails_89 : decode cX8_workTails 89 = .ok (.invokevirtual 202, 3) := by decide +kernel
theorem dX8_workTails_92 : decode cX8_workTails 92 = .ok (.istore 4, 2) := by decide +kernel
theorem dX8_workTails_94 : decode cX8_workTails 94 = .ok (.iload_n 3, 1) := by decide +kernel
theorem dX8_workTails_95 : decode cX8_workTails 95 = .ok (.ifCond .ge 7, 3) := by decide +kernel
theorem dX8_workTails_98 : decode cX8_workTails 98 = .ok (.iconst 0, 1) := by decide +kernel
theorem dX8_workTails_99 : decode cX8_workTails 99 = .ok (.goto 16, 3) := by decide +kernel
theorem dX8_workTails_102 : decode cX8_workTails 102 = .ok (.aload_n 0, 1) := by decide +kernel
theorem dX8_workTails_103 : decode cX8_workTails 103 = .ok (.getfield 31, 3) := by decide +kernel
theorem dX8_workTails_106 : decode cX8_workTails 106 = .ok (.iload_n 3, 1) := by decide +kernel
theorem dX8_workTails_107 : decode cX8_workTails 107 = .ok (.iaload, 1) := by decide +kernel
theorem dX8_workTails_108 : decode cX8_workTails 108 = .ok (.aload_n 0, 1) := by decide +kernel
theorem dX8_workTails_109 : decode cX8_workTails 109 = .ok (.getfield 65, 3) := by decide +kernel
theorem dX8_workTails_112 : decode cX8_workTails 112 = .ok (.iload_n 3, 1) := by decide +kernel
theorem dX8_workTails_113 : decode cX8_workTails 113 = .ok (.iaload, 1) := by decide +kernel
theorem dX8_workTails_114 : decode cX8_workTails 114 = .ok (.iadd, 1) := by decide +kernel
theorem dX8_workTails_115 : decode cX8_workTails 115 = .ok (.istore 5, 2) := by decide +kernel
theorem dX8_workTails_117 : decode cX8_workTails 117 = .ok (.iload 4, 2) := by decide +kernel
theorem dX8_workTails_119 : decode cX8_workTails 119 = .ok (.ifCond .ge 7, 3) := by decide +kernel
theorem dX8_workTails_122 : decode cX8_workTails 122 = .ok (.iconst 0, 1) := by decide +kernel
theorem dX8_workTails_123 : decode cX8_workTails 123 = .ok (.goto 18, 3) := by decide +kernel
theorem dX8_workTails_126 : decode cX8_workTails 126 = .ok (.aload_n 0, 1) := by decide +kernel
theorem dX8_workTails_127 : decode cX8_workTails 127 = .ok (.getfield 31, 3) := by decide +kernel
theorem dX8_workTails_130 : decode cX8_workTails 130 = .ok (.iload 4, 2) := by decide +kernel
theorem dX8_workTails_132 : decode cX8_workTails 132 = .ok (.iaload, 1) := by decide +kernel
theorem dX8_workTails_133 : decode cX8_workTails 133 = .ok (.aload_n 0, 1) := by decide +kernel
theorem dX8_workTails_134 : decode cX8_workTails 134 = .ok (.getfield 65, 3) := by decide +kernel
theorem dX8_workTails_137 : decode cX8_workTails 137 = .ok (.iload 4, 2) := by decide +kernel
theorem dX8_workTails_139 : decode cX8_workTails 139 = .ok (.iaload, 1) := by decide +kernel
theorem dX8_workTails_140 : decode cX8_workTails 140 = .ok (.iadd, 1) := by decide +kernel
theorem dX8_workTails_141 : decode cX8_workTails 141 = .ok (.istore 6, 2) := by decide +kernel
theorem dX8_workTails_143 : decode cX8_workTails 143 = .ok (.aload_n 0, 1) := by decide +kernel
theorem dX8_workTails_144 : decode cX8_workTails 144 = .ok (.getfield 65, 3) := by decide +kernel
theorem dX8_workTails_147 : decode cX8_workTails 147 = .ok (.iload_n 2, 1) := by decide +kernel
theorem dX8_workTails_148 : decode cX8_workTails 148 = .ok (.iload 5, 2) := by decide +kernel
theorem dX8_workTails_150 : decode cX8_workTails 150 = .ok (.iload 6, 2) := by decide +kernel
theorem dX8_workTails_152 : decode cX8_workTails 152 = .ok (.if_icmp .le 8, 3) := by decide +kernel
theorem dX8_workTails_155 : decode cX8_workTails 155 = .ok (.iload 5, 2) := by decide +kernel
theorem dX8_workTails_157 : decode cX8_workTails 157 = .ok (.goto 5, 3) := by decide +kernel
theorem dX8_workTails_160 : decode cX8_workTails 160 = .ok (.iload 6, 2) := by decide +kernel
theorem dX8_workTails_162 : decode cX8_workTails 162 = .ok (.iastore, 1) := by decide +kernel
theorem dX8_workTails_163 : decode cX8_workTails 163 = .ok (.aload_n 0, 1) := by decide +kernel
theorem dX8_workTails_164 : decode cX8_workTails 164 = .ok (.getfield 58, 3) := by decide +kernel
theorem dX8_workTails_167 : decode cX8_workTails 167 = .ok (.iload_n 2, 1) := by decide +kernel
theorem dX8_workTails_168 : decode cX8_workTails 168 = .ok (.iconst 1, 1) := by decide +kernel
theorem dX8_workTails_169 : decode cX8_workTails 169 = .ok (.bastore, 1) := by decide +kernel
theorem dX8_workTails_170 : decode cX8_workTails 170 = .ok (.iinc 1 1, 3) := by decide +kernel
theorem dX8_workTails_173 : decode cX8_workTails 173 = .ok (.goto (-148), 3) := by decide +kernel
theorem dX8_workTails_176 : decode cX8_workTails 176 = .ok (.return_, 1) := by decide +kernel
theorem dX8_hasTails_0 : decode cX8_hasTails 0 = .ok (.aload_n 0, 1) := by decide +kernel
theorem dX8_hasTails_1 : decode cX8_hasTails 1 = .ok (.invokevirtual 161, 3) := by decide +kernel
theorem dX8_hasTails_4 : decode cX8_hasTails 4 = .ok (.ifCond .eq 10, 3) := by decide +kernel
theorem dX8_hasTails_7 : decode cX8_hasTails 7 = .ok (.aload_n 0, 1) := by decide +kernel
theorem dX8_hasTails_8 : decode cX8_hasTails 8 = .ok (.invokevirtual 192, 3) := by decide +kernel
theorem dX8_hasTails_11 : decode cX8_hasTails 11 = .ok (.ifCond .ne 5, 3) := by decide +kernel
theorem dX8_hasTails_14 : decode cX8_hasTails 14 = .ok (.iconst 0, 1) := by decide +kernel
theorem dX8_hasTails_15 : decode cX8_hasTails 15 = .ok (.ireturn, 1) := by decide +kernel
theorem dX8_hasTails_16 : decode cX8_hasTails 16 = .ok (.aload_n 0, 1) := by decide +kernel
theorem dX8_hasTails_17 : decode cX8_hasTails 17 = .ok (.invokevirtual 205, 3) := by decide +kernel
theorem dX8_hasTails_20 : decode cX8_hasTails 20 = .ok (.iconst 1, 1) := by decide +kernel
theorem dX8_hasTails_21 : decode cX8_hasTails 21 = .ok (.ireturn, 1) := by decide +kernel
theorem dX8_slack_0 : decode cX8_slack 0 = .ok (.aload_n 0, 1) := by decide +kernel
theorem dX8_slack_1 : decode cX8_slack 1 = .ok (.getfield 183, 3) := by decide +kernel
theorem dX8_slack_4 : decode cX8_slack 4 = .ok (.aload_n 0, 1) := by decide +kernel
theorem dX8_slack_5 : decode cX8_slack 5 = .ok (.getfield 55, 3) := by decide +kernel
theorem dX8_slack_8 : decode cX8_slack 8 = .ok (.iload_n 1, 1) := by decide +kernel
theorem dX8_slack_9 : decode cX8_slack 9 = .ok (.iaload, 1) := by decide +kernel
theorem dX8_slack_10 : decode cX8_slack 10 = .ok (.isub, 1) := by decide +kernel
theorem dX8_slack_11 : decode cX8_slack 11 = .ok (.aload_n 0, 1) := by decide +kernel
theorem dX8_slack_12 : decode cX8_slack 12 = .ok (.getfield 31, 3) := by decide +kernel
theorem dX8_slack_15 : decode cX8_slack 15 = .ok (.iload_n 1, 1) := by decide +kernel
theorem dX8_slack_16 : decode cX8_slack 16 = .ok (.iaload, 1) := by decide +kernel
theorem dX8_slack_17 : decode cX8_slack 17 = .ok (.isub, 1) := by decide +kernel
theorem dX8_slack_18 : decode cX8_slack 18 = .ok (.aload_n 0, 1) := by decide +kernel
theorem dX8_slack_19 : decode cX8_slack 19 = .ok (.getfield 65, 3) := by decide +kernel
theorem dX8_slack_22 : decode cX8_slack 22 = .ok (.iload_n 1, 1) := by decide +kernel
theorem dX8_slack_23 : decode cX8_slack 23 = .ok (.iaload, 1) := by decide +kernel
theorem dX8_slack_24 : decode cX8_slack 24 = .ok (.isub, 1) := by decide +kernel
theorem dX8_slack_25 : decode cX8_slack 25 = .ok (.ireturn, 1) := by decide +kernel
theorem dX8_tail_0 : decode cX8_tail 0 = .ok (.aload_n 0, 1) := by decide +kernel
theorem dX8_tail_1 : decode cX8_tail 1 = .ok (.iload_n 1, 1) := by decide +kernel
theorem dX8_tail_2 : decode cX8_tail 2 = .ok (.invokevirtual 153, 3) := by decide +kernel
theorem dX8_tail_5 : decode cX8_tail 5 = .ok (.ifCond .ne 6, 3) := by decide +kernel
theorem dX8_tail_8 : decode cX8_tail 8 = .ok (.ldc 146, 2) := by decide +kernel
theorem dX8_tail_10 : decode cX8_tail 10 = .ok (.ireturn, 1) := by decide +kernel
theorem dX8_tail_11 : decode cX8_tail 11 = .ok (.iload_n 2, 1) := by decide +kernel
theorem dX8_tail_12 : decode cX8_tail 12 = .ok (.i2l, 1) := by decide +kernel
theorem dX8_tail_13 : decode cX8_tail 13 = .ok (.lconst 0, 1) := by decide +kernel
theorem dX8_tail_14 : decode cX8_tail 14 = .ok (.lconst 1, 1) := by decide +kernel
theorem dX8_tail_15 : decode cX8_tail 15 = .ok (.invokestatic 124, 3) := by decide +kernel
theorem dX8_tail_18 : decode cX8_tail 18 = .ok (.ifCond .ne 6, 3) := by decide +kernel
theorem dX8_tail_21 : decode cX8_tail 21 = .ok (.ldc 132, 2) := by decide +kernel
theorem dX8_tail_23 : decode cX8_tail 23 = .ok (.ireturn, 1) := by decide +kernel
theorem dX8_tail_24 : decode cX8_tail 24 = .ok (.aload_n 0, 1) := by decide +kernel
theorem dX8_tail_25 : decode cX8_tail 25 = .ok (.invokevirtual 208, 3) := by decide +kernel
theorem dX8_tail_28 : decode cX8_tail 28 = .ok (.ifCond .ne 8, 3) := by decide +kernel
theorem dX8_tail_31 : decode cX8_tail 31 = .ok (.ldc 179, 2) := by decide +kernel
theorem dX8_tail_33 : decode cX8_tail 33 = .ok (.goto 21, 3) := by decide +kernel
theorem dX8_tail_36 : decode cX8_tail 36 = .ok (.iload_n 2, 1) := by decide +kernel
theorem dX8_tail_37 : decode cX8_tail 37 = .ok (.ifCond .ne 12, 3) := by decide +kernel
theorem dX8_tail_40 : decode cX8_tail 40 = .ok (.aload_n 0, 1) := by decide +kernel
theorem dX8_tail_41 : decode cX8_tail 41 = .ok (.getfield 65, 3) := by decide +kernel
theorem dX8_tail_44 : decode cX8_tail 44 = .ok (.iload_n 1, 1) := by decide +kernel
theorem dX8_tail_45 : decode cX8_tail 45 = .ok (.iaload, 1) := by decide +kernel
theorem dX8_tail_46 : decode cX8_tail 46 = .ok (.goto 8, 3) := by decide +kernel
theorem dX8_tail_49 : decode cX8_tail 49 = .ok (.aload_n 0, 1) := by decide +kernel
theorem dX8_tail_50 : decode cX8_tail 50 = .ok (.iload_n 1, 1) := by decide +kernel
theorem dX8_tail_51 : decode cX8_tail 51 = .ok (.invokevirtual 211, 3) := by decide +kernel
theorem dX8_tail_54 : decode cX8_tail 54 = .ok (.ireturn, 1) := by decide +kernel
theorem dX8_isNext_0 : decode cX8_isNext 0 = .ok (.iload_n 1, 1) := by decide +kernel
theorem dX8_isNext_1 : decode cX8_isNext 1 = .ok (.ifCond .lt 37, 3) := by decide +kernel
theorem dX8_isNext_4 : decode cX8_isNext 4 = .ok (.aload_n 0, 1) := by decide +kernel
theorem dX8_isNext_5 : decode cX8_isNext 5 = .ok (.getfield 55, 3) := by decide +kernel
theorem dX8_isNext_8 : decode cX8_isNext 8 = .ok (.iload_n 1, 1) := by decide +kernel
theorem dX8_isNext_9 : decode cX8_isNext 9 = .ok (.iaload, 1) := by decide +kernel
theorem dX8_isNext_10 : decode cX8_isNext 10 = .ok (.aload_n 0, 1) := by decide +kernel
theorem dX8_isNext_11 : decode cX8_isNext 11 = .ok (.getfield 55, 3) := by decide +kernel
theorem dX8_isNext_14 : decode cX8_isNext 14 = .ok (.iload_n 2, 1) := by decide +kernel
theorem dX8_isNext_15 : decode cX8_isNext 15 = .ok (.iaload, 1) := by decide +kernel
theorem dX8_isNext_16 : decode cX8_isNext 16 = .ok (.aload_n 0, 1) := by decide +kernel
theorem dX8_isNext_17 : decode cX8_isNext 17 = .ok (.getfield 31, 3) := by decide +kernel
theorem dX8_isNext_20 : decode cX8_isNext 20 = .ok (.iload_n 2, 1) := by decide +kernel
theorem dX8_isNext_21 : decode cX8_isNext 21 = .ok (.iaload, 1) := by decide +kernel
theorem dX8_isNext_22 : decode cX8_isNext 22 = .ok (.iadd, 1) := by decide +kernel
theorem dX8_isNext_23 : decode cX8_isNext 23 = .ok (.if_icmp .ne 15, 3) := by decide +kernel
theorem dX8_isNext_26 : decode cX8_isNext 26 = .ok (.aload_n 0, 1) := by decide +kernel
theorem dX8_isNext_27 : decode cX8_isNext 27 = .ok (.iload_n 1, 1) := by decide +kernel
theorem dX8_isNext_28 : decode cX8_isNext 28 = .ok (.invokevirtual 211, 3) := by decide +kernel
theorem dX8_isNext_31 : decode cX8_isNext 31 = .ok (.ifCond .ne 7, 3) := by decide +kernel
theorem dX8_isNext_34 : decode cX8_isNext 34 = .ok (.iconst 1, 1) := by decide +kernel
theorem dX8_isNext_35 : decode cX8_isNext 35 = .ok (.goto 4, 3) := by decide +kernel
theorem dX8_isNext_38 : decode cX8_isNext 38 = .ok (.iconst 0, 1) := by decide +kernel
theorem dX8_isNext_39 : decode cX8_isNext 39 = .ok (.ireturn, 1) := by decide +kernel
theorem dX8_row_0 : decode cX8_row 0 = .ok (.aload_n 0, 1) := by decide +kernel
theorem dX8_row_1 : decode cX8_row 1 = .ok (.invokevirtual 208, 3) := by decide +kernel
theorem dX8_row_4 : decode cX8_row 4 = .ok (.ifCond .ne 6, 3) := by decide +kernel
theorem dX8_row_7 : decode cX8_row 7 = .ok (.ldc 179, 2) := by decide +kernel
theorem dX8_row_9 : decode cX8_row 9 = .ok (.ireturn, 1) := by decide +kernel
theorem dX8_row_10 : decode cX8_row 10 = .ok (.iconst 0, 1) := by decide +kernel
theorem dX8_row_11 : decode cX8_row 11 = .ok (.istore_n 2, 1) := by decide +kernel
theorem dX8_row_12 : decode cX8_row 12 = .ok (.iload_n 2, 1) := by decide +kernel
theorem dX8_row_13 : decode cX8_row 13 = .ok (.aload_n 0, 1) := by decide +kernel
theorem dX8_row_14 : decode cX8_row 14 = .ok (.getfield 143, 3) := by decide +kernel
theorem dX8_row_17 : decode cX8_row 17 = .ok (.if_icmp .ge 26, 3) := by decide +kernel
theorem dX8_row_20 : decode cX8_row 20 = .ok (.aload_n 0, 1) := by decide +kernel
theorem dX8_row_21 : decode cX8_row 21 = .ok (.getfield 55, 3) := by decide +kernel
theorem dX8_row_24 : decode cX8_row 24 = .ok (.iload_n 2, 1) := by decide +kernel
theorem dX8_row_25 : decode cX8_row 25 = .ok (.iaload, 1) := by decide +kernel
theorem dX8_row_26 : decode cX8_row 26 = .ok (.ifCond .ne 11, 3) := by decide +kernel
theorem dX8_row_29 : decode cX8_row 29 = .ok (.aload_n 0, 1) := by decide +kernel
theorem dX8_row_30 : decode cX8_row 30 = .ok (.iload_n 2, 1) := by decide +kernel
theorem dX8_row_31 : decode cX8_row 31 = .ok (.invokevirtual 211, 3) := by decide +kernel
theorem dX8_row_34 : decode cX8_row 34 = .ok (.ifCond .eq 9, 3) := by decide +kernel
theorem dX8_row_37 : decode cX8_row 37 = .ok (.iinc 2 1, 3) := by decide +kernel
theorem dX8_row_40 : decode cX8_row 40 = .ok (.goto (-28), 3) := by decide +kernel
theorem dX8_row_43 : decode cX8_row 43 = .ok (.iload_n 2, 1) := by decide +kernel
theorem dX8_row_44 : decode cX8_row 44 = .ok (.aload_n 0, 1) := by decide +kernel
theorem dX8_row_45 : decode cX8_row 45 = .ok (.getfield 143, 3) := by decide +kernel
theorem dX8_row_48 : decode cX8_row 48 = .ok (.if_icmp .eq 7, 3) := by decide +kernel
theorem dX8_row_51 : decode cX8_row 51 = .ok (.iload_n 1, 1) := by decide +kernel
theorem dX8_row_52 : decode cX8_row 52 = .ok (.ifCond .ge 5, 3) := by decide +kernel
theorem dX8_row_55 : decode cX8_row 55 = .ok (.iconst (-1), 1) := by decide +kernel
theorem dX8_row_56 : decode cX8_row 56 = .ok (.ireturn, 1) := by decide +kernel
theorem dX8_row_57 : decode cX8_row 57 = .ok (.iconst 0, 1) := by decide +kernel
theorem dX8_row_58 : decode cX8_row 58 = .ok (.istore_n 3, 1) := by decide +kernel
theorem dX8_row_59 : decode cX8_row 59 = .ok (.iload_n 3, 1) := by decide +kernel
theorem dX8_row_60 : decode cX8_row 60 = .ok (.iload_n 1, 1) := by decide +kernel
theorem dX8_row_61 : decode cX8_row 61 = .ok (.if_icmp .ge 59, 3) := by decide +kernel
theorem dX8_row_64 : decode cX8_row 64 = .ok (.iload_n 2, 1) := by decide +kernel
theorem dX8_row_65 : decode cX8_row 65 = .ok (.ifCond .lt 55, 3) := by decide +kernel
theorem dX8_row_68 : decode cX8_row 68 = .ok (.aload_n 0, 1) := by decide +kernel
theorem dX8_row_69 : decode cX8_row 69 = .ok (.iload_n 2, 1) := by decide +kernel
theorem dX8_row_70 : decode cX8_row 70 = .ok (.invokevirtual 199, 3) := by decide +kernel
theorem dX8_row_73 : decode cX8_row 73 = .ok (.istore 4, 2) := by decide +kernel
theorem dX8_row_75 : decode cX8_row 75 = .ok (.aload_n 0, 1) := by decide +kernel
theorem dX8_row_76 : decode cX8_row 76 = .ok (.iload_n 2, 1) := by decide +kernel
theorem dX8_row_77 : decode cX8_row 77 = .ok (.invokevirtual 202, 3) := by decide +kernel
theorem dX8_row_80 : decode cX8_row 80 = .ok (.istore 5, 2) := by decide +kernel
theorem dX8_row_82 : decode cX8_row 82 = .ok (.aload_n 0, 1) := by decide +kernel
theorem dX8_row_83 : decode cX8_row 83 = .ok (.iload 4, 2) := by decide +kernel
theorem dX8_row_85 : decode cX8_row 85 = .ok (.iload_n 2, 1) := by decide +kernel
theorem dX8_row_86 : decode cX8_row 86 = .ok (.invokevirtual 214, 3) := by decide +kernel
theorem dX8_row_89 : decode cX8_row 89 = .ok (.ifCond .eq 8, 3) := by decide +kernel
theorem dX8_row_92 : decode cX8_row 92 = .ok (.iload 4, 2) := by decide +kernel
theorem dX8_row_94 : decode cX8_row 94 = .ok (.goto 19, 3) := by decide +kernel
theorem dX8_row_97 : decode cX8_row 97 = .ok (.aload_n 0, 1) := by decide +kernel
theorem dX8_row_98 : decode cX8_row 98 = .ok (.iload 5, 2) := by decide +kernel
theorem dX8_row_100 : decode cX8_row 100 = .ok (.iload_n 2, 1) := by decide +kernel
theorem dX8_row_101 : decode cX8_row 101 = .ok (.invokevirtual 214, 3) := by decide +kernel
theorem dX8_row_104 : decode cX8_row 104 = .ok (.ifCond .eq 8, 3) := by decide +kernel
theorem dX8_row_107 : decode cX8_row 107 = .ok (.iload 5, 2) := by decide +kernel
theorem dX8_row_109 : decode cX8_row 109 = .ok (.goto 4, 3) := by decide +kernel
theorem dX8_row_112 : decode cX8_row 112 = .ok (.iconst (-1), 1) := by decide +kernel
theorem dX8_row_113 : decode cX8_row 113 = .ok (.istore_n 2, 1) := by decide +kernel
theorem dX8_row_114 : decode cX8_row 114 = .ok (.iinc 3 1, 3) := by decide +kernel
theorem dX8_row_117 : decode cX8_row 117 = .ok (.goto (-58), 3) := by decide +kernel
theorem dX8_row_120 : decode cX8_row 120 = .ok (.iload_n 2, 1) := by decide +kernel
theorem dX8_row_121 : decode cX8_row 121 = .ok (.ireturn, 1) := by decide +kernel
theorem dX8_rule_0 : decode cX8_rule 0 = .ok (.iload_n 1, 1) := by decide +kernel
theorem dX8_rule_1 : decode cX8_rule 1 = .ok (.i2l, 1) := by decide +kernel
theorem dX8_rule_2 : decode cX8_rule 2 = .ok (.lconst 0, 1) := by decide +kernel
theorem dX8_rule_3 : decode cX8_rule 3 = .ok (.ldc2_w 174, 3) := by decide +kernel
theorem dX8_rule_6 : decode cX8_rule 6 = .ok (.invokestatic 124, 3) := by decide +kernel
theorem dX8_rule_9 : decode cX8_rule 9 = .ok (.ifCond .ne 6, 3) := by decide +kernel
theorem dX8_rule_12 : decode cX8_rule 12 = .ok (.ldc 132, 2) := by decide +kernel
theorem dX8_rule_14 : decode cX8_rule 14 = .ok (.ireturn, 1) := by decide +kernel
theorem dX8_rule_15 : decode cX8_rule 15 = .ok (.iconst 0, 1) := by decide +kernel
theorem dX8_rule_16 : decode cX8_rule 16 = .ok (.istore_n 2, 1) := by decide +kernel
theorem dX8_rule_17 : decode cX8_rule 17 = .ok (.iload_n 2, 1) := by decide +kernel
theorem dX8_rule_18 : decode cX8_rule 18 = .ok (.bipush 8, 2) := by decide +kernel
theorem dX8_rule_20 : decode cX8_rule 20 = .ok (.if_icmp .ge 16, 3) := by decide +kernel
theorem dX8_rule_23 : decode cX8_rule 23 = .ok (.aload_n 0, 1) := by decide +kernel
theorem dX8_rule_24 : decode cX8_rule 24 = .ok (.getfield 40, 3) := by decide +kernel
theorem dX8_rule_27 : decode cX8_rule 27 = .ok (.iload_n 2, 1) := by decide +kernel
theorem dX8_rule_28 : decode cX8_rule 28 = .ok (.iconst 0, 1) := by decide +kernel
theorem dX8_rule_29 : decode cX8_rule 29 = .ok (.iastore, 1) := by decide +kernel
theorem dX8_rule_30 : decode cX8_rule 30 = .ok (.iinc 2 1, 3) := by decide +kernel
theorem dX8_rule_33 : decode cX8_rule 33 = .ok (.goto (-16), 3) := by decide +kernel
theorem dX8_rule_36 : decode cX8_rule 36 = .ok (.iconst 0, 1) := by decide +kernel
theorem dX8_rule_37 : decode cX8_rule 37 = .ok (.istore_n 2, 1) := by decide +kernel
theorem dX8_rule_38 : decode cX8_rule 38 = .ok (.iload_n 2, 1) := by decide +kernel
theorem dX8_rule_39 : decode cX8_rule 39 = .ok (.aload_n 0, 1) := by decide +kernel
theorem dX8_rule_40 : decode cX8_rule 40 = .ok (.getfield 143, 3) := by decide +kernel
theorem dX8_rule_43 : decode cX8_rule 43 = .ok (.if_icmp .ge 16, 3) := by decide +kernel
theorem dX8_rule_46 : decode cX8_rule 46 = .ok (.aload_n 0, 1) := by decide +kernel
theorem dX8_rule_47 : decode cX8_rule 47 = .ok (.getfield 58, 3) := by decide +kernel
theorem dX8_rule_50 : decode cX8_rule 50 = .ok (.iload_n 2, 1) := by decide +kernel
theorem dX8_rule_51 : decode cX8_rule 51 = .ok (.iconst 0, 1) := by decide +kernel
theorem dX8_rule_52 : decode cX8_rule 52 = .ok (.bastore, 1) := by decide +kernel
theorem dX8_rule_53 : decode cX8_rule 53 = .ok (.iinc 2 1, 3) := by decide +kernel
theorem dX8_rule_56 : decode cX8_rule 56 = .ok (.goto (-18), 3) := by decide +kernel
theorem dX8_rule_59 : decode cX8_rule 59 = .ok (.aload_n 0, 1) := by decide +kernel
theorem dX8_rule_60 : decode cX8_rule 60 = .ok (.iconst 0, 1) := by decide +kernel
theorem dX8_rule_61 : decode cX8_rule 61 = .ok (.putfield 183, 3) := by decide +kernel
theorem dX8_rule_64 : decode cX8_rule 64 = .ok (.iconst 0, 1) := by decide +kernel
theorem dX8_rule_65 : decode cX8_rule 65 = .ok (.istore_n 2, 1) := by decide +kernel
theorem dX8_rule_66 : decode cX8_rule 66 = .ok (.iload_n 2, 1) := by decide +kernel
theorem dX8_rule_67 : decode cX8_rule 67 = .ok (.aload_n 0, 1) := by decide +kernel
theorem dX8_rule_68 : decode cX8_rule 68 = .ok (.getfield 143, 3) := by decide +kernel
theorem dX8_rule_71 : decode cX8_rule 71 = .ok (.if_icmp .ge 216, 3) := by decide +kernel
theorem dX8_rule_74 : decode cX8_rule 74 = .ok (.iconst (-1), 1) := by decide +kernel
theorem dX8_rule_75 : decode cX8_rule 75 = .ok (.istore_n 3, 1) := by decide +kernel
theorem dX8_rule_76 : decode cX8_rule 76 = .ok (.iconst 0, 1) := by decide +kernel
theorem dX8_rule_77 : decode cX8_rule 77 = .ok (.istore 4, 2) := by decide +kernel
theorem dX8_rule_79 : decode cX8_rule 79 = .ok (.iconst 0, 1) := by decide +kernel
theorem dX8_rule_80 : decode cX8_rule 80 = .ok (.istore 5, 2) := by decide +kernel
theorem dX8_rule_82 : decode cX8_rule 82 = .ok (.iconst 0, 1) := by decide +kernel
theorem dX8_rule_83 : decode cX8_rule 83 = .ok (.istore 6, 2) := by decide +kernel
theorem dX8_rule_85 : decode cX8_rule 85 = .ok (.iload 6, 2) := by decide +kernel
theorem dX8_rule_87 : decode cX8_rule 87 = .ok (.aload_n 0, 1) := by decide +kernel
theorem dX8_rule_88 : decode cX8_rule 88 = .ok (.getfield 140, 3) := by decide +kernel
theorem dX8_rule_91 : decode cX8_rule 91 = .ok (.if_icmp .ge 101, 3) := by decide +kernel
theorem dX8_rule_94 : decode cX8_rule 94 = .ok (.aload_n 0, 1) := by decide +kernel
theorem dX8_rule_95 : decode cX8_rule 95 = .ok (.iload 6, 2) := by decide +kernel
theorem dX8_rule_97 : decode cX8_rule 97 = .ok (.invokevirtual 218, 3) := by decide +kernel
theorem dX8_rule_100 : decode cX8_rule 100 = .ok (.istore 7, 2) := by decide +kernel
theorem dX8_rule_102 : decode cX8_rule 102 = .ok (.iload 7, 2) := by decide +kernel
theorem dX8_rule_104 : decode cX8_rule 104 = .ok (.ifCond .ge 6, 3) := by decide +kernel
theorem dX8_rule_107 : decode cX8_rule 107 = .ok (.goto 79, 3) := by decide +kernel
theorem dX8_rule_110 : decode cX8_rule 110 = .ok (.aload_n 0, 1) := by decide +kernel
theorem dX8_rule_111 : decode cX8_rule 111 = .ok (.iload 7, 2) := by decide +kernel
theorem dX8_rule_113 : decode cX8_rule 113 = .ok (.invokevirtual 221, 3) := by decide +kernel
theorem dX8_rule_116 : decode cX8_rule 116 = .ok (.istore 8, 2) := by decide +kernel
theorem dX8_rule_118 : decode cX8_rule 118 = .ok (.iload_n 1, 1) := by decide +kernel
theorem dX8_rule_119 : decode cX8_rule 119 = .ok (.ifCond .ne 13, 3) := by decide +kernel
theorem dX8_rule_122 : decode cX8_rule 122 = .ok (.aload_n 0, 1) := by decide +kernel
theorem dX8_rule_123 : decode cX8_rule 123 = .ok (.getfield 31, 3) := by decide +kernel
theorem dX8_rule_126 : decode cX8_rule 126 = .ok (.iload 7, 2) := by decide +kernel
theorem dX8_rule_128 : decode cX8_rule 128 = .ok (.iaload, 1) := by decide +kernel
theorem dX8_rule_129 : decode cX8_rule 129 = .ok (.goto 19, 3) := by decide +kernel
theorem dX8_rule_132 : decode cX8_rule 132 = .ok (.iload_n 1, 1) := by decide +kernel
theorem dX8_rule_133 : decode cX8_rule 133 = .ok (.iconst 1, 1) := by decide +kernel
theorem dX8_rule_134 : decode cX8_rule 134 = .ok (.if_icmp .ne 13, 3) := by decide +kernel
theorem dX8_rule_137 : decode cX8_rule 137 = .ok (.aload_n 0, 1) := by decide +kernel
theorem dX8_rule_138 : decode cX8_rule 138 = .ok (.iload 7, 2) := by decide +kernel
theorem dX8_rule_140 : decode cX8_rule 140 = .ok (.invokevirtual 224, 3) := by decide +kernel
theorem dX8_rule_143 : decode cX8_rule 143 = .ok (.ineg, 1) := by decide +kernel
theorem dX8_rule_144 : decode cX8_rule 144 = .ok (.goto 4, 3) := by decide +kernel
theorem dX8_rule_147 : decode cX8_rule 147 = .ok (.iconst 0, 1) := by decide +kernel
theorem dX8_rule_148 : decode cX8_rule 148 = .ok (.istore 9, 2) := by decide +kernel
theorem dX8_rule_150 : decode cX8_rule 150 = .ok (.iload_n 3, 1) := by decide +kernel
theorem dX8_rule_151 : decode cX8_rule 151 = .ok (.ifCond .lt 24, 3) := by decide +kernel
theorem dX8_rule_154 : decode cX8_rule 154 = .ok (.iload 8, 2) := by decide +kernel
theorem dX8_rule_156 : decode cX8_rule 156 = .ok (.iload 4, 2) := by decide +kernel
theorem dX8_rule_158 : decode cX8_rule 158 = .ok (.if_icmp .lt 17, 3) := by decide +kernel
theorem dX8_rule_161 : decode cX8_rule 161 = .ok (.iload 8, 2) := by decide +kernel
theorem dX8_rule_163 : decode cX8_rule 163 = .ok (.iload 4, 2) := by decide +kernel
theorem dX8_rule_165 : decode cX8_rule 165 = .ok (.if_icmp .ne 21, 3) := by decide +kernel
theorem dX8_rule_168 : decode cX8_rule 168 = .ok (.iload 9, 2) := by decide +kernel
theorem dX8_rule_170 : decode cX8_rule 170 = .ok (.iload 5, 2) := by decide +kernel
theorem dX8_rule_172 : decode cX8_rule 172 = .ok (.if_icmp .ge 14, 3) := by decide +kernel
theorem dX8_rule_175 : decode cX8_rule 175 = .ok (.iload 7, 2) := by decide +kernel
theorem dX8_rule_177 : decode cX8_rule 177 = .ok (.istore_n 3, 1) := by decide +kernel
theorem dX8_rule_178 : decode cX8_rule 178 = .ok (.iload 8, 2) := by decide +kernel
theorem dX8_rule_180 : decode cX8_rule 180 = .ok (.istore 4, 2) := by decide +kernel
theorem dX8_rule_182 : decode cX8_rule 182 = .ok (.iload 9, 2) := by decide +kernel
end
section
theorem dX8_rule_184 : decode cX8_rule 184 = .ok (.istore 5, 2) := by decide +kernel
theorem dX8_rule_186 : decode cX8_rule 186 = .ok (.iinc 6 1, 3) := by decide +kernel
theorem dX8_rule_189 : decode cX8_rule 189 = .ok (.goto (-104), 3) := by decide +kernel
theorem dX8_rule_192 : decode cX8_rule 192 = .ok (.aload_n 0, 1) := by decide +kernel
theorem dX8_rule_193 : decode cX8_rule 193 = .ok (.getfield 28, 3) := by decide +kernel
theorem dX8_rule_196 : decode cX8_rule 196 = .ok (.iload_n 3, 1) := by decide +kernel
theorem dX8_rule_197 : decode cX8_rule 197 = .ok (.iaload, 1) := by decide +kernel
theorem dX8_rule_198 : decode cX8_rule 198 = .ok (.istore 6, 2) := by decide +kernel
theorem dX8_rule_200 : decode cX8_rule 200 = .ok (.aload_n 0, 1) := by decide +kernel
theorem dX8_rule_201 : decode cX8_rule 201 = .ok (.getfield 37, 3) := by decide +kernel
theorem dX8_rule_204 : decode cX8_rule 204 = .ok (.bipush 32, 2) := by decide +kernel
theorem dX8_rule_206 : decode cX8_rule 206 = .ok (.iload 6, 2) := by decide +kernel
theorem dX8_rule_208 : decode cX8_rule 208 = .ok (.imul, 1) := by decide +kernel
theorem dX8_rule_209 : decode cX8_rule 209 = .ok (.aload_n 0, 1) := by decide +kernel
theorem dX8_rule_210 : decode cX8_rule 210 = .ok (.getfield 40, 3) := by decide +kernel
theorem dX8_rule_213 : decode cX8_rule 213 = .ok (.iload 6, 2) := by decide +kernel
theorem dX8_rule_215 : decode cX8_rule 215 = .ok (.iaload, 1) := by decide +kernel
theorem dX8_rule_216 : decode cX8_rule 216 = .ok (.iadd, 1) := by decide +kernel
theorem dX8_rule_217 : decode cX8_rule 217 = .ok (.iload_n 3, 1) := by decide +kernel
theorem dX8_rule_218 : decode cX8_rule 218 = .ok (.iastore, 1) := by decide +kernel
theorem dX8_rule_219 : decode cX8_rule 219 = .ok (.aload_n 0, 1) := by decide +kernel
theorem dX8_rule_220 : decode cX8_rule 220 = .ok (.getfield 40, 3) := by decide +kernel
theorem dX8_rule_223 : decode cX8_rule 223 = .ok (.iload 6, 2) := by decide +kernel
theorem dX8_rule_225 : decode cX8_rule 225 = .ok (.dup2, 1) := by decide +kernel
theorem dX8_rule_226 : decode cX8_rule 226 = .ok (.iaload, 1) := by decide +kernel
theorem dX8_rule_227 : decode cX8_rule 227 = .ok (.iconst 1, 1) := by decide +kernel
theorem dX8_rule_228 : decode cX8_rule 228 = .ok (.iadd, 1) := by decide +kernel
theorem dX8_rule_229 : decode cX8_rule 229 = .ok (.iastore, 1) := by decide +kernel
theorem dX8_rule_230 : decode cX8_rule 230 = .ok (.aload_n 0, 1) := by decide +kernel
theorem dX8_rule_231 : decode cX8_rule 231 = .ok (.getfield 55, 3) := by decide +kernel
theorem dX8_rule_234 : decode cX8_rule 234 = .ok (.iload_n 3, 1) := by decide +kernel
theorem dX8_rule_235 : decode cX8_rule 235 = .ok (.iload 4, 2) := by decide +kernel
theorem dX8_rule_237 : decode cX8_rule 237 = .ok (.iastore, 1) := by decide +kernel
theorem dX8_rule_238 : decode cX8_rule 238 = .ok (.aload_n 0, 1) := by decide +kernel
theorem dX8_rule_239 : decode cX8_rule 239 = .ok (.getfield 58, 3) := by decide +kernel
theorem dX8_rule_242 : decode cX8_rule 242 = .ok (.iload_n 3, 1) := by decide +kernel
theorem dX8_rule_243 : decode cX8_rule 243 = .ok (.iconst 1, 1) := by decide +kernel
theorem dX8_rule_244 : decode cX8_rule 244 = .ok (.bastore, 1) := by decide +kernel
theorem dX8_rule_245 : decode cX8_rule 245 = .ok (.aload_n 0, 1) := by decide +kernel
theorem dX8_rule_246 : decode cX8_rule 246 = .ok (.iload 4, 2) := by decide +kernel
theorem dX8_rule_248 : decode cX8_rule 248 = .ok (.aload_n 0, 1) := by decide +kernel
theorem dX8_rule_249 : decode cX8_rule 249 = .ok (.getfield 31, 3) := by decide +kernel
theorem dX8_rule_252 : decode cX8_rule 252 = .ok (.iload_n 3, 1) := by decide +kernel
theorem dX8_rule_253 : decode cX8_rule 253 = .ok (.iaload, 1) := by decide +kernel
theorem dX8_rule_254 : decode cX8_rule 254 = .ok (.iadd, 1) := by decide +kernel
theorem dX8_rule_255 : decode cX8_rule 255 = .ok (.aload_n 0, 1) := by decide +kernel
theorem dX8_rule_256 : decode cX8_rule 256 = .ok (.getfield 183, 3) := by decide +kernel
theorem dX8_rule_259 : decode cX8_rule 259 = .ok (.if_icmp .le 15, 3) := by decide +kernel
theorem dX8_rule_262 : decode cX8_rule 262 = .ok (.iload 4, 2) := by decide +kernel
theorem dX8_rule_264 : decode cX8_rule 264 = .ok (.aload_n 0, 1) := by decide +kernel
theorem dX8_rule_265 : decode cX8_rule 265 = .ok (.getfield 31, 3) := by decide +kernel
theorem dX8_rule_268 : decode cX8_rule 268 = .ok (.iload_n 3, 1) := by decide +kernel
theorem dX8_rule_269 : decode cX8_rule 269 = .ok (.iaload, 1) := by decide +kernel
theorem dX8_rule_270 : decode cX8_rule 270 = .ok (.iadd, 1) := by decide +kernel
theorem dX8_rule_271 : decode cX8_rule 271 = .ok (.goto 7, 3) := by decide +kernel
theorem dX8_rule_274 : decode cX8_rule 274 = .ok (.aload_n 0, 1) := by decide +kernel
theorem dX8_rule_275 : decode cX8_rule 275 = .ok (.getfield 183, 3) := by decide +kernel
theorem dX8_rule_278 : decode cX8_rule 278 = .ok (.putfield 183, 3) := by decide +kernel
theorem dX8_rule_281 : decode cX8_rule 281 = .ok (.iinc 2 1, 3) := by decide +kernel
theorem dX8_rule_284 : decode cX8_rule 284 = .ok (.goto (-218), 3) := by decide +kernel
theorem dX8_rule_287 : decode cX8_rule 287 = .ok (.aload_n 0, 1) := by decide +kernel
theorem dX8_rule_288 : decode cX8_rule 288 = .ok (.getfield 183, 3) := by decide +kernel
theorem dX8_rule_291 : decode cX8_rule 291 = .ok (.ireturn, 1) := by decide +kernel
theorem dX8_first_0 : decode cX8_first 0 = .ok (.iconst 0, 1) := by decide +kernel
theorem dX8_first_1 : decode cX8_first 1 = .ok (.istore_n 2, 1) := by decide +kernel
theorem dX8_first_2 : decode cX8_first 2 = .ok (.iload_n 2, 1) := by decide +kernel
theorem dX8_first_3 : decode cX8_first 3 = .ok (.aload_n 0, 1) := by decide +kernel
theorem dX8_first_4 : decode cX8_first 4 = .ok (.getfield 19, 3) := by decide +kernel
theorem dX8_first_7 : decode cX8_first 7 = .ok (.iload_n 1, 1) := by decide +kernel
theorem dX8_first_8 : decode cX8_first 8 = .ok (.iaload, 1) := by decide +kernel
theorem dX8_first_9 : decode cX8_first 9 = .ok (.if_icmp .ge 40, 3) := by decide +kernel
theorem dX8_first_12 : decode cX8_first 12 = .ok (.aload_n 0, 1) := by decide +kernel
theorem dX8_first_13 : decode cX8_first 13 = .ok (.getfield 58, 3) := by decide +kernel
theorem dX8_first_16 : decode cX8_first 16 = .ok (.aload_n 0, 1) := by decide +kernel
theorem dX8_first_17 : decode cX8_first 17 = .ok (.getfield 22, 3) := by decide +kernel
theorem dX8_first_20 : decode cX8_first 20 = .ok (.bipush 8, 2) := by decide +kernel
theorem dX8_first_22 : decode cX8_first 22 = .ok (.iload_n 1, 1) := by decide +kernel
theorem dX8_first_23 : decode cX8_first 23 = .ok (.imul, 1) := by decide +kernel
theorem dX8_first_24 : decode cX8_first 24 = .ok (.iload_n 2, 1) := by decide +kernel
theorem dX8_first_25 : decode cX8_first 25 = .ok (.iadd, 1) := by decide +kernel
theorem dX8_first_26 : decode cX8_first 26 = .ok (.iaload, 1) := by decide +kernel
theorem dX8_first_27 : decode cX8_first 27 = .ok (.baload, 1) := by decide +kernel
theorem dX8_first_28 : decode cX8_first 28 = .ok (.ifCond .ne 15, 3) := by decide +kernel
theorem dX8_first_31 : decode cX8_first 31 = .ok (.aload_n 0, 1) := by decide +kernel
theorem dX8_first_32 : decode cX8_first 32 = .ok (.getfield 22, 3) := by decide +kernel
theorem dX8_first_35 : decode cX8_first 35 = .ok (.bipush 8, 2) := by decide +kernel
theorem dX8_first_37 : decode cX8_first 37 = .ok (.iload_n 1, 1) := by decide +kernel
theorem dX8_first_38 : decode cX8_first 38 = .ok (.imul, 1) := by decide +kernel
theorem dX8_first_39 : decode cX8_first 39 = .ok (.iload_n 2, 1) := by decide +kernel
theorem dX8_first_40 : decode cX8_first 40 = .ok (.iadd, 1) := by decide +kernel
theorem dX8_first_41 : decode cX8_first 41 = .ok (.iaload, 1) := by decide +kernel
theorem dX8_first_42 : decode cX8_first 42 = .ok (.ireturn, 1) := by decide +kernel
theorem dX8_first_43 : decode cX8_first 43 = .ok (.iinc 2 1, 3) := by decide +kernel
theorem dX8_first_46 : decode cX8_first 46 = .ok (.goto (-44), 3) := by decide +kernel
theorem dX8_first_49 : decode cX8_first 49 = .ok (.iconst (-1), 1) := by decide +kernel
theorem dX8_first_50 : decode cX8_first 50 = .ok (.ireturn, 1) := by decide +kernel
theorem dX8_early_0 : decode cX8_early 0 = .ok (.aload_n 0, 1) := by decide +kernel
theorem dX8_early_1 : decode cX8_early 1 = .ok (.iload_n 1, 1) := by decide +kernel
theorem dX8_early_2 : decode cX8_early 2 = .ok (.invokevirtual 180, 3) := by decide +kernel
theorem dX8_early_5 : decode cX8_early 5 = .ok (.istore_n 2, 1) := by decide +kernel
theorem dX8_early_6 : decode cX8_early 6 = .ok (.iload_n 2, 1) := by decide +kernel
theorem dX8_early_7 : decode cX8_early 7 = .ok (.ifCond .ge 7, 3) := by decide +kernel
theorem dX8_early_10 : decode cX8_early 10 = .ok (.iconst 0, 1) := by decide +kernel
theorem dX8_early_11 : decode cX8_early 11 = .ok (.goto 16, 3) := by decide +kernel
theorem dX8_early_14 : decode cX8_early 14 = .ok (.aload_n 0, 1) := by decide +kernel
theorem dX8_early_15 : decode cX8_early 15 = .ok (.getfield 55, 3) := by decide +kernel
theorem dX8_early_18 : decode cX8_early 18 = .ok (.iload_n 2, 1) := by decide +kernel
theorem dX8_early_19 : decode cX8_early 19 = .ok (.iaload, 1) := by decide +kernel
theorem dX8_early_20 : decode cX8_early 20 = .ok (.aload_n 0, 1) := by decide +kernel
theorem dX8_early_21 : decode cX8_early 21 = .ok (.getfield 31, 3) := by decide +kernel
theorem dX8_early_24 : decode cX8_early 24 = .ok (.iload_n 2, 1) := by decide +kernel
theorem dX8_early_25 : decode cX8_early 25 = .ok (.iaload, 1) := by decide +kernel
theorem dX8_early_26 : decode cX8_early 26 = .ok (.iadd, 1) := by decide +kernel
theorem dX8_early_27 : decode cX8_early 27 = .ok (.istore_n 3, 1) := by decide +kernel
theorem dX8_early_28 : decode cX8_early 28 = .ok (.aload_n 0, 1) := by decide +kernel
theorem dX8_early_29 : decode cX8_early 29 = .ok (.aload_n 0, 1) := by decide +kernel
theorem dX8_early_30 : decode cX8_early 30 = .ok (.getfield 28, 3) := by decide +kernel
theorem dX8_early_33 : decode cX8_early 33 = .ok (.iload_n 1, 1) := by decide +kernel
theorem dX8_early_34 : decode cX8_early 34 = .ok (.iaload, 1) := by decide +kernel
theorem dX8_early_35 : decode cX8_early 35 = .ok (.aload_n 0, 1) := by decide +kernel
theorem dX8_early_36 : decode cX8_early 36 = .ok (.getfield 40, 3) := by decide +kernel
theorem dX8_early_39 : decode cX8_early 39 = .ok (.aload_n 0, 1) := by decide +kernel
theorem dX8_early_40 : decode cX8_early 40 = .ok (.getfield 28, 3) := by decide +kernel
theorem dX8_early_43 : decode cX8_early 43 = .ok (.iload_n 1, 1) := by decide +kernel
theorem dX8_early_44 : decode cX8_early 44 = .ok (.iaload, 1) := by decide +kernel
theorem dX8_early_45 : decode cX8_early 45 = .ok (.iaload, 1) := by decide +kernel
theorem dX8_early_46 : decode cX8_early 46 = .ok (.iload_n 1, 1) := by decide +kernel
theorem dX8_early_47 : decode cX8_early 47 = .ok (.invokevirtual 189, 3) := by decide +kernel
theorem dX8_early_50 : decode cX8_early 50 = .ok (.istore 4, 2) := by decide +kernel
theorem dX8_early_52 : decode cX8_early 52 = .ok (.iload_n 3, 1) := by decide +kernel
theorem dX8_early_53 : decode cX8_early 53 = .ok (.iload 4, 2) := by decide +kernel
theorem dX8_early_55 : decode cX8_early 55 = .ok (.if_icmp .le 7, 3) := by decide +kernel
theorem dX8_early_58 : decode cX8_early 58 = .ok (.iload_n 3, 1) := by decide +kernel
theorem dX8_early_59 : decode cX8_early 59 = .ok (.goto 5, 3) := by decide +kernel
theorem dX8_early_62 : decode cX8_early 62 = .ok (.iload 4, 2) := by decide +kernel
theorem dX8_early_64 : decode cX8_early 64 = .ok (.ireturn, 1) := by decide +kernel
theorem dX8_rest_0 : decode cX8_rest 0 = .ok (.iconst 0, 1) := by decide +kernel
theorem dX8_rest_1 : decode cX8_rest 1 = .ok (.istore_n 2, 1) := by decide +kernel
theorem dX8_rest_2 : decode cX8_rest 2 = .ok (.aload_n 0, 1) := by decide +kernel
theorem dX8_rest_3 : decode cX8_rest 3 = .ok (.getfield 34, 3) := by decide +kernel
theorem dX8_rest_6 : decode cX8_rest 6 = .ok (.iload_n 1, 1) := by decide +kernel
theorem dX8_rest_7 : decode cX8_rest 7 = .ok (.iaload, 1) := by decide +kernel
theorem dX8_rest_8 : decode cX8_rest 8 = .ok (.istore_n 3, 1) := by decide +kernel
theorem dX8_rest_9 : decode cX8_rest 9 = .ok (.iload_n 3, 1) := by decide +kernel
theorem dX8_rest_10 : decode cX8_rest 10 = .ok (.aload_n 0, 1) := by decide +kernel
theorem dX8_rest_11 : decode cX8_rest 11 = .ok (.getfield 19, 3) := by decide +kernel
theorem dX8_rest_14 : decode cX8_rest 14 = .ok (.aload_n 0, 1) := by decide +kernel
theorem dX8_rest_15 : decode cX8_rest 15 = .ok (.getfield 25, 3) := by decide +kernel
theorem dX8_rest_18 : decode cX8_rest 18 = .ok (.iload_n 1, 1) := by decide +kernel
theorem dX8_rest_19 : decode cX8_rest 19 = .ok (.iaload, 1) := by decide +kernel
theorem dX8_rest_20 : decode cX8_rest 20 = .ok (.iaload, 1) := by decide +kernel
theorem dX8_rest_21 : decode cX8_rest 21 = .ok (.if_icmp .ge 33, 3) := by decide +kernel
theorem dX8_rest_24 : decode cX8_rest 24 = .ok (.iload_n 2, 1) := by decide +kernel
theorem dX8_rest_25 : decode cX8_rest 25 = .ok (.aload_n 0, 1) := by decide +kernel
theorem dX8_rest_26 : decode cX8_rest 26 = .ok (.getfield 31, 3) := by decide +kernel
theorem dX8_rest_29 : decode cX8_rest 29 = .ok (.aload_n 0, 1) := by decide +kernel
theorem dX8_rest_30 : decode cX8_rest 30 = .ok (.getfield 22, 3) := by decide +kernel
theorem dX8_rest_33 : decode cX8_rest 33 = .ok (.bipush 8, 2) := by decide +kernel
theorem dX8_rest_35 : decode cX8_rest 35 = .ok (.aload_n 0, 1) := by decide +kernel
theorem dX8_rest_36 : decode cX8_rest 36 = .ok (.getfield 25, 3) := by decide +kernel
theorem dX8_rest_39 : decode cX8_rest 39 = .ok (.iload_n 1, 1) := by decide +kernel
theorem dX8_rest_40 : decode cX8_rest 40 = .ok (.iaload, 1) := by decide +kernel
theorem dX8_rest_41 : decode cX8_rest 41 = .ok (.imul, 1) := by decide +kernel
theorem dX8_rest_42 : decode cX8_rest 42 = .ok (.iload_n 3, 1) := by decide +kernel
theorem dX8_rest_43 : decode cX8_rest 43 = .ok (.iadd, 1) := by decide +kernel
theorem dX8_rest_44 : decode cX8_rest 44 = .ok (.iaload, 1) := by decide +kernel
theorem dX8_rest_45 : decode cX8_rest 45 = .ok (.iaload, 1) := by decide +kernel
theorem dX8_rest_46 : decode cX8_rest 46 = .ok (.iadd, 1) := by decide +kernel
theorem dX8_rest_47 : decode cX8_rest 47 = .ok (.istore_n 2, 1) := by decide +kernel
theorem dX8_rest_48 : decode cX8_rest 48 = .ok (.iinc 3 1, 3) := by decide +kernel
theorem dX8_rest_51 : decode cX8_rest 51 = .ok (.goto (-42), 3) := by decide +kernel
theorem dX8_rest_54 : decode cX8_rest 54 = .ok (.iload_n 2, 1) := by decide +kernel
theorem dX8_rest_55 : decode cX8_rest 55 = .ok (.ireturn, 1) := by decide +kernel
theorem dX8_better_0 : decode cX8_better 0 = .ok (.iload_n 1, 1) := by decide +kernel
theorem dX8_better_1 : decode cX8_better 1 = .ok (.i2l, 1) := by decide +kernel
theorem dX8_better_2 : decode cX8_better 2 = .ok (.lconst 0, 1) := by decide +kernel
theorem dX8_better_3 : decode cX8_better 3 = .ok (.ldc2_w 227, 3) := by decide +kernel
theorem dX8_better_6 : decode cX8_better 6 = .ok (.invokestatic 124, 3) := by decide +kernel
theorem dX8_better_9 : decode cX8_better 9 = .ok (.ifCond .ne 6, 3) := by decide +kernel
theorem dX8_better_12 : decode cX8_better 12 = .ok (.ldc 132, 2) := by decide +kernel
theorem dX8_better_14 : decode cX8_better 14 = .ok (.ireturn, 1) := by decide +kernel
theorem dX8_better_15 : decode cX8_better 15 = .ok (.aload_n 0, 1) := by decide +kernel
theorem dX8_better_16 : decode cX8_better 16 = .ok (.invokevirtual 208, 3) := by decide +kernel
theorem dX8_better_19 : decode cX8_better 19 = .ok (.ifCond .ne 6, 3) := by decide +kernel
theorem dX8_better_22 : decode cX8_better 22 = .ok (.ldc 179, 2) := by decide +kernel
theorem dX8_better_24 : decode cX8_better 24 = .ok (.ireturn, 1) := by decide +kernel
theorem dX8_better_25 : decode cX8_better 25 = .ok (.iconst 0, 1) := by decide +kernel
theorem dX8_better_26 : decode cX8_better 26 = .ok (.istore_n 2, 1) := by decide +kernel
theorem dX8_better_27 : decode cX8_better 27 = .ok (.iload_n 2, 1) := by decide +kernel
theorem dX8_better_28 : decode cX8_better 28 = .ok (.iload_n 1, 1) := by decide +kernel
theorem dX8_better_29 : decode cX8_better 29 = .ok (.if_icmp .ge 16, 3) := by decide +kernel
theorem dX8_better_32 : decode cX8_better 32 = .ok (.aload_n 0, 1) := by decide +kernel
theorem dX8_better_33 : decode cX8_better 33 = .ok (.invokevirtual 229, 3) := by decide +kernel
theorem dX8_better_36 : decode cX8_better 36 = .ok (.ifCond .eq 9, 3) := by decide +kernel
theorem dX8_better_39 : decode cX8_better 39 = .ok (.iinc 2 1, 3) := by decide +kernel
theorem dX8_better_42 : decode cX8_better 42 = .ok (.goto (-15), 3) := by decide +kernel
theorem dX8_better_45 : decode cX8_better 45 = .ok (.iload_n 2, 1) := by decide +kernel
theorem dX8_better_46 : decode cX8_better 46 = .ok (.ireturn, 1) := by decide +kernel
theorem dX8_swapBest_0 : decode cX8_swapBest 0 = .ok (.aload_n 0, 1) := by decide +kernel
theorem dX8_swapBest_1 : decode cX8_swapBest 1 = .ok (.invokevirtual 208, 3) := by decide +kernel
theorem dX8_swapBest_4 : decode cX8_swapBest 4 = .ok (.istore_n 1, 1) := by decide +kernel
theorem dX8_swapBest_5 : decode cX8_swapBest 5 = .ok (.aload_n 0, 1) := by decide +kernel
theorem dX8_swapBest_6 : decode cX8_swapBest 6 = .ok (.getfield 183, 3) := by decide +kernel
theorem dX8_swapBest_9 : decode cX8_swapBest 9 = .ok (.istore_n 2, 1) := by decide +kernel
theorem dX8_swapBest_10 : decode cX8_swapBest 10 = .ok (.iconst 0, 1) := by decide +kernel
theorem dX8_swapBest_11 : decode cX8_swapBest 11 = .ok (.istore_n 3, 1) := by decide +kernel
theorem dX8_swapBest_12 : decode cX8_swapBest 12 = .ok (.iload_n 3, 1) := by decide +kernel
theorem dX8_swapBest_13 : decode cX8_swapBest 13 = .ok (.sipush 256, 3) := by decide +kernel
theorem dX8_swapBest_16 : decode cX8_swapBest 16 = .ok (.if_icmp .ge 133, 3) := by decide +kernel
theorem dX8_swapBest_19 : decode cX8_swapBest 19 = .ok (.iload_n 3, 1) := by decide +kernel
theorem dX8_swapBest_20 : decode cX8_swapBest 20 = .ok (.bipush 32, 2) := by decide +kernel
theorem dX8_swapBest_22 : decode cX8_swapBest 22 = .ok (.idiv, 1) := by decide +kernel
theorem dX8_swapBest_23 : decode cX8_swapBest 23 = .ok (.istore 4, 2) := by decide +kernel
theorem dX8_swapBest_25 : decode cX8_swapBest 25 = .ok (.iload_n 3, 1) := by decide +kernel
theorem dX8_swapBest_26 : decode cX8_swapBest 26 = .ok (.bipush 32, 2) := by decide +kernel
theorem dX8_swapBest_28 : decode cX8_swapBest 28 = .ok (.irem, 1) := by decide +kernel
theorem dX8_swapBest_29 : decode cX8_swapBest 29 = .ok (.istore 5, 2) := by decide +kernel
theorem dX8_swapBest_31 : decode cX8_swapBest 31 = .ok (.aload_n 0, 1) := by decide +kernel
theorem dX8_swapBest_32 : decode cX8_swapBest 32 = .ok (.getfield 68, 3) := by decide +kernel
theorem dX8_swapBest_35 : decode cX8_swapBest 35 = .ok (.iload_n 3, 1) := by decide +kernel
theorem dX8_swapBest_36 : decode cX8_swapBest 36 = .ok (.iconst 0, 1) := by decide +kernel
theorem dX8_swapBest_37 : decode cX8_swapBest 37 = .ok (.bastore, 1) := by decide +kernel
theorem dX8_swapBest_38 : decode cX8_swapBest 38 = .ok (.iload 4, 2) := by decide +kernel
theorem dX8_swapBest_40 : decode cX8_swapBest 40 = .ok (.aload_n 0, 1) := by decide +kernel
theorem dX8_swapBest_41 : decode cX8_swapBest 41 = .ok (.getfield 133, 3) := by decide +kernel
theorem dX8_swapBest_44 : decode cX8_swapBest 44 = .ok (.if_icmp .ge 99, 3) := by decide +kernel
theorem dX8_swapBest_47 : decode cX8_swapBest 47 = .ok (.aload_n 0, 1) := by decide +kernel
theorem dX8_swapBest_48 : decode cX8_swapBest 48 = .ok (.getfield 7, 3) := by decide +kernel
theorem dX8_swapBest_51 : decode cX8_swapBest 51 = .ok (.iload 4, 2) := by decide +kernel
theorem dX8_swapBest_53 : decode cX8_swapBest 53 = .ok (.iaload, 1) := by decide +kernel
theorem dX8_swapBest_54 : decode cX8_swapBest 54 = .ok (.ifCond .ne 89, 3) := by decide +kernel
theorem dX8_swapBest_57 : decode cX8_swapBest 57 = .ok (.iload 5, 2) := by decide +kernel
theorem dX8_swapBest_59 : decode cX8_swapBest 59 = .ok (.iconst 1, 1) := by decide +kernel
theorem dX8_swapBest_60 : decode cX8_swapBest 60 = .ok (.iadd, 1) := by decide +kernel
theorem dX8_swapBest_61 : decode cX8_swapBest 61 = .ok (.aload_n 0, 1) := by decide +kernel
theorem dX8_swapBest_62 : decode cX8_swapBest 62 = .ok (.getfield 40, 3) := by decide +kernel
theorem dX8_swapBest_65 : decode cX8_swapBest 65 = .ok (.iload 4, 2) := by decide +kernel
theorem dX8_swapBest_67 : decode cX8_swapBest 67 = .ok (.iaload, 1) := by decide +kernel
theorem dX8_swapBest_68 : decode cX8_swapBest 68 = .ok (.if_icmp .ge 75, 3) := by decide +kernel
theorem dX8_swapBest_71 : decode cX8_swapBest 71 = .ok (.aload_n 0, 1) := by decide +kernel
theorem dX8_swapBest_72 : decode cX8_swapBest 72 = .ok (.getfield 37, 3) := by decide +kernel
theorem dX8_swapBest_75 : decode cX8_swapBest 75 = .ok (.iload_n 3, 1) := by decide +kernel
theorem dX8_swapBest_76 : decode cX8_swapBest 76 = .ok (.iaload, 1) := by decide +kernel
theorem dX8_swapBest_77 : decode cX8_swapBest 77 = .ok (.istore 6, 2) := by decide +kernel
theorem dX8_swapBest_79 : decode cX8_swapBest 79 = .ok (.aload_n 0, 1) := by decide +kernel
theorem dX8_swapBest_80 : decode cX8_swapBest 80 = .ok (.getfield 37, 3) := by decide +kernel
theorem dX8_swapBest_83 : decode cX8_swapBest 83 = .ok (.iload_n 3, 1) := by decide +kernel
theorem dX8_swapBest_84 : decode cX8_swapBest 84 = .ok (.iconst 1, 1) := by decide +kernel
theorem dX8_swapBest_85 : decode cX8_swapBest 85 = .ok (.iadd, 1) := by decide +kernel
theorem dX8_swapBest_86 : decode cX8_swapBest 86 = .ok (.iaload, 1) := by decide +kernel
theorem dX8_swapBest_87 : decode cX8_swapBest 87 = .ok (.istore 7, 2) := by decide +kernel
theorem dX8_swapBest_89 : decode cX8_swapBest 89 = .ok (.aload_n 0, 1) := by decide +kernel
theorem dX8_swapBest_90 : decode cX8_swapBest 90 = .ok (.getfield 68, 3) := by decide +kernel
theorem dX8_swapBest_93 : decode cX8_swapBest 93 = .ok (.iload_n 3, 1) := by decide +kernel
theorem dX8_swapBest_94 : decode cX8_swapBest 94 = .ok (.aload_n 0, 1) := by decide +kernel
theorem dX8_swapBest_95 : decode cX8_swapBest 95 = .ok (.iload 6, 2) := by decide +kernel
theorem dX8_swapBest_97 : decode cX8_swapBest 97 = .ok (.invokevirtual 211, 3) := by decide +kernel
theorem dX8_swapBest_100 : decode cX8_swapBest 100 = .ok (.ifCond .ne 41, 3) := by decide +kernel
theorem dX8_swapBest_103 : decode cX8_swapBest 103 = .ok (.aload_n 0, 1) := by decide +kernel
theorem dX8_swapBest_104 : decode cX8_swapBest 104 = .ok (.iload 7, 2) := by decide +kernel
theorem dX8_swapBest_106 : decode cX8_swapBest 106 = .ok (.invokevirtual 211, 3) := by decide +kernel
theorem dX8_swapBest_109 : decode cX8_swapBest 109 = .ok (.ifCond .ne 32, 3) := by decide +kernel
theorem dX8_swapBest_112 : decode cX8_swapBest 112 = .ok (.aload_n 0, 1) := by decide +kernel
theorem dX8_swapBest_113 : decode cX8_swapBest 113 = .ok (.getfield 55, 3) := by decide +kernel
theorem dX8_swapBest_116 : decode cX8_swapBest 116 = .ok (.iload 7, 2) := by decide +kernel
theorem dX8_swapBest_118 : decode cX8_swapBest 118 = .ok (.iaload, 1) := by decide +kernel
theorem dX8_swapBest_119 : decode cX8_swapBest 119 = .ok (.aload_n 0, 1) := by decide +kernel
theorem dX8_swapBest_120 : decode cX8_swapBest 120 = .ok (.getfield 55, 3) := by decide +kernel
theorem dX8_swapBest_123 : decode cX8_swapBest 123 = .ok (.iload 6, 2) := by decide +kernel
theorem dX8_swapBest_125 : decode cX8_swapBest 125 = .ok (.iaload, 1) := by decide +kernel
theorem dX8_swapBest_126 : decode cX8_swapBest 126 = .ok (.aload_n 0, 1) := by decide +kernel
theorem dX8_swapBest_127 : decode cX8_swapBest 127 = .ok (.getfield 31, 3) := by decide +kernel
theorem dX8_swapBest_130 : decode cX8_swapBest 130 = .ok (.iload 6, 2) := by decide +kernel
theorem dX8_swapBest_132 : decode cX8_swapBest 132 = .ok (.iaload, 1) := by decide +kernel
theorem dX8_swapBest_133 : decode cX8_swapBest 133 = .ok (.iadd, 1) := by decide +kernel
theorem dX8_swapBest_134 : decode cX8_swapBest 134 = .ok (.if_icmp .ne 7, 3) := by decide +kernel
theorem dX8_swapBest_137 : decode cX8_swapBest 137 = .ok (.iconst 1, 1) := by decide +kernel
theorem dX8_swapBest_138 : decode cX8_swapBest 138 = .ok (.goto 4, 3) := by decide +kernel
theorem dX8_swapBest_141 : decode cX8_swapBest 141 = .ok (.iconst 0, 1) := by decide +kernel
theorem dX8_swapBest_142 : decode cX8_swapBest 142 = .ok (.bastore, 1) := by decide +kernel
theorem dX8_swapBest_143 : decode cX8_swapBest 143 = .ok (.iinc 3 1, 3) := by decide +kernel
theorem dX8_swapBest_146 : decode cX8_swapBest 146 = .ok (.goto (-134), 3) := by decide +kernel
theorem dX8_swapBest_149 : decode cX8_swapBest 149 = .ok (.iconst (-1), 1) := by decide +kernel
theorem dX8_swapBest_150 : decode cX8_swapBest 150 = .ok (.istore_n 3, 1) := by decide +kernel
theorem dX8_swapBest_151 : decode cX8_swapBest 151 = .ok (.iload_n 2, 1) := by decide +kernel
theorem dX8_swapBest_152 : decode cX8_swapBest 152 = .ok (.istore 4, 2) := by decide +kernel
theorem dX8_swapBest_154 : decode cX8_swapBest 154 = .ok (.iconst 0, 1) := by decide +kernel
theorem dX8_swapBest_155 : decode cX8_swapBest 155 = .ok (.istore 5, 2) := by decide +kernel
theorem dX8_swapBest_157 : decode cX8_swapBest 157 = .ok (.iload 5, 2) := by decide +kernel
theorem dX8_swapBest_159 : decode cX8_swapBest 159 = .ok (.sipush 256, 3) := by decide +kernel
theorem dX8_swapBest_162 : decode cX8_swapBest 162 = .ok (.if_icmp .ge 72, 3) := by decide +kernel
theorem dX8_swapBest_165 : decode cX8_swapBest 165 = .ok (.aload_n 0, 1) := by decide +kernel
theorem dX8_swapBest_166 : decode cX8_swapBest 166 = .ok (.getfield 68, 3) := by decide +kernel
theorem dX8_swapBest_169 : decode cX8_swapBest 169 = .ok (.iload 5, 2) := by decide +kernel
theorem dX8_swapBest_171 : decode cX8_swapBest 171 = .ok (.baload, 1) := by decide +kernel
theorem dX8_swapBest_172 : decode cX8_swapBest 172 = .ok (.ifCond .eq 56, 3) := by decide +kernel
theorem dX8_swapBest_175 : decode cX8_swapBest 175 = .ok (.aload_n 0, 1) := by decide +kernel
theorem dX8_swapBest_176 : decode cX8_swapBest 176 = .ok (.iload 5, 2) := by decide +kernel
theorem dX8_swapBest_178 : decode cX8_swapBest 178 = .ok (.bipush 32, 2) := by decide +kernel
theorem dX8_swapBest_180 : decode cX8_swapBest 180 = .ok (.idiv, 1) := by decide +kernel
theorem dX8_swapBest_181 : decode cX8_swapBest 181 = .ok (.iload 5, 2) := by decide +kernel
theorem dX8_swapBest_183 : decode cX8_swapBest 183 = .ok (.bipush 32, 2) := by decide +kernel
theorem dX8_swapBest_185 : decode cX8_swapBest 185 = .ok (.irem, 1) := by decide +kernel
theorem dX8_swapBest_186 : decode cX8_swapBest 186 = .ok (.invokevirtual 195, 3) := by decide +kernel
theorem dX8_swapBest_189 : decode cX8_swapBest 189 = .ok (.aload_n 0, 1) := by decide +kernel
theorem dX8_swapBest_190 : decode cX8_swapBest 190 = .ok (.invokevirtual 192, 3) := by decide +kernel
theorem dX8_swapBest_193 : decode cX8_swapBest 193 = .ok (.ifCond .eq 21, 3) := by decide +kernel
theorem dX8_swapBest_196 : decode cX8_swapBest 196 = .ok (.aload_n 0, 1) := by decide +kernel
theorem dX8_swapBest_197 : decode cX8_swapBest 197 = .ok (.getfield 183, 3) := by decide +kernel
theorem dX8_swapBest_200 : decode cX8_swapBest 200 = .ok (.iload 4, 2) := by decide +kernel
theorem dX8_swapBest_202 : decode cX8_swapBest 202 = .ok (.if_icmp .ge 12, 3) := by decide +kernel
theorem dX8_swapBest_205 : decode cX8_swapBest 205 = .ok (.aload_n 0, 1) := by decide +kernel
theorem dX8_swapBest_206 : decode cX8_swapBest 206 = .ok (.getfield 183, 3) := by decide +kernel
theorem dX8_swapBest_209 : decode cX8_swapBest 209 = .ok (.istore 4, 2) := by decide +kernel
theorem dX8_swapBest_211 : decode cX8_swapBest 211 = .ok (.iload 5, 2) := by decide +kernel
theorem dX8_swapBest_213 : decode cX8_swapBest 213 = .ok (.istore_n 3, 1) := by decide +kernel
theorem dX8_swapBest_214 : decode cX8_swapBest 214 = .ok (.aload_n 0, 1) := by decide +kernel
theorem dX8_swapBest_215 : decode cX8_swapBest 215 = .ok (.iload 5, 2) := by decide +kernel
theorem dX8_swapBest_217 : decode cX8_swapBest 217 = .ok (.bipush 32, 2) := by decide +kernel
theorem dX8_swapBest_219 : decode cX8_swapBest 219 = .ok (.idiv, 1) := by decide +kernel
theorem dX8_swapBest_220 : decode cX8_swapBest 220 = .ok (.iload 5, 2) := by decide +kernel
theorem dX8_swapBest_222 : decode cX8_swapBest 222 = .ok (.bipush 32, 2) := by decide +kernel
theorem dX8_swapBest_224 : decode cX8_swapBest 224 = .ok (.irem, 1) := by decide +kernel
theorem dX8_swapBest_225 : decode cX8_swapBest 225 = .ok (.invokevirtual 195, 3) := by decide +kernel
theorem dX8_swapBest_228 : decode cX8_swapBest 228 = .ok (.iinc 5 1, 3) := by decide +kernel
theorem dX8_swapBest_231 : decode cX8_swapBest 231 = .ok (.goto (-74), 3) := by decide +kernel
theorem dX8_swapBest_234 : decode cX8_swapBest 234 = .ok (.iload_n 3, 1) := by decide +kernel
theorem dX8_swapBest_235 : decode cX8_swapBest 235 = .ok (.ifCond .ge 5, 3) := by decide +kernel
theorem dX8_swapBest_238 : decode cX8_swapBest 238 = .ok (.iconst 0, 1) := by decide +kernel
theorem dX8_swapBest_239 : decode cX8_swapBest 239 = .ok (.ireturn, 1) := by decide +kernel
theorem dX8_swapBest_240 : decode cX8_swapBest 240 = .ok (.aload_n 0, 1) := by decide +kernel
theorem dX8_swapBest_241 : decode cX8_swapBest 241 = .ok (.iload_n 3, 1) := by decide +kernel
theorem dX8_swapBest_242 : decode cX8_swapBest 242 = .ok (.bipush 32, 2) := by decide +kernel
theorem dX8_swapBest_244 : decode cX8_swapBest 244 = .ok (.idiv, 1) := by decide +kernel
theorem dX8_swapBest_245 : decode cX8_swapBest 245 = .ok (.iload_n 3, 1) := by decide +kernel
theorem dX8_swapBest_246 : decode cX8_swapBest 246 = .ok (.bipush 32, 2) := by decide +kernel
theorem dX8_swapBest_248 : decode cX8_swapBest 248 = .ok (.irem, 1) := by decide +kernel
theorem dX8_swapBest_249 : decode cX8_swapBest 249 = .ok (.invokevirtual 195, 3) := by decide +kernel
theorem dX8_swapBest_252 : decode cX8_swapBest 252 = .ok (.iconst 1, 1) := by decide +kernel
theorem dX8_swapBest_253 : decode cX8_swapBest 253 = .ok (.ireturn, 1) := by decide +kernel
theorem dX8_isAhead_0 : decode cX8_isAhead 0 = .ok (.aload_n 0, 1) := by decide +kernel
theorem dX8_isAhead_1 : decode cX8_isAhead 1 = .ok (.getfield 77, 3) := by decide +kernel
theorem dX8_isAhead_4 : decode cX8_isAhead 4 = .ok (.iload_n 1, 1) := by decide +kernel
theorem dX8_isAhead_5 : decode cX8_isAhead 5 = .ok (.iaload, 1) := by decide +kernel
theorem dX8_isAhead_6 : decode cX8_isAhead 6 = .ok (.iload_n 2, 1) := by decide +kernel
theorem dX8_isAhead_7 : decode cX8_isAhead 7 = .ok (.iushr, 1) := by decide +kernel
theorem dX8_isAhead_8 : decode cX8_isAhead 8 = .ok (.iconst 1, 1) := by decide +kernel
theorem dX8_isAhead_9 : decode cX8_isAhead 9 = .ok (.iand, 1) := by decide +kernel
theorem dX8_isAhead_10 : decode cX8_isAhead 10 = .ok (.iconst 1, 1) := by decide +kernel
theorem dX8_isAhead_11 : decode cX8_isAhead 11 = .ok (.if_icmp .ne 7, 3) := by decide +kernel
theorem dX8_isAhead_14 : decode cX8_isAhead 14 = .ok (.iconst 1, 1) := by decide +kernel
theorem dX8_isAhead_15 : decode cX8_isAhead 15 = .ok (.goto 4, 3) := by decide +kernel
theorem dX8_isAhead_18 : decode cX8_isAhead 18 = .ok (.iconst 0, 1) := by decide +kernel
theorem dX8_isAhead_19 : decode cX8_isAhead 19 = .ok (.ireturn, 1) := by decide +kernel
theorem dX8_tell_0 : decode cX8_tell 0 = .ok (.aload_n 0, 1) := by decide +kernel
theorem dX8_tell_1 : decode cX8_tell 1 = .ok (.getfield 77, 3) := by decide +kernel
theorem dX8_tell_4 : decode cX8_tell 4 = .ok (.iload_n 1, 1) := by decide +kernel
theorem dX8_tell_5 : decode cX8_tell 5 = .ok (.dup2, 1) := by decide +kernel
theorem dX8_tell_6 : decode cX8_tell 6 = .ok (.iaload, 1) := by decide +kernel
theorem dX8_tell_7 : decode cX8_tell 7 = .ok (.iconst 1, 1) := by decide +kernel
theorem dX8_tell_8 : decode cX8_tell 8 = .ok (.iload_n 2, 1) := by decide +kernel
theorem dX8_tell_9 : decode cX8_tell 9 = .ok (.ishl, 1) := by decide +kernel
theorem dX8_tell_10 : decode cX8_tell 10 = .ok (.ior, 1) := by decide +kernel
theorem dX8_tell_11 : decode cX8_tell 11 = .ok (.iastore, 1) := by decide +kernel
theorem dX8_tell_12 : decode cX8_tell 12 = .ok (.aload_n 0, 1) := by decide +kernel
theorem dX8_tell_13 : decode cX8_tell 13 = .ok (.iconst 1, 1) := by decide +kernel
theorem dX8_tell_14 : decode cX8_tell 14 = .ok (.putfield 232, 3) := by decide +kernel
theorem dX8_tell_17 : decode cX8_tell 17 = .ok (.return_, 1) := by decide +kernel
theorem dX8_head_0 : decode cX8_head 0 = .ok (.aload_n 0, 1) := by decide +kernel
theorem dX8_head_1 : decode cX8_head 1 = .ok (.getfield 71, 3) := by decide +kernel
theorem dX8_head_4 : decode cX8_head 4 = .ok (.iload_n 1, 1) := by decide +kernel
theorem dX8_head_5 : decode cX8_head 5 = .ok (.iaload, 1) := by decide +kernel
theorem dX8_head_6 : decode cX8_head 6 = .ok (.iload_n 2, 1) := by decide +kernel
theorem dX8_head_7 : decode cX8_head 7 = .ok (.if_icmp .ge 15, 3) := by decide +kernel
theorem dX8_head_10 : decode cX8_head 10 = .ok (.aload_n 0, 1) := by decide +kernel
theorem dX8_head_11 : decode cX8_head 11 = .ok (.getfield 71, 3) := by decide +kernel
theorem dX8_head_14 : decode cX8_head 14 = .ok (.iload_n 1, 1) := by decide +kernel
theorem dX8_head_15 : decode cX8_head 15 = .ok (.iload_n 2, 1) := by decide +kernel
theorem dX8_head_16 : decode cX8_head 16 = .ok (.iastore, 1) := by decide +kernel
theorem dX8_head_17 : decode cX8_head 17 = .ok (.aload_n 0, 1) := by decide +kernel
theorem dX8_head_18 : decode cX8_head 18 = .ok (.iconst 1, 1) := by decide +kernel
theorem dX8_head_19 : decode cX8_head 19 = .ok (.putfield 232, 3) := by decide +kernel
theorem dX8_head_22 : decode cX8_head 22 = .ok (.return_, 1) := by decide +kernel
theorem dX8_dead_0 : decode cX8_dead 0 = .ok (.aload_n 0, 1) := by decide +kernel
theorem dX8_dead_1 : decode cX8_dead 1 = .ok (.getfield 74, 3) := by decide +kernel
theorem dX8_dead_4 : decode cX8_dead 4 = .ok (.iload_n 1, 1) := by decide +kernel
theorem dX8_dead_5 : decode cX8_dead 5 = .ok (.iaload, 1) := by decide +kernel
theorem dX8_dead_6 : decode cX8_dead 6 = .ok (.iload_n 2, 1) := by decide +kernel
theorem dX8_dead_7 : decode cX8_dead 7 = .ok (.if_icmp .le 15, 3) := by decide +kernel
theorem dX8_dead_10 : decode cX8_dead 10 = .ok (.aload_n 0, 1) := by decide +kernel
theorem dX8_dead_11 : decode cX8_dead 11 = .ok (.getfield 74, 3) := by decide +kernel
theorem dX8_dead_14 : decode cX8_dead 14 = .ok (.iload_n 1, 1) := by decide +kernel
theorem dX8_dead_15 : decode cX8_dead 15 = .ok (.iload_n 2, 1) := by decide +kernel
theorem dX8_dead_16 : decode cX8_dead 16 = .ok (.iastore, 1) := by decide +kernel
theorem dX8_dead_17 : decode cX8_dead 17 = .ok (.aload_n 0, 1) := by decide +kernel
theorem dX8_dead_18 : decode cX8_dead 18 = .ok (.iconst 1, 1) := by decide +kernel
theorem dX8_dead_19 : decode cX8_dead 19 = .ok (.putfield 232, 3) := by decide +kernel
theorem dX8_dead_22 : decode cX8_dead 22 = .ok (.return_, 1) := by decide +kernel
theorem dX8_ask_0 : decode cX8_ask 0 = .ok (.iconst 0, 1) := by decide +kernel
theorem dX8_ask_1 : decode cX8_ask 1 = .ok (.istore_n 1, 1) := by decide +kernel
theorem dX8_ask_2 : decode cX8_ask 2 = .ok (.iload_n 1, 1) := by decide +kernel
theorem dX8_ask_3 : decode cX8_ask 3 = .ok (.aload_n 0, 1) := by decide +kernel
theorem dX8_ask_4 : decode cX8_ask 4 = .ok (.getfield 143, 3) := by decide +kernel
theorem dX8_ask_7 : decode cX8_ask 7 = .ok (.if_icmp .ge 47, 3) := by decide +kernel
theorem dX8_ask_10 : decode cX8_ask 10 = .ok (.aload_n 0, 1) := by decide +kernel
theorem dX8_ask_11 : decode cX8_ask 11 = .ok (.aload_n 0, 1) := by decide +kernel
theorem dX8_ask_12 : decode cX8_ask 12 = .ok (.getfield 236, 3) := by decide +kernel
theorem dX8_ask_15 : decode cX8_ask 15 = .ok (.ifCond .ne 25, 3) := by decide +kernel
theorem dX8_ask_18 : decode cX8_ask 18 = .ok (.aload_n 0, 1) := by decide +kernel
theorem dX8_ask_19 : decode cX8_ask 19 = .ok (.getfield 74, 3) := by decide +kernel
theorem dX8_ask_22 : decode cX8_ask 22 = .ok (.iload_n 1, 1) := by decide +kernel
theorem dX8_ask_23 : decode cX8_ask 23 = .ok (.iaload, 1) := by decide +kernel
theorem dX8_ask_24 : decode cX8_ask 24 = .ok (.aload_n 0, 1) := by decide +kernel
theorem dX8_ask_25 : decode cX8_ask 25 = .ok (.getfield 71, 3) := by decide +kernel
theorem dX8_ask_28 : decode cX8_ask 28 = .ok (.iload_n 1, 1) := by decide +kernel
theorem dX8_ask_29 : decode cX8_ask 29 = .ok (.iaload, 1) := by decide +kernel
theorem dX8_ask_30 : decode cX8_ask 30 = .ok (.isub, 1) := by decide +kernel
theorem dX8_ask_31 : decode cX8_ask 31 = .ok (.aload_n 0, 1) := by decide +kernel
theorem dX8_ask_32 : decode cX8_ask 32 = .ok (.getfield 31, 3) := by decide +kernel
theorem dX8_ask_35 : decode cX8_ask 35 = .ok (.iload_n 1, 1) := by decide +kernel
theorem dX8_ask_36 : decode cX8_ask 36 = .ok (.iaload, 1) := by decide +kernel
theorem dX8_ask_37 : decode cX8_ask 37 = .ok (.if_icmp .ge 7, 3) := by decide +kernel
theorem dX8_ask_40 : decode cX8_ask 40 = .ok (.iconst 1, 1) := by decide +kernel
theorem dX8_ask_41 : decode cX8_ask 41 = .ok (.goto 4, 3) := by decide +kernel
theorem dX8_ask_44 : decode cX8_ask 44 = .ok (.iconst 0, 1) := by decide +kernel
theorem dX8_ask_45 : decode cX8_ask 45 = .ok (.putfield 236, 3) := by decide +kernel
theorem dX8_ask_48 : decode cX8_ask 48 = .ok (.iinc 1 1, 3) := by decide +kernel
theorem dX8_ask_51 : decode cX8_ask 51 = .ok (.goto (-49), 3) := by decide +kernel
theorem dX8_ask_54 : decode cX8_ask 54 = .ok (.return_, 1) := by decide +kernel
theorem dX8_byPieces_0 : decode cX8_byPieces 0 = .ok (.iconst 0, 1) := by decide +kernel
theorem dX8_byPieces_1 : decode cX8_byPieces 1 = .ok (.istore_n 1, 1) := by decide +kernel
theorem dX8_byPieces_2 : decode cX8_byPieces 2 = .ok (.iload_n 1, 1) := by decide +kernel
theorem dX8_byPieces_3 : decode cX8_byPieces 3 = .ok (.aload_n 0, 1) := by decide +kernel
theorem dX8_byPieces_4 : decode cX8_byPieces 4 = .ok (.getfield 140, 3) := by decide +kernel
theorem dX8_byPieces_7 : decode cX8_byPieces 7 = .ok (.if_icmp .ge 130, 3) := by decide +kernel
theorem dX8_byPieces_10 : decode cX8_byPieces 10 = .ok (.iconst 1, 1) := by decide +kernel
theorem dX8_byPieces_11 : decode cX8_byPieces 11 = .ok (.istore_n 2, 1) := by decide +kernel
theorem dX8_byPieces_12 : decode cX8_byPieces 12 = .ok (.iload_n 2, 1) := by decide +kernel
theorem dX8_byPieces_13 : decode cX8_byPieces 13 = .ok (.aload_n 0, 1) := by decide +kernel
theorem dX8_byPieces_14 : decode cX8_byPieces 14 = .ok (.getfield 19, 3) := by decide +kernel
theorem dX8_byPieces_17 : decode cX8_byPieces 17 = .ok (.iload_n 1, 1) := by decide +kernel
theorem dX8_byPieces_18 : decode cX8_byPieces 18 = .ok (.iaload, 1) := by decide +kernel
theorem dX8_byPieces_19 : decode cX8_byPieces 19 = .ok (.if_icmp .ge 51, 3) := by decide +kernel
theorem dX8_byPieces_22 : decode cX8_byPieces 22 = .ok (.aload_n 0, 1) := by decide +kernel
theorem dX8_byPieces_23 : decode cX8_byPieces 23 = .ok (.getfield 22, 3) := by decide +kernel
theorem dX8_byPieces_26 : decode cX8_byPieces 26 = .ok (.bipush 8, 2) := by decide +kernel
theorem dX8_byPieces_28 : decode cX8_byPieces 28 = .ok (.iload_n 1, 1) := by decide +kernel
theorem dX8_byPieces_29 : decode cX8_byPieces 29 = .ok (.imul, 1) := by decide +kernel
theorem dX8_byPieces_30 : decode cX8_byPieces 30 = .ok (.iload_n 2, 1) := by decide +kernel
theorem dX8_byPieces_31 : decode cX8_byPieces 31 = .ok (.iadd, 1) := by decide +kernel
theorem dX8_byPieces_32 : decode cX8_byPieces 32 = .ok (.iconst 1, 1) := by decide +kernel
theorem dX8_byPieces_33 : decode cX8_byPieces 33 = .ok (.isub, 1) := by decide +kernel
theorem dX8_byPieces_34 : decode cX8_byPieces 34 = .ok (.iaload, 1) := by decide +kernel
theorem dX8_byPieces_35 : decode cX8_byPieces 35 = .ok (.istore_n 3, 1) := by decide +kernel
theorem dX8_byPieces_36 : decode cX8_byPieces 36 = .ok (.aload_n 0, 1) := by decide +kernel
theorem dX8_byPieces_37 : decode cX8_byPieces 37 = .ok (.aload_n 0, 1) := by decide +kernel
theorem dX8_byPieces_38 : decode cX8_byPieces 38 = .ok (.getfield 22, 3) := by decide +kernel
theorem dX8_byPieces_41 : decode cX8_byPieces 41 = .ok (.bipush 8, 2) := by decide +kernel
theorem dX8_byPieces_43 : decode cX8_byPieces 43 = .ok (.iload_n 1, 1) := by decide +kernel
theorem dX8_byPieces_44 : decode cX8_byPieces 44 = .ok (.imul, 1) := by decide +kernel
theorem dX8_byPieces_45 : decode cX8_byPieces 45 = .ok (.iload_n 2, 1) := by decide +kernel
theorem dX8_byPieces_46 : decode cX8_byPieces 46 = .ok (.iadd, 1) := by decide +kernel
theorem dX8_byPieces_47 : decode cX8_byPieces 47 = .ok (.iaload, 1) := by decide +kernel
theorem dX8_byPieces_48 : decode cX8_byPieces 48 = .ok (.aload_n 0, 1) := by decide +kernel
theorem dX8_byPieces_49 : decode cX8_byPieces 49 = .ok (.getfield 71, 3) := by decide +kernel
theorem dX8_byPieces_52 : decode cX8_byPieces 52 = .ok (.iload_n 3, 1) := by decide +kernel
theorem dX8_byPieces_53 : decode cX8_byPieces 53 = .ok (.iaload, 1) := by decide +kernel
theorem dX8_byPieces_54 : decode cX8_byPieces 54 = .ok (.aload_n 0, 1) := by decide +kernel
theorem dX8_byPieces_55 : decode cX8_byPieces 55 = .ok (.getfield 31, 3) := by decide +kernel
theorem dX8_byPieces_58 : decode cX8_byPieces 58 = .ok (.iload_n 3, 1) := by decide +kernel
theorem dX8_byPieces_59 : decode cX8_byPieces 59 = .ok (.iaload, 1) := by decide +kernel
theorem dX8_byPieces_60 : decode cX8_byPieces 60 = .ok (.iadd, 1) := by decide +kernel
theorem dX8_byPieces_61 : decode cX8_byPieces 61 = .ok (.invokevirtual 239, 3) := by decide +kernel
theorem dX8_byPieces_64 : decode cX8_byPieces 64 = .ok (.iinc 2 1, 3) := by decide +kernel
theorem dX8_byPieces_67 : decode cX8_byPieces 67 = .ok (.goto (-55), 3) := by decide +kernel
theorem dX8_byPieces_70 : decode cX8_byPieces 70 = .ok (.aload_n 0, 1) := by decide +kernel
theorem dX8_byPieces_71 : decode cX8_byPieces 71 = .ok (.getfield 19, 3) := by decide +kernel
theorem dX8_byPieces_74 : decode cX8_byPieces 74 = .ok (.iload_n 1, 1) := by decide +kernel
theorem dX8_byPieces_75 : decode cX8_byPieces 75 = .ok (.iaload, 1) := by decide +kernel
theorem dX8_byPieces_76 : decode cX8_byPieces 76 = .ok (.iconst 2, 1) := by decide +kernel
theorem dX8_byPieces_77 : decode cX8_byPieces 77 = .ok (.isub, 1) := by decide +kernel
theorem dX8_byPieces_78 : decode cX8_byPieces 78 = .ok (.istore_n 2, 1) := by decide +kernel
theorem dX8_byPieces_79 : decode cX8_byPieces 79 = .ok (.iload_n 2, 1) := by decide +kernel
theorem dX8_byPieces_80 : decode cX8_byPieces 80 = .ok (.ifCond .lt 51, 3) := by decide +kernel
theorem dX8_byPieces_83 : decode cX8_byPieces 83 = .ok (.aload_n 0, 1) := by decide +kernel
theorem dX8_byPieces_84 : decode cX8_byPieces 84 = .ok (.getfield 22, 3) := by decide +kernel
theorem dX8_byPieces_87 : decode cX8_byPieces 87 = .ok (.bipush 8, 2) := by decide +kernel
theorem dX8_byPieces_89 : decode cX8_byPieces 89 = .ok (.iload_n 1, 1) := by decide +kernel
theorem dX8_byPieces_90 : decode cX8_byPieces 90 = .ok (.imul, 1) := by decide +kernel
theorem dX8_byPieces_91 : decode cX8_byPieces 91 = .ok (.iload_n 2, 1) := by decide +kernel
theorem dX8_byPieces_92 : decode cX8_byPieces 92 = .ok (.iadd, 1) := by decide +kernel
theorem dX8_byPieces_93 : decode cX8_byPieces 93 = .ok (.iconst 1, 1) := by decide +kernel
theorem dX8_byPieces_94 : decode cX8_byPieces 94 = .ok (.iadd, 1) := by decide +kernel
theorem dX8_byPieces_95 : decode cX8_byPieces 95 = .ok (.iaload, 1) := by decide +kernel
theorem dX8_byPieces_96 : decode cX8_byPieces 96 = .ok (.istore_n 3, 1) := by decide +kernel
theorem dX8_byPieces_97 : decode cX8_byPieces 97 = .ok (.aload_n 0, 1) := by decide +kernel
theorem dX8_byPieces_98 : decode cX8_byPieces 98 = .ok (.aload_n 0, 1) := by decide +kernel
theorem dX8_byPieces_99 : decode cX8_byPieces 99 = .ok (.getfield 22, 3) := by decide +kernel
theorem dX8_byPieces_102 : decode cX8_byPieces 102 = .ok (.bipush 8, 2) := by decide +kernel
theorem dX8_byPieces_104 : decode cX8_byPieces 104 = .ok (.iload_n 1, 1) := by decide +kernel
theorem dX8_byPieces_105 : decode cX8_byPieces 105 = .ok (.imul, 1) := by decide +kernel
theorem dX8_byPieces_106 : decode cX8_byPieces 106 = .ok (.iload_n 2, 1) := by decide +kernel
theorem dX8_byPieces_107 : decode cX8_byPieces 107 = .ok (.iadd, 1) := by decide +kernel
theorem dX8_byPieces_108 : decode cX8_byPieces 108 = .ok (.iaload, 1) := by decide +kernel
theorem dX8_byPieces_109 : decode cX8_byPieces 109 = .ok (.aload_n 0, 1) := by decide +kernel
theorem dX8_byPieces_110 : decode cX8_byPieces 110 = .ok (.getfield 74, 3) := by decide +kernel
theorem dX8_byPieces_113 : decode cX8_byPieces 113 = .ok (.iload_n 3, 1) := by decide +kernel
theorem dX8_byPieces_114 : decode cX8_byPieces 114 = .ok (.iaload, 1) := by decide +kernel
theorem dX8_byPieces_115 : decode cX8_byPieces 115 = .ok (.aload_n 0, 1) := by decide +kernel
theorem dX8_byPieces_116 : decode cX8_byPieces 116 = .ok (.getfield 31, 3) := by decide +kernel
theorem dX8_byPieces_119 : decode cX8_byPieces 119 = .ok (.iload_n 3, 1) := by decide +kernel
theorem dX8_byPieces_120 : decode cX8_byPieces 120 = .ok (.iaload, 1) := by decide +kernel
theorem dX8_byPieces_121 : decode cX8_byPieces 121 = .ok (.isub, 1) := by decide +kernel
theorem dX8_byPieces_122 : decode cX8_byPieces 122 = .ok (.invokevirtual 242, 3) := by decide +kernel
theorem dX8_byPieces_125 : decode cX8_byPieces 125 = .ok (.iinc 2 (-1), 3) := by decide +kernel
theorem dX8_byPieces_128 : decode cX8_byPieces 128 = .ok (.goto (-49), 3) := by decide +kernel
theorem dX8_byPieces_131 : decode cX8_byPieces 131 = .ok (.iinc 1 1, 3) := by decide +kernel
theorem dX8_byPieces_134 : decode cX8_byPieces 134 = .ok (.goto (-132), 3) := by decide +kernel
theorem dX8_byPieces_137 : decode cX8_byPieces 137 = .ok (.return_, 1) := by decide +kernel
theorem dX8_byAhead_0 : decode cX8_byAhead 0 = .ok (.iconst 0, 1) := by decide +kernel
theorem dX8_byAhead_1 : decode cX8_byAhead 1 = .ok (.istore_n 1, 1) := by decide +kernel
theorem dX8_byAhead_2 : decode cX8_byAhead 2 = .ok (.iload_n 1, 1) := by decide +kernel
theorem dX8_byAhead_3 : decode cX8_byAhead 3 = .ok (.aload_n 0, 1) := by decide +kernel
theorem dX8_byAhead_4 : decode cX8_byAhead 4 = .ok (.getfield 143, 3) := by decide +kernel
theorem dX8_byAhead_7 : decode cX8_byAhead 7 = .ok (.if_icmp .ge 70, 3) := by decide +kernel
theorem dX8_byAhead_10 : decode cX8_byAhead 10 = .ok (.iconst 0, 1) := by decide +kernel
theorem dX8_byAhead_11 : decode cX8_byAhead 11 = .ok (.istore_n 2, 1) := by decide +kernel
theorem dX8_byAhead_12 : decode cX8_byAhead 12 = .ok (.iload_n 2, 1) := by decide +kernel
theorem dX8_byAhead_13 : decode cX8_byAhead 13 = .ok (.aload_n 0, 1) := by decide +kernel
theorem dX8_byAhead_14 : decode cX8_byAhead 14 = .ok (.getfield 143, 3) := by decide +kernel
theorem dX8_byAhead_17 : decode cX8_byAhead 17 = .ok (.if_icmp .ge 54, 3) := by decide +kernel
theorem dX8_byAhead_20 : decode cX8_byAhead 20 = .ok (.aload_n 0, 1) := by decide +kernel
theorem dX8_byAhead_21 : decode cX8_byAhead 21 = .ok (.iload_n 1, 1) := by decide +kernel
theorem dX8_byAhead_22 : decode cX8_byAhead 22 = .ok (.iload_n 2, 1) := by decide +kernel
theorem dX8_byAhead_23 : decode cX8_byAhead 23 = .ok (.invokevirtual 245, 3) := by decide +kernel
theorem dX8_byAhead_26 : decode cX8_byAhead 26 = .ok (.ifCond .eq 39, 3) := by decide +kernel
theorem dX8_byAhead_29 : decode cX8_byAhead 29 = .ok (.aload_n 0, 1) := by decide +kernel
theorem dX8_byAhead_30 : decode cX8_byAhead 30 = .ok (.iload_n 2, 1) := by decide +kernel
theorem dX8_byAhead_31 : decode cX8_byAhead 31 = .ok (.aload_n 0, 1) := by decide +kernel
theorem dX8_byAhead_32 : decode cX8_byAhead 32 = .ok (.getfield 71, 3) := by decide +kernel
theorem dX8_byAhead_35 : decode cX8_byAhead 35 = .ok (.iload_n 1, 1) := by decide +kernel
theorem dX8_byAhead_36 : decode cX8_byAhead 36 = .ok (.iaload, 1) := by decide +kernel
theorem dX8_byAhead_37 : decode cX8_byAhead 37 = .ok (.aload_n 0, 1) := by decide +kernel
theorem dX8_byAhead_38 : decode cX8_byAhead 38 = .ok (.getfield 31, 3) := by decide +kernel
theorem dX8_byAhead_41 : decode cX8_byAhead 41 = .ok (.iload_n 1, 1) := by decide +kernel
theorem dX8_byAhead_42 : decode cX8_byAhead 42 = .ok (.iaload, 1) := by decide +kernel
theorem dX8_byAhead_43 : decode cX8_byAhead 43 = .ok (.iadd, 1) := by decide +kernel
theorem dX8_byAhead_44 : decode cX8_byAhead 44 = .ok (.invokevirtual 239, 3) := by decide +kernel
theorem dX8_byAhead_47 : decode cX8_byAhead 47 = .ok (.aload_n 0, 1) := by decide +kernel
theorem dX8_byAhead_48 : decode cX8_byAhead 48 = .ok (.iload_n 1, 1) := by decide +kernel
theorem dX8_byAhead_49 : decode cX8_byAhead 49 = .ok (.aload_n 0, 1) := by decide +kernel
theorem dX8_byAhead_50 : decode cX8_byAhead 50 = .ok (.getfield 74, 3) := by decide +kernel
theorem dX8_byAhead_53 : decode cX8_byAhead 53 = .ok (.iload_n 2, 1) := by decide +kernel
theorem dX8_byAhead_54 : decode cX8_byAhead 54 = .ok (.iaload, 1) := by decide +kernel
theorem dX8_byAhead_55 : decode cX8_byAhead 55 = .ok (.aload_n 0, 1) := by decide +kernel
theorem dX8_byAhead_56 : decode cX8_byAhead 56 = .ok (.getfield 31, 3) := by decide +kernel
theorem dX8_byAhead_59 : decode cX8_byAhead 59 = .ok (.iload_n 2, 1) := by decide +kernel
theorem dX8_byAhead_60 : decode cX8_byAhead 60 = .ok (.iaload, 1) := by decide +kernel
theorem dX8_byAhead_61 : decode cX8_byAhead 61 = .ok (.isub, 1) := by decide +kernel
theorem dX8_byAhead_62 : decode cX8_byAhead 62 = .ok (.invokevirtual 242, 3) := by decide +kernel
theorem dX8_byAhead_65 : decode cX8_byAhead 65 = .ok (.iinc 2 1, 3) := by decide +kernel
theorem dX8_byAhead_68 : decode cX8_byAhead 68 = .ok (.goto (-56), 3) := by decide +kernel
theorem dX8_byAhead_71 : decode cX8_byAhead 71 = .ok (.iinc 1 1, 3) := by decide +kernel
theorem dX8_byAhead_74 : decode cX8_byAhead 74 = .ok (.goto (-72), 3) := by decide +kernel
theorem dX8_byAhead_77 : decode cX8_byAhead 77 = .ok (.return_, 1) := by decide +kernel
theorem dX8_isOn_0 : decode cX8_isOn 0 = .ok (.aload_n 0, 1) := by decide +kernel
theorem dX8_isOn_1 : decode cX8_isOn 1 = .ok (.getfield 28, 3) := by decide +kernel
theorem dX8_isOn_4 : decode cX8_isOn 4 = .ok (.iload_n 1, 1) := by decide +kernel
theorem dX8_isOn_5 : decode cX8_isOn 5 = .ok (.iaload, 1) := by decide +kernel
theorem dX8_isOn_6 : decode cX8_isOn 6 = .ok (.iload_n 2, 1) := by decide +kernel
theorem dX8_isOn_7 : decode cX8_isOn 7 = .ok (.if_icmp .ne 7, 3) := by decide +kernel
theorem dX8_isOn_10 : decode cX8_isOn 10 = .ok (.iconst 1, 1) := by decide +kernel
theorem dX8_isOn_11 : decode cX8_isOn 11 = .ok (.goto 4, 3) := by decide +kernel
theorem dX8_isOn_14 : decode cX8_isOn 14 = .ok (.iconst 0, 1) := by decide +kernel
theorem dX8_isOn_15 : decode cX8_isOn 15 = .ok (.ireturn, 1) := by decide +kernel
theorem dX8_byPairs_0 : decode cX8_byPairs 0 = .ok (.iconst 0, 1) := by decide +kernel
theorem dX8_byPairs_1 : decode cX8_byPairs 1 = .ok (.istore_n 2, 1) := by decide +kernel
theorem dX8_byPairs_2 : decode cX8_byPairs 2 = .ok (.iload_n 2, 1) := by decide +kernel
theorem dX8_byPairs_3 : decode cX8_byPairs 3 = .ok (.aload_n 0, 1) := by decide +kernel
theorem dX8_byPairs_4 : decode cX8_byPairs 4 = .ok (.getfield 143, 3) := by decide +kernel
theorem dX8_byPairs_7 : decode cX8_byPairs 7 = .ok (.if_icmp .ge 195, 3) := by decide +kernel
theorem dX8_byPairs_10 : decode cX8_byPairs 10 = .ok (.aload_n 0, 1) := by decide +kernel
theorem dX8_byPairs_11 : decode cX8_byPairs 11 = .ok (.getfield 236, 3) := by decide +kernel
theorem dX8_byPairs_14 : decode cX8_byPairs 14 = .ok (.ifCond .ne 188, 3) := by decide +kernel
theorem dX8_byPairs_17 : decode cX8_byPairs 17 = .ok (.iload_n 2, 1) := by decide +kernel
theorem dX8_byPairs_18 : decode cX8_byPairs 18 = .ok (.iconst 1, 1) := by decide +kernel
theorem dX8_byPairs_19 : decode cX8_byPairs 19 = .ok (.iadd, 1) := by decide +kernel
theorem dX8_byPairs_20 : decode cX8_byPairs 20 = .ok (.istore_n 3, 1) := by decide +kernel
theorem dX8_byPairs_21 : decode cX8_byPairs 21 = .ok (.iload_n 3, 1) := by decide +kernel
theorem dX8_byPairs_22 : decode cX8_byPairs 22 = .ok (.aload_n 0, 1) := by decide +kernel
theorem dX8_byPairs_23 : decode cX8_byPairs 23 = .ok (.getfield 143, 3) := by decide +kernel
theorem dX8_byPairs_26 : decode cX8_byPairs 26 = .ok (.if_icmp .ge 170, 3) := by decide +kernel
theorem dX8_byPairs_29 : decode cX8_byPairs 29 = .ok (.aload_n 0, 1) := by decide +kernel
theorem dX8_byPairs_30 : decode cX8_byPairs 30 = .ok (.getfield 236, 3) := by decide +kernel
theorem dX8_byPairs_33 : decode cX8_byPairs 33 = .ok (.ifCond .ne 163, 3) := by decide +kernel
theorem dX8_byPairs_36 : decode cX8_byPairs 36 = .ok (.aload_n 0, 1) := by decide +kernel
theorem dX8_byPairs_37 : decode cX8_byPairs 37 = .ok (.iload_n 2, 1) := by decide +kernel
theorem dX8_byPairs_38 : decode cX8_byPairs 38 = .ok (.iload_n 1, 1) := by decide +kernel
theorem dX8_byPairs_39 : decode cX8_byPairs 39 = .ok (.invokevirtual 248, 3) := by decide +kernel
theorem dX8_byPairs_42 : decode cX8_byPairs 42 = .ok (.ifCond .eq 148, 3) := by decide +kernel
theorem dX8_byPairs_45 : decode cX8_byPairs 45 = .ok (.aload_n 0, 1) := by decide +kernel
theorem dX8_byPairs_46 : decode cX8_byPairs 46 = .ok (.iload_n 3, 1) := by decide +kernel
theorem dX8_byPairs_47 : decode cX8_byPairs 47 = .ok (.iload_n 1, 1) := by decide +kernel
theorem dX8_byPairs_48 : decode cX8_byPairs 48 = .ok (.invokevirtual 248, 3) := by decide +kernel
theorem dX8_byPairs_51 : decode cX8_byPairs 51 = .ok (.ifCond .eq 139, 3) := by decide +kernel
theorem dX8_byPairs_54 : decode cX8_byPairs 54 = .ok (.aload_n 0, 1) := by decide +kernel
theorem dX8_byPairs_55 : decode cX8_byPairs 55 = .ok (.iload_n 2, 1) := by decide +kernel
theorem dX8_byPairs_56 : decode cX8_byPairs 56 = .ok (.iload_n 3, 1) := by decide +kernel
theorem dX8_byPairs_57 : decode cX8_byPairs 57 = .ok (.invokevirtual 245, 3) := by decide +kernel
theorem dX8_byPairs_60 : decode cX8_byPairs 60 = .ok (.ifCond .ne 130, 3) := by decide +kernel
theorem dX8_byPairs_63 : decode cX8_byPairs 63 = .ok (.aload_n 0, 1) := by decide +kernel
theorem dX8_byPairs_64 : decode cX8_byPairs 64 = .ok (.iload_n 3, 1) := by decide +kernel
theorem dX8_byPairs_65 : decode cX8_byPairs 65 = .ok (.iload_n 2, 1) := by decide +kernel
theorem dX8_byPairs_66 : decode cX8_byPairs 66 = .ok (.invokevirtual 245, 3) := by decide +kernel
theorem dX8_byPairs_69 : decode cX8_byPairs 69 = .ok (.ifCond .eq 6, 3) := by decide +kernel
theorem dX8_byPairs_72 : decode cX8_byPairs 72 = .ok (.goto 118, 3) := by decide +kernel
theorem dX8_byPairs_75 : decode cX8_byPairs 75 = .ok (.aload_n 0, 1) := by decide +kernel
theorem dX8_byPairs_76 : decode cX8_byPairs 76 = .ok (.getfield 71, 3) := by decide +kernel
theorem dX8_byPairs_79 : decode cX8_byPairs 79 = .ok (.iload_n 2, 1) := by decide +kernel
theorem dX8_byPairs_80 : decode cX8_byPairs 80 = .ok (.iaload, 1) := by decide +kernel
theorem dX8_byPairs_81 : decode cX8_byPairs 81 = .ok (.aload_n 0, 1) := by decide +kernel
theorem dX8_byPairs_82 : decode cX8_byPairs 82 = .ok (.getfield 31, 3) := by decide +kernel
theorem dX8_byPairs_85 : decode cX8_byPairs 85 = .ok (.iload_n 2, 1) := by decide +kernel
theorem dX8_byPairs_86 : decode cX8_byPairs 86 = .ok (.iaload, 1) := by decide +kernel
theorem dX8_byPairs_87 : decode cX8_byPairs 87 = .ok (.iadd, 1) := by decide +kernel
theorem dX8_byPairs_88 : decode cX8_byPairs 88 = .ok (.aload_n 0, 1) := by decide +kernel
theorem dX8_byPairs_89 : decode cX8_byPairs 89 = .ok (.getfield 31, 3) := by decide +kernel
theorem dX8_byPairs_92 : decode cX8_byPairs 92 = .ok (.iload_n 3, 1) := by decide +kernel
theorem dX8_byPairs_93 : decode cX8_byPairs 93 = .ok (.iaload, 1) := by decide +kernel
theorem dX8_byPairs_94 : decode cX8_byPairs 94 = .ok (.iadd, 1) := by decide +kernel
theorem dX8_byPairs_95 : decode cX8_byPairs 95 = .ok (.aload_n 0, 1) := by decide +kernel
theorem dX8_byPairs_96 : decode cX8_byPairs 96 = .ok (.getfield 74, 3) := by decide +kernel
theorem dX8_byPairs_99 : decode cX8_byPairs 99 = .ok (.iload_n 3, 1) := by decide +kernel
theorem dX8_byPairs_100 : decode cX8_byPairs 100 = .ok (.iaload, 1) := by decide +kernel
theorem dX8_byPairs_101 : decode cX8_byPairs 101 = .ok (.if_icmp .le 7, 3) := by decide +kernel
theorem dX8_byPairs_104 : decode cX8_byPairs 104 = .ok (.iconst 1, 1) := by decide +kernel
theorem dX8_byPairs_105 : decode cX8_byPairs 105 = .ok (.goto 4, 3) := by decide +kernel
theorem dX8_byPairs_108 : decode cX8_byPairs 108 = .ok (.iconst 0, 1) := by decide +kernel
theorem dX8_byPairs_109 : decode cX8_byPairs 109 = .ok (.istore 4, 2) := by decide +kernel
theorem dX8_byPairs_111 : decode cX8_byPairs 111 = .ok (.aload_n 0, 1) := by decide +kernel
theorem dX8_byPairs_112 : decode cX8_byPairs 112 = .ok (.getfield 71, 3) := by decide +kernel
theorem dX8_byPairs_115 : decode cX8_byPairs 115 = .ok (.iload_n 3, 1) := by decide +kernel
theorem dX8_byPairs_116 : decode cX8_byPairs 116 = .ok (.iaload, 1) := by decide +kernel
theorem dX8_byPairs_117 : decode cX8_byPairs 117 = .ok (.aload_n 0, 1) := by decide +kernel
theorem dX8_byPairs_118 : decode cX8_byPairs 118 = .ok (.getfield 31, 3) := by decide +kernel
theorem dX8_byPairs_121 : decode cX8_byPairs 121 = .ok (.iload_n 3, 1) := by decide +kernel
theorem dX8_byPairs_122 : decode cX8_byPairs 122 = .ok (.iaload, 1) := by decide +kernel
theorem dX8_byPairs_123 : decode cX8_byPairs 123 = .ok (.iadd, 1) := by decide +kernel
theorem dX8_byPairs_124 : decode cX8_byPairs 124 = .ok (.aload_n 0, 1) := by decide +kernel
theorem dX8_byPairs_125 : decode cX8_byPairs 125 = .ok (.getfield 31, 3) := by decide +kernel
theorem dX8_byPairs_128 : decode cX8_byPairs 128 = .ok (.iload_n 2, 1) := by decide +kernel
theorem dX8_byPairs_129 : decode cX8_byPairs 129 = .ok (.iaload, 1) := by decide +kernel
theorem dX8_byPairs_130 : decode cX8_byPairs 130 = .ok (.iadd, 1) := by decide +kernel
theorem dX8_byPairs_131 : decode cX8_byPairs 131 = .ok (.aload_n 0, 1) := by decide +kernel
theorem dX8_byPairs_132 : decode cX8_byPairs 132 = .ok (.getfield 74, 3) := by decide +kernel
theorem dX8_byPairs_135 : decode cX8_byPairs 135 = .ok (.iload_n 2, 1) := by decide +kernel
theorem dX8_byPairs_136 : decode cX8_byPairs 136 = .ok (.iaload, 1) := by decide +kernel
theorem dX8_byPairs_137 : decode cX8_byPairs 137 = .ok (.if_icmp .le 7, 3) := by decide +kernel
theorem dX8_byPairs_140 : decode cX8_byPairs 140 = .ok (.iconst 1, 1) := by decide +kernel
theorem dX8_byPairs_141 : decode cX8_byPairs 141 = .ok (.goto 4, 3) := by decide +kernel
theorem dX8_byPairs_144 : decode cX8_byPairs 144 = .ok (.iconst 0, 1) := by decide +kernel
theorem dX8_byPairs_145 : decode cX8_byPairs 145 = .ok (.istore 5, 2) := by decide +kernel
theorem dX8_byPairs_147 : decode cX8_byPairs 147 = .ok (.iload 4, 2) := by decide +kernel
theorem dX8_byPairs_149 : decode cX8_byPairs 149 = .ok (.ifCond .eq 16, 3) := by decide +kernel
theorem dX8_byPairs_152 : decode cX8_byPairs 152 = .ok (.iload 5, 2) := by decide +kernel
theorem dX8_byPairs_154 : decode cX8_byPairs 154 = .ok (.ifCond .eq 11, 3) := by decide +kernel
theorem dX8_byPairs_157 : decode cX8_byPairs 157 = .ok (.aload_n 0, 1) := by decide +kernel
theorem dX8_byPairs_158 : decode cX8_byPairs 158 = .ok (.iconst 1, 1) := by decide +kernel
theorem dX8_byPairs_159 : decode cX8_byPairs 159 = .ok (.putfield 236, 3) := by decide +kernel
theorem dX8_byPairs_162 : decode cX8_byPairs 162 = .ok (.goto 28, 3) := by decide +kernel
theorem dX8_byPairs_165 : decode cX8_byPairs 165 = .ok (.iload 4, 2) := by decide +kernel
theorem dX8_byPairs_167 : decode cX8_byPairs 167 = .ok (.ifCond .eq 12, 3) := by decide +kernel
theorem dX8_byPairs_170 : decode cX8_byPairs 170 = .ok (.aload_n 0, 1) := by decide +kernel
theorem dX8_byPairs_171 : decode cX8_byPairs 171 = .ok (.iload_n 3, 1) := by decide +kernel
theorem dX8_byPairs_172 : decode cX8_byPairs 172 = .ok (.iload_n 2, 1) := by decide +kernel
theorem dX8_byPairs_173 : decode cX8_byPairs 173 = .ok (.invokevirtual 251, 3) := by decide +kernel
theorem dX8_byPairs_176 : decode cX8_byPairs 176 = .ok (.goto 14, 3) := by decide +kernel
theorem dX8_byPairs_179 : decode cX8_byPairs 179 = .ok (.iload 5, 2) := by decide +kernel
theorem dX8_byPairs_181 : decode cX8_byPairs 181 = .ok (.ifCond .eq 9, 3) := by decide +kernel
theorem dX8_byPairs_184 : decode cX8_byPairs 184 = .ok (.aload_n 0, 1) := by decide +kernel
theorem dX8_byPairs_185 : decode cX8_byPairs 185 = .ok (.iload_n 2, 1) := by decide +kernel
theorem dX8_byPairs_186 : decode cX8_byPairs 186 = .ok (.iload_n 3, 1) := by decide +kernel
theorem dX8_byPairs_187 : decode cX8_byPairs 187 = .ok (.invokevirtual 251, 3) := by decide +kernel
theorem dX8_byPairs_190 : decode cX8_byPairs 190 = .ok (.iinc 3 1, 3) := by decide +kernel
theorem dX8_byPairs_193 : decode cX8_byPairs 193 = .ok (.goto (-172), 3) := by decide +kernel
theorem dX8_byPairs_196 : decode cX8_byPairs 196 = .ok (.iinc 2 1, 3) := by decide +kernel
theorem dX8_byPairs_199 : decode cX8_byPairs 199 = .ok (.goto (-197), 3) := by decide +kernel
theorem dX8_byPairs_202 : decode cX8_byPairs 202 = .ok (.return_, 1) := by decide +kernel
theorem dX8_bySets_0 : decode cX8_bySets 0 = .ok (.iconst 0, 1) := by decide +kernel
theorem dX8_bySets_1 : decode cX8_bySets 1 = .ok (.istore_n 2, 1) := by decide +kernel
theorem dX8_bySets_2 : decode cX8_bySets 2 = .ok (.iload_n 2, 1) := by decide +kernel
theorem dX8_bySets_3 : decode cX8_bySets 3 = .ok (.aload_n 0, 1) := by decide +kernel
theorem dX8_bySets_4 : decode cX8_bySets 4 = .ok (.getfield 143, 3) := by decide +kernel
theorem dX8_bySets_7 : decode cX8_bySets 7 = .ok (.if_icmp .ge 64, 3) := by decide +kernel
theorem dX8_bySets_10 : decode cX8_bySets 10 = .ok (.aload_n 0, 1) := by decide +kernel
theorem dX8_bySets_11 : decode cX8_bySets 11 = .ok (.getfield 236, 3) := by decide +kernel
theorem dX8_bySets_14 : decode cX8_bySets 14 = .ok (.ifCond .ne 57, 3) := by decide +kernel
theorem dX8_bySets_17 : decode cX8_bySets 17 = .ok (.iconst 0, 1) := by decide +kernel
theorem dX8_bySets_18 : decode cX8_bySets 18 = .ok (.istore_n 3, 1) := by decide +kernel
theorem dX8_bySets_19 : decode cX8_bySets 19 = .ok (.iload_n 3, 1) := by decide +kernel
theorem dX8_bySets_20 : decode cX8_bySets 20 = .ok (.aload_n 0, 1) := by decide +kernel
theorem dX8_bySets_21 : decode cX8_bySets 21 = .ok (.getfield 143, 3) := by decide +kernel
theorem dX8_bySets_24 : decode cX8_bySets 24 = .ok (.if_icmp .ge 41, 3) := by decide +kernel
theorem dX8_bySets_27 : decode cX8_bySets 27 = .ok (.aload_n 0, 1) := by decide +kernel
theorem dX8_bySets_28 : decode cX8_bySets 28 = .ok (.getfield 236, 3) := by decide +kernel
theorem dX8_bySets_31 : decode cX8_bySets 31 = .ok (.ifCond .ne 34, 3) := by decide +kernel
theorem dX8_bySets_34 : decode cX8_bySets 34 = .ok (.aload_n 0, 1) := by decide +kernel
theorem dX8_bySets_35 : decode cX8_bySets 35 = .ok (.iload_n 2, 1) := by decide +kernel
theorem dX8_bySets_36 : decode cX8_bySets 36 = .ok (.iload_n 1, 1) := by decide +kernel
theorem dX8_bySets_37 : decode cX8_bySets 37 = .ok (.invokevirtual 248, 3) := by decide +kernel
theorem dX8_bySets_40 : decode cX8_bySets 40 = .ok (.ifCond .eq 19, 3) := by decide +kernel
theorem dX8_bySets_43 : decode cX8_bySets 43 = .ok (.aload_n 0, 1) := by decide +kernel
theorem dX8_bySets_44 : decode cX8_bySets 44 = .ok (.iload_n 3, 1) := by decide +kernel
theorem dX8_bySets_45 : decode cX8_bySets 45 = .ok (.iload_n 1, 1) := by decide +kernel
theorem dX8_bySets_46 : decode cX8_bySets 46 = .ok (.invokevirtual 248, 3) := by decide +kernel
theorem dX8_bySets_49 : decode cX8_bySets 49 = .ok (.ifCond .eq 10, 3) := by decide +kernel
theorem dX8_bySets_52 : decode cX8_bySets 52 = .ok (.aload_n 0, 1) := by decide +kernel
theorem dX8_bySets_53 : decode cX8_bySets 53 = .ok (.iload_n 1, 1) := by decide +kernel
theorem dX8_bySets_54 : decode cX8_bySets 54 = .ok (.iload_n 2, 1) := by decide +kernel
theorem dX8_bySets_55 : decode cX8_bySets 55 = .ok (.iload_n 3, 1) := by decide +kernel
theorem dX8_bySets_56 : decode cX8_bySets 56 = .ok (.invokevirtual 254, 3) := by decide +kernel
theorem dX8_bySets_59 : decode cX8_bySets 59 = .ok (.iinc 3 1, 3) := by decide +kernel
theorem dX8_bySets_62 : decode cX8_bySets 62 = .ok (.goto (-43), 3) := by decide +kernel
theorem dX8_bySets_65 : decode cX8_bySets 65 = .ok (.iinc 2 1, 3) := by decide +kernel
theorem dX8_bySets_68 : decode cX8_bySets 68 = .ok (.goto (-66), 3) := by decide +kernel
theorem dX8_bySets_71 : decode cX8_bySets 71 = .ok (.return_, 1) := by decide +kernel
theorem dX8_bySet_0 : decode cX8_bySet 0 = .ok (.iconst 0, 1) := by decide +kernel
theorem dX8_bySet_1 : decode cX8_bySet 1 = .ok (.istore 4, 2) := by decide +kernel
theorem dX8_bySet_3 : decode cX8_bySet 3 = .ok (.iconst 0, 1) := by decide +kernel
theorem dX8_bySet_4 : decode cX8_bySet 4 = .ok (.istore 5, 2) := by decide +kernel
theorem dX8_bySet_6 : decode cX8_bySet 6 = .ok (.aload_n 0, 1) := by decide +kernel
theorem dX8_bySet_7 : decode cX8_bySet 7 = .ok (.getfield 71, 3) := by decide +kernel
theorem dX8_bySet_10 : decode cX8_bySet 10 = .ok (.iload_n 2, 1) := by decide +kernel
theorem dX8_bySet_11 : decode cX8_bySet 11 = .ok (.iaload, 1) := by decide +kernel
theorem dX8_bySet_12 : decode cX8_bySet 12 = .ok (.istore 6, 2) := by decide +kernel
theorem dX8_bySet_14 : decode cX8_bySet 14 = .ok (.aload_n 0, 1) := by decide +kernel
theorem dX8_bySet_15 : decode cX8_bySet 15 = .ok (.getfield 74, 3) := by decide +kernel
theorem dX8_bySet_18 : decode cX8_bySet 18 = .ok (.iload_n 3, 1) := by decide +kernel
theorem dX8_bySet_19 : decode cX8_bySet 19 = .ok (.iaload, 1) := by decide +kernel
theorem dX8_bySet_20 : decode cX8_bySet 20 = .ok (.istore 7, 2) := by decide +kernel
theorem dX8_bySet_22 : decode cX8_bySet 22 = .ok (.iconst 0, 1) := by decide +kernel
theorem dX8_bySet_23 : decode cX8_bySet 23 = .ok (.istore 8, 2) := by decide +kernel
theorem dX8_bySet_25 : decode cX8_bySet 25 = .ok (.iload 8, 2) := by decide +kernel
theorem dX8_bySet_27 : decode cX8_bySet 27 = .ok (.aload_n 0, 1) := by decide +kernel
theorem dX8_bySet_28 : decode cX8_bySet 28 = .ok (.getfield 143, 3) := by decide +kernel
theorem dX8_bySet_31 : decode cX8_bySet 31 = .ok (.if_icmp .ge 64, 3) := by decide +kernel
theorem dX8_bySet_34 : decode cX8_bySet 34 = .ok (.aload_n 0, 1) := by decide +kernel
theorem dX8_bySet_35 : decode cX8_bySet 35 = .ok (.iload 8, 2) := by decide +kernel
theorem dX8_bySet_37 : decode cX8_bySet 37 = .ok (.iload_n 1, 1) := by decide +kernel
theorem dX8_bySet_38 : decode cX8_bySet 38 = .ok (.invokevirtual 248, 3) := by decide +kernel
theorem dX8_bySet_41 : decode cX8_bySet 41 = .ok (.ifCond .eq 48, 3) := by decide +kernel
theorem dX8_bySet_44 : decode cX8_bySet 44 = .ok (.aload_n 0, 1) := by decide +kernel
theorem dX8_bySet_45 : decode cX8_bySet 45 = .ok (.getfield 71, 3) := by decide +kernel
theorem dX8_bySet_48 : decode cX8_bySet 48 = .ok (.iload 8, 2) := by decide +kernel
theorem dX8_bySet_50 : decode cX8_bySet 50 = .ok (.iaload, 1) := by decide +kernel
theorem dX8_bySet_51 : decode cX8_bySet 51 = .ok (.iload 6, 2) := by decide +kernel
theorem dX8_bySet_53 : decode cX8_bySet 53 = .ok (.if_icmp .lt 36, 3) := by decide +kernel
theorem dX8_bySet_56 : decode cX8_bySet 56 = .ok (.aload_n 0, 1) := by decide +kernel
theorem dX8_bySet_57 : decode cX8_bySet 57 = .ok (.getfield 74, 3) := by decide +kernel
theorem dX8_bySet_60 : decode cX8_bySet 60 = .ok (.iload 8, 2) := by decide +kernel
theorem dX8_bySet_62 : decode cX8_bySet 62 = .ok (.iaload, 1) := by decide +kernel
theorem dX8_bySet_63 : decode cX8_bySet 63 = .ok (.iload 7, 2) := by decide +kernel
theorem dX8_bySet_65 : decode cX8_bySet 65 = .ok (.if_icmp .gt 24, 3) := by decide +kernel
theorem dX8_bySet_68 : decode cX8_bySet 68 = .ok (.iload 4, 2) := by decide +kernel
theorem dX8_bySet_70 : decode cX8_bySet 70 = .ok (.iconst 1, 1) := by decide +kernel
theorem dX8_bySet_71 : decode cX8_bySet 71 = .ok (.iload 8, 2) := by decide +kernel
theorem dX8_bySet_73 : decode cX8_bySet 73 = .ok (.ishl, 1) := by decide +kernel
theorem dX8_bySet_74 : decode cX8_bySet 74 = .ok (.ior, 1) := by decide +kernel
theorem dX8_bySet_75 : decode cX8_bySet 75 = .ok (.istore 4, 2) := by decide +kernel
theorem dX8_bySet_77 : decode cX8_bySet 77 = .ok (.iload 5, 2) := by decide +kernel
theorem dX8_bySet_79 : decode cX8_bySet 79 = .ok (.aload_n 0, 1) := by decide +kernel
theorem dX8_bySet_80 : decode cX8_bySet 80 = .ok (.getfield 31, 3) := by decide +kernel
theorem dX8_bySet_83 : decode cX8_bySet 83 = .ok (.iload 8, 2) := by decide +kernel
theorem dX8_bySet_85 : decode cX8_bySet 85 = .ok (.iaload, 1) := by decide +kernel
theorem dX8_bySet_86 : decode cX8_bySet 86 = .ok (.iadd, 1) := by decide +kernel
theorem dX8_bySet_87 : decode cX8_bySet 87 = .ok (.istore 5, 2) := by decide +kernel
theorem dX8_bySet_89 : decode cX8_bySet 89 = .ok (.iinc 8 1, 3) := by decide +kernel
theorem dX8_bySet_92 : decode cX8_bySet 92 = .ok (.goto (-67), 3) := by decide +kernel
theorem dX8_bySet_95 : decode cX8_bySet 95 = .ok (.iload 4, 2) := by decide +kernel
theorem dX8_bySet_97 : decode cX8_bySet 97 = .ok (.ifCond .ne 4, 3) := by decide +kernel
theorem dX8_bySet_100 : decode cX8_bySet 100 = .ok (.return_, 1) := by decide +kernel
theorem dX8_bySet_101 : decode cX8_bySet 101 = .ok (.iload 5, 2) := by decide +kernel
theorem dX8_bySet_103 : decode cX8_bySet 103 = .ok (.iload 7, 2) := by decide +kernel
theorem dX8_bySet_105 : decode cX8_bySet 105 = .ok (.iload 6, 2) := by decide +kernel
theorem dX8_bySet_107 : decode cX8_bySet 107 = .ok (.isub, 1) := by decide +kernel
theorem dX8_bySet_108 : decode cX8_bySet 108 = .ok (.if_icmp .le 9, 3) := by decide +kernel
theorem dX8_bySet_111 : decode cX8_bySet 111 = .ok (.aload_n 0, 1) := by decide +kernel
theorem dX8_bySet_112 : decode cX8_bySet 112 = .ok (.iconst 1, 1) := by decide +kernel
theorem dX8_bySet_113 : decode cX8_bySet 113 = .ok (.putfield 236, 3) := by decide +kernel
theorem dX8_bySet_116 : decode cX8_bySet 116 = .ok (.return_, 1) := by decide +kernel
theorem dX8_bySet_117 : decode cX8_bySet 117 = .ok (.iconst 0, 1) := by decide +kernel
theorem dX8_bySet_118 : decode cX8_bySet 118 = .ok (.istore 8, 2) := by decide +kernel
theorem dX8_bySet_120 : decode cX8_bySet 120 = .ok (.iload 8, 2) := by decide +kernel
theorem dX8_bySet_122 : decode cX8_bySet 122 = .ok (.aload_n 0, 1) := by decide +kernel
theorem dX8_bySet_123 : decode cX8_bySet 123 = .ok (.getfield 143, 3) := by decide +kernel
theorem dX8_bySet_126 : decode cX8_bySet 126 = .ok (.if_icmp .ge 143, 3) := by decide +kernel
theorem dX8_bySet_129 : decode cX8_bySet 129 = .ok (.aload_n 0, 1) := by decide +kernel
theorem dX8_bySet_130 : decode cX8_bySet 130 = .ok (.iload 8, 2) := by decide +kernel
theorem dX8_bySet_132 : decode cX8_bySet 132 = .ok (.iload_n 1, 1) := by decide +kernel
theorem dX8_bySet_133 : decode cX8_bySet 133 = .ok (.invokevirtual 248, 3) := by decide +kernel
theorem dX8_bySet_136 : decode cX8_bySet 136 = .ok (.ifCond .eq 127, 3) := by decide +kernel
theorem dX8_bySet_139 : decode cX8_bySet 139 = .ok (.iload 4, 2) := by decide +kernel
theorem dX8_bySet_141 : decode cX8_bySet 141 = .ok (.iload 8, 2) := by decide +kernel
theorem dX8_bySet_143 : decode cX8_bySet 143 = .ok (.iushr, 1) := by decide +kernel
theorem dX8_bySet_144 : decode cX8_bySet 144 = .ok (.iconst 1, 1) := by decide +kernel
theorem dX8_bySet_145 : decode cX8_bySet 145 = .ok (.iand, 1) := by decide +kernel
theorem dX8_bySet_146 : decode cX8_bySet 146 = .ok (.iconst 1, 1) := by decide +kernel
theorem dX8_bySet_147 : decode cX8_bySet 147 = .ok (.if_icmp .ne 6, 3) := by decide +kernel
theorem dX8_bySet_150 : decode cX8_bySet 150 = .ok (.goto 113, 3) := by decide +kernel
theorem dX8_bySet_153 : decode cX8_bySet 153 = .ok (.aload_n 0, 1) := by decide +kernel
theorem dX8_bySet_154 : decode cX8_bySet 154 = .ok (.getfield 71, 3) := by decide +kernel
theorem dX8_bySet_157 : decode cX8_bySet 157 = .ok (.iload 8, 2) := by decide +kernel
theorem dX8_bySet_159 : decode cX8_bySet 159 = .ok (.iaload, 1) := by decide +kernel
theorem dX8_bySet_160 : decode cX8_bySet 160 = .ok (.iload 6, 2) := by decide +kernel
theorem dX8_bySet_162 : decode cX8_bySet 162 = .ok (.if_icmp .ge 13, 3) := by decide +kernel
theorem dX8_bySet_165 : decode cX8_bySet 165 = .ok (.aload_n 0, 1) := by decide +kernel
theorem dX8_bySet_166 : decode cX8_bySet 166 = .ok (.getfield 71, 3) := by decide +kernel
theorem dX8_bySet_169 : decode cX8_bySet 169 = .ok (.iload 8, 2) := by decide +kernel
theorem dX8_bySet_171 : decode cX8_bySet 171 = .ok (.iaload, 1) := by decide +kernel
theorem dX8_bySet_172 : decode cX8_bySet 172 = .ok (.goto 5, 3) := by decide +kernel
theorem dX8_bySet_175 : decode cX8_bySet 175 = .ok (.iload 6, 2) := by decide +kernel
theorem dX8_bySet_177 : decode cX8_bySet 177 = .ok (.istore 9, 2) := by decide +kernel
theorem dX8_bySet_179 : decode cX8_bySet 179 = .ok (.iload 9, 2) := by decide +kernel
theorem dX8_bySet_181 : decode cX8_bySet 181 = .ok (.iload 5, 2) := by decide +kernel
theorem dX8_bySet_183 : decode cX8_bySet 183 = .ok (.iadd, 1) := by decide +kernel
theorem dX8_bySet_184 : decode cX8_bySet 184 = .ok (.aload_n 0, 1) := by decide +kernel
theorem dX8_bySet_185 : decode cX8_bySet 185 = .ok (.getfield 31, 3) := by decide +kernel
theorem dX8_bySet_188 : decode cX8_bySet 188 = .ok (.iload 8, 2) := by decide +kernel
theorem dX8_bySet_190 : decode cX8_bySet 190 = .ok (.iaload, 1) := by decide +kernel
theorem dX8_bySet_191 : decode cX8_bySet 191 = .ok (.iadd, 1) := by decide +kernel
theorem dX8_bySet_192 : decode cX8_bySet 192 = .ok (.iload 7, 2) := by decide +kernel
theorem dX8_bySet_194 : decode cX8_bySet 194 = .ok (.if_icmp .le 14, 3) := by decide +kernel
theorem dX8_bySet_197 : decode cX8_bySet 197 = .ok (.aload_n 0, 1) := by decide +kernel
theorem dX8_bySet_198 : decode cX8_bySet 198 = .ok (.iload 8, 2) := by decide +kernel
theorem dX8_bySet_200 : decode cX8_bySet 200 = .ok (.iload 6, 2) := by decide +kernel
theorem dX8_bySet_202 : decode cX8_bySet 202 = .ok (.iload 5, 2) := by decide +kernel
theorem dX8_bySet_204 : decode cX8_bySet 204 = .ok (.iadd, 1) := by decide +kernel
theorem dX8_bySet_205 : decode cX8_bySet 205 = .ok (.invokevirtual 239, 3) := by decide +kernel
theorem dX8_bySet_208 : decode cX8_bySet 208 = .ok (.iload 7, 2) := by decide +kernel
theorem dX8_bySet_210 : decode cX8_bySet 210 = .ok (.aload_n 0, 1) := by decide +kernel
theorem dX8_bySet_211 : decode cX8_bySet 211 = .ok (.getfield 74, 3) := by decide +kernel
theorem dX8_bySet_214 : decode cX8_bySet 214 = .ok (.iload 8, 2) := by decide +kernel
theorem dX8_bySet_216 : decode cX8_bySet 216 = .ok (.iaload, 1) := by decide +kernel
theorem dX8_bySet_217 : decode cX8_bySet 217 = .ok (.if_icmp .le 8, 3) := by decide +kernel
theorem dX8_bySet_220 : decode cX8_bySet 220 = .ok (.iload 7, 2) := by decide +kernel
theorem dX8_bySet_222 : decode cX8_bySet 222 = .ok (.goto 10, 3) := by decide +kernel
theorem dX8_bySet_225 : decode cX8_bySet 225 = .ok (.aload_n 0, 1) := by decide +kernel
theorem dX8_bySet_226 : decode cX8_bySet 226 = .ok (.getfield 74, 3) := by decide +kernel
theorem dX8_bySet_229 : decode cX8_bySet 229 = .ok (.iload 8, 2) := by decide +kernel
theorem dX8_bySet_231 : decode cX8_bySet 231 = .ok (.iaload, 1) := by decide +kernel
theorem dX8_bySet_232 : decode cX8_bySet 232 = .ok (.istore 10, 2) := by decide +kernel
theorem dX8_bySet_234 : decode cX8_bySet 234 = .ok (.iload 6, 2) := by decide +kernel
theorem dX8_bySet_236 : decode cX8_bySet 236 = .ok (.iload 5, 2) := by decide +kernel
theorem dX8_bySet_238 : decode cX8_bySet 238 = .ok (.iadd, 1) := by decide +kernel
theorem dX8_bySet_239 : decode cX8_bySet 239 = .ok (.aload_n 0, 1) := by decide +kernel
theorem dX8_bySet_240 : decode cX8_bySet 240 = .ok (.getfield 31, 3) := by decide +kernel
theorem dX8_bySet_243 : decode cX8_bySet 243 = .ok (.iload 8, 2) := by decide +kernel
theorem dX8_bySet_245 : decode cX8_bySet 245 = .ok (.iaload, 1) := by decide +kernel
theorem dX8_bySet_246 : decode cX8_bySet 246 = .ok (.iadd, 1) := by decide +kernel
theorem dX8_bySet_247 : decode cX8_bySet 247 = .ok (.iload 10, 2) := by decide +kernel
theorem dX8_bySet_249 : decode cX8_bySet 249 = .ok (.if_icmp .le 14, 3) := by decide +kernel
theorem dX8_bySet_252 : decode cX8_bySet 252 = .ok (.aload_n 0, 1) := by decide +kernel
theorem dX8_bySet_253 : decode cX8_bySet 253 = .ok (.iload 8, 2) := by decide +kernel
theorem dX8_bySet_255 : decode cX8_bySet 255 = .ok (.iload 7, 2) := by decide +kernel
theorem dX8_bySet_257 : decode cX8_bySet 257 = .ok (.iload 5, 2) := by decide +kernel
theorem dX8_bySet_259 : decode cX8_bySet 259 = .ok (.isub, 1) := by decide +kernel
theorem dX8_bySet_260 : decode cX8_bySet 260 = .ok (.invokevirtual 242, 3) := by decide +kernel
theorem dX8_bySet_263 : decode cX8_bySet 263 = .ok (.iinc 8 1, 3) := by decide +kernel
theorem dX8_bySet_266 : decode cX8_bySet 266 = .ok (.goto (-146), 3) := by decide +kernel
theorem dX8_bySet_269 : decode cX8_bySet 269 = .ok (.return_, 1) := by decide +kernel
theorem dX8_asks_0 : decode cX8_asks 0 = .ok (.iconst 0, 1) := by decide +kernel
theorem dX8_asks_1 : decode cX8_asks 1 = .ok (.istore_n 2, 1) := by decide +kernel
theorem dX8_asks_2 : decode cX8_asks 2 = .ok (.iload_n 2, 1) := by decide +kernel
theorem dX8_asks_3 : decode cX8_asks 3 = .ok (.aload_n 0, 1) := by decide +kernel
theorem dX8_asks_4 : decode cX8_asks 4 = .ok (.getfield 143, 3) := by decide +kernel
theorem dX8_asks_7 : decode cX8_asks 7 = .ok (.if_icmp .ge 23, 3) := by decide +kernel
theorem dX8_asks_10 : decode cX8_asks 10 = .ok (.aload_n 0, 1) := by decide +kernel
theorem dX8_asks_11 : decode cX8_asks 11 = .ok (.getfield 71, 3) := by decide +kernel
theorem dX8_asks_14 : decode cX8_asks 14 = .ok (.iload_n 2, 1) := by decide +kernel
theorem dX8_asks_15 : decode cX8_asks 15 = .ok (.iconst 0, 1) := by decide +kernel
theorem dX8_asks_16 : decode cX8_asks 16 = .ok (.iastore, 1) := by decide +kernel
theorem dX8_asks_17 : decode cX8_asks 17 = .ok (.aload_n 0, 1) := by decide +kernel
theorem dX8_asks_18 : decode cX8_asks 18 = .ok (.getfield 74, 3) := by decide +kernel
theorem dX8_asks_21 : decode cX8_asks 21 = .ok (.iload_n 2, 1) := by decide +kernel
theorem dX8_asks_22 : decode cX8_asks 22 = .ok (.iload_n 1, 1) := by decide +kernel
theorem dX8_asks_23 : decode cX8_asks 23 = .ok (.iastore, 1) := by decide +kernel
theorem dX8_asks_24 : decode cX8_asks 24 = .ok (.iinc 2 1, 3) := by decide +kernel
theorem dX8_asks_27 : decode cX8_asks 27 = .ok (.goto (-25), 3) := by decide +kernel
theorem dX8_asks_30 : decode cX8_asks 30 = .ok (.aload_n 0, 1) := by decide +kernel
theorem dX8_asks_31 : decode cX8_asks 31 = .ok (.iconst 0, 1) := by decide +kernel
theorem dX8_asks_32 : decode cX8_asks 32 = .ok (.putfield 236, 3) := by decide +kernel
theorem dX8_asks_35 : decode cX8_asks 35 = .ok (.aload_n 0, 1) := by decide +kernel
theorem dX8_asks_36 : decode cX8_asks 36 = .ok (.iconst 1, 1) := by decide +kernel
theorem dX8_asks_37 : decode cX8_asks 37 = .ok (.putfield 232, 3) := by decide +kernel
theorem dX8_asks_40 : decode cX8_asks 40 = .ok (.iconst 0, 1) := by decide +kernel
theorem dX8_asks_41 : decode cX8_asks 41 = .ok (.istore_n 2, 1) := by decide +kernel
theorem dX8_asks_42 : decode cX8_asks 42 = .ok (.iload_n 2, 1) := by decide +kernel
theorem dX8_asks_43 : decode cX8_asks 43 = .ok (.bipush 20, 2) := by decide +kernel
theorem dX8_asks_45 : decode cX8_asks 45 = .ok (.if_icmp .ge 140, 3) := by decide +kernel
theorem dX8_asks_48 : decode cX8_asks 48 = .ok (.aload_n 0, 1) := by decide +kernel
theorem dX8_asks_49 : decode cX8_asks 49 = .ok (.getfield 232, 3) := by decide +kernel
theorem dX8_asks_52 : decode cX8_asks 52 = .ok (.ifCond .eq 133, 3) := by decide +kernel
theorem dX8_asks_55 : decode cX8_asks 55 = .ok (.aload_n 0, 1) := by decide +kernel
theorem dX8_asks_56 : decode cX8_asks 56 = .ok (.getfield 236, 3) := by decide +kernel
theorem dX8_asks_59 : decode cX8_asks 59 = .ok (.ifCond .ne 126, 3) := by decide +kernel
theorem dX8_asks_62 : decode cX8_asks 62 = .ok (.aload_n 0, 1) := by decide +kernel
theorem dX8_asks_63 : decode cX8_asks 63 = .ok (.iconst 0, 1) := by decide +kernel
theorem dX8_asks_64 : decode cX8_asks 64 = .ok (.putfield 232, 3) := by decide +kernel
theorem dX8_asks_67 : decode cX8_asks 67 = .ok (.aload_n 0, 1) := by decide +kernel
theorem dX8_asks_68 : decode cX8_asks 68 = .ok (.invokevirtual 258, 3) := by decide +kernel
theorem dX8_asks_71 : decode cX8_asks 71 = .ok (.aload_n 0, 1) := by decide +kernel
theorem dX8_asks_72 : decode cX8_asks 72 = .ok (.invokevirtual 261, 3) := by decide +kernel
theorem dX8_asks_75 : decode cX8_asks 75 = .ok (.aload_n 0, 1) := by decide +kernel
theorem dX8_asks_76 : decode cX8_asks 76 = .ok (.getfield 236, 3) := by decide +kernel
theorem dX8_asks_79 : decode cX8_asks 79 = .ok (.ifCond .ne 11, 3) := by decide +kernel
theorem dX8_asks_82 : decode cX8_asks 82 = .ok (.aload_n 0, 1) := by decide +kernel
theorem dX8_asks_83 : decode cX8_asks 83 = .ok (.invokevirtual 264, 3) := by decide +kernel
theorem dX8_asks_86 : decode cX8_asks 86 = .ok (.aload_n 0, 1) := by decide +kernel
theorem dX8_asks_87 : decode cX8_asks 87 = .ok (.invokevirtual 261, 3) := by decide +kernel
theorem dX8_asks_90 : decode cX8_asks 90 = .ok (.iconst 0, 1) := by decide +kernel
theorem dX8_asks_91 : decode cX8_asks 91 = .ok (.istore_n 3, 1) := by decide +kernel
theorem dX8_asks_92 : decode cX8_asks 92 = .ok (.iload_n 3, 1) := by decide +kernel
theorem dX8_asks_93 : decode cX8_asks 93 = .ok (.aload_n 0, 1) := by decide +kernel
theorem dX8_asks_94 : decode cX8_asks 94 = .ok (.getfield 133, 3) := by decide +kernel
theorem dX8_asks_97 : decode cX8_asks 97 = .ok (.if_icmp .ge 30, 3) := by decide +kernel
theorem dX8_asks_100 : decode cX8_asks 100 = .ok (.aload_n 0, 1) := by decide +kernel
theorem dX8_asks_101 : decode cX8_asks 101 = .ok (.getfield 236, 3) := by decide +kernel
theorem dX8_asks_104 : decode cX8_asks 104 = .ok (.ifCond .ne 23, 3) := by decide +kernel
theorem dX8_asks_107 : decode cX8_asks 107 = .ok (.aload_n 0, 1) := by decide +kernel
theorem dX8_asks_108 : decode cX8_asks 108 = .ok (.getfield 7, 3) := by decide +kernel
theorem dX8_asks_111 : decode cX8_asks 111 = .ok (.iload_n 3, 1) := by decide +kernel
theorem dX8_asks_112 : decode cX8_asks 112 = .ok (.iaload, 1) := by decide +kernel
theorem dX8_asks_113 : decode cX8_asks 113 = .ok (.ifCond .ne 8, 3) := by decide +kernel
theorem dX8_asks_116 : decode cX8_asks 116 = .ok (.aload_n 0, 1) := by decide +kernel
theorem dX8_asks_117 : decode cX8_asks 117 = .ok (.iload_n 3, 1) := by decide +kernel
theorem dX8_asks_118 : decode cX8_asks 118 = .ok (.invokevirtual 267, 3) := by decide +kernel
theorem dX8_asks_121 : decode cX8_asks 121 = .ok (.iinc 3 1, 3) := by decide +kernel
theorem dX8_asks_124 : decode cX8_asks 124 = .ok (.goto (-32), 3) := by decide +kernel
theorem dX8_asks_127 : decode cX8_asks 127 = .ok (.aload_n 0, 1) := by decide +kernel
theorem dX8_asks_128 : decode cX8_asks 128 = .ok (.getfield 236, 3) := by decide +kernel
theorem dX8_asks_131 : decode cX8_asks 131 = .ok (.ifCond .ne 7, 3) := by decide +kernel
theorem dX8_asks_134 : decode cX8_asks 134 = .ok (.aload_n 0, 1) := by decide +kernel
theorem dX8_asks_135 : decode cX8_asks 135 = .ok (.invokevirtual 261, 3) := by decide +kernel
theorem dX8_asks_138 : decode cX8_asks 138 = .ok (.iconst 0, 1) := by decide +kernel
theorem dX8_asks_139 : decode cX8_asks 139 = .ok (.istore_n 3, 1) := by decide +kernel
theorem dX8_asks_140 : decode cX8_asks 140 = .ok (.iload_n 3, 1) := by decide +kernel
theorem dX8_asks_141 : decode cX8_asks 141 = .ok (.aload_n 0, 1) := by decide +kernel
theorem dX8_asks_142 : decode cX8_asks 142 = .ok (.getfield 133, 3) := by decide +kernel
theorem dX8_asks_145 : decode cX8_asks 145 = .ok (.if_icmp .ge 30, 3) := by decide +kernel
theorem dX8_asks_148 : decode cX8_asks 148 = .ok (.aload_n 0, 1) := by decide +kernel
theorem dX8_asks_149 : decode cX8_asks 149 = .ok (.getfield 236, 3) := by decide +kernel
theorem dX8_asks_152 : decode cX8_asks 152 = .ok (.ifCond .ne 23, 3) := by decide +kernel
theorem dX8_asks_155 : decode cX8_asks 155 = .ok (.aload_n 0, 1) := by decide +kernel
theorem dX8_asks_156 : decode cX8_asks 156 = .ok (.getfield 7, 3) := by decide +kernel
theorem dX8_asks_159 : decode cX8_asks 159 = .ok (.iload_n 3, 1) := by decide +kernel
theorem dX8_asks_160 : decode cX8_asks 160 = .ok (.iaload, 1) := by decide +kernel
theorem dX8_asks_161 : decode cX8_asks 161 = .ok (.ifCond .ne 8, 3) := by decide +kernel
theorem dX8_asks_164 : decode cX8_asks 164 = .ok (.aload_n 0, 1) := by decide +kernel
theorem dX8_asks_165 : decode cX8_asks 165 = .ok (.iload_n 3, 1) := by decide +kernel
theorem dX8_asks_166 : decode cX8_asks 166 = .ok (.invokevirtual 271, 3) := by decide +kernel
theorem dX8_asks_169 : decode cX8_asks 169 = .ok (.iinc 3 1, 3) := by decide +kernel
theorem dX8_asks_172 : decode cX8_asks 172 = .ok (.goto (-32), 3) := by decide +kernel
theorem dX8_asks_175 : decode cX8_asks 175 = .ok (.aload_n 0, 1) := by decide +kernel
theorem dX8_asks_176 : decode cX8_asks 176 = .ok (.invokevirtual 261, 3) := by decide +kernel
theorem dX8_asks_179 : decode cX8_asks 179 = .ok (.iinc 2 1, 3) := by decide +kernel
theorem dX8_asks_182 : decode cX8_asks 182 = .ok (.goto (-140), 3) := by decide +kernel
theorem dX8_asks_185 : decode cX8_asks 185 = .ok (.aload_n 0, 1) := by decide +kernel
theorem dX8_asks_186 : decode cX8_asks 186 = .ok (.getfield 236, 3) := by decide +kernel
theorem dX8_asks_189 : decode cX8_asks 189 = .ok (.ifCond .ne 7, 3) := by decide +kernel
theorem dX8_asks_192 : decode cX8_asks 192 = .ok (.iconst 1, 1) := by decide +kernel
theorem dX8_asks_193 : decode cX8_asks 193 = .ok (.goto 4, 3) := by decide +kernel
theorem dX8_asks_196 : decode cX8_asks 196 = .ok (.iconst 0, 1) := by decide +kernel
theorem dX8_asks_197 : decode cX8_asks 197 = .ok (.ireturn, 1) := by decide +kernel
theorem dX8_windows_0 : decode cX8_windows 0 = .ok (.iload_n 1, 1) := by decide +kernel
theorem dX8_windows_1 : decode cX8_windows 1 = .ok (.i2l, 1) := by decide +kernel
theorem dX8_windows_2 : decode cX8_windows 2 = .ok (.lconst 0, 1) := by decide +kernel
theorem dX8_windows_3 : decode cX8_windows 3 = .ok (.ldc2_w 274, 3) := by decide +kernel
theorem dX8_windows_6 : decode cX8_windows 6 = .ok (.invokestatic 124, 3) := by decide +kernel
theorem dX8_windows_9 : decode cX8_windows 9 = .ok (.ifCond .ne 6, 3) := by decide +kernel
theorem dX8_windows_12 : decode cX8_windows 12 = .ok (.ldc 132, 2) := by decide +kernel
theorem dX8_windows_14 : decode cX8_windows 14 = .ok (.ireturn, 1) := by decide +kernel
theorem dX8_windows_15 : decode cX8_windows 15 = .ok (.aload_n 0, 1) := by decide +kernel
theorem dX8_windows_16 : decode cX8_windows 16 = .ok (.invokevirtual 161, 3) := by decide +kernel
theorem dX8_windows_19 : decode cX8_windows 19 = .ok (.ifCond .ne 6, 3) := by decide +kernel
theorem dX8_windows_22 : decode cX8_windows 22 = .ok (.ldc 179, 2) := by decide +kernel
theorem dX8_windows_24 : decode cX8_windows 24 = .ok (.ireturn, 1) := by decide +kernel
theorem dX8_windows_25 : decode cX8_windows 25 = .ok (.iconst 0, 1) := by decide +kernel
theorem dX8_windows_26 : decode cX8_windows 26 = .ok (.istore_n 2, 1) := by decide +kernel
theorem dX8_windows_27 : decode cX8_windows 27 = .ok (.iload_n 2, 1) := by decide +kernel
theorem dX8_windows_28 : decode cX8_windows 28 = .ok (.bipush 32, 2) := by decide +kernel
theorem dX8_windows_30 : decode cX8_windows 30 = .ok (.if_icmp .ge 16, 3) := by decide +kernel
theorem dX8_windows_33 : decode cX8_windows 33 = .ok (.aload_n 0, 1) := by decide +kernel
theorem dX8_windows_34 : decode cX8_windows 34 = .ok (.getfield 77, 3) := by decide +kernel
theorem dX8_windows_37 : decode cX8_windows 37 = .ok (.iload_n 2, 1) := by decide +kernel
theorem dX8_windows_38 : decode cX8_windows 38 = .ok (.iconst 0, 1) := by decide +kernel
theorem dX8_windows_39 : decode cX8_windows 39 = .ok (.iastore, 1) := by decide +kernel
theorem dX8_windows_40 : decode cX8_windows 40 = .ok (.iinc 2 1, 3) := by decide +kernel
theorem dX8_windows_43 : decode cX8_windows 43 = .ok (.goto (-16), 3) := by decide +kernel
theorem dX8_windows_46 : decode cX8_windows 46 = .ok (.aload_n 0, 1) := by decide +kernel
theorem dX8_windows_47 : decode cX8_windows 47 = .ok (.iload_n 1, 1) := by decide +kernel
theorem dX8_windows_48 : decode cX8_windows 48 = .ok (.invokevirtual 276, 3) := by decide +kernel
theorem dX8_windows_51 : decode cX8_windows 51 = .ok (.istore_n 2, 1) := by decide +kernel
theorem dX8_windows_52 : decode cX8_windows 52 = .ok (.aload_n 0, 1) := by decide +kernel
theorem dX8_windows_53 : decode cX8_windows 53 = .ok (.iconst 1, 1) := by decide +kernel
theorem dX8_windows_54 : decode cX8_windows 54 = .ok (.putfield 279, 3) := by decide +kernel
theorem dX8_windows_57 : decode cX8_windows 57 = .ok (.aload_n 0, 1) := by decide +kernel
theorem dX8_windows_58 : decode cX8_windows 58 = .ok (.aload_n 0, 1) := by decide +kernel
theorem dX8_windows_59 : decode cX8_windows 59 = .ok (.getfield 143, 3) := by decide +kernel
theorem dX8_windows_62 : decode cX8_windows 62 = .ok (.putfield 282, 3) := by decide +kernel
theorem dX8_windows_65 : decode cX8_windows 65 = .ok (.iconst 0, 1) := by decide +kernel
theorem dX8_windows_66 : decode cX8_windows 66 = .ok (.istore_n 3, 1) := by decide +kernel
theorem dX8_windows_67 : decode cX8_windows 67 = .ok (.iload_n 3, 1) := by decide +kernel
theorem dX8_windows_68 : decode cX8_windows 68 = .ok (.bipush 32, 2) := by decide +kernel
theorem dX8_windows_70 : decode cX8_windows 70 = .ok (.if_icmp .ge 45, 3) := by decide +kernel
theorem dX8_windows_73 : decode cX8_windows 73 = .ok (.aload_n 0, 1) := by decide +kernel
theorem dX8_windows_74 : decode cX8_windows 74 = .ok (.getfield 80, 3) := by decide +kernel
theorem dX8_windows_77 : decode cX8_windows 77 = .ok (.iload_n 3, 1) := by decide +kernel
theorem dX8_windows_78 : decode cX8_windows 78 = .ok (.aload_n 0, 1) := by decide +kernel
theorem dX8_windows_79 : decode cX8_windows 79 = .ok (.getfield 71, 3) := by decide +kernel
theorem dX8_windows_82 : decode cX8_windows 82 = .ok (.iload_n 3, 1) := by decide +kernel
theorem dX8_windows_83 : decode cX8_windows 83 = .ok (.iaload, 1) := by decide +kernel
theorem dX8_windows_84 : decode cX8_windows 84 = .ok (.iastore, 1) := by decide +kernel
theorem dX8_windows_85 : decode cX8_windows 85 = .ok (.aload_n 0, 1) := by decide +kernel
theorem dX8_windows_86 : decode cX8_windows 86 = .ok (.getfield 83, 3) := by decide +kernel
theorem dX8_windows_89 : decode cX8_windows 89 = .ok (.iload_n 3, 1) := by decide +kernel
theorem dX8_windows_90 : decode cX8_windows 90 = .ok (.aload_n 0, 1) := by decide +kernel
theorem dX8_windows_91 : decode cX8_windows 91 = .ok (.getfield 74, 3) := by decide +kernel
theorem dX8_windows_94 : decode cX8_windows 94 = .ok (.iload_n 3, 1) := by decide +kernel
theorem dX8_windows_95 : decode cX8_windows 95 = .ok (.iaload, 1) := by decide +kernel
theorem dX8_windows_96 : decode cX8_windows 96 = .ok (.iastore, 1) := by decide +kernel
theorem dX8_windows_97 : decode cX8_windows 97 = .ok (.aload_n 0, 1) := by decide +kernel
theorem dX8_windows_98 : decode cX8_windows 98 = .ok (.getfield 86, 3) := by decide +kernel
theorem dX8_windows_101 : decode cX8_windows 101 = .ok (.iload_n 3, 1) := by decide +kernel
theorem dX8_windows_102 : decode cX8_windows 102 = .ok (.aload_n 0, 1) := by decide +kernel
theorem dX8_windows_103 : decode cX8_windows 103 = .ok (.getfield 77, 3) := by decide +kernel
theorem dX8_windows_106 : decode cX8_windows 106 = .ok (.iload_n 3, 1) := by decide +kernel
theorem dX8_windows_107 : decode cX8_windows 107 = .ok (.iaload, 1) := by decide +kernel
theorem dX8_windows_108 : decode cX8_windows 108 = .ok (.iastore, 1) := by decide +kernel
theorem dX8_windows_109 : decode cX8_windows 109 = .ok (.iinc 3 1, 3) := by decide +kernel
theorem dX8_windows_112 : decode cX8_windows 112 = .ok (.goto (-45), 3) := by decide +kernel
theorem dX8_windows_115 : decode cX8_windows 115 = .ok (.iload_n 2, 1) := by decide +kernel
theorem dX8_windows_116 : decode cX8_windows 116 = .ok (.ifCond .eq 7, 3) := by decide +kernel
theorem dX8_windows_119 : decode cX8_windows 119 = .ok (.iconst 1, 1) := by decide +kernel
theorem dX8_windows_120 : decode cX8_windows 120 = .ok (.goto 4, 3) := by decide +kernel
theorem dX8_windows_123 : decode cX8_windows 123 = .ok (.iconst 0, 1) := by decide +kernel
theorem dX8_windows_124 : decode cX8_windows 124 = .ok (.ireturn, 1) := by decide +kernel
theorem dX8_window_0 : decode cX8_window 0 = .ok (.aload_n 0, 1) := by decide +kernel
theorem dX8_window_1 : decode cX8_window 1 = .ok (.iload_n 1, 1) := by decide +kernel
theorem dX8_window_2 : decode cX8_window 2 = .ok (.invokevirtual 153, 3) := by decide +kernel
theorem dX8_window_5 : decode cX8_window 5 = .ok (.ifCond .ne 6, 3) := by decide +kernel
theorem dX8_window_8 : decode cX8_window 8 = .ok (.ldc 146, 2) := by decide +kernel
theorem dX8_window_10 : decode cX8_window 10 = .ok (.ireturn, 1) := by decide +kernel
theorem dX8_window_11 : decode cX8_window 11 = .ok (.iload_n 2, 1) := by decide +kernel
theorem dX8_window_12 : decode cX8_window 12 = .ok (.i2l, 1) := by decide +kernel
theorem dX8_window_13 : decode cX8_window 13 = .ok (.lconst 0, 1) := by decide +kernel
theorem dX8_window_14 : decode cX8_window 14 = .ok (.ldc2_w 174, 3) := by decide +kernel
theorem dX8_window_17 : decode cX8_window 17 = .ok (.invokestatic 124, 3) := by decide +kernel
theorem dX8_window_20 : decode cX8_window 20 = .ok (.ifCond .ne 6, 3) := by decide +kernel
theorem dX8_window_23 : decode cX8_window 23 = .ok (.ldc 132, 2) := by decide +kernel
theorem dX8_window_25 : decode cX8_window 25 = .ok (.ireturn, 1) := by decide +kernel
theorem dX8_window_26 : decode cX8_window 26 = .ok (.aload_n 0, 1) := by decide +kernel
theorem dX8_window_27 : decode cX8_window 27 = .ok (.getfield 279, 3) := by decide +kernel
theorem dX8_window_30 : decode cX8_window 30 = .ok (.ifCond .eq 11, 3) := by decide +kernel
theorem dX8_window_33 : decode cX8_window 33 = .ok (.iload_n 1, 1) := by decide +kernel
theorem dX8_window_34 : decode cX8_window 34 = .ok (.aload_n 0, 1) := by decide +kernel
theorem dX8_window_35 : decode cX8_window 35 = .ok (.getfield 282, 3) := by decide +kernel
theorem dX8_window_38 : decode cX8_window 38 = .ok (.if_icmp .lt 5, 3) := by decide +kernel
theorem dX8_window_41 : decode cX8_window 41 = .ok (.iconst (-1), 1) := by decide +kernel
theorem dX8_window_42 : decode cX8_window 42 = .ok (.ireturn, 1) := by decide +kernel
theorem dX8_window_43 : decode cX8_window 43 = .ok (.iconst 0, 1) := by decide +kernel
theorem dX8_window_44 : decode cX8_window 44 = .ok (.istore_n 3, 1) := by decide +kernel
theorem dX8_window_45 : decode cX8_window 45 = .ok (.iconst 0, 1) := by decide +kernel
theorem dX8_window_46 : decode cX8_window 46 = .ok (.istore 4, 2) := by decide +kernel
theorem dX8_window_48 : decode cX8_window 48 = .ok (.iload 4, 2) := by decide +kernel
theorem dX8_window_50 : decode cX8_window 50 = .ok (.aload_n 0, 1) := by decide +kernel
theorem dX8_window_51 : decode cX8_window 51 = .ok (.getfield 282, 3) := by decide +kernel
theorem dX8_window_54 : decode cX8_window 54 = .ok (.if_icmp .ge 23, 3) := by decide +kernel
theorem dX8_window_57 : decode cX8_window 57 = .ok (.iload_n 3, 1) := by decide +kernel
theorem dX8_window_58 : decode cX8_window 58 = .ok (.aload_n 0, 1) := by decide +kernel
theorem dX8_window_59 : decode cX8_window 59 = .ok (.getfield 86, 3) := by decide +kernel
theorem dX8_window_62 : decode cX8_window 62 = .ok (.iload_n 1, 1) := by decide +kernel
theorem dX8_window_63 : decode cX8_window 63 = .ok (.iaload, 1) := by decide +kernel
theorem dX8_window_64 : decode cX8_window 64 = .ok (.iload 4, 2) := by decide +kernel
theorem dX8_window_66 : decode cX8_window 66 = .ok (.iushr, 1) := by decide +kernel
theorem dX8_window_67 : decode cX8_window 67 = .ok (.iconst 1, 1) := by decide +kernel
theorem dX8_window_68 : decode cX8_window 68 = .ok (.iand, 1) := by decide +kernel
theorem dX8_window_69 : decode cX8_window 69 = .ok (.iadd, 1) := by decide +kernel
theorem dX8_window_70 : decode cX8_window 70 = .ok (.istore_n 3, 1) := by decide +kernel
theorem dX8_window_71 : decode cX8_window 71 = .ok (.iinc 4 1, 3) := by decide +kernel
theorem dX8_window_74 : decode cX8_window 74 = .ok (.goto (-26), 3) := by decide +kernel
theorem dX8_window_77 : decode cX8_window 77 = .ok (.iload_n 2, 1) := by decide +kernel
theorem dX8_window_78 : decode cX8_window 78 = .ok (.ifCond .ne 12, 3) := by decide +kernel
theorem dX8_window_81 : decode cX8_window 81 = .ok (.aload_n 0, 1) := by decide +kernel
theorem dX8_window_82 : decode cX8_window 82 = .ok (.getfield 80, 3) := by decide +kernel
theorem dX8_window_85 : decode cX8_window 85 = .ok (.iload_n 1, 1) := by decide +kernel
theorem dX8_window_86 : decode cX8_window 86 = .ok (.iaload, 1) := by decide +kernel
theorem dX8_window_87 : decode cX8_window 87 = .ok (.goto 18, 3) := by decide +kernel
theorem dX8_window_90 : decode cX8_window 90 = .ok (.iload_n 2, 1) := by decide +kernel
theorem dX8_window_91 : decode cX8_window 91 = .ok (.iconst 1, 1) := by decide +kernel
theorem dX8_window_92 : decode cX8_window 92 = .ok (.if_icmp .ne 12, 3) := by decide +kernel
theorem dX8_window_95 : decode cX8_window 95 = .ok (.aload_n 0, 1) := by decide +kernel
theorem dX8_window_96 : decode cX8_window 96 = .ok (.getfield 83, 3) := by decide +kernel
theorem dX8_window_99 : decode cX8_window 99 = .ok (.iload_n 1, 1) := by decide +kernel
theorem dX8_window_100 : decode cX8_window 100 = .ok (.iaload, 1) := by decide +kernel
theorem dX8_window_101 : decode cX8_window 101 = .ok (.goto 4, 3) := by decide +kernel
theorem dX8_window_104 : decode cX8_window 104 = .ok (.iload_n 3, 1) := by decide +kernel
theorem dX8_window_105 : decode cX8_window 105 = .ok (.ireturn, 1) := by decide +kernel
theorem dX8_must_0 : decode cX8_must 0 = .ok (.aload_n 0, 1) := by decide +kernel
theorem dX8_must_1 : decode cX8_must 1 = .ok (.iload_n 1, 1) := by decide +kernel
theorem dX8_must_2 : decode cX8_must 2 = .ok (.invokevirtual 153, 3) := by decide +kernel
theorem dX8_must_5 : decode cX8_must 5 = .ok (.ifCond .eq 11, 3) := by decide +kernel
theorem dX8_must_8 : decode cX8_must 8 = .ok (.aload_n 0, 1) := by decide +kernel
theorem dX8_must_9 : decode cX8_must 9 = .ok (.iload_n 2, 1) := by decide +kernel
theorem dX8_must_10 : decode cX8_must 10 = .ok (.invokevirtual 153, 3) := by decide +kernel
theorem dX8_must_13 : decode cX8_must 13 = .ok (.ifCond .ne 6, 3) := by decide +kernel
theorem dX8_must_16 : decode cX8_must 16 = .ok (.ldc 146, 2) := by decide +kernel
theorem dX8_must_18 : decode cX8_must 18 = .ok (.ireturn, 1) := by decide +kernel
theorem dX8_must_19 : decode cX8_must 19 = .ok (.aload_n 0, 1) := by decide +kernel
theorem dX8_must_20 : decode cX8_must 20 = .ok (.getfield 279, 3) := by decide +kernel
theorem dX8_must_23 : decode cX8_must 23 = .ok (.ifCond .eq 23, 3) := by decide +kernel
theorem dX8_must_26 : decode cX8_must 26 = .ok (.iload_n 1, 1) := by decide +kernel
theorem dX8_must_27 : decode cX8_must 27 = .ok (.aload_n 0, 1) := by decide +kernel
theorem dX8_must_28 : decode cX8_must 28 = .ok (.getfield 282, 3) := by decide +kernel
theorem dX8_must_31 : decode cX8_must 31 = .ok (.if_icmp .ge 15, 3) := by decide +kernel
theorem dX8_must_34 : decode cX8_must 34 = .ok (.iload_n 2, 1) := by decide +kernel
theorem dX8_must_35 : decode cX8_must 35 = .ok (.aload_n 0, 1) := by decide +kernel
theorem dX8_must_36 : decode cX8_must 36 = .ok (.getfield 282, 3) := by decide +kernel
theorem dX8_must_39 : decode cX8_must 39 = .ok (.if_icmp .ge 7, 3) := by decide +kernel
theorem dX8_must_42 : decode cX8_must 42 = .ok (.iconst 1, 1) := by decide +kernel
theorem dX8_must_43 : decode cX8_must 43 = .ok (.goto 4, 3) := by decide +kernel
theorem dX8_must_46 : decode cX8_must 46 = .ok (.iconst 0, 1) := by decide +kernel
theorem dX8_must_47 : decode cX8_must 47 = .ok (.istore_n 3, 1) := by decide +kernel
theorem dX8_must_48 : decode cX8_must 48 = .ok (.iload_n 3, 1) := by decide +kernel
theorem dX8_must_49 : decode cX8_must 49 = .ok (.ifCond .ne 7, 3) := by decide +kernel
theorem dX8_must_52 : decode cX8_must 52 = .ok (.iconst 0, 1) := by decide +kernel
theorem dX8_must_53 : decode cX8_must 53 = .ok (.goto 40, 3) := by decide +kernel
theorem dX8_must_56 : decode cX8_must 56 = .ok (.aload_n 0, 1) := by decide +kernel
theorem dX8_must_57 : decode cX8_must 57 = .ok (.getfield 86, 3) := by decide +kernel
theorem dX8_must_60 : decode cX8_must 60 = .ok (.iload_n 1, 1) := by decide +kernel
theorem dX8_must_61 : decode cX8_must 61 = .ok (.iaload, 1) := by decide +kernel
theorem dX8_must_62 : decode cX8_must 62 = .ok (.iload_n 2, 1) := by decide +kernel
theorem dX8_must_63 : decode cX8_must 63 = .ok (.iushr, 1) := by decide +kernel
theorem dX8_must_64 : decode cX8_must 64 = .ok (.iconst 1, 1) := by decide +kernel
theorem dX8_must_65 : decode cX8_must 65 = .ok (.iand, 1) := by decide +kernel
theorem dX8_must_66 : decode cX8_must 66 = .ok (.iconst 1, 1) := by decide +kernel
theorem dX8_must_67 : decode cX8_must 67 = .ok (.if_icmp .ne 7, 3) := by decide +kernel
theorem dX8_must_70 : decode cX8_must 70 = .ok (.iconst 1, 1) := by decide +kernel
theorem dX8_must_71 : decode cX8_must 71 = .ok (.goto 22, 3) := by decide +kernel
theorem dX8_must_74 : decode cX8_must 74 = .ok (.aload_n 0, 1) := by decide +kernel
theorem dX8_must_75 : decode cX8_must 75 = .ok (.getfield 86, 3) := by decide +kernel
theorem dX8_must_78 : decode cX8_must 78 = .ok (.iload_n 2, 1) := by decide +kernel
theorem dX8_must_79 : decode cX8_must 79 = .ok (.iaload, 1) := by decide +kernel
theorem dX8_must_80 : decode cX8_must 80 = .ok (.iload_n 1, 1) := by decide +kernel
theorem dX8_must_81 : decode cX8_must 81 = .ok (.iushr, 1) := by decide +kernel
theorem dX8_must_82 : decode cX8_must 82 = .ok (.iconst 1, 1) := by decide +kernel
theorem dX8_must_83 : decode cX8_must 83 = .ok (.iand, 1) := by decide +kernel
theorem dX8_must_84 : decode cX8_must 84 = .ok (.iconst 1, 1) := by decide +kernel
theorem dX8_must_85 : decode cX8_must 85 = .ok (.if_icmp .ne 7, 3) := by decide +kernel
theorem dX8_must_88 : decode cX8_must 88 = .ok (.iconst 2, 1) := by decide +kernel
theorem dX8_must_89 : decode cX8_must 89 = .ok (.goto 4, 3) := by decide +kernel
theorem dX8_must_92 : decode cX8_must 92 = .ok (.iconst 0, 1) := by decide +kernel
theorem dX8_must_93 : decode cX8_must 93 = .ok (.ireturn, 1) := by decide +kernel
theorem dX8_gather_0 : decode cX8_gather 0 = .ok (.aload_n 0, 1) := by decide +kernel
theorem dX8_gather_1 : decode cX8_gather 1 = .ok (.iconst 0, 1) := by decide +kernel
theorem dX8_gather_2 : decode cX8_gather 2 = .ok (.putfield 285, 3) := by decide +kernel
theorem dX8_gather_5 : decode cX8_gather 5 = .ok (.iconst 0, 1) := by decide +kernel
theorem dX8_gather_6 : decode cX8_gather 6 = .ok (.istore_n 2, 1) := by decide +kernel
theorem dX8_gather_7 : decode cX8_gather 7 = .ok (.iload_n 2, 1) := by decide +kernel
theorem dX8_gather_8 : decode cX8_gather 8 = .ok (.aload_n 0, 1) := by decide +kernel
theorem dX8_gather_9 : decode cX8_gather 9 = .ok (.getfield 143, 3) := by decide +kernel
theorem dX8_gather_12 : decode cX8_gather 12 = .ok (.if_icmp .ge 123, 3) := by decide +kernel
theorem dX8_gather_15 : decode cX8_gather 15 = .ok (.aload_n 0, 1) := by decide +kernel
theorem dX8_gather_16 : decode cX8_gather 16 = .ok (.getfield 92, 3) := by decide +kernel
theorem dX8_gather_19 : decode cX8_gather 19 = .ok (.iload_n 2, 1) := by decide +kernel
theorem dX8_gather_20 : decode cX8_gather 20 = .ok (.iconst 0, 1) := by decide +kernel
theorem dX8_gather_21 : decode cX8_gather 21 = .ok (.iastore, 1) := by decide +kernel
theorem dX8_gather_22 : decode cX8_gather 22 = .ok (.iconst 0, 1) := by decide +kernel
theorem dX8_gather_23 : decode cX8_gather 23 = .ok (.istore_n 3, 1) := by decide +kernel
theorem dX8_gather_24 : decode cX8_gather 24 = .ok (.iload_n 3, 1) := by decide +kernel
theorem dX8_gather_25 : decode cX8_gather 25 = .ok (.aload_n 0, 1) := by decide +kernel
theorem dX8_gather_26 : decode cX8_gather 26 = .ok (.getfield 34, 3) := by decide +kernel
theorem dX8_gather_29 : decode cX8_gather 29 = .ok (.iload_n 2, 1) := by decide +kernel
theorem dX8_gather_30 : decode cX8_gather 30 = .ok (.iaload, 1) := by decide +kernel
theorem dX8_gather_31 : decode cX8_gather 31 = .ok (.if_icmp .ge 39, 3) := by decide +kernel
theorem dX8_gather_34 : decode cX8_gather 34 = .ok (.aload_n 0, 1) := by decide +kernel
theorem dX8_gather_35 : decode cX8_gather 35 = .ok (.getfield 92, 3) := by decide +kernel
theorem dX8_gather_38 : decode cX8_gather 38 = .ok (.iload_n 2, 1) := by decide +kernel
theorem dX8_gather_39 : decode cX8_gather 39 = .ok (.dup2, 1) := by decide +kernel
theorem dX8_gather_40 : decode cX8_gather 40 = .ok (.iaload, 1) := by decide +kernel
theorem dX8_gather_41 : decode cX8_gather 41 = .ok (.aload_n 0, 1) := by decide +kernel
theorem dX8_gather_42 : decode cX8_gather 42 = .ok (.getfield 31, 3) := by decide +kernel
theorem dX8_gather_45 : decode cX8_gather 45 = .ok (.aload_n 0, 1) := by decide +kernel
theorem dX8_gather_46 : decode cX8_gather 46 = .ok (.getfield 22, 3) := by decide +kernel
theorem dX8_gather_49 : decode cX8_gather 49 = .ok (.bipush 8, 2) := by decide +kernel
theorem dX8_gather_51 : decode cX8_gather 51 = .ok (.aload_n 0, 1) := by decide +kernel
theorem dX8_gather_52 : decode cX8_gather 52 = .ok (.getfield 25, 3) := by decide +kernel
theorem dX8_gather_55 : decode cX8_gather 55 = .ok (.iload_n 2, 1) := by decide +kernel
theorem dX8_gather_56 : decode cX8_gather 56 = .ok (.iaload, 1) := by decide +kernel
theorem dX8_gather_57 : decode cX8_gather 57 = .ok (.imul, 1) := by decide +kernel
theorem dX8_gather_58 : decode cX8_gather 58 = .ok (.iload_n 3, 1) := by decide +kernel
theorem dX8_gather_59 : decode cX8_gather 59 = .ok (.iadd, 1) := by decide +kernel
theorem dX8_gather_60 : decode cX8_gather 60 = .ok (.iaload, 1) := by decide +kernel
theorem dX8_gather_61 : decode cX8_gather 61 = .ok (.iaload, 1) := by decide +kernel
theorem dX8_gather_62 : decode cX8_gather 62 = .ok (.iadd, 1) := by decide +kernel
theorem dX8_gather_63 : decode cX8_gather 63 = .ok (.iastore, 1) := by decide +kernel
theorem dX8_gather_64 : decode cX8_gather 64 = .ok (.iinc 3 1, 3) := by decide +kernel
theorem dX8_gather_67 : decode cX8_gather 67 = .ok (.goto (-43), 3) := by decide +kernel
theorem dX8_gather_70 : decode cX8_gather 70 = .ok (.aload_n 0, 1) := by decide +kernel
theorem dX8_gather_71 : decode cX8_gather 71 = .ok (.getfield 95, 3) := by decide +kernel
theorem dX8_gather_74 : decode cX8_gather 74 = .ok (.iload_n 2, 1) := by decide +kernel
theorem dX8_gather_75 : decode cX8_gather 75 = .ok (.aload_n 0, 1) := by decide +kernel
theorem dX8_gather_76 : decode cX8_gather 76 = .ok (.iload_n 2, 1) := by decide +kernel
theorem dX8_gather_77 : decode cX8_gather 77 = .ok (.invokevirtual 224, 3) := by decide +kernel
theorem dX8_gather_80 : decode cX8_gather 80 = .ok (.aload_n 0, 1) := by decide +kernel
theorem dX8_gather_81 : decode cX8_gather 81 = .ok (.getfield 31, 3) := by decide +kernel
theorem dX8_gather_84 : decode cX8_gather 84 = .ok (.iload_n 2, 1) := by decide +kernel
theorem dX8_gather_85 : decode cX8_gather 85 = .ok (.iaload, 1) := by decide +kernel
theorem dX8_gather_86 : decode cX8_gather 86 = .ok (.isub, 1) := by decide +kernel
theorem dX8_gather_87 : decode cX8_gather 87 = .ok (.iastore, 1) := by decide +kernel
theorem dX8_gather_88 : decode cX8_gather 88 = .ok (.aload_n 0, 1) := by decide +kernel
theorem dX8_gather_89 : decode cX8_gather 89 = .ok (.getfield 98, 3) := by decide +kernel
theorem dX8_gather_92 : decode cX8_gather 92 = .ok (.iload_n 2, 1) := by decide +kernel
theorem dX8_gather_93 : decode cX8_gather 93 = .ok (.aload_n 0, 1) := by decide +kernel
theorem dX8_gather_94 : decode cX8_gather 94 = .ok (.getfield 31, 3) := by decide +kernel
theorem dX8_gather_97 : decode cX8_gather 97 = .ok (.iload_n 2, 1) := by decide +kernel
theorem dX8_gather_98 : decode cX8_gather 98 = .ok (.iaload, 1) := by decide +kernel
theorem dX8_gather_99 : decode cX8_gather 99 = .ok (.iastore, 1) := by decide +kernel
theorem dX8_gather_100 : decode cX8_gather 100 = .ok (.aload_n 0, 1) := by decide +kernel
theorem dX8_gather_101 : decode cX8_gather 101 = .ok (.iload_n 2, 1) := by decide +kernel
theorem dX8_gather_102 : decode cX8_gather 102 = .ok (.iload_n 1, 1) := by decide +kernel
theorem dX8_gather_103 : decode cX8_gather 103 = .ok (.invokevirtual 248, 3) := by decide +kernel
theorem dX8_gather_106 : decode cX8_gather 106 = .ok (.ifCond .eq 23, 3) := by decide +kernel
theorem dX8_gather_109 : decode cX8_gather 109 = .ok (.aload_n 0, 1) := by decide +kernel
theorem dX8_gather_110 : decode cX8_gather 110 = .ok (.getfield 89, 3) := by decide +kernel
theorem dX8_gather_113 : decode cX8_gather 113 = .ok (.aload_n 0, 1) := by decide +kernel
theorem dX8_gather_114 : decode cX8_gather 114 = .ok (.getfield 285, 3) := by decide +kernel
theorem dX8_gather_117 : decode cX8_gather 117 = .ok (.iload_n 2, 1) := by decide +kernel
theorem dX8_gather_118 : decode cX8_gather 118 = .ok (.iastore, 1) := by decide +kernel
theorem dX8_gather_119 : decode cX8_gather 119 = .ok (.aload_n 0, 1) := by decide +kernel
theorem dX8_gather_120 : decode cX8_gather 120 = .ok (.dup, 1) := by decide +kernel
theorem dX8_gather_121 : decode cX8_gather 121 = .ok (.getfield 285, 3) := by decide +kernel
theorem dX8_gather_124 : decode cX8_gather 124 = .ok (.iconst 1, 1) := by decide +kernel
theorem dX8_gather_125 : decode cX8_gather 125 = .ok (.iadd, 1) := by decide +kernel
theorem dX8_gather_126 : decode cX8_gather 126 = .ok (.putfield 285, 3) := by decide +kernel
theorem dX8_gather_129 : decode cX8_gather 129 = .ok (.iinc 2 1, 3) := by decide +kernel
theorem dX8_gather_132 : decode cX8_gather 132 = .ok (.goto (-125), 3) := by decide +kernel
theorem dX8_gather_135 : decode cX8_gather 135 = .ok (.return_, 1) := by decide +kernel
theorem dX8_cutBound_0 : decode cX8_cutBound 0 = .ok (.iconst 0, 1) := by decide +kernel
theorem dX8_cutBound_1 : decode cX8_cutBound 1 = .ok (.istore_n 1, 1) := by decide +kernel
theorem dX8_cutBound_2 : decode cX8_cutBound 2 = .ok (.iconst 0, 1) := by decide +kernel
theorem dX8_cutBound_3 : decode cX8_cutBound 3 = .ok (.istore_n 2, 1) := by decide +kernel
theorem dX8_cutBound_4 : decode cX8_cutBound 4 = .ok (.aload_n 0, 1) := by decide +kernel
theorem dX8_cutBound_5 : decode cX8_cutBound 5 = .ok (.getfield 285, 3) := by decide +kernel
theorem dX8_cutBound_8 : decode cX8_cutBound 8 = .ok (.istore_n 3, 1) := by decide +kernel
theorem dX8_cutBound_9 : decode cX8_cutBound 9 = .ok (.iload_n 3, 1) := by decide +kernel
theorem dX8_cutBound_10 : decode cX8_cutBound 10 = .ok (.ifCond .le 230, 3) := by decide +kernel
theorem dX8_cutBound_13 : decode cX8_cutBound 13 = .ok (.iconst (-1), 1) := by decide +kernel
theorem dX8_cutBound_14 : decode cX8_cutBound 14 = .ok (.istore 4, 2) := by decide +kernel
theorem dX8_cutBound_16 : decode cX8_cutBound 16 = .ok (.ldc_w 288, 3) := by decide +kernel
theorem dX8_cutBound_19 : decode cX8_cutBound 19 = .ok (.istore 5, 2) := by decide +kernel
theorem dX8_cutBound_21 : decode cX8_cutBound 21 = .ok (.iconst 0, 1) := by decide +kernel
theorem dX8_cutBound_22 : decode cX8_cutBound 22 = .ok (.istore 6, 2) := by decide +kernel
theorem dX8_cutBound_24 : decode cX8_cutBound 24 = .ok (.iload 6, 2) := by decide +kernel
theorem dX8_cutBound_26 : decode cX8_cutBound 26 = .ok (.aload_n 0, 1) := by decide +kernel
theorem dX8_cutBound_27 : decode cX8_cutBound 27 = .ok (.getfield 285, 3) := by decide +kernel
theorem dX8_cutBound_30 : decode cX8_cutBound 30 = .ok (.if_icmp .ge 109, 3) := by decide +kernel
theorem dX8_cutBound_33 : decode cX8_cutBound 33 = .ok (.aload_n 0, 1) := by decide +kernel
theorem dX8_cutBound_34 : decode cX8_cutBound 34 = .ok (.getfield 89, 3) := by decide +kernel
theorem dX8_cutBound_37 : decode cX8_cutBound 37 = .ok (.iload 6, 2) := by decide +kernel
theorem dX8_cutBound_39 : decode cX8_cutBound 39 = .ok (.iaload, 1) := by decide +kernel
theorem dX8_cutBound_40 : decode cX8_cutBound 40 = .ok (.istore 7, 2) := by decide +kernel
theorem dX8_cutBound_42 : decode cX8_cutBound 42 = .ok (.aload_n 0, 1) := by decide +kernel
theorem dX8_cutBound_43 : decode cX8_cutBound 43 = .ok (.getfield 98, 3) := by decide +kernel
theorem dX8_cutBound_46 : decode cX8_cutBound 46 = .ok (.iload 7, 2) := by decide +kernel
theorem dX8_cutBound_48 : decode cX8_cutBound 48 = .ok (.iaload, 1) := by decide +kernel
theorem dX8_cutBound_49 : decode cX8_cutBound 49 = .ok (.ifCond .le 48, 3) := by decide +kernel
theorem dX8_cutBound_52 : decode cX8_cutBound 52 = .ok (.aload_n 0, 1) := by decide +kernel
theorem dX8_cutBound_53 : decode cX8_cutBound 53 = .ok (.getfield 92, 3) := by decide +kernel
theorem dX8_cutBound_56 : decode cX8_cutBound 56 = .ok (.iload 7, 2) := by decide +kernel
theorem dX8_cutBound_58 : decode cX8_cutBound 58 = .ok (.iaload, 1) := by decide +kernel
theorem dX8_cutBound_59 : decode cX8_cutBound 59 = .ok (.iload_n 1, 1) := by decide +kernel
theorem dX8_cutBound_60 : decode cX8_cutBound 60 = .ok (.if_icmp .gt 37, 3) := by decide +kernel
theorem dX8_cutBound_63 : decode cX8_cutBound 63 = .ok (.iload 4, 2) := by decide +kernel
theorem dX8_cutBound_65 : decode cX8_cutBound 65 = .ok (.ifCond .lt 20, 3) := by decide +kernel
theorem dX8_cutBound_68 : decode cX8_cutBound 68 = .ok (.aload_n 0, 1) := by decide +kernel
theorem dX8_cutBound_69 : decode cX8_cutBound 69 = .ok (.getfield 95, 3) := by decide +kernel
theorem dX8_cutBound_72 : decode cX8_cutBound 72 = .ok (.iload 7, 2) := by decide +kernel
theorem dX8_cutBound_74 : decode cX8_cutBound 74 = .ok (.iaload, 1) := by decide +kernel
theorem dX8_cutBound_75 : decode cX8_cutBound 75 = .ok (.aload_n 0, 1) := by decide +kernel
theorem dX8_cutBound_76 : decode cX8_cutBound 76 = .ok (.getfield 95, 3) := by decide +kernel
theorem dX8_cutBound_79 : decode cX8_cutBound 79 = .ok (.iload 4, 2) := by decide +kernel
theorem dX8_cutBound_81 : decode cX8_cutBound 81 = .ok (.iaload, 1) := by decide +kernel
theorem dX8_cutBound_82 : decode cX8_cutBound 82 = .ok (.if_icmp .le 8, 3) := by decide +kernel
theorem dX8_cutBound_85 : decode cX8_cutBound 85 = .ok (.iload 7, 2) := by decide +kernel
theorem dX8_cutBound_87 : decode cX8_cutBound 87 = .ok (.goto 5, 3) := by decide +kernel
theorem dX8_cutBound_90 : decode cX8_cutBound 90 = .ok (.iload 4, 2) := by decide +kernel
theorem dX8_cutBound_92 : decode cX8_cutBound 92 = .ok (.istore 4, 2) := by decide +kernel
theorem dX8_cutBound_94 : decode cX8_cutBound 94 = .ok (.goto 39, 3) := by decide +kernel
theorem dX8_cutBound_97 : decode cX8_cutBound 97 = .ok (.aload_n 0, 1) := by decide +kernel
theorem dX8_cutBound_98 : decode cX8_cutBound 98 = .ok (.getfield 98, 3) := by decide +kernel
theorem dX8_cutBound_101 : decode cX8_cutBound 101 = .ok (.iload 7, 2) := by decide +kernel
theorem dX8_cutBound_103 : decode cX8_cutBound 103 = .ok (.iaload, 1) := by decide +kernel
theorem dX8_cutBound_104 : decode cX8_cutBound 104 = .ok (.ifCond .le 29, 3) := by decide +kernel
theorem dX8_cutBound_107 : decode cX8_cutBound 107 = .ok (.aload_n 0, 1) := by decide +kernel
theorem dX8_cutBound_108 : decode cX8_cutBound 108 = .ok (.getfield 92, 3) := by decide +kernel
theorem dX8_cutBound_111 : decode cX8_cutBound 111 = .ok (.iload 7, 2) := by decide +kernel
theorem dX8_cutBound_113 : decode cX8_cutBound 113 = .ok (.iaload, 1) := by decide +kernel
theorem dX8_cutBound_114 : decode cX8_cutBound 114 = .ok (.iload 5, 2) := by decide +kernel
theorem dX8_cutBound_116 : decode cX8_cutBound 116 = .ok (.if_icmp .ge 13, 3) := by decide +kernel
theorem dX8_cutBound_119 : decode cX8_cutBound 119 = .ok (.aload_n 0, 1) := by decide +kernel
theorem dX8_cutBound_120 : decode cX8_cutBound 120 = .ok (.getfield 92, 3) := by decide +kernel
theorem dX8_cutBound_123 : decode cX8_cutBound 123 = .ok (.iload 7, 2) := by decide +kernel
theorem dX8_cutBound_125 : decode cX8_cutBound 125 = .ok (.iaload, 1) := by decide +kernel
theorem dX8_cutBound_126 : decode cX8_cutBound 126 = .ok (.goto 5, 3) := by decide +kernel
theorem dX8_cutBound_129 : decode cX8_cutBound 129 = .ok (.iload 5, 2) := by decide +kernel
theorem dX8_cutBound_131 : decode cX8_cutBound 131 = .ok (.istore 5, 2) := by decide +kernel
theorem dX8_cutBound_133 : decode cX8_cutBound 133 = .ok (.iinc 6 1, 3) := by decide +kernel
theorem dX8_cutBound_136 : decode cX8_cutBound 136 = .ok (.goto (-112), 3) := by decide +kernel
theorem dX8_cutBound_139 : decode cX8_cutBound 139 = .ok (.iload 4, 2) := by decide +kernel
theorem dX8_cutBound_141 : decode cX8_cutBound 141 = .ok (.ifCond .ge 9, 3) := by decide +kernel
theorem dX8_cutBound_144 : decode cX8_cutBound 144 = .ok (.iload 5, 2) := by decide +kernel
theorem dX8_cutBound_146 : decode cX8_cutBound 146 = .ok (.istore_n 1, 1) := by decide +kernel
theorem dX8_cutBound_147 : decode cX8_cutBound 147 = .ok (.goto (-138), 3) := by decide +kernel
theorem dX8_cutBound_150 : decode cX8_cutBound 150 = .ok (.iload_n 1, 1) := by decide +kernel
theorem dX8_cutBound_151 : decode cX8_cutBound 151 = .ok (.aload_n 0, 1) := by decide +kernel
theorem dX8_cutBound_152 : decode cX8_cutBound 152 = .ok (.getfield 98, 3) := by decide +kernel
theorem dX8_cutBound_155 : decode cX8_cutBound 155 = .ok (.iload 4, 2) := by decide +kernel
theorem dX8_cutBound_157 : decode cX8_cutBound 157 = .ok (.iaload, 1) := by decide +kernel
theorem dX8_cutBound_158 : decode cX8_cutBound 158 = .ok (.iadd, 1) := by decide +kernel
theorem dX8_cutBound_159 : decode cX8_cutBound 159 = .ok (.iload 5, 2) := by decide +kernel
theorem dX8_cutBound_161 : decode cX8_cutBound 161 = .ok (.if_icmp .ge 15, 3) := by decide +kernel
theorem dX8_cutBound_164 : decode cX8_cutBound 164 = .ok (.iload_n 1, 1) := by decide +kernel
theorem dX8_cutBound_165 : decode cX8_cutBound 165 = .ok (.aload_n 0, 1) := by decide +kernel
theorem dX8_cutBound_166 : decode cX8_cutBound 166 = .ok (.getfield 98, 3) := by decide +kernel
theorem dX8_cutBound_169 : decode cX8_cutBound 169 = .ok (.iload 4, 2) := by decide +kernel
theorem dX8_cutBound_171 : decode cX8_cutBound 171 = .ok (.iaload, 1) := by decide +kernel
theorem dX8_cutBound_172 : decode cX8_cutBound 172 = .ok (.iadd, 1) := by decide +kernel
theorem dX8_cutBound_173 : decode cX8_cutBound 173 = .ok (.goto 5, 3) := by decide +kernel
theorem dX8_cutBound_176 : decode cX8_cutBound 176 = .ok (.iload 5, 2) := by decide +kernel
theorem dX8_cutBound_178 : decode cX8_cutBound 178 = .ok (.istore 6, 2) := by decide +kernel
theorem dX8_cutBound_180 : decode cX8_cutBound 180 = .ok (.aload_n 0, 1) := by decide +kernel
theorem dX8_cutBound_181 : decode cX8_cutBound 181 = .ok (.getfield 98, 3) := by decide +kernel
theorem dX8_cutBound_184 : decode cX8_cutBound 184 = .ok (.iload 4, 2) := by decide +kernel
theorem dX8_cutBound_186 : decode cX8_cutBound 186 = .ok (.dup2, 1) := by decide +kernel
theorem dX8_cutBound_187 : decode cX8_cutBound 187 = .ok (.iaload, 1) := by decide +kernel
theorem dX8_cutBound_188 : decode cX8_cutBound 188 = .ok (.iload 6, 2) := by decide +kernel
theorem dX8_cutBound_190 : decode cX8_cutBound 190 = .ok (.iload_n 1, 1) := by decide +kernel
theorem dX8_cutBound_191 : decode cX8_cutBound 191 = .ok (.isub, 1) := by decide +kernel
theorem dX8_cutBound_192 : decode cX8_cutBound 192 = .ok (.isub, 1) := by decide +kernel
theorem dX8_cutBound_193 : decode cX8_cutBound 193 = .ok (.iastore, 1) := by decide +kernel
theorem dX8_cutBound_194 : decode cX8_cutBound 194 = .ok (.iload 6, 2) := by decide +kernel
theorem dX8_cutBound_196 : decode cX8_cutBound 196 = .ok (.istore_n 1, 1) := by decide +kernel
theorem dX8_cutBound_197 : decode cX8_cutBound 197 = .ok (.aload_n 0, 1) := by decide +kernel
theorem dX8_cutBound_198 : decode cX8_cutBound 198 = .ok (.getfield 98, 3) := by decide +kernel
theorem dX8_cutBound_201 : decode cX8_cutBound 201 = .ok (.iload 4, 2) := by decide +kernel
theorem dX8_cutBound_203 : decode cX8_cutBound 203 = .ok (.iaload, 1) := by decide +kernel
theorem dX8_cutBound_204 : decode cX8_cutBound 204 = .ok (.ifCond .ne 33, 3) := by decide +kernel
theorem dX8_cutBound_207 : decode cX8_cutBound 207 = .ok (.iinc 3 (-1), 3) := by decide +kernel
theorem dX8_cutBound_210 : decode cX8_cutBound 210 = .ok (.iload_n 1, 1) := by decide +kernel
theorem dX8_cutBound_211 : decode cX8_cutBound 211 = .ok (.aload_n 0, 1) := by decide +kernel
theorem dX8_cutBound_212 : decode cX8_cutBound 212 = .ok (.getfield 95, 3) := by decide +kernel
theorem dX8_cutBound_215 : decode cX8_cutBound 215 = .ok (.iload 4, 2) := by decide +kernel
theorem dX8_cutBound_217 : decode cX8_cutBound 217 = .ok (.iaload, 1) := by decide +kernel
theorem dX8_cutBound_218 : decode cX8_cutBound 218 = .ok (.iadd, 1) := by decide +kernel
theorem dX8_cutBound_219 : decode cX8_cutBound 219 = .ok (.iload_n 2, 1) := by decide +kernel
theorem dX8_cutBound_220 : decode cX8_cutBound 220 = .ok (.if_icmp .le 15, 3) := by decide +kernel
theorem dX8_cutBound_223 : decode cX8_cutBound 223 = .ok (.iload_n 1, 1) := by decide +kernel
theorem dX8_cutBound_224 : decode cX8_cutBound 224 = .ok (.aload_n 0, 1) := by decide +kernel
theorem dX8_cutBound_225 : decode cX8_cutBound 225 = .ok (.getfield 95, 3) := by decide +kernel
theorem dX8_cutBound_228 : decode cX8_cutBound 228 = .ok (.iload 4, 2) := by decide +kernel
theorem dX8_cutBound_230 : decode cX8_cutBound 230 = .ok (.iaload, 1) := by decide +kernel
theorem dX8_cutBound_231 : decode cX8_cutBound 231 = .ok (.iadd, 1) := by decide +kernel
theorem dX8_cutBound_232 : decode cX8_cutBound 232 = .ok (.goto 4, 3) := by decide +kernel
theorem dX8_cutBound_235 : decode cX8_cutBound 235 = .ok (.iload_n 2, 1) := by decide +kernel
theorem dX8_cutBound_236 : decode cX8_cutBound 236 = .ok (.istore_n 2, 1) := by decide +kernel
theorem dX8_cutBound_237 : decode cX8_cutBound 237 = .ok (.goto (-228), 3) := by decide +kernel
theorem dX8_cutBound_240 : decode cX8_cutBound 240 = .ok (.iload_n 2, 1) := by decide +kernel
theorem dX8_cutBound_241 : decode cX8_cutBound 241 = .ok (.ireturn, 1) := by decide +kernel
theorem dX8_wholeBound_0 : decode cX8_wholeBound 0 = .ok (.ldc_w 289, 3) := by decide +kernel
theorem dX8_wholeBound_3 : decode cX8_wholeBound 3 = .ok (.istore_n 1, 1) := by decide +kernel
theorem dX8_wholeBound_4 : decode cX8_wholeBound 4 = .ok (.iconst 0, 1) := by decide +kernel
theorem dX8_wholeBound_5 : decode cX8_wholeBound 5 = .ok (.istore_n 2, 1) := by decide +kernel
theorem dX8_wholeBound_6 : decode cX8_wholeBound 6 = .ok (.iconst 0, 1) := by decide +kernel
theorem dX8_wholeBound_7 : decode cX8_wholeBound 7 = .ok (.istore_n 3, 1) := by decide +kernel
theorem dX8_wholeBound_8 : decode cX8_wholeBound 8 = .ok (.aload_n 0, 1) := by decide +kernel
theorem dX8_wholeBound_9 : decode cX8_wholeBound 9 = .ok (.getfield 101, 3) := by decide +kernel
theorem dX8_wholeBound_12 : decode cX8_wholeBound 12 = .ok (.iconst 0, 1) := by decide +kernel
theorem dX8_wholeBound_13 : decode cX8_wholeBound 13 = .ok (.iconst (-1), 1) := by decide +kernel
theorem dX8_wholeBound_14 : decode cX8_wholeBound 14 = .ok (.iastore, 1) := by decide +kernel
theorem dX8_wholeBound_15 : decode cX8_wholeBound 15 = .ok (.aload_n 0, 1) := by decide +kernel
theorem dX8_wholeBound_16 : decode cX8_wholeBound 16 = .ok (.getfield 104, 3) := by decide +kernel
theorem dX8_wholeBound_19 : decode cX8_wholeBound 19 = .ok (.iconst 0, 1) := by decide +kernel
theorem dX8_wholeBound_20 : decode cX8_wholeBound 20 = .ok (.iconst 0, 1) := by decide +kernel
theorem dX8_wholeBound_21 : decode cX8_wholeBound 21 = .ok (.iastore, 1) := by decide +kernel
theorem dX8_wholeBound_22 : decode cX8_wholeBound 22 = .ok (.aload_n 0, 1) := by decide +kernel
theorem dX8_wholeBound_23 : decode cX8_wholeBound 23 = .ok (.getfield 107, 3) := by decide +kernel
theorem dX8_wholeBound_26 : decode cX8_wholeBound 26 = .ok (.iconst 0, 1) := by decide +kernel
theorem dX8_wholeBound_27 : decode cX8_wholeBound 27 = .ok (.iconst 0, 1) := by decide +kernel
theorem dX8_wholeBound_28 : decode cX8_wholeBound 28 = .ok (.iastore, 1) := by decide +kernel
theorem dX8_wholeBound_29 : decode cX8_wholeBound 29 = .ok (.iload_n 2, 1) := by decide +kernel
theorem dX8_wholeBound_30 : decode cX8_wholeBound 30 = .ok (.ifCond .lt 255, 3) := by decide +kernel
theorem dX8_wholeBound_33 : decode cX8_wholeBound 33 = .ok (.iload_n 2, 1) := by decide +kernel
theorem dX8_wholeBound_34 : decode cX8_wholeBound 34 = .ok (.aload_n 0, 1) := by decide +kernel
theorem dX8_wholeBound_35 : decode cX8_wholeBound 35 = .ok (.getfield 285, 3) := by decide +kernel
theorem dX8_wholeBound_38 : decode cX8_wholeBound 38 = .ok (.if_icmp .ne 30, 3) := by decide +kernel
theorem dX8_wholeBound_41 : decode cX8_wholeBound 41 = .ok (.aload_n 0, 1) := by decide +kernel
theorem dX8_wholeBound_42 : decode cX8_wholeBound 42 = .ok (.getfield 107, 3) := by decide +kernel
theorem dX8_wholeBound_45 : decode cX8_wholeBound 45 = .ok (.iload_n 2, 1) := by decide +kernel
theorem dX8_wholeBound_46 : decode cX8_wholeBound 46 = .ok (.iaload, 1) := by decide +kernel
theorem dX8_wholeBound_47 : decode cX8_wholeBound 47 = .ok (.iload_n 1, 1) := by decide +kernel
theorem dX8_wholeBound_48 : decode cX8_wholeBound 48 = .ok (.if_icmp .ge 12, 3) := by decide +kernel
theorem dX8_wholeBound_51 : decode cX8_wholeBound 51 = .ok (.aload_n 0, 1) := by decide +kernel
theorem dX8_wholeBound_52 : decode cX8_wholeBound 52 = .ok (.getfield 107, 3) := by decide +kernel
theorem dX8_wholeBound_55 : decode cX8_wholeBound 55 = .ok (.iload_n 2, 1) := by decide +kernel
theorem dX8_wholeBound_56 : decode cX8_wholeBound 56 = .ok (.iaload, 1) := by decide +kernel
theorem dX8_wholeBound_57 : decode cX8_wholeBound 57 = .ok (.goto 4, 3) := by decide +kernel
theorem dX8_wholeBound_60 : decode cX8_wholeBound 60 = .ok (.iload_n 1, 1) := by decide +kernel
theorem dX8_wholeBound_61 : decode cX8_wholeBound 61 = .ok (.istore_n 1, 1) := by decide +kernel
theorem dX8_wholeBound_62 : decode cX8_wholeBound 62 = .ok (.iinc 2 (-1), 3) := by decide +kernel
theorem dX8_wholeBound_65 : decode cX8_wholeBound 65 = .ok (.goto (-36), 3) := by decide +kernel
theorem dX8_wholeBound_68 : decode cX8_wholeBound 68 = .ok (.aload_n 0, 1) := by decide +kernel
theorem dX8_wholeBound_69 : decode cX8_wholeBound 69 = .ok (.getfield 101, 3) := by decide +kernel
theorem dX8_wholeBound_72 : decode cX8_wholeBound 72 = .ok (.iload_n 2, 1) := by decide +kernel
theorem dX8_wholeBound_73 : decode cX8_wholeBound 73 = .ok (.iaload, 1) := by decide +kernel
theorem dX8_wholeBound_74 : decode cX8_wholeBound 74 = .ok (.ifCond .lt 16, 3) := by decide +kernel
theorem dX8_wholeBound_77 : decode cX8_wholeBound 77 = .ok (.iload_n 3, 1) := by decide +kernel
theorem dX8_wholeBound_78 : decode cX8_wholeBound 78 = .ok (.iconst 1, 1) := by decide +kernel
theorem dX8_wholeBound_79 : decode cX8_wholeBound 79 = .ok (.aload_n 0, 1) := by decide +kernel
theorem dX8_wholeBound_80 : decode cX8_wholeBound 80 = .ok (.getfield 101, 3) := by decide +kernel
theorem dX8_wholeBound_83 : decode cX8_wholeBound 83 = .ok (.iload_n 2, 1) := by decide +kernel
theorem dX8_wholeBound_84 : decode cX8_wholeBound 84 = .ok (.iaload, 1) := by decide +kernel
theorem dX8_wholeBound_85 : decode cX8_wholeBound 85 = .ok (.ishl, 1) := by decide +kernel
theorem dX8_wholeBound_86 : decode cX8_wholeBound 86 = .ok (.iconst (-1), 1) := by decide +kernel
theorem dX8_wholeBound_87 : decode cX8_wholeBound 87 = .ok (.ixor, 1) := by decide +kernel
theorem dX8_wholeBound_88 : decode cX8_wholeBound 88 = .ok (.iand, 1) := by decide +kernel
theorem dX8_wholeBound_89 : decode cX8_wholeBound 89 = .ok (.istore_n 3, 1) := by decide +kernel
theorem dX8_wholeBound_90 : decode cX8_wholeBound 90 = .ok (.aload_n 0, 1) := by decide +kernel
theorem dX8_wholeBound_91 : decode cX8_wholeBound 91 = .ok (.getfield 101, 3) := by decide +kernel
theorem dX8_wholeBound_94 : decode cX8_wholeBound 94 = .ok (.iload_n 2, 1) := by decide +kernel
theorem dX8_wholeBound_95 : decode cX8_wholeBound 95 = .ok (.iaload, 1) := by decide +kernel
theorem dX8_wholeBound_96 : decode cX8_wholeBound 96 = .ok (.iconst 1, 1) := by decide +kernel
theorem dX8_wholeBound_97 : decode cX8_wholeBound 97 = .ok (.iadd, 1) := by decide +kernel
theorem dX8_wholeBound_98 : decode cX8_wholeBound 98 = .ok (.istore 4, 2) := by decide +kernel
theorem dX8_wholeBound_100 : decode cX8_wholeBound 100 = .ok (.iload 4, 2) := by decide +kernel
theorem dX8_wholeBound_102 : decode cX8_wholeBound 102 = .ok (.aload_n 0, 1) := by decide +kernel
theorem dX8_wholeBound_103 : decode cX8_wholeBound 103 = .ok (.getfield 285, 3) := by decide +kernel
theorem dX8_wholeBound_106 : decode cX8_wholeBound 106 = .ok (.if_icmp .ge 19, 3) := by decide +kernel
theorem dX8_wholeBound_109 : decode cX8_wholeBound 109 = .ok (.iload_n 3, 1) := by decide +kernel
theorem dX8_wholeBound_110 : decode cX8_wholeBound 110 = .ok (.iload 4, 2) := by decide +kernel
theorem dX8_wholeBound_112 : decode cX8_wholeBound 112 = .ok (.iushr, 1) := by decide +kernel
theorem dX8_wholeBound_113 : decode cX8_wholeBound 113 = .ok (.iconst 1, 1) := by decide +kernel
theorem dX8_wholeBound_114 : decode cX8_wholeBound 114 = .ok (.iand, 1) := by decide +kernel
theorem dX8_wholeBound_115 : decode cX8_wholeBound 115 = .ok (.iconst 1, 1) := by decide +kernel
theorem dX8_wholeBound_116 : decode cX8_wholeBound 116 = .ok (.if_icmp .ne 9, 3) := by decide +kernel
theorem dX8_wholeBound_119 : decode cX8_wholeBound 119 = .ok (.iinc 4 1, 3) := by decide +kernel
theorem dX8_wholeBound_122 : decode cX8_wholeBound 122 = .ok (.goto (-22), 3) := by decide +kernel
theorem dX8_wholeBound_125 : decode cX8_wholeBound 125 = .ok (.iload 4, 2) := by decide +kernel
theorem dX8_wholeBound_127 : decode cX8_wholeBound 127 = .ok (.aload_n 0, 1) := by decide +kernel
theorem dX8_wholeBound_128 : decode cX8_wholeBound 128 = .ok (.getfield 285, 3) := by decide +kernel
theorem dX8_wholeBound_131 : decode cX8_wholeBound 131 = .ok (.if_icmp .lt 9, 3) := by decide +kernel
theorem dX8_wholeBound_134 : decode cX8_wholeBound 134 = .ok (.iinc 2 (-1), 3) := by decide +kernel
theorem dX8_wholeBound_137 : decode cX8_wholeBound 137 = .ok (.goto (-108), 3) := by decide +kernel
theorem dX8_wholeBound_140 : decode cX8_wholeBound 140 = .ok (.aload_n 0, 1) := by decide +kernel
theorem dX8_wholeBound_141 : decode cX8_wholeBound 141 = .ok (.getfield 101, 3) := by decide +kernel
theorem dX8_wholeBound_144 : decode cX8_wholeBound 144 = .ok (.iload_n 2, 1) := by decide +kernel
theorem dX8_wholeBound_145 : decode cX8_wholeBound 145 = .ok (.iload 4, 2) := by decide +kernel
theorem dX8_wholeBound_147 : decode cX8_wholeBound 147 = .ok (.iastore, 1) := by decide +kernel
theorem dX8_wholeBound_148 : decode cX8_wholeBound 148 = .ok (.aload_n 0, 1) := by decide +kernel
theorem dX8_wholeBound_149 : decode cX8_wholeBound 149 = .ok (.getfield 89, 3) := by decide +kernel
theorem dX8_wholeBound_152 : decode cX8_wholeBound 152 = .ok (.iload 4, 2) := by decide +kernel
theorem dX8_wholeBound_154 : decode cX8_wholeBound 154 = .ok (.iaload, 1) := by decide +kernel
theorem dX8_wholeBound_155 : decode cX8_wholeBound 155 = .ok (.istore 5, 2) := by decide +kernel
theorem dX8_wholeBound_157 : decode cX8_wholeBound 157 = .ok (.aload_n 0, 1) := by decide +kernel
theorem dX8_wholeBound_158 : decode cX8_wholeBound 158 = .ok (.getfield 104, 3) := by decide +kernel
theorem dX8_wholeBound_161 : decode cX8_wholeBound 161 = .ok (.iload_n 2, 1) := by decide +kernel
theorem dX8_wholeBound_162 : decode cX8_wholeBound 162 = .ok (.iaload, 1) := by decide +kernel
theorem dX8_wholeBound_163 : decode cX8_wholeBound 163 = .ok (.aload_n 0, 1) := by decide +kernel
theorem dX8_wholeBound_164 : decode cX8_wholeBound 164 = .ok (.getfield 92, 3) := by decide +kernel
theorem dX8_wholeBound_167 : decode cX8_wholeBound 167 = .ok (.iload 5, 2) := by decide +kernel
theorem dX8_wholeBound_169 : decode cX8_wholeBound 169 = .ok (.iaload, 1) := by decide +kernel
theorem dX8_wholeBound_170 : decode cX8_wholeBound 170 = .ok (.if_icmp .le 12, 3) := by decide +kernel
theorem dX8_wholeBound_173 : decode cX8_wholeBound 173 = .ok (.aload_n 0, 1) := by decide +kernel
theorem dX8_wholeBound_174 : decode cX8_wholeBound 174 = .ok (.getfield 104, 3) := by decide +kernel
theorem dX8_wholeBound_177 : decode cX8_wholeBound 177 = .ok (.iload_n 2, 1) := by decide +kernel
theorem dX8_wholeBound_178 : decode cX8_wholeBound 178 = .ok (.iaload, 1) := by decide +kernel
theorem dX8_wholeBound_179 : decode cX8_wholeBound 179 = .ok (.goto 10, 3) := by decide +kernel
theorem dX8_wholeBound_182 : decode cX8_wholeBound 182 = .ok (.aload_n 0, 1) := by decide +kernel
theorem dX8_wholeBound_183 : decode cX8_wholeBound 183 = .ok (.getfield 92, 3) := by decide +kernel
theorem dX8_wholeBound_186 : decode cX8_wholeBound 186 = .ok (.iload 5, 2) := by decide +kernel
theorem dX8_wholeBound_188 : decode cX8_wholeBound 188 = .ok (.iaload, 1) := by decide +kernel
theorem dX8_wholeBound_189 : decode cX8_wholeBound 189 = .ok (.istore 6, 2) := by decide +kernel
theorem dX8_wholeBound_191 : decode cX8_wholeBound 191 = .ok (.iload 6, 2) := by decide +kernel
theorem dX8_wholeBound_193 : decode cX8_wholeBound 193 = .ok (.aload_n 0, 1) := by decide +kernel
theorem dX8_wholeBound_194 : decode cX8_wholeBound 194 = .ok (.getfield 31, 3) := by decide +kernel
theorem dX8_wholeBound_197 : decode cX8_wholeBound 197 = .ok (.iload 5, 2) := by decide +kernel
theorem dX8_wholeBound_199 : decode cX8_wholeBound 199 = .ok (.iaload, 1) := by decide +kernel
theorem dX8_wholeBound_200 : decode cX8_wholeBound 200 = .ok (.iadd, 1) := by decide +kernel
theorem dX8_wholeBound_201 : decode cX8_wholeBound 201 = .ok (.istore 7, 2) := by decide +kernel
theorem dX8_wholeBound_203 : decode cX8_wholeBound 203 = .ok (.iload 7, 2) := by decide +kernel
theorem dX8_wholeBound_205 : decode cX8_wholeBound 205 = .ok (.aload_n 0, 1) := by decide +kernel
end
section
theorem dX8_wholeBound_206 : decode cX8_wholeBound 206 = .ok (.getfield 95, 3) := by decide +kernel
theorem dX8_wholeBound_209 : decode cX8_wholeBound 209 = .ok (.iload 5, 2) := by decide +kernel
theorem dX8_wholeBound_211 : decode cX8_wholeBound 211 = .ok (.iaload, 1) := by decide +kernel
theorem dX8_wholeBound_212 : decode cX8_wholeBound 212 = .ok (.iadd, 1) := by decide +kernel
theorem dX8_wholeBound_213 : decode cX8_wholeBound 213 = .ok (.aload_n 0, 1) := by decide +kernel
theorem dX8_wholeBound_214 : decode cX8_wholeBound 214 = .ok (.getfield 107, 3) := by decide +kernel
theorem dX8_wholeBound_217 : decode cX8_wholeBound 217 = .ok (.iload_n 2, 1) := by decide +kernel
theorem dX8_wholeBound_218 : decode cX8_wholeBound 218 = .ok (.iaload, 1) := by decide +kernel
theorem dX8_wholeBound_219 : decode cX8_wholeBound 219 = .ok (.if_icmp .le 16, 3) := by decide +kernel
theorem dX8_wholeBound_222 : decode cX8_wholeBound 222 = .ok (.iload 7, 2) := by decide +kernel
theorem dX8_wholeBound_224 : decode cX8_wholeBound 224 = .ok (.aload_n 0, 1) := by decide +kernel
theorem dX8_wholeBound_225 : decode cX8_wholeBound 225 = .ok (.getfield 95, 3) := by decide +kernel
theorem dX8_wholeBound_228 : decode cX8_wholeBound 228 = .ok (.iload 5, 2) := by decide +kernel
theorem dX8_wholeBound_230 : decode cX8_wholeBound 230 = .ok (.iaload, 1) := by decide +kernel
theorem dX8_wholeBound_231 : decode cX8_wholeBound 231 = .ok (.iadd, 1) := by decide +kernel
theorem dX8_wholeBound_232 : decode cX8_wholeBound 232 = .ok (.goto 9, 3) := by decide +kernel
theorem dX8_wholeBound_235 : decode cX8_wholeBound 235 = .ok (.aload_n 0, 1) := by decide +kernel
theorem dX8_wholeBound_236 : decode cX8_wholeBound 236 = .ok (.getfield 107, 3) := by decide +kernel
theorem dX8_wholeBound_239 : decode cX8_wholeBound 239 = .ok (.iload_n 2, 1) := by decide +kernel
theorem dX8_wholeBound_240 : decode cX8_wholeBound 240 = .ok (.iaload, 1) := by decide +kernel
theorem dX8_wholeBound_241 : decode cX8_wholeBound 241 = .ok (.istore 8, 2) := by decide +kernel
theorem dX8_wholeBound_243 : decode cX8_wholeBound 243 = .ok (.iload 8, 2) := by decide +kernel
theorem dX8_wholeBound_245 : decode cX8_wholeBound 245 = .ok (.iload_n 1, 1) := by decide +kernel
theorem dX8_wholeBound_246 : decode cX8_wholeBound 246 = .ok (.if_icmp .ge 36, 3) := by decide +kernel
theorem dX8_wholeBound_249 : decode cX8_wholeBound 249 = .ok (.iload_n 3, 1) := by decide +kernel
theorem dX8_wholeBound_250 : decode cX8_wholeBound 250 = .ok (.iconst 1, 1) := by decide +kernel
theorem dX8_wholeBound_251 : decode cX8_wholeBound 251 = .ok (.iload 4, 2) := by decide +kernel
theorem dX8_wholeBound_253 : decode cX8_wholeBound 253 = .ok (.ishl, 1) := by decide +kernel
theorem dX8_wholeBound_254 : decode cX8_wholeBound 254 = .ok (.ior, 1) := by decide +kernel
theorem dX8_wholeBound_255 : decode cX8_wholeBound 255 = .ok (.istore_n 3, 1) := by decide +kernel
theorem dX8_wholeBound_256 : decode cX8_wholeBound 256 = .ok (.iinc 2 1, 3) := by decide +kernel
theorem dX8_wholeBound_259 : decode cX8_wholeBound 259 = .ok (.aload_n 0, 1) := by decide +kernel
theorem dX8_wholeBound_260 : decode cX8_wholeBound 260 = .ok (.getfield 101, 3) := by decide +kernel
theorem dX8_wholeBound_263 : decode cX8_wholeBound 263 = .ok (.iload_n 2, 1) := by decide +kernel
theorem dX8_wholeBound_264 : decode cX8_wholeBound 264 = .ok (.iconst (-1), 1) := by decide +kernel
theorem dX8_wholeBound_265 : decode cX8_wholeBound 265 = .ok (.iastore, 1) := by decide +kernel
theorem dX8_wholeBound_266 : decode cX8_wholeBound 266 = .ok (.aload_n 0, 1) := by decide +kernel
theorem dX8_wholeBound_267 : decode cX8_wholeBound 267 = .ok (.getfield 104, 3) := by decide +kernel
theorem dX8_wholeBound_270 : decode cX8_wholeBound 270 = .ok (.iload_n 2, 1) := by decide +kernel
theorem dX8_wholeBound_271 : decode cX8_wholeBound 271 = .ok (.iload 7, 2) := by decide +kernel
theorem dX8_wholeBound_273 : decode cX8_wholeBound 273 = .ok (.iastore, 1) := by decide +kernel
theorem dX8_wholeBound_274 : decode cX8_wholeBound 274 = .ok (.aload_n 0, 1) := by decide +kernel
theorem dX8_wholeBound_275 : decode cX8_wholeBound 275 = .ok (.getfield 107, 3) := by decide +kernel
theorem dX8_wholeBound_278 : decode cX8_wholeBound 278 = .ok (.iload_n 2, 1) := by decide +kernel
theorem dX8_wholeBound_279 : decode cX8_wholeBound 279 = .ok (.iload 8, 2) := by decide +kernel
theorem dX8_wholeBound_281 : decode cX8_wholeBound 281 = .ok (.iastore, 1) := by decide +kernel
theorem dX8_wholeBound_282 : decode cX8_wholeBound 282 = .ok (.goto (-253), 3) := by decide +kernel
theorem dX8_wholeBound_285 : decode cX8_wholeBound 285 = .ok (.iload_n 1, 1) := by decide +kernel
theorem dX8_wholeBound_286 : decode cX8_wholeBound 286 = .ok (.ireturn, 1) := by decide +kernel
theorem dX8_bound_0 : decode cX8_bound 0 = .ok (.iload_n 1, 1) := by decide +kernel
theorem dX8_bound_1 : decode cX8_bound 1 = .ok (.i2l, 1) := by decide +kernel
theorem dX8_bound_2 : decode cX8_bound 2 = .ok (.lconst 0, 1) := by decide +kernel
theorem dX8_bound_3 : decode cX8_bound 3 = .ok (.aload_n 0, 1) := by decide +kernel
theorem dX8_bound_4 : decode cX8_bound 4 = .ok (.getfield 133, 3) := by decide +kernel
theorem dX8_bound_7 : decode cX8_bound 7 = .ok (.iconst 1, 1) := by decide +kernel
theorem dX8_bound_8 : decode cX8_bound 8 = .ok (.isub, 1) := by decide +kernel
theorem dX8_bound_9 : decode cX8_bound 9 = .ok (.i2l, 1) := by decide +kernel
theorem dX8_bound_10 : decode cX8_bound 10 = .ok (.invokestatic 124, 3) := by decide +kernel
theorem dX8_bound_13 : decode cX8_bound 13 = .ok (.ifCond .ne 6, 3) := by decide +kernel
theorem dX8_bound_16 : decode cX8_bound 16 = .ok (.ldc 146, 2) := by decide +kernel
theorem dX8_bound_18 : decode cX8_bound 18 = .ok (.ireturn, 1) := by decide +kernel
theorem dX8_bound_19 : decode cX8_bound 19 = .ok (.iload_n 2, 1) := by decide +kernel
theorem dX8_bound_20 : decode cX8_bound 20 = .ok (.i2l, 1) := by decide +kernel
theorem dX8_bound_21 : decode cX8_bound 21 = .ok (.lconst 0, 1) := by decide +kernel
theorem dX8_bound_22 : decode cX8_bound 22 = .ok (.lconst 1, 1) := by decide +kernel
theorem dX8_bound_23 : decode cX8_bound 23 = .ok (.invokestatic 124, 3) := by decide +kernel
theorem dX8_bound_26 : decode cX8_bound 26 = .ok (.ifCond .ne 6, 3) := by decide +kernel
theorem dX8_bound_29 : decode cX8_bound 29 = .ok (.ldc 132, 2) := by decide +kernel
theorem dX8_bound_31 : decode cX8_bound 31 = .ok (.ireturn, 1) := by decide +kernel
theorem dX8_bound_32 : decode cX8_bound 32 = .ok (.aload_n 0, 1) := by decide +kernel
theorem dX8_bound_33 : decode cX8_bound 33 = .ok (.iload_n 1, 1) := by decide +kernel
theorem dX8_bound_34 : decode cX8_bound 34 = .ok (.invokevirtual 290, 3) := by decide +kernel
theorem dX8_bound_37 : decode cX8_bound 37 = .ok (.aload_n 0, 1) := by decide +kernel
theorem dX8_bound_38 : decode cX8_bound 38 = .ok (.getfield 7, 3) := by decide +kernel
theorem dX8_bound_41 : decode cX8_bound 41 = .ok (.iload_n 1, 1) := by decide +kernel
theorem dX8_bound_42 : decode cX8_bound 42 = .ok (.iaload, 1) := by decide +kernel
theorem dX8_bound_43 : decode cX8_bound 43 = .ok (.ifCond .ne 17, 3) := by decide +kernel
theorem dX8_bound_46 : decode cX8_bound 46 = .ok (.iload_n 2, 1) := by decide +kernel
theorem dX8_bound_47 : decode cX8_bound 47 = .ok (.iconst 1, 1) := by decide +kernel
theorem dX8_bound_48 : decode cX8_bound 48 = .ok (.if_icmp .ne 15, 3) := by decide +kernel
theorem dX8_bound_51 : decode cX8_bound 51 = .ok (.aload_n 0, 1) := by decide +kernel
theorem dX8_bound_52 : decode cX8_bound 52 = .ok (.getfield 285, 3) := by decide +kernel
theorem dX8_bound_55 : decode cX8_bound 55 = .ok (.bipush 8, 2) := by decide +kernel
theorem dX8_bound_57 : decode cX8_bound 57 = .ok (.if_icmp .le 6, 3) := by decide +kernel
theorem dX8_bound_60 : decode cX8_bound 60 = .ok (.ldc 179, 2) := by decide +kernel
theorem dX8_bound_62 : decode cX8_bound 62 = .ok (.ireturn, 1) := by decide +kernel
theorem dX8_bound_63 : decode cX8_bound 63 = .ok (.aload_n 0, 1) := by decide +kernel
theorem dX8_bound_64 : decode cX8_bound 64 = .ok (.getfield 285, 3) := by decide +kernel
theorem dX8_bound_67 : decode cX8_bound 67 = .ok (.ifCond .ne 7, 3) := by decide +kernel
theorem dX8_bound_70 : decode cX8_bound 70 = .ok (.iconst 0, 1) := by decide +kernel
theorem dX8_bound_71 : decode cX8_bound 71 = .ok (.goto 18, 3) := by decide +kernel
theorem dX8_bound_74 : decode cX8_bound 74 = .ok (.iload_n 2, 1) := by decide +kernel
theorem dX8_bound_75 : decode cX8_bound 75 = .ok (.ifCond .ne 10, 3) := by decide +kernel
theorem dX8_bound_78 : decode cX8_bound 78 = .ok (.aload_n 0, 1) := by decide +kernel
theorem dX8_bound_79 : decode cX8_bound 79 = .ok (.invokevirtual 293, 3) := by decide +kernel
theorem dX8_bound_82 : decode cX8_bound 82 = .ok (.goto 7, 3) := by decide +kernel
theorem dX8_bound_85 : decode cX8_bound 85 = .ok (.aload_n 0, 1) := by decide +kernel
theorem dX8_bound_86 : decode cX8_bound 86 = .ok (.invokevirtual 296, 3) := by decide +kernel
theorem dX8_bound_89 : decode cX8_bound 89 = .ok (.ireturn, 1) := by decide +kernel
theorem dX8_pushCase_0 : decode cX8_pushCase 0 = .ok (.iconst 0, 1) := by decide +kernel
theorem dX8_pushCase_1 : decode cX8_pushCase 1 = .ok (.istore_n 1, 1) := by decide +kernel
theorem dX8_pushCase_2 : decode cX8_pushCase 2 = .ok (.iload_n 1, 1) := by decide +kernel
theorem dX8_pushCase_3 : decode cX8_pushCase 3 = .ok (.bipush 32, 2) := by decide +kernel
theorem dX8_pushCase_5 : decode cX8_pushCase 5 = .ok (.if_icmp .ge 29, 3) := by decide +kernel
theorem dX8_pushCase_8 : decode cX8_pushCase 8 = .ok (.aload_n 0, 1) := by decide +kernel
theorem dX8_pushCase_9 : decode cX8_pushCase 9 = .ok (.getfield 110, 3) := by decide +kernel
theorem dX8_pushCase_12 : decode cX8_pushCase 12 = .ok (.bipush 32, 2) := by decide +kernel
theorem dX8_pushCase_14 : decode cX8_pushCase 14 = .ok (.aload_n 0, 1) := by decide +kernel
theorem dX8_pushCase_15 : decode cX8_pushCase 15 = .ok (.getfield 299, 3) := by decide +kernel
theorem dX8_pushCase_18 : decode cX8_pushCase 18 = .ok (.imul, 1) := by decide +kernel
theorem dX8_pushCase_19 : decode cX8_pushCase 19 = .ok (.iload_n 1, 1) := by decide +kernel
theorem dX8_pushCase_20 : decode cX8_pushCase 20 = .ok (.iadd, 1) := by decide +kernel
theorem dX8_pushCase_21 : decode cX8_pushCase 21 = .ok (.aload_n 0, 1) := by decide +kernel
theorem dX8_pushCase_22 : decode cX8_pushCase 22 = .ok (.getfield 77, 3) := by decide +kernel
theorem dX8_pushCase_25 : decode cX8_pushCase 25 = .ok (.iload_n 1, 1) := by decide +kernel
theorem dX8_pushCase_26 : decode cX8_pushCase 26 = .ok (.iaload, 1) := by decide +kernel
theorem dX8_pushCase_27 : decode cX8_pushCase 27 = .ok (.iastore, 1) := by decide +kernel
theorem dX8_pushCase_28 : decode cX8_pushCase 28 = .ok (.iinc 1 1, 3) := by decide +kernel
theorem dX8_pushCase_31 : decode cX8_pushCase 31 = .ok (.goto (-29), 3) := by decide +kernel
theorem dX8_pushCase_34 : decode cX8_pushCase 34 = .ok (.aload_n 0, 1) := by decide +kernel
theorem dX8_pushCase_35 : decode cX8_pushCase 35 = .ok (.dup, 1) := by decide +kernel
theorem dX8_pushCase_36 : decode cX8_pushCase 36 = .ok (.getfield 299, 3) := by decide +kernel
theorem dX8_pushCase_39 : decode cX8_pushCase 39 = .ok (.iconst 1, 1) := by decide +kernel
theorem dX8_pushCase_40 : decode cX8_pushCase 40 = .ok (.iadd, 1) := by decide +kernel
theorem dX8_pushCase_41 : decode cX8_pushCase 41 = .ok (.putfield 299, 3) := by decide +kernel
theorem dX8_pushCase_44 : decode cX8_pushCase 44 = .ok (.return_, 1) := by decide +kernel
theorem dX8_popCase_0 : decode cX8_popCase 0 = .ok (.aload_n 0, 1) := by decide +kernel
theorem dX8_popCase_1 : decode cX8_popCase 1 = .ok (.dup, 1) := by decide +kernel
theorem dX8_popCase_2 : decode cX8_popCase 2 = .ok (.getfield 299, 3) := by decide +kernel
theorem dX8_popCase_5 : decode cX8_popCase 5 = .ok (.iconst 1, 1) := by decide +kernel
theorem dX8_popCase_6 : decode cX8_popCase 6 = .ok (.isub, 1) := by decide +kernel
theorem dX8_popCase_7 : decode cX8_popCase 7 = .ok (.putfield 299, 3) := by decide +kernel
theorem dX8_popCase_10 : decode cX8_popCase 10 = .ok (.iconst 0, 1) := by decide +kernel
theorem dX8_popCase_11 : decode cX8_popCase 11 = .ok (.istore_n 1, 1) := by decide +kernel
theorem dX8_popCase_12 : decode cX8_popCase 12 = .ok (.iload_n 1, 1) := by decide +kernel
theorem dX8_popCase_13 : decode cX8_popCase 13 = .ok (.bipush 32, 2) := by decide +kernel
theorem dX8_popCase_15 : decode cX8_popCase 15 = .ok (.if_icmp .ge 29, 3) := by decide +kernel
theorem dX8_popCase_18 : decode cX8_popCase 18 = .ok (.aload_n 0, 1) := by decide +kernel
theorem dX8_popCase_19 : decode cX8_popCase 19 = .ok (.getfield 77, 3) := by decide +kernel
theorem dX8_popCase_22 : decode cX8_popCase 22 = .ok (.iload_n 1, 1) := by decide +kernel
theorem dX8_popCase_23 : decode cX8_popCase 23 = .ok (.aload_n 0, 1) := by decide +kernel
theorem dX8_popCase_24 : decode cX8_popCase 24 = .ok (.getfield 110, 3) := by decide +kernel
theorem dX8_popCase_27 : decode cX8_popCase 27 = .ok (.bipush 32, 2) := by decide +kernel
theorem dX8_popCase_29 : decode cX8_popCase 29 = .ok (.aload_n 0, 1) := by decide +kernel
theorem dX8_popCase_30 : decode cX8_popCase 30 = .ok (.getfield 299, 3) := by decide +kernel
theorem dX8_popCase_33 : decode cX8_popCase 33 = .ok (.imul, 1) := by decide +kernel
theorem dX8_popCase_34 : decode cX8_popCase 34 = .ok (.iload_n 1, 1) := by decide +kernel
theorem dX8_popCase_35 : decode cX8_popCase 35 = .ok (.iadd, 1) := by decide +kernel
theorem dX8_popCase_36 : decode cX8_popCase 36 = .ok (.iaload, 1) := by decide +kernel
theorem dX8_popCase_37 : decode cX8_popCase 37 = .ok (.iastore, 1) := by decide +kernel
theorem dX8_popCase_38 : decode cX8_popCase 38 = .ok (.iinc 1 1, 3) := by decide +kernel
theorem dX8_popCase_41 : decode cX8_popCase 41 = .ok (.goto (-29), 3) := by decide +kernel
theorem dX8_popCase_44 : decode cX8_popCase 44 = .ok (.return_, 1) := by decide +kernel
theorem dX8_complete_0 : decode cX8_complete 0 = .ok (.iconst 0, 1) := by decide +kernel
theorem dX8_complete_1 : decode cX8_complete 1 = .ok (.istore_n 1, 1) := by decide +kernel
theorem dX8_complete_2 : decode cX8_complete 2 = .ok (.iload_n 1, 1) := by decide +kernel
theorem dX8_complete_3 : decode cX8_complete 3 = .ok (.sipush 256, 3) := by decide +kernel
theorem dX8_complete_6 : decode cX8_complete 6 = .ok (.if_icmp .ge 21, 3) := by decide +kernel
theorem dX8_complete_9 : decode cX8_complete 9 = .ok (.aload_n 0, 1) := by decide +kernel
theorem dX8_complete_10 : decode cX8_complete 10 = .ok (.getfield 113, 3) := by decide +kernel
theorem dX8_complete_13 : decode cX8_complete 13 = .ok (.iload_n 1, 1) := by decide +kernel
theorem dX8_complete_14 : decode cX8_complete 14 = .ok (.aload_n 0, 1) := by decide +kernel
theorem dX8_complete_15 : decode cX8_complete 15 = .ok (.getfield 37, 3) := by decide +kernel
theorem dX8_complete_18 : decode cX8_complete 18 = .ok (.iload_n 1, 1) := by decide +kernel
theorem dX8_complete_19 : decode cX8_complete 19 = .ok (.iaload, 1) := by decide +kernel
theorem dX8_complete_20 : decode cX8_complete 20 = .ok (.iastore, 1) := by decide +kernel
theorem dX8_complete_21 : decode cX8_complete 21 = .ok (.iinc 1 1, 3) := by decide +kernel
theorem dX8_complete_24 : decode cX8_complete 24 = .ok (.goto (-22), 3) := by decide +kernel
theorem dX8_complete_27 : decode cX8_complete 27 = .ok (.iconst 0, 1) := by decide +kernel
theorem dX8_complete_28 : decode cX8_complete 28 = .ok (.istore_n 1, 1) := by decide +kernel
theorem dX8_complete_29 : decode cX8_complete 29 = .ok (.iload_n 1, 1) := by decide +kernel
theorem dX8_complete_30 : decode cX8_complete 30 = .ok (.aload_n 0, 1) := by decide +kernel
theorem dX8_complete_31 : decode cX8_complete 31 = .ok (.getfield 133, 3) := by decide +kernel
theorem dX8_complete_34 : decode cX8_complete 34 = .ok (.if_icmp .ge 23, 3) := by decide +kernel
theorem dX8_complete_37 : decode cX8_complete 37 = .ok (.aload_n 0, 1) := by decide +kernel
theorem dX8_complete_38 : decode cX8_complete 38 = .ok (.getfield 7, 3) := by decide +kernel
theorem dX8_complete_41 : decode cX8_complete 41 = .ok (.iload_n 1, 1) := by decide +kernel
theorem dX8_complete_42 : decode cX8_complete 42 = .ok (.iaload, 1) := by decide +kernel
theorem dX8_complete_43 : decode cX8_complete 43 = .ok (.ifCond .ne 8, 3) := by decide +kernel
theorem dX8_complete_46 : decode cX8_complete 46 = .ok (.aload_n 0, 1) := by decide +kernel
theorem dX8_complete_47 : decode cX8_complete 47 = .ok (.iload_n 1, 1) := by decide +kernel
theorem dX8_complete_48 : decode cX8_complete 48 = .ok (.invokevirtual 302, 3) := by decide +kernel
theorem dX8_complete_51 : decode cX8_complete 51 = .ok (.iinc 1 1, 3) := by decide +kernel
theorem dX8_complete_54 : decode cX8_complete 54 = .ok (.goto (-25), 3) := by decide +kernel
theorem dX8_complete_57 : decode cX8_complete 57 = .ok (.aload_n 0, 1) := by decide +kernel
theorem dX8_complete_58 : decode cX8_complete 58 = .ok (.invokevirtual 192, 3) := by decide +kernel
theorem dX8_complete_61 : decode cX8_complete 61 = .ok (.ifCond .eq 33, 3) := by decide +kernel
theorem dX8_complete_64 : decode cX8_complete 64 = .ok (.aload_n 0, 1) := by decide +kernel
theorem dX8_complete_65 : decode cX8_complete 65 = .ok (.getfield 183, 3) := by decide +kernel
theorem dX8_complete_68 : decode cX8_complete 68 = .ok (.aload_n 0, 1) := by decide +kernel
theorem dX8_complete_69 : decode cX8_complete 69 = .ok (.getfield 305, 3) := by decide +kernel
theorem dX8_complete_72 : decode cX8_complete 72 = .ok (.if_icmp .ge 22, 3) := by decide +kernel
theorem dX8_complete_75 : decode cX8_complete 75 = .ok (.aload_n 0, 1) := by decide +kernel
theorem dX8_complete_76 : decode cX8_complete 76 = .ok (.aload_n 0, 1) := by decide +kernel
theorem dX8_complete_77 : decode cX8_complete 77 = .ok (.getfield 183, 3) := by decide +kernel
theorem dX8_complete_80 : decode cX8_complete 80 = .ok (.putfield 305, 3) := by decide +kernel
theorem dX8_complete_83 : decode cX8_complete 83 = .ok (.aload_n 0, 1) := by decide +kernel
theorem dX8_complete_84 : decode cX8_complete 84 = .ok (.dup, 1) := by decide +kernel
theorem dX8_complete_85 : decode cX8_complete 85 = .ok (.getfield 308, 3) := by decide +kernel
theorem dX8_complete_88 : decode cX8_complete 88 = .ok (.iconst 1, 1) := by decide +kernel
theorem dX8_complete_89 : decode cX8_complete 89 = .ok (.iadd, 1) := by decide +kernel
theorem dX8_complete_90 : decode cX8_complete 90 = .ok (.putfield 308, 3) := by decide +kernel
theorem dX8_complete_93 : decode cX8_complete 93 = .ok (.return_, 1) := by decide +kernel
theorem dX8_complete_94 : decode cX8_complete 94 = .ok (.iconst 0, 1) := by decide +kernel
theorem dX8_complete_95 : decode cX8_complete 95 = .ok (.istore_n 1, 1) := by decide +kernel
theorem dX8_complete_96 : decode cX8_complete 96 = .ok (.iload_n 1, 1) := by decide +kernel
theorem dX8_complete_97 : decode cX8_complete 97 = .ok (.sipush 256, 3) := by decide +kernel
theorem dX8_complete_100 : decode cX8_complete 100 = .ok (.if_icmp .ge 21, 3) := by decide +kernel
theorem dX8_complete_103 : decode cX8_complete 103 = .ok (.aload_n 0, 1) := by decide +kernel
theorem dX8_complete_104 : decode cX8_complete 104 = .ok (.getfield 37, 3) := by decide +kernel
theorem dX8_complete_107 : decode cX8_complete 107 = .ok (.iload_n 1, 1) := by decide +kernel
theorem dX8_complete_108 : decode cX8_complete 108 = .ok (.aload_n 0, 1) := by decide +kernel
theorem dX8_complete_109 : decode cX8_complete 109 = .ok (.getfield 113, 3) := by decide +kernel
theorem dX8_complete_112 : decode cX8_complete 112 = .ok (.iload_n 1, 1) := by decide +kernel
theorem dX8_complete_113 : decode cX8_complete 113 = .ok (.iaload, 1) := by decide +kernel
theorem dX8_complete_114 : decode cX8_complete 114 = .ok (.iastore, 1) := by decide +kernel
theorem dX8_complete_115 : decode cX8_complete 115 = .ok (.iinc 1 1, 3) := by decide +kernel
theorem dX8_complete_118 : decode cX8_complete 118 = .ok (.goto (-22), 3) := by decide +kernel
theorem dX8_complete_121 : decode cX8_complete 121 = .ok (.return_, 1) := by decide +kernel
theorem dX8_aheadOf_0 : decode cX8_aheadOf 0 = .ok (.iconst 0, 1) := by decide +kernel
theorem dX8_aheadOf_1 : decode cX8_aheadOf 1 = .ok (.istore_n 2, 1) := by decide +kernel
theorem dX8_aheadOf_2 : decode cX8_aheadOf 2 = .ok (.iconst 0, 1) := by decide +kernel
theorem dX8_aheadOf_3 : decode cX8_aheadOf 3 = .ok (.istore_n 3, 1) := by decide +kernel
theorem dX8_aheadOf_4 : decode cX8_aheadOf 4 = .ok (.iload_n 3, 1) := by decide +kernel
theorem dX8_aheadOf_5 : decode cX8_aheadOf 5 = .ok (.aload_n 0, 1) := by decide +kernel
theorem dX8_aheadOf_6 : decode cX8_aheadOf 6 = .ok (.getfield 143, 3) := by decide +kernel
theorem dX8_aheadOf_9 : decode cX8_aheadOf 9 = .ok (.if_icmp .ge 26, 3) := by decide +kernel
theorem dX8_aheadOf_12 : decode cX8_aheadOf 12 = .ok (.iload_n 2, 1) := by decide +kernel
theorem dX8_aheadOf_13 : decode cX8_aheadOf 13 = .ok (.aload_n 0, 1) := by decide +kernel
theorem dX8_aheadOf_14 : decode cX8_aheadOf 14 = .ok (.iload_n 3, 1) := by decide +kernel
theorem dX8_aheadOf_15 : decode cX8_aheadOf 15 = .ok (.iload_n 1, 1) := by decide +kernel
theorem dX8_aheadOf_16 : decode cX8_aheadOf 16 = .ok (.invokevirtual 245, 3) := by decide +kernel
theorem dX8_aheadOf_19 : decode cX8_aheadOf 19 = .ok (.ifCond .eq 7, 3) := by decide +kernel
theorem dX8_aheadOf_22 : decode cX8_aheadOf 22 = .ok (.iconst 1, 1) := by decide +kernel
theorem dX8_aheadOf_23 : decode cX8_aheadOf 23 = .ok (.goto 4, 3) := by decide +kernel
theorem dX8_aheadOf_26 : decode cX8_aheadOf 26 = .ok (.iconst 0, 1) := by decide +kernel
theorem dX8_aheadOf_27 : decode cX8_aheadOf 27 = .ok (.iadd, 1) := by decide +kernel
theorem dX8_aheadOf_28 : decode cX8_aheadOf 28 = .ok (.istore_n 2, 1) := by decide +kernel
theorem dX8_aheadOf_29 : decode cX8_aheadOf 29 = .ok (.iinc 3 1, 3) := by decide +kernel
theorem dX8_aheadOf_32 : decode cX8_aheadOf 32 = .ok (.goto (-28), 3) := by decide +kernel
theorem dX8_aheadOf_35 : decode cX8_aheadOf 35 = .ok (.iload_n 2, 1) := by decide +kernel
theorem dX8_aheadOf_36 : decode cX8_aheadOf 36 = .ok (.ireturn, 1) := by decide +kernel
theorem dX8_arrange_0 : decode cX8_arrange 0 = .ok (.iconst 0, 1) := by decide +kernel
theorem dX8_arrange_1 : decode cX8_arrange 1 = .ok (.istore_n 2, 1) := by decide +kernel
theorem dX8_arrange_2 : decode cX8_arrange 2 = .ok (.iconst 0, 1) := by decide +kernel
theorem dX8_arrange_3 : decode cX8_arrange 3 = .ok (.istore_n 3, 1) := by decide +kernel
theorem dX8_arrange_4 : decode cX8_arrange 4 = .ok (.iload_n 3, 1) := by decide +kernel
theorem dX8_arrange_5 : decode cX8_arrange 5 = .ok (.aload_n 0, 1) := by decide +kernel
theorem dX8_arrange_6 : decode cX8_arrange 6 = .ok (.getfield 143, 3) := by decide +kernel
theorem dX8_arrange_9 : decode cX8_arrange 9 = .ok (.if_icmp .ge 103, 3) := by decide +kernel
theorem dX8_arrange_12 : decode cX8_arrange 12 = .ok (.aload_n 0, 1) := by decide +kernel
theorem dX8_arrange_13 : decode cX8_arrange 13 = .ok (.iload_n 3, 1) := by decide +kernel
theorem dX8_arrange_14 : decode cX8_arrange 14 = .ok (.iload_n 1, 1) := by decide +kernel
theorem dX8_arrange_15 : decode cX8_arrange 15 = .ok (.invokevirtual 248, 3) := by decide +kernel
theorem dX8_arrange_18 : decode cX8_arrange 18 = .ok (.ifCond .ne 6, 3) := by decide +kernel
theorem dX8_arrange_21 : decode cX8_arrange 21 = .ok (.goto 85, 3) := by decide +kernel
theorem dX8_arrange_24 : decode cX8_arrange 24 = .ok (.iload_n 2, 1) := by decide +kernel
theorem dX8_arrange_25 : decode cX8_arrange 25 = .ok (.istore 4, 2) := by decide +kernel
theorem dX8_arrange_27 : decode cX8_arrange 27 = .ok (.iload 4, 2) := by decide +kernel
theorem dX8_arrange_29 : decode cX8_arrange 29 = .ok (.ifCond .le 61, 3) := by decide +kernel
theorem dX8_arrange_32 : decode cX8_arrange 32 = .ok (.aload_n 0, 1) := by decide +kernel
theorem dX8_arrange_33 : decode cX8_arrange 33 = .ok (.aload_n 0, 1) := by decide +kernel
theorem dX8_arrange_34 : decode cX8_arrange 34 = .ok (.getfield 37, 3) := by decide +kernel
theorem dX8_arrange_37 : decode cX8_arrange 37 = .ok (.bipush 32, 2) := by decide +kernel
theorem dX8_arrange_39 : decode cX8_arrange 39 = .ok (.iload_n 1, 1) := by decide +kernel
theorem dX8_arrange_40 : decode cX8_arrange 40 = .ok (.imul, 1) := by decide +kernel
theorem dX8_arrange_41 : decode cX8_arrange 41 = .ok (.iload 4, 2) := by decide +kernel
theorem dX8_arrange_43 : decode cX8_arrange 43 = .ok (.iadd, 1) := by decide +kernel
theorem dX8_arrange_44 : decode cX8_arrange 44 = .ok (.iconst 1, 1) := by decide +kernel
theorem dX8_arrange_45 : decode cX8_arrange 45 = .ok (.isub, 1) := by decide +kernel
theorem dX8_arrange_46 : decode cX8_arrange 46 = .ok (.iaload, 1) := by decide +kernel
theorem dX8_arrange_47 : decode cX8_arrange 47 = .ok (.invokevirtual 311, 3) := by decide +kernel
theorem dX8_arrange_50 : decode cX8_arrange 50 = .ok (.aload_n 0, 1) := by decide +kernel
theorem dX8_arrange_51 : decode cX8_arrange 51 = .ok (.iload_n 3, 1) := by decide +kernel
theorem dX8_arrange_52 : decode cX8_arrange 52 = .ok (.invokevirtual 311, 3) := by decide +kernel
theorem dX8_arrange_55 : decode cX8_arrange 55 = .ok (.if_icmp .le 35, 3) := by decide +kernel
theorem dX8_arrange_58 : decode cX8_arrange 58 = .ok (.aload_n 0, 1) := by decide +kernel
theorem dX8_arrange_59 : decode cX8_arrange 59 = .ok (.getfield 37, 3) := by decide +kernel
theorem dX8_arrange_62 : decode cX8_arrange 62 = .ok (.bipush 32, 2) := by decide +kernel
theorem dX8_arrange_64 : decode cX8_arrange 64 = .ok (.iload_n 1, 1) := by decide +kernel
theorem dX8_arrange_65 : decode cX8_arrange 65 = .ok (.imul, 1) := by decide +kernel
theorem dX8_arrange_66 : decode cX8_arrange 66 = .ok (.iload 4, 2) := by decide +kernel
theorem dX8_arrange_68 : decode cX8_arrange 68 = .ok (.iadd, 1) := by decide +kernel
theorem dX8_arrange_69 : decode cX8_arrange 69 = .ok (.aload_n 0, 1) := by decide +kernel
theorem dX8_arrange_70 : decode cX8_arrange 70 = .ok (.getfield 37, 3) := by decide +kernel
theorem dX8_arrange_73 : decode cX8_arrange 73 = .ok (.bipush 32, 2) := by decide +kernel
theorem dX8_arrange_75 : decode cX8_arrange 75 = .ok (.iload_n 1, 1) := by decide +kernel
theorem dX8_arrange_76 : decode cX8_arrange 76 = .ok (.imul, 1) := by decide +kernel
theorem dX8_arrange_77 : decode cX8_arrange 77 = .ok (.iload 4, 2) := by decide +kernel
theorem dX8_arrange_79 : decode cX8_arrange 79 = .ok (.iadd, 1) := by decide +kernel
theorem dX8_arrange_80 : decode cX8_arrange 80 = .ok (.iconst 1, 1) := by decide +kernel
theorem dX8_arrange_81 : decode cX8_arrange 81 = .ok (.isub, 1) := by decide +kernel
theorem dX8_arrange_82 : decode cX8_arrange 82 = .ok (.iaload, 1) := by decide +kernel
theorem dX8_arrange_83 : decode cX8_arrange 83 = .ok (.iastore, 1) := by decide +kernel
theorem dX8_arrange_84 : decode cX8_arrange 84 = .ok (.iinc 4 (-1), 3) := by decide +kernel
theorem dX8_arrange_87 : decode cX8_arrange 87 = .ok (.goto (-60), 3) := by decide +kernel
theorem dX8_arrange_90 : decode cX8_arrange 90 = .ok (.aload_n 0, 1) := by decide +kernel
theorem dX8_arrange_91 : decode cX8_arrange 91 = .ok (.getfield 37, 3) := by decide +kernel
theorem dX8_arrange_94 : decode cX8_arrange 94 = .ok (.bipush 32, 2) := by decide +kernel
theorem dX8_arrange_96 : decode cX8_arrange 96 = .ok (.iload_n 1, 1) := by decide +kernel
theorem dX8_arrange_97 : decode cX8_arrange 97 = .ok (.imul, 1) := by decide +kernel
theorem dX8_arrange_98 : decode cX8_arrange 98 = .ok (.iload 4, 2) := by decide +kernel
theorem dX8_arrange_100 : decode cX8_arrange 100 = .ok (.iadd, 1) := by decide +kernel
theorem dX8_arrange_101 : decode cX8_arrange 101 = .ok (.iload_n 3, 1) := by decide +kernel
theorem dX8_arrange_102 : decode cX8_arrange 102 = .ok (.iastore, 1) := by decide +kernel
theorem dX8_arrange_103 : decode cX8_arrange 103 = .ok (.iinc 2 1, 3) := by decide +kernel
theorem dX8_arrange_106 : decode cX8_arrange 106 = .ok (.iinc 3 1, 3) := by decide +kernel
theorem dX8_arrange_109 : decode cX8_arrange 109 = .ok (.goto (-105), 3) := by decide +kernel
theorem dX8_arrange_112 : decode cX8_arrange 112 = .ok (.return_, 1) := by decide +kernel
theorem dX8_parts_0 : decode cX8_parts 0 = .ok (.iconst 0, 1) := by decide +kernel
theorem dX8_parts_1 : decode cX8_parts 1 = .ok (.istore_n 1, 1) := by decide +kernel
theorem dX8_parts_2 : decode cX8_parts 2 = .ok (.iload_n 1, 1) := by decide +kernel
theorem dX8_parts_3 : decode cX8_parts 3 = .ok (.aload_n 0, 1) := by decide +kernel
theorem dX8_parts_4 : decode cX8_parts 4 = .ok (.getfield 143, 3) := by decide +kernel
theorem dX8_parts_7 : decode cX8_parts 7 = .ok (.if_icmp .ge 132, 3) := by decide +kernel
theorem dX8_parts_10 : decode cX8_parts 10 = .ok (.iload_n 1, 1) := by decide +kernel
theorem dX8_parts_11 : decode cX8_parts 11 = .ok (.iconst 1, 1) := by decide +kernel
theorem dX8_parts_12 : decode cX8_parts 12 = .ok (.iadd, 1) := by decide +kernel
theorem dX8_parts_13 : decode cX8_parts 13 = .ok (.istore_n 2, 1) := by decide +kernel
theorem dX8_parts_14 : decode cX8_parts 14 = .ok (.iload_n 2, 1) := by decide +kernel
theorem dX8_parts_15 : decode cX8_parts 15 = .ok (.aload_n 0, 1) := by decide +kernel
theorem dX8_parts_16 : decode cX8_parts 16 = .ok (.getfield 143, 3) := by decide +kernel
theorem dX8_parts_19 : decode cX8_parts 19 = .ok (.if_icmp .ge 114, 3) := by decide +kernel
theorem dX8_parts_22 : decode cX8_parts 22 = .ok (.aload_n 0, 1) := by decide +kernel
theorem dX8_parts_23 : decode cX8_parts 23 = .ok (.getfield 28, 3) := by decide +kernel
theorem dX8_parts_26 : decode cX8_parts 26 = .ok (.iload_n 1, 1) := by decide +kernel
theorem dX8_parts_27 : decode cX8_parts 27 = .ok (.iaload, 1) := by decide +kernel
theorem dX8_parts_28 : decode cX8_parts 28 = .ok (.aload_n 0, 1) := by decide +kernel
theorem dX8_parts_29 : decode cX8_parts 29 = .ok (.getfield 28, 3) := by decide +kernel
theorem dX8_parts_32 : decode cX8_parts 32 = .ok (.iload_n 2, 1) := by decide +kernel
theorem dX8_parts_33 : decode cX8_parts 33 = .ok (.iaload, 1) := by decide +kernel
theorem dX8_parts_34 : decode cX8_parts 34 = .ok (.if_icmp .ne 39, 3) := by decide +kernel
theorem dX8_parts_37 : decode cX8_parts 37 = .ok (.aload_n 0, 1) := by decide +kernel
theorem dX8_parts_38 : decode cX8_parts 38 = .ok (.getfield 7, 3) := by decide +kernel
theorem dX8_parts_41 : decode cX8_parts 41 = .ok (.aload_n 0, 1) := by decide +kernel
theorem dX8_parts_42 : decode cX8_parts 42 = .ok (.getfield 28, 3) := by decide +kernel
theorem dX8_parts_45 : decode cX8_parts 45 = .ok (.iload_n 1, 1) := by decide +kernel
theorem dX8_parts_46 : decode cX8_parts 46 = .ok (.iaload, 1) := by decide +kernel
theorem dX8_parts_47 : decode cX8_parts 47 = .ok (.iaload, 1) := by decide +kernel
theorem dX8_parts_48 : decode cX8_parts 48 = .ok (.ifCond .ne 25, 3) := by decide +kernel
theorem dX8_parts_51 : decode cX8_parts 51 = .ok (.aload_n 0, 1) := by decide +kernel
theorem dX8_parts_52 : decode cX8_parts 52 = .ok (.iload_n 1, 1) := by decide +kernel
theorem dX8_parts_53 : decode cX8_parts 53 = .ok (.iload_n 2, 1) := by decide +kernel
theorem dX8_parts_54 : decode cX8_parts 54 = .ok (.invokevirtual 245, 3) := by decide +kernel
theorem dX8_parts_57 : decode cX8_parts 57 = .ok (.ifCond .ne 16, 3) := by decide +kernel
theorem dX8_parts_60 : decode cX8_parts 60 = .ok (.aload_n 0, 1) := by decide +kernel
theorem dX8_parts_61 : decode cX8_parts 61 = .ok (.iload_n 2, 1) := by decide +kernel
theorem dX8_parts_62 : decode cX8_parts 62 = .ok (.iload_n 1, 1) := by decide +kernel
theorem dX8_parts_63 : decode cX8_parts 63 = .ok (.invokevirtual 245, 3) := by decide +kernel
theorem dX8_parts_66 : decode cX8_parts 66 = .ok (.ifCond .ne 7, 3) := by decide +kernel
theorem dX8_parts_69 : decode cX8_parts 69 = .ok (.iconst 1, 1) := by decide +kernel
theorem dX8_parts_70 : decode cX8_parts 70 = .ok (.goto 4, 3) := by decide +kernel
theorem dX8_parts_73 : decode cX8_parts 73 = .ok (.iconst 0, 1) := by decide +kernel
theorem dX8_parts_74 : decode cX8_parts 74 = .ok (.istore_n 3, 1) := by decide +kernel
theorem dX8_parts_75 : decode cX8_parts 75 = .ok (.iload_n 3, 1) := by decide +kernel
theorem dX8_parts_76 : decode cX8_parts 76 = .ok (.ifCond .eq 51, 3) := by decide +kernel
theorem dX8_parts_79 : decode cX8_parts 79 = .ok (.aload_n 0, 1) := by decide +kernel
theorem dX8_parts_80 : decode cX8_parts 80 = .ok (.getfield 77, 3) := by decide +kernel
theorem dX8_parts_83 : decode cX8_parts 83 = .ok (.iload_n 2, 1) := by decide +kernel
theorem dX8_parts_84 : decode cX8_parts 84 = .ok (.dup2, 1) := by decide +kernel
theorem dX8_parts_85 : decode cX8_parts 85 = .ok (.iaload, 1) := by decide +kernel
theorem dX8_parts_86 : decode cX8_parts 86 = .ok (.iconst 1, 1) := by decide +kernel
theorem dX8_parts_87 : decode cX8_parts 87 = .ok (.iload_n 1, 1) := by decide +kernel
theorem dX8_parts_88 : decode cX8_parts 88 = .ok (.ishl, 1) := by decide +kernel
theorem dX8_parts_89 : decode cX8_parts 89 = .ok (.ior, 1) := by decide +kernel
theorem dX8_parts_90 : decode cX8_parts 90 = .ok (.iastore, 1) := by decide +kernel
theorem dX8_parts_91 : decode cX8_parts 91 = .ok (.aload_n 0, 1) := by decide +kernel
theorem dX8_parts_92 : decode cX8_parts 92 = .ok (.invokevirtual 314, 3) := by decide +kernel
theorem dX8_parts_95 : decode cX8_parts 95 = .ok (.aload_n 0, 1) := by decide +kernel
theorem dX8_parts_96 : decode cX8_parts 96 = .ok (.getfield 77, 3) := by decide +kernel
theorem dX8_parts_99 : decode cX8_parts 99 = .ok (.iload_n 2, 1) := by decide +kernel
theorem dX8_parts_100 : decode cX8_parts 100 = .ok (.dup2, 1) := by decide +kernel
theorem dX8_parts_101 : decode cX8_parts 101 = .ok (.iaload, 1) := by decide +kernel
theorem dX8_parts_102 : decode cX8_parts 102 = .ok (.iconst 1, 1) := by decide +kernel
theorem dX8_parts_103 : decode cX8_parts 103 = .ok (.iload_n 1, 1) := by decide +kernel
theorem dX8_parts_104 : decode cX8_parts 104 = .ok (.ishl, 1) := by decide +kernel
theorem dX8_parts_105 : decode cX8_parts 105 = .ok (.iconst (-1), 1) := by decide +kernel
theorem dX8_parts_106 : decode cX8_parts 106 = .ok (.ixor, 1) := by decide +kernel
theorem dX8_parts_107 : decode cX8_parts 107 = .ok (.iand, 1) := by decide +kernel
theorem dX8_parts_108 : decode cX8_parts 108 = .ok (.iastore, 1) := by decide +kernel
theorem dX8_parts_109 : decode cX8_parts 109 = .ok (.aload_n 0, 1) := by decide +kernel
theorem dX8_parts_110 : decode cX8_parts 110 = .ok (.getfield 77, 3) := by decide +kernel
theorem dX8_parts_113 : decode cX8_parts 113 = .ok (.iload_n 1, 1) := by decide +kernel
theorem dX8_parts_114 : decode cX8_parts 114 = .ok (.dup2, 1) := by decide +kernel
theorem dX8_parts_115 : decode cX8_parts 115 = .ok (.iaload, 1) := by decide +kernel
theorem dX8_parts_116 : decode cX8_parts 116 = .ok (.iconst 1, 1) := by decide +kernel
theorem dX8_parts_117 : decode cX8_parts 117 = .ok (.iload_n 2, 1) := by decide +kernel
theorem dX8_parts_118 : decode cX8_parts 118 = .ok (.ishl, 1) := by decide +kernel
theorem dX8_parts_119 : decode cX8_parts 119 = .ok (.ior, 1) := by decide +kernel
theorem dX8_parts_120 : decode cX8_parts 120 = .ok (.iastore, 1) := by decide +kernel
theorem dX8_parts_121 : decode cX8_parts 121 = .ok (.aload_n 0, 1) := by decide +kernel
theorem dX8_parts_122 : decode cX8_parts 122 = .ok (.invokevirtual 314, 3) := by decide +kernel
theorem dX8_parts_125 : decode cX8_parts 125 = .ok (.iconst 1, 1) := by decide +kernel
theorem dX8_parts_126 : decode cX8_parts 126 = .ok (.ireturn, 1) := by decide +kernel
theorem dX8_parts_127 : decode cX8_parts 127 = .ok (.iinc 2 1, 3) := by decide +kernel
theorem dX8_parts_130 : decode cX8_parts 130 = .ok (.goto (-116), 3) := by decide +kernel
theorem dX8_parts_133 : decode cX8_parts 133 = .ok (.iinc 1 1, 3) := by decide +kernel
theorem dX8_parts_136 : decode cX8_parts 136 = .ok (.goto (-134), 3) := by decide +kernel
theorem dX8_parts_139 : decode cX8_parts 139 = .ok (.iconst 0, 1) := by decide +kernel
theorem dX8_parts_140 : decode cX8_parts 140 = .ok (.ireturn, 1) := by decide +kernel
theorem dX8_least_0 : decode cX8_least 0 = .ok (.iload_n 1, 1) := by decide +kernel
theorem dX8_least_1 : decode cX8_least 1 = .ok (.i2l, 1) := by decide +kernel
theorem dX8_least_2 : decode cX8_least 2 = .ok (.lconst 0, 1) := by decide +kernel
theorem dX8_least_3 : decode cX8_least 3 = .ok (.ldc2_w 128, 3) := by decide +kernel
theorem dX8_least_6 : decode cX8_least 6 = .ok (.invokestatic 124, 3) := by decide +kernel
theorem dX8_least_9 : decode cX8_least 9 = .ok (.ifCond .ne 6, 3) := by decide +kernel
theorem dX8_least_12 : decode cX8_least 12 = .ok (.ldc 132, 2) := by decide +kernel
theorem dX8_least_14 : decode cX8_least 14 = .ok (.ireturn, 1) := by decide +kernel
theorem dX8_least_15 : decode cX8_least 15 = .ok (.aload_n 0, 1) := by decide +kernel
theorem dX8_least_16 : decode cX8_least 16 = .ok (.invokevirtual 161, 3) := by decide +kernel
theorem dX8_least_19 : decode cX8_least 19 = .ok (.ifCond .eq 10, 3) := by decide +kernel
theorem dX8_least_22 : decode cX8_least 22 = .ok (.aload_n 0, 1) := by decide +kernel
theorem dX8_least_23 : decode cX8_least 23 = .ok (.getfield 143, 3) := by decide +kernel
theorem dX8_least_26 : decode cX8_least 26 = .ok (.ifCond .ne 6, 3) := by decide +kernel
theorem dX8_least_29 : decode cX8_least 29 = .ok (.ldc 179, 2) := by decide +kernel
theorem dX8_least_31 : decode cX8_least 31 = .ok (.ireturn, 1) := by decide +kernel
theorem dX8_least_32 : decode cX8_least 32 = .ok (.aload_n 0, 1) := by decide +kernel
theorem dX8_least_33 : decode cX8_least 33 = .ok (.aload_n 0, 1) := by decide +kernel
theorem dX8_least_34 : decode cX8_least 34 = .ok (.invokevirtual 192, 3) := by decide +kernel
theorem dX8_least_37 : decode cX8_least 37 = .ok (.ifCond .eq 10, 3) := by decide +kernel
theorem dX8_least_40 : decode cX8_least 40 = .ok (.aload_n 0, 1) := by decide +kernel
theorem dX8_least_41 : decode cX8_least 41 = .ok (.getfield 183, 3) := by decide +kernel
theorem dX8_least_44 : decode cX8_least 44 = .ok (.goto 9, 3) := by decide +kernel
theorem dX8_least_47 : decode cX8_least 47 = .ok (.aload_n 0, 1) := by decide +kernel
theorem dX8_least_48 : decode cX8_least 48 = .ok (.invokevirtual 165, 3) := by decide +kernel
theorem dX8_least_51 : decode cX8_least 51 = .ok (.iconst 1, 1) := by decide +kernel
theorem dX8_least_52 : decode cX8_least 52 = .ok (.iadd, 1) := by decide +kernel
theorem dX8_least_53 : decode cX8_least 53 = .ok (.putfield 305, 3) := by decide +kernel
theorem dX8_least_56 : decode cX8_least 56 = .ok (.aload_n 0, 1) := by decide +kernel
theorem dX8_least_57 : decode cX8_least 57 = .ok (.iconst 0, 1) := by decide +kernel
theorem dX8_least_58 : decode cX8_least 58 = .ok (.putfield 317, 3) := by decide +kernel
theorem dX8_least_61 : decode cX8_least 61 = .ok (.aload_n 0, 1) := by decide +kernel
theorem dX8_least_62 : decode cX8_least 62 = .ok (.iconst 0, 1) := by decide +kernel
theorem dX8_least_63 : decode cX8_least 63 = .ok (.putfield 308, 3) := by decide +kernel
theorem dX8_least_66 : decode cX8_least 66 = .ok (.aload_n 0, 1) := by decide +kernel
theorem dX8_least_67 : decode cX8_least 67 = .ok (.iconst 0, 1) := by decide +kernel
theorem dX8_least_68 : decode cX8_least 68 = .ok (.putfield 299, 3) := by decide +kernel
theorem dX8_least_71 : decode cX8_least 71 = .ok (.iconst 0, 1) := by decide +kernel
theorem dX8_least_72 : decode cX8_least 72 = .ok (.istore_n 2, 1) := by decide +kernel
theorem dX8_least_73 : decode cX8_least 73 = .ok (.iload_n 2, 1) := by decide +kernel
theorem dX8_least_74 : decode cX8_least 74 = .ok (.bipush 32, 2) := by decide +kernel
theorem dX8_least_76 : decode cX8_least 76 = .ok (.if_icmp .ge 16, 3) := by decide +kernel
theorem dX8_least_79 : decode cX8_least 79 = .ok (.aload_n 0, 1) := by decide +kernel
theorem dX8_least_80 : decode cX8_least 80 = .ok (.getfield 77, 3) := by decide +kernel
theorem dX8_least_83 : decode cX8_least 83 = .ok (.iload_n 2, 1) := by decide +kernel
theorem dX8_least_84 : decode cX8_least 84 = .ok (.iconst 0, 1) := by decide +kernel
theorem dX8_least_85 : decode cX8_least 85 = .ok (.iastore, 1) := by decide +kernel
theorem dX8_least_86 : decode cX8_least 86 = .ok (.iinc 2 1, 3) := by decide +kernel
theorem dX8_least_89 : decode cX8_least 89 = .ok (.goto (-16), 3) := by decide +kernel
theorem dX8_least_92 : decode cX8_least 92 = .ok (.aload_n 0, 1) := by decide +kernel
theorem dX8_least_93 : decode cX8_least 93 = .ok (.invokevirtual 314, 3) := by decide +kernel
theorem dX8_least_96 : decode cX8_least 96 = .ok (.aload_n 0, 1) := by decide +kernel
theorem dX8_least_97 : decode cX8_least 97 = .ok (.getfield 299, 3) := by decide +kernel
theorem dX8_least_100 : decode cX8_least 100 = .ok (.ifCond .le 54, 3) := by decide +kernel
theorem dX8_least_103 : decode cX8_least 103 = .ok (.aload_n 0, 1) := by decide +kernel
theorem dX8_least_104 : decode cX8_least 104 = .ok (.getfield 317, 3) := by decide +kernel
theorem dX8_least_107 : decode cX8_least 107 = .ok (.iload_n 1, 1) := by decide +kernel
theorem dX8_least_108 : decode cX8_least 108 = .ok (.if_icmp .ne 5, 3) := by decide +kernel
theorem dX8_least_111 : decode cX8_least 111 = .ok (.iconst 0, 1) := by decide +kernel
theorem dX8_least_112 : decode cX8_least 112 = .ok (.ireturn, 1) := by decide +kernel
theorem dX8_least_113 : decode cX8_least 113 = .ok (.aload_n 0, 1) := by decide +kernel
theorem dX8_least_114 : decode cX8_least 114 = .ok (.dup, 1) := by decide +kernel
theorem dX8_least_115 : decode cX8_least 115 = .ok (.getfield 317, 3) := by decide +kernel
theorem dX8_least_118 : decode cX8_least 118 = .ok (.iconst 1, 1) := by decide +kernel
theorem dX8_least_119 : decode cX8_least 119 = .ok (.iadd, 1) := by decide +kernel
theorem dX8_least_120 : decode cX8_least 120 = .ok (.putfield 317, 3) := by decide +kernel
theorem dX8_least_123 : decode cX8_least 123 = .ok (.aload_n 0, 1) := by decide +kernel
theorem dX8_least_124 : decode cX8_least 124 = .ok (.invokevirtual 320, 3) := by decide +kernel
theorem dX8_least_127 : decode cX8_least 127 = .ok (.aload_n 0, 1) := by decide +kernel
theorem dX8_least_128 : decode cX8_least 128 = .ok (.aload_n 0, 1) := by decide +kernel
theorem dX8_least_129 : decode cX8_least 129 = .ok (.getfield 305, 3) := by decide +kernel
theorem dX8_least_132 : decode cX8_least 132 = .ok (.iconst 1, 1) := by decide +kernel
theorem dX8_least_133 : decode cX8_least 133 = .ok (.isub, 1) := by decide +kernel
theorem dX8_least_134 : decode cX8_least 134 = .ok (.invokevirtual 276, 3) := by decide +kernel
theorem dX8_least_137 : decode cX8_least 137 = .ok (.ifCond .eq (-41), 3) := by decide +kernel
theorem dX8_least_140 : decode cX8_least 140 = .ok (.aload_n 0, 1) := by decide +kernel
theorem dX8_least_141 : decode cX8_least 141 = .ok (.invokevirtual 323, 3) := by decide +kernel
theorem dX8_least_144 : decode cX8_least 144 = .ok (.ifCond .ne (-48), 3) := by decide +kernel
theorem dX8_least_147 : decode cX8_least 147 = .ok (.aload_n 0, 1) := by decide +kernel
theorem dX8_least_148 : decode cX8_least 148 = .ok (.invokevirtual 326, 3) := by decide +kernel
theorem dX8_least_151 : decode cX8_least 151 = .ok (.goto (-55), 3) := by decide +kernel
theorem dX8_least_154 : decode cX8_least 154 = .ok (.iconst 1, 1) := by decide +kernel
theorem dX8_least_155 : decode cX8_least 155 = .ok (.ireturn, 1) := by decide +kernel
theorem dX8_found_0 : decode cX8_found 0 = .ok (.iload_n 1, 1) := by decide +kernel
theorem dX8_found_1 : decode cX8_found 1 = .ok (.ifCond .ne 10, 3) := by decide +kernel
theorem dX8_found_4 : decode cX8_found 4 = .ok (.aload_n 0, 1) := by decide +kernel
theorem dX8_found_5 : decode cX8_found 5 = .ok (.getfield 305, 3) := by decide +kernel
theorem dX8_found_8 : decode cX8_found 8 = .ok (.goto 29, 3) := by decide +kernel
theorem dX8_found_11 : decode cX8_found 11 = .ok (.iload_n 1, 1) := by decide +kernel
theorem dX8_found_12 : decode cX8_found 12 = .ok (.iconst 1, 1) := by decide +kernel
theorem dX8_found_13 : decode cX8_found 13 = .ok (.if_icmp .ne 10, 3) := by decide +kernel
theorem dX8_found_16 : decode cX8_found 16 = .ok (.aload_n 0, 1) := by decide +kernel
theorem dX8_found_17 : decode cX8_found 17 = .ok (.getfield 317, 3) := by decide +kernel
theorem dX8_found_20 : decode cX8_found 20 = .ok (.goto 17, 3) := by decide +kernel
theorem dX8_found_23 : decode cX8_found 23 = .ok (.iload_n 1, 1) := by decide +kernel
theorem dX8_found_24 : decode cX8_found 24 = .ok (.iconst 2, 1) := by decide +kernel
theorem dX8_found_25 : decode cX8_found 25 = .ok (.if_icmp .ne 10, 3) := by decide +kernel
theorem dX8_found_28 : decode cX8_found 28 = .ok (.aload_n 0, 1) := by decide +kernel
theorem dX8_found_29 : decode cX8_found 29 = .ok (.getfield 308, 3) := by decide +kernel
theorem dX8_found_32 : decode cX8_found 32 = .ok (.goto 5, 3) := by decide +kernel
theorem dX8_found_35 : decode cX8_found 35 = .ok (.ldc 132, 2) := by decide +kernel
theorem dX8_found_37 : decode cX8_found 37 = .ok (.ireturn, 1) := by decide +kernel
theorem dX8_fail_0 : decode cX8_fail 0 = .ok (.iload_n 1, 1) := by decide +kernel
theorem dX8_fail_1 : decode cX8_fail 1 = .ok (.i2l, 1) := by decide +kernel
theorem dX8_fail_2 : decode cX8_fail 2 = .ok (.lconst 0, 1) := by decide +kernel
theorem dX8_fail_3 : decode cX8_fail 3 = .ok (.aload_n 0, 1) := by decide +kernel
theorem dX8_fail_4 : decode cX8_fail 4 = .ok (.getfield 133, 3) := by decide +kernel
theorem dX8_fail_7 : decode cX8_fail 7 = .ok (.iconst 1, 1) := by decide +kernel
theorem dX8_fail_8 : decode cX8_fail 8 = .ok (.isub, 1) := by decide +kernel
theorem dX8_fail_9 : decode cX8_fail 9 = .ok (.i2l, 1) := by decide +kernel
theorem dX8_fail_10 : decode cX8_fail 10 = .ok (.invokestatic 124, 3) := by decide +kernel
theorem dX8_fail_13 : decode cX8_fail 13 = .ok (.ifCond .ne 6, 3) := by decide +kernel
theorem dX8_fail_16 : decode cX8_fail 16 = .ok (.ldc 146, 2) := by decide +kernel
theorem dX8_fail_18 : decode cX8_fail 18 = .ok (.ireturn, 1) := by decide +kernel
theorem dX8_fail_19 : decode cX8_fail 19 = .ok (.iload_n 2, 1) := by decide +kernel
theorem dX8_fail_20 : decode cX8_fail 20 = .ok (.i2l, 1) := by decide +kernel
theorem dX8_fail_21 : decode cX8_fail 21 = .ok (.lconst 0, 1) := by decide +kernel
theorem dX8_fail_22 : decode cX8_fail 22 = .ok (.ldc2_w 274, 3) := by decide +kernel
theorem dX8_fail_25 : decode cX8_fail 25 = .ok (.invokestatic 124, 3) := by decide +kernel
theorem dX8_fail_28 : decode cX8_fail 28 = .ok (.ifCond .eq 15, 3) := by decide +kernel
theorem dX8_fail_31 : decode cX8_fail 31 = .ok (.iload_n 3, 1) := by decide +kernel
theorem dX8_fail_32 : decode cX8_fail 32 = .ok (.i2l, 1) := by decide +kernel
theorem dX8_fail_33 : decode cX8_fail 33 = .ok (.lconst 0, 1) := by decide +kernel
theorem dX8_fail_34 : decode cX8_fail 34 = .ok (.ldc2_w 329, 3) := by decide +kernel
theorem dX8_fail_37 : decode cX8_fail 37 = .ok (.invokestatic 124, 3) := by decide +kernel
theorem dX8_fail_40 : decode cX8_fail 40 = .ok (.ifCond .ne 6, 3) := by decide +kernel
theorem dX8_fail_43 : decode cX8_fail 43 = .ok (.ldc 132, 2) := by decide +kernel
theorem dX8_fail_45 : decode cX8_fail 45 = .ok (.ireturn, 1) := by decide +kernel
theorem dX8_fail_46 : decode cX8_fail 46 = .ok (.aload_n 0, 1) := by decide +kernel
theorem dX8_fail_47 : decode cX8_fail 47 = .ok (.invokevirtual 192, 3) := by decide +kernel
theorem dX8_fail_50 : decode cX8_fail 50 = .ok (.ifCond .ne 6, 3) := by decide +kernel
theorem dX8_fail_53 : decode cX8_fail 53 = .ok (.ldc 179, 2) := by decide +kernel
theorem dX8_fail_55 : decode cX8_fail 55 = .ok (.ireturn, 1) := by decide +kernel
theorem dX8_fail_56 : decode cX8_fail 56 = .ok (.iconst 0, 1) := by decide +kernel
theorem dX8_fail_57 : decode cX8_fail 57 = .ok (.istore 4, 2) := by decide +kernel
theorem dX8_fail_59 : decode cX8_fail 59 = .ok (.iload 4, 2) := by decide +kernel
theorem dX8_fail_61 : decode cX8_fail 61 = .ok (.aload_n 0, 1) := by decide +kernel
theorem dX8_fail_62 : decode cX8_fail 62 = .ok (.getfield 143, 3) := by decide +kernel
theorem dX8_fail_65 : decode cX8_fail 65 = .ok (.if_icmp .ge 79, 3) := by decide +kernel
theorem dX8_fail_68 : decode cX8_fail 68 = .ok (.aload_n 0, 1) := by decide +kernel
theorem dX8_fail_69 : decode cX8_fail 69 = .ok (.getfield 55, 3) := by decide +kernel
theorem dX8_fail_72 : decode cX8_fail 72 = .ok (.iload 4, 2) := by decide +kernel
theorem dX8_fail_74 : decode cX8_fail 74 = .ok (.iaload, 1) := by decide +kernel
theorem dX8_fail_75 : decode cX8_fail 75 = .ok (.aload_n 0, 1) := by decide +kernel
theorem dX8_fail_76 : decode cX8_fail 76 = .ok (.getfield 31, 3) := by decide +kernel
theorem dX8_fail_79 : decode cX8_fail 79 = .ok (.iload 4, 2) := by decide +kernel
theorem dX8_fail_81 : decode cX8_fail 81 = .ok (.iaload, 1) := by decide +kernel
theorem dX8_fail_82 : decode cX8_fail 82 = .ok (.iadd, 1) := by decide +kernel
theorem dX8_fail_83 : decode cX8_fail 83 = .ok (.istore 5, 2) := by decide +kernel
theorem dX8_fail_85 : decode cX8_fail 85 = .ok (.aload_n 0, 1) := by decide +kernel
theorem dX8_fail_86 : decode cX8_fail 86 = .ok (.getfield 119, 3) := by decide +kernel
theorem dX8_fail_89 : decode cX8_fail 89 = .ok (.iload 4, 2) := by decide +kernel
theorem dX8_fail_91 : decode cX8_fail 91 = .ok (.iload 5, 2) := by decide +kernel
theorem dX8_fail_93 : decode cX8_fail 93 = .ok (.iload_n 2, 1) := by decide +kernel
theorem dX8_fail_94 : decode cX8_fail 94 = .ok (.if_icmp .le 24, 3) := by decide +kernel
theorem dX8_fail_97 : decode cX8_fail 97 = .ok (.aload_n 0, 1) := by decide +kernel
theorem dX8_fail_98 : decode cX8_fail 98 = .ok (.getfield 55, 3) := by decide +kernel
theorem dX8_fail_101 : decode cX8_fail 101 = .ok (.iload 4, 2) := by decide +kernel
theorem dX8_fail_103 : decode cX8_fail 103 = .ok (.iaload, 1) := by decide +kernel
theorem dX8_fail_104 : decode cX8_fail 104 = .ok (.iload_n 2, 1) := by decide +kernel
theorem dX8_fail_105 : decode cX8_fail 105 = .ok (.if_icmp .ge 17, 3) := by decide +kernel
theorem dX8_fail_108 : decode cX8_fail 108 = .ok (.aload_n 0, 1) := by decide +kernel
theorem dX8_fail_109 : decode cX8_fail 109 = .ok (.iload 4, 2) := by decide +kernel
theorem dX8_fail_111 : decode cX8_fail 111 = .ok (.iload_n 1, 1) := by decide +kernel
theorem dX8_fail_112 : decode cX8_fail 112 = .ok (.invokevirtual 248, 3) := by decide +kernel
theorem dX8_fail_115 : decode cX8_fail 115 = .ok (.ifCond .ne 7, 3) := by decide +kernel
theorem dX8_fail_118 : decode cX8_fail 118 = .ok (.iconst 1, 1) := by decide +kernel
theorem dX8_fail_119 : decode cX8_fail 119 = .ok (.goto 4, 3) := by decide +kernel
theorem dX8_fail_122 : decode cX8_fail 122 = .ok (.iconst 0, 1) := by decide +kernel
theorem dX8_fail_123 : decode cX8_fail 123 = .ok (.bastore, 1) := by decide +kernel
theorem dX8_fail_124 : decode cX8_fail 124 = .ok (.aload_n 0, 1) := by decide +kernel
theorem dX8_fail_125 : decode cX8_fail 125 = .ok (.getfield 58, 3) := by decide +kernel
theorem dX8_fail_128 : decode cX8_fail 128 = .ok (.iload 4, 2) := by decide +kernel
theorem dX8_fail_130 : decode cX8_fail 130 = .ok (.aload_n 0, 1) := by decide +kernel
theorem dX8_fail_131 : decode cX8_fail 131 = .ok (.getfield 119, 3) := by decide +kernel
theorem dX8_fail_134 : decode cX8_fail 134 = .ok (.iload 4, 2) := by decide +kernel
theorem dX8_fail_136 : decode cX8_fail 136 = .ok (.baload, 1) := by decide +kernel
theorem dX8_fail_137 : decode cX8_fail 137 = .ok (.bastore, 1) := by decide +kernel
theorem dX8_fail_138 : decode cX8_fail 138 = .ok (.iinc 4 1, 3) := by decide +kernel
theorem dX8_fail_141 : decode cX8_fail 141 = .ok (.goto (-82), 3) := by decide +kernel
theorem dX8_fail_144 : decode cX8_fail 144 = .ok (.iconst 1, 1) := by decide +kernel
theorem dX8_fail_145 : decode cX8_fail 145 = .ok (.istore 4, 2) := by decide +kernel
theorem dX8_fail_147 : decode cX8_fail 147 = .ok (.iload 4, 2) := by decide +kernel
theorem dX8_fail_149 : decode cX8_fail 149 = .ok (.ifCond .eq 168, 3) := by decide +kernel
theorem dX8_fail_152 : decode cX8_fail 152 = .ok (.iconst 0, 1) := by decide +kernel
theorem dX8_fail_153 : decode cX8_fail 153 = .ok (.istore 4, 2) := by decide +kernel
theorem dX8_fail_155 : decode cX8_fail 155 = .ok (.iconst 0, 1) := by decide +kernel
theorem dX8_fail_156 : decode cX8_fail 156 = .ok (.istore 5, 2) := by decide +kernel
theorem dX8_fail_158 : decode cX8_fail 158 = .ok (.iload 5, 2) := by decide +kernel
theorem dX8_fail_160 : decode cX8_fail 160 = .ok (.aload_n 0, 1) := by decide +kernel
theorem dX8_fail_161 : decode cX8_fail 161 = .ok (.getfield 143, 3) := by decide +kernel
theorem dX8_fail_164 : decode cX8_fail 164 = .ok (.if_icmp .ge 150, 3) := by decide +kernel
theorem dX8_fail_167 : decode cX8_fail 167 = .ok (.aload_n 0, 1) := by decide +kernel
theorem dX8_fail_168 : decode cX8_fail 168 = .ok (.getfield 58, 3) := by decide +kernel
theorem dX8_fail_171 : decode cX8_fail 171 = .ok (.iload 5, 2) := by decide +kernel
theorem dX8_fail_173 : decode cX8_fail 173 = .ok (.baload, 1) := by decide +kernel
theorem dX8_fail_174 : decode cX8_fail 174 = .ok (.ifCond .ne 134, 3) := by decide +kernel
theorem dX8_fail_177 : decode cX8_fail 177 = .ok (.aload_n 0, 1) := by decide +kernel
theorem dX8_fail_178 : decode cX8_fail 178 = .ok (.iload 5, 2) := by decide +kernel
theorem dX8_fail_180 : decode cX8_fail 180 = .ok (.invokevirtual 186, 3) := by decide +kernel
theorem dX8_fail_183 : decode cX8_fail 183 = .ok (.ifCond .eq 125, 3) := by decide +kernel
theorem dX8_fail_186 : decode cX8_fail 186 = .ok (.aload_n 0, 1) := by decide +kernel
theorem dX8_fail_187 : decode cX8_fail 187 = .ok (.iload 5, 2) := by decide +kernel
theorem dX8_fail_189 : decode cX8_fail 189 = .ok (.invokevirtual 180, 3) := by decide +kernel
theorem dX8_fail_192 : decode cX8_fail 192 = .ok (.istore 6, 2) := by decide +kernel
theorem dX8_fail_194 : decode cX8_fail 194 = .ok (.iload 6, 2) := by decide +kernel
theorem dX8_fail_196 : decode cX8_fail 196 = .ok (.ifCond .ge 7, 3) := by decide +kernel
theorem dX8_fail_199 : decode cX8_fail 199 = .ok (.iconst 0, 1) := by decide +kernel
theorem dX8_fail_200 : decode cX8_fail 200 = .ok (.goto 18, 3) := by decide +kernel
theorem dX8_fail_203 : decode cX8_fail 203 = .ok (.aload_n 0, 1) := by decide +kernel
theorem dX8_fail_204 : decode cX8_fail 204 = .ok (.getfield 55, 3) := by decide +kernel
theorem dX8_fail_207 : decode cX8_fail 207 = .ok (.iload 6, 2) := by decide +kernel
theorem dX8_fail_209 : decode cX8_fail 209 = .ok (.iaload, 1) := by decide +kernel
theorem dX8_fail_210 : decode cX8_fail 210 = .ok (.aload_n 0, 1) := by decide +kernel
theorem dX8_fail_211 : decode cX8_fail 211 = .ok (.getfield 31, 3) := by decide +kernel
theorem dX8_fail_214 : decode cX8_fail 214 = .ok (.iload 6, 2) := by decide +kernel
theorem dX8_fail_216 : decode cX8_fail 216 = .ok (.iaload, 1) := by decide +kernel
theorem dX8_fail_217 : decode cX8_fail 217 = .ok (.iadd, 1) := by decide +kernel
theorem dX8_fail_218 : decode cX8_fail 218 = .ok (.istore 7, 2) := by decide +kernel
theorem dX8_fail_220 : decode cX8_fail 220 = .ok (.aload_n 0, 1) := by decide +kernel
theorem dX8_fail_221 : decode cX8_fail 221 = .ok (.aload_n 0, 1) := by decide +kernel
theorem dX8_fail_222 : decode cX8_fail 222 = .ok (.getfield 28, 3) := by decide +kernel
theorem dX8_fail_225 : decode cX8_fail 225 = .ok (.iload 5, 2) := by decide +kernel
theorem dX8_fail_227 : decode cX8_fail 227 = .ok (.iaload, 1) := by decide +kernel
theorem dX8_fail_228 : decode cX8_fail 228 = .ok (.aload_n 0, 1) := by decide +kernel
theorem dX8_fail_229 : decode cX8_fail 229 = .ok (.iload 5, 2) := by decide +kernel
theorem dX8_fail_231 : decode cX8_fail 231 = .ok (.invokevirtual 157, 3) := by decide +kernel
theorem dX8_fail_234 : decode cX8_fail 234 = .ok (.iload 5, 2) := by decide +kernel
theorem dX8_fail_236 : decode cX8_fail 236 = .ok (.invokevirtual 189, 3) := by decide +kernel
theorem dX8_fail_239 : decode cX8_fail 239 = .ok (.istore 8, 2) := by decide +kernel
theorem dX8_fail_241 : decode cX8_fail 241 = .ok (.iload 7, 2) := by decide +kernel
theorem dX8_fail_243 : decode cX8_fail 243 = .ok (.iload 8, 2) := by decide +kernel
theorem dX8_fail_245 : decode cX8_fail 245 = .ok (.if_icmp .le 8, 3) := by decide +kernel
theorem dX8_fail_248 : decode cX8_fail 248 = .ok (.iload 7, 2) := by decide +kernel
theorem dX8_fail_250 : decode cX8_fail 250 = .ok (.goto 5, 3) := by decide +kernel
theorem dX8_fail_253 : decode cX8_fail 253 = .ok (.iload 8, 2) := by decide +kernel
theorem dX8_fail_255 : decode cX8_fail 255 = .ok (.istore 7, 2) := by decide +kernel
theorem dX8_fail_257 : decode cX8_fail 257 = .ok (.aload_n 0, 1) := by decide +kernel
theorem dX8_fail_258 : decode cX8_fail 258 = .ok (.iload 5, 2) := by decide +kernel
theorem dX8_fail_260 : decode cX8_fail 260 = .ok (.iload_n 1, 1) := by decide +kernel
theorem dX8_fail_261 : decode cX8_fail 261 = .ok (.invokevirtual 248, 3) := by decide +kernel
theorem dX8_fail_264 : decode cX8_fail 264 = .ok (.ifCond .eq 9, 3) := by decide +kernel
theorem dX8_fail_267 : decode cX8_fail 267 = .ok (.iload_n 2, 1) := by decide +kernel
theorem dX8_fail_268 : decode cX8_fail 268 = .ok (.iload_n 3, 1) := by decide +kernel
theorem dX8_fail_269 : decode cX8_fail 269 = .ok (.iadd, 1) := by decide +kernel
theorem dX8_fail_270 : decode cX8_fail 270 = .ok (.goto 4, 3) := by decide +kernel
theorem dX8_fail_273 : decode cX8_fail 273 = .ok (.iload_n 2, 1) := by decide +kernel
theorem dX8_fail_274 : decode cX8_fail 274 = .ok (.istore 9, 2) := by decide +kernel
theorem dX8_fail_276 : decode cX8_fail 276 = .ok (.aload_n 0, 1) := by decide +kernel
theorem dX8_fail_277 : decode cX8_fail 277 = .ok (.getfield 55, 3) := by decide +kernel
theorem dX8_fail_280 : decode cX8_fail 280 = .ok (.iload 5, 2) := by decide +kernel
theorem dX8_fail_282 : decode cX8_fail 282 = .ok (.iload 7, 2) := by decide +kernel
theorem dX8_fail_284 : decode cX8_fail 284 = .ok (.iload 9, 2) := by decide +kernel
theorem dX8_fail_286 : decode cX8_fail 286 = .ok (.if_icmp .le 8, 3) := by decide +kernel
theorem dX8_fail_289 : decode cX8_fail 289 = .ok (.iload 7, 2) := by decide +kernel
theorem dX8_fail_291 : decode cX8_fail 291 = .ok (.goto 5, 3) := by decide +kernel
theorem dX8_fail_294 : decode cX8_fail 294 = .ok (.iload 9, 2) := by decide +kernel
theorem dX8_fail_296 : decode cX8_fail 296 = .ok (.iastore, 1) := by decide +kernel
theorem dX8_fail_297 : decode cX8_fail 297 = .ok (.aload_n 0, 1) := by decide +kernel
theorem dX8_fail_298 : decode cX8_fail 298 = .ok (.getfield 58, 3) := by decide +kernel
theorem dX8_fail_301 : decode cX8_fail 301 = .ok (.iload 5, 2) := by decide +kernel
theorem dX8_fail_303 : decode cX8_fail 303 = .ok (.iconst 1, 1) := by decide +kernel
theorem dX8_fail_304 : decode cX8_fail 304 = .ok (.bastore, 1) := by decide +kernel
theorem dX8_fail_305 : decode cX8_fail 305 = .ok (.iconst 1, 1) := by decide +kernel
theorem dX8_fail_306 : decode cX8_fail 306 = .ok (.istore 4, 2) := by decide +kernel
theorem dX8_fail_308 : decode cX8_fail 308 = .ok (.iinc 5 1, 3) := by decide +kernel
theorem dX8_fail_311 : decode cX8_fail 311 = .ok (.goto (-153), 3) := by decide +kernel
theorem dX8_fail_314 : decode cX8_fail 314 = .ok (.goto (-167), 3) := by decide +kernel
theorem dX8_fail_317 : decode cX8_fail 317 = .ok (.iconst 0, 1) := by decide +kernel
theorem dX8_fail_318 : decode cX8_fail 318 = .ok (.istore 5, 2) := by decide +kernel
theorem dX8_fail_320 : decode cX8_fail 320 = .ok (.iconst 0, 1) := by decide +kernel
theorem dX8_fail_321 : decode cX8_fail 321 = .ok (.istore 6, 2) := by decide +kernel
theorem dX8_fail_323 : decode cX8_fail 323 = .ok (.iload 6, 2) := by decide +kernel
theorem dX8_fail_325 : decode cX8_fail 325 = .ok (.aload_n 0, 1) := by decide +kernel
theorem dX8_fail_326 : decode cX8_fail 326 = .ok (.getfield 143, 3) := by decide +kernel
theorem dX8_fail_329 : decode cX8_fail 329 = .ok (.if_icmp .ge 65, 3) := by decide +kernel
theorem dX8_fail_332 : decode cX8_fail 332 = .ok (.aload_n 0, 1) := by decide +kernel
theorem dX8_fail_333 : decode cX8_fail 333 = .ok (.getfield 116, 3) := by decide +kernel
theorem dX8_fail_336 : decode cX8_fail 336 = .ok (.iload 6, 2) := by decide +kernel
theorem dX8_fail_338 : decode cX8_fail 338 = .ok (.aload_n 0, 1) := by decide +kernel
theorem dX8_fail_339 : decode cX8_fail 339 = .ok (.getfield 55, 3) := by decide +kernel
theorem dX8_fail_342 : decode cX8_fail 342 = .ok (.iload 6, 2) := by decide +kernel
theorem dX8_fail_344 : decode cX8_fail 344 = .ok (.iaload, 1) := by decide +kernel
theorem dX8_fail_345 : decode cX8_fail 345 = .ok (.iastore, 1) := by decide +kernel
theorem dX8_fail_346 : decode cX8_fail 346 = .ok (.aload_n 0, 1) := by decide +kernel
theorem dX8_fail_347 : decode cX8_fail 347 = .ok (.getfield 55, 3) := by decide +kernel
theorem dX8_fail_350 : decode cX8_fail 350 = .ok (.iload 6, 2) := by decide +kernel
theorem dX8_fail_352 : decode cX8_fail 352 = .ok (.iaload, 1) := by decide +kernel
theorem dX8_fail_353 : decode cX8_fail 353 = .ok (.aload_n 0, 1) := by decide +kernel
theorem dX8_fail_354 : decode cX8_fail 354 = .ok (.getfield 31, 3) := by decide +kernel
theorem dX8_fail_357 : decode cX8_fail 357 = .ok (.iload 6, 2) := by decide +kernel
theorem dX8_fail_359 : decode cX8_fail 359 = .ok (.iaload, 1) := by decide +kernel
theorem dX8_fail_360 : decode cX8_fail 360 = .ok (.iadd, 1) := by decide +kernel
theorem dX8_fail_361 : decode cX8_fail 361 = .ok (.iload 5, 2) := by decide +kernel
theorem dX8_fail_363 : decode cX8_fail 363 = .ok (.if_icmp .le 21, 3) := by decide +kernel
theorem dX8_fail_366 : decode cX8_fail 366 = .ok (.aload_n 0, 1) := by decide +kernel
theorem dX8_fail_367 : decode cX8_fail 367 = .ok (.getfield 55, 3) := by decide +kernel
theorem dX8_fail_370 : decode cX8_fail 370 = .ok (.iload 6, 2) := by decide +kernel
theorem dX8_fail_372 : decode cX8_fail 372 = .ok (.iaload, 1) := by decide +kernel
theorem dX8_fail_373 : decode cX8_fail 373 = .ok (.aload_n 0, 1) := by decide +kernel
theorem dX8_fail_374 : decode cX8_fail 374 = .ok (.getfield 31, 3) := by decide +kernel
theorem dX8_fail_377 : decode cX8_fail 377 = .ok (.iload 6, 2) := by decide +kernel
theorem dX8_fail_379 : decode cX8_fail 379 = .ok (.iaload, 1) := by decide +kernel
theorem dX8_fail_380 : decode cX8_fail 380 = .ok (.iadd, 1) := by decide +kernel
theorem dX8_fail_381 : decode cX8_fail 381 = .ok (.goto 5, 3) := by decide +kernel
theorem dX8_fail_384 : decode cX8_fail 384 = .ok (.iload 5, 2) := by decide +kernel
theorem dX8_fail_386 : decode cX8_fail 386 = .ok (.istore 5, 2) := by decide +kernel
theorem dX8_fail_388 : decode cX8_fail 388 = .ok (.iinc 6 1, 3) := by decide +kernel
theorem dX8_fail_391 : decode cX8_fail 391 = .ok (.goto (-68), 3) := by decide +kernel
theorem dX8_fail_394 : decode cX8_fail 394 = .ok (.aload_n 0, 1) := by decide +kernel
theorem dX8_fail_395 : decode cX8_fail 395 = .ok (.iconst 1, 1) := by decide +kernel
theorem dX8_fail_396 : decode cX8_fail 396 = .ok (.putfield 331, 3) := by decide +kernel
theorem dX8_fail_399 : decode cX8_fail 399 = .ok (.aload_n 0, 1) := by decide +kernel
theorem dX8_fail_400 : decode cX8_fail 400 = .ok (.aload_n 0, 1) := by decide +kernel
theorem dX8_fail_401 : decode cX8_fail 401 = .ok (.getfield 143, 3) := by decide +kernel
theorem dX8_fail_404 : decode cX8_fail 404 = .ok (.putfield 334, 3) := by decide +kernel
theorem dX8_fail_407 : decode cX8_fail 407 = .ok (.iload 5, 2) := by decide +kernel
theorem dX8_fail_409 : decode cX8_fail 409 = .ok (.ireturn, 1) := by decide +kernel
theorem dX8_mended_0 : decode cX8_mended 0 = .ok (.aload_n 0, 1) := by decide +kernel
theorem dX8_mended_1 : decode cX8_mended 1 = .ok (.iload_n 1, 1) := by decide +kernel
theorem dX8_mended_2 : decode cX8_mended 2 = .ok (.invokevirtual 153, 3) := by decide +kernel
theorem dX8_mended_5 : decode cX8_mended 5 = .ok (.ifCond .ne 6, 3) := by decide +kernel
theorem dX8_mended_8 : decode cX8_mended 8 = .ok (.ldc 146, 2) := by decide +kernel
theorem dX8_mended_10 : decode cX8_mended 10 = .ok (.ireturn, 1) := by decide +kernel
theorem dX8_mended_11 : decode cX8_mended 11 = .ok (.iload_n 2, 1) := by decide +kernel
theorem dX8_mended_12 : decode cX8_mended 12 = .ok (.i2l, 1) := by decide +kernel
theorem dX8_mended_13 : decode cX8_mended 13 = .ok (.lconst 0, 1) := by decide +kernel
theorem dX8_mended_14 : decode cX8_mended 14 = .ok (.lconst 1, 1) := by decide +kernel
theorem dX8_mended_15 : decode cX8_mended 15 = .ok (.invokestatic 124, 3) := by decide +kernel
theorem dX8_mended_18 : decode cX8_mended 18 = .ok (.ifCond .ne 6, 3) := by decide +kernel
theorem dX8_mended_21 : decode cX8_mended 21 = .ok (.ldc 132, 2) := by decide +kernel
theorem dX8_mended_23 : decode cX8_mended 23 = .ok (.ireturn, 1) := by decide +kernel
theorem dX8_mended_24 : decode cX8_mended 24 = .ok (.aload_n 0, 1) := by decide +kernel
theorem dX8_mended_25 : decode cX8_mended 25 = .ok (.getfield 331, 3) := by decide +kernel
theorem dX8_mended_28 : decode cX8_mended 28 = .ok (.ifCond .eq 11, 3) := by decide +kernel
theorem dX8_mended_31 : decode cX8_mended 31 = .ok (.iload_n 1, 1) := by decide +kernel
theorem dX8_mended_32 : decode cX8_mended 32 = .ok (.aload_n 0, 1) := by decide +kernel
theorem dX8_mended_33 : decode cX8_mended 33 = .ok (.getfield 334, 3) := by decide +kernel
theorem dX8_mended_36 : decode cX8_mended 36 = .ok (.if_icmp .lt 5, 3) := by decide +kernel
theorem dX8_mended_39 : decode cX8_mended 39 = .ok (.iconst (-1), 1) := by decide +kernel
theorem dX8_mended_40 : decode cX8_mended 40 = .ok (.ireturn, 1) := by decide +kernel
theorem dX8_mended_41 : decode cX8_mended 41 = .ok (.iload_n 2, 1) := by decide +kernel
theorem dX8_mended_42 : decode cX8_mended 42 = .ok (.ifCond .ne 12, 3) := by decide +kernel
theorem dX8_mended_45 : decode cX8_mended 45 = .ok (.aload_n 0, 1) := by decide +kernel
theorem dX8_mended_46 : decode cX8_mended 46 = .ok (.getfield 116, 3) := by decide +kernel
theorem dX8_mended_49 : decode cX8_mended 49 = .ok (.iload_n 1, 1) := by decide +kernel
theorem dX8_mended_50 : decode cX8_mended 50 = .ok (.iaload, 1) := by decide +kernel
theorem dX8_mended_51 : decode cX8_mended 51 = .ok (.goto 17, 3) := by decide +kernel
theorem dX8_mended_54 : decode cX8_mended 54 = .ok (.aload_n 0, 1) := by decide +kernel
theorem dX8_mended_55 : decode cX8_mended 55 = .ok (.getfield 119, 3) := by decide +kernel
theorem dX8_mended_58 : decode cX8_mended 58 = .ok (.iload_n 1, 1) := by decide +kernel
theorem dX8_mended_59 : decode cX8_mended 59 = .ok (.baload, 1) := by decide +kernel
theorem dX8_mended_60 : decode cX8_mended 60 = .ok (.ifCond .eq 7, 3) := by decide +kernel
theorem dX8_mended_63 : decode cX8_mended 63 = .ok (.iconst 1, 1) := by decide +kernel
theorem dX8_mended_64 : decode cX8_mended 64 = .ok (.goto 4, 3) := by decide +kernel
theorem dX8_mended_67 : decode cX8_mended 67 = .ok (.iconst 0, 1) := by decide +kernel
theorem dX8_mended_68 : decode cX8_mended 68 = .ok (.ireturn, 1) := by decide +kernel
theorem dL_law_0 : decode cL_law 0 = .ok (.new 7, 3) := by decide +kernel
theorem dL_law_3 : decode cL_law 3 = .ok (.dup, 1) := by decide +kernel
theorem dL_law_4 : decode cL_law 4 = .ok (.invokespecial 9, 3) := by decide +kernel
theorem dL_law_7 : decode cL_law 7 = .ok (.astore_n 1, 1) := by decide +kernel
theorem dL_law_8 : decode cL_law 8 = .ok (.new 10, 3) := by decide +kernel
theorem dL_law_11 : decode cL_law 11 = .ok (.dup, 1) := by decide +kernel
theorem dL_law_12 : decode cL_law 12 = .ok (.invokespecial 12, 3) := by decide +kernel
theorem dL_law_15 : decode cL_law 15 = .ok (.astore_n 2, 1) := by decide +kernel
theorem dL_law_16 : decode cL_law 16 = .ok (.iconst 0, 1) := by decide +kernel
theorem dL_law_17 : decode cL_law 17 = .ok (.istore_n 3, 1) := by decide +kernel
theorem dL_law_18 : decode cL_law 18 = .ok (.iload_n 3, 1) := by decide +kernel
theorem dL_law_19 : decode cL_law 19 = .ok (.aload_n 0, 1) := by decide +kernel
theorem dL_law_20 : decode cL_law 20 = .ok (.arraylength, 1) := by decide +kernel
theorem dL_law_21 : decode cL_law 21 = .ok (.bipush 6, 2) := by decide +kernel
theorem dL_law_23 : decode cL_law 23 = .ok (.isub, 1) := by decide +kernel
theorem dL_law_24 : decode cL_law 24 = .ok (.if_icmp .gt 1006, 3) := by decide +kernel
theorem dL_law_27 : decode cL_law 27 = .ok (.aload_n 0, 1) := by decide +kernel
theorem dL_law_28 : decode cL_law 28 = .ok (.iload_n 3, 1) := by decide +kernel
theorem dL_law_29 : decode cL_law 29 = .ok (.iaload, 1) := by decide +kernel
theorem dL_law_30 : decode cL_law 30 = .ok (.bipush 31, 2) := by decide +kernel
theorem dL_law_32 : decode cL_law 32 = .ok (.iand, 1) := by decide +kernel
theorem dL_law_33 : decode cL_law 33 = .ok (.tableswitch 991 0 27 #[127, 160, 183, 226, 259, 282, 325, 348, 401, 434, 497, 530, 543, 576, 609, 622, 645, 678, 701, 724, 747, 770, 803, 836, 869, 892, 915, 958], 127) := by decide +kernel
theorem dL_law_160 : decode cL_law 160 = .ok (.aload_n 1, 1) := by decide +kernel
theorem dL_law_161 : decode cL_law 161 = .ok (.aload_n 0, 1) := by decide +kernel
theorem dL_law_162 : decode cL_law 162 = .ok (.iload_n 3, 1) := by decide +kernel
theorem dL_law_163 : decode cL_law 163 = .ok (.iconst 1, 1) := by decide +kernel
theorem dL_law_164 : decode cL_law 164 = .ok (.iadd, 1) := by decide +kernel
theorem dL_law_165 : decode cL_law 165 = .ok (.iaload, 1) := by decide +kernel
theorem dL_law_166 : decode cL_law 166 = .ok (.aload_n 0, 1) := by decide +kernel
theorem dL_law_167 : decode cL_law 167 = .ok (.iload_n 3, 1) := by decide +kernel
theorem dL_law_168 : decode cL_law 168 = .ok (.iconst 2, 1) := by decide +kernel
theorem dL_law_169 : decode cL_law 169 = .ok (.iadd, 1) := by decide +kernel
theorem dL_law_170 : decode cL_law 170 = .ok (.iaload, 1) := by decide +kernel
theorem dL_law_171 : decode cL_law 171 = .ok (.invokevirtual 13, 3) := by decide +kernel
theorem dL_law_174 : decode cL_law 174 = .ok (.aload_n 2, 1) := by decide +kernel
theorem dL_law_175 : decode cL_law 175 = .ok (.aload_n 0, 1) := by decide +kernel
theorem dL_law_176 : decode cL_law 176 = .ok (.iload_n 3, 1) := by decide +kernel
theorem dL_law_177 : decode cL_law 177 = .ok (.iconst 1, 1) := by decide +kernel
theorem dL_law_178 : decode cL_law 178 = .ok (.iadd, 1) := by decide +kernel
theorem dL_law_179 : decode cL_law 179 = .ok (.iaload, 1) := by decide +kernel
theorem dL_law_180 : decode cL_law 180 = .ok (.aload_n 0, 1) := by decide +kernel
theorem dL_law_181 : decode cL_law 181 = .ok (.iload_n 3, 1) := by decide +kernel
theorem dL_law_182 : decode cL_law 182 = .ok (.iconst 2, 1) := by decide +kernel
theorem dL_law_183 : decode cL_law 183 = .ok (.iadd, 1) := by decide +kernel
theorem dL_law_184 : decode cL_law 184 = .ok (.iaload, 1) := by decide +kernel
theorem dL_law_185 : decode cL_law 185 = .ok (.invokevirtual 17, 3) := by decide +kernel
theorem dL_law_188 : decode cL_law 188 = .ok (.if_icmp .eq 836, 3) := by decide +kernel
theorem dL_law_191 : decode cL_law 191 = .ok (.iconst 0, 1) := by decide +kernel
theorem dL_law_192 : decode cL_law 192 = .ok (.ireturn, 1) := by decide +kernel
theorem dL_law_193 : decode cL_law 193 = .ok (.aload_n 1, 1) := by decide +kernel
theorem dL_law_194 : decode cL_law 194 = .ok (.aload_n 0, 1) := by decide +kernel
theorem dL_law_195 : decode cL_law 195 = .ok (.iload_n 3, 1) := by decide +kernel
theorem dL_law_196 : decode cL_law 196 = .ok (.iconst 1, 1) := by decide +kernel
theorem dL_law_197 : decode cL_law 197 = .ok (.iadd, 1) := by decide +kernel
theorem dL_law_198 : decode cL_law 198 = .ok (.iaload, 1) := by decide +kernel
theorem dL_law_199 : decode cL_law 199 = .ok (.invokevirtual 18, 3) := by decide +kernel
theorem dL_law_202 : decode cL_law 202 = .ok (.aload_n 2, 1) := by decide +kernel
theorem dL_law_203 : decode cL_law 203 = .ok (.aload_n 0, 1) := by decide +kernel
theorem dL_law_204 : decode cL_law 204 = .ok (.iload_n 3, 1) := by decide +kernel
theorem dL_law_205 : decode cL_law 205 = .ok (.iconst 1, 1) := by decide +kernel
theorem dL_law_206 : decode cL_law 206 = .ok (.iadd, 1) := by decide +kernel
theorem dL_law_207 : decode cL_law 207 = .ok (.iaload, 1) := by decide +kernel
theorem dL_law_208 : decode cL_law 208 = .ok (.invokevirtual 22, 3) := by decide +kernel
theorem dL_law_211 : decode cL_law 211 = .ok (.if_icmp .eq 813, 3) := by decide +kernel
theorem dL_law_214 : decode cL_law 214 = .ok (.iconst 0, 1) := by decide +kernel
theorem dL_law_215 : decode cL_law 215 = .ok (.ireturn, 1) := by decide +kernel
theorem dL_law_216 : decode cL_law 216 = .ok (.aload_n 1, 1) := by decide +kernel
theorem dL_law_217 : decode cL_law 217 = .ok (.aload_n 0, 1) := by decide +kernel
theorem dL_law_218 : decode cL_law 218 = .ok (.iload_n 3, 1) := by decide +kernel
theorem dL_law_219 : decode cL_law 219 = .ok (.iconst 1, 1) := by decide +kernel
theorem dL_law_220 : decode cL_law 220 = .ok (.iadd, 1) := by decide +kernel
theorem dL_law_221 : decode cL_law 221 = .ok (.iaload, 1) := by decide +kernel
theorem dL_law_222 : decode cL_law 222 = .ok (.aload_n 0, 1) := by decide +kernel
theorem dL_law_223 : decode cL_law 223 = .ok (.iload_n 3, 1) := by decide +kernel
theorem dL_law_224 : decode cL_law 224 = .ok (.iconst 2, 1) := by decide +kernel
theorem dL_law_225 : decode cL_law 225 = .ok (.iadd, 1) := by decide +kernel
theorem dL_law_226 : decode cL_law 226 = .ok (.iaload, 1) := by decide +kernel
theorem dL_law_227 : decode cL_law 227 = .ok (.aload_n 0, 1) := by decide +kernel
theorem dL_law_228 : decode cL_law 228 = .ok (.iload_n 3, 1) := by decide +kernel
theorem dL_law_229 : decode cL_law 229 = .ok (.iconst 3, 1) := by decide +kernel
theorem dL_law_230 : decode cL_law 230 = .ok (.iadd, 1) := by decide +kernel
theorem dL_law_231 : decode cL_law 231 = .ok (.iaload, 1) := by decide +kernel
theorem dL_law_232 : decode cL_law 232 = .ok (.invokevirtual 23, 3) := by decide +kernel
theorem dL_law_235 : decode cL_law 235 = .ok (.aload_n 2, 1) := by decide +kernel
theorem dL_law_236 : decode cL_law 236 = .ok (.aload_n 0, 1) := by decide +kernel
theorem dL_law_237 : decode cL_law 237 = .ok (.iload_n 3, 1) := by decide +kernel
theorem dL_law_238 : decode cL_law 238 = .ok (.iconst 1, 1) := by decide +kernel
theorem dL_law_239 : decode cL_law 239 = .ok (.iadd, 1) := by decide +kernel
theorem dL_law_240 : decode cL_law 240 = .ok (.iaload, 1) := by decide +kernel
theorem dL_law_241 : decode cL_law 241 = .ok (.aload_n 0, 1) := by decide +kernel
theorem dL_law_242 : decode cL_law 242 = .ok (.iload_n 3, 1) := by decide +kernel
theorem dL_law_243 : decode cL_law 243 = .ok (.iconst 2, 1) := by decide +kernel
theorem dL_law_244 : decode cL_law 244 = .ok (.iadd, 1) := by decide +kernel
theorem dL_law_245 : decode cL_law 245 = .ok (.iaload, 1) := by decide +kernel
theorem dL_law_246 : decode cL_law 246 = .ok (.aload_n 0, 1) := by decide +kernel
theorem dL_law_247 : decode cL_law 247 = .ok (.iload_n 3, 1) := by decide +kernel
theorem dL_law_248 : decode cL_law 248 = .ok (.iconst 3, 1) := by decide +kernel
theorem dL_law_249 : decode cL_law 249 = .ok (.iadd, 1) := by decide +kernel
theorem dL_law_250 : decode cL_law 250 = .ok (.iaload, 1) := by decide +kernel
theorem dL_law_251 : decode cL_law 251 = .ok (.invokevirtual 27, 3) := by decide +kernel
theorem dL_law_254 : decode cL_law 254 = .ok (.if_icmp .eq 770, 3) := by decide +kernel
theorem dL_law_257 : decode cL_law 257 = .ok (.iconst 0, 1) := by decide +kernel
theorem dL_law_258 : decode cL_law 258 = .ok (.ireturn, 1) := by decide +kernel
theorem dL_law_259 : decode cL_law 259 = .ok (.aload_n 1, 1) := by decide +kernel
theorem dL_law_260 : decode cL_law 260 = .ok (.aload_n 0, 1) := by decide +kernel
theorem dL_law_261 : decode cL_law 261 = .ok (.iload_n 3, 1) := by decide +kernel
theorem dL_law_262 : decode cL_law 262 = .ok (.iconst 1, 1) := by decide +kernel
theorem dL_law_263 : decode cL_law 263 = .ok (.iadd, 1) := by decide +kernel
theorem dL_law_264 : decode cL_law 264 = .ok (.iaload, 1) := by decide +kernel
theorem dL_law_265 : decode cL_law 265 = .ok (.aload_n 0, 1) := by decide +kernel
theorem dL_law_266 : decode cL_law 266 = .ok (.iload_n 3, 1) := by decide +kernel
theorem dL_law_267 : decode cL_law 267 = .ok (.iconst 2, 1) := by decide +kernel
theorem dL_law_268 : decode cL_law 268 = .ok (.iadd, 1) := by decide +kernel
theorem dL_law_269 : decode cL_law 269 = .ok (.iaload, 1) := by decide +kernel
theorem dL_law_270 : decode cL_law 270 = .ok (.invokevirtual 28, 3) := by decide +kernel
theorem dL_law_273 : decode cL_law 273 = .ok (.aload_n 2, 1) := by decide +kernel
theorem dL_law_274 : decode cL_law 274 = .ok (.aload_n 0, 1) := by decide +kernel
theorem dL_law_275 : decode cL_law 275 = .ok (.iload_n 3, 1) := by decide +kernel
theorem dL_law_276 : decode cL_law 276 = .ok (.iconst 1, 1) := by decide +kernel
theorem dL_law_277 : decode cL_law 277 = .ok (.iadd, 1) := by decide +kernel
theorem dL_law_278 : decode cL_law 278 = .ok (.iaload, 1) := by decide +kernel
theorem dL_law_279 : decode cL_law 279 = .ok (.aload_n 0, 1) := by decide +kernel
theorem dL_law_280 : decode cL_law 280 = .ok (.iload_n 3, 1) := by decide +kernel
theorem dL_law_281 : decode cL_law 281 = .ok (.iconst 2, 1) := by decide +kernel
theorem dL_law_282 : decode cL_law 282 = .ok (.iadd, 1) := by decide +kernel
theorem dL_law_283 : decode cL_law 283 = .ok (.iaload, 1) := by decide +kernel
theorem dL_law_284 : decode cL_law 284 = .ok (.invokevirtual 31, 3) := by decide +kernel
theorem dL_law_287 : decode cL_law 287 = .ok (.if_icmp .eq 737, 3) := by decide +kernel
theorem dL_law_290 : decode cL_law 290 = .ok (.iconst 0, 1) := by decide +kernel
theorem dL_law_291 : decode cL_law 291 = .ok (.ireturn, 1) := by decide +kernel
theorem dL_law_292 : decode cL_law 292 = .ok (.aload_n 1, 1) := by decide +kernel
theorem dL_law_293 : decode cL_law 293 = .ok (.aload_n 0, 1) := by decide +kernel
theorem dL_law_294 : decode cL_law 294 = .ok (.iload_n 3, 1) := by decide +kernel
theorem dL_law_295 : decode cL_law 295 = .ok (.iconst 1, 1) := by decide +kernel
theorem dL_law_296 : decode cL_law 296 = .ok (.iadd, 1) := by decide +kernel
theorem dL_law_297 : decode cL_law 297 = .ok (.iaload, 1) := by decide +kernel
theorem dL_law_298 : decode cL_law 298 = .ok (.invokevirtual 32, 3) := by decide +kernel
theorem dL_law_301 : decode cL_law 301 = .ok (.aload_n 2, 1) := by decide +kernel
theorem dL_law_302 : decode cL_law 302 = .ok (.aload_n 0, 1) := by decide +kernel
theorem dL_law_303 : decode cL_law 303 = .ok (.iload_n 3, 1) := by decide +kernel
theorem dL_law_304 : decode cL_law 304 = .ok (.iconst 1, 1) := by decide +kernel
theorem dL_law_305 : decode cL_law 305 = .ok (.iadd, 1) := by decide +kernel
theorem dL_law_306 : decode cL_law 306 = .ok (.iaload, 1) := by decide +kernel
theorem dL_law_307 : decode cL_law 307 = .ok (.invokevirtual 35, 3) := by decide +kernel
theorem dL_law_310 : decode cL_law 310 = .ok (.if_icmp .eq 714, 3) := by decide +kernel
theorem dL_law_313 : decode cL_law 313 = .ok (.iconst 0, 1) := by decide +kernel
theorem dL_law_314 : decode cL_law 314 = .ok (.ireturn, 1) := by decide +kernel
theorem dL_law_315 : decode cL_law 315 = .ok (.aload_n 1, 1) := by decide +kernel
theorem dL_law_316 : decode cL_law 316 = .ok (.aload_n 0, 1) := by decide +kernel
theorem dL_law_317 : decode cL_law 317 = .ok (.iload_n 3, 1) := by decide +kernel
theorem dL_law_318 : decode cL_law 318 = .ok (.iconst 1, 1) := by decide +kernel
theorem dL_law_319 : decode cL_law 319 = .ok (.iadd, 1) := by decide +kernel
theorem dL_law_320 : decode cL_law 320 = .ok (.iaload, 1) := by decide +kernel
theorem dL_law_321 : decode cL_law 321 = .ok (.aload_n 0, 1) := by decide +kernel
theorem dL_law_322 : decode cL_law 322 = .ok (.iload_n 3, 1) := by decide +kernel
theorem dL_law_323 : decode cL_law 323 = .ok (.iconst 2, 1) := by decide +kernel
theorem dL_law_324 : decode cL_law 324 = .ok (.iadd, 1) := by decide +kernel
theorem dL_law_325 : decode cL_law 325 = .ok (.iaload, 1) := by decide +kernel
theorem dL_law_326 : decode cL_law 326 = .ok (.aload_n 0, 1) := by decide +kernel
theorem dL_law_327 : decode cL_law 327 = .ok (.iload_n 3, 1) := by decide +kernel
theorem dL_law_328 : decode cL_law 328 = .ok (.iconst 3, 1) := by decide +kernel
theorem dL_law_329 : decode cL_law 329 = .ok (.iadd, 1) := by decide +kernel
theorem dL_law_330 : decode cL_law 330 = .ok (.iaload, 1) := by decide +kernel
theorem dL_law_331 : decode cL_law 331 = .ok (.invokevirtual 36, 3) := by decide +kernel
theorem dL_law_334 : decode cL_law 334 = .ok (.aload_n 2, 1) := by decide +kernel
theorem dL_law_335 : decode cL_law 335 = .ok (.aload_n 0, 1) := by decide +kernel
theorem dL_law_336 : decode cL_law 336 = .ok (.iload_n 3, 1) := by decide +kernel
theorem dL_law_337 : decode cL_law 337 = .ok (.iconst 1, 1) := by decide +kernel
theorem dL_law_338 : decode cL_law 338 = .ok (.iadd, 1) := by decide +kernel
theorem dL_law_339 : decode cL_law 339 = .ok (.iaload, 1) := by decide +kernel
theorem dL_law_340 : decode cL_law 340 = .ok (.aload_n 0, 1) := by decide +kernel
theorem dL_law_341 : decode cL_law 341 = .ok (.iload_n 3, 1) := by decide +kernel
theorem dL_law_342 : decode cL_law 342 = .ok (.iconst 2, 1) := by decide +kernel
theorem dL_law_343 : decode cL_law 343 = .ok (.iadd, 1) := by decide +kernel
theorem dL_law_344 : decode cL_law 344 = .ok (.iaload, 1) := by decide +kernel
theorem dL_law_345 : decode cL_law 345 = .ok (.aload_n 0, 1) := by decide +kernel
theorem dL_law_346 : decode cL_law 346 = .ok (.iload_n 3, 1) := by decide +kernel
theorem dL_law_347 : decode cL_law 347 = .ok (.iconst 3, 1) := by decide +kernel
theorem dL_law_348 : decode cL_law 348 = .ok (.iadd, 1) := by decide +kernel
theorem dL_law_349 : decode cL_law 349 = .ok (.iaload, 1) := by decide +kernel
theorem dL_law_350 : decode cL_law 350 = .ok (.invokevirtual 39, 3) := by decide +kernel
theorem dL_law_353 : decode cL_law 353 = .ok (.if_icmp .eq 671, 3) := by decide +kernel
theorem dL_law_356 : decode cL_law 356 = .ok (.iconst 0, 1) := by decide +kernel
theorem dL_law_357 : decode cL_law 357 = .ok (.ireturn, 1) := by decide +kernel
theorem dL_law_358 : decode cL_law 358 = .ok (.aload_n 1, 1) := by decide +kernel
theorem dL_law_359 : decode cL_law 359 = .ok (.aload_n 0, 1) := by decide +kernel
theorem dL_law_360 : decode cL_law 360 = .ok (.iload_n 3, 1) := by decide +kernel
theorem dL_law_361 : decode cL_law 361 = .ok (.iconst 1, 1) := by decide +kernel
theorem dL_law_362 : decode cL_law 362 = .ok (.iadd, 1) := by decide +kernel
theorem dL_law_363 : decode cL_law 363 = .ok (.iaload, 1) := by decide +kernel
theorem dL_law_364 : decode cL_law 364 = .ok (.invokevirtual 40, 3) := by decide +kernel
theorem dL_law_367 : decode cL_law 367 = .ok (.aload_n 2, 1) := by decide +kernel
theorem dL_law_368 : decode cL_law 368 = .ok (.aload_n 0, 1) := by decide +kernel
theorem dL_law_369 : decode cL_law 369 = .ok (.iload_n 3, 1) := by decide +kernel
theorem dL_law_370 : decode cL_law 370 = .ok (.iconst 1, 1) := by decide +kernel
theorem dL_law_371 : decode cL_law 371 = .ok (.iadd, 1) := by decide +kernel
theorem dL_law_372 : decode cL_law 372 = .ok (.iaload, 1) := by decide +kernel
theorem dL_law_373 : decode cL_law 373 = .ok (.invokevirtual 43, 3) := by decide +kernel
theorem dL_law_376 : decode cL_law 376 = .ok (.if_icmp .eq 648, 3) := by decide +kernel
theorem dL_law_379 : decode cL_law 379 = .ok (.iconst 0, 1) := by decide +kernel
theorem dL_law_380 : decode cL_law 380 = .ok (.ireturn, 1) := by decide +kernel
theorem dL_law_381 : decode cL_law 381 = .ok (.aload_n 1, 1) := by decide +kernel
theorem dL_law_382 : decode cL_law 382 = .ok (.aload_n 0, 1) := by decide +kernel
theorem dL_law_383 : decode cL_law 383 = .ok (.iload_n 3, 1) := by decide +kernel
theorem dL_law_384 : decode cL_law 384 = .ok (.iconst 1, 1) := by decide +kernel
theorem dL_law_385 : decode cL_law 385 = .ok (.iadd, 1) := by decide +kernel
theorem dL_law_386 : decode cL_law 386 = .ok (.iaload, 1) := by decide +kernel
theorem dL_law_387 : decode cL_law 387 = .ok (.aload_n 0, 1) := by decide +kernel
theorem dL_law_388 : decode cL_law 388 = .ok (.iload_n 3, 1) := by decide +kernel
theorem dL_law_389 : decode cL_law 389 = .ok (.iconst 2, 1) := by decide +kernel
theorem dL_law_390 : decode cL_law 390 = .ok (.iadd, 1) := by decide +kernel
theorem dL_law_391 : decode cL_law 391 = .ok (.iaload, 1) := by decide +kernel
theorem dL_law_392 : decode cL_law 392 = .ok (.aload_n 0, 1) := by decide +kernel
theorem dL_law_393 : decode cL_law 393 = .ok (.iload_n 3, 1) := by decide +kernel
theorem dL_law_394 : decode cL_law 394 = .ok (.iconst 3, 1) := by decide +kernel
theorem dL_law_395 : decode cL_law 395 = .ok (.iadd, 1) := by decide +kernel
theorem dL_law_396 : decode cL_law 396 = .ok (.iaload, 1) := by decide +kernel
theorem dL_law_397 : decode cL_law 397 = .ok (.aload_n 0, 1) := by decide +kernel
theorem dL_law_398 : decode cL_law 398 = .ok (.iload_n 3, 1) := by decide +kernel
theorem dL_law_399 : decode cL_law 399 = .ok (.iconst 4, 1) := by decide +kernel
theorem dL_law_400 : decode cL_law 400 = .ok (.iadd, 1) := by decide +kernel
theorem dL_law_401 : decode cL_law 401 = .ok (.iaload, 1) := by decide +kernel
theorem dL_law_402 : decode cL_law 402 = .ok (.invokevirtual 44, 3) := by decide +kernel
theorem dL_law_405 : decode cL_law 405 = .ok (.aload_n 2, 1) := by decide +kernel
theorem dL_law_406 : decode cL_law 406 = .ok (.aload_n 0, 1) := by decide +kernel
theorem dL_law_407 : decode cL_law 407 = .ok (.iload_n 3, 1) := by decide +kernel
theorem dL_law_408 : decode cL_law 408 = .ok (.iconst 1, 1) := by decide +kernel
theorem dL_law_409 : decode cL_law 409 = .ok (.iadd, 1) := by decide +kernel
theorem dL_law_410 : decode cL_law 410 = .ok (.iaload, 1) := by decide +kernel
theorem dL_law_411 : decode cL_law 411 = .ok (.aload_n 0, 1) := by decide +kernel
theorem dL_law_412 : decode cL_law 412 = .ok (.iload_n 3, 1) := by decide +kernel
theorem dL_law_413 : decode cL_law 413 = .ok (.iconst 2, 1) := by decide +kernel
theorem dL_law_414 : decode cL_law 414 = .ok (.iadd, 1) := by decide +kernel
theorem dL_law_415 : decode cL_law 415 = .ok (.iaload, 1) := by decide +kernel
theorem dL_law_416 : decode cL_law 416 = .ok (.aload_n 0, 1) := by decide +kernel
theorem dL_law_417 : decode cL_law 417 = .ok (.iload_n 3, 1) := by decide +kernel
theorem dL_law_418 : decode cL_law 418 = .ok (.iconst 3, 1) := by decide +kernel
theorem dL_law_419 : decode cL_law 419 = .ok (.iadd, 1) := by decide +kernel
theorem dL_law_420 : decode cL_law 420 = .ok (.iaload, 1) := by decide +kernel
theorem dL_law_421 : decode cL_law 421 = .ok (.aload_n 0, 1) := by decide +kernel
theorem dL_law_422 : decode cL_law 422 = .ok (.iload_n 3, 1) := by decide +kernel
theorem dL_law_423 : decode cL_law 423 = .ok (.iconst 4, 1) := by decide +kernel
theorem dL_law_424 : decode cL_law 424 = .ok (.iadd, 1) := by decide +kernel
theorem dL_law_425 : decode cL_law 425 = .ok (.iaload, 1) := by decide +kernel
theorem dL_law_426 : decode cL_law 426 = .ok (.invokevirtual 48, 3) := by decide +kernel
theorem dL_law_429 : decode cL_law 429 = .ok (.if_icmp .eq 595, 3) := by decide +kernel
theorem dL_law_432 : decode cL_law 432 = .ok (.iconst 0, 1) := by decide +kernel
theorem dL_law_433 : decode cL_law 433 = .ok (.ireturn, 1) := by decide +kernel
theorem dL_law_434 : decode cL_law 434 = .ok (.aload_n 1, 1) := by decide +kernel
theorem dL_law_435 : decode cL_law 435 = .ok (.aload_n 0, 1) := by decide +kernel
theorem dL_law_436 : decode cL_law 436 = .ok (.iload_n 3, 1) := by decide +kernel
theorem dL_law_437 : decode cL_law 437 = .ok (.iconst 1, 1) := by decide +kernel
theorem dL_law_438 : decode cL_law 438 = .ok (.iadd, 1) := by decide +kernel
theorem dL_law_439 : decode cL_law 439 = .ok (.iaload, 1) := by decide +kernel
theorem dL_law_440 : decode cL_law 440 = .ok (.aload_n 0, 1) := by decide +kernel
theorem dL_law_441 : decode cL_law 441 = .ok (.iload_n 3, 1) := by decide +kernel
theorem dL_law_442 : decode cL_law 442 = .ok (.iconst 2, 1) := by decide +kernel
theorem dL_law_443 : decode cL_law 443 = .ok (.iadd, 1) := by decide +kernel
theorem dL_law_444 : decode cL_law 444 = .ok (.iaload, 1) := by decide +kernel
theorem dL_law_445 : decode cL_law 445 = .ok (.invokevirtual 49, 3) := by decide +kernel
theorem dL_law_448 : decode cL_law 448 = .ok (.aload_n 2, 1) := by decide +kernel
theorem dL_law_449 : decode cL_law 449 = .ok (.aload_n 0, 1) := by decide +kernel
theorem dL_law_450 : decode cL_law 450 = .ok (.iload_n 3, 1) := by decide +kernel
theorem dL_law_451 : decode cL_law 451 = .ok (.iconst 1, 1) := by decide +kernel
theorem dL_law_452 : decode cL_law 452 = .ok (.iadd, 1) := by decide +kernel
theorem dL_law_453 : decode cL_law 453 = .ok (.iaload, 1) := by decide +kernel
theorem dL_law_454 : decode cL_law 454 = .ok (.aload_n 0, 1) := by decide +kernel
theorem dL_law_455 : decode cL_law 455 = .ok (.iload_n 3, 1) := by decide +kernel
theorem dL_law_456 : decode cL_law 456 = .ok (.iconst 2, 1) := by decide +kernel
theorem dL_law_457 : decode cL_law 457 = .ok (.iadd, 1) := by decide +kernel
theorem dL_law_458 : decode cL_law 458 = .ok (.iaload, 1) := by decide +kernel
theorem dL_law_459 : decode cL_law 459 = .ok (.invokevirtual 52, 3) := by decide +kernel
theorem dL_law_462 : decode cL_law 462 = .ok (.if_icmp .eq 562, 3) := by decide +kernel
theorem dL_law_465 : decode cL_law 465 = .ok (.iconst 0, 1) := by decide +kernel
theorem dL_law_466 : decode cL_law 466 = .ok (.ireturn, 1) := by decide +kernel
theorem dL_law_467 : decode cL_law 467 = .ok (.aload_n 1, 1) := by decide +kernel
theorem dL_law_468 : decode cL_law 468 = .ok (.aload_n 0, 1) := by decide +kernel
theorem dL_law_469 : decode cL_law 469 = .ok (.iload_n 3, 1) := by decide +kernel
theorem dL_law_470 : decode cL_law 470 = .ok (.iconst 1, 1) := by decide +kernel
theorem dL_law_471 : decode cL_law 471 = .ok (.iadd, 1) := by decide +kernel
theorem dL_law_472 : decode cL_law 472 = .ok (.iaload, 1) := by decide +kernel
theorem dL_law_473 : decode cL_law 473 = .ok (.aload_n 0, 1) := by decide +kernel
theorem dL_law_474 : decode cL_law 474 = .ok (.iload_n 3, 1) := by decide +kernel
theorem dL_law_475 : decode cL_law 475 = .ok (.iconst 2, 1) := by decide +kernel
theorem dL_law_476 : decode cL_law 476 = .ok (.iadd, 1) := by decide +kernel
theorem dL_law_477 : decode cL_law 477 = .ok (.iaload, 1) := by decide +kernel
theorem dL_law_478 : decode cL_law 478 = .ok (.aload_n 0, 1) := by decide +kernel
theorem dL_law_479 : decode cL_law 479 = .ok (.iload_n 3, 1) := by decide +kernel
theorem dL_law_480 : decode cL_law 480 = .ok (.iconst 3, 1) := by decide +kernel
theorem dL_law_481 : decode cL_law 481 = .ok (.iadd, 1) := by decide +kernel
theorem dL_law_482 : decode cL_law 482 = .ok (.iaload, 1) := by decide +kernel
theorem dL_law_483 : decode cL_law 483 = .ok (.aload_n 0, 1) := by decide +kernel
theorem dL_law_484 : decode cL_law 484 = .ok (.iload_n 3, 1) := by decide +kernel
theorem dL_law_485 : decode cL_law 485 = .ok (.iconst 4, 1) := by decide +kernel
theorem dL_law_486 : decode cL_law 486 = .ok (.iadd, 1) := by decide +kernel
theorem dL_law_487 : decode cL_law 487 = .ok (.iaload, 1) := by decide +kernel
theorem dL_law_488 : decode cL_law 488 = .ok (.aload_n 0, 1) := by decide +kernel
theorem dL_law_489 : decode cL_law 489 = .ok (.iload_n 3, 1) := by decide +kernel
theorem dL_law_490 : decode cL_law 490 = .ok (.iconst 5, 1) := by decide +kernel
theorem dL_law_491 : decode cL_law 491 = .ok (.iadd, 1) := by decide +kernel
theorem dL_law_492 : decode cL_law 492 = .ok (.iaload, 1) := by decide +kernel
theorem dL_law_493 : decode cL_law 493 = .ok (.invokevirtual 53, 3) := by decide +kernel
theorem dL_law_496 : decode cL_law 496 = .ok (.aload_n 2, 1) := by decide +kernel
theorem dL_law_497 : decode cL_law 497 = .ok (.aload_n 0, 1) := by decide +kernel
theorem dL_law_498 : decode cL_law 498 = .ok (.iload_n 3, 1) := by decide +kernel
theorem dL_law_499 : decode cL_law 499 = .ok (.iconst 1, 1) := by decide +kernel
theorem dL_law_500 : decode cL_law 500 = .ok (.iadd, 1) := by decide +kernel
theorem dL_law_501 : decode cL_law 501 = .ok (.iaload, 1) := by decide +kernel
theorem dL_law_502 : decode cL_law 502 = .ok (.aload_n 0, 1) := by decide +kernel
theorem dL_law_503 : decode cL_law 503 = .ok (.iload_n 3, 1) := by decide +kernel
theorem dL_law_504 : decode cL_law 504 = .ok (.iconst 2, 1) := by decide +kernel
theorem dL_law_505 : decode cL_law 505 = .ok (.iadd, 1) := by decide +kernel
theorem dL_law_506 : decode cL_law 506 = .ok (.iaload, 1) := by decide +kernel
theorem dL_law_507 : decode cL_law 507 = .ok (.aload_n 0, 1) := by decide +kernel
theorem dL_law_508 : decode cL_law 508 = .ok (.iload_n 3, 1) := by decide +kernel
theorem dL_law_509 : decode cL_law 509 = .ok (.iconst 3, 1) := by decide +kernel
theorem dL_law_510 : decode cL_law 510 = .ok (.iadd, 1) := by decide +kernel
theorem dL_law_511 : decode cL_law 511 = .ok (.iaload, 1) := by decide +kernel
theorem dL_law_512 : decode cL_law 512 = .ok (.aload_n 0, 1) := by decide +kernel
theorem dL_law_513 : decode cL_law 513 = .ok (.iload_n 3, 1) := by decide +kernel
theorem dL_law_514 : decode cL_law 514 = .ok (.iconst 4, 1) := by decide +kernel
theorem dL_law_515 : decode cL_law 515 = .ok (.iadd, 1) := by decide +kernel
theorem dL_law_516 : decode cL_law 516 = .ok (.iaload, 1) := by decide +kernel
theorem dL_law_517 : decode cL_law 517 = .ok (.aload_n 0, 1) := by decide +kernel
theorem dL_law_518 : decode cL_law 518 = .ok (.iload_n 3, 1) := by decide +kernel
theorem dL_law_519 : decode cL_law 519 = .ok (.iconst 5, 1) := by decide +kernel
theorem dL_law_520 : decode cL_law 520 = .ok (.iadd, 1) := by decide +kernel
theorem dL_law_521 : decode cL_law 521 = .ok (.iaload, 1) := by decide +kernel
theorem dL_law_522 : decode cL_law 522 = .ok (.invokevirtual 57, 3) := by decide +kernel
theorem dL_law_525 : decode cL_law 525 = .ok (.if_icmp .eq 499, 3) := by decide +kernel
theorem dL_law_528 : decode cL_law 528 = .ok (.iconst 0, 1) := by decide +kernel
theorem dL_law_529 : decode cL_law 529 = .ok (.ireturn, 1) := by decide +kernel
theorem dL_law_530 : decode cL_law 530 = .ok (.aload_n 1, 1) := by decide +kernel
theorem dL_law_531 : decode cL_law 531 = .ok (.aload_n 0, 1) := by decide +kernel
theorem dL_law_532 : decode cL_law 532 = .ok (.iload_n 3, 1) := by decide +kernel
theorem dL_law_533 : decode cL_law 533 = .ok (.iconst 1, 1) := by decide +kernel
theorem dL_law_534 : decode cL_law 534 = .ok (.iadd, 1) := by decide +kernel
theorem dL_law_535 : decode cL_law 535 = .ok (.iaload, 1) := by decide +kernel
theorem dL_law_536 : decode cL_law 536 = .ok (.aload_n 0, 1) := by decide +kernel
theorem dL_law_537 : decode cL_law 537 = .ok (.iload_n 3, 1) := by decide +kernel
theorem dL_law_538 : decode cL_law 538 = .ok (.iconst 2, 1) := by decide +kernel
theorem dL_law_539 : decode cL_law 539 = .ok (.iadd, 1) := by decide +kernel
theorem dL_law_540 : decode cL_law 540 = .ok (.iaload, 1) := by decide +kernel
theorem dL_law_541 : decode cL_law 541 = .ok (.invokevirtual 58, 3) := by decide +kernel
theorem dL_law_544 : decode cL_law 544 = .ok (.aload_n 2, 1) := by decide +kernel
theorem dL_law_545 : decode cL_law 545 = .ok (.aload_n 0, 1) := by decide +kernel
theorem dL_law_546 : decode cL_law 546 = .ok (.iload_n 3, 1) := by decide +kernel
theorem dL_law_547 : decode cL_law 547 = .ok (.iconst 1, 1) := by decide +kernel
theorem dL_law_548 : decode cL_law 548 = .ok (.iadd, 1) := by decide +kernel
theorem dL_law_549 : decode cL_law 549 = .ok (.iaload, 1) := by decide +kernel
theorem dL_law_550 : decode cL_law 550 = .ok (.aload_n 0, 1) := by decide +kernel
theorem dL_law_551 : decode cL_law 551 = .ok (.iload_n 3, 1) := by decide +kernel
theorem dL_law_552 : decode cL_law 552 = .ok (.iconst 2, 1) := by decide +kernel
theorem dL_law_553 : decode cL_law 553 = .ok (.iadd, 1) := by decide +kernel
theorem dL_law_554 : decode cL_law 554 = .ok (.iaload, 1) := by decide +kernel
theorem dL_law_555 : decode cL_law 555 = .ok (.invokevirtual 61, 3) := by decide +kernel
theorem dL_law_558 : decode cL_law 558 = .ok (.if_icmp .eq 466, 3) := by decide +kernel
theorem dL_law_561 : decode cL_law 561 = .ok (.iconst 0, 1) := by decide +kernel
theorem dL_law_562 : decode cL_law 562 = .ok (.ireturn, 1) := by decide +kernel
theorem dL_law_563 : decode cL_law 563 = .ok (.aload_n 1, 1) := by decide +kernel
theorem dL_law_564 : decode cL_law 564 = .ok (.invokevirtual 62, 3) := by decide +kernel
theorem dL_law_567 : decode cL_law 567 = .ok (.aload_n 2, 1) := by decide +kernel
theorem dL_law_568 : decode cL_law 568 = .ok (.invokevirtual 66, 3) := by decide +kernel
theorem dL_law_571 : decode cL_law 571 = .ok (.if_icmp .eq 453, 3) := by decide +kernel
theorem dL_law_574 : decode cL_law 574 = .ok (.iconst 0, 1) := by decide +kernel
theorem dL_law_575 : decode cL_law 575 = .ok (.ireturn, 1) := by decide +kernel
theorem dL_law_576 : decode cL_law 576 = .ok (.aload_n 1, 1) := by decide +kernel
theorem dL_law_577 : decode cL_law 577 = .ok (.aload_n 0, 1) := by decide +kernel
theorem dL_law_578 : decode cL_law 578 = .ok (.iload_n 3, 1) := by decide +kernel
theorem dL_law_579 : decode cL_law 579 = .ok (.iconst 1, 1) := by decide +kernel
theorem dL_law_580 : decode cL_law 580 = .ok (.iadd, 1) := by decide +kernel
theorem dL_law_581 : decode cL_law 581 = .ok (.iaload, 1) := by decide +kernel
theorem dL_law_582 : decode cL_law 582 = .ok (.aload_n 0, 1) := by decide +kernel
theorem dL_law_583 : decode cL_law 583 = .ok (.iload_n 3, 1) := by decide +kernel
theorem dL_law_584 : decode cL_law 584 = .ok (.iconst 2, 1) := by decide +kernel
theorem dL_law_585 : decode cL_law 585 = .ok (.iadd, 1) := by decide +kernel
theorem dL_law_586 : decode cL_law 586 = .ok (.iaload, 1) := by decide +kernel
theorem dL_law_587 : decode cL_law 587 = .ok (.invokevirtual 67, 3) := by decide +kernel
theorem dL_law_590 : decode cL_law 590 = .ok (.aload_n 2, 1) := by decide +kernel
theorem dL_law_591 : decode cL_law 591 = .ok (.aload_n 0, 1) := by decide +kernel
theorem dL_law_592 : decode cL_law 592 = .ok (.iload_n 3, 1) := by decide +kernel
theorem dL_law_593 : decode cL_law 593 = .ok (.iconst 1, 1) := by decide +kernel
theorem dL_law_594 : decode cL_law 594 = .ok (.iadd, 1) := by decide +kernel
theorem dL_law_595 : decode cL_law 595 = .ok (.iaload, 1) := by decide +kernel
theorem dL_law_596 : decode cL_law 596 = .ok (.aload_n 0, 1) := by decide +kernel
theorem dL_law_597 : decode cL_law 597 = .ok (.iload_n 3, 1) := by decide +kernel
theorem dL_law_598 : decode cL_law 598 = .ok (.iconst 2, 1) := by decide +kernel
theorem dL_law_599 : decode cL_law 599 = .ok (.iadd, 1) := by decide +kernel
theorem dL_law_600 : decode cL_law 600 = .ok (.iaload, 1) := by decide +kernel
theorem dL_law_601 : decode cL_law 601 = .ok (.invokevirtual 70, 3) := by decide +kernel
theorem dL_law_604 : decode cL_law 604 = .ok (.if_icmp .eq 420, 3) := by decide +kernel
theorem dL_law_607 : decode cL_law 607 = .ok (.iconst 0, 1) := by decide +kernel
theorem dL_law_608 : decode cL_law 608 = .ok (.ireturn, 1) := by decide +kernel
theorem dL_law_609 : decode cL_law 609 = .ok (.aload_n 1, 1) := by decide +kernel
theorem dL_law_610 : decode cL_law 610 = .ok (.aload_n 0, 1) := by decide +kernel
theorem dL_law_611 : decode cL_law 611 = .ok (.iload_n 3, 1) := by decide +kernel
theorem dL_law_612 : decode cL_law 612 = .ok (.iconst 1, 1) := by decide +kernel
theorem dL_law_613 : decode cL_law 613 = .ok (.iadd, 1) := by decide +kernel
theorem dL_law_614 : decode cL_law 614 = .ok (.iaload, 1) := by decide +kernel
theorem dL_law_615 : decode cL_law 615 = .ok (.aload_n 0, 1) := by decide +kernel
theorem dL_law_616 : decode cL_law 616 = .ok (.iload_n 3, 1) := by decide +kernel
theorem dL_law_617 : decode cL_law 617 = .ok (.iconst 2, 1) := by decide +kernel
theorem dL_law_618 : decode cL_law 618 = .ok (.iadd, 1) := by decide +kernel
theorem dL_law_619 : decode cL_law 619 = .ok (.iaload, 1) := by decide +kernel
theorem dL_law_620 : decode cL_law 620 = .ok (.invokevirtual 71, 3) := by decide +kernel
theorem dL_law_623 : decode cL_law 623 = .ok (.aload_n 2, 1) := by decide +kernel
theorem dL_law_624 : decode cL_law 624 = .ok (.aload_n 0, 1) := by decide +kernel
theorem dL_law_625 : decode cL_law 625 = .ok (.iload_n 3, 1) := by decide +kernel
theorem dL_law_626 : decode cL_law 626 = .ok (.iconst 1, 1) := by decide +kernel
theorem dL_law_627 : decode cL_law 627 = .ok (.iadd, 1) := by decide +kernel
theorem dL_law_628 : decode cL_law 628 = .ok (.iaload, 1) := by decide +kernel
theorem dL_law_629 : decode cL_law 629 = .ok (.aload_n 0, 1) := by decide +kernel
theorem dL_law_630 : decode cL_law 630 = .ok (.iload_n 3, 1) := by decide +kernel
theorem dL_law_631 : decode cL_law 631 = .ok (.iconst 2, 1) := by decide +kernel
theorem dL_law_632 : decode cL_law 632 = .ok (.iadd, 1) := by decide +kernel
theorem dL_law_633 : decode cL_law 633 = .ok (.iaload, 1) := by decide +kernel
theorem dL_law_634 : decode cL_law 634 = .ok (.invokevirtual 74, 3) := by decide +kernel
theorem dL_law_637 : decode cL_law 637 = .ok (.if_icmp .eq 387, 3) := by decide +kernel
theorem dL_law_640 : decode cL_law 640 = .ok (.iconst 0, 1) := by decide +kernel
theorem dL_law_641 : decode cL_law 641 = .ok (.ireturn, 1) := by decide +kernel
theorem dL_law_642 : decode cL_law 642 = .ok (.aload_n 1, 1) := by decide +kernel
theorem dL_law_643 : decode cL_law 643 = .ok (.invokevirtual 75, 3) := by decide +kernel
theorem dL_law_646 : decode cL_law 646 = .ok (.aload_n 2, 1) := by decide +kernel
theorem dL_law_647 : decode cL_law 647 = .ok (.invokevirtual 78, 3) := by decide +kernel
theorem dL_law_650 : decode cL_law 650 = .ok (.if_icmp .eq 374, 3) := by decide +kernel
theorem dL_law_653 : decode cL_law 653 = .ok (.iconst 0, 1) := by decide +kernel
theorem dL_law_654 : decode cL_law 654 = .ok (.ireturn, 1) := by decide +kernel
theorem dL_law_655 : decode cL_law 655 = .ok (.aload_n 1, 1) := by decide +kernel
theorem dL_law_656 : decode cL_law 656 = .ok (.aload_n 0, 1) := by decide +kernel
theorem dL_law_657 : decode cL_law 657 = .ok (.iload_n 3, 1) := by decide +kernel
theorem dL_law_658 : decode cL_law 658 = .ok (.iconst 1, 1) := by decide +kernel
theorem dL_law_659 : decode cL_law 659 = .ok (.iadd, 1) := by decide +kernel
theorem dL_law_660 : decode cL_law 660 = .ok (.iaload, 1) := by decide +kernel
theorem dL_law_661 : decode cL_law 661 = .ok (.invokevirtual 79, 3) := by decide +kernel
theorem dL_law_664 : decode cL_law 664 = .ok (.aload_n 2, 1) := by decide +kernel
theorem dL_law_665 : decode cL_law 665 = .ok (.aload_n 0, 1) := by decide +kernel
theorem dL_law_666 : decode cL_law 666 = .ok (.iload_n 3, 1) := by decide +kernel
theorem dL_law_667 : decode cL_law 667 = .ok (.iconst 1, 1) := by decide +kernel
theorem dL_law_668 : decode cL_law 668 = .ok (.iadd, 1) := by decide +kernel
theorem dL_law_669 : decode cL_law 669 = .ok (.iaload, 1) := by decide +kernel
theorem dL_law_670 : decode cL_law 670 = .ok (.invokevirtual 82, 3) := by decide +kernel
theorem dL_law_673 : decode cL_law 673 = .ok (.if_icmp .eq 351, 3) := by decide +kernel
theorem dL_law_676 : decode cL_law 676 = .ok (.iconst 0, 1) := by decide +kernel
theorem dL_law_677 : decode cL_law 677 = .ok (.ireturn, 1) := by decide +kernel
theorem dL_law_678 : decode cL_law 678 = .ok (.aload_n 1, 1) := by decide +kernel
theorem dL_law_679 : decode cL_law 679 = .ok (.aload_n 0, 1) := by decide +kernel
theorem dL_law_680 : decode cL_law 680 = .ok (.iload_n 3, 1) := by decide +kernel
theorem dL_law_681 : decode cL_law 681 = .ok (.iconst 1, 1) := by decide +kernel
theorem dL_law_682 : decode cL_law 682 = .ok (.iadd, 1) := by decide +kernel
theorem dL_law_683 : decode cL_law 683 = .ok (.iaload, 1) := by decide +kernel
theorem dL_law_684 : decode cL_law 684 = .ok (.aload_n 0, 1) := by decide +kernel
theorem dL_law_685 : decode cL_law 685 = .ok (.iload_n 3, 1) := by decide +kernel
theorem dL_law_686 : decode cL_law 686 = .ok (.iconst 2, 1) := by decide +kernel
theorem dL_law_687 : decode cL_law 687 = .ok (.iadd, 1) := by decide +kernel
theorem dL_law_688 : decode cL_law 688 = .ok (.iaload, 1) := by decide +kernel
theorem dL_law_689 : decode cL_law 689 = .ok (.invokevirtual 83, 3) := by decide +kernel
theorem dL_law_692 : decode cL_law 692 = .ok (.aload_n 2, 1) := by decide +kernel
theorem dL_law_693 : decode cL_law 693 = .ok (.aload_n 0, 1) := by decide +kernel
theorem dL_law_694 : decode cL_law 694 = .ok (.iload_n 3, 1) := by decide +kernel
theorem dL_law_695 : decode cL_law 695 = .ok (.iconst 1, 1) := by decide +kernel
theorem dL_law_696 : decode cL_law 696 = .ok (.iadd, 1) := by decide +kernel
theorem dL_law_697 : decode cL_law 697 = .ok (.iaload, 1) := by decide +kernel
theorem dL_law_698 : decode cL_law 698 = .ok (.aload_n 0, 1) := by decide +kernel
theorem dL_law_699 : decode cL_law 699 = .ok (.iload_n 3, 1) := by decide +kernel
theorem dL_law_700 : decode cL_law 700 = .ok (.iconst 2, 1) := by decide +kernel
theorem dL_law_701 : decode cL_law 701 = .ok (.iadd, 1) := by decide +kernel
theorem dL_law_702 : decode cL_law 702 = .ok (.iaload, 1) := by decide +kernel
theorem dL_law_703 : decode cL_law 703 = .ok (.invokevirtual 86, 3) := by decide +kernel
theorem dL_law_706 : decode cL_law 706 = .ok (.if_icmp .eq 318, 3) := by decide +kernel
theorem dL_law_709 : decode cL_law 709 = .ok (.iconst 0, 1) := by decide +kernel
theorem dL_law_710 : decode cL_law 710 = .ok (.ireturn, 1) := by decide +kernel
theorem dL_law_711 : decode cL_law 711 = .ok (.aload_n 1, 1) := by decide +kernel
theorem dL_law_712 : decode cL_law 712 = .ok (.aload_n 0, 1) := by decide +kernel
theorem dL_law_713 : decode cL_law 713 = .ok (.iload_n 3, 1) := by decide +kernel
theorem dL_law_714 : decode cL_law 714 = .ok (.iconst 1, 1) := by decide +kernel
theorem dL_law_715 : decode cL_law 715 = .ok (.iadd, 1) := by decide +kernel
theorem dL_law_716 : decode cL_law 716 = .ok (.iaload, 1) := by decide +kernel
theorem dL_law_717 : decode cL_law 717 = .ok (.invokevirtual 87, 3) := by decide +kernel
theorem dL_law_720 : decode cL_law 720 = .ok (.aload_n 2, 1) := by decide +kernel
theorem dL_law_721 : decode cL_law 721 = .ok (.aload_n 0, 1) := by decide +kernel
theorem dL_law_722 : decode cL_law 722 = .ok (.iload_n 3, 1) := by decide +kernel
theorem dL_law_723 : decode cL_law 723 = .ok (.iconst 1, 1) := by decide +kernel
theorem dL_law_724 : decode cL_law 724 = .ok (.iadd, 1) := by decide +kernel
theorem dL_law_725 : decode cL_law 725 = .ok (.iaload, 1) := by decide +kernel
theorem dL_law_726 : decode cL_law 726 = .ok (.invokevirtual 90, 3) := by decide +kernel
theorem dL_law_729 : decode cL_law 729 = .ok (.if_icmp .eq 295, 3) := by decide +kernel
theorem dL_law_732 : decode cL_law 732 = .ok (.iconst 0, 1) := by decide +kernel
theorem dL_law_733 : decode cL_law 733 = .ok (.ireturn, 1) := by decide +kernel
theorem dL_law_734 : decode cL_law 734 = .ok (.aload_n 1, 1) := by decide +kernel
theorem dL_law_735 : decode cL_law 735 = .ok (.aload_n 0, 1) := by decide +kernel
theorem dL_law_736 : decode cL_law 736 = .ok (.iload_n 3, 1) := by decide +kernel
theorem dL_law_737 : decode cL_law 737 = .ok (.iconst 1, 1) := by decide +kernel
theorem dL_law_738 : decode cL_law 738 = .ok (.iadd, 1) := by decide +kernel
theorem dL_law_739 : decode cL_law 739 = .ok (.iaload, 1) := by decide +kernel
theorem dL_law_740 : decode cL_law 740 = .ok (.invokevirtual 91, 3) := by decide +kernel
theorem dL_law_743 : decode cL_law 743 = .ok (.aload_n 2, 1) := by decide +kernel
theorem dL_law_744 : decode cL_law 744 = .ok (.aload_n 0, 1) := by decide +kernel
theorem dL_law_745 : decode cL_law 745 = .ok (.iload_n 3, 1) := by decide +kernel
theorem dL_law_746 : decode cL_law 746 = .ok (.iconst 1, 1) := by decide +kernel
theorem dL_law_747 : decode cL_law 747 = .ok (.iadd, 1) := by decide +kernel
theorem dL_law_748 : decode cL_law 748 = .ok (.iaload, 1) := by decide +kernel
theorem dL_law_749 : decode cL_law 749 = .ok (.invokevirtual 94, 3) := by decide +kernel
theorem dL_law_752 : decode cL_law 752 = .ok (.if_icmp .eq 272, 3) := by decide +kernel
theorem dL_law_755 : decode cL_law 755 = .ok (.iconst 0, 1) := by decide +kernel
theorem dL_law_756 : decode cL_law 756 = .ok (.ireturn, 1) := by decide +kernel
theorem dL_law_757 : decode cL_law 757 = .ok (.aload_n 1, 1) := by decide +kernel
theorem dL_law_758 : decode cL_law 758 = .ok (.aload_n 0, 1) := by decide +kernel
theorem dL_law_759 : decode cL_law 759 = .ok (.iload_n 3, 1) := by decide +kernel
theorem dL_law_760 : decode cL_law 760 = .ok (.iconst 1, 1) := by decide +kernel
theorem dL_law_761 : decode cL_law 761 = .ok (.iadd, 1) := by decide +kernel
theorem dL_law_762 : decode cL_law 762 = .ok (.iaload, 1) := by decide +kernel
theorem dL_law_763 : decode cL_law 763 = .ok (.invokevirtual 95, 3) := by decide +kernel
theorem dL_law_766 : decode cL_law 766 = .ok (.aload_n 2, 1) := by decide +kernel
theorem dL_law_767 : decode cL_law 767 = .ok (.aload_n 0, 1) := by decide +kernel
theorem dL_law_768 : decode cL_law 768 = .ok (.iload_n 3, 1) := by decide +kernel
theorem dL_law_769 : decode cL_law 769 = .ok (.iconst 1, 1) := by decide +kernel
theorem dL_law_770 : decode cL_law 770 = .ok (.iadd, 1) := by decide +kernel
theorem dL_law_771 : decode cL_law 771 = .ok (.iaload, 1) := by decide +kernel
theorem dL_law_772 : decode cL_law 772 = .ok (.invokevirtual 98, 3) := by decide +kernel
theorem dL_law_775 : decode cL_law 775 = .ok (.if_icmp .eq 249, 3) := by decide +kernel
theorem dL_law_778 : decode cL_law 778 = .ok (.iconst 0, 1) := by decide +kernel
theorem dL_law_779 : decode cL_law 779 = .ok (.ireturn, 1) := by decide +kernel
theorem dL_law_780 : decode cL_law 780 = .ok (.aload_n 1, 1) := by decide +kernel
theorem dL_law_781 : decode cL_law 781 = .ok (.aload_n 0, 1) := by decide +kernel
theorem dL_law_782 : decode cL_law 782 = .ok (.iload_n 3, 1) := by decide +kernel
theorem dL_law_783 : decode cL_law 783 = .ok (.iconst 1, 1) := by decide +kernel
theorem dL_law_784 : decode cL_law 784 = .ok (.iadd, 1) := by decide +kernel
theorem dL_law_785 : decode cL_law 785 = .ok (.iaload, 1) := by decide +kernel
theorem dL_law_786 : decode cL_law 786 = .ok (.invokevirtual 99, 3) := by decide +kernel
theorem dL_law_789 : decode cL_law 789 = .ok (.aload_n 2, 1) := by decide +kernel
theorem dL_law_790 : decode cL_law 790 = .ok (.aload_n 0, 1) := by decide +kernel
theorem dL_law_791 : decode cL_law 791 = .ok (.iload_n 3, 1) := by decide +kernel
theorem dL_law_792 : decode cL_law 792 = .ok (.iconst 1, 1) := by decide +kernel
theorem dL_law_793 : decode cL_law 793 = .ok (.iadd, 1) := by decide +kernel
theorem dL_law_794 : decode cL_law 794 = .ok (.iaload, 1) := by decide +kernel
theorem dL_law_795 : decode cL_law 795 = .ok (.invokevirtual 102, 3) := by decide +kernel
theorem dL_law_798 : decode cL_law 798 = .ok (.if_icmp .eq 226, 3) := by decide +kernel
theorem dL_law_801 : decode cL_law 801 = .ok (.iconst 0, 1) := by decide +kernel
theorem dL_law_802 : decode cL_law 802 = .ok (.ireturn, 1) := by decide +kernel
theorem dL_law_803 : decode cL_law 803 = .ok (.aload_n 1, 1) := by decide +kernel
theorem dL_law_804 : decode cL_law 804 = .ok (.aload_n 0, 1) := by decide +kernel
theorem dL_law_805 : decode cL_law 805 = .ok (.iload_n 3, 1) := by decide +kernel
theorem dL_law_806 : decode cL_law 806 = .ok (.iconst 1, 1) := by decide +kernel
theorem dL_law_807 : decode cL_law 807 = .ok (.iadd, 1) := by decide +kernel
theorem dL_law_808 : decode cL_law 808 = .ok (.iaload, 1) := by decide +kernel
theorem dL_law_809 : decode cL_law 809 = .ok (.aload_n 0, 1) := by decide +kernel
theorem dL_law_810 : decode cL_law 810 = .ok (.iload_n 3, 1) := by decide +kernel
theorem dL_law_811 : decode cL_law 811 = .ok (.iconst 2, 1) := by decide +kernel
theorem dL_law_812 : decode cL_law 812 = .ok (.iadd, 1) := by decide +kernel
theorem dL_law_813 : decode cL_law 813 = .ok (.iaload, 1) := by decide +kernel
theorem dL_law_814 : decode cL_law 814 = .ok (.invokevirtual 103, 3) := by decide +kernel
theorem dL_law_817 : decode cL_law 817 = .ok (.aload_n 2, 1) := by decide +kernel
theorem dL_law_818 : decode cL_law 818 = .ok (.aload_n 0, 1) := by decide +kernel
theorem dL_law_819 : decode cL_law 819 = .ok (.iload_n 3, 1) := by decide +kernel
theorem dL_law_820 : decode cL_law 820 = .ok (.iconst 1, 1) := by decide +kernel
theorem dL_law_821 : decode cL_law 821 = .ok (.iadd, 1) := by decide +kernel
theorem dL_law_822 : decode cL_law 822 = .ok (.iaload, 1) := by decide +kernel
theorem dL_law_823 : decode cL_law 823 = .ok (.aload_n 0, 1) := by decide +kernel
theorem dL_law_824 : decode cL_law 824 = .ok (.iload_n 3, 1) := by decide +kernel
theorem dL_law_825 : decode cL_law 825 = .ok (.iconst 2, 1) := by decide +kernel
theorem dL_law_826 : decode cL_law 826 = .ok (.iadd, 1) := by decide +kernel
theorem dL_law_827 : decode cL_law 827 = .ok (.iaload, 1) := by decide +kernel
theorem dL_law_828 : decode cL_law 828 = .ok (.invokevirtual 106, 3) := by decide +kernel
theorem dL_law_831 : decode cL_law 831 = .ok (.if_icmp .eq 193, 3) := by decide +kernel
theorem dL_law_834 : decode cL_law 834 = .ok (.iconst 0, 1) := by decide +kernel
theorem dL_law_835 : decode cL_law 835 = .ok (.ireturn, 1) := by decide +kernel
theorem dL_law_836 : decode cL_law 836 = .ok (.aload_n 1, 1) := by decide +kernel
theorem dL_law_837 : decode cL_law 837 = .ok (.aload_n 0, 1) := by decide +kernel
theorem dL_law_838 : decode cL_law 838 = .ok (.iload_n 3, 1) := by decide +kernel
theorem dL_law_839 : decode cL_law 839 = .ok (.iconst 1, 1) := by decide +kernel
theorem dL_law_840 : decode cL_law 840 = .ok (.iadd, 1) := by decide +kernel
theorem dL_law_841 : decode cL_law 841 = .ok (.iaload, 1) := by decide +kernel
theorem dL_law_842 : decode cL_law 842 = .ok (.aload_n 0, 1) := by decide +kernel
theorem dL_law_843 : decode cL_law 843 = .ok (.iload_n 3, 1) := by decide +kernel
theorem dL_law_844 : decode cL_law 844 = .ok (.iconst 2, 1) := by decide +kernel
theorem dL_law_845 : decode cL_law 845 = .ok (.iadd, 1) := by decide +kernel
theorem dL_law_846 : decode cL_law 846 = .ok (.iaload, 1) := by decide +kernel
theorem dL_law_847 : decode cL_law 847 = .ok (.invokevirtual 107, 3) := by decide +kernel
theorem dL_law_850 : decode cL_law 850 = .ok (.aload_n 2, 1) := by decide +kernel
theorem dL_law_851 : decode cL_law 851 = .ok (.aload_n 0, 1) := by decide +kernel
theorem dL_law_852 : decode cL_law 852 = .ok (.iload_n 3, 1) := by decide +kernel
theorem dL_law_853 : decode cL_law 853 = .ok (.iconst 1, 1) := by decide +kernel
theorem dL_law_854 : decode cL_law 854 = .ok (.iadd, 1) := by decide +kernel
theorem dL_law_855 : decode cL_law 855 = .ok (.iaload, 1) := by decide +kernel
theorem dL_law_856 : decode cL_law 856 = .ok (.aload_n 0, 1) := by decide +kernel
theorem dL_law_857 : decode cL_law 857 = .ok (.iload_n 3, 1) := by decide +kernel
theorem dL_law_858 : decode cL_law 858 = .ok (.iconst 2, 1) := by decide +kernel
theorem dL_law_859 : decode cL_law 859 = .ok (.iadd, 1) := by decide +kernel
theorem dL_law_860 : decode cL_law 860 = .ok (.iaload, 1) := by decide +kernel
theorem dL_law_861 : decode cL_law 861 = .ok (.invokevirtual 110, 3) := by decide +kernel
theorem dL_law_864 : decode cL_law 864 = .ok (.if_icmp .eq 160, 3) := by decide +kernel
theorem dL_law_867 : decode cL_law 867 = .ok (.iconst 0, 1) := by decide +kernel
theorem dL_law_868 : decode cL_law 868 = .ok (.ireturn, 1) := by decide +kernel
theorem dL_law_869 : decode cL_law 869 = .ok (.aload_n 1, 1) := by decide +kernel
theorem dL_law_870 : decode cL_law 870 = .ok (.aload_n 0, 1) := by decide +kernel
theorem dL_law_871 : decode cL_law 871 = .ok (.iload_n 3, 1) := by decide +kernel
theorem dL_law_872 : decode cL_law 872 = .ok (.iconst 1, 1) := by decide +kernel
theorem dL_law_873 : decode cL_law 873 = .ok (.iadd, 1) := by decide +kernel
theorem dL_law_874 : decode cL_law 874 = .ok (.iaload, 1) := by decide +kernel
theorem dL_law_875 : decode cL_law 875 = .ok (.aload_n 0, 1) := by decide +kernel
theorem dL_law_876 : decode cL_law 876 = .ok (.iload_n 3, 1) := by decide +kernel
theorem dL_law_877 : decode cL_law 877 = .ok (.iconst 2, 1) := by decide +kernel
theorem dL_law_878 : decode cL_law 878 = .ok (.iadd, 1) := by decide +kernel
theorem dL_law_879 : decode cL_law 879 = .ok (.iaload, 1) := by decide +kernel
theorem dL_law_880 : decode cL_law 880 = .ok (.invokevirtual 111, 3) := by decide +kernel
theorem dL_law_883 : decode cL_law 883 = .ok (.aload_n 2, 1) := by decide +kernel
theorem dL_law_884 : decode cL_law 884 = .ok (.aload_n 0, 1) := by decide +kernel
theorem dL_law_885 : decode cL_law 885 = .ok (.iload_n 3, 1) := by decide +kernel
theorem dL_law_886 : decode cL_law 886 = .ok (.iconst 1, 1) := by decide +kernel
theorem dL_law_887 : decode cL_law 887 = .ok (.iadd, 1) := by decide +kernel
theorem dL_law_888 : decode cL_law 888 = .ok (.iaload, 1) := by decide +kernel
theorem dL_law_889 : decode cL_law 889 = .ok (.aload_n 0, 1) := by decide +kernel
theorem dL_law_890 : decode cL_law 890 = .ok (.iload_n 3, 1) := by decide +kernel
theorem dL_law_891 : decode cL_law 891 = .ok (.iconst 2, 1) := by decide +kernel
theorem dL_law_892 : decode cL_law 892 = .ok (.iadd, 1) := by decide +kernel
theorem dL_law_893 : decode cL_law 893 = .ok (.iaload, 1) := by decide +kernel
theorem dL_law_894 : decode cL_law 894 = .ok (.invokevirtual 114, 3) := by decide +kernel
theorem dL_law_897 : decode cL_law 897 = .ok (.if_icmp .eq 127, 3) := by decide +kernel
theorem dL_law_900 : decode cL_law 900 = .ok (.iconst 0, 1) := by decide +kernel
theorem dL_law_901 : decode cL_law 901 = .ok (.ireturn, 1) := by decide +kernel
theorem dL_law_902 : decode cL_law 902 = .ok (.aload_n 1, 1) := by decide +kernel
theorem dL_law_903 : decode cL_law 903 = .ok (.aload_n 0, 1) := by decide +kernel
theorem dL_law_904 : decode cL_law 904 = .ok (.iload_n 3, 1) := by decide +kernel
theorem dL_law_905 : decode cL_law 905 = .ok (.iconst 1, 1) := by decide +kernel
theorem dL_law_906 : decode cL_law 906 = .ok (.iadd, 1) := by decide +kernel
theorem dL_law_907 : decode cL_law 907 = .ok (.iaload, 1) := by decide +kernel
theorem dL_law_908 : decode cL_law 908 = .ok (.invokevirtual 115, 3) := by decide +kernel
theorem dL_law_911 : decode cL_law 911 = .ok (.aload_n 2, 1) := by decide +kernel
theorem dL_law_912 : decode cL_law 912 = .ok (.aload_n 0, 1) := by decide +kernel
theorem dL_law_913 : decode cL_law 913 = .ok (.iload_n 3, 1) := by decide +kernel
theorem dL_law_914 : decode cL_law 914 = .ok (.iconst 1, 1) := by decide +kernel
theorem dL_law_915 : decode cL_law 915 = .ok (.iadd, 1) := by decide +kernel
theorem dL_law_916 : decode cL_law 916 = .ok (.iaload, 1) := by decide +kernel
theorem dL_law_917 : decode cL_law 917 = .ok (.invokevirtual 118, 3) := by decide +kernel
theorem dL_law_920 : decode cL_law 920 = .ok (.if_icmp .eq 104, 3) := by decide +kernel
theorem dL_law_923 : decode cL_law 923 = .ok (.iconst 0, 1) := by decide +kernel
theorem dL_law_924 : decode cL_law 924 = .ok (.ireturn, 1) := by decide +kernel
theorem dL_law_925 : decode cL_law 925 = .ok (.aload_n 1, 1) := by decide +kernel
theorem dL_law_926 : decode cL_law 926 = .ok (.aload_n 0, 1) := by decide +kernel
theorem dL_law_927 : decode cL_law 927 = .ok (.iload_n 3, 1) := by decide +kernel
theorem dL_law_928 : decode cL_law 928 = .ok (.iconst 1, 1) := by decide +kernel
theorem dL_law_929 : decode cL_law 929 = .ok (.iadd, 1) := by decide +kernel
theorem dL_law_930 : decode cL_law 930 = .ok (.iaload, 1) := by decide +kernel
theorem dL_law_931 : decode cL_law 931 = .ok (.invokevirtual 119, 3) := by decide +kernel
theorem dL_law_934 : decode cL_law 934 = .ok (.aload_n 2, 1) := by decide +kernel
theorem dL_law_935 : decode cL_law 935 = .ok (.aload_n 0, 1) := by decide +kernel
theorem dL_law_936 : decode cL_law 936 = .ok (.iload_n 3, 1) := by decide +kernel
theorem dL_law_937 : decode cL_law 937 = .ok (.iconst 1, 1) := by decide +kernel
theorem dL_law_938 : decode cL_law 938 = .ok (.iadd, 1) := by decide +kernel
theorem dL_law_939 : decode cL_law 939 = .ok (.iaload, 1) := by decide +kernel
theorem dL_law_940 : decode cL_law 940 = .ok (.invokevirtual 122, 3) := by decide +kernel
theorem dL_law_943 : decode cL_law 943 = .ok (.if_icmp .eq 81, 3) := by decide +kernel
theorem dL_law_946 : decode cL_law 946 = .ok (.iconst 0, 1) := by decide +kernel
theorem dL_law_947 : decode cL_law 947 = .ok (.ireturn, 1) := by decide +kernel
theorem dL_law_948 : decode cL_law 948 = .ok (.aload_n 1, 1) := by decide +kernel
theorem dL_law_949 : decode cL_law 949 = .ok (.aload_n 0, 1) := by decide +kernel
theorem dL_law_950 : decode cL_law 950 = .ok (.iload_n 3, 1) := by decide +kernel
theorem dL_law_951 : decode cL_law 951 = .ok (.iconst 1, 1) := by decide +kernel
theorem dL_law_952 : decode cL_law 952 = .ok (.iadd, 1) := by decide +kernel
theorem dL_law_953 : decode cL_law 953 = .ok (.iaload, 1) := by decide +kernel
theorem dL_law_954 : decode cL_law 954 = .ok (.aload_n 0, 1) := by decide +kernel
theorem dL_law_955 : decode cL_law 955 = .ok (.iload_n 3, 1) := by decide +kernel
theorem dL_law_956 : decode cL_law 956 = .ok (.iconst 2, 1) := by decide +kernel
theorem dL_law_957 : decode cL_law 957 = .ok (.iadd, 1) := by decide +kernel
theorem dL_law_958 : decode cL_law 958 = .ok (.iaload, 1) := by decide +kernel
theorem dL_law_959 : decode cL_law 959 = .ok (.aload_n 0, 1) := by decide +kernel
theorem dL_law_960 : decode cL_law 960 = .ok (.iload_n 3, 1) := by decide +kernel
theorem dL_law_961 : decode cL_law 961 = .ok (.iconst 3, 1) := by decide +kernel
theorem dL_law_962 : decode cL_law 962 = .ok (.iadd, 1) := by decide +kernel
theorem dL_law_963 : decode cL_law 963 = .ok (.iaload, 1) := by decide +kernel
theorem dL_law_964 : decode cL_law 964 = .ok (.invokevirtual 123, 3) := by decide +kernel
theorem dL_law_967 : decode cL_law 967 = .ok (.aload_n 2, 1) := by decide +kernel
theorem dL_law_968 : decode cL_law 968 = .ok (.aload_n 0, 1) := by decide +kernel
theorem dL_law_969 : decode cL_law 969 = .ok (.iload_n 3, 1) := by decide +kernel
theorem dL_law_970 : decode cL_law 970 = .ok (.iconst 1, 1) := by decide +kernel
theorem dL_law_971 : decode cL_law 971 = .ok (.iadd, 1) := by decide +kernel
theorem dL_law_972 : decode cL_law 972 = .ok (.iaload, 1) := by decide +kernel
theorem dL_law_973 : decode cL_law 973 = .ok (.aload_n 0, 1) := by decide +kernel
theorem dL_law_974 : decode cL_law 974 = .ok (.iload_n 3, 1) := by decide +kernel
theorem dL_law_975 : decode cL_law 975 = .ok (.iconst 2, 1) := by decide +kernel
theorem dL_law_976 : decode cL_law 976 = .ok (.iadd, 1) := by decide +kernel
theorem dL_law_977 : decode cL_law 977 = .ok (.iaload, 1) := by decide +kernel
theorem dL_law_978 : decode cL_law 978 = .ok (.aload_n 0, 1) := by decide +kernel
theorem dL_law_979 : decode cL_law 979 = .ok (.iload_n 3, 1) := by decide +kernel
theorem dL_law_980 : decode cL_law 980 = .ok (.iconst 3, 1) := by decide +kernel
theorem dL_law_981 : decode cL_law 981 = .ok (.iadd, 1) := by decide +kernel
theorem dL_law_982 : decode cL_law 982 = .ok (.iaload, 1) := by decide +kernel
theorem dL_law_983 : decode cL_law 983 = .ok (.invokevirtual 126, 3) := by decide +kernel
theorem dL_law_986 : decode cL_law 986 = .ok (.if_icmp .eq 38, 3) := by decide +kernel
theorem dL_law_989 : decode cL_law 989 = .ok (.iconst 0, 1) := by decide +kernel
theorem dL_law_990 : decode cL_law 990 = .ok (.ireturn, 1) := by decide +kernel
theorem dL_law_991 : decode cL_law 991 = .ok (.aload_n 1, 1) := by decide +kernel
theorem dL_law_992 : decode cL_law 992 = .ok (.aload_n 0, 1) := by decide +kernel
theorem dL_law_993 : decode cL_law 993 = .ok (.iload_n 3, 1) := by decide +kernel
theorem dL_law_994 : decode cL_law 994 = .ok (.iconst 1, 1) := by decide +kernel
theorem dL_law_995 : decode cL_law 995 = .ok (.iadd, 1) := by decide +kernel
theorem dL_law_996 : decode cL_law 996 = .ok (.iaload, 1) := by decide +kernel
theorem dL_law_997 : decode cL_law 997 = .ok (.aload_n 0, 1) := by decide +kernel
theorem dL_law_998 : decode cL_law 998 = .ok (.iload_n 3, 1) := by decide +kernel
theorem dL_law_999 : decode cL_law 999 = .ok (.iconst 2, 1) := by decide +kernel
theorem dL_law_1000 : decode cL_law 1000 = .ok (.iadd, 1) := by decide +kernel
theorem dL_law_1001 : decode cL_law 1001 = .ok (.iaload, 1) := by decide +kernel
theorem dL_law_1002 : decode cL_law 1002 = .ok (.invokevirtual 127, 3) := by decide +kernel
theorem dL_law_1005 : decode cL_law 1005 = .ok (.aload_n 2, 1) := by decide +kernel
theorem dL_law_1006 : decode cL_law 1006 = .ok (.aload_n 0, 1) := by decide +kernel
theorem dL_law_1007 : decode cL_law 1007 = .ok (.iload_n 3, 1) := by decide +kernel
theorem dL_law_1008 : decode cL_law 1008 = .ok (.iconst 1, 1) := by decide +kernel
theorem dL_law_1009 : decode cL_law 1009 = .ok (.iadd, 1) := by decide +kernel
theorem dL_law_1010 : decode cL_law 1010 = .ok (.iaload, 1) := by decide +kernel
theorem dL_law_1011 : decode cL_law 1011 = .ok (.aload_n 0, 1) := by decide +kernel
theorem dL_law_1012 : decode cL_law 1012 = .ok (.iload_n 3, 1) := by decide +kernel
theorem dL_law_1013 : decode cL_law 1013 = .ok (.iconst 2, 1) := by decide +kernel
theorem dL_law_1014 : decode cL_law 1014 = .ok (.iadd, 1) := by decide +kernel
theorem dL_law_1015 : decode cL_law 1015 = .ok (.iaload, 1) := by decide +kernel
theorem dL_law_1016 : decode cL_law 1016 = .ok (.invokevirtual 130, 3) := by decide +kernel
theorem dL_law_1019 : decode cL_law 1019 = .ok (.if_icmp .eq 5, 3) := by decide +kernel
theorem dL_law_1022 : decode cL_law 1022 = .ok (.iconst 0, 1) := by decide +kernel
theorem dL_law_1023 : decode cL_law 1023 = .ok (.ireturn, 1) := by decide +kernel
theorem dL_law_1024 : decode cL_law 1024 = .ok (.iinc 3 6, 3) := by decide +kernel
theorem dL_law_1027 : decode cL_law 1027 = .ok (.goto (-1009), 3) := by decide +kernel
theorem dL_law_1030 : decode cL_law 1030 = .ok (.iconst 1, 1) := by decide +kernel
theorem dL_law_1031 : decode cL_law 1031 = .ok (.ireturn, 1) := by decide +kernel
theorem dJ6_bitCount_0f7a4_0 : decode cJ6_bitCount_0f7a4 0 = .ok (.iload_n 0, 1) := by decide +kernel
theorem dJ6_bitCount_0f7a4_1 : decode cJ6_bitCount_0f7a4 1 = .ok (.iload_n 0, 1) := by decide +kernel
theorem dJ6_bitCount_0f7a4_2 : decode cJ6_bitCount_0f7a4 2 = .ok (.iconst 1, 1) := by decide +kernel
theorem dJ6_bitCount_0f7a4_3 : decode cJ6_bitCount_0f7a4 3 = .ok (.iushr, 1) := by decide +kernel
theorem dJ6_bitCount_0f7a4_4 : decode cJ6_bitCount_0f7a4 4 = .ok (.ldc_w 265, 3) := by decide +kernel
theorem dJ6_bitCount_0f7a4_7 : decode cJ6_bitCount_0f7a4 7 = .ok (.iand, 1) := by decide +kernel
theorem dJ6_bitCount_0f7a4_8 : decode cJ6_bitCount_0f7a4 8 = .ok (.isub, 1) := by decide +kernel
theorem dJ6_bitCount_0f7a4_9 : decode cJ6_bitCount_0f7a4 9 = .ok (.istore_n 0, 1) := by decide +kernel
theorem dJ6_bitCount_0f7a4_10 : decode cJ6_bitCount_0f7a4 10 = .ok (.iload_n 0, 1) := by decide +kernel
theorem dJ6_bitCount_0f7a4_11 : decode cJ6_bitCount_0f7a4 11 = .ok (.ldc_w 266, 3) := by decide +kernel
theorem dJ6_bitCount_0f7a4_14 : decode cJ6_bitCount_0f7a4 14 = .ok (.iand, 1) := by decide +kernel
theorem dJ6_bitCount_0f7a4_15 : decode cJ6_bitCount_0f7a4 15 = .ok (.iload_n 0, 1) := by decide +kernel
theorem dJ6_bitCount_0f7a4_16 : decode cJ6_bitCount_0f7a4 16 = .ok (.iconst 2, 1) := by decide +kernel
theorem dJ6_bitCount_0f7a4_17 : decode cJ6_bitCount_0f7a4 17 = .ok (.iushr, 1) := by decide +kernel
theorem dJ6_bitCount_0f7a4_18 : decode cJ6_bitCount_0f7a4 18 = .ok (.ldc_w 266, 3) := by decide +kernel
theorem dJ6_bitCount_0f7a4_21 : decode cJ6_bitCount_0f7a4 21 = .ok (.iand, 1) := by decide +kernel
theorem dJ6_bitCount_0f7a4_22 : decode cJ6_bitCount_0f7a4 22 = .ok (.iadd, 1) := by decide +kernel
theorem dJ6_bitCount_0f7a4_23 : decode cJ6_bitCount_0f7a4 23 = .ok (.istore_n 0, 1) := by decide +kernel
theorem dJ6_bitCount_0f7a4_24 : decode cJ6_bitCount_0f7a4 24 = .ok (.iload_n 0, 1) := by decide +kernel
theorem dJ6_bitCount_0f7a4_25 : decode cJ6_bitCount_0f7a4 25 = .ok (.iload_n 0, 1) := by decide +kernel
theorem dJ6_bitCount_0f7a4_26 : decode cJ6_bitCount_0f7a4 26 = .ok (.iconst 4, 1) := by decide +kernel
end
section
theorem dJ6_bitCount_0f7a4_27 : decode cJ6_bitCount_0f7a4 27 = .ok (.iushr, 1) := by decide +kernel
theorem dJ6_bitCount_0f7a4_28 : decode cJ6_bitCount_0f7a4 28 = .ok (.iadd, 1) := by decide +kernel
theorem dJ6_bitCount_0f7a4_29 : decode cJ6_bitCount_0f7a4 29 = .ok (.ldc_w 267, 3) := by decide +kernel
theorem dJ6_bitCount_0f7a4_32 : decode cJ6_bitCount_0f7a4 32 = .ok (.iand, 1) := by decide +kernel
theorem dJ6_bitCount_0f7a4_33 : decode cJ6_bitCount_0f7a4 33 = .ok (.istore_n 0, 1) := by decide +kernel
theorem dJ6_bitCount_0f7a4_34 : decode cJ6_bitCount_0f7a4 34 = .ok (.iload_n 0, 1) := by decide +kernel
theorem dJ6_bitCount_0f7a4_35 : decode cJ6_bitCount_0f7a4 35 = .ok (.iload_n 0, 1) := by decide +kernel
theorem dJ6_bitCount_0f7a4_36 : decode cJ6_bitCount_0f7a4 36 = .ok (.bipush 8, 2) := by decide +kernel
theorem dJ6_bitCount_0f7a4_38 : decode cJ6_bitCount_0f7a4 38 = .ok (.iushr, 1) := by decide +kernel
theorem dJ6_bitCount_0f7a4_39 : decode cJ6_bitCount_0f7a4 39 = .ok (.iadd, 1) := by decide +kernel
theorem dJ6_bitCount_0f7a4_40 : decode cJ6_bitCount_0f7a4 40 = .ok (.istore_n 0, 1) := by decide +kernel
theorem dJ6_bitCount_0f7a4_41 : decode cJ6_bitCount_0f7a4 41 = .ok (.iload_n 0, 1) := by decide +kernel
theorem dJ6_bitCount_0f7a4_42 : decode cJ6_bitCount_0f7a4 42 = .ok (.iload_n 0, 1) := by decide +kernel
theorem dJ6_bitCount_0f7a4_43 : decode cJ6_bitCount_0f7a4 43 = .ok (.bipush 16, 2) := by decide +kernel
theorem dJ6_bitCount_0f7a4_45 : decode cJ6_bitCount_0f7a4 45 = .ok (.iushr, 1) := by decide +kernel
theorem dJ6_bitCount_0f7a4_46 : decode cJ6_bitCount_0f7a4 46 = .ok (.iadd, 1) := by decide +kernel
theorem dJ6_bitCount_0f7a4_47 : decode cJ6_bitCount_0f7a4 47 = .ok (.istore_n 0, 1) := by decide +kernel
theorem dJ6_bitCount_0f7a4_48 : decode cJ6_bitCount_0f7a4 48 = .ok (.iload_n 0, 1) := by decide +kernel
theorem dJ6_bitCount_0f7a4_49 : decode cJ6_bitCount_0f7a4 49 = .ok (.bipush 63, 2) := by decide +kernel
theorem dJ6_bitCount_0f7a4_51 : decode cJ6_bitCount_0f7a4 51 = .ok (.iand, 1) := by decide +kernel
theorem dJ6_bitCount_0f7a4_52 : decode cJ6_bitCount_0f7a4 52 = .ok (.ireturn, 1) := by decide +kernel
theorem dJ7_fill_53178_0 : decode cJ7_fill_53178 0 = .ok (.iconst 0, 1) := by decide +kernel
theorem dJ7_fill_53178_1 : decode cJ7_fill_53178 1 = .ok (.istore_n 2, 1) := by decide +kernel
theorem dJ7_fill_53178_2 : decode cJ7_fill_53178 2 = .ok (.aload_n 0, 1) := by decide +kernel
theorem dJ7_fill_53178_3 : decode cJ7_fill_53178 3 = .ok (.arraylength, 1) := by decide +kernel
theorem dJ7_fill_53178_4 : decode cJ7_fill_53178 4 = .ok (.istore_n 3, 1) := by decide +kernel
theorem dJ7_fill_53178_5 : decode cJ7_fill_53178 5 = .ok (.iload_n 2, 1) := by decide +kernel
theorem dJ7_fill_53178_6 : decode cJ7_fill_53178 6 = .ok (.iload_n 3, 1) := by decide +kernel
theorem dJ7_fill_53178_7 : decode cJ7_fill_53178 7 = .ok (.if_icmp .ge 13, 3) := by decide +kernel
theorem dJ7_fill_53178_10 : decode cJ7_fill_53178 10 = .ok (.aload_n 0, 1) := by decide +kernel
theorem dJ7_fill_53178_11 : decode cJ7_fill_53178 11 = .ok (.iload_n 2, 1) := by decide +kernel
theorem dJ7_fill_53178_12 : decode cJ7_fill_53178 12 = .ok (.iload_n 1, 1) := by decide +kernel
theorem dJ7_fill_53178_13 : decode cJ7_fill_53178 13 = .ok (.iastore, 1) := by decide +kernel
theorem dJ7_fill_53178_14 : decode cJ7_fill_53178 14 = .ok (.iinc 2 1, 3) := by decide +kernel
theorem dJ7_fill_53178_17 : decode cJ7_fill_53178 17 = .ok (.goto (-12), 3) := by decide +kernel
theorem dJ7_fill_53178_20 : decode cJ7_fill_53178 20 = .ok (.return_, 1) := by decide +kernel
theorem dJ9_max_7cf53_0 : decode cJ9_max_7cf53 0 = .ok (.iload_n 0, 1) := by decide +kernel
theorem dJ9_max_7cf53_1 : decode cJ9_max_7cf53 1 = .ok (.iload_n 1, 1) := by decide +kernel
theorem dJ9_max_7cf53_2 : decode cJ9_max_7cf53 2 = .ok (.if_icmp .lt 7, 3) := by decide +kernel
theorem dJ9_max_7cf53_5 : decode cJ9_max_7cf53 5 = .ok (.iload_n 0, 1) := by decide +kernel
theorem dJ9_max_7cf53_6 : decode cJ9_max_7cf53 6 = .ok (.goto 4, 3) := by decide +kernel
theorem dJ9_max_7cf53_9 : decode cJ9_max_7cf53 9 = .ok (.iload_n 1, 1) := by decide +kernel
theorem dJ9_max_7cf53_10 : decode cJ9_max_7cf53 10 = .ok (.ireturn, 1) := by decide +kernel
theorem dJ9_min_7cf53_0 : decode cJ9_min_7cf53 0 = .ok (.iload_n 0, 1) := by decide +kernel
theorem dJ9_min_7cf53_1 : decode cJ9_min_7cf53 1 = .ok (.iload_n 1, 1) := by decide +kernel
theorem dJ9_min_7cf53_2 : decode cJ9_min_7cf53 2 = .ok (.if_icmp .gt 7, 3) := by decide +kernel
theorem dJ9_min_7cf53_5 : decode cJ9_min_7cf53 5 = .ok (.iload_n 0, 1) := by decide +kernel
theorem dJ9_min_7cf53_6 : decode cJ9_min_7cf53 6 = .ok (.goto 4, 3) := by decide +kernel
theorem dJ9_min_7cf53_9 : decode cJ9_min_7cf53 9 = .ok (.iload_n 1, 1) := by decide +kernel
theorem dJ9_min_7cf53_10 : decode cJ9_min_7cf53 10 = .ok (.ireturn, 1) := by decide +kernel
end
section
abbrev JMem : Type := Nat → Nat → Int32
abbrev JShp : Type := Nat × Nat × List (Option Nat)
/-- what the two constructors make, in the order of making: an object (0, its kind, its references), an int row (1, length), a boolean row (2), rows of rows (3: they follow it) -/
def jtopo : List JShp := [
(0, 7, [some 1, some 33, some 44, some 54, some 64, some 74, some 78, some 83, some 211, none]), (0, 2, [none, none, none, some 2, some 3, some 4, some 5, some 18, some 19, some 20, some 21, some 22, some 23, some 32]), (1, 8, []), (1, 8, []), (1, 12, []), (3, 12, []), (1, 8, []), (1, 8, []),
  (1, 8, []), (1, 8, []), (1, 8, []), (1, 8, []), (1, 8, []), (1, 8, []), (1, 8, []), (1, 8, []),
  (1, 8, []), (1, 8, []), (1, 12, []), (1, 32, []), (1, 32, []), (1, 32, []), (1, 32, []), (3, 8, []),
  (1, 32, []), (1, 32, []), (1, 32, []), (1, 32, []), (1, 32, []), (1, 32, []), (1, 32, []), (1, 32, []),
  (1, 8, []), (0, 3, [some 34, some 43]), (3, 8, []), (1, 32, []), (1, 32, []), (1, 32, []), (1, 32, []), (1, 32, []),
  (1, 32, []), (1, 32, []), (1, 32, []), (1, 8, []), (0, 5, [some 45, some 46, some 47, none]), (1, 6, []), (1, 6, []), (3, 6, []),
  (1, 40, []), (1, 40, []), (1, 40, []), (1, 40, []), (1, 40, []), (1, 40, []), (0, 1, [some 55, some 56, some 57, some 58, none, some 59, none, some 60, some 61, some 62, some 63]), (1, 32, []),
  (1, 32, []), (1, 32, []), (1, 8, []), (1, 32, []), (1, 32, []), (1, 12, []), (1, 8, []), (1, 4, []),
  (0, 1, [some 65, some 66, some 67, some 68, none, some 69, none, some 70, some 71, some 72, some 73]), (1, 32, []), (1, 32, []), (1, 32, []), (1, 8, []), (1, 32, []), (1, 32, []), (1, 12, []),
  (1, 8, []), (1, 4, []), (0, 6, [some 75, some 76, some 77, none, none, none]), (1, 32, []), (1, 32, []), (1, 32, []), (0, 0, [some 79, some 80, some 81, some 82, none]), (1, 32, []),
  (1, 32, []), (1, 32, []), (1, 32, []), (0, 4, [none, none, none, none, some 84, some 186, some 190, some 201]), (3, 101, []), (1, 32, []), (1, 32, []), (1, 32, []),
  (1, 32, []), (1, 32, []), (1, 32, []), (1, 32, []), (1, 32, []), (1, 32, []), (1, 32, []), (1, 32, []),
  (1, 32, []), (1, 32, []), (1, 32, []), (1, 32, []), (1, 32, []), (1, 32, []), (1, 32, []), (1, 32, []),
  (1, 32, []), (1, 32, []), (1, 32, []), (1, 32, []), (1, 32, []), (1, 32, []), (1, 32, []), (1, 32, []),
  (1, 32, []), (1, 32, []), (1, 32, []), (1, 32, []), (1, 32, []), (1, 32, []), (1, 32, []), (1, 32, []),
  (1, 32, []), (1, 32, []), (1, 32, []), (1, 32, []), (1, 32, []), (1, 32, []), (1, 32, []), (1, 32, []),
  (1, 32, []), (1, 32, []), (1, 32, []), (1, 32, []), (1, 32, []), (1, 32, []), (1, 32, []), (1, 32, []),
  (1, 32, []), (1, 32, []), (1, 32, []), (1, 32, []), (1, 32, []), (1, 32, []), (1, 32, []), (1, 32, []),
  (1, 32, []), (1, 32, []), (1, 32, []), (1, 32, []), (1, 32, []), (1, 32, []), (1, 32, []), (1, 32, []),
  (1, 32, []), (1, 32, []), (1, 32, []), (1, 32, []), (1, 32, []), (1, 32, []), (1, 32, []), (1, 32, []),
  (1, 32, []), (1, 32, []), (1, 32, []), (1, 32, []), (1, 32, []), (1, 32, []), (1, 32, []), (1, 32, []),
  (1, 32, []), (1, 32, []), (1, 32, []), (1, 32, []), (1, 32, []), (1, 32, []), (1, 32, []), (1, 32, []),
  (1, 32, []), (1, 32, []), (1, 32, []), (1, 32, []), (1, 32, []), (1, 32, []), (1, 32, []), (1, 32, []),
  (1, 32, []), (1, 32, []), (0, 6, [some 187, some 188, some 189, none, none, none]), (1, 32, []), (1, 32, []), (1, 32, []), (0, 3, [some 191, some 200]), (3, 8, []),
  (1, 32, []), (1, 32, []), (1, 32, []), (1, 32, []), (1, 32, []), (1, 32, []), (1, 32, []), (1, 32, []),
  (1, 8, []), (0, 1, [some 202, some 203, some 204, some 205, none, some 206, none, some 207, some 208, some 209, some 210]), (1, 32, []), (1, 32, []), (1, 32, []), (1, 8, []), (1, 32, []), (1, 32, []),
  (1, 12, []), (1, 8, []), (1, 4, []), (0, 1, [some 212, some 213, some 214, some 215, none, some 216, none, some 217, some 218, some 219, some 220]), (1, 32, []), (1, 32, []), (1, 32, []), (1, 8, []),
  (1, 32, []), (1, 32, []), (1, 12, []), (1, 8, []), (1, 4, []), (0, 8, [some 222, some 223, none, some 224, some 225, some 226, none, some 227, some 228, some 229, some 230, none, some 231, some 232, none, some 233, some 234, some 235, some 236, some 237, some 238, none, some 239, some 240, some 241, some 242, some 243, some 244, none, none, none, none, some 245, some 246, some 247, some 248, none, some 249, some 250, some 251, some 252, some 253, some 254, some 255, none, none, none, none, some 256, none, none, some 257, some 258]), (1, 8, []), (1, 8, []),
  (1, 12, []), (1, 12, []), (1, 96, []), (1, 32, []), (1, 32, []), (1, 32, []), (1, 32, []), (1, 256, []),
  (1, 8, []), (1, 6, []), (1, 6, []), (1, 240, []), (1, 40, []), (1, 32, []), (2, 32, []), (1, 32, []),
  (1, 32, []), (2, 256, []), (1, 32, []), (1, 32, []), (1, 32, []), (1, 32, []), (1, 32, []), (1, 32, []),
  (1, 32, []), (1, 32, []), (1, 32, []), (1, 32, []), (1, 9, []), (1, 9, []), (1, 9, []), (1, 6720, []),
  (1, 256, []), (1, 32, []), (2, 32, [])]

def jshp (k : Nat) : JShp := jtopo.getD k (9, 0, [])
def jSh (o : Nat) (s : JShp) : Prop := jtopo[o]? = some s
def jup (M : JMem) (a i : Nat) (v : Int32) : JMem := fun b => if b = a then upd (M b) i v else M b
/-- a row set whole -/
def jrow (M : JMem) (a : Nat) (f : Nat → Int32) : JMem := fun b => if b = a then f else M b
/-- the world's parameters: where the abstract cells lie, the classes and slots, the array classes int[], boolean[], int[][] -/
abbrev JWp : Type := (Nat → Nat) × va_G × ClassId × ClassId × ClassId
def jtr (φ : Nat → Nat) (v : Value) : Value := match v with
  | .ref k => .ref (φ k)
  | x => x
theorem jtr_cat (φ : Nat → Nat) (v : Value) : (jtr φ v).category = v.category := by cases v <;> rfl
def jfld (φ : Nat → Nat) (f : Nat → Int32) (fs : List (Option Nat)) : List Value := (List.range fs.length).map (fun j => match fs.getD j none with
  | some r => .ref (φ r)
  | none => .int (f j))
def jcel (w : JWp) (f : Nat → Int32) (k : Nat) : va_E :=
  if (jshp k).1 = 0 then .inr ((jshp k).2.1, jfld w.1 f (jshp k).2.2)
  else if (jshp k).1 = 1 then .inl (w.2.2.1, (jshp k).2.1, .inl f)
  else if (jshp k).1 = 2 then .inl (w.2.2.2.1, (jshp k).2.1, .inl f)
  else .inl (w.2.2.2.2, (jshp k).2.1, .inr (.inr (.inr (.inr (fun i => if i < (jshp k).2.1 then some (w.1 (k + 1 + i)) else none)))))
def jws (w : JWp) (M : JMem) : va_W := (List.range jtopo.length).map (fun k => (w.1 k, jcel w (M k) k))
def jtys (w : JWp) : List (ClassId × FieldType) := [(w.2.2.1, .int), (w.2.2.2.1, .boolean), (w.2.2.2.2, .array .int)]
def jin (w : JWp) : Nat → Prop := fun q => ∃ k, k < jtopo.length ∧ q = w.1 k
theorem jSh_lt {o : Nat} {s : JShp} (h : jSh o s) : o < jtopo.length := (List.getElem?_eq_some_iff.mp h).1
theorem jshp_of {o : Nat} {s : JShp} (h : jSh o s) : jshp o = s := by
  unfold jshp
  rw [List.getD_eq_getElem?_getD, h]
  rfl
theorem jws_len (w : JWp) (M : JMem) : (jws w M).length = jtopo.length := by simp [jws]
theorem jws_get (w : JWp) (M : JMem) {o : Nat} (h : o < jtopo.length) : (jws w M)[o]? = some (w.1 o, jcel w (M o) o) := by
  unfold jws
  rw [List.getElem?_map, List.getElem?_range h]
  rfl
theorem jcel_obj (w : JWp) (f : Nat → Int32) {o ci : Nat} {fs : List (Option Nat)} (h : jSh o (0, ci, fs)) : jcel w f o = .inr (ci, jfld w.1 f fs) := by
  unfold jcel
  rw [jshp_of h]
  rfl
theorem jcel_int (w : JWp) (f : Nat → Int32) {o n : Nat} {fs : List (Option Nat)} (h : jSh o (1, n, fs)) : jcel w f o = .inl (w.2.2.1, n, .inl f) := by
  unfold jcel
  rw [jshp_of h]
  rfl
theorem jcel_bool (w : JWp) (f : Nat → Int32) {o n : Nat} {fs : List (Option Nat)} (h : jSh o (2, n, fs)) : jcel w f o = .inl (w.2.2.2.1, n, .inl f) := by
  unfold jcel
  rw [jshp_of h]
  rfl
theorem jcel_rows (w : JWp) (f : Nat → Int32) {o n : Nat} {fs : List (Option Nat)} (h : jSh o (3, n, fs)) : jcel w f o = .inl (w.2.2.2.2, n, .inr (.inr (.inr (.inr (fun i => if i < n then some (w.1 (o + 1 + i)) else none))))) := by
  unfold jcel
  rw [jshp_of h]
  rfl
theorem jws_set (w : JWp) (M : JMem) {o : Nat} (h : o < jtopo.length) (f : Nat → Int32) : (jws w M).set o (w.1 o, jcel w f o) = jws w (jrow M o f) := by
  apply List.ext_getElem?
  intro k
  by_cases hk : k < jtopo.length
  · rw [jws_get w _ hk]
    by_cases e : o = k
    · subst e
      rw [List.getElem?_set_self (by rw [jws_len]; exact h)]
      simp [jrow]
    · rw [List.getElem?_set_ne e, jws_get w M hk]
      simp [jrow, Ne.symm e]
  · rw [List.getElem?_eq_none (by rw [List.length_set, jws_len]; omega), List.getElem?_eq_none (by rw [jws_len]; omega)]
theorem jrow_up (M : JMem) (a i : Nat) (v : Int32) : jrow M a (upd (M a) i v) = jup M a i v := by
  funext b
  by_cases h : b = a
  · subst h
    simp [jrow, jup]
  · simp [jrow, jup, h]
theorem jfld_len (φ : Nat → Nat) (f : Nat → Int32) (fs : List (Option Nat)) : (jfld φ f fs).length = fs.length := by simp [jfld]
theorem jfld_getI (φ : Nat → Nat) (f : Nat → Int32) {fs : List (Option Nat)} {k : Nat} (h : fs[k]? = some none) : (jfld φ f fs)[k]? = some (.int (f k)) := by
  have hl := (List.getElem?_eq_some_iff.mp h).1
  unfold jfld
  rw [List.getElem?_map, List.getElem?_range hl]
  simp [List.getD_eq_getElem?_getD, h]
theorem jfld_getR (φ : Nat → Nat) (f : Nat → Int32) {fs : List (Option Nat)} {k r : Nat} (h : fs[k]? = some (some r)) : (jfld φ f fs)[k]? = some (.ref (φ r)) := by
  have hl := (List.getElem?_eq_some_iff.mp h).1
  unfold jfld
  rw [List.getElem?_map, List.getElem?_range hl]
  simp [List.getD_eq_getElem?_getD, h]
theorem jfld_set (φ : Nat → Nat) (f : Nat → Int32) {fs : List (Option Nat)} {k : Nat} (h : fs[k]? = some none) (v : Int32) : (jfld φ f fs).set k (.int v) = jfld φ (upd f k v) fs := by
  have hl := (List.getElem?_eq_some_iff.mp h).1
  apply List.ext_getElem?
  intro j
  by_cases hj : j < fs.length
  · have e2 : (jfld φ (upd f k v) fs)[j]? = some (match fs.getD j none with | some r => .ref (φ r) | none => .int (upd f k v j)) := by
      unfold jfld
      rw [List.getElem?_map, List.getElem?_range hj]
      rfl
    have e1 : (jfld φ f fs)[j]? = some (match fs.getD j none with | some r => .ref (φ r) | none => .int (f j)) := by
      unfold jfld
      rw [List.getElem?_map, List.getElem?_range hj]
      rfl
    by_cases e : k = j
    · subst e
      rw [List.getElem?_set_self (by rw [jfld_len]; exact hl), e2]
      simp [List.getD_eq_getElem?_getD, h, upd]
    · rw [List.getElem?_set_ne e, e1, e2]
      simp [upd, Ne.symm e]
  · rw [List.getElem?_eq_none (by rw [List.length_set, jfld_len]; omega), List.getElem?_eq_none (by rw [jfld_len]; omega)]
/-- the locals: of each that is known its value -/
def jlv (φ : Nat → Nat) (ls : Array Slot) (nL : Nat) (lv : List (Option Value)) : Prop := ls.size = nL ∧ lv_wf ls ∧ ∀ (i : Nat) (v : Value), lv[i]? = some (some v) → v.category = 1 ∧ ls[i]? = some (.val (jtr φ v))
def jll (φ : Nat → Nat) (lv : List (Option Value)) : List (Nat × Value) := (List.range lv.length).filterMap (fun j => (lv.getD j none).map (fun v => (j, jtr φ v)))
theorem jll_mem {φ : Nat → Nat} {lv : List (Option Value)} {q : Nat × Value} (h : q ∈ jll φ lv) : ∃ v, lv[q.1]? = some (some v) ∧ q.2 = jtr φ v := by
  obtain ⟨j, hj, e⟩ := List.mem_filterMap.mp h
  have hl : j < lv.length := List.mem_range.mp hj
  cases hv : lv.getD j none with
  | none => rw [hv] at e; cases e
  | some v =>
    rw [hv] at e
    cases e
    refine ⟨v, ?_, rfl⟩
    rw [List.getD_eq_getElem?_getD] at hv
    cases hx : lv[j]? with
    | none => rw [hx] at hv; cases hv
    | some y => rw [hx] at hv; exact congrArg some hv
theorem jll_in {φ : Nat → Nat} {lv : List (Option Value)} {i : Nat} {v : Value} (h : lv[i]? = some (some v)) : (i, jtr φ v) ∈ jll φ lv := by
  refine List.mem_filterMap.mpr ⟨i, List.mem_range.mpr (List.getElem?_eq_some_iff.mp h).1, ?_⟩
  rw [List.getD_eq_getElem?_getD, h]
  rfl
theorem jlv_has {φ : Nat → Nat} {ls : Array Slot} {nL : Nat} {lv : List (Option Value)} (h : jlv φ ls nL lv) : lv_has ls nL (jll φ lv) := by
  refine ⟨h.1, h.2.1, fun q hq => ?_⟩
  obtain ⟨v, h1, h2⟩ := jll_mem hq
  rw [h2]
  exact (h.2.2 _ _ h1).2
theorem jlv_of {φ : Nat → Nat} {ls ls' : Array Slot} {nL i : Nat} {lv : List (Option Value)} {v : Value} (h0 : jlv φ ls nL lv) (hc : v.category = 1)
    (h : lv_has ls' nL ((i, jtr φ v) :: (jll φ lv).filter (fun q => !(q.1 == i) && !(q.1 + 1 == i && q.2.category == 2)))) : jlv φ ls' nL (lv.set i (some v)) := by
  refine ⟨h.1, h.2.1, fun j u hu => ?_⟩
  by_cases e : i = j
  · subst e
    by_cases hl : i < lv.length
    · rw [List.getElem?_set_self hl] at hu
      cases hu
      exact ⟨hc, h.2.2 _ List.mem_cons_self⟩
    · rw [List.getElem?_eq_none (by rw [List.length_set]; omega)] at hu
      cases hu
  · rw [List.getElem?_set_ne e] at hu
    have hcat := (h0.2.2 _ _ hu).1
    refine ⟨hcat, h.2.2 (j, jtr φ u) (List.mem_cons_of_mem _ (List.mem_filter.mpr ⟨jll_in hu, ?_⟩))⟩
    have e2 : ¬ j = i := fun q => e q.symm
    simp [e2, jtr_cat, hcat]
/-! a method: the class that owns it, its code, its locals, what it returns -/
abbrev JMd : Type := String × ByteArray × Nat × Option FieldType
def jFx (w : JWp) (μ : JMd) (p : Program) (s : State) (m : MethodId) (args : Array Value) (meth : Method) (c : Code) : Prop :=
  p.tables.exec = Jvm.exec ∧ c.code = μ.2.1 ∧ c.maxLocals = μ.2.2.1 ∧ s.vm.findClass μ.1 = some m.cls ∧ (∀ x ∈ lw_tbl, x.before args s = true) ∧ meth.sig.returnType = μ.2.2.2 ∧ meth.locks = false ∧ va_K w.2.1 vwCl (jtys w) s ∧ (∀ M, va_D (jin w) (jws w M))
def jrm (d : Nat) : Room := { frames := d, cells := 0, slots := 0, locals := 40 * d }
def jQ (w : JWp) (Q : JMem → Option Value → Prop) : Array Value → State → Outcome → State → Prop := fun _ st oc t =>
  (∃ (M : JMem) (r : Option Value), oc = .returned (r.map (jtr w.1)) ∧ Q M r ∧ va_P w.2.1 vwCl (jws w M) t.heap) ∧ va_F (jin w) st t
/-- the machine, at pc of the method μ, with these locals, this stack, this memory, comes to the method's end with Q -/
def jGG (μ : JMd) (d pc : Nat) (lv : List (Option Value)) (st : List Value) (M : JMem) (Q : JMem → Option Value → Prop) : Prop :=
  ∀ (w : JWp) (p : Program) (l : Launch) (e : Env) (s : State) (m : MethodId) (args : Array Value) (below : List Frame) (meth : Method) (c : Code) (H : Heap) (locs : List Loc) (ls : Array Slot),
    jFx w μ p s m args meth c → va_P w.2.1 vwCl (jws w M) H → va_S (jin w) s.heap H locs → jlv w.1 ls μ.2.2.1 lv →
    W p l e (jrm d) s m args below meth c H locs 0 0 (MQ below (jQ w Q) args s 0 0 (jin w)) (F0 m pc ls (st.map (jtr w.1)))
/-- a method's contract -/
def jCt (y : MethodName) (μ : JMd) (d : Nat) (M : JMem) (as : List Value) (Q : JMem → Option Value → Prop) : Prop :=
  ∀ (w : JWp) (l : Launch), Met l y (.code y μ.2.1 μ.2.2.1 μ.2.2.2 :: lw_tbl) (jrm d) (va_Pc (as.map (jtr w.1)) (fun U => va_P w.2.1 vwCl (jws w M) U.heap ∧ va_K w.2.1 vwCl (jtys w) U ∧ ∀ M, va_D (jin w) (jws w M))) (jQ w Q) 0 0 (jin w)
/-- the contract of one run: it comes to the memory M1 and answers r -/
abbrev jCo (y : MethodName) (μ : JMd) (d : Nat) (M : JMem) (as : List Value) (M1 : JMem) (r : Option Value) : Prop := jCt y μ d M as (fun M' r' => M' = M1 ∧ r' = r)
theorem jlg_sl : ∀ (vs : List Value), (∀ v ∈ vs, v.category = 1) → lg_sl vs = vs.map Slot.val
  | [], _ => rfl
  | v :: vs, h => by
    have h1 := h v List.mem_cons_self
    have ih := jlg_sl vs (fun x hx => h x (List.mem_cons_of_mem _ hx))
    have e : lg_sl (v :: vs) = (if v.category = 2 then [.val v, .second] else [.val v]) ++ lg_sl vs := rfl
    rw [e, ih, h1]
    rfl
theorem jentry {φ : Nat → Nat} {as : List Value} {n : Nat} (hc : ∀ v ∈ as, v.category = 1) (hn : as.length ≤ n) : jlv φ ((lg_sl (as.map (jtr φ)) ++ List.replicate (n - (lg_sl (as.map (jtr φ))).length) Slot.unset).toArray) n (as.map some ++ List.replicate (n - as.length) none) := by
  have hc2 : ∀ v ∈ as.map (jtr φ), v.category = 1 := fun v hv => by
    obtain ⟨x, hx, rfl⟩ := List.mem_map.mp hv
    rw [jtr_cat]
    exact hc x hx
  have hl := lv_entry (as.map (jtr φ)) (n := n) (by rw [jlg_sl _ hc2]; simpa using hn)
  refine ⟨hl.1, hl.2.1, fun i v hv => ?_⟩
  by_cases hi : i < as.length
  · rw [List.getElem?_append_left (by simpa using hi), List.getElem?_map] at hv
    cases hx : as[i]? with
    | none => rw [hx] at hv; cases hv
    | some y =>
      rw [hx] at hv
      cases hv
      refine ⟨hc v (List.mem_of_getElem? hx), ?_⟩
      rw [jlg_sl _ hc2]
      rw [List.getElem?_toArray, List.getElem?_append_left (by simpa using hi)]
      simp [hx]
  · rw [List.getElem?_append_right (by simp; omega)] at hv
    have := List.mem_of_getElem? hv
    rw [List.mem_replicate] at this
    cases this.2
/-- a contract out of a walk -/
theorem jCt_of {y : MethodName} {μ : JMd} {d : Nat} {M : JMem} {as : List Value} {Q : JMem → Option Value → Prop} (hy : plainName y.cls = true) (ho : μ.1 = y.cls) (hc : ∀ v ∈ as, v.category = 1) (hn : as.length ≤ μ.2.2.1)
    (k : jGG μ d 0 (as.map some ++ List.replicate (μ.2.2.1 - as.length) none) [] M Q) : jCt y μ d M as Q := by
  intro w l
  refine Met.ofW (cc := μ.2.1) (maxL := μ.2.2.1) (ret := μ.2.2.2) hy rfl ?_
  intro p e s m args below meth c s₁ B hml hv
  obtain ⟨rfl, hP, hK, hD⟩ := hv
  have hts := atoms_spec (ws := .code y μ.2.1 μ.2.2.1 μ.2.2.2 :: lw_tbl) B.pre
  have hown : s.vm.findClass μ.1 = some m.cls := by rw [ho]; exact findClass_of_methodNamed B.named
  rw [lg_entry_eq]
  exact k w p l e s m _ below meth c s.heap [] _ ⟨B.exec, B.bytes, hml, hown, fun x hx => hts x (List.mem_cons_of_mem _ hx), B.returns, B.notSynchronized, hK, hD⟩ hP va_S.rf (jentry hc hn)
end
