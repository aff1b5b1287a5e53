-- ===== PART A: goes FIRST, ahead of the names: the tables' words, and 'selects' of the private methods out of them =====
/-- a private method of a class that the tables say can be made, by its rows of tables_1 -/
def lw_okq (q : MethodName × Nat) : Prop := (q.1.cls ≠ "java/lang/invoke/MethodHandle" ∧ q.1.cls ≠ "java/lang/invoke/VarHandle") ∧ Cond.instantiable q.1.cls q.2 ∈ tables_1 ∧ Cond.privateMethod q.1 ∈ tables_1 ∧ Cond.instanceMethod q.1 ∈ tables_1
theorem lw_p0 : lw_okq (⟨"PeatRailway$History", "dropOldest", "()V"⟩, 2) := ⟨⟨by decide +kernel, by decide +kernel⟩, List.mem_of_getElem? (i := 275) (by decide +kernel), List.mem_of_getElem? (i := 342) (by decide +kernel), List.mem_of_getElem? (i := 343) (by decide +kernel)⟩
theorem lw_p1 : lw_okq (⟨"PeatRailway$State", "goesFirst", "(LPeatRailway$Train;)Z"⟩, 11) := ⟨⟨by decide +kernel, by decide +kernel⟩, List.mem_of_getElem? (i := 90) (by decide +kernel), List.mem_of_getElem? (i := 428) (by decide +kernel), List.mem_of_getElem? (i := 429) (by decide +kernel)⟩
theorem lw_p2 : lw_okq (⟨"PeatRailway$State", "takeTurn", "(LPeatRailway$Train;)V"⟩, 11) := ⟨⟨by decide +kernel, by decide +kernel⟩, List.mem_of_getElem? (i := 90) (by decide +kernel), List.mem_of_getElem? (i := 432) (by decide +kernel), List.mem_of_getElem? (i := 433) (by decide +kernel)⟩
theorem lw_p3 : lw_okq (⟨"PeatRailway$State", "isToUnload", "(LPeatRailway$Train;)Z"⟩, 11) := ⟨⟨by decide +kernel, by decide +kernel⟩, List.mem_of_getElem? (i := 90) (by decide +kernel), List.mem_of_getElem? (i := 440) (by decide +kernel), List.mem_of_getElem? (i := 441) (by decide +kernel)⟩
theorem lw_p4 : lw_okq (⟨"PeatRailway$State", "isToLoad", "(LPeatRailway$Train;)Z"⟩, 11) := ⟨⟨by decide +kernel, by decide +kernel⟩, List.mem_of_getElem? (i := 90) (by decide +kernel), List.mem_of_getElem? (i := 444) (by decide +kernel), List.mem_of_getElem? (i := 445) (by decide +kernel)⟩
theorem lw_p5 : lw_okq (⟨"PeatRailway$State", "placeBeyond", "(LPeatRailway$Train;)I"⟩, 11) := ⟨⟨by decide +kernel, by decide +kernel⟩, List.mem_of_getElem? (i := 90) (by decide +kernel), List.mem_of_getElem? (i := 452) (by decide +kernel), List.mem_of_getElem? (i := 453) (by decide +kernel)⟩
theorem lw_p6 : lw_okq (⟨"PeatRailway$State", "reasonAhead", "(LPeatRailway$Train;I)I"⟩, 11) := ⟨⟨by decide +kernel, by decide +kernel⟩, List.mem_of_getElem? (i := 90) (by decide +kernel), List.mem_of_getElem? (i := 460) (by decide +kernel), List.mem_of_getElem? (i := 461) (by decide +kernel)⟩
theorem lw_p7 : lw_okq (⟨"PeatRailway$State", "unloadTrain", "(LPeatRailway$Train;)V"⟩, 11) := ⟨⟨by decide +kernel, by decide +kernel⟩, List.mem_of_getElem? (i := 90) (by decide +kernel), List.mem_of_getElem? (i := 467) (by decide +kernel), List.mem_of_getElem? (i := 468) (by decide +kernel)⟩
theorem lw_p8 : lw_okq (⟨"PeatRailway$State", "loadTrain", "(LPeatRailway$Train;)V"⟩, 11) := ⟨⟨by decide +kernel, by decide +kernel⟩, List.mem_of_getElem? (i := 90) (by decide +kernel), List.mem_of_getElem? (i := 471) (by decide +kernel), List.mem_of_getElem? (i := 472) (by decide +kernel)⟩
theorem lw_p9 : lw_okq (⟨"PeatRailway$State", "moveTrain", "(LPeatRailway$Train;)V"⟩, 11) := ⟨⟨by decide +kernel, by decide +kernel⟩, List.mem_of_getElem? (i := 90) (by decide +kernel), List.mem_of_getElem? (i := 475) (by decide +kernel), List.mem_of_getElem? (i := 476) (by decide +kernel)⟩
theorem lw_p10 : lw_okq (⟨"PeatRailway$State", "settle", "()V"⟩, 11) := ⟨⟨by decide +kernel, by decide +kernel⟩, List.mem_of_getElem? (i := 90) (by decide +kernel), List.mem_of_getElem? (i := 479) (by decide +kernel), List.mem_of_getElem? (i := 480) (by decide +kernel)⟩
theorem lw_p11 : lw_okq (⟨"PeatRailway", "foreseen", "(I)I"⟩, 6) := ⟨⟨by decide +kernel, by decide +kernel⟩, List.mem_of_getElem? (i := 15) (by decide +kernel), List.mem_of_getElem? (i := 576) (by decide +kernel), List.mem_of_getElem? (i := 577) (by decide +kernel)⟩
theorem lw_p12 : lw_okq (⟨"PeatRailway", "withSegments", "(J)J"⟩, 6) := ⟨⟨by decide +kernel, by decide +kernel⟩, List.mem_of_getElem? (i := 15) (by decide +kernel), List.mem_of_getElem? (i := 613) (by decide +kernel), List.mem_of_getElem? (i := 614) (by decide +kernel)⟩
theorem lw_p13 : lw_okq (⟨"PeatRailway", "withTrains", "(J)J"⟩, 6) := ⟨⟨by decide +kernel, by decide +kernel⟩, List.mem_of_getElem? (i := 15) (by decide +kernel), List.mem_of_getElem? (i := 618) (by decide +kernel), List.mem_of_getElem? (i := 619) (by decide +kernel)⟩
theorem lw_p14 : lw_okq (⟨"PeatRailwayModel", "putSegment", "(IIZ)V"⟩, 11) := ⟨⟨by decide +kernel, by decide +kernel⟩, List.mem_of_getElem? (i := 632) (by decide +kernel), List.mem_of_getElem? (i := 638) (by decide +kernel), List.mem_of_getElem? (i := 639) (by decide +kernel)⟩
theorem lw_p15 : lw_okq (⟨"PeatRailwayModel", "faultNow", "()I"⟩, 11) := ⟨⟨by decide +kernel, by decide +kernel⟩, List.mem_of_getElem? (i := 632) (by decide +kernel), List.mem_of_getElem? (i := 691) (by decide +kernel), List.mem_of_getElem? (i := 692) (by decide +kernel)⟩
def lw_privs_1 : List (MethodName × Nat) := [(⟨"PeatRailway$History", "dropOldest", "()V"⟩, 2), (⟨"PeatRailway$State", "goesFirst", "(LPeatRailway$Train;)Z"⟩, 11), (⟨"PeatRailway$State", "takeTurn", "(LPeatRailway$Train;)V"⟩, 11), (⟨"PeatRailway$State", "isToUnload", "(LPeatRailway$Train;)Z"⟩, 11), (⟨"PeatRailway$State", "isToLoad", "(LPeatRailway$Train;)Z"⟩, 11), (⟨"PeatRailway$State", "placeBeyond", "(LPeatRailway$Train;)I"⟩, 11), (⟨"PeatRailway$State", "reasonAhead", "(LPeatRailway$Train;I)I"⟩, 11), (⟨"PeatRailway$State", "unloadTrain", "(LPeatRailway$Train;)V"⟩, 11), (⟨"PeatRailway$State", "loadTrain", "(LPeatRailway$Train;)V"⟩, 11), (⟨"PeatRailway$State", "moveTrain", "(LPeatRailway$Train;)V"⟩, 11), (⟨"PeatRailway$State", "settle", "()V"⟩, 11), (⟨"PeatRailway", "foreseen", "(I)I"⟩, 6), (⟨"PeatRailway", "withSegments", "(J)J"⟩, 6), (⟨"PeatRailway", "withTrains", "(J)J"⟩, 6), (⟨"PeatRailwayModel", "putSegment", "(IIZ)V"⟩, 11), (⟨"PeatRailwayModel", "faultNow", "()I"⟩, 11)]
theorem lw_r1 : ∀ q ∈ lw_privs_1, lw_okq q := List.forall_mem_cons.mpr ⟨lw_p0, List.forall_mem_cons.mpr ⟨lw_p1, List.forall_mem_cons.mpr ⟨lw_p2, List.forall_mem_cons.mpr ⟨lw_p3, List.forall_mem_cons.mpr ⟨lw_p4, List.forall_mem_cons.mpr ⟨lw_p5, List.forall_mem_cons.mpr ⟨lw_p6, List.forall_mem_cons.mpr ⟨lw_p7, List.forall_mem_cons.mpr ⟨lw_p8, List.forall_mem_cons.mpr ⟨lw_p9, List.forall_mem_cons.mpr ⟨lw_p10, List.forall_mem_cons.mpr ⟨lw_p11, List.forall_mem_cons.mpr ⟨lw_p12, List.forall_mem_cons.mpr ⟨lw_p13, List.forall_mem_cons.mpr ⟨lw_p14, List.forall_mem_cons.mpr ⟨lw_p15, fun _ h => absurd h List.not_mem_nil⟩⟩⟩⟩⟩⟩⟩⟩⟩⟩⟩⟩⟩⟩⟩⟩
theorem lw_p16 : lw_okq (⟨"PeatRailwayModel", "takes", "(I)Z"⟩, 11) := ⟨⟨by decide +kernel, by decide +kernel⟩, List.mem_of_getElem? (i := 632) (by decide +kernel), List.mem_of_getElem? (i := 695) (by decide +kernel), List.mem_of_getElem? (i := 696) (by decide +kernel)⟩
theorem lw_p17 : lw_okq (⟨"PeatRailwayModel", "record", "()V"⟩, 11) := ⟨⟨by decide +kernel, by decide +kernel⟩, List.mem_of_getElem? (i := 632) (by decide +kernel), List.mem_of_getElem? (i := 703) (by decide +kernel), List.mem_of_getElem? (i := 704) (by decide +kernel)⟩
theorem lw_p18 : lw_okq (⟨"PeatRailwayModel", "copy", "([II[II)V"⟩, 11) := ⟨⟨by decide +kernel, by decide +kernel⟩, List.mem_of_getElem? (i := 632) (by decide +kernel), List.mem_of_getElem? (i := 707) (by decide +kernel), List.mem_of_getElem? (i := 708) (by decide +kernel)⟩
theorem lw_p19 : lw_okq (⟨"PeatRailwayModel", "peatInTrains", "()I"⟩, 11) := ⟨⟨by decide +kernel, by decide +kernel⟩, List.mem_of_getElem? (i := 632) (by decide +kernel), List.mem_of_getElem? (i := 711) (by decide +kernel), List.mem_of_getElem? (i := 712) (by decide +kernel)⟩
theorem lw_p20 : lw_okq (⟨"PeatRailwayModel", "of", "(II)I"⟩, 11) := ⟨⟨by decide +kernel, by decide +kernel⟩, List.mem_of_getElem? (i := 632) (by decide +kernel), List.mem_of_getElem? (i := 715) (by decide +kernel), List.mem_of_getElem? (i := 716) (by decide +kernel)⟩
theorem lw_p21 : lw_okq (⟨"PeatRailwayModel", "other", "(I)I"⟩, 11) := ⟨⟨by decide +kernel, by decide +kernel⟩, List.mem_of_getElem? (i := 632) (by decide +kernel), List.mem_of_getElem? (i := 726) (by decide +kernel), List.mem_of_getElem? (i := 727) (by decide +kernel)⟩
theorem lw_p22 : lw_okq (⟨"PeatRailwayModel", "put", "(III)V"⟩, 11) := ⟨⟨by decide +kernel, by decide +kernel⟩, List.mem_of_getElem? (i := 632) (by decide +kernel), List.mem_of_getElem? (i := 738) (by decide +kernel), List.mem_of_getElem? (i := 739) (by decide +kernel)⟩
theorem lw_p23 : lw_okq (⟨"PeatRailwayModel", "isTrain", "(I)Z"⟩, 11) := ⟨⟨by decide +kernel, by decide +kernel⟩, List.mem_of_getElem? (i := 632) (by decide +kernel), List.mem_of_getElem? (i := 746) (by decide +kernel), List.mem_of_getElem? (i := 747) (by decide +kernel)⟩
theorem lw_p24 : lw_okq (⟨"PeatRailwayModel", "tick", "()V"⟩, 11) := ⟨⟨by decide +kernel, by decide +kernel⟩, List.mem_of_getElem? (i := 632) (by decide +kernel), List.mem_of_getElem? (i := 758) (by decide +kernel), List.mem_of_getElem? (i := 759) (by decide +kernel)⟩
theorem lw_p25 : lw_okq (⟨"PeatRailwayModel", "turn", "(I)V"⟩, 11) := ⟨⟨by decide +kernel, by decide +kernel⟩, List.mem_of_getElem? (i := 632) (by decide +kernel), List.mem_of_getElem? (i := 762) (by decide +kernel), List.mem_of_getElem? (i := 763) (by decide +kernel)⟩
theorem lw_p26 : lw_okq (⟨"PeatRailwayModel", "reason", "(I)I"⟩, 11) := ⟨⟨by decide +kernel, by decide +kernel⟩, List.mem_of_getElem? (i := 632) (by decide +kernel), List.mem_of_getElem? (i := 766) (by decide +kernel), List.mem_of_getElem? (i := 767) (by decide +kernel)⟩
theorem lw_p27 : lw_okq (⟨"PeatRailwayModel", "wanted", "(I)I"⟩, 11) := ⟨⟨by decide +kernel, by decide +kernel⟩, List.mem_of_getElem? (i := 632) (by decide +kernel), List.mem_of_getElem? (i := 770) (by decide +kernel), List.mem_of_getElem? (i := 771) (by decide +kernel)⟩
theorem lw_p28 : lw_okq (⟨"PeatRailwayModel", "seg", "(II)I"⟩, 11) := ⟨⟨by decide +kernel, by decide +kernel⟩, List.mem_of_getElem? (i := 632) (by decide +kernel), List.mem_of_getElem? (i := 774) (by decide +kernel), List.mem_of_getElem? (i := 775) (by decide +kernel)⟩
theorem lw_p29 : lw_okq (⟨"PeatRailwayModel", "trainsIn", "(I)I"⟩, 11) := ⟨⟨by decide +kernel, by decide +kernel⟩, List.mem_of_getElem? (i := 632) (by decide +kernel), List.mem_of_getElem? (i := 778) (by decide +kernel), List.mem_of_getElem? (i := 779) (by decide +kernel)⟩
theorem lw_p30 : lw_okq (⟨"PeatRailwayModel", "room", "(I)I"⟩, 11) := ⟨⟨by decide +kernel, by decide +kernel⟩, List.mem_of_getElem? (i := 632) (by decide +kernel), List.mem_of_getElem? (i := 782) (by decide +kernel), List.mem_of_getElem? (i := 783) (by decide +kernel)⟩
theorem lw_p31 : lw_okq (⟨"PeatRailwayModel", "isEnd", "(I)Z"⟩, 11) := ⟨⟨by decide +kernel, by decide +kernel⟩, List.mem_of_getElem? (i := 632) (by decide +kernel), List.mem_of_getElem? (i := 786) (by decide +kernel), List.mem_of_getElem? (i := 787) (by decide +kernel)⟩
def lw_privs_2 : List (MethodName × Nat) := [(⟨"PeatRailwayModel", "takes", "(I)Z"⟩, 11), (⟨"PeatRailwayModel", "record", "()V"⟩, 11), (⟨"PeatRailwayModel", "copy", "([II[II)V"⟩, 11), (⟨"PeatRailwayModel", "peatInTrains", "()I"⟩, 11), (⟨"PeatRailwayModel", "of", "(II)I"⟩, 11), (⟨"PeatRailwayModel", "other", "(I)I"⟩, 11), (⟨"PeatRailwayModel", "put", "(III)V"⟩, 11), (⟨"PeatRailwayModel", "isTrain", "(I)Z"⟩, 11), (⟨"PeatRailwayModel", "tick", "()V"⟩, 11), (⟨"PeatRailwayModel", "turn", "(I)V"⟩, 11), (⟨"PeatRailwayModel", "reason", "(I)I"⟩, 11), (⟨"PeatRailwayModel", "wanted", "(I)I"⟩, 11), (⟨"PeatRailwayModel", "seg", "(II)I"⟩, 11), (⟨"PeatRailwayModel", "trainsIn", "(I)I"⟩, 11), (⟨"PeatRailwayModel", "room", "(I)I"⟩, 11), (⟨"PeatRailwayModel", "isEnd", "(I)Z"⟩, 11)]
theorem lw_r2 : ∀ q ∈ lw_privs_2, lw_okq q := List.forall_mem_cons.mpr ⟨lw_p16, List.forall_mem_cons.mpr ⟨lw_p17, List.forall_mem_cons.mpr ⟨lw_p18, List.forall_mem_cons.mpr ⟨lw_p19, List.forall_mem_cons.mpr ⟨lw_p20, List.forall_mem_cons.mpr ⟨lw_p21, List.forall_mem_cons.mpr ⟨lw_p22, List.forall_mem_cons.mpr ⟨lw_p23, List.forall_mem_cons.mpr ⟨lw_p24, List.forall_mem_cons.mpr ⟨lw_p25, List.forall_mem_cons.mpr ⟨lw_p26, List.forall_mem_cons.mpr ⟨lw_p27, List.forall_mem_cons.mpr ⟨lw_p28, List.forall_mem_cons.mpr ⟨lw_p29, List.forall_mem_cons.mpr ⟨lw_p30, List.forall_mem_cons.mpr ⟨lw_p31, fun _ h => absurd h List.not_mem_nil⟩⟩⟩⟩⟩⟩⟩⟩⟩⟩⟩⟩⟩⟩⟩⟩
theorem lw_p32 : lw_okq (⟨"PeatRailwayModel", "isPassing", "(I)Z"⟩, 11) := ⟨⟨by decide +kernel, by decide +kernel⟩, List.mem_of_getElem? (i := 632) (by decide +kernel), List.mem_of_getElem? (i := 790) (by decide +kernel), List.mem_of_getElem? (i := 791) (by decide +kernel)⟩
theorem lw_p33 : lw_okq (⟨"PeatRailwayModel", "between", "(III)I"⟩, 11) := ⟨⟨by decide +kernel, by decide +kernel⟩, List.mem_of_getElem? (i := 632) (by decide +kernel), List.mem_of_getElem? (i := 794) (by decide +kernel), List.mem_of_getElem? (i := 795) (by decide +kernel)⟩
theorem lw_p34 : lw_okq (⟨"PeatRailwayModel", "go", "(I)V"⟩, 11) := ⟨⟨by decide +kernel, by decide +kernel⟩, List.mem_of_getElem? (i := 632) (by decide +kernel), List.mem_of_getElem? (i := 798) (by decide +kernel), List.mem_of_getElem? (i := 799) (by decide +kernel)⟩
theorem lw_p35 : lw_okq (⟨"PeatRailwayModel", "sink", "()V"⟩, 11) := ⟨⟨by decide +kernel, by decide +kernel⟩, List.mem_of_getElem? (i := 632) (by decide +kernel), List.mem_of_getElem? (i := 802) (by decide +kernel), List.mem_of_getElem? (i := 803) (by decide +kernel)⟩
theorem lw_p36 : lw_okq (⟨"PeatRailwayModel", "weightIn", "(I)I"⟩, 11) := ⟨⟨by decide +kernel, by decide +kernel⟩, List.mem_of_getElem? (i := 632) (by decide +kernel), List.mem_of_getElem? (i := 806) (by decide +kernel), List.mem_of_getElem? (i := 807) (by decide +kernel)⟩
theorem lw_p37 : lw_okq (⟨"PeatRailwayModel", "weight", "(I)I"⟩, 11) := ⟨⟨by decide +kernel, by decide +kernel⟩, List.mem_of_getElem? (i := 632) (by decide +kernel), List.mem_of_getElem? (i := 810) (by decide +kernel), List.mem_of_getElem? (i := 811) (by decide +kernel)⟩
theorem lw_p38 : lw_okq (⟨"PeatRailwayModel", "isSegment", "(I)Z"⟩, 11) := ⟨⟨by decide +kernel, by decide +kernel⟩, List.mem_of_getElem? (i := 632) (by decide +kernel), List.mem_of_getElem? (i := 830) (by decide +kernel), List.mem_of_getElem? (i := 831) (by decide +kernel)⟩
theorem lw_p39 : lw_okq (⟨"PeatRailwayModel", "segmentNow", "(II)I"⟩, 11) := ⟨⟨by decide +kernel, by decide +kernel⟩, List.mem_of_getElem? (i := 632) (by decide +kernel), List.mem_of_getElem? (i := 834) (by decide +kernel), List.mem_of_getElem? (i := 835) (by decide +kernel)⟩
theorem lw_p40 : lw_okq (⟨"PeatRailwayModel", "resting", "(I)I"⟩, 11) := ⟨⟨by decide +kernel, by decide +kernel⟩, List.mem_of_getElem? (i := 632) (by decide +kernel), List.mem_of_getElem? (i := 838) (by decide +kernel), List.mem_of_getElem? (i := 839) (by decide +kernel)⟩
theorem lw_p41 : lw_okq (⟨"PeatRailwayModel", "trainNow", "(II)I"⟩, 11) := ⟨⟨by decide +kernel, by decide +kernel⟩, List.mem_of_getElem? (i := 632) (by decide +kernel), List.mem_of_getElem? (i := 846) (by decide +kernel), List.mem_of_getElem? (i := 847) (by decide +kernel)⟩
theorem lw_p42 : lw_okq (⟨"PeatRailwayModel", "accountNow", "(I)I"⟩, 11) := ⟨⟨by decide +kernel, by decide +kernel⟩, List.mem_of_getElem? (i := 632) (by decide +kernel), List.mem_of_getElem? (i := 858) (by decide +kernel), List.mem_of_getElem? (i := 859) (by decide +kernel)⟩
theorem lw_p43 : lw_okq (⟨"PeatRailwayModel", "counted", "(I)I"⟩, 11) := ⟨⟨by decide +kernel, by decide +kernel⟩, List.mem_of_getElem? (i := 632) (by decide +kernel), List.mem_of_getElem? (i := 866) (by decide +kernel), List.mem_of_getElem? (i := 867) (by decide +kernel)⟩
theorem lw_p44 : lw_okq (⟨"PeatRailwayModel", "deepest", "()I"⟩, 11) := ⟨⟨by decide +kernel, by decide +kernel⟩, List.mem_of_getElem? (i := 632) (by decide +kernel), List.mem_of_getElem? (i := 870) (by decide +kernel), List.mem_of_getElem? (i := 871) (by decide +kernel)⟩
theorem lw_p45 : lw_okq (⟨"PeatRailwayModel", "allWaits", "()I"⟩, 11) := ⟨⟨by decide +kernel, by decide +kernel⟩, List.mem_of_getElem? (i := 632) (by decide +kernel), List.mem_of_getElem? (i := 874) (by decide +kernel), List.mem_of_getElem? (i := 875) (by decide +kernel)⟩
theorem lw_p46 : lw_okq (⟨"PeatRailwayModel", "tooDeep", "()I"⟩, 11) := ⟨⟨by decide +kernel, by decide +kernel⟩, List.mem_of_getElem? (i := 632) (by decide +kernel), List.mem_of_getElem? (i := 878) (by decide +kernel), List.mem_of_getElem? (i := 879) (by decide +kernel)⟩
theorem lw_p47 : lw_okq (⟨"PeatRailwayModel", "ahead", "(II)I"⟩, 11) := ⟨⟨by decide +kernel, by decide +kernel⟩, List.mem_of_getElem? (i := 632) (by decide +kernel), List.mem_of_getElem? (i := 890) (by decide +kernel), List.mem_of_getElem? (i := 891) (by decide +kernel)⟩
def lw_privs_3 : List (MethodName × Nat) := [(⟨"PeatRailwayModel", "isPassing", "(I)Z"⟩, 11), (⟨"PeatRailwayModel", "between", "(III)I"⟩, 11), (⟨"PeatRailwayModel", "go", "(I)V"⟩, 11), (⟨"PeatRailwayModel", "sink", "()V"⟩, 11), (⟨"PeatRailwayModel", "weightIn", "(I)I"⟩, 11), (⟨"PeatRailwayModel", "weight", "(I)I"⟩, 11), (⟨"PeatRailwayModel", "isSegment", "(I)Z"⟩, 11), (⟨"PeatRailwayModel", "segmentNow", "(II)I"⟩, 11), (⟨"PeatRailwayModel", "resting", "(I)I"⟩, 11), (⟨"PeatRailwayModel", "trainNow", "(II)I"⟩, 11), (⟨"PeatRailwayModel", "accountNow", "(I)I"⟩, 11), (⟨"PeatRailwayModel", "counted", "(I)I"⟩, 11), (⟨"PeatRailwayModel", "deepest", "()I"⟩, 11), (⟨"PeatRailwayModel", "allWaits", "()I"⟩, 11), (⟨"PeatRailwayModel", "tooDeep", "()I"⟩, 11), (⟨"PeatRailwayModel", "ahead", "(II)I"⟩, 11)]
theorem lw_r3 : ∀ q ∈ lw_privs_3, lw_okq q := List.forall_mem_cons.mpr ⟨lw_p32, List.forall_mem_cons.mpr ⟨lw_p33, List.forall_mem_cons.mpr ⟨lw_p34, List.forall_mem_cons.mpr ⟨lw_p35, List.forall_mem_cons.mpr ⟨lw_p36, List.forall_mem_cons.mpr ⟨lw_p37, List.forall_mem_cons.mpr ⟨lw_p38, List.forall_mem_cons.mpr ⟨lw_p39, List.forall_mem_cons.mpr ⟨lw_p40, List.forall_mem_cons.mpr ⟨lw_p41, List.forall_mem_cons.mpr ⟨lw_p42, List.forall_mem_cons.mpr ⟨lw_p43, List.forall_mem_cons.mpr ⟨lw_p44, List.forall_mem_cons.mpr ⟨lw_p45, List.forall_mem_cons.mpr ⟨lw_p46, List.forall_mem_cons.mpr ⟨lw_p47, fun _ h => absurd h List.not_mem_nil⟩⟩⟩⟩⟩⟩⟩⟩⟩⟩⟩⟩⟩⟩⟩⟩
theorem lw_p48 : lw_okq (⟨"PeatRailwayModel", "ticksUntil", "(I)I"⟩, 11) := ⟨⟨by decide +kernel, by decide +kernel⟩, List.mem_of_getElem? (i := 632) (by decide +kernel), List.mem_of_getElem? (i := 898) (by decide +kernel), List.mem_of_getElem? (i := 899) (by decide +kernel)⟩
theorem lw_p49 : lw_okq (⟨"PeatRailwayModel", "best", "(IIII)I"⟩, 11) := ⟨⟨by decide +kernel, by decide +kernel⟩, List.mem_of_getElem? (i := 632) (by decide +kernel), List.mem_of_getElem? (i := 906) (by decide +kernel), List.mem_of_getElem? (i := 907) (by decide +kernel)⟩
theorem lw_p50 : lw_okq (⟨"PeatRailwayModel", "mix", "(J)V"⟩, 11) := ⟨⟨by decide +kernel, by decide +kernel⟩, List.mem_of_getElem? (i := 632) (by decide +kernel), List.mem_of_getElem? (i := 923) (by decide +kernel), List.mem_of_getElem? (i := 924) (by decide +kernel)⟩
def lw_privs_4 : List (MethodName × Nat) := [(⟨"PeatRailwayModel", "ticksUntil", "(I)I"⟩, 11), (⟨"PeatRailwayModel", "best", "(IIII)I"⟩, 11), (⟨"PeatRailwayModel", "mix", "(J)V"⟩, 11)]
theorem lw_r4 : ∀ q ∈ lw_privs_4, lw_okq q := List.forall_mem_cons.mpr ⟨lw_p48, List.forall_mem_cons.mpr ⟨lw_p49, List.forall_mem_cons.mpr ⟨lw_p50, fun _ h => absurd h List.not_mem_nil⟩⟩⟩
def lw_privs : List (MethodName × Nat) := lw_privs_1 ++ (lw_privs_2 ++ (lw_privs_3 ++ (lw_privs_4)))
def lw_tbl : List Cond := k2_sels lw_privs ++ tables_1
theorem lw_privs_ok : ∀ q ∈ lw_privs, lw_okq q := by
  show ∀ q ∈ lw_privs_1 ++ (lw_privs_2 ++ (lw_privs_3 ++ (lw_privs_4))), lw_okq q
  exact List.forall_mem_append.mpr ⟨lw_r1, List.forall_mem_append.mpr ⟨lw_r2, List.forall_mem_append.mpr ⟨lw_r3, lw_r4⟩⟩⟩
/-- the streams that the claim lets the run draw from -/
abbrev lw_cs : List Choice := [Jvm.Choice.named "NaN.bits"]
theorem lw_bits : nanBits ∈ lw_cs := by first | decide | exact List.mem_cons_self | simp [lw_cs, nanBits]
theorem goodIn_r {big : List Cond} (ws : List Cond) (ps : List Nat) (hp : ws = ps.filterMap (fun i => big[i]?)) (h : ws.all goodWord = true) : GoodIn big ws := by
  intro w hw
  have h1 := List.all_eq_true.mp h w hw
  rw [hp] at hw
  obtain ⟨i, -, hi⟩ := List.mem_filterMap.mp hw
  have hm : w ∈ big := by first | exact List.mem_of_getElem? hi | exact List.getElem?_mem hi
  exact ⟨hm, good_of_word h1⟩
theorem goodIn_app {big a b : List Cond} (ha : GoodIn big a) (hb : GoodIn big b) : GoodIn big (a ++ b) := fun w h => (List.mem_append.mp h).elim (ha w) (hb w)
theorem goodIn_ca {big a b : List Cond} {c : Cond} (ha : GoodIn big (c :: a)) (hb : GoodIn big b) : GoodIn big (c :: (a ++ b)) := fun w h => (List.mem_cons.mp h).elim (fun e => ha w (List.mem_cons.mpr (Or.inl e))) (fun h => (List.mem_append.mp h).elim (fun h => ha w (List.mem_cons.mpr (Or.inr h))) (hb w))
theorem goodIn_sub {big ws : List Cond} (hm : ∀ w ∈ ws, w ∈ big) (h : ws.all goodWord = true) : GoodIn big ws := fun w hw => ⟨hm w hw, good_of_word (List.all_eq_true.mp h w hw)⟩
def RX0 : String := "PeatRailway$History"
def TX0 : u_T := fun k => match k with
  | 0 => ("PeatRailway$History", "states", "[LPeatRailway$State;", true)
  | _ => ("PeatRailway$History", "size", "I", false)
def tyX0 : Nat → FieldType := fun k => match k with
  | 0 => .array (.object "PeatRailway$State")
  | _ => .int
abbrev wsX00 : List Cond := u_ws RX0 TX0 2
theorem nmX0 : ∀ a, a < 2 → ∀ b, b < 2 → a ≠ b → (TX0 a).2.1 ≠ (TX0 b).2.1 := by decide +kernel
theorem tyX0_ok : ∀ k, k < 2 → parseFieldDescriptor (TX0 k).2.2.1 = some (tyX0 k) := by decide +kernel
abbrev cX0_init : ByteArray := prog_2_method_1_code
def yX0_init : MethodName := ⟨RX0, "<init>", "()V"⟩
abbrev cX0_size : ByteArray := prog_2_method_2_code
def yX0_size : MethodName := ⟨RX0, "size", "()I"⟩
abbrev cX0_remember : ByteArray := prog_2_method_3_code
def yX0_remember : MethodName := ⟨RX0, "remember", "(LPeatRailway$State;)V"⟩
abbrev cX0_restore : ByteArray := prog_2_method_4_code
def yX0_restore : MethodName := ⟨RX0, "restore", "(LPeatRailway$State;)V"⟩
abbrev cX0_dropOldest : ByteArray := prog_2_method_5_code
def yX0_dropOldest : MethodName := ⟨RX0, "dropOldest", "()V"⟩
def RX1 : String := "PeatRailway$InputText"
def TX1 : u_T := fun k => match k with
  | 0 => ("PeatRailway$InputText", "signs", "[C", true)
  | _ => ("PeatRailway$InputText", "length", "I", false)
def tyX1 : Nat → FieldType := fun k => match k with
  | 0 => .array .char
  | _ => .int
abbrev wsX10 : List Cond := u_ws RX1 TX1 2
theorem nmX1 : ∀ a, a < 2 → ∀ b, b < 2 → a ≠ b → (TX1 a).2.1 ≠ (TX1 b).2.1 := by decide +kernel
theorem tyX1_ok : ∀ k, k < 2 → parseFieldDescriptor (TX1 k).2.2.1 = some (tyX1 k) := by decide +kernel
abbrev cX1_init : ByteArray := prog_3_method_1_code
def yX1_init : MethodName := ⟨RX1, "<init>", "()V"⟩
abbrev cX1_length : ByteArray := prog_3_method_2_code
def yX1_length : MethodName := ⟨RX1, "length", "()I"⟩
abbrev cX1_isFull : ByteArray := prog_3_method_3_code
def yX1_isFull : MethodName := ⟨RX1, "isFull", "()Z"⟩
abbrev cX1_codeAt : ByteArray := prog_3_method_4_code
def yX1_codeAt : MethodName := ⟨RX1, "codeAt", "(I)I"⟩
abbrev cX1_append : ByteArray := prog_3_method_5_code
def yX1_append : MethodName := ⟨RX1, "append", "(C)V"⟩
abbrev cX1_wipe : ByteArray := prog_3_method_6_code
def yX1_wipe : MethodName := ⟨RX1, "wipe", "()V"⟩
abbrev cX1_firstFault : ByteArray := prog_3_method_7_code
def yX1_firstFault : MethodName := ⟨RX1, "firstFault", "()I"⟩
abbrev cX1_layOnto : ByteArray := prog_3_method_8_code
def yX1_layOnto : MethodName := ⟨RX1, "layOnto", "(LPeatRailway$State;)V"⟩
abbrev cX1_isDigit : ByteArray := prog_3_method_9_code
def yX1_isDigit : MethodName := ⟨RX1, "isDigit", "(I)Z"⟩
def RX2 : String := "PeatRailway$Segment"
def TX2 : u_T := fun k => match k with
  | 0 => ("PeatRailway$Segment", "softness", "I", false)
  | 1 => ("PeatRailway$Segment", "room", "I", false)
  | 2 => ("PeatRailway$Segment", "sinking", "I", false)
  | 3 => ("PeatRailway$Segment", "passingAbove", "I", false)
  | 4 => ("PeatRailway$Segment", "passingBelow", "I", false)
  | _ => ("PeatRailway$Segment", "burden", "I", false)
def tyX2 : Nat → FieldType := fun k => match k with
  | 0 => .int
  | 1 => .int
  | 2 => .int
  | 3 => .int
  | 4 => .int
  | _ => .int
abbrev wsX20 : List Cond := u_ws RX2 TX2 6
theorem nmX2 : ∀ a, a < 6 → ∀ b, b < 6 → a ≠ b → (TX2 a).2.1 ≠ (TX2 b).2.1 := by decide +kernel
theorem tyX2_ok : ∀ k, k < 6 → parseFieldDescriptor (TX2 k).2.2.1 = some (tyX2 k) := by decide +kernel
abbrev cX2_init : ByteArray := prog_4_method_1_code
def yX2_init : MethodName := ⟨RX2, "<init>", "()V"⟩
abbrev cX2_layDown : ByteArray := prog_4_method_2_code
def yX2_layDown : MethodName := ⟨RX2, "layDown", "(I)V"⟩
abbrev cX2_copyFrom : ByteArray := prog_4_method_3_code
def yX2_copyFrom : MethodName := ⟨RX2, "copyFrom", "(LPeatRailway$Segment;)V"⟩
abbrev cX2_isPassingPlace : ByteArray := prog_4_method_4_code
def yX2_isPassingPlace : MethodName := ⟨RX2, "isPassingPlace", "()Z"⟩
abbrev cX2_ticksToRise : ByteArray := prog_4_method_5_code
def yX2_ticksToRise : MethodName := ⟨RX2, "ticksToRise", "(II)I"⟩
abbrev cX2_settle : ByteArray := prog_4_method_6_code
def yX2_settle : MethodName := ⟨RX2, "settle", "(I)V"⟩
def RX3 : String := "PeatRailway$State"
def TX3 : u_T := fun k => match k with
  | 0 => ("PeatRailway$State", "segments", "[LPeatRailway$Segment;", true)
  | 1 => ("PeatRailway$State", "trains", "[LPeatRailway$Train;", true)
  | 2 => ("PeatRailway$State", "settings", "[I", true)
  | 3 => ("PeatRailway$State", "segmentCount", "I", false)
  | 4 => ("PeatRailway$State", "trainCount", "I", false)
  | 5 => ("PeatRailway$State", "stock", "I", false)
  | 6 => ("PeatRailway$State", "dug", "I", false)
  | 7 => ("PeatRailway$State", "delivered", "I", false)
  | 8 => ("PeatRailway$State", "lost", "I", false)
  | 9 => ("PeatRailway$State", "clock", "I", false)
  | _ => ("PeatRailway$State", "peak", "I", false)
def tyX3 : Nat → FieldType := fun k => match k with
  | 0 => .array (.object "PeatRailway$Segment")
  | 1 => .array (.object "PeatRailway$Train")
  | 2 => .array .int
  | 3 => .int
  | 4 => .int
  | 5 => .int
  | 6 => .int
  | 7 => .int
  | 8 => .int
  | 9 => .int
  | _ => .int
abbrev wsX30 : List Cond := u_ws RX3 TX3 11
theorem nmX3 : ∀ a, a < 11 → ∀ b, b < 11 → a ≠ b → (TX3 a).2.1 ≠ (TX3 b).2.1 := by decide +kernel
theorem tyX3_ok : ∀ k, k < 11 → parseFieldDescriptor (TX3 k).2.2.1 = some (tyX3 k) := by decide +kernel
abbrev cX3_init : ByteArray := prog_5_method_1_code
def yX3_init : MethodName := ⟨RX3, "<init>", "()V"⟩
abbrev cX3_copyFrom : ByteArray := prog_5_method_2_code
def yX3_copyFrom : MethodName := ⟨RX3, "copyFrom", "(LPeatRailway$State;)V"⟩
abbrev cX3_segmentAt : ByteArray := prog_5_method_3_code
def yX3_segmentAt : MethodName := ⟨RX3, "segmentAt", "(I)LPeatRailway$Segment;"⟩
abbrev cX3_trainAt : ByteArray := prog_5_method_4_code
def yX3_trainAt : MethodName := ⟨RX3, "trainAt", "(I)LPeatRailway$Train;"⟩
abbrev cX3_beginTrack : ByteArray := prog_5_method_5_code
def yX3_beginTrack : MethodName := ⟨RX3, "beginTrack", "()V"⟩
abbrev cX3_appendSegment : ByteArray := prog_5_method_6_code
def yX3_appendSegment : MethodName := ⟨RX3, "appendSegment", "(I)V"⟩
abbrev cX3_widenLatestSegment : ByteArray := prog_5_method_7_code
def yX3_widenLatestSegment : MethodName := ⟨RX3, "widenLatestSegment", "()V"⟩
abbrev cX3_endTrack : ByteArray := prog_5_method_8_code
def yX3_endTrack : MethodName := ⟨RX3, "endTrack", "()V"⟩
abbrev cX3_bringTrain : ByteArray := prog_5_method_9_code
def yX3_bringTrain : MethodName := ⟨RX3, "bringTrain", "(II)I"⟩
abbrev cX3_loseTrain : ByteArray := prog_5_method_10_code
def yX3_loseTrain : MethodName := ⟨RX3, "loseTrain", "(I)V"⟩
abbrev cX3_loseAllTrains : ByteArray := prog_5_method_11_code
def yX3_loseAllTrains : MethodName := ⟨RX3, "loseAllTrains", "()V"⟩
abbrev cX3_pass : ByteArray := prog_5_method_12_code
def yX3_pass : MethodName := ⟨RX3, "pass", "(I)I"⟩
abbrev cX3_tick : ByteArray := prog_5_method_13_code
def yX3_tick : MethodName := ⟨RX3, "tick", "()V"⟩
abbrev cX3_goesFirst : ByteArray := prog_5_method_14_code
def yX3_goesFirst : MethodName := ⟨RX3, "goesFirst", "(LPeatRailway$Train;)Z"⟩
abbrev cX3_takeTurn : ByteArray := prog_5_method_15_code
def yX3_takeTurn : MethodName := ⟨RX3, "takeTurn", "(LPeatRailway$Train;)V"⟩
abbrev cX3_isToUnload : ByteArray := prog_5_method_16_code
def yX3_isToUnload : MethodName := ⟨RX3, "isToUnload", "(LPeatRailway$Train;)Z"⟩
abbrev cX3_isToLoad : ByteArray := prog_5_method_17_code
def yX3_isToLoad : MethodName := ⟨RX3, "isToLoad", "(LPeatRailway$Train;)Z"⟩
abbrev cX3_unloadTrain : ByteArray := prog_5_method_18_code
def yX3_unloadTrain : MethodName := ⟨RX3, "unloadTrain", "(LPeatRailway$Train;)V"⟩
abbrev cX3_loadTrain : ByteArray := prog_5_method_19_code
def yX3_loadTrain : MethodName := ⟨RX3, "loadTrain", "(LPeatRailway$Train;)V"⟩
abbrev cX3_moveTrain : ByteArray := prog_5_method_20_code
def yX3_moveTrain : MethodName := ⟨RX3, "moveTrain", "(LPeatRailway$Train;)V"⟩
abbrev cX3_placeBeyond : ByteArray := prog_5_method_21_code
def yX3_placeBeyond : MethodName := ⟨RX3, "placeBeyond", "(LPeatRailway$Train;)I"⟩
abbrev cX3_reasonToWait : ByteArray := prog_5_method_22_code
def yX3_reasonToWait : MethodName := ⟨RX3, "reasonToWait", "(LPeatRailway$Train;)I"⟩
abbrev cX3_reasonAhead : ByteArray := prog_5_method_23_code
def yX3_reasonAhead : MethodName := ⟨RX3, "reasonAhead", "(LPeatRailway$Train;I)I"⟩
abbrev cX3_isBetween : ByteArray := prog_5_method_24_code
def yX3_isBetween : MethodName := ⟨RX3, "isBetween", "(III)Z"⟩
abbrev cX3_settle : ByteArray := prog_5_method_25_code
def yX3_settle : MethodName := ⟨RX3, "settle", "()V"⟩
abbrev cX3_trainsIn : ByteArray := prog_5_method_26_code
def yX3_trainsIn : MethodName := ⟨RX3, "trainsIn", "(I)I"⟩
abbrev cX3_weightIn : ByteArray := prog_5_method_27_code
def yX3_weightIn : MethodName := ⟨RX3, "weightIn", "(I)I"⟩
abbrev cX3_peatInTrains : ByteArray := prog_5_method_28_code
def yX3_peatInTrains : MethodName := ⟨RX3, "peatInTrains", "()I"⟩
abbrev cX3_waitsOfAll : ByteArray := prog_5_method_29_code
def yX3_waitsOfAll : MethodName := ⟨RX3, "waitsOfAll", "()I"⟩
abbrev cX3_greatestSinking : ByteArray := prog_5_method_30_code
def yX3_greatestSinking : MethodName := ⟨RX3, "greatestSinking", "()I"⟩
abbrev cX3_sumOfSinkings : ByteArray := prog_5_method_31_code
def yX3_sumOfSinkings : MethodName := ⟨RX3, "sumOfSinkings", "()I"⟩
abbrev cX3_sunkSegments : ByteArray := prog_5_method_32_code
def yX3_sunkSegments : MethodName := ⟨RX3, "sunkSegments", "()I"⟩
def RX4 : String := "PeatRailway$Train"
def TX4 : u_T := fun k => match k with
  | 0 => ("PeatRailway$Train", "wagons", "I", false)
  | 1 => ("PeatRailway$Train", "load", "I", false)
  | 2 => ("PeatRailway$Train", "peat", "I", false)
  | 3 => ("PeatRailway$Train", "place", "I", false)
  | 4 => ("PeatRailway$Train", "up", "Z", false)
  | 5 => ("PeatRailway$Train", "rest", "I", false)
  | 6 => ("PeatRailway$Train", "reason", "I", false)
  | 7 => ("PeatRailway$Train", "waits", "I", false)
  | 8 => ("PeatRailway$Train", "unloads", "I", false)
  | _ => ("PeatRailway$Train", "early", "Z", false)
def tyX4 : Nat → FieldType := fun k => match k with
  | 0 => .int
  | 1 => .int
  | 2 => .int
  | 3 => .int
  | 4 => .boolean
  | 5 => .int
  | 6 => .int
  | 7 => .int
  | 8 => .int
  | _ => .boolean
abbrev wsX40 : List Cond := u_ws RX4 TX4 10
theorem nmX4 : ∀ a, a < 10 → ∀ b, b < 10 → a ≠ b → (TX4 a).2.1 ≠ (TX4 b).2.1 := by decide +kernel
theorem tyX4_ok : ∀ k, k < 10 → parseFieldDescriptor (TX4 k).2.2.1 = some (tyX4 k) := by decide +kernel
abbrev cX4_init : ByteArray := prog_6_method_1_code
def yX4_init : MethodName := ⟨RX4, "<init>", "()V"⟩
abbrev cX4_start : ByteArray := prog_6_method_2_code
def yX4_start : MethodName := ⟨RX4, "start", "(II)V"⟩
abbrev cX4_copyFrom : ByteArray := prog_6_method_3_code
def yX4_copyFrom : MethodName := ⟨RX4, "copyFrom", "(LPeatRailway$Train;)V"⟩
abbrev cX4_fullLoad : ByteArray := prog_6_method_4_code
def yX4_fullLoad : MethodName := ⟨RX4, "fullLoad", "()I"⟩
abbrev cX4_weight : ByteArray := prog_6_method_5_code
def yX4_weight : MethodName := ⟨RX4, "weight", "()I"⟩
def RX5 : String := "PeatRailway"
def TX5 : u_T := fun k => match k with
  | 0 => ("PeatRailway", "text", "LPeatRailway$InputText;", true)
  | 1 => ("PeatRailway", "now", "LPeatRailway$State;", true)
  | 2 => ("PeatRailway", "trial", "LPeatRailway$State;", true)
  | 3 => ("PeatRailway", "history", "LPeatRailway$History;", true)
  | 4 => ("PeatRailway", "images", "[LPeatRailway$State;", true)
  | _ => ("PeatRailway", "keptImages", "I", false)
def tyX5 : Nat → FieldType := fun k => match k with
  | 0 => .object "PeatRailway$InputText"
  | 1 => .object "PeatRailway$State"
  | 2 => .object "PeatRailway$State"
  | 3 => .object "PeatRailway$History"
  | 4 => .array (.object "PeatRailway$State")
  | _ => .int
abbrev wsX50 : List Cond := u_ws RX5 TX5 6
theorem nmX5 : ∀ a, a < 6 → ∀ b, b < 6 → a ≠ b → (TX5 a).2.1 ≠ (TX5 b).2.1 := by decide +kernel
theorem tyX5_ok : ∀ k, k < 6 → parseFieldDescriptor (TX5 k).2.2.1 = some (tyX5 k) := by decide +kernel
abbrev cX5_init : ByteArray := prog_1_method_1_code
def yX5_init : MethodName := ⟨RX5, "<init>", "()V"⟩
abbrev cX5_type : ByteArray := prog_1_method_2_code
def yX5_type : MethodName := ⟨RX5, "type", "(I)I"⟩
abbrev cX5_clear : ByteArray := prog_1_method_3_code
def yX5_clear : MethodName := ⟨RX5, "clear", "()I"⟩
abbrev cX5_fault : ByteArray := prog_1_method_4_code
def yX5_fault : MethodName := ⟨RX5, "fault", "()I"⟩
abbrev cX5_layTrack : ByteArray := prog_1_method_5_code
def yX5_layTrack : MethodName := ⟨RX5, "layTrack", "()I"⟩
abbrev cX5_set : ByteArray := prog_1_method_6_code
def yX5_set : MethodName := ⟨RX5, "set", "(II)I"⟩
abbrev cX5_dig : ByteArray := prog_1_method_7_code
def yX5_dig : MethodName := ⟨RX5, "dig", "(I)I"⟩
abbrev cX5_addTrain : ByteArray := prog_1_method_8_code
def yX5_addTrain : MethodName := ⟨RX5, "addTrain", "(II)I"⟩
abbrev cX5_dropTrain : ByteArray := prog_1_method_9_code
def yX5_dropTrain : MethodName := ⟨RX5, "dropTrain", "(I)I"⟩
abbrev cX5_setLoad : ByteArray := prog_1_method_10_code
def yX5_setLoad : MethodName := ⟨RX5, "setLoad", "(II)I"⟩
abbrev cX5_run : ByteArray := prog_1_method_11_code
def yX5_run : MethodName := ⟨RX5, "run", "(I)I"⟩
abbrev cX5_undo : ByteArray := prog_1_method_12_code
def yX5_undo : MethodName := ⟨RX5, "undo", "()I"⟩
abbrev cX5_keep : ByteArray := prog_1_method_13_code
def yX5_keep : MethodName := ⟨RX5, "keep", "(I)I"⟩
abbrev cX5_back : ByteArray := prog_1_method_14_code
def yX5_back : MethodName := ⟨RX5, "back", "(I)I"⟩
abbrev cX5_segment : ByteArray := prog_1_method_15_code
def yX5_segment : MethodName := ⟨RX5, "segment", "(II)I"⟩
abbrev cX5_train : ByteArray := prog_1_method_16_code
def yX5_train : MethodName := ⟨RX5, "train", "(II)I"⟩
abbrev cX5_why : ByteArray := prog_1_method_17_code
def yX5_why : MethodName := ⟨RX5, "why", "(I)I"⟩
abbrev cX5_account : ByteArray := prog_1_method_18_code
def yX5_account : MethodName := ⟨RX5, "account", "(I)I"⟩
abbrev cX5_count : ByteArray := prog_1_method_19_code
def yX5_count : MethodName := ⟨RX5, "count", "(I)I"⟩
abbrev cX5_setting : ByteArray := prog_1_method_20_code
def yX5_setting : MethodName := ⟨RX5, "setting", "(I)I"⟩
abbrev cX5_ifRun : ByteArray := prog_1_method_21_code
def yX5_ifRun : MethodName := ⟨RX5, "ifRun", "(II)I"⟩
abbrev cX5_ticksFor : ByteArray := prog_1_method_22_code
def yX5_ticksFor : MethodName := ⟨RX5, "ticksFor", "(I)I"⟩
abbrev cX5_bestRule : ByteArray := prog_1_method_23_code
def yX5_bestRule : MethodName := ⟨RX5, "bestRule", "(I)I"⟩
abbrev cX5_bestLoad : ByteArray := prog_1_method_24_code
def yX5_bestLoad : MethodName := ⟨RX5, "bestLoad", "(II)I"⟩
abbrev cX5_meanSinking : ByteArray := prog_1_method_25_code
def yX5_meanSinking : MethodName := ⟨RX5, "meanSinking", "()D"⟩
abbrev cX5_digest : ByteArray := prog_1_method_26_code
def yX5_digest : MethodName := ⟨RX5, "digest", "()J"⟩
abbrev cX5_isSetting : ByteArray := prog_1_method_27_code
def yX5_isSetting : MethodName := ⟨RX5, "isSetting", "(I)Z"⟩
abbrev cX5_isLoad : ByteArray := prog_1_method_28_code
def yX5_isLoad : MethodName := ⟨RX5, "isLoad", "(I)Z"⟩
abbrev cX5_isRun : ByteArray := prog_1_method_29_code
def yX5_isRun : MethodName := ⟨RX5, "isRun", "(I)Z"⟩
abbrev cX5_isImage : ByteArray := prog_1_method_30_code
def yX5_isImage : MethodName := ⟨RX5, "isImage", "(I)Z"⟩
abbrev cX5_foreseen : ByteArray := prog_1_method_31_code
def yX5_foreseen : MethodName := ⟨RX5, "foreseen", "(I)I"⟩
abbrev cX5_mixed : ByteArray := prog_1_method_32_code
def yX5_mixed : MethodName := ⟨RX5, "mixed", "(JJ)J"⟩
abbrev cX5_withSegments : ByteArray := prog_1_method_33_code
def yX5_withSegments : MethodName := ⟨RX5, "withSegments", "(J)J"⟩
abbrev cX5_withTrains : ByteArray := prog_1_method_34_code
def yX5_withTrains : MethodName := ⟨RX5, "withTrains", "(J)J"⟩
abbrev cX5_bitsOf : ByteArray := prog_1_method_35_code
def yX5_bitsOf : MethodName := ⟨RX5, "bitsOf", "(D)J"⟩
def RX6 : String := "PeatRailwayModel"
def TX6 : u_T := fun k => match k with
  | 0 => ("PeatRailwayModel", "z", "[I", true)
  | 1 => ("PeatRailwayModel", "aside", "[I", true)
  | 2 => ("PeatRailwayModel", "states", "I", false)
  | 3 => ("PeatRailwayModel", "history", "[I", true)
  | 4 => ("PeatRailwayModel", "kept", "I", false)
  | 5 => ("PeatRailwayModel", "images", "[I", true)
  | 6 => ("PeatRailwayModel", "length", "I", false)
  | 7 => ("PeatRailwayModel", "text", "[I", true)
  | 8 => ("PeatRailwayModel", "begun", "I", false)
  | 9 => ("PeatRailwayModel", "step", "I", false)
  | _ => ("PeatRailwayModel", "hash", "J", false)
def tyX6 : Nat → FieldType := fun k => match k with
  | 0 => .array .int
  | 1 => .array .int
  | 2 => .int
  | 3 => .array .int
  | 4 => .int
  | 5 => .array .int
  | 6 => .int
  | 7 => .array .int
  | 8 => .int
  | 9 => .int
  | _ => .long
abbrev wsX60 : List Cond := u_ws RX6 TX6 11
theorem nmX6 : ∀ a, a < 11 → ∀ b, b < 11 → a ≠ b → (TX6 a).2.1 ≠ (TX6 b).2.1 := by decide +kernel
theorem tyX6_ok : ∀ k, k < 11 → parseFieldDescriptor (TX6 k).2.2.1 = some (tyX6 k) := by decide +kernel
abbrev cX6_init : ByteArray := prog_8_method_1_code
def yX6_init : MethodName := ⟨RX6, "<init>", "()V"⟩
abbrev cX6_within : ByteArray := prog_8_method_2_code
def yX6_within : MethodName := ⟨RX6, "within", "(III)Z"⟩
abbrev cX6_seg : ByteArray := prog_8_method_3_code
def yX6_seg : MethodName := ⟨RX6, "seg", "(II)I"⟩
abbrev cX6_of : ByteArray := prog_8_method_4_code
def yX6_of : MethodName := ⟨RX6, "of", "(II)I"⟩
abbrev cX6_put : ByteArray := prog_8_method_5_code
def yX6_put : MethodName := ⟨RX6, "put", "(III)V"⟩
abbrev cX6_other : ByteArray := prog_8_method_6_code
def yX6_other : MethodName := ⟨RX6, "other", "(I)I"⟩
abbrev cX6_putSegment : ByteArray := prog_8_method_7_code
def yX6_putSegment : MethodName := ⟨RX6, "putSegment", "(IIZ)V"⟩
abbrev cX6_isTrain : ByteArray := prog_8_method_8_code
def yX6_isTrain : MethodName := ⟨RX6, "isTrain", "(I)Z"⟩
abbrev cX6_isSegment : ByteArray := prog_8_method_9_code
def yX6_isSegment : MethodName := ⟨RX6, "isSegment", "(I)Z"⟩
abbrev cX6_copy : ByteArray := prog_8_method_10_code
def yX6_copy : MethodName := ⟨RX6, "copy", "([II[II)V"⟩
abbrev cX6_record : ByteArray := prog_8_method_11_code
def yX6_record : MethodName := ⟨RX6, "record", "()V"⟩
abbrev cX6_type : ByteArray := prog_8_method_12_code
def yX6_type : MethodName := ⟨RX6, "type", "(I)I"⟩
abbrev cX6_clear : ByteArray := prog_8_method_13_code
def yX6_clear : MethodName := ⟨RX6, "clear", "()I"⟩
abbrev cX6_takes : ByteArray := prog_8_method_14_code
def yX6_takes : MethodName := ⟨RX6, "takes", "(I)Z"⟩
abbrev cX6_faultNow : ByteArray := prog_8_method_15_code
def yX6_faultNow : MethodName := ⟨RX6, "faultNow", "()I"⟩
abbrev cX6_fault : ByteArray := prog_8_method_16_code
def yX6_fault : MethodName := ⟨RX6, "fault", "()I"⟩
abbrev cX6_peatInTrains : ByteArray := prog_8_method_17_code
def yX6_peatInTrains : MethodName := ⟨RX6, "peatInTrains", "()I"⟩
abbrev cX6_layTrack : ByteArray := prog_8_method_18_code
def yX6_layTrack : MethodName := ⟨RX6, "layTrack", "()I"⟩
abbrev cX6_isValue : ByteArray := prog_8_method_19_code
def yX6_isValue : MethodName := ⟨RX6, "isValue", "(II)Z"⟩
abbrev cX6_set : ByteArray := prog_8_method_20_code
def yX6_set : MethodName := ⟨RX6, "set", "(II)I"⟩
abbrev cX6_dig : ByteArray := prog_8_method_21_code
def yX6_dig : MethodName := ⟨RX6, "dig", "(I)I"⟩
abbrev cX6_addTrain : ByteArray := prog_8_method_22_code
def yX6_addTrain : MethodName := ⟨RX6, "addTrain", "(II)I"⟩
abbrev cX6_dropTrain : ByteArray := prog_8_method_23_code
def yX6_dropTrain : MethodName := ⟨RX6, "dropTrain", "(I)I"⟩
abbrev cX6_setLoad : ByteArray := prog_8_method_24_code
def yX6_setLoad : MethodName := ⟨RX6, "setLoad", "(II)I"⟩
abbrev cX6_isEnd : ByteArray := prog_8_method_25_code
def yX6_isEnd : MethodName := ⟨RX6, "isEnd", "(I)Z"⟩
abbrev cX6_isPassing : ByteArray := prog_8_method_26_code
def yX6_isPassing : MethodName := ⟨RX6, "isPassing", "(I)Z"⟩
abbrev cX6_room : ByteArray := prog_8_method_27_code
def yX6_room : MethodName := ⟨RX6, "room", "(I)I"⟩
abbrev cX6_trainsIn : ByteArray := prog_8_method_28_code
def yX6_trainsIn : MethodName := ⟨RX6, "trainsIn", "(I)I"⟩
abbrev cX6_weight : ByteArray := prog_8_method_29_code
def yX6_weight : MethodName := ⟨RX6, "weight", "(I)I"⟩
abbrev cX6_weightIn : ByteArray := prog_8_method_30_code
def yX6_weightIn : MethodName := ⟨RX6, "weightIn", "(I)I"⟩
abbrev cX6_between : ByteArray := prog_8_method_31_code
def yX6_between : MethodName := ⟨RX6, "between", "(III)I"⟩
abbrev cX6_wanted : ByteArray := prog_8_method_32_code
def yX6_wanted : MethodName := ⟨RX6, "wanted", "(I)I"⟩
abbrev cX6_reason : ByteArray := prog_8_method_33_code
def yX6_reason : MethodName := ⟨RX6, "reason", "(I)I"⟩
abbrev cX6_turn : ByteArray := prog_8_method_34_code
def yX6_turn : MethodName := ⟨RX6, "turn", "(I)V"⟩
abbrev cX6_go : ByteArray := prog_8_method_35_code
def yX6_go : MethodName := ⟨RX6, "go", "(I)V"⟩
abbrev cX6_sink : ByteArray := prog_8_method_36_code
def yX6_sink : MethodName := ⟨RX6, "sink", "()V"⟩
abbrev cX6_tick : ByteArray := prog_8_method_37_code
def yX6_tick : MethodName := ⟨RX6, "tick", "()V"⟩
abbrev cX6_run : ByteArray := prog_8_method_38_code
def yX6_run : MethodName := ⟨RX6, "run", "(I)I"⟩
abbrev cX6_undo : ByteArray := prog_8_method_39_code
def yX6_undo : MethodName := ⟨RX6, "undo", "()I"⟩
abbrev cX6_keep : ByteArray := prog_8_method_40_code
def yX6_keep : MethodName := ⟨RX6, "keep", "(I)I"⟩
abbrev cX6_back : ByteArray := prog_8_method_41_code
def yX6_back : MethodName := ⟨RX6, "back", "(I)I"⟩
abbrev cX6_resting : ByteArray := prog_8_method_42_code
def yX6_resting : MethodName := ⟨RX6, "resting", "(I)I"⟩
abbrev cX6_segmentNow : ByteArray := prog_8_method_43_code
def yX6_segmentNow : MethodName := ⟨RX6, "segmentNow", "(II)I"⟩
abbrev cX6_segment : ByteArray := prog_8_method_44_code
def yX6_segment : MethodName := ⟨RX6, "segment", "(II)I"⟩
abbrev cX6_trainNow : ByteArray := prog_8_method_45_code
def yX6_trainNow : MethodName := ⟨RX6, "trainNow", "(II)I"⟩
abbrev cX6_train : ByteArray := prog_8_method_46_code
def yX6_train : MethodName := ⟨RX6, "train", "(II)I"⟩
abbrev cX6_why : ByteArray := prog_8_method_47_code
def yX6_why : MethodName := ⟨RX6, "why", "(I)I"⟩
abbrev cX6_accountNow : ByteArray := prog_8_method_48_code
def yX6_accountNow : MethodName := ⟨RX6, "accountNow", "(I)I"⟩
abbrev cX6_account : ByteArray := prog_8_method_49_code
def yX6_account : MethodName := ⟨RX6, "account", "(I)I"⟩
abbrev cX6_deepest : ByteArray := prog_8_method_50_code
def yX6_deepest : MethodName := ⟨RX6, "deepest", "()I"⟩
abbrev cX6_allWaits : ByteArray := prog_8_method_51_code
def yX6_allWaits : MethodName := ⟨RX6, "allWaits", "()I"⟩
abbrev cX6_tooDeep : ByteArray := prog_8_method_52_code
def yX6_tooDeep : MethodName := ⟨RX6, "tooDeep", "()I"⟩
abbrev cX6_counted : ByteArray := prog_8_method_53_code
def yX6_counted : MethodName := ⟨RX6, "counted", "(I)I"⟩
abbrev cX6_count : ByteArray := prog_8_method_54_code
def yX6_count : MethodName := ⟨RX6, "count", "(I)I"⟩
abbrev cX6_setting : ByteArray := prog_8_method_55_code
def yX6_setting : MethodName := ⟨RX6, "setting", "(I)I"⟩
abbrev cX6_ahead : ByteArray := prog_8_method_56_code
def yX6_ahead : MethodName := ⟨RX6, "ahead", "(II)I"⟩
abbrev cX6_ifRun : ByteArray := prog_8_method_57_code
def yX6_ifRun : MethodName := ⟨RX6, "ifRun", "(II)I"⟩
abbrev cX6_ticksUntil : ByteArray := prog_8_method_58_code
def yX6_ticksUntil : MethodName := ⟨RX6, "ticksUntil", "(I)I"⟩
abbrev cX6_ticksFor : ByteArray := prog_8_method_59_code
def yX6_ticksFor : MethodName := ⟨RX6, "ticksFor", "(I)I"⟩
abbrev cX6_best : ByteArray := prog_8_method_60_code
def yX6_best : MethodName := ⟨RX6, "best", "(IIII)I"⟩
abbrev cX6_bestRule : ByteArray := prog_8_method_61_code
def yX6_bestRule : MethodName := ⟨RX6, "bestRule", "(I)I"⟩
abbrev cX6_bestLoad : ByteArray := prog_8_method_62_code
def yX6_bestLoad : MethodName := ⟨RX6, "bestLoad", "(II)I"⟩
abbrev cX6_meanSinking : ByteArray := prog_8_method_63_code
def yX6_meanSinking : MethodName := ⟨RX6, "meanSinking", "()D"⟩
abbrev cX6_mix : ByteArray := prog_8_method_64_code
def yX6_mix : MethodName := ⟨RX6, "mix", "(J)V"⟩
abbrev cX6_digest : ByteArray := prog_8_method_65_code
def yX6_digest : MethodName := ⟨RX6, "digest", "()J"⟩
def RJxe99ae : String := "java/lang/Double"
def TJxe99ae : u_T := fun k => match k with
  | _ => ("", "", "", false)
def tyJxe99ae : Nat → FieldType := fun k => match k with
  | _ => .int
abbrev wsJxe99ae0 : List Cond := u_ws RJxe99ae TJxe99ae 0
theorem nmJxe99ae : ∀ a, a < 0 → ∀ b, b < 0 → a ≠ b → (TJxe99ae a).2.1 ≠ (TJxe99ae b).2.1 := by decide +kernel
theorem tyJxe99ae_ok : ∀ k, k < 0 → parseFieldDescriptor (TJxe99ae k).2.2.1 = some (tyJxe99ae k) := by decide +kernel
abbrev cJxe99ae_isNaN_b9ae7 : ByteArray := prog_9_method_6_code
def yJxe99ae_isNaN_b9ae7 : MethodName := ⟨RJxe99ae, "isNaN", "(D)Z"⟩
abbrev cJxe99ae_doubleToLongBits_ccdee : ByteArray := prog_9_method_23_code
def yJxe99ae_doubleToLongBits_ccdee : MethodName := ⟨RJxe99ae, "doubleToLongBits", "(D)J"⟩
def RJ9 : String := "java/lang/Math"
def TJ9 : u_T := fun k => match k with
  | _ => ("", "", "", false)
def tyJ9 : Nat → FieldType := fun k => match k with
  | _ => .int
abbrev wsJ90 : List Cond := u_ws RJ9 TJ9 0
theorem nmJ9 : ∀ a, a < 0 → ∀ b, b < 0 → a ≠ b → (TJ9 a).2.1 ≠ (TJ9 b).2.1 := by decide +kernel
theorem tyJ9_ok : ∀ k, k < 0 → parseFieldDescriptor (TJ9 k).2.2.1 = some (tyJ9 k) := by decide +kernel
abbrev cJ9_max_7cf53 : ByteArray := prog_10_method_65_code
def yJ9_max_7cf53 : MethodName := ⟨RJ9, "max", "(II)I"⟩
abbrev cJ9_min_7cf53 : ByteArray := prog_10_method_69_code
def yJ9_min_7cf53 : MethodName := ⟨RJ9, "min", "(II)I"⟩
def RJ0 : String := "java/lang/String"
def TJ0 : u_T := fun k => match k with
  | _ => ("", "", "", false)
def tyJ0 : Nat → FieldType := fun k => match k with
  | _ => .int
abbrev wsJ00 : List Cond := u_ws RJ0 TJ0 0
theorem nmJ0 : ∀ a, a < 0 → ∀ b, b < 0 → a ≠ b → (TJ0 a).2.1 ≠ (TJ0 b).2.1 := by decide +kernel
theorem tyJ0_ok : ∀ k, k < 0 → parseFieldDescriptor (TJ0 k).2.2.1 = some (tyJ0 k) := by decide +kernel
abbrev cJ0_length_8abf5 : ByteArray := prog_11_method_54_code
def yJ0_length_8abf5 : MethodName := ⟨RJ0, "length", "()I"⟩
abbrev cJ0_charAt_5068e : ByteArray := prog_11_method_56_code
def yJ0_charAt_5068e : MethodName := ⟨RJ0, "charAt", "(I)C"⟩
abbrev cJ0_coder_7d493 : ByteArray := prog_11_method_152_code
def yJ0_coder_7d493 : MethodName := ⟨RJ0, "coder", "()B"⟩
abbrev cJ0_isLatin1_aae02 : ByteArray := prog_11_method_154_code
def yJ0_isLatin1_aae02 : MethodName := ⟨RJ0, "isLatin1", "()Z"⟩
abbrev cJ0_checkIndex_df160 : ByteArray := prog_11_method_155_code
def yJ0_checkIndex_df160 : MethodName := ⟨RJ0, "checkIndex", "(II)V"⟩
def RJ1 : String := "java/lang/StringLatin1"
def TJ1 : u_T := fun k => match k with
  | _ => ("", "", "", false)
def tyJ1 : Nat → FieldType := fun k => match k with
  | _ => .int
abbrev wsJ10 : List Cond := u_ws RJ1 TJ1 0
theorem nmJ1 : ∀ a, a < 0 → ∀ b, b < 0 → a ≠ b → (TJ1 a).2.1 ≠ (TJ1 b).2.1 := by decide +kernel
theorem tyJ1_ok : ∀ k, k < 0 → parseFieldDescriptor (TJ1 k).2.2.1 = some (tyJ1 k) := by decide +kernel
abbrev cJ1_charAt_3b067 : ByteArray := prog_12_method_2_code
def yJ1_charAt_3b067 : MethodName := ⟨RJ1, "charAt", "([BI)C"⟩
def RJ2 : String := "java/lang/StringUTF16"
def TJ2 : u_T := fun k => match k with
  | _ => ("", "", "", false)
def tyJ2 : Nat → FieldType := fun k => match k with
  | _ => .int
abbrev wsJ20 : List Cond := u_ws RJ2 TJ2 0
theorem nmJ2 : ∀ a, a < 0 → ∀ b, b < 0 → a ≠ b → (TJ2 a).2.1 ≠ (TJ2 b).2.1 := by decide +kernel
theorem tyJ2_ok : ∀ k, k < 0 → parseFieldDescriptor (TJ2 k).2.2.1 = some (tyJ2 k) := by decide +kernel
abbrev cJ2_getChar_3b067 : ByteArray := prog_13_method_5_code
def yJ2_getChar_3b067 : MethodName := ⟨RJ2, "getChar", "([BI)C"⟩
abbrev cJ2_length_9d52b : ByteArray := prog_13_method_6_code
def yJ2_length_9d52b : MethodName := ⟨RJ2, "length", "([B)I"⟩
abbrev cJ2_charAt_3b067 : ByteArray := prog_13_method_83_code
def yJ2_charAt_3b067 : MethodName := ⟨RJ2, "charAt", "([BI)C"⟩
abbrev cJ2_checkIndex_2214a : ByteArray := prog_13_method_91_code
def yJ2_checkIndex_2214a : MethodName := ⟨RJ2, "checkIndex", "(I[B)V"⟩
def RJ3 : String := "jdk/internal/util/Preconditions"
def TJ3 : u_T := fun k => match k with
  | _ => ("", "", "", false)
def tyJ3 : Nat → FieldType := fun k => match k with
  | _ => .int
abbrev wsJ30 : List Cond := u_ws RJ3 TJ3 0
theorem nmJ3 : ∀ a, a < 0 → ∀ b, b < 0 → a ≠ b → (TJ3 a).2.1 ≠ (TJ3 b).2.1 := by decide +kernel
theorem tyJ3_ok : ∀ k, k < 0 → parseFieldDescriptor (TJ3 k).2.2.1 = some (tyJ3 k) := by decide +kernel
abbrev cJ3_checkIndex_8e157 : ByteArray := prog_14_method_11_code
def yJ3_checkIndex_8e157 : MethodName := ⟨RJ3, "checkIndex", "(IILjava/util/function/BiFunction;)I"⟩
def RL : String := "PeatRailwayLaw"
abbrev cL_law : ByteArray := code
def yL_law : MethodName := ⟨RL, "law", "([I)Z"⟩
def wsJ0_coder_7d493 : List Cond := .code yJ0_coder_7d493 cJ0_coder_7d493 1 (some .byte) :: ([.fieldLink RJ0 38 "java/lang/String" "COMPACT_STRINGS" "Z", .fieldLink RJ0 15 "java/lang/String" "coder" "B"])
def wsJ0_length_8abf5 : List Cond := .code yJ0_length_8abf5 cJ0_length_8abf5 1 (some .int) :: ([.fieldLink RJ0 9 "java/lang/String" "value" "[B", .methodLink RJ0 335 yJ0_coder_7d493, .instanceMethod yJ0_coder_7d493, .selects RJ0 yJ0_coder_7d493 yJ0_coder_7d493, .initialized RJ0, .code yJ0_coder_7d493 cJ0_coder_7d493 1 (some .byte), .fieldLink RJ0 38 "java/lang/String" "COMPACT_STRINGS" "Z", .fieldLink RJ0 15 "java/lang/String" "coder" "B"])
def wsJ0_isLatin1_aae02 : List Cond := .code yJ0_isLatin1_aae02 cJ0_isLatin1_aae02 1 (some .boolean) :: ([.fieldLink RJ0 38 "java/lang/String" "COMPACT_STRINGS" "Z", .fieldLink RJ0 15 "java/lang/String" "coder" "B"])
def wsJ3_checkIndex_8e157 : List Cond := .code yJ3_checkIndex_8e157 cJ3_checkIndex_8e157 3 (some .int) :: ([])
def wsJ0_checkIndex_df160 : List Cond := .code yJ0_checkIndex_df160 cJ0_checkIndex_df160 2 none :: ([.fieldLink RJ0 1053 "jdk/internal/util/Preconditions" "SIOOBE_FORMATTER" "Ljava/util/function/BiFunction;", .methodLink RJ0 1059 yJ3_checkIndex_8e157, .static yJ3_checkIndex_8e157, .initialized RJ3, .code yJ3_checkIndex_8e157 cJ3_checkIndex_8e157 3 (some .int)])
def wsJ1_charAt_3b067 : List Cond := .code yJ1_charAt_3b067 cJ1_charAt_3b067 2 (some .char) :: ([.methodLink RJ1 9 yJ0_checkIndex_df160, .static yJ0_checkIndex_df160, .initialized RJ0, .code yJ0_checkIndex_df160 cJ0_checkIndex_df160 2 none, .fieldLink RJ0 1053 "jdk/internal/util/Preconditions" "SIOOBE_FORMATTER" "Ljava/util/function/BiFunction;", .methodLink RJ0 1059 yJ3_checkIndex_8e157, .static yJ3_checkIndex_8e157, .initialized RJ3, .code yJ3_checkIndex_8e157 cJ3_checkIndex_8e157 3 (some .int)])
def wsJ2_length_9d52b : List Cond := .code yJ2_length_9d52b cJ2_length_9d52b 1 (some .int) :: ([])
def wsJ2_checkIndex_2214a : List Cond := .code yJ2_checkIndex_2214a cJ2_checkIndex_2214a 2 none :: ([.methodLink RJ2 48 yJ2_length_9d52b, .static yJ2_length_9d52b, .initialized RJ2, .code yJ2_length_9d52b cJ2_length_9d52b 1 (some .int), .methodLink RJ2 414 yJ0_checkIndex_df160, .static yJ0_checkIndex_df160, .initialized RJ0, .code yJ0_checkIndex_df160 cJ0_checkIndex_df160 2 none, .fieldLink RJ0 1053 "jdk/internal/util/Preconditions" "SIOOBE_FORMATTER" "Ljava/util/function/BiFunction;", .methodLink RJ0 1059 yJ3_checkIndex_8e157, .static yJ3_checkIndex_8e157, .initialized RJ3, .code yJ3_checkIndex_8e157 cJ3_checkIndex_8e157 3 (some .int)])
def wsJ2_getChar_3b067 : List Cond := .code yJ2_getChar_3b067 cJ2_getChar_3b067 2 (some .char) :: ([.fieldLink RJ2 44 "java/lang/StringUTF16" "$assertionsDisabled" "Z", .fieldLink RJ2 59 "java/lang/StringUTF16" "HI_BYTE_SHIFT" "I", .fieldLink RJ2 63 "java/lang/StringUTF16" "LO_BYTE_SHIFT" "I", .methodLink RJ2 48 yJ2_length_9d52b, .static yJ2_length_9d52b, .initialized RJ2, .code yJ2_length_9d52b cJ2_length_9d52b 1 (some .int)])
def wsJ2_charAt_3b067 : List Cond := .code yJ2_charAt_3b067 cJ2_charAt_3b067 2 (some .char) :: ([.methodLink RJ2 67 yJ2_checkIndex_2214a, .static yJ2_checkIndex_2214a, .initialized RJ2, .code yJ2_checkIndex_2214a cJ2_checkIndex_2214a 2 none, .methodLink RJ2 48 yJ2_length_9d52b, .static yJ2_length_9d52b, .code yJ2_length_9d52b cJ2_length_9d52b 1 (some .int), .methodLink RJ2 414 yJ0_checkIndex_df160, .static yJ0_checkIndex_df160, .initialized RJ0, .code yJ0_checkIndex_df160 cJ0_checkIndex_df160 2 none, .fieldLink RJ0 1053 "jdk/internal/util/Preconditions" "SIOOBE_FORMATTER" "Ljava/util/function/BiFunction;", .methodLink RJ0 1059 yJ3_checkIndex_8e157, .static yJ3_checkIndex_8e157, .initialized RJ3, .code yJ3_checkIndex_8e157 cJ3_checkIndex_8e157 3 (some .int), .methodLink RJ2 71 yJ2_getChar_3b067, .static yJ2_getChar_3b067, .code yJ2_getChar_3b067 cJ2_getChar_3b067 2 (some .char), .fieldLink RJ2 44 "java/lang/StringUTF16" "$assertionsDisabled" "Z", .fieldLink RJ2 59 "java/lang/StringUTF16" "HI_BYTE_SHIFT" "I", .fieldLink RJ2 63 "java/lang/StringUTF16" "LO_BYTE_SHIFT" "I"])
def wsJ0_charAt_5068e_r1 : List Cond := [Cond.fieldLink RJ0 9 "java/lang/String" "value" "[B", Cond.methodLink RJ0 492 yJ0_isLatin1_aae02, Cond.instanceMethod yJ0_isLatin1_aae02, Cond.selects RJ0 yJ0_isLatin1_aae02 yJ0_isLatin1_aae02, Cond.initialized RJ0, Cond.code yJ0_isLatin1_aae02 cJ0_isLatin1_aae02 1 (some .boolean), Cond.fieldLink RJ0 38 "java/lang/String" "COMPACT_STRINGS" "Z", Cond.fieldLink RJ0 15 "java/lang/String" "coder" "B", Cond.methodLink RJ0 495 yJ1_charAt_3b067, Cond.static yJ1_charAt_3b067, Cond.initialized RJ1, Cond.code yJ1_charAt_3b067 cJ1_charAt_3b067 2 (some .char), Cond.methodLink RJ1 9 yJ0_checkIndex_df160, Cond.static yJ0_checkIndex_df160, Cond.code yJ0_checkIndex_df160 cJ0_checkIndex_df160 2 none, Cond.fieldLink RJ0 1053 "jdk/internal/util/Preconditions" "SIOOBE_FORMATTER" "Ljava/util/function/BiFunction;", Cond.methodLink RJ0 1059 yJ3_checkIndex_8e157, Cond.static yJ3_checkIndex_8e157, Cond.initialized RJ3, Cond.code yJ3_checkIndex_8e157 cJ3_checkIndex_8e157 3 (some .int), Cond.methodLink RJ0 498 yJ2_charAt_3b067, Cond.static yJ2_charAt_3b067, Cond.initialized RJ2, Cond.code yJ2_charAt_3b067 cJ2_charAt_3b067 2 (some .char)]
def wsJ0_charAt_5068e_r2 : List Cond := [Cond.methodLink RJ2 67 yJ2_checkIndex_2214a, Cond.static yJ2_checkIndex_2214a, Cond.code yJ2_checkIndex_2214a cJ2_checkIndex_2214a 2 none, Cond.methodLink RJ2 48 yJ2_length_9d52b, Cond.static yJ2_length_9d52b, Cond.code yJ2_length_9d52b cJ2_length_9d52b 1 (some .int), Cond.methodLink RJ2 414 yJ0_checkIndex_df160, Cond.methodLink RJ2 71 yJ2_getChar_3b067, Cond.static yJ2_getChar_3b067, Cond.code yJ2_getChar_3b067 cJ2_getChar_3b067 2 (some .char), Cond.fieldLink RJ2 44 "java/lang/StringUTF16" "$assertionsDisabled" "Z", Cond.fieldLink RJ2 59 "java/lang/StringUTF16" "HI_BYTE_SHIFT" "I", Cond.fieldLink RJ2 63 "java/lang/StringUTF16" "LO_BYTE_SHIFT" "I"]
def wsJ0_charAt_5068e : List Cond := .code yJ0_charAt_5068e cJ0_charAt_5068e 2 (some .char) :: ((wsJ0_charAt_5068e_r1 ++ wsJ0_charAt_5068e_r2))
def wsJxe99ae_isNaN_b9ae7 : List Cond := .code yJxe99ae_isNaN_b9ae7 cJxe99ae_isNaN_b9ae7 2 (some .boolean) :: ([])
def wsJxe99ae_doubleToLongBits_ccdee : List Cond := .code yJxe99ae_doubleToLongBits_ccdee cJxe99ae_doubleToLongBits_ccdee 2 (some .long) :: ([.methodLink RJxe99ae 134 ⟨"java/lang/Double", "doubleToRawLongBits", "(D)J"⟩, .native ⟨"java/lang/Double", "doubleToRawLongBits", "(D)J"⟩, .static ⟨"java/lang/Double", "doubleToRawLongBits", "(D)J"⟩, .initialized "java/lang/Double", .constantLong RJxe99ae 137 (9221120237041090560), .methodLink RJxe99ae 122 yJxe99ae_isNaN_b9ae7, .static yJxe99ae_isNaN_b9ae7, .initialized RJxe99ae, .code yJxe99ae_isNaN_b9ae7 cJxe99ae_isNaN_b9ae7 2 (some .boolean)])
def wsJ9_max_7cf53 : List Cond := .code yJ9_max_7cf53 cJ9_max_7cf53 2 (some .int) :: ([])
def wsJ9_min_7cf53 : List Cond := .code yJ9_min_7cf53 cJ9_min_7cf53 2 (some .int) :: ([])
def wsL_law_r1 : List Cond := [Cond.classLink RL 7 RX5, Cond.instantiable RX5 6, Cond.initialized RX5, Cond.classLink RL 10 RX6, Cond.instantiable RX6 11, Cond.initialized RX6, Cond.methodLink RL 9 yX5_init, Cond.instanceMethod yX5_init, Cond.code yX5_init cX5_init 4 none, Cond.methodLink RX5 3 objectInit, Cond.instanceMethod objectInit, Cond.code objectInit ⟨#[0xb1]⟩ 1 none, Cond.classLink RX5 9 RX1, Cond.instantiable RX1 2, Cond.initialized RX1, Cond.classLink RX5 28 RX3, Cond.instantiable RX3 11, Cond.initialized RX3, Cond.fieldLink RX5 38 "PeatRailway" "text" "LPeatRailway$InputText;", Cond.fieldLink RX5 42 "PeatRailway" "now" "LPeatRailway$State;", Cond.fieldLink RX5 46 "PeatRailway" "trial" "LPeatRailway$State;", Cond.classLink RX5 49 RX0, Cond.instantiable RX0 2, Cond.initialized RX0]
def wsL_law_r2 : List Cond := [Cond.fieldLink RX5 52 "PeatRailway" "history" "LPeatRailway$History;", Cond.fieldLink RX5 56 "PeatRailway" "images" "[LPeatRailway$State;", Cond.methodLink RX5 11 yX1_init, Cond.instanceMethod yX1_init, Cond.code yX1_init cX1_init 1 none, Cond.methodLink RX1 3 objectInit, Cond.arrayClass .char, Cond.fieldLink RX1 9 "PeatRailway$InputText" "signs" "[C", Cond.methodLink RX5 14 yJ0_length_8abf5, Cond.instanceMethod yJ0_length_8abf5, Cond.selects RJ0 yJ0_length_8abf5 yJ0_length_8abf5, Cond.initialized RJ0, Cond.code yJ0_length_8abf5 cJ0_length_8abf5 1 (some .int), Cond.fieldLink RJ0 9 "java/lang/String" "value" "[B", Cond.methodLink RJ0 335 yJ0_coder_7d493, Cond.instanceMethod yJ0_coder_7d493, Cond.selects RJ0 yJ0_coder_7d493 yJ0_coder_7d493, Cond.code yJ0_coder_7d493 cJ0_coder_7d493 1 (some .byte), Cond.fieldLink RJ0 38 "java/lang/String" "COMPACT_STRINGS" "Z", Cond.fieldLink RJ0 15 "java/lang/String" "coder" "B", Cond.methodLink RX5 20 yJ0_charAt_5068e, Cond.instanceMethod yJ0_charAt_5068e, Cond.selects RJ0 yJ0_charAt_5068e yJ0_charAt_5068e, Cond.code yJ0_charAt_5068e cJ0_charAt_5068e 2 (some .char)]
def wsL_law_r3 : List Cond := [Cond.methodLink RJ0 492 yJ0_isLatin1_aae02, Cond.instanceMethod yJ0_isLatin1_aae02, Cond.selects RJ0 yJ0_isLatin1_aae02 yJ0_isLatin1_aae02, Cond.code yJ0_isLatin1_aae02 cJ0_isLatin1_aae02 1 (some .boolean), Cond.methodLink RJ0 495 yJ1_charAt_3b067, Cond.static yJ1_charAt_3b067, Cond.initialized RJ1, Cond.code yJ1_charAt_3b067 cJ1_charAt_3b067 2 (some .char), Cond.methodLink RJ1 9 yJ0_checkIndex_df160, Cond.static yJ0_checkIndex_df160, Cond.code yJ0_checkIndex_df160 cJ0_checkIndex_df160 2 none, Cond.fieldLink RJ0 1053 "jdk/internal/util/Preconditions" "SIOOBE_FORMATTER" "Ljava/util/function/BiFunction;", Cond.methodLink RJ0 1059 yJ3_checkIndex_8e157, Cond.static yJ3_checkIndex_8e157, Cond.initialized RJ3, Cond.code yJ3_checkIndex_8e157 cJ3_checkIndex_8e157 3 (some .int), Cond.methodLink RJ0 498 yJ2_charAt_3b067, Cond.static yJ2_charAt_3b067, Cond.initialized RJ2, Cond.code yJ2_charAt_3b067 cJ2_charAt_3b067 2 (some .char), Cond.methodLink RJ2 67 yJ2_checkIndex_2214a, Cond.static yJ2_checkIndex_2214a, Cond.code yJ2_checkIndex_2214a cJ2_checkIndex_2214a 2 none, Cond.methodLink RJ2 48 yJ2_length_9d52b]
def wsL_law_r4 : List Cond := [Cond.static yJ2_length_9d52b, Cond.code yJ2_length_9d52b cJ2_length_9d52b 1 (some .int), Cond.methodLink RJ2 414 yJ0_checkIndex_df160, Cond.methodLink RJ2 71 yJ2_getChar_3b067, Cond.static yJ2_getChar_3b067, Cond.code yJ2_getChar_3b067 cJ2_getChar_3b067 2 (some .char), Cond.fieldLink RJ2 44 "java/lang/StringUTF16" "$assertionsDisabled" "Z", Cond.fieldLink RJ2 59 "java/lang/StringUTF16" "HI_BYTE_SHIFT" "I", Cond.fieldLink RJ2 63 "java/lang/StringUTF16" "LO_BYTE_SHIFT" "I", Cond.methodLink RX5 24 yX1_append, Cond.instanceMethod yX1_append, Cond.selects RX1 yX1_append yX1_append, Cond.code yX1_append cX1_append 2 none, Cond.fieldLink RX1 15 "PeatRailway$InputText" "length" "I", Cond.methodLink RX5 30 yX3_init, Cond.instanceMethod yX3_init, Cond.code yX3_init cX3_init 2 none, Cond.methodLink RX3 3 objectInit, Cond.classLink RX3 9 RX2, Cond.fieldLink RX3 11 "PeatRailway$State" "segments" "[LPeatRailway$Segment;", Cond.instantiable RX2 6, Cond.initialized RX2, Cond.classLink RX3 18 RX4, Cond.fieldLink RX3 20 "PeatRailway$State" "trains" "[LPeatRailway$Train;"]
def wsL_law_r5 : List Cond := [Cond.instantiable RX4 10, Cond.initialized RX4, Cond.arrayClass .int, Cond.fieldLink RX3 25 "PeatRailway$State" "settings" "[I", Cond.instanceMethod yX2_init, Cond.code yX2_init cX2_init 1 none, Cond.methodLink RX2 3 objectInit, Cond.instanceMethod yX4_init, Cond.code yX4_init cX4_init 1 none, Cond.methodLink RX4 3 objectInit, Cond.methodLink RX5 31 yX1_layOnto, Cond.instanceMethod yX1_layOnto, Cond.selects RX1 yX1_layOnto yX1_layOnto, Cond.code yX1_layOnto cX1_layOnto 4 none, Cond.methodLink RX1 27 yX3_beginTrack, Cond.instanceMethod yX3_beginTrack, Cond.selects RX3 yX3_beginTrack yX3_beginTrack, Cond.code yX3_beginTrack cX3_beginTrack 1 none, Cond.fieldLink RX3 32 "PeatRailway$State" "segmentCount" "I", Cond.methodLink RX1 19 yX1_codeAt, Cond.instanceMethod yX1_codeAt, Cond.selects RX1 yX1_codeAt yX1_codeAt, Cond.code yX1_codeAt cX1_codeAt 2 (some .int), Cond.methodLink RX1 23 yX1_isDigit]
def wsL_law_r6 : List Cond := [Cond.static yX1_isDigit, Cond.code yX1_isDigit cX1_isDigit 1 (some .boolean), Cond.methodLink RX1 32 yX3_appendSegment, Cond.instanceMethod yX3_appendSegment, Cond.selects RX3 yX3_appendSegment yX3_appendSegment, Cond.code yX3_appendSegment cX3_appendSegment 3 none, Cond.methodLink RX3 61 yX3_segmentAt, Cond.instanceMethod yX3_segmentAt, Cond.selects RX3 yX3_segmentAt yX3_segmentAt, Cond.code yX3_segmentAt cX3_segmentAt 2 (some (.object "PeatRailway$Segment")), Cond.methodLink RX3 65 yX2_layDown, Cond.instanceMethod yX2_layDown, Cond.selects RX2 yX2_layDown yX2_layDown, Cond.code yX2_layDown cX2_layDown 2 none, Cond.fieldLink RX2 9 "PeatRailway$Segment" "softness" "I", Cond.fieldLink RX2 15 "PeatRailway$Segment" "room" "I", Cond.fieldLink RX2 18 "PeatRailway$Segment" "sinking" "I", Cond.methodLink RX1 36 yX3_widenLatestSegment, Cond.instanceMethod yX3_widenLatestSegment, Cond.selects RX3 yX3_widenLatestSegment yX3_widenLatestSegment, Cond.code yX3_widenLatestSegment cX3_widenLatestSegment 2 none, Cond.fieldLink RX3 69 "PeatRailway$Segment" "room" "I", Cond.methodLink RX1 39 yX3_endTrack, Cond.instanceMethod yX3_endTrack]
def wsL_law_r7 : List Cond := [Cond.selects RX3 yX3_endTrack yX3_endTrack, Cond.code yX3_endTrack cX3_endTrack 6 none, Cond.fieldLink RX3 72 "PeatRailway$Segment" "passingBelow" "I", Cond.fieldLink RX3 79 "PeatRailway$Segment" "passingAbove" "I", Cond.methodLink RX3 75 yX2_isPassingPlace, Cond.instanceMethod yX2_isPassingPlace, Cond.selects RX2 yX2_isPassingPlace yX2_isPassingPlace, Cond.code yX2_isPassingPlace cX2_isPassingPlace 1 (some .boolean), Cond.methodLink RX5 35 yX1_wipe, Cond.instanceMethod yX1_wipe, Cond.selects RX1 yX1_wipe yX1_wipe, Cond.code yX1_wipe cX1_wipe 1 none, Cond.methodLink RX5 51 yX0_init, Cond.instanceMethod yX0_init, Cond.code yX0_init cX0_init 2 none, Cond.methodLink RX0 3 objectInit, Cond.classLink RX0 9 RX3, Cond.fieldLink RX0 11 "PeatRailway$History" "states" "[LPeatRailway$State;", Cond.methodLink RX0 17 yX3_init, Cond.methodLink RL 12 yX6_init, Cond.instanceMethod yX6_init, Cond.code yX6_init cX6_init 2 none, Cond.methodLink RX6 1 objectInit, Cond.fieldLink RX6 7 "PeatRailwayModel" "z" "[I"]
def wsL_law_r8 : List Cond := [Cond.fieldLink RX6 13 "PeatRailwayModel" "aside" "[I", Cond.fieldLink RX6 16 "PeatRailwayModel" "history" "[I", Cond.fieldLink RX6 19 "PeatRailwayModel" "images" "[I", Cond.fieldLink RX6 22 "PeatRailwayModel" "text" "[I", Cond.methodLink RX6 25 yX6_putSegment, Cond.instanceMethod yX6_putSegment, Cond.selects RX6 yX6_putSegment yX6_putSegment, Cond.code yX6_putSegment cX6_putSegment 4 none, Cond.methodLink RL 13 yX5_type, Cond.instanceMethod yX5_type, Cond.selects RX5 yX5_type yX5_type, Cond.code yX5_type cX5_type 2 (some .int), Cond.methodLink RX5 60 yX1_isFull, Cond.instanceMethod yX1_isFull, Cond.selects RX1 yX1_isFull yX1_isFull, Cond.code yX1_isFull cX1_isFull 1 (some .boolean), Cond.methodLink RX5 64 yX1_length, Cond.instanceMethod yX1_length, Cond.selects RX1 yX1_length yX1_length, Cond.code yX1_length cX1_length 1 (some .int), Cond.methodLink RL 17 yX6_type, Cond.instanceMethod yX6_type, Cond.selects RX6 yX6_type yX6_type, Cond.code yX6_type cX6_type 2 (some .int)]
def wsL_law_r9 : List Cond := [Cond.fieldLink RX6 41 "PeatRailwayModel" "length" "I", Cond.methodLink RX6 29 yX6_within, Cond.static yX6_within, Cond.code yX6_within cX6_within 3 (some .boolean), Cond.methodLink RL 18 yX5_clear, Cond.instanceMethod yX5_clear, Cond.selects RX5 yX5_clear yX5_clear, Cond.code yX5_clear cX5_clear 2 (some .int), Cond.methodLink RL 22 yX6_clear, Cond.instanceMethod yX6_clear, Cond.selects RX6 yX6_clear yX6_clear, Cond.code yX6_clear cX6_clear 2 (some .int), Cond.methodLink RL 23 yX5_fault, Cond.instanceMethod yX5_fault, Cond.selects RX5 yX5_fault yX5_fault, Cond.code yX5_fault cX5_fault 1 (some .int), Cond.methodLink RX5 65 yX1_firstFault, Cond.instanceMethod yX1_firstFault, Cond.selects RX1 yX1_firstFault yX1_firstFault, Cond.code yX1_firstFault cX1_firstFault 5 (some .int), Cond.methodLink RL 26 yX6_fault, Cond.instanceMethod yX6_fault, Cond.selects RX6 yX6_fault yX6_fault, Cond.code yX6_fault cX6_fault 1 (some .int)]
def wsL_law_r10 : List Cond := [Cond.methodLink RX6 54 yX6_faultNow, Cond.instanceMethod yX6_faultNow, Cond.selects RX6 yX6_faultNow yX6_faultNow, Cond.code yX6_faultNow cX6_faultNow 2 (some .int), Cond.fieldLink RX6 47 "PeatRailwayModel" "begun" "I", Cond.fieldLink RX6 44 "PeatRailwayModel" "step" "I", Cond.methodLink RX6 50 yX6_takes, Cond.instanceMethod yX6_takes, Cond.selects RX6 yX6_takes yX6_takes, Cond.code yX6_takes cX6_takes 3 (some .boolean), Cond.methodLink RL 27 yX5_layTrack, Cond.instanceMethod yX5_layTrack, Cond.selects RX5 yX5_layTrack yX5_layTrack, Cond.code yX5_layTrack cX5_layTrack 1 (some .int), Cond.fieldLink RX5 74 "PeatRailway$State" "segmentCount" "I", Cond.methodLink RX5 68 yX0_remember, Cond.instanceMethod yX0_remember, Cond.selects RX0 yX0_remember yX0_remember, Cond.code yX0_remember cX0_remember 2 none, Cond.fieldLink RX0 18 "PeatRailway$History" "size" "I", Cond.methodLink RX0 22 yX0_dropOldest, Cond.instanceMethod yX0_dropOldest, Cond.selects RX0 yX0_dropOldest yX0_dropOldest, Cond.code yX0_dropOldest cX0_dropOldest 3 none]
def wsL_law_r11 : List Cond := [Cond.methodLink RX0 25 yX3_copyFrom, Cond.instanceMethod yX3_copyFrom, Cond.selects RX3 yX3_copyFrom yX3_copyFrom, Cond.code yX3_copyFrom cX3_copyFrom 3 none, Cond.fieldLink RX3 40 "PeatRailway$State" "trainCount" "I", Cond.fieldLink RX3 46 "PeatRailway$State" "stock" "I", Cond.fieldLink RX3 49 "PeatRailway$State" "dug" "I", Cond.fieldLink RX3 52 "PeatRailway$State" "delivered" "I", Cond.fieldLink RX3 55 "PeatRailway$State" "lost" "I", Cond.fieldLink RX3 58 "PeatRailway$State" "clock" "I", Cond.methodLink RX3 36 yX2_copyFrom, Cond.instanceMethod yX2_copyFrom, Cond.selects RX2 yX2_copyFrom yX2_copyFrom, Cond.code yX2_copyFrom cX2_copyFrom 2 none, Cond.fieldLink RX2 21 "PeatRailway$Segment" "passingAbove" "I", Cond.fieldLink RX2 24 "PeatRailway$Segment" "passingBelow" "I", Cond.methodLink RX3 43 yX4_copyFrom, Cond.instanceMethod yX4_copyFrom, Cond.selects RX4 yX4_copyFrom yX4_copyFrom, Cond.code yX4_copyFrom cX4_copyFrom 2 none, Cond.fieldLink RX4 9 "PeatRailway$Train" "wagons" "I", Cond.fieldLink RX4 15 "PeatRailway$Train" "load" "I", Cond.fieldLink RX4 18 "PeatRailway$Train" "peat" "I", Cond.fieldLink RX4 21 "PeatRailway$Train" "place" "I"]
def wsL_law_r12 : List Cond := [Cond.fieldLink RX4 24 "PeatRailway$Train" "up" "Z", Cond.fieldLink RX4 28 "PeatRailway$Train" "rest" "I", Cond.fieldLink RX4 31 "PeatRailway$Train" "reason" "I", Cond.fieldLink RX4 34 "PeatRailway$Train" "waits" "I", Cond.fieldLink RX4 37 "PeatRailway$Train" "unloads" "I", Cond.methodLink RX5 71 yX3_loseAllTrains, Cond.instanceMethod yX3_loseAllTrains, Cond.selects RX3 yX3_loseAllTrains yX3_loseAllTrains, Cond.code yX3_loseAllTrains cX3_loseAllTrains 1 none, Cond.methodLink RX3 93 yX3_peatInTrains, Cond.instanceMethod yX3_peatInTrains, Cond.selects RX3 yX3_peatInTrains yX3_peatInTrains, Cond.code yX3_peatInTrains cX3_peatInTrains 4 (some .int), Cond.fieldLink RX3 90 "PeatRailway$Train" "peat" "I", Cond.methodLink RX3 82 yX3_trainAt, Cond.instanceMethod yX3_trainAt, Cond.selects RX3 yX3_trainAt yX3_trainAt, Cond.code yX3_trainAt cX3_trainAt 2 (some (.object "PeatRailway$Train")), Cond.methodLink RL 30 yX6_layTrack, Cond.instanceMethod yX6_layTrack, Cond.selects RX6 yX6_layTrack yX6_layTrack, Cond.code yX6_layTrack cX6_layTrack 2 (some .int), Cond.methodLink RX6 62 yX6_record, Cond.instanceMethod yX6_record]
def wsL_law_r13 : List Cond := [Cond.selects RX6 yX6_record yX6_record, Cond.code yX6_record cX6_record 2 none, Cond.fieldLink RX6 33 "PeatRailwayModel" "states" "I", Cond.methodLink RX6 37 yX6_copy, Cond.instanceMethod yX6_copy, Cond.selects RX6 yX6_copy yX6_copy, Cond.code yX6_copy cX6_copy 6 none, Cond.methodLink RX6 65 yX6_peatInTrains, Cond.instanceMethod yX6_peatInTrains, Cond.selects RX6 yX6_peatInTrains yX6_peatInTrains, Cond.code yX6_peatInTrains cX6_peatInTrains 3 (some .int), Cond.methodLink RX6 58 yX6_of, Cond.instanceMethod yX6_of, Cond.selects RX6 yX6_of yX6_of, Cond.code yX6_of cX6_of 3 (some .int), Cond.methodLink RL 31 yX5_set, Cond.instanceMethod yX5_set, Cond.selects RX5 yX5_set yX5_set, Cond.code yX5_set cX5_set 4 (some .int), Cond.fieldLink RX5 82 "PeatRailway" "LEAST_VALUE" "[I", Cond.fieldLink RX5 86 "PeatRailway" "MOST_VALUE" "[I", Cond.fieldLink RX5 89 "PeatRailway$State" "settings" "[I", Cond.methodLink RX5 78 yX5_isSetting, Cond.static yX5_isSetting]
def wsL_law_r14 : List Cond := [Cond.code yX5_isSetting cX5_isSetting 1 (some .boolean), Cond.methodLink RL 35 yX6_set, Cond.instanceMethod yX6_set, Cond.selects RX6 yX6_set yX6_set, Cond.code yX6_set cX6_set 4 (some .int), Cond.methodLink RX6 68 yX6_isValue, Cond.static yX6_isValue, Cond.code yX6_isValue cX6_isValue 2 (some .boolean), Cond.methodLink RX6 72 yX6_other, Cond.instanceMethod yX6_other, Cond.selects RX6 yX6_other yX6_other, Cond.code yX6_other cX6_other 2 (some .int), Cond.methodLink RL 36 yX5_dig, Cond.instanceMethod yX5_dig, Cond.selects RX5 yX5_dig yX5_dig, Cond.code yX5_dig cX5_dig 2 (some .int), Cond.fieldLink RX5 92 "PeatRailway$State" "stock" "I", Cond.fieldLink RX5 95 "PeatRailway$State" "dug" "I", Cond.methodLink RL 39 yX6_dig, Cond.instanceMethod yX6_dig, Cond.selects RX6 yX6_dig yX6_dig, Cond.code yX6_dig cX6_dig 2 (some .int), Cond.methodLink RL 40 yX5_addTrain, Cond.instanceMethod yX5_addTrain]
def wsL_law_r15 : List Cond := [Cond.selects RX5 yX5_addTrain yX5_addTrain, Cond.code yX5_addTrain cX5_addTrain 3 (some .int), Cond.fieldLink RX5 101 "PeatRailway$State" "trainCount" "I", Cond.methodLink RX5 98 yX5_isLoad, Cond.static yX5_isLoad, Cond.code yX5_isLoad cX5_isLoad 1 (some .boolean), Cond.methodLink RX5 104 yX3_bringTrain, Cond.instanceMethod yX3_bringTrain, Cond.selects RX3 yX3_bringTrain yX3_bringTrain, Cond.code yX3_bringTrain cX3_bringTrain 4 (some .int), Cond.methodLink RX3 86 yX4_start, Cond.instanceMethod yX4_start, Cond.selects RX4 yX4_start yX4_start, Cond.code yX4_start cX4_start 3 none, Cond.methodLink RL 43 yX6_addTrain, Cond.instanceMethod yX6_addTrain, Cond.selects RX6 yX6_addTrain yX6_addTrain, Cond.code yX6_addTrain cX6_addTrain 5 (some .int), Cond.methodLink RX6 76 yX6_put, Cond.instanceMethod yX6_put, Cond.selects RX6 yX6_put yX6_put, Cond.code yX6_put cX6_put 4 none, Cond.methodLink RL 44 yX5_dropTrain, Cond.instanceMethod yX5_dropTrain]
def wsL_law_r16 : List Cond := [Cond.selects RX5 yX5_dropTrain yX5_dropTrain, Cond.code yX5_dropTrain cX5_dropTrain 4 (some .int), Cond.fieldLink RX5 112 "PeatRailway$Train" "peat" "I", Cond.methodLink RX5 108 yX3_trainAt, Cond.methodLink RX5 117 yX3_loseTrain, Cond.instanceMethod yX3_loseTrain, Cond.selects RX3 yX3_loseTrain yX3_loseTrain, Cond.code yX3_loseTrain cX3_loseTrain 6 none, Cond.methodLink RL 47 yX6_dropTrain, Cond.instanceMethod yX6_dropTrain, Cond.selects RX6 yX6_dropTrain yX6_dropTrain, Cond.code yX6_dropTrain cX6_dropTrain 4 (some .int), Cond.methodLink RX6 80 yX6_isTrain, Cond.instanceMethod yX6_isTrain, Cond.selects RX6 yX6_isTrain yX6_isTrain, Cond.code yX6_isTrain cX6_isTrain 2 (some .boolean), Cond.methodLink RL 48 yX5_setLoad, Cond.instanceMethod yX5_setLoad, Cond.selects RX5 yX5_setLoad yX5_setLoad, Cond.code yX5_setLoad cX5_setLoad 5 (some .int), Cond.fieldLink RX5 121 "PeatRailway$Train" "load" "I", Cond.methodLink RL 51 yX6_setLoad, Cond.instanceMethod yX6_setLoad, Cond.selects RX6 yX6_setLoad yX6_setLoad]
def wsL_law_r17 : List Cond := [Cond.code yX6_setLoad cX6_setLoad 4 (some .int), Cond.methodLink RL 52 yX5_run, Cond.instanceMethod yX5_run, Cond.selects RX5 yX5_run yX5_run, Cond.code yX5_run cX5_run 2 (some .int), Cond.methodLink RX5 124 yX5_isRun, Cond.static yX5_isRun, Cond.code yX5_isRun cX5_isRun 1 (some .boolean), Cond.methodLink RX5 127 yX3_pass, Cond.instanceMethod yX3_pass, Cond.selects RX3 yX3_pass yX3_pass, Cond.code yX3_pass cX3_pass 4 (some .int), Cond.fieldLink RX3 97 "PeatRailway$State" "peak" "I", Cond.methodLink RX3 100 yX3_tick, Cond.instanceMethod yX3_tick, Cond.selects RX3 yX3_tick yX3_tick, Cond.code yX3_tick cX3_tick 4 none, Cond.fieldLink RX3 107 "PeatRailway$Train" "early" "Z", Cond.methodLink RX3 103 yX3_goesFirst, Cond.instanceMethod yX3_goesFirst, Cond.selects RX3 yX3_goesFirst yX3_goesFirst, Cond.code yX3_goesFirst cX3_goesFirst 3 (some .boolean), Cond.fieldLink RX3 117 "PeatRailway$Train" "up" "Z", Cond.methodLink RX3 111 yX3_takeTurn]
def wsL_law_r18 : List Cond := [Cond.instanceMethod yX3_takeTurn, Cond.selects RX3 yX3_takeTurn yX3_takeTurn, Cond.code yX3_takeTurn cX3_takeTurn 2 none, Cond.fieldLink RX3 120 "PeatRailway$Train" "rest" "I", Cond.fieldLink RX3 123 "PeatRailway$Train" "reason" "I", Cond.fieldLink RX3 130 "PeatRailway$Train" "waits" "I", Cond.methodLink RX3 126 yX3_reasonToWait, Cond.instanceMethod yX3_reasonToWait, Cond.selects RX3 yX3_reasonToWait yX3_reasonToWait, Cond.code yX3_reasonToWait cX3_reasonToWait 5 (some .int), Cond.fieldLink RX3 148 "PeatRailway$Train" "place" "I", Cond.fieldLink RX3 163 "PeatRailway$Segment" "sinking" "I", Cond.methodLink RX3 133 yX3_isToUnload, Cond.instanceMethod yX3_isToUnload, Cond.selects RX3 yX3_isToUnload yX3_isToUnload, Cond.code yX3_isToUnload cX3_isToUnload 2 (some .boolean), Cond.methodLink RX3 139 yX3_isToLoad, Cond.instanceMethod yX3_isToLoad, Cond.selects RX3 yX3_isToLoad yX3_isToLoad, Cond.code yX3_isToLoad cX3_isToLoad 2 (some .boolean), Cond.methodLink RX3 157 yX4_fullLoad, Cond.instanceMethod yX4_fullLoad, Cond.selects RX4 yX4_fullLoad yX4_fullLoad, Cond.code yX4_fullLoad cX4_fullLoad 1 (some .int)]
def wsL_law_r19 : List Cond := [Cond.methodLink RX3 160 yX3_placeBeyond, Cond.instanceMethod yX3_placeBeyond, Cond.selects RX3 yX3_placeBeyond yX3_placeBeyond, Cond.code yX3_placeBeyond cX3_placeBeyond 2 (some .int), Cond.methodLink RX3 166 yX3_trainsIn, Cond.instanceMethod yX3_trainsIn, Cond.selects RX3 yX3_trainsIn yX3_trainsIn, Cond.code yX3_trainsIn cX3_trainsIn 5 (some .int), Cond.methodLink RX3 170 yX3_reasonAhead, Cond.instanceMethod yX3_reasonAhead, Cond.selects RX3 yX3_reasonAhead yX3_reasonAhead, Cond.code yX3_reasonAhead cX3_reasonAhead 6 (some .int), Cond.methodLink RX3 174 yX3_isBetween, Cond.static yX3_isBetween, Cond.code yX3_isBetween cX3_isBetween 3 (some .boolean), Cond.methodLink RX3 136 yX3_unloadTrain, Cond.instanceMethod yX3_unloadTrain, Cond.selects RX3 yX3_unloadTrain yX3_unloadTrain, Cond.code yX3_unloadTrain cX3_unloadTrain 2 none, Cond.fieldLink RX3 151 "PeatRailway$Train" "wagons" "I", Cond.fieldLink RX3 154 "PeatRailway$Train" "unloads" "I", Cond.methodLink RX3 142 yX3_loadTrain, Cond.instanceMethod yX3_loadTrain, Cond.selects RX3 yX3_loadTrain yX3_loadTrain]
def wsL_law_r20 : List Cond := [Cond.code yX3_loadTrain cX3_loadTrain 2 none, Cond.methodLink RX3 145 yX3_moveTrain, Cond.instanceMethod yX3_moveTrain, Cond.selects RX3 yX3_moveTrain yX3_moveTrain, Cond.code yX3_moveTrain cX3_moveTrain 3 none, Cond.methodLink RX3 114 yX3_settle, Cond.instanceMethod yX3_settle, Cond.selects RX3 yX3_settle yX3_settle, Cond.code yX3_settle cX3_settle 4 none, Cond.fieldLink RX3 178 "PeatRailway$Segment" "burden" "I", Cond.methodLink RX3 186 Lib.Math.max.name, Cond.static Lib.Math.max.name, Cond.initialized "java/lang/Math", Cond.code Lib.Math.max.name Lib.Math.max.code 2 (some .int), Cond.methodLink RX3 181 yX4_weight, Cond.instanceMethod yX4_weight, Cond.selects RX4 yX4_weight yX4_weight, Cond.code yX4_weight cX4_weight 1 (some .int), Cond.methodLink RX3 184 yX2_settle, Cond.instanceMethod yX2_settle, Cond.selects RX2 yX2_settle yX2_settle, Cond.code yX2_settle cX2_settle 2 none, Cond.fieldLink RX2 27 "PeatRailway$Segment" "burden" "I", Cond.methodLink RX2 30 Lib.Math.max.name]
def wsL_law_r21 : List Cond := [Cond.methodLink RX2 36 Lib.Math.min.name, Cond.static Lib.Math.min.name, Cond.code Lib.Math.min.name Lib.Math.min.code 2 (some .int), Cond.methodLink RL 55 yX6_run, Cond.instanceMethod yX6_run, Cond.selects RX6 yX6_run yX6_run, Cond.code yX6_run cX6_run 4 (some .int), Cond.methodLink RX6 124 yX6_tick, Cond.instanceMethod yX6_tick, Cond.selects RX6 yX6_tick yX6_tick, Cond.code yX6_tick cX6_tick 6 none, Cond.methodLink RX6 118 yX6_turn, Cond.instanceMethod yX6_turn, Cond.selects RX6 yX6_turn yX6_turn, Cond.code yX6_turn cX6_turn 4 none, Cond.methodLink RX6 108 yX6_reason, Cond.instanceMethod yX6_reason, Cond.selects RX6 yX6_reason yX6_reason, Cond.code yX6_reason cX6_reason 8 (some .int), Cond.methodLink RX6 95 yX6_wanted, Cond.instanceMethod yX6_wanted, Cond.selects RX6 yX6_wanted yX6_wanted, Cond.code yX6_wanted cX6_wanted 2 (some .int), Cond.methodLink RX6 83 yX6_seg]
def wsL_law_r22 : List Cond := [Cond.instanceMethod yX6_seg, Cond.selects RX6 yX6_seg yX6_seg, Cond.code yX6_seg cX6_seg 3 (some .int), Cond.methodLink RX6 98 yX6_trainsIn, Cond.instanceMethod yX6_trainsIn, Cond.selects RX6 yX6_trainsIn yX6_trainsIn, Cond.code yX6_trainsIn cX6_trainsIn 4 (some .int), Cond.methodLink RX6 101 yX6_room, Cond.instanceMethod yX6_room, Cond.selects RX6 yX6_room yX6_room, Cond.code yX6_room cX6_room 2 (some .int), Cond.methodLink RX6 86 yX6_isEnd, Cond.instanceMethod yX6_isEnd, Cond.selects RX6 yX6_isEnd yX6_isEnd, Cond.code yX6_isEnd cX6_isEnd 2 (some .boolean), Cond.methodLink RX6 89 yX6_isPassing, Cond.instanceMethod yX6_isPassing, Cond.selects RX6 yX6_isPassing yX6_isPassing, Cond.code yX6_isPassing cX6_isPassing 2 (some .boolean), Cond.methodLink RX6 104 yX6_between, Cond.instanceMethod yX6_between, Cond.selects RX6 yX6_between yX6_between, Cond.code yX6_between cX6_between 8 (some .int), Cond.methodLink RX6 111 yX6_go]
def wsL_law_r23 : List Cond := [Cond.instanceMethod yX6_go, Cond.selects RX6 yX6_go yX6_go, Cond.code yX6_go cX6_go 5 none, Cond.methodLink RX6 121 yX6_sink, Cond.instanceMethod yX6_sink, Cond.selects RX6 yX6_sink yX6_sink, Cond.code yX6_sink cX6_sink 5 none, Cond.methodLink RX6 115 yX6_weightIn, Cond.instanceMethod yX6_weightIn, Cond.selects RX6 yX6_weightIn yX6_weightIn, Cond.code yX6_weightIn cX6_weightIn 4 (some .int), Cond.methodLink RX6 92 yX6_weight, Cond.instanceMethod yX6_weight, Cond.selects RX6 yX6_weight yX6_weight, Cond.code yX6_weight cX6_weight 2 (some .int), Cond.methodLink RL 56 yX5_undo, Cond.instanceMethod yX5_undo, Cond.selects RX5 yX5_undo yX5_undo, Cond.code yX5_undo cX5_undo 1 (some .int), Cond.methodLink RX5 131 yX0_size, Cond.instanceMethod yX0_size, Cond.selects RX0 yX0_size yX0_size, Cond.code yX0_size cX0_size 1 (some .int), Cond.methodLink RX5 134 yX0_restore]
def wsL_law_r24 : List Cond := [Cond.instanceMethod yX0_restore, Cond.selects RX0 yX0_restore yX0_restore, Cond.code yX0_restore cX0_restore 2 none, Cond.methodLink RL 59 yX6_undo, Cond.instanceMethod yX6_undo, Cond.selects RX6 yX6_undo yX6_undo, Cond.code yX6_undo cX6_undo 1 (some .int), Cond.methodLink RL 60 yX5_keep, Cond.instanceMethod yX5_keep, Cond.selects RX5 yX5_keep yX5_keep, Cond.code yX5_keep cX5_keep 2 (some .int), Cond.fieldLink RX5 143 "PeatRailway" "keptImages" "I", Cond.fieldLink RX5 146 "PeatRailway$State" "clock" "I", Cond.methodLink RX5 137 yX5_isImage, Cond.static yX5_isImage, Cond.code yX5_isImage cX5_isImage 1 (some .boolean), Cond.methodLink RX5 140 yX3_copyFrom, Cond.methodLink RL 63 yX6_keep, Cond.instanceMethod yX6_keep, Cond.selects RX6 yX6_keep yX6_keep, Cond.code yX6_keep cX6_keep 2 (some .int), Cond.fieldLink RX6 127 "PeatRailwayModel" "kept" "I", Cond.methodLink RL 64 yX5_back, Cond.instanceMethod yX5_back]
def wsL_law_r25 : List Cond := [Cond.selects RX5 yX5_back yX5_back, Cond.code yX5_back cX5_back 2 (some .int), Cond.methodLink RL 67 yX6_back, Cond.instanceMethod yX6_back, Cond.selects RX6 yX6_back yX6_back, Cond.code yX6_back cX6_back 2 (some .int), Cond.methodLink RL 68 yX5_segment, Cond.instanceMethod yX5_segment, Cond.selects RX5 yX5_segment yX5_segment, Cond.code yX5_segment cX5_segment 4 (some .int), Cond.fieldLink RX5 153 "PeatRailway$Segment" "softness" "I", Cond.fieldLink RX5 161 "PeatRailway$Segment" "sinking" "I", Cond.fieldLink RX5 170 "PeatRailway$Segment" "room" "I", Cond.methodLink RX5 149 yX3_segmentAt, Cond.methodLink RX5 158 yX2_isPassingPlace, Cond.methodLink RX5 164 yX3_trainsIn, Cond.methodLink RX5 167 yX3_weightIn, Cond.instanceMethod yX3_weightIn, Cond.selects RX3 yX3_weightIn yX3_weightIn, Cond.code yX3_weightIn cX3_weightIn 5 (some .int), Cond.methodLink RX5 173 yX2_ticksToRise, Cond.instanceMethod yX2_ticksToRise, Cond.selects RX2 yX2_ticksToRise yX2_ticksToRise, Cond.code yX2_ticksToRise cX2_ticksToRise 3 (some .int)]
def wsL_law_r26 : List Cond := [Cond.methodLink RL 71 yX6_segment, Cond.instanceMethod yX6_segment, Cond.selects RX6 yX6_segment yX6_segment, Cond.code yX6_segment cX6_segment 3 (some .int), Cond.methodLink RX6 133 yX6_isSegment, Cond.instanceMethod yX6_isSegment, Cond.selects RX6 yX6_isSegment yX6_isSegment, Cond.code yX6_isSegment cX6_isSegment 2 (some .boolean), Cond.methodLink RX6 136 yX6_segmentNow, Cond.instanceMethod yX6_segmentNow, Cond.selects RX6 yX6_segmentNow yX6_segmentNow, Cond.code yX6_segmentNow cX6_segmentNow 3 (some .int), Cond.methodLink RX6 130 yX6_resting, Cond.instanceMethod yX6_resting, Cond.selects RX6 yX6_resting yX6_resting, Cond.code yX6_resting cX6_resting 3 (some .int), Cond.methodLink RL 72 yX5_train, Cond.instanceMethod yX5_train, Cond.selects RX5 yX5_train yX5_train, Cond.code yX5_train cX5_train 4 (some .int), Cond.fieldLink RX5 176 "PeatRailway$Train" "wagons" "I", Cond.fieldLink RX5 179 "PeatRailway$Train" "place" "I", Cond.fieldLink RX5 182 "PeatRailway$Train" "up" "Z", Cond.fieldLink RX5 186 "PeatRailway$Train" "rest" "I"]
def wsL_law_r27 : List Cond := [Cond.fieldLink RX5 189 "PeatRailway$Train" "reason" "I", Cond.fieldLink RX5 192 "PeatRailway$Train" "waits" "I", Cond.fieldLink RX5 195 "PeatRailway$Train" "unloads" "I", Cond.methodLink RX5 198 yX4_weight, Cond.methodLink RL 75 yX6_train, Cond.instanceMethod yX6_train, Cond.selects RX6 yX6_train yX6_train, Cond.code yX6_train cX6_train 3 (some .int), Cond.methodLink RX6 139 yX6_trainNow, Cond.instanceMethod yX6_trainNow, Cond.selects RX6 yX6_trainNow yX6_trainNow, Cond.code yX6_trainNow cX6_trainNow 3 (some .int), Cond.methodLink RL 76 yX5_why, Cond.instanceMethod yX5_why, Cond.selects RX5 yX5_why yX5_why, Cond.code yX5_why cX5_why 3 (some .int), Cond.methodLink RX5 201 yX3_reasonToWait, Cond.methodLink RL 79 yX6_why, Cond.instanceMethod yX6_why, Cond.selects RX6 yX6_why yX6_why, Cond.code yX6_why cX6_why 2 (some .int), Cond.methodLink RL 80 yX5_account, Cond.instanceMethod yX5_account, Cond.selects RX5 yX5_account yX5_account]
def wsL_law_r28 : List Cond := [Cond.code yX5_account cX5_account 2 (some .int), Cond.fieldLink RX5 208 "PeatRailway$State" "delivered" "I", Cond.fieldLink RX5 211 "PeatRailway$State" "lost" "I", Cond.methodLink RX5 205 yX3_peatInTrains, Cond.methodLink RL 83 yX6_account, Cond.instanceMethod yX6_account, Cond.selects RX6 yX6_account yX6_account, Cond.code yX6_account cX6_account 2 (some .int), Cond.methodLink RX6 142 yX6_accountNow, Cond.instanceMethod yX6_accountNow, Cond.selects RX6 yX6_accountNow yX6_accountNow, Cond.code yX6_accountNow cX6_accountNow 2 (some .int), Cond.methodLink RL 84 yX5_count, Cond.instanceMethod yX5_count, Cond.selects RX5 yX5_count yX5_count, Cond.code yX5_count cX5_count 2 (some .int), Cond.methodLink RX5 214 yX3_greatestSinking, Cond.instanceMethod yX3_greatestSinking, Cond.selects RX3 yX3_greatestSinking yX3_greatestSinking, Cond.code yX3_greatestSinking cX3_greatestSinking 4 (some .int), Cond.methodLink RX5 217 yX3_waitsOfAll, Cond.instanceMethod yX3_waitsOfAll, Cond.selects RX3 yX3_waitsOfAll yX3_waitsOfAll, Cond.code yX3_waitsOfAll cX3_waitsOfAll 4 (some .int)]
def wsL_law_r29 : List Cond := [Cond.methodLink RX5 220 yX3_sunkSegments, Cond.instanceMethod yX3_sunkSegments, Cond.selects RX3 yX3_sunkSegments yX3_sunkSegments, Cond.code yX3_sunkSegments cX3_sunkSegments 4 (some .int), Cond.methodLink RL 87 yX6_count, Cond.instanceMethod yX6_count, Cond.selects RX6 yX6_count yX6_count, Cond.code yX6_count cX6_count 2 (some .int), Cond.methodLink RX6 154 yX6_counted, Cond.instanceMethod yX6_counted, Cond.selects RX6 yX6_counted yX6_counted, Cond.code yX6_counted cX6_counted 2 (some .int), Cond.methodLink RX6 145 yX6_deepest, Cond.instanceMethod yX6_deepest, Cond.selects RX6 yX6_deepest yX6_deepest, Cond.code yX6_deepest cX6_deepest 3 (some .int), Cond.methodLink RX6 148 yX6_allWaits, Cond.instanceMethod yX6_allWaits, Cond.selects RX6 yX6_allWaits yX6_allWaits, Cond.code yX6_allWaits cX6_allWaits 3 (some .int), Cond.methodLink RX6 151 yX6_tooDeep, Cond.instanceMethod yX6_tooDeep, Cond.selects RX6 yX6_tooDeep yX6_tooDeep, Cond.code yX6_tooDeep cX6_tooDeep 3 (some .int)]
def wsL_law_r30 : List Cond := [Cond.methodLink RL 88 yX5_setting, Cond.instanceMethod yX5_setting, Cond.selects RX5 yX5_setting yX5_setting, Cond.code yX5_setting cX5_setting 2 (some .int), Cond.methodLink RL 91 yX6_setting, Cond.instanceMethod yX6_setting, Cond.selects RX6 yX6_setting yX6_setting, Cond.code yX6_setting cX6_setting 2 (some .int), Cond.methodLink RL 92 yX5_ifRun, Cond.instanceMethod yX5_ifRun, Cond.selects RX5 yX5_ifRun yX5_ifRun, Cond.code yX5_ifRun cX5_ifRun 3 (some .int), Cond.methodLink RX5 223 yX5_foreseen, Cond.instanceMethod yX5_foreseen, Cond.selects RX5 yX5_foreseen yX5_foreseen, Cond.code yX5_foreseen cX5_foreseen 2 (some .int), Cond.fieldLink RX5 265 "PeatRailway$State" "peak" "I", Cond.methodLink RL 95 yX6_ifRun, Cond.instanceMethod yX6_ifRun, Cond.selects RX6 yX6_ifRun yX6_ifRun, Cond.code yX6_ifRun cX6_ifRun 3 (some .int), Cond.methodLink RX6 157 yX6_ahead, Cond.instanceMethod yX6_ahead, Cond.selects RX6 yX6_ahead yX6_ahead]
def wsL_law_r31 : List Cond := [Cond.code yX6_ahead cX6_ahead 7 (some .int), Cond.methodLink RL 96 yX5_ticksFor, Cond.instanceMethod yX5_ticksFor, Cond.selects RX5 yX5_ticksFor yX5_ticksFor, Cond.code yX5_ticksFor cX5_ticksFor 3 (some .int), Cond.methodLink RX5 226 yX3_tick, Cond.methodLink RL 99 yX6_ticksFor, Cond.instanceMethod yX6_ticksFor, Cond.selects RX6 yX6_ticksFor yX6_ticksFor, Cond.code yX6_ticksFor cX6_ticksFor 2 (some .int), Cond.methodLink RX6 160 yX6_ticksUntil, Cond.instanceMethod yX6_ticksUntil, Cond.selects RX6 yX6_ticksUntil yX6_ticksUntil, Cond.code yX6_ticksUntil cX6_ticksUntil 5 (some .int), Cond.methodLink RL 100 yX5_bestRule, Cond.instanceMethod yX5_bestRule, Cond.selects RX5 yX5_bestRule yX5_bestRule, Cond.code yX5_bestRule cX5_bestRule 6 (some .int), Cond.methodLink RL 103 yX6_bestRule, Cond.instanceMethod yX6_bestRule, Cond.selects RX6 yX6_bestRule yX6_bestRule, Cond.code yX6_bestRule cX6_bestRule 2 (some .int), Cond.methodLink RX6 163 yX6_best, Cond.instanceMethod yX6_best]
def wsL_law_r32 : List Cond := [Cond.selects RX6 yX6_best yX6_best, Cond.code yX6_best cX6_best 10 (some .int), Cond.methodLink RL 104 yX5_bestLoad, Cond.instanceMethod yX5_bestLoad, Cond.selects RX5 yX5_bestLoad yX5_bestLoad, Cond.code yX5_bestLoad cX5_bestLoad 8 (some .int), Cond.methodLink RL 107 yX6_bestLoad, Cond.instanceMethod yX6_bestLoad, Cond.selects RX6 yX6_bestLoad yX6_bestLoad, Cond.code yX6_bestLoad cX6_bestLoad 3 (some .int), Cond.methodLink RL 108 yX5_meanSinking, Cond.instanceMethod yX5_meanSinking, Cond.selects RX5 yX5_meanSinking yX5_meanSinking, Cond.code yX5_meanSinking cX5_meanSinking 1 (some .double), Cond.methodLink RX5 229 yX3_sumOfSinkings, Cond.instanceMethod yX3_sumOfSinkings, Cond.selects RX3 yX3_sumOfSinkings yX3_sumOfSinkings, Cond.code yX3_sumOfSinkings cX3_sumOfSinkings 4 (some .int), Cond.methodLink RL 112 yX6_meanSinking, Cond.instanceMethod yX6_meanSinking, Cond.selects RX6 yX6_meanSinking yX6_meanSinking, Cond.code yX6_meanSinking cX6_meanSinking 3 (some .double), Cond.methodLink RL 113 yX5_digest, Cond.instanceMethod yX5_digest]
def wsL_law_r33 : List Cond := [Cond.selects RX5 yX5_digest yX5_digest, Cond.code yX5_digest cX5_digest 4 (some .long), Cond.constantLong RX5 232 (2069), Cond.methodLink RX5 234 yX5_count, Cond.methodLink RX5 237 yX5_mixed, Cond.static yX5_mixed, Cond.code yX5_mixed cX5_mixed 4 (some .long), Cond.constantLong RX5 268 (31), Cond.methodLink RX5 241 yX5_setting, Cond.methodLink RX5 244 yX5_account, Cond.methodLink RX5 247 yX5_withSegments, Cond.instanceMethod yX5_withSegments, Cond.selects RX5 yX5_withSegments yX5_withSegments, Cond.code yX5_withSegments cX5_withSegments 7 (some .long), Cond.methodLink RX5 270 yX5_segment, Cond.methodLink RX5 251 yX5_withTrains, Cond.instanceMethod yX5_withTrains, Cond.selects RX5 yX5_withTrains yX5_withTrains, Cond.code yX5_withTrains cX5_withTrains 7 (some .long), Cond.methodLink RX5 273 yX5_train, Cond.methodLink RX5 276 yX5_why, Cond.methodLink RX5 254 yX5_meanSinking, Cond.methodLink RX5 258 yX5_bitsOf, Cond.static yX5_bitsOf]
def wsL_law_r34 : List Cond := [Cond.code yX5_bitsOf cX5_bitsOf 8 (some .long), Cond.constantLong RX5 279 (1023), Cond.constantDouble RX5 281 (4611686018427387904), Cond.constantDouble RX5 283 (4841369599423283200), Cond.methodLink RX5 262 yX1_codeAt, Cond.methodLink RL 117 yX6_digest, Cond.instanceMethod yX6_digest, Cond.selects RX6 yX6_digest yX6_digest, Cond.code yX6_digest cX6_digest 3 (some .long), Cond.constantLong RX6 173 (2069), Cond.fieldLink RX6 169 "PeatRailwayModel" "hash" "J", Cond.methodLink RX6 175 yX6_mix, Cond.instanceMethod yX6_mix, Cond.selects RX6 yX6_mix yX6_mix, Cond.code yX6_mix cX6_mix 3 none, Cond.constantLong RX6 167 (31), Cond.methodLink RX6 179 yX6_meanSinking, Cond.methodLink RX6 183 yJxe99ae_doubleToLongBits_ccdee, Cond.static yJxe99ae_doubleToLongBits_ccdee, Cond.initialized RJxe99ae, Cond.code yJxe99ae_doubleToLongBits_ccdee cJxe99ae_doubleToLongBits_ccdee 2 (some .long), Cond.methodLink RJxe99ae 134 ⟨"java/lang/Double", "doubleToRawLongBits", "(D)J"⟩, Cond.native ⟨"java/lang/Double", "doubleToRawLongBits", "(D)J"⟩, Cond.static ⟨"java/lang/Double", "doubleToRawLongBits", "(D)J"⟩]
def wsL_law_r35 : List Cond := [Cond.initialized "java/lang/Double", Cond.constantLong RJxe99ae 137 (9221120237041090560), Cond.methodLink RJxe99ae 122 yJxe99ae_isNaN_b9ae7, Cond.static yJxe99ae_isNaN_b9ae7, Cond.code yJxe99ae_isNaN_b9ae7 cJxe99ae_isNaN_b9ae7 2 (some .boolean)]
def wsL_law : List Cond := (wsL_law_r1 ++ (wsL_law_r2 ++ (wsL_law_r3 ++ (wsL_law_r4 ++ (wsL_law_r5 ++ (wsL_law_r6 ++ (wsL_law_r7 ++ (wsL_law_r8 ++ (wsL_law_r9 ++ (wsL_law_r10 ++ (wsL_law_r11 ++ (wsL_law_r12 ++ (wsL_law_r13 ++ (wsL_law_r14 ++ (wsL_law_r15 ++ (wsL_law_r16 ++ (wsL_law_r17 ++ (wsL_law_r18 ++ (wsL_law_r19 ++ (wsL_law_r20 ++ (wsL_law_r21 ++ (wsL_law_r22 ++ (wsL_law_r23 ++ (wsL_law_r24 ++ (wsL_law_r25 ++ (wsL_law_r26 ++ (wsL_law_r27 ++ (wsL_law_r28 ++ (wsL_law_r29 ++ (wsL_law_r30 ++ (wsL_law_r31 ++ (wsL_law_r32 ++ (wsL_law_r33 ++ (wsL_law_r34 ++ wsL_law_r35)))))))))))))))))))))))))))))))))) ++ wsX50 ++ wsX60 ++ wsX10 ++ wsX30 ++ wsX00 ++ wsX20 ++ wsX40 ++ ([] : List Cond)
theorem inlX0 : ∀ w ∈ wsX00, w ∈ wsL_law := fun _ h => List.mem_append_left _ (List.mem_append_left _ (List.mem_append_left _ (List.mem_append_right _ h)))
theorem inlX1 : ∀ w ∈ wsX10, w ∈ wsL_law := fun _ h => List.mem_append_left _ (List.mem_append_left _ (List.mem_append_left _ (List.mem_append_left _ (List.mem_append_left _ (List.mem_append_right _ h)))))
theorem inlX2 : ∀ w ∈ wsX20, w ∈ wsL_law := fun _ h => List.mem_append_left _ (List.mem_append_left _ (List.mem_append_right _ h))
theorem inlX3 : ∀ w ∈ wsX30, w ∈ wsL_law := fun _ h => List.mem_append_left _ (List.mem_append_left _ (List.mem_append_left _ (List.mem_append_left _ (List.mem_append_right _ h))))
theorem inlX4 : ∀ w ∈ wsX40, w ∈ wsL_law := fun _ h => List.mem_append_left _ (List.mem_append_right _ h)
theorem inlX5 : ∀ w ∈ wsX50, w ∈ wsL_law := fun _ h => List.mem_append_left _ (List.mem_append_left _ (List.mem_append_left _ (List.mem_append_left _ (List.mem_append_left _ (List.mem_append_left _ (List.mem_append_left _ (List.mem_append_right _ h)))))))
theorem inlX6 : ∀ w ∈ wsX60, w ∈ wsL_law := fun _ h => List.mem_append_left _ (List.mem_append_left _ (List.mem_append_left _ (List.mem_append_left _ (List.mem_append_left _ (List.mem_append_left _ (List.mem_append_right _ h))))))
abbrev vwCl : List vw_C := [(RX0, TX0, 2), (RX1, TX1, 2), (RX2, TX2, 6), (RX3, TX3, 11), (RX4, TX4, 10), (RX5, TX5, 6), (RX6, TX6, 11)]
