section
-- ===== PART A: goes FIRST, ahead of the names: the tables' words, and 'selects' of the private methods out of them =====
/-- a private method of a class that the tables say can be made, by its rows of tables_1 -/
def lw_okq (q : MethodName × Nat) : Prop := (q.1.cls ≠ "java/lang/invoke/MethodHandle" ∧ q.1.cls ≠ "java/lang/invoke/VarHandle") ∧ Cond.instantiable q.1.cls q.2 ∈ tables_1 ∧ Cond.privateMethod q.1 ∈ tables_1 ∧ Cond.instanceMethod q.1 ∈ tables_1
theorem lw_p0 : lw_okq (⟨"PeatRailway$History", "dropOldest", "()V"⟩, 2) := ⟨⟨by decide +kernel, by decide +kernel⟩, List.mem_of_getElem? (i := 275) (by decide +kernel), List.mem_of_getElem? (i := 342) (by decide +kernel), List.mem_of_getElem? (i := 343) (by decide +kernel)⟩
theorem lw_p1 : lw_okq (⟨"PeatRailway$State", "goesFirst", "(LPeatRailway$Train;)Z"⟩, 11) := ⟨⟨by decide +kernel, by decide +kernel⟩, List.mem_of_getElem? (i := 90) (by decide +kernel), List.mem_of_getElem? (i := 428) (by decide +kernel), List.mem_of_getElem? (i := 429) (by decide +kernel)⟩
theorem lw_p2 : lw_okq (⟨"PeatRailway$State", "takeTurn", "(LPeatRailway$Train;)V"⟩, 11) := ⟨⟨by decide +kernel, by decide +kernel⟩, List.mem_of_getElem? (i := 90) (by decide +kernel), List.mem_of_getElem? (i := 432) (by decide +kernel), List.mem_of_getElem? (i := 433) (by decide +kernel)⟩
theorem lw_p3 : lw_okq (⟨"PeatRailway$State", "isToUnload", "(LPeatRailway$Train;)Z"⟩, 11) := ⟨⟨by decide +kernel, by decide +kernel⟩, List.mem_of_getElem? (i := 90) (by decide +kernel), List.mem_of_getElem? (i := 440) (by decide +kernel), List.mem_of_getElem? (i := 441) (by decide +kernel)⟩
theorem lw_p4 : lw_okq (⟨"PeatRailway$State", "isToLoad", "(LPeatRailway$Train;)Z"⟩, 11) := ⟨⟨by decide +kernel, by decide +kernel⟩, List.mem_of_getElem? (i := 90) (by decide +kernel), List.mem_of_getElem? (i := 444) (by decide +kernel), List.mem_of_getElem? (i := 445) (by decide +kernel)⟩
theorem lw_p5 : lw_okq (⟨"PeatRailway$State", "placeBeyond", "(LPeatRailway$Train;)I"⟩, 11) := ⟨⟨by decide +kernel, by decide +kernel⟩, List.mem_of_getElem? (i := 90) (by decide +kernel), List.mem_of_getElem? (i := 452) (by decide +kernel), List.mem_of_getElem? (i := 453) (by decide +kernel)⟩
theorem lw_p6 : lw_okq (⟨"PeatRailway$State", "reasonAhead", "(LPeatRailway$Train;I)I"⟩, 11) := ⟨⟨by decide +kernel, by decide +kernel⟩, List.mem_of_getElem? (i := 90) (by decide +kernel), List.mem_of_getElem? (i := 460) (by decide +kernel), List.mem_of_getElem? (i := 461) (by decide +kernel)⟩
theorem lw_p7 : lw_okq (⟨"PeatRailway$State", "unloadTrain", "(LPeatRailway$Train;)V"⟩, 11) := ⟨⟨by decide +kernel, by decide +kernel⟩, List.mem_of_getElem? (i := 90) (by decide +kernel), List.mem_of_getElem? (i := 467) (by decide +kernel), List.mem_of_getElem? (i := 468) (by decide +kernel)⟩
theorem lw_p8 : lw_okq (⟨"PeatRailway$State", "loadTrain", "(LPeatRailway$Train;)V"⟩, 11) := ⟨⟨by decide +kernel, by decide +kernel⟩, List.mem_of_getElem? (i := 90) (by decide +kernel), List.mem_of_getElem? (i := 471) (by decide +kernel), List.mem_of_getElem? (i := 472) (by decide +kernel)⟩
theorem lw_p9 : lw_okq (⟨"PeatRailway$State", "moveTrain", "(LPeatRailway$Train;)V"⟩, 11) := ⟨⟨by decide +kernel, by decide +kernel⟩, List.mem_of_getElem? (i := 90) (by decide +kernel), List.mem_of_getElem? (i := 475) (by decide +kernel), List.mem_of_getElem? (i := 476) (by decide +kernel)⟩
theorem lw_p10 : lw_okq (⟨"PeatRailway$State", "settle", "()V"⟩, 11) := ⟨⟨by decide +kernel, by decide +kernel⟩, List.mem_of_getElem? (i := 90) (by decide +kernel), List.mem_of_getElem? (i := 479) (by decide +kernel), List.mem_of_getElem? (i := 480) (by decide +kernel)⟩
theorem lw_p11 : lw_okq (⟨"PeatRailway", "foreseen", "(I)I"⟩, 6) := ⟨⟨by decide +kernel, by decide +kernel⟩, List.mem_of_getElem? (i := 15) (by decide +kernel), List.mem_of_getElem? (i := 576) (by decide +kernel), List.mem_of_getElem? (i := 577) (by decide +kernel)⟩
theorem lw_p12 : lw_okq (⟨"PeatRailway", "withSegments", "(J)J"⟩, 6) := ⟨⟨by decide +kernel, by decide +kernel⟩, List.mem_of_getElem? (i := 15) (by decide +kernel), List.mem_of_getElem? (i := 613) (by decide +kernel), List.mem_of_getElem? (i := 614) (by decide +kernel)⟩
theorem lw_p13 : lw_okq (⟨"PeatRailway", "withTrains", "(J)J"⟩, 6) := ⟨⟨by decide +kernel, by decide +kernel⟩, List.mem_of_getElem? (i := 15) (by decide +kernel), List.mem_of_getElem? (i := 618) (by decide +kernel), List.mem_of_getElem? (i := 619) (by decide +kernel)⟩
theorem lw_p14 : lw_okq (⟨"PeatRailwayModel", "putSegment", "(IIZ)V"⟩, 11) := ⟨⟨by decide +kernel, by decide +kernel⟩, List.mem_of_getElem? (i := 632) (by decide +kernel), List.mem_of_getElem? (i := 638) (by decide +kernel), List.mem_of_getElem? (i := 639) (by decide +kernel)⟩
theorem lw_p15 : lw_okq (⟨"PeatRailwayModel", "faultNow", "()I"⟩, 11) := ⟨⟨by decide +kernel, by decide +kernel⟩, List.mem_of_getElem? (i := 632) (by decide +kernel), List.mem_of_getElem? (i := 691) (by decide +kernel), List.mem_of_getElem? (i := 692) (by decide +kernel)⟩
def lw_privs_1 : List (MethodName × Nat) := [(⟨"PeatRailway$History", "dropOldest", "()V"⟩, 2), (⟨"PeatRailway$State", "goesFirst", "(LPeatRailway$Train;)Z"⟩, 11), (⟨"PeatRailway$State", "takeTurn", "(LPeatRailway$Train;)V"⟩, 11), (⟨"PeatRailway$State", "isToUnload", "(LPeatRailway$Train;)Z"⟩, 11), (⟨"PeatRailway$State", "isToLoad", "(LPeatRailway$Train;)Z"⟩, 11), (⟨"PeatRailway$State", "placeBeyond", "(LPeatRailway$Train;)I"⟩, 11), (⟨"PeatRailway$State", "reasonAhead", "(LPeatRailway$Train;I)I"⟩, 11), (⟨"PeatRailway$State", "unloadTrain", "(LPeatRailway$Train;)V"⟩, 11), (⟨"PeatRailway$State", "loadTrain", "(LPeatRailway$Train;)V"⟩, 11), (⟨"PeatRailway$State", "moveTrain", "(LPeatRailway$Train;)V"⟩, 11), (⟨"PeatRailway$State", "settle", "()V"⟩, 11), (⟨"PeatRailway", "foreseen", "(I)I"⟩, 6), (⟨"PeatRailway", "withSegments", "(J)J"⟩, 6), (⟨"PeatRailway", "withTrains", "(J)J"⟩, 6), (⟨"PeatRailwayModel", "putSegment", "(IIZ)V"⟩, 11), (⟨"PeatRailwayModel", "faultNow", "()I"⟩, 11)]
theorem lw_r1 : ∀ q ∈ lw_privs_1, lw_okq q := List.forall_mem_cons.mpr ⟨lw_p0, List.forall_mem_cons.mpr ⟨lw_p1, List.forall_mem_cons.mpr ⟨lw_p2, List.forall_mem_cons.mpr ⟨lw_p3, List.forall_mem_cons.mpr ⟨lw_p4, List.forall_mem_cons.mpr ⟨lw_p5, List.forall_mem_cons.mpr ⟨lw_p6, List.forall_mem_cons.mpr ⟨lw_p7, List.forall_mem_cons.mpr ⟨lw_p8, List.forall_mem_cons.mpr ⟨lw_p9, List.forall_mem_cons.mpr ⟨lw_p10, List.forall_mem_cons.mpr ⟨lw_p11, List.forall_mem_cons.mpr ⟨lw_p12, List.forall_mem_cons.mpr ⟨lw_p13, List.forall_mem_cons.mpr ⟨lw_p14, List.forall_mem_cons.mpr ⟨lw_p15, fun _ h => absurd h List.not_mem_nil⟩⟩⟩⟩⟩⟩⟩⟩⟩⟩⟩⟩⟩⟩⟩⟩
theorem lw_p16 : lw_okq (⟨"PeatRailwayModel", "takes", "(I)Z"⟩, 11) := ⟨⟨by decide +kernel, by decide +kernel⟩, List.mem_of_getElem? (i := 632) (by decide +kernel), List.mem_of_getElem? (i := 695) (by decide +kernel), List.mem_of_getElem? (i := 696) (by decide +kernel)⟩
theorem lw_p17 : lw_okq (⟨"PeatRailwayModel", "record", "()V"⟩, 11) := ⟨⟨by decide +kernel, by decide +kernel⟩, List.mem_of_getElem? (i := 632) (by decide +kernel), List.mem_of_getElem? (i := 703) (by decide +kernel), List.mem_of_getElem? (i := 704) (by decide +kernel)⟩
theorem lw_p18 : lw_okq (⟨"PeatRailwayModel", "copy", "([II[II)V"⟩, 11) := ⟨⟨by decide +kernel, by decide +kernel⟩, List.mem_of_getElem? (i := 632) (by decide +kernel), List.mem_of_getElem? (i := 707) (by decide +kernel), List.mem_of_getElem? (i := 708) (by decide +kernel)⟩
theorem lw_p19 : lw_okq (⟨"PeatRailwayModel", "peatInTrains", "()I"⟩, 11) := ⟨⟨by decide +kernel, by decide +kernel⟩, List.mem_of_getElem? (i := 632) (by decide +kernel), List.mem_of_getElem? (i := 711) (by decide +kernel), List.mem_of_getElem? (i := 712) (by decide +kernel)⟩
theorem lw_p20 : lw_okq (⟨"PeatRailwayModel", "of", "(II)I"⟩, 11) := ⟨⟨by decide +kernel, by decide +kernel⟩, List.mem_of_getElem? (i := 632) (by decide +kernel), List.mem_of_getElem? (i := 715) (by decide +kernel), List.mem_of_getElem? (i := 716) (by decide +kernel)⟩
theorem lw_p21 : lw_okq (⟨"PeatRailwayModel", "other", "(I)I"⟩, 11) := ⟨⟨by decide +kernel, by decide +kernel⟩, List.mem_of_getElem? (i := 632) (by decide +kernel), List.mem_of_getElem? (i := 726) (by decide +kernel), List.mem_of_getElem? (i := 727) (by decide +kernel)⟩
theorem lw_p22 : lw_okq (⟨"PeatRailwayModel", "put", "(III)V"⟩, 11) := ⟨⟨by decide +kernel, by decide +kernel⟩, List.mem_of_getElem? (i := 632) (by decide +kernel), List.mem_of_getElem? (i := 738) (by decide +kernel), List.mem_of_getElem? (i := 739) (by decide +kernel)⟩
theorem lw_p23 : lw_okq (⟨"PeatRailwayModel", "isTrain", "(I)Z"⟩, 11) := ⟨⟨by decide +kernel, by decide +kernel⟩, List.mem_of_getElem? (i := 632) (by decide +kernel), List.mem_of_getElem? (i := 746) (by decide +kernel), List.mem_of_getElem? (i := 747) (by decide +kernel)⟩
theorem lw_p24 : lw_okq (⟨"PeatRailwayModel", "tick", "()V"⟩, 11) := ⟨⟨by decide +kernel, by decide +kernel⟩, List.mem_of_getElem? (i := 632) (by decide +kernel), List.mem_of_getElem? (i := 758) (by decide +kernel), List.mem_of_getElem? (i := 759) (by decide +kernel)⟩
theorem lw_p25 : lw_okq (⟨"PeatRailwayModel", "turn", "(I)V"⟩, 11) := ⟨⟨by decide +kernel, by decide +kernel⟩, List.mem_of_getElem? (i := 632) (by decide +kernel), List.mem_of_getElem? (i := 762) (by decide +kernel), List.mem_of_getElem? (i := 763) (by decide +kernel)⟩
theorem lw_p26 : lw_okq (⟨"PeatRailwayModel", "reason", "(I)I"⟩, 11) := ⟨⟨by decide +kernel, by decide +kernel⟩, List.mem_of_getElem? (i := 632) (by decide +kernel), List.mem_of_getElem? (i := 766) (by decide +kernel), List.mem_of_getElem? (i := 767) (by decide +kernel)⟩
theorem lw_p27 : lw_okq (⟨"PeatRailwayModel", "wanted", "(I)I"⟩, 11) := ⟨⟨by decide +kernel, by decide +kernel⟩, List.mem_of_getElem? (i := 632) (by decide +kernel), List.mem_of_getElem? (i := 770) (by decide +kernel), List.mem_of_getElem? (i := 771) (by decide +kernel)⟩
theorem lw_p28 : lw_okq (⟨"PeatRailwayModel", "seg", "(II)I"⟩, 11) := ⟨⟨by decide +kernel, by decide +kernel⟩, List.mem_of_getElem? (i := 632) (by decide +kernel), List.mem_of_getElem? (i := 774) (by decide +kernel), List.mem_of_getElem? (i := 775) (by decide +kernel)⟩
theorem lw_p29 : lw_okq (⟨"PeatRailwayModel", "trainsIn", "(I)I"⟩, 11) := ⟨⟨by decide +kernel, by decide +kernel⟩, List.mem_of_getElem? (i := 632) (by decide +kernel), List.mem_of_getElem? (i := 778) (by decide +kernel), List.mem_of_getElem? (i := 779) (by decide +kernel)⟩
theorem lw_p30 : lw_okq (⟨"PeatRailwayModel", "room", "(I)I"⟩, 11) := ⟨⟨by decide +kernel, by decide +kernel⟩, List.mem_of_getElem? (i := 632) (by decide +kernel), List.mem_of_getElem? (i := 782) (by decide +kernel), List.mem_of_getElem? (i := 783) (by decide +kernel)⟩
theorem lw_p31 : lw_okq (⟨"PeatRailwayModel", "isEnd", "(I)Z"⟩, 11) := ⟨⟨by decide +kernel, by decide +kernel⟩, List.mem_of_getElem? (i := 632) (by decide +kernel), List.mem_of_getElem? (i := 786) (by decide +kernel), List.mem_of_getElem? (i := 787) (by decide +kernel)⟩
def lw_privs_2 : List (MethodName × Nat) := [(⟨"PeatRailwayModel", "takes", "(I)Z"⟩, 11), (⟨"PeatRailwayModel", "record", "()V"⟩, 11), (⟨"PeatRailwayModel", "copy", "([II[II)V"⟩, 11), (⟨"PeatRailwayModel", "peatInTrains", "()I"⟩, 11), (⟨"PeatRailwayModel", "of", "(II)I"⟩, 11), (⟨"PeatRailwayModel", "other", "(I)I"⟩, 11), (⟨"PeatRailwayModel", "put", "(III)V"⟩, 11), (⟨"PeatRailwayModel", "isTrain", "(I)Z"⟩, 11), (⟨"PeatRailwayModel", "tick", "()V"⟩, 11), (⟨"PeatRailwayModel", "turn", "(I)V"⟩, 11), (⟨"PeatRailwayModel", "reason", "(I)I"⟩, 11), (⟨"PeatRailwayModel", "wanted", "(I)I"⟩, 11), (⟨"PeatRailwayModel", "seg", "(II)I"⟩, 11), (⟨"PeatRailwayModel", "trainsIn", "(I)I"⟩, 11), (⟨"PeatRailwayModel", "room", "(I)I"⟩, 11), (⟨"PeatRailwayModel", "isEnd", "(I)Z"⟩, 11)]
theorem lw_r2 : ∀ q ∈ lw_privs_2, lw_okq q := List.forall_mem_cons.mpr ⟨lw_p16, List.forall_mem_cons.mpr ⟨lw_p17, List.forall_mem_cons.mpr ⟨lw_p18, List.forall_mem_cons.mpr ⟨lw_p19, List.forall_mem_cons.mpr ⟨lw_p20, List.forall_mem_cons.mpr ⟨lw_p21, List.forall_mem_cons.mpr ⟨lw_p22, List.forall_mem_cons.mpr ⟨lw_p23, List.forall_mem_cons.mpr ⟨lw_p24, List.forall_mem_cons.mpr ⟨lw_p25, List.forall_mem_cons.mpr ⟨lw_p26, List.forall_mem_cons.mpr ⟨lw_p27, List.forall_mem_cons.mpr ⟨lw_p28, List.forall_mem_cons.mpr ⟨lw_p29, List.forall_mem_cons.mpr ⟨lw_p30, List.forall_mem_cons.mpr ⟨lw_p31, fun _ h => absurd h List.not_mem_nil⟩⟩⟩⟩⟩⟩⟩⟩⟩⟩⟩⟩⟩⟩⟩⟩
theorem lw_p32 : lw_okq (⟨"PeatRailwayModel", "isPassing", "(I)Z"⟩, 11) := ⟨⟨by decide +kernel, by decide +kernel⟩, List.mem_of_getElem? (i := 632) (by decide +kernel), List.mem_of_getElem? (i := 790) (by decide +kernel), List.mem_of_getElem? (i := 791) (by decide +kernel)⟩
theorem lw_p33 : lw_okq (⟨"PeatRailwayModel", "between", "(III)I"⟩, 11) := ⟨⟨by decide +kernel, by decide +kernel⟩, List.mem_of_getElem? (i := 632) (by decide +kernel), List.mem_of_getElem? (i := 794) (by decide +kernel), List.mem_of_getElem? (i := 795) (by decide +kernel)⟩
theorem lw_p34 : lw_okq (⟨"PeatRailwayModel", "go", "(I)V"⟩, 11) := ⟨⟨by decide +kernel, by decide +kernel⟩, List.mem_of_getElem? (i := 632) (by decide +kernel), List.mem_of_getElem? (i := 798) (by decide +kernel), List.mem_of_getElem? (i := 799) (by decide +kernel)⟩
theorem lw_p35 : lw_okq (⟨"PeatRailwayModel", "sink", "()V"⟩, 11) := ⟨⟨by decide +kernel, by decide +kernel⟩, List.mem_of_getElem? (i := 632) (by decide +kernel), List.mem_of_getElem? (i := 802) (by decide +kernel), List.mem_of_getElem? (i := 803) (by decide +kernel)⟩
theorem lw_p36 : lw_okq (⟨"PeatRailwayModel", "weightIn", "(I)I"⟩, 11) := ⟨⟨by decide +kernel, by decide +kernel⟩, List.mem_of_getElem? (i := 632) (by decide +kernel), List.mem_of_getElem? (i := 806) (by decide +kernel), List.mem_of_getElem? (i := 807) (by decide +kernel)⟩
theorem lw_p37 : lw_okq (⟨"PeatRailwayModel", "weight", "(I)I"⟩, 11) := ⟨⟨by decide +kernel, by decide +kernel⟩, List.mem_of_getElem? (i := 632) (by decide +kernel), List.mem_of_getElem? (i := 810) (by decide +kernel), List.mem_of_getElem? (i := 811) (by decide +kernel)⟩
theorem lw_p38 : lw_okq (⟨"PeatRailwayModel", "isSegment", "(I)Z"⟩, 11) := ⟨⟨by decide +kernel, by decide +kernel⟩, List.mem_of_getElem? (i := 632) (by decide +kernel), List.mem_of_getElem? (i := 830) (by decide +kernel), List.mem_of_getElem? (i := 831) (by decide +kernel)⟩
theorem lw_p39 : lw_okq (⟨"PeatRailwayModel", "segmentNow", "(II)I"⟩, 11) := ⟨⟨by decide +kernel, by decide +kernel⟩, List.mem_of_getElem? (i := 632) (by decide +kernel), List.mem_of_getElem? (i := 834) (by decide +kernel), List.mem_of_getElem? (i := 835) (by decide +kernel)⟩
theorem lw_p40 : lw_okq (⟨"PeatRailwayModel", "resting", "(I)I"⟩, 11) := ⟨⟨by decide +kernel, by decide +kernel⟩, List.mem_of_getElem? (i := 632) (by decide +kernel), List.mem_of_getElem? (i := 838) (by decide +kernel), List.mem_of_getElem? (i := 839) (by decide +kernel)⟩
theorem lw_p41 : lw_okq (⟨"PeatRailwayModel", "trainNow", "(II)I"⟩, 11) := ⟨⟨by decide +kernel, by decide +kernel⟩, List.mem_of_getElem? (i := 632) (by decide +kernel), List.mem_of_getElem? (i := 846) (by decide +kernel), List.mem_of_getElem? (i := 847) (by decide +kernel)⟩
theorem lw_p42 : lw_okq (⟨"PeatRailwayModel", "accountNow", "(I)I"⟩, 11) := ⟨⟨by decide +kernel, by decide +kernel⟩, List.mem_of_getElem? (i := 632) (by decide +kernel), List.mem_of_getElem? (i := 858) (by decide +kernel), List.mem_of_getElem? (i := 859) (by decide +kernel)⟩
theorem lw_p43 : lw_okq (⟨"PeatRailwayModel", "counted", "(I)I"⟩, 11) := ⟨⟨by decide +kernel, by decide +kernel⟩, List.mem_of_getElem? (i := 632) (by decide +kernel), List.mem_of_getElem? (i := 866) (by decide +kernel), List.mem_of_getElem? (i := 867) (by decide +kernel)⟩
theorem lw_p44 : lw_okq (⟨"PeatRailwayModel", "deepest", "()I"⟩, 11) := ⟨⟨by decide +kernel, by decide +kernel⟩, List.mem_of_getElem? (i := 632) (by decide +kernel), List.mem_of_getElem? (i := 870) (by decide +kernel), List.mem_of_getElem? (i := 871) (by decide +kernel)⟩
theorem lw_p45 : lw_okq (⟨"PeatRailwayModel", "allWaits", "()I"⟩, 11) := ⟨⟨by decide +kernel, by decide +kernel⟩, List.mem_of_getElem? (i := 632) (by decide +kernel), List.mem_of_getElem? (i := 874) (by decide +kernel), List.mem_of_getElem? (i := 875) (by decide +kernel)⟩
theorem lw_p46 : lw_okq (⟨"PeatRailwayModel", "tooDeep", "()I"⟩, 11) := ⟨⟨by decide +kernel, by decide +kernel⟩, List.mem_of_getElem? (i := 632) (by decide +kernel), List.mem_of_getElem? (i := 878) (by decide +kernel), List.mem_of_getElem? (i := 879) (by decide +kernel)⟩
theorem lw_p47 : lw_okq (⟨"PeatRailwayModel", "ahead", "(II)I"⟩, 11) := ⟨⟨by decide +kernel, by decide +kernel⟩, List.mem_of_getElem? (i := 632) (by decide +kernel), List.mem_of_getElem? (i := 890) (by decide +kernel), List.mem_of_getElem? (i := 891) (by decide +kernel)⟩
def lw_privs_3 : List (MethodName × Nat) := [(⟨"PeatRailwayModel", "isPassing", "(I)Z"⟩, 11), (⟨"PeatRailwayModel", "between", "(III)I"⟩, 11), (⟨"PeatRailwayModel", "go", "(I)V"⟩, 11), (⟨"PeatRailwayModel", "sink", "()V"⟩, 11), (⟨"PeatRailwayModel", "weightIn", "(I)I"⟩, 11), (⟨"PeatRailwayModel", "weight", "(I)I"⟩, 11), (⟨"PeatRailwayModel", "isSegment", "(I)Z"⟩, 11), (⟨"PeatRailwayModel", "segmentNow", "(II)I"⟩, 11), (⟨"PeatRailwayModel", "resting", "(I)I"⟩, 11), (⟨"PeatRailwayModel", "trainNow", "(II)I"⟩, 11), (⟨"PeatRailwayModel", "accountNow", "(I)I"⟩, 11), (⟨"PeatRailwayModel", "counted", "(I)I"⟩, 11), (⟨"PeatRailwayModel", "deepest", "()I"⟩, 11), (⟨"PeatRailwayModel", "allWaits", "()I"⟩, 11), (⟨"PeatRailwayModel", "tooDeep", "()I"⟩, 11), (⟨"PeatRailwayModel", "ahead", "(II)I"⟩, 11)]
theorem lw_r3 : ∀ q ∈ lw_privs_3, lw_okq q := List.forall_mem_cons.mpr ⟨lw_p32, List.forall_mem_cons.mpr ⟨lw_p33, List.forall_mem_cons.mpr ⟨lw_p34, List.forall_mem_cons.mpr ⟨lw_p35, List.forall_mem_cons.mpr ⟨lw_p36, List.forall_mem_cons.mpr ⟨lw_p37, List.forall_mem_cons.mpr ⟨lw_p38, List.forall_mem_cons.mpr ⟨lw_p39, List.forall_mem_cons.mpr ⟨lw_p40, List.forall_mem_cons.mpr ⟨lw_p41, List.forall_mem_cons.mpr ⟨lw_p42, List.forall_mem_cons.mpr ⟨lw_p43, List.forall_mem_cons.mpr ⟨lw_p44, List.forall_mem_cons.mpr ⟨lw_p45, List.forall_mem_cons.mpr ⟨lw_p46, List.forall_mem_cons.mpr ⟨lw_p47, fun _ h => absurd h List.not_mem_nil⟩⟩⟩⟩⟩⟩⟩⟩⟩⟩⟩⟩⟩⟩⟩⟩
theorem lw_p48 : lw_okq (⟨"PeatRailwayModel", "ticksUntil", "(I)I"⟩, 11) := ⟨⟨by decide +kernel, by decide +kernel⟩, List.mem_of_getElem? (i := 632) (by decide +kernel), List.mem_of_getElem? (i := 898) (by decide +kernel), List.mem_of_getElem? (i := 899) (by decide +kernel)⟩
theorem lw_p49 : lw_okq (⟨"PeatRailwayModel", "best", "(IIII)I"⟩, 11) := ⟨⟨by decide +kernel, by decide +kernel⟩, List.mem_of_getElem? (i := 632) (by decide +kernel), List.mem_of_getElem? (i := 906) (by decide +kernel), List.mem_of_getElem? (i := 907) (by decide +kernel)⟩
theorem lw_p50 : lw_okq (⟨"PeatRailwayModel", "mix", "(J)V"⟩, 11) := ⟨⟨by decide +kernel, by decide +kernel⟩, List.mem_of_getElem? (i := 632) (by decide +kernel), List.mem_of_getElem? (i := 923) (by decide +kernel), List.mem_of_getElem? (i := 924) (by decide +kernel)⟩
def lw_privs_4 : List (MethodName × Nat) := [(⟨"PeatRailwayModel", "ticksUntil", "(I)I"⟩, 11), (⟨"PeatRailwayModel", "best", "(IIII)I"⟩, 11), (⟨"PeatRailwayModel", "mix", "(J)V"⟩, 11)]
theorem lw_r4 : ∀ q ∈ lw_privs_4, lw_okq q := List.forall_mem_cons.mpr ⟨lw_p48, List.forall_mem_cons.mpr ⟨lw_p49, List.forall_mem_cons.mpr ⟨lw_p50, fun _ h => absurd h List.not_mem_nil⟩⟩⟩
def lw_privs : List (MethodName × Nat) := lw_privs_1 ++ (lw_privs_2 ++ (lw_privs_3 ++ (lw_privs_4)))
def lw_tbl : List Cond := k2_sels lw_privs ++ tables_1
theorem lw_privs_ok : ∀ q ∈ lw_privs, lw_okq q := by
  show ∀ q ∈ lw_privs_1 ++ (lw_privs_2 ++ (lw_privs_3 ++ (lw_privs_4))), lw_okq q
  exact List.forall_mem_append.mpr ⟨lw_r1, List.forall_mem_append.mpr ⟨lw_r2, List.forall_mem_append.mpr ⟨lw_r3, lw_r4⟩⟩⟩
/-- the streams that the claim lets the run draw from -/
abbrev lw_cs : List Choice := [Jvm.Choice.named "NaN.bits"]
theorem lw_bits : nanBits ∈ lw_cs := by first | decide | exact List.mem_cons_self | simp [lw_cs, nanBits]
theorem goodIn_r {big : List Cond} (ws : List Cond) (ps : List Nat) (hp : ws = ps.filterMap (fun i => big[i]?)) (h : ws.all goodWord = true) : GoodIn big ws := by
  intro w hw
  have h1 := List.all_eq_true.mp h w hw
  rw [hp] at hw
  obtain ⟨i, -, hi⟩ := List.mem_filterMap.mp hw
  have hm : w ∈ big := by first | exact List.mem_of_getElem? hi | exact List.getElem?_mem hi
  exact ⟨hm, good_of_word h1⟩
theorem goodIn_app {big a b : List Cond} (ha : GoodIn big a) (hb : GoodIn big b) : GoodIn big (a ++ b) := fun w h => (List.mem_append.mp h).elim (ha w) (hb w)
theorem goodIn_ca {big a b : List Cond} {c : Cond} (ha : GoodIn big (c :: a)) (hb : GoodIn big b) : GoodIn big (c :: (a ++ b)) := fun w h => (List.mem_cons.mp h).elim (fun e => ha w (List.mem_cons.mpr (Or.inl e))) (fun h => (List.mem_append.mp h).elim (fun h => ha w (List.mem_cons.mpr (Or.inr h))) (hb w))
theorem goodIn_sub {big ws : List Cond} (hm : ∀ w ∈ ws, w ∈ big) (h : ws.all goodWord = true) : GoodIn big ws := fun w hw => ⟨hm w hw, good_of_word (List.all_eq_true.mp h w hw)⟩
def RX0 : String := "PeatRailway$History"
def TX0 : u_T := fun k => match k with
  | 0 => ("PeatRailway$History", "states", "[LPeatRailway$State;", true)
  | _ => ("PeatRailway$History", "size", "I", false)
def tyX0 : Nat → FieldType := fun k => match k with
  | 0 => .array (.object "PeatRailway$State")
  | _ => .int
abbrev wsX00 : List Cond := u_ws RX0 TX0 2
theorem nmX0 : ∀ a, a < 2 → ∀ b, b < 2 → a ≠ b → (TX0 a).2.1 ≠ (TX0 b).2.1 := by decide +kernel
theorem tyX0_ok : ∀ k, k < 2 → parseFieldDescriptor (TX0 k).2.2.1 = some (tyX0 k) := by decide +kernel
abbrev cX0_init : ByteArray := prog_2_method_1_code
def yX0_init : MethodName := ⟨RX0, "<init>", "()V"⟩
abbrev cX0_size : ByteArray := prog_2_method_2_code
def yX0_size : MethodName := ⟨RX0, "size", "()I"⟩
abbrev cX0_remember : ByteArray := prog_2_method_3_code
def yX0_remember : MethodName := ⟨RX0, "remember", "(LPeatRailway$State;)V"⟩
abbrev cX0_restore : ByteArray := prog_2_method_4_code
def yX0_restore : MethodName := ⟨RX0, "restore", "(LPeatRailway$State;)V"⟩
abbrev cX0_dropOldest : ByteArray := prog_2_method_5_code
def yX0_dropOldest : MethodName := ⟨RX0, "dropOldest", "()V"⟩
def RX1 : String := "PeatRailway$InputText"
def TX1 : u_T := fun k => match k with
  | 0 => ("PeatRailway$InputText", "signs", "[C", true)
  | _ => ("PeatRailway$InputText", "length", "I", false)
def tyX1 : Nat → FieldType := fun k => match k with
  | 0 => .array .char
  | _ => .int
abbrev wsX10 : List Cond := u_ws RX1 TX1 2
theorem nmX1 : ∀ a, a < 2 → ∀ b, b < 2 → a ≠ b → (TX1 a).2.1 ≠ (TX1 b).2.1 := by decide +kernel
theorem tyX1_ok : ∀ k, k < 2 → parseFieldDescriptor (TX1 k).2.2.1 = some (tyX1 k) := by decide +kernel
abbrev cX1_init : ByteArray := prog_3_method_1_code
def yX1_init : MethodName := ⟨RX1, "<init>", "()V"⟩
abbrev cX1_length : ByteArray := prog_3_method_2_code
def yX1_length : MethodName := ⟨RX1, "length", "()I"⟩
abbrev cX1_isFull : ByteArray := prog_3_method_3_code
def yX1_isFull : MethodName := ⟨RX1, "isFull", "()Z"⟩
abbrev cX1_codeAt : ByteArray := prog_3_method_4_code
def yX1_codeAt : MethodName := ⟨RX1, "codeAt", "(I)I"⟩
abbrev cX1_append : ByteArray := prog_3_method_5_code
def yX1_append : MethodName := ⟨RX1, "append", "(C)V"⟩
abbrev cX1_wipe : ByteArray := prog_3_method_6_code
def yX1_wipe : MethodName := ⟨RX1, "wipe", "()V"⟩
abbrev cX1_firstFault : ByteArray := prog_3_method_7_code
def yX1_firstFault : MethodName := ⟨RX1, "firstFault", "()I"⟩
abbrev cX1_layOnto : ByteArray := prog_3_method_8_code
def yX1_layOnto : MethodName := ⟨RX1, "layOnto", "(LPeatRailway$State;)V"⟩
abbrev cX1_isDigit : ByteArray := prog_3_method_9_code
def yX1_isDigit : MethodName := ⟨RX1, "isDigit", "(I)Z"⟩
def RX2 : String := "PeatRailway$Segment"
def TX2 : u_T := fun k => match k with
  | 0 => ("PeatRailway$Segment", "softness", "I", false)
  | 1 => ("PeatRailway$Segment", "room", "I", false)
  | 2 => ("PeatRailway$Segment", "sinking", "I", false)
  | 3 => ("PeatRailway$Segment", "passingAbove", "I", false)
  | 4 => ("PeatRailway$Segment", "passingBelow", "I", false)
  | _ => ("PeatRailway$Segment", "burden", "I", false)
def tyX2 : Nat → FieldType := fun k => match k with
  | 0 => .int
  | 1 => .int
  | 2 => .int
  | 3 => .int
  | 4 => .int
  | _ => .int
abbrev wsX20 : List Cond := u_ws RX2 TX2 6
theorem nmX2 : ∀ a, a < 6 → ∀ b, b < 6 → a ≠ b → (TX2 a).2.1 ≠ (TX2 b).2.1 := by decide +kernel
theorem tyX2_ok : ∀ k, k < 6 → parseFieldDescriptor (TX2 k).2.2.1 = some (tyX2 k) := by decide +kernel
abbrev cX2_init : ByteArray := prog_4_method_1_code
def yX2_init : MethodName := ⟨RX2, "<init>", "()V"⟩
abbrev cX2_layDown : ByteArray := prog_4_method_2_code
def yX2_layDown : MethodName := ⟨RX2, "layDown", "(I)V"⟩
abbrev cX2_copyFrom : ByteArray := prog_4_method_3_code
def yX2_copyFrom : MethodName := ⟨RX2, "copyFrom", "(LPeatRailway$Segment;)V"⟩
abbrev cX2_isPassingPlace : ByteArray := prog_4_method_4_code
def yX2_isPassingPlace : MethodName := ⟨RX2, "isPassingPlace", "()Z"⟩
abbrev cX2_ticksToRise : ByteArray := prog_4_method_5_code
def yX2_ticksToRise : MethodName := ⟨RX2, "ticksToRise", "(II)I"⟩
abbrev cX2_settle : ByteArray := prog_4_method_6_code
def yX2_settle : MethodName := ⟨RX2, "settle", "(I)V"⟩
def RX3 : String := "PeatRailway$State"
def TX3 : u_T := fun k => match k with
  | 0 => ("PeatRailway$State", "segments", "[LPeatRailway$Segment;", true)
  | 1 => ("PeatRailway$State", "trains", "[LPeatRailway$Train;", true)
  | 2 => ("PeatRailway$State", "settings", "[I", true)
  | 3 => ("PeatRailway$State", "segmentCount", "I", false)
  | 4 => ("PeatRailway$State", "trainCount", "I", false)
  | 5 => ("PeatRailway$State", "stock", "I", false)
  | 6 => ("PeatRailway$State", "dug", "I", false)
  | 7 => ("PeatRailway$State", "delivered", "I", false)
  | 8 => ("PeatRailway$State", "lost", "I", false)
  | 9 => ("PeatRailway$State", "clock", "I", false)
  | _ => ("PeatRailway$State", "peak", "I", false)
def tyX3 : Nat → FieldType := fun k => match k with
  | 0 => .array (.object "PeatRailway$Segment")
  | 1 => .array (.object "PeatRailway$Train")
  | 2 => .array .int
  | 3 => .int
  | 4 => .int
  | 5 => .int
  | 6 => .int
  | 7 => .int
  | 8 => .int
  | 9 => .int
  | _ => .int
abbrev wsX30 : List Cond := u_ws RX3 TX3 11
theorem nmX3 : ∀ a, a < 11 → ∀ b, b < 11 → a ≠ b → (TX3 a).2.1 ≠ (TX3 b).2.1 := by decide +kernel
theorem tyX3_ok : ∀ k, k < 11 → parseFieldDescriptor (TX3 k).2.2.1 = some (tyX3 k) := by decide +kernel
abbrev cX3_init : ByteArray := prog_5_method_1_code
def yX3_init : MethodName := ⟨RX3, "<init>", "()V"⟩
abbrev cX3_copyFrom : ByteArray := prog_5_method_2_code
def yX3_copyFrom : MethodName := ⟨RX3, "copyFrom", "(LPeatRailway$State;)V"⟩
abbrev cX3_segmentAt : ByteArray := prog_5_method_3_code
def yX3_segmentAt : MethodName := ⟨RX3, "segmentAt", "(I)LPeatRailway$Segment;"⟩
abbrev cX3_trainAt : ByteArray := prog_5_method_4_code
def yX3_trainAt : MethodName := ⟨RX3, "trainAt", "(I)LPeatRailway$Train;"⟩
abbrev cX3_beginTrack : ByteArray := prog_5_method_5_code
def yX3_beginTrack : MethodName := ⟨RX3, "beginTrack", "()V"⟩
abbrev cX3_appendSegment : ByteArray := prog_5_method_6_code
def yX3_appendSegment : MethodName := ⟨RX3, "appendSegment", "(I)V"⟩
abbrev cX3_widenLatestSegment : ByteArray := prog_5_method_7_code
def yX3_widenLatestSegment : MethodName := ⟨RX3, "widenLatestSegment", "()V"⟩
abbrev cX3_endTrack : ByteArray := prog_5_method_8_code
def yX3_endTrack : MethodName := ⟨RX3, "endTrack", "()V"⟩
abbrev cX3_bringTrain : ByteArray := prog_5_method_9_code
def yX3_bringTrain : MethodName := ⟨RX3, "bringTrain", "(II)I"⟩
abbrev cX3_loseTrain : ByteArray := prog_5_method_10_code
def yX3_loseTrain : MethodName := ⟨RX3, "loseTrain", "(I)V"⟩
abbrev cX3_loseAllTrains : ByteArray := prog_5_method_11_code
def yX3_loseAllTrains : MethodName := ⟨RX3, "loseAllTrains", "()V"⟩
abbrev cX3_pass : ByteArray := prog_5_method_12_code
def yX3_pass : MethodName := ⟨RX3, "pass", "(I)I"⟩
abbrev cX3_tick : ByteArray := prog_5_method_13_code
def yX3_tick : MethodName := ⟨RX3, "tick", "()V"⟩
abbrev cX3_goesFirst : ByteArray := prog_5_method_14_code
def yX3_goesFirst : MethodName := ⟨RX3, "goesFirst", "(LPeatRailway$Train;)Z"⟩
abbrev cX3_takeTurn : ByteArray := prog_5_method_15_code
def yX3_takeTurn : MethodName := ⟨RX3, "takeTurn", "(LPeatRailway$Train;)V"⟩
abbrev cX3_isToUnload : ByteArray := prog_5_method_16_code
def yX3_isToUnload : MethodName := ⟨RX3, "isToUnload", "(LPeatRailway$Train;)Z"⟩
abbrev cX3_isToLoad : ByteArray := prog_5_method_17_code
def yX3_isToLoad : MethodName := ⟨RX3, "isToLoad", "(LPeatRailway$Train;)Z"⟩
abbrev cX3_unloadTrain : ByteArray := prog_5_method_18_code
def yX3_unloadTrain : MethodName := ⟨RX3, "unloadTrain", "(LPeatRailway$Train;)V"⟩
abbrev cX3_loadTrain : ByteArray := prog_5_method_19_code
def yX3_loadTrain : MethodName := ⟨RX3, "loadTrain", "(LPeatRailway$Train;)V"⟩
abbrev cX3_moveTrain : ByteArray := prog_5_method_20_code
def yX3_moveTrain : MethodName := ⟨RX3, "moveTrain", "(LPeatRailway$Train;)V"⟩
abbrev cX3_placeBeyond : ByteArray := prog_5_method_21_code
def yX3_placeBeyond : MethodName := ⟨RX3, "placeBeyond", "(LPeatRailway$Train;)I"⟩
abbrev cX3_reasonToWait : ByteArray := prog_5_method_22_code
def yX3_reasonToWait : MethodName := ⟨RX3, "reasonToWait", "(LPeatRailway$Train;)I"⟩
abbrev cX3_reasonAhead : ByteArray := prog_5_method_23_code
def yX3_reasonAhead : MethodName := ⟨RX3, "reasonAhead", "(LPeatRailway$Train;I)I"⟩
abbrev cX3_isBetween : ByteArray := prog_5_method_24_code
def yX3_isBetween : MethodName := ⟨RX3, "isBetween", "(III)Z"⟩
abbrev cX3_settle : ByteArray := prog_5_method_25_code
def yX3_settle : MethodName := ⟨RX3, "settle", "()V"⟩
abbrev cX3_trainsIn : ByteArray := prog_5_method_26_code
def yX3_trainsIn : MethodName := ⟨RX3, "trainsIn", "(I)I"⟩
abbrev cX3_weightIn : ByteArray := prog_5_method_27_code
def yX3_weightIn : MethodName := ⟨RX3, "weightIn", "(I)I"⟩
abbrev cX3_peatInTrains : ByteArray := prog_5_method_28_code
def yX3_peatInTrains : MethodName := ⟨RX3, "peatInTrains", "()I"⟩
abbrev cX3_waitsOfAll : ByteArray := prog_5_method_29_code
def yX3_waitsOfAll : MethodName := ⟨RX3, "waitsOfAll", "()I"⟩
abbrev cX3_greatestSinking : ByteArray := prog_5_method_30_code
def yX3_greatestSinking : MethodName := ⟨RX3, "greatestSinking", "()I"⟩
abbrev cX3_sumOfSinkings : ByteArray := prog_5_method_31_code
def yX3_sumOfSinkings : MethodName := ⟨RX3, "sumOfSinkings", "()I"⟩
abbrev cX3_sunkSegments : ByteArray := prog_5_method_32_code
def yX3_sunkSegments : MethodName := ⟨RX3, "sunkSegments", "()I"⟩
def RX4 : String := "PeatRailway$Train"
def TX4 : u_T := fun k => match k with
  | 0 => ("PeatRailway$Train", "wagons", "I", false)
  | 1 => ("PeatRailway$Train", "load", "I", false)
  | 2 => ("PeatRailway$Train", "peat", "I", false)
  | 3 => ("PeatRailway$Train", "place", "I", false)
  | 4 => ("PeatRailway$Train", "up", "Z", false)
  | 5 => ("PeatRailway$Train", "rest", "I", false)
  | 6 => ("PeatRailway$Train", "reason", "I", false)
  | 7 => ("PeatRailway$Train", "waits", "I", false)
  | 8 => ("PeatRailway$Train", "unloads", "I", false)
  | _ => ("PeatRailway$Train", "early", "Z", false)
def tyX4 : Nat → FieldType := fun k => match k with
  | 0 => .int
  | 1 => .int
  | 2 => .int
  | 3 => .int
  | 4 => .boolean
  | 5 => .int
  | 6 => .int
  | 7 => .int
  | 8 => .int
  | _ => .boolean
abbrev wsX40 : List Cond := u_ws RX4 TX4 10
theorem nmX4 : ∀ a, a < 10 → ∀ b, b < 10 → a ≠ b → (TX4 a).2.1 ≠ (TX4 b).2.1 := by decide +kernel
theorem tyX4_ok : ∀ k, k < 10 → parseFieldDescriptor (TX4 k).2.2.1 = some (tyX4 k) := by decide +kernel
abbrev cX4_init : ByteArray := prog_6_method_1_code
def yX4_init : MethodName := ⟨RX4, "<init>", "()V"⟩
abbrev cX4_start : ByteArray := prog_6_method_2_code
def yX4_start : MethodName := ⟨RX4, "start", "(II)V"⟩
abbrev cX4_copyFrom : ByteArray := prog_6_method_3_code
def yX4_copyFrom : MethodName := ⟨RX4, "copyFrom", "(LPeatRailway$Train;)V"⟩
abbrev cX4_fullLoad : ByteArray := prog_6_method_4_code
def yX4_fullLoad : MethodName := ⟨RX4, "fullLoad", "()I"⟩
abbrev cX4_weight : ByteArray := prog_6_method_5_code
def yX4_weight : MethodName := ⟨RX4, "weight", "()I"⟩
def RX5 : String := "PeatRailway"
def TX5 : u_T := fun k => match k with
  | 0 => ("PeatRailway", "text", "LPeatRailway$InputText;", true)
  | 1 => ("PeatRailway", "now", "LPeatRailway$State;", true)
  | 2 => ("PeatRailway", "trial", "LPeatRailway$State;", true)
  | 3 => ("PeatRailway", "history", "LPeatRailway$History;", true)
  | 4 => ("PeatRailway", "images", "[LPeatRailway$State;", true)
  | _ => ("PeatRailway", "keptImages", "I", false)
def tyX5 : Nat → FieldType := fun k => match k with
  | 0 => .object "PeatRailway$InputText"
  | 1 => .object "PeatRailway$State"
  | 2 => .object "PeatRailway$State"
  | 3 => .object "PeatRailway$History"
  | 4 => .array (.object "PeatRailway$State")
  | _ => .int
abbrev wsX50 : List Cond := u_ws RX5 TX5 6
theorem nmX5 : ∀ a, a < 6 → ∀ b, b < 6 → a ≠ b → (TX5 a).2.1 ≠ (TX5 b).2.1 := by decide +kernel
theorem tyX5_ok : ∀ k, k < 6 → parseFieldDescriptor (TX5 k).2.2.1 = some (tyX5 k) := by decide +kernel
abbrev cX5_init : ByteArray := prog_1_method_1_code
def yX5_init : MethodName := ⟨RX5, "<init>", "()V"⟩
abbrev cX5_type : ByteArray := prog_1_method_2_code
def yX5_type : MethodName := ⟨RX5, "type", "(I)I"⟩
abbrev cX5_clear : ByteArray := prog_1_method_3_code
def yX5_clear : MethodName := ⟨RX5, "clear", "()I"⟩
abbrev cX5_fault : ByteArray := prog_1_method_4_code
def yX5_fault : MethodName := ⟨RX5, "fault", "()I"⟩
abbrev cX5_layTrack : ByteArray := prog_1_method_5_code
def yX5_layTrack : MethodName := ⟨RX5, "layTrack", "()I"⟩
abbrev cX5_set : ByteArray := prog_1_method_6_code
def yX5_set : MethodName := ⟨RX5, "set", "(II)I"⟩
abbrev cX5_dig : ByteArray := prog_1_method_7_code
def yX5_dig : MethodName := ⟨RX5, "dig", "(I)I"⟩
abbrev cX5_addTrain : ByteArray := prog_1_method_8_code
def yX5_addTrain : MethodName := ⟨RX5, "addTrain", "(II)I"⟩
abbrev cX5_dropTrain : ByteArray := prog_1_method_9_code
def yX5_dropTrain : MethodName := ⟨RX5, "dropTrain", "(I)I"⟩
abbrev cX5_setLoad : ByteArray := prog_1_method_10_code
def yX5_setLoad : MethodName := ⟨RX5, "setLoad", "(II)I"⟩
abbrev cX5_run : ByteArray := prog_1_method_11_code
def yX5_run : MethodName := ⟨RX5, "run", "(I)I"⟩
abbrev cX5_undo : ByteArray := prog_1_method_12_code
def yX5_undo : MethodName := ⟨RX5, "undo", "()I"⟩
abbrev cX5_keep : ByteArray := prog_1_method_13_code
def yX5_keep : MethodName := ⟨RX5, "keep", "(I)I"⟩
abbrev cX5_back : ByteArray := prog_1_method_14_code
def yX5_back : MethodName := ⟨RX5, "back", "(I)I"⟩
abbrev cX5_segment : ByteArray := prog_1_method_15_code
def yX5_segment : MethodName := ⟨RX5, "segment", "(II)I"⟩
abbrev cX5_train : ByteArray := prog_1_method_16_code
def yX5_train : MethodName := ⟨RX5, "train", "(II)I"⟩
abbrev cX5_why : ByteArray := prog_1_method_17_code
def yX5_why : MethodName := ⟨RX5, "why", "(I)I"⟩
abbrev cX5_account : ByteArray := prog_1_method_18_code
def yX5_account : MethodName := ⟨RX5, "account", "(I)I"⟩
abbrev cX5_count : ByteArray := prog_1_method_19_code
def yX5_count : MethodName := ⟨RX5, "count", "(I)I"⟩
abbrev cX5_setting : ByteArray := prog_1_method_20_code
def yX5_setting : MethodName := ⟨RX5, "setting", "(I)I"⟩
abbrev cX5_ifRun : ByteArray := prog_1_method_21_code
def yX5_ifRun : MethodName := ⟨RX5, "ifRun", "(II)I"⟩
abbrev cX5_ticksFor : ByteArray := prog_1_method_22_code
def yX5_ticksFor : MethodName := ⟨RX5, "ticksFor", "(I)I"⟩
abbrev cX5_bestRule : ByteArray := prog_1_method_23_code
def yX5_bestRule : MethodName := ⟨RX5, "bestRule", "(I)I"⟩
abbrev cX5_bestLoad : ByteArray := prog_1_method_24_code
def yX5_bestLoad : MethodName := ⟨RX5, "bestLoad", "(II)I"⟩
abbrev cX5_meanSinking : ByteArray := prog_1_method_25_code
def yX5_meanSinking : MethodName := ⟨RX5, "meanSinking", "()D"⟩
abbrev cX5_digest : ByteArray := prog_1_method_26_code
def yX5_digest : MethodName := ⟨RX5, "digest", "()J"⟩
abbrev cX5_isSetting : ByteArray := prog_1_method_27_code
def yX5_isSetting : MethodName := ⟨RX5, "isSetting", "(I)Z"⟩
abbrev cX5_isLoad : ByteArray := prog_1_method_28_code
def yX5_isLoad : MethodName := ⟨RX5, "isLoad", "(I)Z"⟩
abbrev cX5_isRun : ByteArray := prog_1_method_29_code
def yX5_isRun : MethodName := ⟨RX5, "isRun", "(I)Z"⟩
abbrev cX5_isImage : ByteArray := prog_1_method_30_code
def yX5_isImage : MethodName := ⟨RX5, "isImage", "(I)Z"⟩
abbrev cX5_foreseen : ByteArray := prog_1_method_31_code
def yX5_foreseen : MethodName := ⟨RX5, "foreseen", "(I)I"⟩
abbrev cX5_mixed : ByteArray := prog_1_method_32_code
def yX5_mixed : MethodName := ⟨RX5, "mixed", "(JJ)J"⟩
abbrev cX5_withSegments : ByteArray := prog_1_method_33_code
def yX5_withSegments : MethodName := ⟨RX5, "withSegments", "(J)J"⟩
abbrev cX5_withTrains : ByteArray := prog_1_method_34_code
def yX5_withTrains : MethodName := ⟨RX5, "withTrains", "(J)J"⟩
abbrev cX5_bitsOf : ByteArray := prog_1_method_35_code
def yX5_bitsOf : MethodName := ⟨RX5, "bitsOf", "(D)J"⟩
def RX6 : String := "PeatRailwayModel"
def TX6 : u_T := fun k => match k with
  | 0 => ("PeatRailwayModel", "z", "[I", true)
  | 1 => ("PeatRailwayModel", "aside", "[I", true)
  | 2 => ("PeatRailwayModel", "states", "I", false)
  | 3 => ("PeatRailwayModel", "history", "[I", true)
  | 4 => ("PeatRailwayModel", "kept", "I", false)
  | 5 => ("PeatRailwayModel", "images", "[I", true)
  | 6 => ("PeatRailwayModel", "length", "I", false)
  | 7 => ("PeatRailwayModel", "text", "[I", true)
  | 8 => ("PeatRailwayModel", "begun", "I", false)
  | 9 => ("PeatRailwayModel", "step", "I", false)
  | _ => ("PeatRailwayModel", "hash", "J", false)
def tyX6 : Nat → FieldType := fun k => match k with
  | 0 => .array .int
  | 1 => .array .int
  | 2 => .int
  | 3 => .array .int
  | 4 => .int
  | 5 => .array .int
  | 6 => .int
  | 7 => .array .int
  | 8 => .int
  | 9 => .int
  | _ => .long
abbrev wsX60 : List Cond := u_ws RX6 TX6 11
theorem nmX6 : ∀ a, a < 11 → ∀ b, b < 11 → a ≠ b → (TX6 a).2.1 ≠ (TX6 b).2.1 := by decide +kernel
theorem tyX6_ok : ∀ k, k < 11 → parseFieldDescriptor (TX6 k).2.2.1 = some (tyX6 k) := by decide +kernel
abbrev cX6_init : ByteArray := prog_8_method_1_code
def yX6_init : MethodName := ⟨RX6, "<init>", "()V"⟩
abbrev cX6_within : ByteArray := prog_8_method_2_code
def yX6_within : MethodName := ⟨RX6, "within", "(III)Z"⟩
abbrev cX6_seg : ByteArray := prog_8_method_3_code
def yX6_seg : MethodName := ⟨RX6, "seg", "(II)I"⟩
abbrev cX6_of : ByteArray := prog_8_method_4_code
def yX6_of : MethodName := ⟨RX6, "of", "(II)I"⟩
abbrev cX6_put : ByteArray := prog_8_method_5_code
def yX6_put : MethodName := ⟨RX6, "put", "(III)V"⟩
abbrev cX6_other : ByteArray := prog_8_method_6_code
def yX6_other : MethodName := ⟨RX6, "other", "(I)I"⟩
abbrev cX6_putSegment : ByteArray := prog_8_method_7_code
def yX6_putSegment : MethodName := ⟨RX6, "putSegment", "(IIZ)V"⟩
abbrev cX6_isTrain : ByteArray := prog_8_method_8_code
def yX6_isTrain : MethodName := ⟨RX6, "isTrain", "(I)Z"⟩
abbrev cX6_isSegment : ByteArray := prog_8_method_9_code
def yX6_isSegment : MethodName := ⟨RX6, "isSegment", "(I)Z"⟩
abbrev cX6_copy : ByteArray := prog_8_method_10_code
def yX6_copy : MethodName := ⟨RX6, "copy", "([II[II)V"⟩
abbrev cX6_record : ByteArray := prog_8_method_11_code
def yX6_record : MethodName := ⟨RX6, "record", "()V"⟩
abbrev cX6_type : ByteArray := prog_8_method_12_code
def yX6_type : MethodName := ⟨RX6, "type", "(I)I"⟩
abbrev cX6_clear : ByteArray := prog_8_method_13_code
def yX6_clear : MethodName := ⟨RX6, "clear", "()I"⟩
abbrev cX6_takes : ByteArray := prog_8_method_14_code
def yX6_takes : MethodName := ⟨RX6, "takes", "(I)Z"⟩
abbrev cX6_faultNow : ByteArray := prog_8_method_15_code
def yX6_faultNow : MethodName := ⟨RX6, "faultNow", "()I"⟩
abbrev cX6_fault : ByteArray := prog_8_method_16_code
def yX6_fault : MethodName := ⟨RX6, "fault", "()I"⟩
abbrev cX6_peatInTrains : ByteArray := prog_8_method_17_code
def yX6_peatInTrains : MethodName := ⟨RX6, "peatInTrains", "()I"⟩
abbrev cX6_layTrack : ByteArray := prog_8_method_18_code
def yX6_layTrack : MethodName := ⟨RX6, "layTrack", "()I"⟩
abbrev cX6_isValue : ByteArray := prog_8_method_19_code
def yX6_isValue : MethodName := ⟨RX6, "isValue", "(II)Z"⟩
abbrev cX6_set : ByteArray := prog_8_method_20_code
def yX6_set : MethodName := ⟨RX6, "set", "(II)I"⟩
abbrev cX6_dig : ByteArray := prog_8_method_21_code
def yX6_dig : MethodName := ⟨RX6, "dig", "(I)I"⟩
abbrev cX6_addTrain : ByteArray := prog_8_method_22_code
def yX6_addTrain : MethodName := ⟨RX6, "addTrain", "(II)I"⟩
abbrev cX6_dropTrain : ByteArray := prog_8_method_23_code
def yX6_dropTrain : MethodName := ⟨RX6, "dropTrain", "(I)I"⟩
abbrev cX6_setLoad : ByteArray := prog_8_method_24_code
def yX6_setLoad : MethodName := ⟨RX6, "setLoad", "(II)I"⟩
abbrev cX6_isEnd : ByteArray := prog_8_method_25_code
def yX6_isEnd : MethodName := ⟨RX6, "isEnd", "(I)Z"⟩
abbrev cX6_isPassing : ByteArray := prog_8_method_26_code
def yX6_isPassing : MethodName := ⟨RX6, "isPassing", "(I)Z"⟩
abbrev cX6_room : ByteArray := prog_8_method_27_code
def yX6_room : MethodName := ⟨RX6, "room", "(I)I"⟩
abbrev cX6_trainsIn : ByteArray := prog_8_method_28_code
def yX6_trainsIn : MethodName := ⟨RX6, "trainsIn", "(I)I"⟩
abbrev cX6_weight : ByteArray := prog_8_method_29_code
def yX6_weight : MethodName := ⟨RX6, "weight", "(I)I"⟩
abbrev cX6_weightIn : ByteArray := prog_8_method_30_code
def yX6_weightIn : MethodName := ⟨RX6, "weightIn", "(I)I"⟩
abbrev cX6_between : ByteArray := prog_8_method_31_code
def yX6_between : MethodName := ⟨RX6, "between", "(III)I"⟩
abbrev cX6_wanted : ByteArray := prog_8_method_32_code
def yX6_wanted : MethodName := ⟨RX6, "wanted", "(I)I"⟩
abbrev cX6_reason : ByteArray := prog_8_method_33_code
def yX6_reason : MethodName := ⟨RX6, "reason", "(I)I"⟩
abbrev cX6_turn : ByteArray := prog_8_method_34_code
def yX6_turn : MethodName := ⟨RX6, "turn", "(I)V"⟩
abbrev cX6_go : ByteArray := prog_8_method_35_code
def yX6_go : MethodName := ⟨RX6, "go", "(I)V"⟩
abbrev cX6_sink : ByteArray := prog_8_method_36_code
def yX6_sink : MethodName := ⟨RX6, "sink", "()V"⟩
abbrev cX6_tick : ByteArray := prog_8_method_37_code
def yX6_tick : MethodName := ⟨RX6, "tick", "()V"⟩
abbrev cX6_run : ByteArray := prog_8_method_38_code
def yX6_run : MethodName := ⟨RX6, "run", "(I)I"⟩
abbrev cX6_undo : ByteArray := prog_8_method_39_code
def yX6_undo : MethodName := ⟨RX6, "undo", "()I"⟩
abbrev cX6_keep : ByteArray := prog_8_method_40_code
def yX6_keep : MethodName := ⟨RX6, "keep", "(I)I"⟩
abbrev cX6_back : ByteArray := prog_8_method_41_code
def yX6_back : MethodName := ⟨RX6, "back", "(I)I"⟩
abbrev cX6_resting : ByteArray := prog_8_method_42_code
def yX6_resting : MethodName := ⟨RX6, "resting", "(I)I"⟩
abbrev cX6_segmentNow : ByteArray := prog_8_method_43_code
def yX6_segmentNow : MethodName := ⟨RX6, "segmentNow", "(II)I"⟩
abbrev cX6_segment : ByteArray := prog_8_method_44_code
def yX6_segment : MethodName := ⟨RX6, "segment", "(II)I"⟩
abbrev cX6_trainNow : ByteArray := prog_8_method_45_code
def yX6_trainNow : MethodName := ⟨RX6, "trainNow", "(II)I"⟩
abbrev cX6_train : ByteArray := prog_8_method_46_code
def yX6_train : MethodName := ⟨RX6, "train", "(II)I"⟩
abbrev cX6_why : ByteArray := prog_8_method_47_code
def yX6_why : MethodName := ⟨RX6, "why", "(I)I"⟩
abbrev cX6_accountNow : ByteArray := prog_8_method_48_code
def yX6_accountNow : MethodName := ⟨RX6, "accountNow", "(I)I"⟩
abbrev cX6_account : ByteArray := prog_8_method_49_code
def yX6_account : MethodName := ⟨RX6, "account", "(I)I"⟩
abbrev cX6_deepest : ByteArray := prog_8_method_50_code
def yX6_deepest : MethodName := ⟨RX6, "deepest", "()I"⟩
abbrev cX6_allWaits : ByteArray := prog_8_method_51_code
def yX6_allWaits : MethodName := ⟨RX6, "allWaits", "()I"⟩
abbrev cX6_tooDeep : ByteArray := prog_8_method_52_code
def yX6_tooDeep : MethodName := ⟨RX6, "tooDeep", "()I"⟩
abbrev cX6_counted : ByteArray := prog_8_method_53_code
def yX6_counted : MethodName := ⟨RX6, "counted", "(I)I"⟩
abbrev cX6_count : ByteArray := prog_8_method_54_code
def yX6_count : MethodName := ⟨RX6, "count", "(I)I"⟩
abbrev cX6_setting : ByteArray := prog_8_method_55_code
def yX6_setting : MethodName := ⟨RX6, "setting", "(I)I"⟩
abbrev cX6_ahead : ByteArray := prog_8_method_56_code
def yX6_ahead : MethodName := ⟨RX6, "ahead", "(II)I"⟩
abbrev cX6_ifRun : ByteArray := prog_8_method_57_code
def yX6_ifRun : MethodName := ⟨RX6, "ifRun", "(II)I"⟩
abbrev cX6_ticksUntil : ByteArray := prog_8_method_58_code
def yX6_ticksUntil : MethodName := ⟨RX6, "ticksUntil", "(I)I"⟩
abbrev cX6_ticksFor : ByteArray := prog_8_method_59_code
def yX6_ticksFor : MethodName := ⟨RX6, "ticksFor", "(I)I"⟩
abbrev cX6_best : ByteArray := prog_8_method_60_code
def yX6_best : MethodName := ⟨RX6, "best", "(IIII)I"⟩
abbrev cX6_bestRule : ByteArray := prog_8_method_61_code
def yX6_bestRule : MethodName := ⟨RX6, "bestRule", "(I)I"⟩
abbrev cX6_bestLoad : ByteArray := prog_8_method_62_code
def yX6_bestLoad : MethodName := ⟨RX6, "bestLoad", "(II)I"⟩
abbrev cX6_meanSinking : ByteArray := prog_8_method_63_code
def yX6_meanSinking : MethodName := ⟨RX6, "meanSinking", "()D"⟩
abbrev cX6_mix : ByteArray := prog_8_method_64_code
def yX6_mix : MethodName := ⟨RX6, "mix", "(J)V"⟩
abbrev cX6_digest : ByteArray := prog_8_method_65_code
def yX6_digest : MethodName := ⟨RX6, "digest", "()J"⟩
def RJxe99ae : String := "java/lang/Double"
def TJxe99ae : u_T := fun k => match k with
  | _ => ("", "", "", false)
def tyJxe99ae : Nat → FieldType := fun k => match k with
  | _ => .int
abbrev wsJxe99ae0 : List Cond := u_ws RJxe99ae TJxe99ae 0
theorem nmJxe99ae : ∀ a, a < 0 → ∀ b, b < 0 → a ≠ b → (TJxe99ae a).2.1 ≠ (TJxe99ae b).2.1 := by decide +kernel
theorem tyJxe99ae_ok : ∀ k, k < 0 → parseFieldDescriptor (TJxe99ae k).2.2.1 = some (tyJxe99ae k) := by decide +kernel
abbrev cJxe99ae_isNaN_b9ae7 : ByteArray := prog_9_method_6_code
def yJxe99ae_isNaN_b9ae7 : MethodName := ⟨RJxe99ae, "isNaN", "(D)Z"⟩
abbrev cJxe99ae_doubleToLongBits_ccdee : ByteArray := prog_9_method_23_code
def yJxe99ae_doubleToLongBits_ccdee : MethodName := ⟨RJxe99ae, "doubleToLongBits", "(D)J"⟩
def RJ9 : String := "java/lang/Math"
def TJ9 : u_T := fun k => match k with
  | _ => ("", "", "", false)
def tyJ9 : Nat → FieldType := fun k => match k with
  | _ => .int
abbrev wsJ90 : List Cond := u_ws RJ9 TJ9 0
theorem nmJ9 : ∀ a, a < 0 → ∀ b, b < 0 → a ≠ b → (TJ9 a).2.1 ≠ (TJ9 b).2.1 := by decide +kernel
theorem tyJ9_ok : ∀ k, k < 0 → parseFieldDescriptor (TJ9 k).2.2.1 = some (tyJ9 k) := by decide +kernel
abbrev cJ9_max_7cf53 : ByteArray := prog_10_method_65_code
def yJ9_max_7cf53 : MethodName := ⟨RJ9, "max", "(II)I"⟩
abbrev cJ9_min_7cf53 : ByteArray := prog_10_method_69_code
def yJ9_min_7cf53 : MethodName := ⟨RJ9, "min", "(II)I"⟩
def RJ0 : String := "java/lang/String"
def TJ0 : u_T := fun k => match k with
  | _ => ("", "", "", false)
def tyJ0 : Nat → FieldType := fun k => match k with
  | _ => .int
abbrev wsJ00 : List Cond := u_ws RJ0 TJ0 0
theorem nmJ0 : ∀ a, a < 0 → ∀ b, b < 0 → a ≠ b → (TJ0 a).2.1 ≠ (TJ0 b).2.1 := by decide +kernel
theorem tyJ0_ok : ∀ k, k < 0 → parseFieldDescriptor (TJ0 k).2.2.1 = some (tyJ0 k) := by decide +kernel
abbrev cJ0_length_8abf5 : ByteArray := prog_11_method_54_code
def yJ0_length_8abf5 : MethodName := ⟨RJ0, "length", "()I"⟩
abbrev cJ0_charAt_5068e : ByteArray := prog_11_method_56_code
def yJ0_charAt_5068e : MethodName := ⟨RJ0, "charAt", "(I)C"⟩
abbrev cJ0_coder_7d493 : ByteArray := prog_11_method_152_code
def yJ0_coder_7d493 : MethodName := ⟨RJ0, "coder", "()B"⟩
abbrev cJ0_isLatin1_aae02 : ByteArray := prog_11_method_154_code
def yJ0_isLatin1_aae02 : MethodName := ⟨RJ0, "isLatin1", "()Z"⟩
abbrev cJ0_checkIndex_df160 : ByteArray := prog_11_method_155_code
def yJ0_checkIndex_df160 : MethodName := ⟨RJ0, "checkIndex", "(II)V"⟩
def RJ1 : String := "java/lang/StringLatin1"
def TJ1 : u_T := fun k => match k with
  | _ => ("", "", "", false)
def tyJ1 : Nat → FieldType := fun k => match k with
  | _ => .int
abbrev wsJ10 : List Cond := u_ws RJ1 TJ1 0
theorem nmJ1 : ∀ a, a < 0 → ∀ b, b < 0 → a ≠ b → (TJ1 a).2.1 ≠ (TJ1 b).2.1 := by decide +kernel
theorem tyJ1_ok : ∀ k, k < 0 → parseFieldDescriptor (TJ1 k).2.2.1 = some (tyJ1 k) := by decide +kernel
abbrev cJ1_charAt_3b067 : ByteArray := prog_12_method_2_code
def yJ1_charAt_3b067 : MethodName := ⟨RJ1, "charAt", "([BI)C"⟩
def RJ2 : String := "java/lang/StringUTF16"
def TJ2 : u_T := fun k => match k with
  | _ => ("", "", "", false)
def tyJ2 : Nat → FieldType := fun k => match k with
  | _ => .int
abbrev wsJ20 : List Cond := u_ws RJ2 TJ2 0
theorem nmJ2 : ∀ a, a < 0 → ∀ b, b < 0 → a ≠ b → (TJ2 a).2.1 ≠ (TJ2 b).2.1 := by decide +kernel
theorem tyJ2_ok : ∀ k, k < 0 → parseFieldDescriptor (TJ2 k).2.2.1 = some (tyJ2 k) := by decide +kernel
abbrev cJ2_getChar_3b067 : ByteArray := prog_13_method_5_code
def yJ2_getChar_3b067 : MethodName := ⟨RJ2, "getChar", "([BI)C"⟩
abbrev cJ2_length_9d52b : ByteArray := prog_13_method_6_code
def yJ2_length_9d52b : MethodName := ⟨RJ2, "length", "([B)I"⟩
abbrev cJ2_charAt_3b067 : ByteArray := prog_13_method_83_code
def yJ2_charAt_3b067 : MethodName := ⟨RJ2, "charAt", "([BI)C"⟩
abbrev cJ2_checkIndex_2214a : ByteArray := prog_13_method_91_code
def yJ2_checkIndex_2214a : MethodName := ⟨RJ2, "checkIndex", "(I[B)V"⟩
def RJ3 : String := "jdk/internal/util/Preconditions"
def TJ3 : u_T := fun k => match k with
  | _ => ("", "", "", false)
def tyJ3 : Nat → FieldType := fun k => match k with
  | _ => .int
abbrev wsJ30 : List Cond := u_ws RJ3 TJ3 0
theorem nmJ3 : ∀ a, a < 0 → ∀ b, b < 0 → a ≠ b → (TJ3 a).2.1 ≠ (TJ3 b).2.1 := by decide +kernel
theorem tyJ3_ok : ∀ k, k < 0 → parseFieldDescriptor (TJ3 k).2.2.1 = some (tyJ3 k) := by decide +kernel
abbrev cJ3_checkIndex_8e157 : ByteArray := prog_14_method_11_code
def yJ3_checkIndex_8e157 : MethodName := ⟨RJ3, "checkIndex", "(IILjava/util/function/BiFunction;)I"⟩
def RL : String := "PeatRailwayLaw"
abbrev cL_law : ByteArray := code
def yL_law : MethodName := ⟨RL, "law", "([I)Z"⟩
def wsJ0_coder_7d493 : List Cond := .code yJ0_coder_7d493 cJ0_coder_7d493 1 (some .byte) :: ([.fieldLink RJ0 38 "java/lang/String" "COMPACT_STRINGS" "Z", .fieldLink RJ0 15 "java/lang/String" "coder" "B"])
def wsJ0_length_8abf5 : List Cond := .code yJ0_length_8abf5 cJ0_length_8abf5 1 (some .int) :: ([.fieldLink RJ0 9 "java/lang/String" "value" "[B", .methodLink RJ0 335 yJ0_coder_7d493, .instanceMethod yJ0_coder_7d493, .selects RJ0 yJ0_coder_7d493 yJ0_coder_7d493, .initialized RJ0, .code yJ0_coder_7d493 cJ0_coder_7d493 1 (some .byte), .fieldLink RJ0 38 "java/lang/String" "COMPACT_STRINGS" "Z", .fieldLink RJ0 15 "java/lang/String" "coder" "B"])
def wsJ0_isLatin1_aae02 : List Cond := .code yJ0_isLatin1_aae02 cJ0_isLatin1_aae02 1 (some .boolean) :: ([.fieldLink RJ0 38 "java/lang/String" "COMPACT_STRINGS" "Z", .fieldLink RJ0 15 "java/lang/String" "coder" "B"])
def wsJ3_checkIndex_8e157 : List Cond := .code yJ3_checkIndex_8e157 cJ3_checkIndex_8e157 3 (some .int) :: ([])
def wsJ0_checkIndex_df160 : List Cond := .code yJ0_checkIndex_df160 cJ0_checkIndex_df160 2 none :: ([.fieldLink RJ0 1053 "jdk/internal/util/Preconditions" "SIOOBE_FORMATTER" "Ljava/util/function/BiFunction;", .methodLink RJ0 1059 yJ3_checkIndex_8e157, .static yJ3_checkIndex_8e157, .initialized RJ3, .code yJ3_checkIndex_8e157 cJ3_checkIndex_8e157 3 (some .int)])
def wsJ1_charAt_3b067 : List Cond := .code yJ1_charAt_3b067 cJ1_charAt_3b067 2 (some .char) :: ([.methodLink RJ1 9 yJ0_checkIndex_df160, .static yJ0_checkIndex_df160, .initialized RJ0, .code yJ0_checkIndex_df160 cJ0_checkIndex_df160 2 none, .fieldLink RJ0 1053 "jdk/internal/util/Preconditions" "SIOOBE_FORMATTER" "Ljava/util/function/BiFunction;", .methodLink RJ0 1059 yJ3_checkIndex_8e157, .static yJ3_checkIndex_8e157, .initialized RJ3, .code yJ3_checkIndex_8e157 cJ3_checkIndex_8e157 3 (some .int)])
def wsJ2_length_9d52b : List Cond := .code yJ2_length_9d52b cJ2_length_9d52b 1 (some .int) :: ([])
def wsJ2_checkIndex_2214a : List Cond := .code yJ2_checkIndex_2214a cJ2_checkIndex_2214a 2 none :: ([.methodLink RJ2 48 yJ2_length_9d52b, .static yJ2_length_9d52b, .initialized RJ2, .code yJ2_length_9d52b cJ2_length_9d52b 1 (some .int), .methodLink RJ2 414 yJ0_checkIndex_df160, .static yJ0_checkIndex_df160, .initialized RJ0, .code yJ0_checkIndex_df160 cJ0_checkIndex_df160 2 none, .fieldLink RJ0 1053 "jdk/internal/util/Preconditions" "SIOOBE_FORMATTER" "Ljava/util/function/BiFunction;", .methodLink RJ0 1059 yJ3_checkIndex_8e157, .static yJ3_checkIndex_8e157, .initialized RJ3, .code yJ3_checkIndex_8e157 cJ3_checkIndex_8e157 3 (some .int)])
def wsJ2_getChar_3b067 : List Cond := .code yJ2_getChar_3b067 cJ2_getChar_3b067 2 (some .char) :: ([.fieldLink RJ2 44 "java/lang/StringUTF16" "$assertionsDisabled" "Z", .fieldLink RJ2 59 "java/lang/StringUTF16" "HI_BYTE_SHIFT" "I", .fieldLink RJ2 63 "java/lang/StringUTF16" "LO_BYTE_SHIFT" "I", .methodLink RJ2 48 yJ2_length_9d52b, .static yJ2_length_9d52b, .initialized RJ2, .code yJ2_length_9d52b cJ2_length_9d52b 1 (some .int)])
def wsJ2_charAt_3b067 : List Cond := .code yJ2_charAt_3b067 cJ2_charAt_3b067 2 (some .char) :: ([.methodLink RJ2 67 yJ2_checkIndex_2214a, .static yJ2_checkIndex_2214a, .initialized RJ2, .code yJ2_checkIndex_2214a cJ2_checkIndex_2214a 2 none, .methodLink RJ2 48 yJ2_length_9d52b, .static yJ2_length_9d52b, .code yJ2_length_9d52b cJ2_length_9d52b 1 (some .int), .methodLink RJ2 414 yJ0_checkIndex_df160, .static yJ0_checkIndex_df160, .initialized RJ0, .code yJ0_checkIndex_df160 cJ0_checkIndex_df160 2 none, .fieldLink RJ0 1053 "jdk/internal/util/Preconditions" "SIOOBE_FORMATTER" "Ljava/util/function/BiFunction;", .methodLink RJ0 1059 yJ3_checkIndex_8e157, .static yJ3_checkIndex_8e157, .initialized RJ3, .code yJ3_checkIndex_8e157 cJ3_checkIndex_8e157 3 (some .int), .methodLink RJ2 71 yJ2_getChar_3b067, .static yJ2_getChar_3b067, .code yJ2_getChar_3b067 cJ2_getChar_3b067 2 (some .char), .fieldLink RJ2 44 "java/lang/StringUTF16" "$assertionsDisabled" "Z", .fieldLink RJ2 59 "java/lang/StringUTF16" "HI_BYTE_SHIFT" "I", .fieldLink RJ2 63 "java/lang/StringUTF16" "LO_BYTE_SHIFT" "I"])
def wsJ0_charAt_5068e_r1 : List Cond := [Cond.fieldLink RJ0 9 "java/lang/String" "value" "[B", Cond.methodLink RJ0 492 yJ0_isLatin1_aae02, Cond.instanceMethod yJ0_isLatin1_aae02, Cond.selects RJ0 yJ0_isLatin1_aae02 yJ0_isLatin1_aae02, Cond.initialized RJ0, Cond.code yJ0_isLatin1_aae02 cJ0_isLatin1_aae02 1 (some .boolean), Cond.fieldLink RJ0 38 "java/lang/String" "COMPACT_STRINGS" "Z", Cond.fieldLink RJ0 15 "java/lang/String" "coder" "B", Cond.methodLink RJ0 495 yJ1_charAt_3b067, Cond.static yJ1_charAt_3b067, Cond.initialized RJ1, Cond.code yJ1_charAt_3b067 cJ1_charAt_3b067 2 (some .char), Cond.methodLink RJ1 9 yJ0_checkIndex_df160, Cond.static yJ0_checkIndex_df160, Cond.code yJ0_checkIndex_df160 cJ0_checkIndex_df160 2 none, Cond.fieldLink RJ0 1053 "jdk/internal/util/Preconditions" "SIOOBE_FORMATTER" "Ljava/util/function/BiFunction;", Cond.methodLink RJ0 1059 yJ3_checkIndex_8e157, Cond.static yJ3_checkIndex_8e157, Cond.initialized RJ3, Cond.code yJ3_checkIndex_8e157 cJ3_checkIndex_8e157 3 (some .int), Cond.methodLink RJ0 498 yJ2_charAt_3b067, Cond.static yJ2_charAt_3b067, Cond.initialized RJ2, Cond.code yJ2_charAt_3b067 cJ2_charAt_3b067 2 (some .char)]
def wsJ0_charAt_5068e_r2 : List Cond := [Cond.methodLink RJ2 67 yJ2_checkIndex_2214a, Cond.static yJ2_checkIndex_2214a, Cond.code yJ2_checkIndex_2214a cJ2_checkIndex_2214a 2 none, Cond.methodLink RJ2 48 yJ2_length_9d52b, Cond.static yJ2_length_9d52b, Cond.code yJ2_length_9d52b cJ2_length_9d52b 1 (some .int), Cond.methodLink RJ2 414 yJ0_checkIndex_df160, Cond.methodLink RJ2 71 yJ2_getChar_3b067, Cond.static yJ2_getChar_3b067, Cond.code yJ2_getChar_3b067 cJ2_getChar_3b067 2 (some .char), Cond.fieldLink RJ2 44 "java/lang/StringUTF16" "$assertionsDisabled" "Z", Cond.fieldLink RJ2 59 "java/lang/StringUTF16" "HI_BYTE_SHIFT" "I", Cond.fieldLink RJ2 63 "java/lang/StringUTF16" "LO_BYTE_SHIFT" "I"]
def wsJ0_charAt_5068e : List Cond := .code yJ0_charAt_5068e cJ0_charAt_5068e 2 (some .char) :: ((wsJ0_charAt_5068e_r1 ++ wsJ0_charAt_5068e_r2))
def wsJxe99ae_isNaN_b9ae7 : List Cond := .code yJxe99ae_isNaN_b9ae7 cJxe99ae_isNaN_b9ae7 2 (some .boolean) :: ([])
def wsJxe99ae_doubleToLongBits_ccdee : List Cond := .code yJxe99ae_doubleToLongBits_ccdee cJxe99ae_doubleToLongBits_ccdee 2 (some .long) :: ([.methodLink RJxe99ae 134 ⟨"java/lang/Double", "doubleToRawLongBits", "(D)J"⟩, .native ⟨"java/lang/Double", "doubleToRawLongBits", "(D)J"⟩, .static ⟨"java/lang/Double", "doubleToRawLongBits", "(D)J"⟩, .initialized "java/lang/Double", .constantLong RJxe99ae 137 (9221120237041090560), .methodLink RJxe99ae 122 yJxe99ae_isNaN_b9ae7, .static yJxe99ae_isNaN_b9ae7, .initialized RJxe99ae, .code yJxe99ae_isNaN_b9ae7 cJxe99ae_isNaN_b9ae7 2 (some .boolean)])
def wsJ9_max_7cf53 : List Cond := .code yJ9_max_7cf53 cJ9_max_7cf53 2 (some .int) :: ([])
def wsJ9_min_7cf53 : List Cond := .code yJ9_min_7cf53 cJ9_min_7cf53 2 (some .int) :: ([])
def wsL_law_r1 : List Cond := [Cond.classLink RL 7 RX5, Cond.instantiable RX5 6, Cond.initialized RX5, Cond.classLink RL 10 RX6, Cond.instantiable RX6 11, Cond.initialized RX6, Cond.methodLink RL 9 yX5_init, Cond.instanceMethod yX5_init, Cond.code yX5_init cX5_init 4 none, Cond.methodLink RX5 3 objectInit, Cond.instanceMethod objectInit, Cond.code objectInit ⟨#[0xb1]⟩ 1 none, Cond.classLink RX5 9 RX1, Cond.instantiable RX1 2, Cond.initialized RX1, Cond.classLink RX5 28 RX3, Cond.instantiable RX3 11, Cond.initialized RX3, Cond.fieldLink RX5 38 "PeatRailway" "text" "LPeatRailway$InputText;", Cond.fieldLink RX5 42 "PeatRailway" "now" "LPeatRailway$State;", Cond.fieldLink RX5 46 "PeatRailway" "trial" "LPeatRailway$State;", Cond.classLink RX5 49 RX0, Cond.instantiable RX0 2, Cond.initialized RX0]
def wsL_law_r2 : List Cond := [Cond.fieldLink RX5 52 "PeatRailway" "history" "LPeatRailway$History;", Cond.fieldLink RX5 56 "PeatRailway" "images" "[LPeatRailway$State;", Cond.methodLink RX5 11 yX1_init, Cond.instanceMethod yX1_init, Cond.code yX1_init cX1_init 1 none, Cond.methodLink RX1 3 objectInit, Cond.arrayClass .char, Cond.fieldLink RX1 9 "PeatRailway$InputText" "signs" "[C", Cond.methodLink RX5 14 yJ0_length_8abf5, Cond.instanceMethod yJ0_length_8abf5, Cond.selects RJ0 yJ0_length_8abf5 yJ0_length_8abf5, Cond.initialized RJ0, Cond.code yJ0_length_8abf5 cJ0_length_8abf5 1 (some .int), Cond.fieldLink RJ0 9 "java/lang/String" "value" "[B", Cond.methodLink RJ0 335 yJ0_coder_7d493, Cond.instanceMethod yJ0_coder_7d493, Cond.selects RJ0 yJ0_coder_7d493 yJ0_coder_7d493, Cond.code yJ0_coder_7d493 cJ0_coder_7d493 1 (some .byte), Cond.fieldLink RJ0 38 "java/lang/String" "COMPACT_STRINGS" "Z", Cond.fieldLink RJ0 15 "java/lang/String" "coder" "B", Cond.methodLink RX5 20 yJ0_charAt_5068e, Cond.instanceMethod yJ0_charAt_5068e, Cond.selects RJ0 yJ0_charAt_5068e yJ0_charAt_5068e, Cond.code yJ0_charAt_5068e cJ0_charAt_5068e 2 (some .char)]
def wsL_law_r3 : List Cond := [Cond.methodLink RJ0 492 yJ0_isLatin1_aae02, Cond.instanceMethod yJ0_isLatin1_aae02, Cond.selects RJ0 yJ0_isLatin1_aae02 yJ0_isLatin1_aae02, Cond.code yJ0_isLatin1_aae02 cJ0_isLatin1_aae02 1 (some .boolean), Cond.methodLink RJ0 495 yJ1_charAt_3b067, Cond.static yJ1_charAt_3b067, Cond.initialized RJ1, Cond.code yJ1_charAt_3b067 cJ1_charAt_3b067 2 (some .char), Cond.methodLink RJ1 9 yJ0_checkIndex_df160, Cond.static yJ0_checkIndex_df160, Cond.code yJ0_checkIndex_df160 cJ0_checkIndex_df160 2 none, Cond.fieldLink RJ0 1053 "jdk/internal/util/Preconditions" "SIOOBE_FORMATTER" "Ljava/util/function/BiFunction;", Cond.methodLink RJ0 1059 yJ3_checkIndex_8e157, Cond.static yJ3_checkIndex_8e157, Cond.initialized RJ3, Cond.code yJ3_checkIndex_8e157 cJ3_checkIndex_8e157 3 (some .int), Cond.methodLink RJ0 498 yJ2_charAt_3b067, Cond.static yJ2_charAt_3b067, Cond.initialized RJ2, Cond.code yJ2_charAt_3b067 cJ2_charAt_3b067 2 (some .char), Cond.methodLink RJ2 67 yJ2_checkIndex_2214a, Cond.static yJ2_checkIndex_2214a, Cond.code yJ2_checkIndex_2214a cJ2_checkIndex_2214a 2 none, Cond.methodLink RJ2 48 yJ2_length_9d52b]
def wsL_law_r4 : List Cond := [Cond.static yJ2_length_9d52b, Cond.code yJ2_length_9d52b cJ2_length_9d52b 1 (some .int), Cond.methodLink RJ2 414 yJ0_checkIndex_df160, Cond.methodLink RJ2 71 yJ2_getChar_3b067, Cond.static yJ2_getChar_3b067, Cond.code yJ2_getChar_3b067 cJ2_getChar_3b067 2 (some .char), Cond.fieldLink RJ2 44 "java/lang/StringUTF16" "$assertionsDisabled" "Z", Cond.fieldLink RJ2 59 "java/lang/StringUTF16" "HI_BYTE_SHIFT" "I", Cond.fieldLink RJ2 63 "java/lang/StringUTF16" "LO_BYTE_SHIFT" "I", Cond.methodLink RX5 24 yX1_append, Cond.instanceMethod yX1_append, Cond.selects RX1 yX1_append yX1_append, Cond.code yX1_append cX1_append 2 none, Cond.fieldLink RX1 15 "PeatRailway$InputText" "length" "I", Cond.methodLink RX5 30 yX3_init, Cond.instanceMethod yX3_init, Cond.code yX3_init cX3_init 2 none, Cond.methodLink RX3 3 objectInit, Cond.classLink RX3 9 RX2, Cond.fieldLink RX3 11 "PeatRailway$State" "segments" "[LPeatRailway$Segment;", Cond.instantiable RX2 6, Cond.initialized RX2, Cond.classLink RX3 18 RX4, Cond.fieldLink RX3 20 "PeatRailway$State" "trains" "[LPeatRailway$Train;"]
def wsL_law_r5 : List Cond := [Cond.instantiable RX4 10, Cond.initialized RX4, Cond.arrayClass .int, Cond.fieldLink RX3 25 "PeatRailway$State" "settings" "[I", Cond.instanceMethod yX2_init, Cond.code yX2_init cX2_init 1 none, Cond.methodLink RX2 3 objectInit, Cond.instanceMethod yX4_init, Cond.code yX4_init cX4_init 1 none, Cond.methodLink RX4 3 objectInit, Cond.methodLink RX5 31 yX1_layOnto, Cond.instanceMethod yX1_layOnto, Cond.selects RX1 yX1_layOnto yX1_layOnto, Cond.code yX1_layOnto cX1_layOnto 4 none, Cond.methodLink RX1 27 yX3_beginTrack, Cond.instanceMethod yX3_beginTrack, Cond.selects RX3 yX3_beginTrack yX3_beginTrack, Cond.code yX3_beginTrack cX3_beginTrack 1 none, Cond.fieldLink RX3 32 "PeatRailway$State" "segmentCount" "I", Cond.methodLink RX1 19 yX1_codeAt, Cond.instanceMethod yX1_codeAt, Cond.selects RX1 yX1_codeAt yX1_codeAt, Cond.code yX1_codeAt cX1_codeAt 2 (some .int), Cond.methodLink RX1 23 yX1_isDigit]
def wsL_law_r6 : List Cond := [Cond.static yX1_isDigit, Cond.code yX1_isDigit cX1_isDigit 1 (some .boolean), Cond.methodLink RX1 32 yX3_appendSegment, Cond.instanceMethod yX3_appendSegment, Cond.selects RX3 yX3_appendSegment yX3_appendSegment, Cond.code yX3_appendSegment cX3_appendSegment 3 none, Cond.methodLink RX3 61 yX3_segmentAt, Cond.instanceMethod yX3_segmentAt, Cond.selects RX3 yX3_segmentAt yX3_segmentAt, Cond.code yX3_segmentAt cX3_segmentAt 2 (some (.object "PeatRailway$Segment")), Cond.methodLink RX3 65 yX2_layDown, Cond.instanceMethod yX2_layDown, Cond.selects RX2 yX2_layDown yX2_layDown, Cond.code yX2_layDown cX2_layDown 2 none, Cond.fieldLink RX2 9 "PeatRailway$Segment" "softness" "I", Cond.fieldLink RX2 15 "PeatRailway$Segment" "room" "I", Cond.fieldLink RX2 18 "PeatRailway$Segment" "sinking" "I", Cond.methodLink RX1 36 yX3_widenLatestSegment, Cond.instanceMethod yX3_widenLatestSegment, Cond.selects RX3 yX3_widenLatestSegment yX3_widenLatestSegment, Cond.code yX3_widenLatestSegment cX3_widenLatestSegment 2 none, Cond.fieldLink RX3 69 "PeatRailway$Segment" "room" "I", Cond.methodLink RX1 39 yX3_endTrack, Cond.instanceMethod yX3_endTrack]
def wsL_law_r7 : List Cond := [Cond.selects RX3 yX3_endTrack yX3_endTrack, Cond.code yX3_endTrack cX3_endTrack 6 none, Cond.fieldLink RX3 72 "PeatRailway$Segment" "passingBelow" "I", Cond.fieldLink RX3 79 "PeatRailway$Segment" "passingAbove" "I", Cond.methodLink RX3 75 yX2_isPassingPlace, Cond.instanceMethod yX2_isPassingPlace, Cond.selects RX2 yX2_isPassingPlace yX2_isPassingPlace, Cond.code yX2_isPassingPlace cX2_isPassingPlace 1 (some .boolean), Cond.methodLink RX5 35 yX1_wipe, Cond.instanceMethod yX1_wipe, Cond.selects RX1 yX1_wipe yX1_wipe, Cond.code yX1_wipe cX1_wipe 1 none, Cond.methodLink RX5 51 yX0_init, Cond.instanceMethod yX0_init, Cond.code yX0_init cX0_init 2 none, Cond.methodLink RX0 3 objectInit, Cond.classLink RX0 9 RX3, Cond.fieldLink RX0 11 "PeatRailway$History" "states" "[LPeatRailway$State;", Cond.methodLink RX0 17 yX3_init, Cond.methodLink RL 12 yX6_init, Cond.instanceMethod yX6_init, Cond.code yX6_init cX6_init 2 none, Cond.methodLink RX6 1 objectInit, Cond.fieldLink RX6 7 "PeatRailwayModel" "z" "[I"]
def wsL_law_r8 : List Cond := [Cond.fieldLink RX6 13 "PeatRailwayModel" "aside" "[I", Cond.fieldLink RX6 16 "PeatRailwayModel" "history" "[I", Cond.fieldLink RX6 19 "PeatRailwayModel" "images" "[I", Cond.fieldLink RX6 22 "PeatRailwayModel" "text" "[I", Cond.methodLink RX6 25 yX6_putSegment, Cond.instanceMethod yX6_putSegment, Cond.selects RX6 yX6_putSegment yX6_putSegment, Cond.code yX6_putSegment cX6_putSegment 4 none, Cond.methodLink RL 13 yX5_type, Cond.instanceMethod yX5_type, Cond.selects RX5 yX5_type yX5_type, Cond.code yX5_type cX5_type 2 (some .int), Cond.methodLink RX5 60 yX1_isFull, Cond.instanceMethod yX1_isFull, Cond.selects RX1 yX1_isFull yX1_isFull, Cond.code yX1_isFull cX1_isFull 1 (some .boolean), Cond.methodLink RX5 64 yX1_length, Cond.instanceMethod yX1_length, Cond.selects RX1 yX1_length yX1_length, Cond.code yX1_length cX1_length 1 (some .int), Cond.methodLink RL 17 yX6_type, Cond.instanceMethod yX6_type, Cond.selects RX6 yX6_type yX6_type, Cond.code yX6_type cX6_type 2 (some .int)]
def wsL_law_r9 : List Cond := [Cond.fieldLink RX6 41 "PeatRailwayModel" "length" "I", Cond.methodLink RX6 29 yX6_within, Cond.static yX6_within, Cond.code yX6_within cX6_within 3 (some .boolean), Cond.methodLink RL 18 yX5_clear, Cond.instanceMethod yX5_clear, Cond.selects RX5 yX5_clear yX5_clear, Cond.code yX5_clear cX5_clear 2 (some .int), Cond.methodLink RL 22 yX6_clear, Cond.instanceMethod yX6_clear, Cond.selects RX6 yX6_clear yX6_clear, Cond.code yX6_clear cX6_clear 2 (some .int), Cond.methodLink RL 23 yX5_fault, Cond.instanceMethod yX5_fault, Cond.selects RX5 yX5_fault yX5_fault, Cond.code yX5_fault cX5_fault 1 (some .int), Cond.methodLink RX5 65 yX1_firstFault, Cond.instanceMethod yX1_firstFault, Cond.selects RX1 yX1_firstFault yX1_firstFault, Cond.code yX1_firstFault cX1_firstFault 5 (some .int), Cond.methodLink RL 26 yX6_fault, Cond.instanceMethod yX6_fault, Cond.selects RX6 yX6_fault yX6_fault, Cond.code yX6_fault cX6_fault 1 (some .int)]
def wsL_law_r10 : List Cond := [Cond.methodLink RX6 54 yX6_faultNow, Cond.instanceMethod yX6_faultNow, Cond.selects RX6 yX6_faultNow yX6_faultNow, Cond.code yX6_faultNow cX6_faultNow 2 (some .int), Cond.fieldLink RX6 47 "PeatRailwayModel" "begun" "I", Cond.fieldLink RX6 44 "PeatRailwayModel" "step" "I", Cond.methodLink RX6 50 yX6_takes, Cond.instanceMethod yX6_takes, Cond.selects RX6 yX6_takes yX6_takes, Cond.code yX6_takes cX6_takes 3 (some .boolean), Cond.methodLink RL 27 yX5_layTrack, Cond.instanceMethod yX5_layTrack, Cond.selects RX5 yX5_layTrack yX5_layTrack, Cond.code yX5_layTrack cX5_layTrack 1 (some .int), Cond.fieldLink RX5 74 "PeatRailway$State" "segmentCount" "I", Cond.methodLink RX5 68 yX0_remember, Cond.instanceMethod yX0_remember, Cond.selects RX0 yX0_remember yX0_remember, Cond.code yX0_remember cX0_remember 2 none, Cond.fieldLink RX0 18 "PeatRailway$History" "size" "I", Cond.methodLink RX0 22 yX0_dropOldest, Cond.instanceMethod yX0_dropOldest, Cond.selects RX0 yX0_dropOldest yX0_dropOldest, Cond.code yX0_dropOldest cX0_dropOldest 3 none]
def wsL_law_r11 : List Cond := [Cond.methodLink RX0 25 yX3_copyFrom, Cond.instanceMethod yX3_copyFrom, Cond.selects RX3 yX3_copyFrom yX3_copyFrom, Cond.code yX3_copyFrom cX3_copyFrom 3 none, Cond.fieldLink RX3 40 "PeatRailway$State" "trainCount" "I", Cond.fieldLink RX3 46 "PeatRailway$State" "stock" "I", Cond.fieldLink RX3 49 "PeatRailway$State" "dug" "I", Cond.fieldLink RX3 52 "PeatRailway$State" "delivered" "I", Cond.fieldLink RX3 55 "PeatRailway$State" "lost" "I", Cond.fieldLink RX3 58 "PeatRailway$State" "clock" "I", Cond.methodLink RX3 36 yX2_copyFrom, Cond.instanceMethod yX2_copyFrom, Cond.selects RX2 yX2_copyFrom yX2_copyFrom, Cond.code yX2_copyFrom cX2_copyFrom 2 none, Cond.fieldLink RX2 21 "PeatRailway$Segment" "passingAbove" "I", Cond.fieldLink RX2 24 "PeatRailway$Segment" "passingBelow" "I", Cond.methodLink RX3 43 yX4_copyFrom, Cond.instanceMethod yX4_copyFrom, Cond.selects RX4 yX4_copyFrom yX4_copyFrom, Cond.code yX4_copyFrom cX4_copyFrom 2 none, Cond.fieldLink RX4 9 "PeatRailway$Train" "wagons" "I", Cond.fieldLink RX4 15 "PeatRailway$Train" "load" "I", Cond.fieldLink RX4 18 "PeatRailway$Train" "peat" "I", Cond.fieldLink RX4 21 "PeatRailway$Train" "place" "I"]
def wsL_law_r12 : List Cond := [Cond.fieldLink RX4 24 "PeatRailway$Train" "up" "Z", Cond.fieldLink RX4 28 "PeatRailway$Train" "rest" "I", Cond.fieldLink RX4 31 "PeatRailway$Train" "reason" "I", Cond.fieldLink RX4 34 "PeatRailway$Train" "waits" "I", Cond.fieldLink RX4 37 "PeatRailway$Train" "unloads" "I", Cond.methodLink RX5 71 yX3_loseAllTrains, Cond.instanceMethod yX3_loseAllTrains, Cond.selects RX3 yX3_loseAllTrains yX3_loseAllTrains, Cond.code yX3_loseAllTrains cX3_loseAllTrains 1 none, Cond.methodLink RX3 93 yX3_peatInTrains, Cond.instanceMethod yX3_peatInTrains, Cond.selects RX3 yX3_peatInTrains yX3_peatInTrains, Cond.code yX3_peatInTrains cX3_peatInTrains 4 (some .int), Cond.fieldLink RX3 90 "PeatRailway$Train" "peat" "I", Cond.methodLink RX3 82 yX3_trainAt, Cond.instanceMethod yX3_trainAt, Cond.selects RX3 yX3_trainAt yX3_trainAt, Cond.code yX3_trainAt cX3_trainAt 2 (some (.object "PeatRailway$Train")), Cond.methodLink RL 30 yX6_layTrack, Cond.instanceMethod yX6_layTrack, Cond.selects RX6 yX6_layTrack yX6_layTrack, Cond.code yX6_layTrack cX6_layTrack 2 (some .int), Cond.methodLink RX6 62 yX6_record, Cond.instanceMethod yX6_record]
def wsL_law_r13 : List Cond := [Cond.selects RX6 yX6_record yX6_record, Cond.code yX6_record cX6_record 2 none, Cond.fieldLink RX6 33 "PeatRailwayModel" "states" "I", Cond.methodLink RX6 37 yX6_copy, Cond.instanceMethod yX6_copy, Cond.selects RX6 yX6_copy yX6_copy, Cond.code yX6_copy cX6_copy 6 none, Cond.methodLink RX6 65 yX6_peatInTrains, Cond.instanceMethod yX6_peatInTrains, Cond.selects RX6 yX6_peatInTrains yX6_peatInTrains, Cond.code yX6_peatInTrains cX6_peatInTrains 3 (some .int), Cond.methodLink RX6 58 yX6_of, Cond.instanceMethod yX6_of, Cond.selects RX6 yX6_of yX6_of, Cond.code yX6_of cX6_of 3 (some .int), Cond.methodLink RL 31 yX5_set, Cond.instanceMethod yX5_set, Cond.selects RX5 yX5_set yX5_set, Cond.code yX5_set cX5_set 4 (some .int), Cond.fieldLink RX5 82 "PeatRailway" "LEAST_VALUE" "[I", Cond.fieldLink RX5 86 "PeatRailway" "MOST_VALUE" "[I", Cond.fieldLink RX5 89 "PeatRailway$State" "settings" "[I", Cond.methodLink RX5 78 yX5_isSetting, Cond.static yX5_isSetting]
def wsL_law_r14 : List Cond := [Cond.code yX5_isSetting cX5_isSetting 1 (some .boolean), Cond.methodLink RL 35 yX6_set, Cond.instanceMethod yX6_set, Cond.selects RX6 yX6_set yX6_set, Cond.code yX6_set cX6_set 4 (some .int), Cond.methodLink RX6 68 yX6_isValue, Cond.static yX6_isValue, Cond.code yX6_isValue cX6_isValue 2 (some .boolean), Cond.methodLink RX6 72 yX6_other, Cond.instanceMethod yX6_other, Cond.selects RX6 yX6_other yX6_other, Cond.code yX6_other cX6_other 2 (some .int), Cond.methodLink RL 36 yX5_dig, Cond.instanceMethod yX5_dig, Cond.selects RX5 yX5_dig yX5_dig, Cond.code yX5_dig cX5_dig 2 (some .int), Cond.fieldLink RX5 92 "PeatRailway$State" "stock" "I", Cond.fieldLink RX5 95 "PeatRailway$State" "dug" "I", Cond.methodLink RL 39 yX6_dig, Cond.instanceMethod yX6_dig, Cond.selects RX6 yX6_dig yX6_dig, Cond.code yX6_dig cX6_dig 2 (some .int), Cond.methodLink RL 40 yX5_addTrain, Cond.instanceMethod yX5_addTrain]
def wsL_law_r15 : List Cond := [Cond.selects RX5 yX5_addTrain yX5_addTrain, Cond.code yX5_addTrain cX5_addTrain 3 (some .int), Cond.fieldLink RX5 101 "PeatRailway$State" "trainCount" "I", Cond.methodLink RX5 98 yX5_isLoad, Cond.static yX5_isLoad, Cond.code yX5_isLoad cX5_isLoad 1 (some .boolean), Cond.methodLink RX5 104 yX3_bringTrain, Cond.instanceMethod yX3_bringTrain, Cond.selects RX3 yX3_bringTrain yX3_bringTrain, Cond.code yX3_bringTrain cX3_bringTrain 4 (some .int), Cond.methodLink RX3 86 yX4_start, Cond.instanceMethod yX4_start, Cond.selects RX4 yX4_start yX4_start, Cond.code yX4_start cX4_start 3 none, Cond.methodLink RL 43 yX6_addTrain, Cond.instanceMethod yX6_addTrain, Cond.selects RX6 yX6_addTrain yX6_addTrain, Cond.code yX6_addTrain cX6_addTrain 5 (some .int), Cond.methodLink RX6 76 yX6_put, Cond.instanceMethod yX6_put, Cond.selects RX6 yX6_put yX6_put, Cond.code yX6_put cX6_put 4 none, Cond.methodLink RL 44 yX5_dropTrain, Cond.instanceMethod yX5_dropTrain]
def wsL_law_r16 : List Cond := [Cond.selects RX5 yX5_dropTrain yX5_dropTrain, Cond.code yX5_dropTrain cX5_dropTrain 4 (some .int), Cond.fieldLink RX5 112 "PeatRailway$Train" "peat" "I", Cond.methodLink RX5 108 yX3_trainAt, Cond.methodLink RX5 117 yX3_loseTrain, Cond.instanceMethod yX3_loseTrain, Cond.selects RX3 yX3_loseTrain yX3_loseTrain, Cond.code yX3_loseTrain cX3_loseTrain 6 none, Cond.methodLink RL 47 yX6_dropTrain, Cond.instanceMethod yX6_dropTrain, Cond.selects RX6 yX6_dropTrain yX6_dropTrain, Cond.code yX6_dropTrain cX6_dropTrain 4 (some .int), Cond.methodLink RX6 80 yX6_isTrain, Cond.instanceMethod yX6_isTrain, Cond.selects RX6 yX6_isTrain yX6_isTrain, Cond.code yX6_isTrain cX6_isTrain 2 (some .boolean), Cond.methodLink RL 48 yX5_setLoad, Cond.instanceMethod yX5_setLoad, Cond.selects RX5 yX5_setLoad yX5_setLoad, Cond.code yX5_setLoad cX5_setLoad 5 (some .int), Cond.fieldLink RX5 121 "PeatRailway$Train" "load" "I", Cond.methodLink RL 51 yX6_setLoad, Cond.instanceMethod yX6_setLoad, Cond.selects RX6 yX6_setLoad yX6_setLoad]
def wsL_law_r17 : List Cond := [Cond.code yX6_setLoad cX6_setLoad 4 (some .int), Cond.methodLink RL 52 yX5_run, Cond.instanceMethod yX5_run, Cond.selects RX5 yX5_run yX5_run, Cond.code yX5_run cX5_run 2 (some .int), Cond.methodLink RX5 124 yX5_isRun, Cond.static yX5_isRun, Cond.code yX5_isRun cX5_isRun 1 (some .boolean), Cond.methodLink RX5 127 yX3_pass, Cond.instanceMethod yX3_pass, Cond.selects RX3 yX3_pass yX3_pass, Cond.code yX3_pass cX3_pass 4 (some .int), Cond.fieldLink RX3 97 "PeatRailway$State" "peak" "I", Cond.methodLink RX3 100 yX3_tick, Cond.instanceMethod yX3_tick, Cond.selects RX3 yX3_tick yX3_tick, Cond.code yX3_tick cX3_tick 4 none, Cond.fieldLink RX3 107 "PeatRailway$Train" "early" "Z", Cond.methodLink RX3 103 yX3_goesFirst, Cond.instanceMethod yX3_goesFirst, Cond.selects RX3 yX3_goesFirst yX3_goesFirst, Cond.code yX3_goesFirst cX3_goesFirst 3 (some .boolean), Cond.fieldLink RX3 117 "PeatRailway$Train" "up" "Z", Cond.methodLink RX3 111 yX3_takeTurn]
def wsL_law_r18 : List Cond := [Cond.instanceMethod yX3_takeTurn, Cond.selects RX3 yX3_takeTurn yX3_takeTurn, Cond.code yX3_takeTurn cX3_takeTurn 2 none, Cond.fieldLink RX3 120 "PeatRailway$Train" "rest" "I", Cond.fieldLink RX3 123 "PeatRailway$Train" "reason" "I", Cond.fieldLink RX3 130 "PeatRailway$Train" "waits" "I", Cond.methodLink RX3 126 yX3_reasonToWait, Cond.instanceMethod yX3_reasonToWait, Cond.selects RX3 yX3_reasonToWait yX3_reasonToWait, Cond.code yX3_reasonToWait cX3_reasonToWait 5 (some .int), Cond.fieldLink RX3 148 "PeatRailway$Train" "place" "I", Cond.fieldLink RX3 163 "PeatRailway$Segment" "sinking" "I", Cond.methodLink RX3 133 yX3_isToUnload, Cond.instanceMethod yX3_isToUnload, Cond.selects RX3 yX3_isToUnload yX3_isToUnload, Cond.code yX3_isToUnload cX3_isToUnload 2 (some .boolean), Cond.methodLink RX3 139 yX3_isToLoad, Cond.instanceMethod yX3_isToLoad, Cond.selects RX3 yX3_isToLoad yX3_isToLoad, Cond.code yX3_isToLoad cX3_isToLoad 2 (some .boolean), Cond.methodLink RX3 157 yX4_fullLoad, Cond.instanceMethod yX4_fullLoad, Cond.selects RX4 yX4_fullLoad yX4_fullLoad, Cond.code yX4_fullLoad cX4_fullLoad 1 (some .int)]
def wsL_law_r19 : List Cond := [Cond.methodLink RX3 160 yX3_placeBeyond, Cond.instanceMethod yX3_placeBeyond, Cond.selects RX3 yX3_placeBeyond yX3_placeBeyond, Cond.code yX3_placeBeyond cX3_placeBeyond 2 (some .int), Cond.methodLink RX3 166 yX3_trainsIn, Cond.instanceMethod yX3_trainsIn, Cond.selects RX3 yX3_trainsIn yX3_trainsIn, Cond.code yX3_trainsIn cX3_trainsIn 5 (some .int), Cond.methodLink RX3 170 yX3_reasonAhead, Cond.instanceMethod yX3_reasonAhead, Cond.selects RX3 yX3_reasonAhead yX3_reasonAhead, Cond.code yX3_reasonAhead cX3_reasonAhead 6 (some .int), Cond.methodLink RX3 174 yX3_isBetween, Cond.static yX3_isBetween, Cond.code yX3_isBetween cX3_isBetween 3 (some .boolean), Cond.methodLink RX3 136 yX3_unloadTrain, Cond.instanceMethod yX3_unloadTrain, Cond.selects RX3 yX3_unloadTrain yX3_unloadTrain, Cond.code yX3_unloadTrain cX3_unloadTrain 2 none, Cond.fieldLink RX3 151 "PeatRailway$Train" "wagons" "I", Cond.fieldLink RX3 154 "PeatRailway$Train" "unloads" "I", Cond.methodLink RX3 142 yX3_loadTrain, Cond.instanceMethod yX3_loadTrain, Cond.selects RX3 yX3_loadTrain yX3_loadTrain]
def wsL_law_r20 : List Cond := [Cond.code yX3_loadTrain cX3_loadTrain 2 none, Cond.methodLink RX3 145 yX3_moveTrain, Cond.instanceMethod yX3_moveTrain, Cond.selects RX3 yX3_moveTrain yX3_moveTrain, Cond.code yX3_moveTrain cX3_moveTrain 3 none, Cond.methodLink RX3 114 yX3_settle, Cond.instanceMethod yX3_settle, Cond.selects RX3 yX3_settle yX3_settle, Cond.code yX3_settle cX3_settle 4 none, Cond.fieldLink RX3 178 "PeatRailway$Segment" "burden" "I", Cond.methodLink RX3 186 Lib.Math.max.name, Cond.static Lib.Math.max.name, Cond.initialized "java/lang/Math", Cond.code Lib.Math.max.name Lib.Math.max.code 2 (some .int), Cond.methodLink RX3 181 yX4_weight, Cond.instanceMethod yX4_weight, Cond.selects RX4 yX4_weight yX4_weight, Cond.code yX4_weight cX4_weight 1 (some .int), Cond.methodLink RX3 184 yX2_settle, Cond.instanceMethod yX2_settle, Cond.selects RX2 yX2_settle yX2_settle, Cond.code yX2_settle cX2_settle 2 none, Cond.fieldLink RX2 27 "PeatRailway$Segment" "burden" "I", Cond.methodLink RX2 30 Lib.Math.max.name]
def wsL_law_r21 : List Cond := [Cond.methodLink RX2 36 Lib.Math.min.name, Cond.static Lib.Math.min.name, Cond.code Lib.Math.min.name Lib.Math.min.code 2 (some .int), Cond.methodLink RL 55 yX6_run, Cond.instanceMethod yX6_run, Cond.selects RX6 yX6_run yX6_run, Cond.code yX6_run cX6_run 4 (some .int), Cond.methodLink RX6 124 yX6_tick, Cond.instanceMethod yX6_tick, Cond.selects RX6 yX6_tick yX6_tick, Cond.code yX6_tick cX6_tick 6 none, Cond.methodLink RX6 118 yX6_turn, Cond.instanceMethod yX6_turn, Cond.selects RX6 yX6_turn yX6_turn, Cond.code yX6_turn cX6_turn 4 none, Cond.methodLink RX6 108 yX6_reason, Cond.instanceMethod yX6_reason, Cond.selects RX6 yX6_reason yX6_reason, Cond.code yX6_reason cX6_reason 8 (some .int), Cond.methodLink RX6 95 yX6_wanted, Cond.instanceMethod yX6_wanted, Cond.selects RX6 yX6_wanted yX6_wanted, Cond.code yX6_wanted cX6_wanted 2 (some .int), Cond.methodLink RX6 83 yX6_seg]
def wsL_law_r22 : List Cond := [Cond.instanceMethod yX6_seg, Cond.selects RX6 yX6_seg yX6_seg, Cond.code yX6_seg cX6_seg 3 (some .int), Cond.methodLink RX6 98 yX6_trainsIn, Cond.instanceMethod yX6_trainsIn, Cond.selects RX6 yX6_trainsIn yX6_trainsIn, Cond.code yX6_trainsIn cX6_trainsIn 4 (some .int), Cond.methodLink RX6 101 yX6_room, Cond.instanceMethod yX6_room, Cond.selects RX6 yX6_room yX6_room, Cond.code yX6_room cX6_room 2 (some .int), Cond.methodLink RX6 86 yX6_isEnd, Cond.instanceMethod yX6_isEnd, Cond.selects RX6 yX6_isEnd yX6_isEnd, Cond.code yX6_isEnd cX6_isEnd 2 (some .boolean), Cond.methodLink RX6 89 yX6_isPassing, Cond.instanceMethod yX6_isPassing, Cond.selects RX6 yX6_isPassing yX6_isPassing, Cond.code yX6_isPassing cX6_isPassing 2 (some .boolean), Cond.methodLink RX6 104 yX6_between, Cond.instanceMethod yX6_between, Cond.selects RX6 yX6_between yX6_between, Cond.code yX6_between cX6_between 8 (some .int), Cond.methodLink RX6 111 yX6_go]
def wsL_law_r23 : List Cond := [Cond.instanceMethod yX6_go, Cond.selects RX6 yX6_go yX6_go, Cond.code yX6_go cX6_go 5 none, Cond.methodLink RX6 121 yX6_sink, Cond.instanceMethod yX6_sink, Cond.selects RX6 yX6_sink yX6_sink, Cond.code yX6_sink cX6_sink 5 none, Cond.methodLink RX6 115 yX6_weightIn, Cond.instanceMethod yX6_weightIn, Cond.selects RX6 yX6_weightIn yX6_weightIn, Cond.code yX6_weightIn cX6_weightIn 4 (some .int), Cond.methodLink RX6 92 yX6_weight, Cond.instanceMethod yX6_weight, Cond.selects RX6 yX6_weight yX6_weight, Cond.code yX6_weight cX6_weight 2 (some .int), Cond.methodLink RL 56 yX5_undo, Cond.instanceMethod yX5_undo, Cond.selects RX5 yX5_undo yX5_undo, Cond.code yX5_undo cX5_undo 1 (some .int), Cond.methodLink RX5 131 yX0_size, Cond.instanceMethod yX0_size, Cond.selects RX0 yX0_size yX0_size, Cond.code yX0_size cX0_size 1 (some .int), Cond.methodLink RX5 134 yX0_restore]
def wsL_law_r24 : List Cond := [Cond.instanceMethod yX0_restore, Cond.selects RX0 yX0_restore yX0_restore, Cond.code yX0_restore cX0_restore 2 none, Cond.methodLink RL 59 yX6_undo, Cond.instanceMethod yX6_undo, Cond.selects RX6 yX6_undo yX6_undo, Cond.code yX6_undo cX6_undo 1 (some .int), Cond.methodLink RL 60 yX5_keep, Cond.instanceMethod yX5_keep, Cond.selects RX5 yX5_keep yX5_keep, Cond.code yX5_keep cX5_keep 2 (some .int), Cond.fieldLink RX5 143 "PeatRailway" "keptImages" "I", Cond.fieldLink RX5 146 "PeatRailway$State" "clock" "I", Cond.methodLink RX5 137 yX5_isImage, Cond.static yX5_isImage, Cond.code yX5_isImage cX5_isImage 1 (some .boolean), Cond.methodLink RX5 140 yX3_copyFrom, Cond.methodLink RL 63 yX6_keep, Cond.instanceMethod yX6_keep, Cond.selects RX6 yX6_keep yX6_keep, Cond.code yX6_keep cX6_keep 2 (some .int), Cond.fieldLink RX6 127 "PeatRailwayModel" "kept" "I", Cond.methodLink RL 64 yX5_back, Cond.instanceMethod yX5_back]
def wsL_law_r25 : List Cond := [Cond.selects RX5 yX5_back yX5_back, Cond.code yX5_back cX5_back 2 (some .int), Cond.methodLink RL 67 yX6_back, Cond.instanceMethod yX6_back, Cond.selects RX6 yX6_back yX6_back, Cond.code yX6_back cX6_back 2 (some .int), Cond.methodLink RL 68 yX5_segment, Cond.instanceMethod yX5_segment, Cond.selects RX5 yX5_segment yX5_segment, Cond.code yX5_segment cX5_segment 4 (some .int), Cond.fieldLink RX5 153 "PeatRailway$Segment" "softness" "I", Cond.fieldLink RX5 161 "PeatRailway$Segment" "sinking" "I", Cond.fieldLink RX5 170 "PeatRailway$Segment" "room" "I", Cond.methodLink RX5 149 yX3_segmentAt, Cond.methodLink RX5 158 yX2_isPassingPlace, Cond.methodLink RX5 164 yX3_trainsIn, Cond.methodLink RX5 167 yX3_weightIn, Cond.instanceMethod yX3_weightIn, Cond.selects RX3 yX3_weightIn yX3_weightIn, Cond.code yX3_weightIn cX3_weightIn 5 (some .int), Cond.methodLink RX5 173 yX2_ticksToRise, Cond.instanceMethod yX2_ticksToRise, Cond.selects RX2 yX2_ticksToRise yX2_ticksToRise, Cond.code yX2_ticksToRise cX2_ticksToRise 3 (some .int)]
def wsL_law_r26 : List Cond := [Cond.methodLink RL 71 yX6_segment, Cond.instanceMethod yX6_segment, Cond.selects RX6 yX6_segment yX6_segment, Cond.code yX6_segment cX6_segment 3 (some .int), Cond.methodLink RX6 133 yX6_isSegment, Cond.instanceMethod yX6_isSegment, Cond.selects RX6 yX6_isSegment yX6_isSegment, Cond.code yX6_isSegment cX6_isSegment 2 (some .boolean), Cond.methodLink RX6 136 yX6_segmentNow, Cond.instanceMethod yX6_segmentNow, Cond.selects RX6 yX6_segmentNow yX6_segmentNow, Cond.code yX6_segmentNow cX6_segmentNow 3 (some .int), Cond.methodLink RX6 130 yX6_resting, Cond.instanceMethod yX6_resting, Cond.selects RX6 yX6_resting yX6_resting, Cond.code yX6_resting cX6_resting 3 (some .int), Cond.methodLink RL 72 yX5_train, Cond.instanceMethod yX5_train, Cond.selects RX5 yX5_train yX5_train, Cond.code yX5_train cX5_train 4 (some .int), Cond.fieldLink RX5 176 "PeatRailway$Train" "wagons" "I", Cond.fieldLink RX5 179 "PeatRailway$Train" "place" "I", Cond.fieldLink RX5 182 "PeatRailway$Train" "up" "Z", Cond.fieldLink RX5 186 "PeatRailway$Train" "rest" "I"]
def wsL_law_r27 : List Cond := [Cond.fieldLink RX5 189 "PeatRailway$Train" "reason" "I", Cond.fieldLink RX5 192 "PeatRailway$Train" "waits" "I", Cond.fieldLink RX5 195 "PeatRailway$Train" "unloads" "I", Cond.methodLink RX5 198 yX4_weight, Cond.methodLink RL 75 yX6_train, Cond.instanceMethod yX6_train, Cond.selects RX6 yX6_train yX6_train, Cond.code yX6_train cX6_train 3 (some .int), Cond.methodLink RX6 139 yX6_trainNow, Cond.instanceMethod yX6_trainNow, Cond.selects RX6 yX6_trainNow yX6_trainNow, Cond.code yX6_trainNow cX6_trainNow 3 (some .int), Cond.methodLink RL 76 yX5_why, Cond.instanceMethod yX5_why, Cond.selects RX5 yX5_why yX5_why, Cond.code yX5_why cX5_why 3 (some .int), Cond.methodLink RX5 201 yX3_reasonToWait, Cond.methodLink RL 79 yX6_why, Cond.instanceMethod yX6_why, Cond.selects RX6 yX6_why yX6_why, Cond.code yX6_why cX6_why 2 (some .int), Cond.methodLink RL 80 yX5_account, Cond.instanceMethod yX5_account, Cond.selects RX5 yX5_account yX5_account]
def wsL_law_r28 : List Cond := [Cond.code yX5_account cX5_account 2 (some .int), Cond.fieldLink RX5 208 "PeatRailway$State" "delivered" "I", Cond.fieldLink RX5 211 "PeatRailway$State" "lost" "I", Cond.methodLink RX5 205 yX3_peatInTrains, Cond.methodLink RL 83 yX6_account, Cond.instanceMethod yX6_account, Cond.selects RX6 yX6_account yX6_account, Cond.code yX6_account cX6_account 2 (some .int), Cond.methodLink RX6 142 yX6_accountNow, Cond.instanceMethod yX6_accountNow, Cond.selects RX6 yX6_accountNow yX6_accountNow, Cond.code yX6_accountNow cX6_accountNow 2 (some .int), Cond.methodLink RL 84 yX5_count, Cond.instanceMethod yX5_count, Cond.selects RX5 yX5_count yX5_count, Cond.code yX5_count cX5_count 2 (some .int), Cond.methodLink RX5 214 yX3_greatestSinking, Cond.instanceMethod yX3_greatestSinking, Cond.selects RX3 yX3_greatestSinking yX3_greatestSinking, Cond.code yX3_greatestSinking cX3_greatestSinking 4 (some .int), Cond.methodLink RX5 217 yX3_waitsOfAll, Cond.instanceMethod yX3_waitsOfAll, Cond.selects RX3 yX3_waitsOfAll yX3_waitsOfAll, Cond.code yX3_waitsOfAll cX3_waitsOfAll 4 (some .int)]
def wsL_law_r29 : List Cond := [Cond.methodLink RX5 220 yX3_sunkSegments, Cond.instanceMethod yX3_sunkSegments, Cond.selects RX3 yX3_sunkSegments yX3_sunkSegments, Cond.code yX3_sunkSegments cX3_sunkSegments 4 (some .int), Cond.methodLink RL 87 yX6_count, Cond.instanceMethod yX6_count, Cond.selects RX6 yX6_count yX6_count, Cond.code yX6_count cX6_count 2 (some .int), Cond.methodLink RX6 154 yX6_counted, Cond.instanceMethod yX6_counted, Cond.selects RX6 yX6_counted yX6_counted, Cond.code yX6_counted cX6_counted 2 (some .int), Cond.methodLink RX6 145 yX6_deepest, Cond.instanceMethod yX6_deepest, Cond.selects RX6 yX6_deepest yX6_deepest, Cond.code yX6_deepest cX6_deepest 3 (some .int), Cond.methodLink RX6 148 yX6_allWaits, Cond.instanceMethod yX6_allWaits, Cond.selects RX6 yX6_allWaits yX6_allWaits, Cond.code yX6_allWaits cX6_allWaits 3 (some .int), Cond.methodLink RX6 151 yX6_tooDeep, Cond.instanceMethod yX6_tooDeep, Cond.selects RX6 yX6_tooDeep yX6_tooDeep, Cond.code yX6_tooDeep cX6_tooDeep 3 (some .int)]
def wsL_law_r30 : List Cond := [Cond.methodLink RL 88 yX5_setting, Cond.instanceMethod yX5_setting, Cond.selects RX5 yX5_setting yX5_setting, Cond.code yX5_setting cX5_setting 2 (some .int), Cond.methodLink RL 91 yX6_setting, Cond.instanceMethod yX6_setting, Cond.selects RX6 yX6_setting yX6_setting, Cond.code yX6_setting cX6_setting 2 (some .int), Cond.methodLink RL 92 yX5_ifRun, Cond.instanceMethod yX5_ifRun, Cond.selects RX5 yX5_ifRun yX5_ifRun, Cond.code yX5_ifRun cX5_ifRun 3 (some .int), Cond.methodLink RX5 223 yX5_foreseen, Cond.instanceMethod yX5_foreseen, Cond.selects RX5 yX5_foreseen yX5_foreseen, Cond.code yX5_foreseen cX5_foreseen 2 (some .int), Cond.fieldLink RX5 265 "PeatRailway$State" "peak" "I", Cond.methodLink RL 95 yX6_ifRun, Cond.instanceMethod yX6_ifRun, Cond.selects RX6 yX6_ifRun yX6_ifRun, Cond.code yX6_ifRun cX6_ifRun 3 (some .int), Cond.methodLink RX6 157 yX6_ahead, Cond.instanceMethod yX6_ahead, Cond.selects RX6 yX6_ahead yX6_ahead]
def wsL_law_r31 : List Cond := [Cond.code yX6_ahead cX6_ahead 7 (some .int), Cond.methodLink RL 96 yX5_ticksFor, Cond.instanceMethod yX5_ticksFor, Cond.selects RX5 yX5_ticksFor yX5_ticksFor, Cond.code yX5_ticksFor cX5_ticksFor 3 (some .int), Cond.methodLink RX5 226 yX3_tick, Cond.methodLink RL 99 yX6_ticksFor, Cond.instanceMethod yX6_ticksFor, Cond.selects RX6 yX6_ticksFor yX6_ticksFor, Cond.code yX6_ticksFor cX6_ticksFor 2 (some .int), Cond.methodLink RX6 160 yX6_ticksUntil, Cond.instanceMethod yX6_ticksUntil, Cond.selects RX6 yX6_ticksUntil yX6_ticksUntil, Cond.code yX6_ticksUntil cX6_ticksUntil 5 (some .int), Cond.methodLink RL 100 yX5_bestRule, Cond.instanceMethod yX5_bestRule, Cond.selects RX5 yX5_bestRule yX5_bestRule, Cond.code yX5_bestRule cX5_bestRule 6 (some .int), Cond.methodLink RL 103 yX6_bestRule, Cond.instanceMethod yX6_bestRule, Cond.selects RX6 yX6_bestRule yX6_bestRule, Cond.code yX6_bestRule cX6_bestRule 2 (some .int), Cond.methodLink RX6 163 yX6_best, Cond.instanceMethod yX6_best]
def wsL_law_r32 : List Cond := [Cond.selects RX6 yX6_best yX6_best, Cond.code yX6_best cX6_best 10 (some .int), Cond.methodLink RL 104 yX5_bestLoad, Cond.instanceMethod yX5_bestLoad, Cond.selects RX5 yX5_bestLoad yX5_bestLoad, Cond.code yX5_bestLoad cX5_bestLoad 8 (some .int), Cond.methodLink RL 107 yX6_bestLoad, Cond.instanceMethod yX6_bestLoad, Cond.selects RX6 yX6_bestLoad yX6_bestLoad, Cond.code yX6_bestLoad cX6_bestLoad 3 (some .int), Cond.methodLink RL 108 yX5_meanSinking, Cond.instanceMethod yX5_meanSinking, Cond.selects RX5 yX5_meanSinking yX5_meanSinking, Cond.code yX5_meanSinking cX5_meanSinking 1 (some .double), Cond.methodLink RX5 229 yX3_sumOfSinkings, Cond.instanceMethod yX3_sumOfSinkings, Cond.selects RX3 yX3_sumOfSinkings yX3_sumOfSinkings, Cond.code yX3_sumOfSinkings cX3_sumOfSinkings 4 (some .int), Cond.methodLink RL 112 yX6_meanSinking, Cond.instanceMethod yX6_meanSinking, Cond.selects RX6 yX6_meanSinking yX6_meanSinking, Cond.code yX6_meanSinking cX6_meanSinking 3 (some .double), Cond.methodLink RL 113 yX5_digest, Cond.instanceMethod yX5_digest]
def wsL_law_r33 : List Cond := [Cond.selects RX5 yX5_digest yX5_digest, Cond.code yX5_digest cX5_digest 4 (some .long), Cond.constantLong RX5 232 (2069), Cond.methodLink RX5 234 yX5_count, Cond.methodLink RX5 237 yX5_mixed, Cond.static yX5_mixed, Cond.code yX5_mixed cX5_mixed 4 (some .long), Cond.constantLong RX5 268 (31), Cond.methodLink RX5 241 yX5_setting, Cond.methodLink RX5 244 yX5_account, Cond.methodLink RX5 247 yX5_withSegments, Cond.instanceMethod yX5_withSegments, Cond.selects RX5 yX5_withSegments yX5_withSegments, Cond.code yX5_withSegments cX5_withSegments 7 (some .long), Cond.methodLink RX5 270 yX5_segment, Cond.methodLink RX5 251 yX5_withTrains, Cond.instanceMethod yX5_withTrains, Cond.selects RX5 yX5_withTrains yX5_withTrains, Cond.code yX5_withTrains cX5_withTrains 7 (some .long), Cond.methodLink RX5 273 yX5_train, Cond.methodLink RX5 276 yX5_why, Cond.methodLink RX5 254 yX5_meanSinking, Cond.methodLink RX5 258 yX5_bitsOf, Cond.static yX5_bitsOf]
def wsL_law_r34 : List Cond := [Cond.code yX5_bitsOf cX5_bitsOf 7 (some .long), Cond.constantLong RX5 279 (1023), Cond.constantDouble RX5 281 (4611686018427387904), Cond.constantDouble RX5 283 (4841369599423283200), Cond.methodLink RX5 262 yX1_codeAt, Cond.methodLink RL 117 yX6_digest, Cond.instanceMethod yX6_digest, Cond.selects RX6 yX6_digest yX6_digest, Cond.code yX6_digest cX6_digest 3 (some .long), Cond.constantLong RX6 173 (2069), Cond.fieldLink RX6 169 "PeatRailwayModel" "hash" "J", Cond.methodLink RX6 175 yX6_mix, Cond.instanceMethod yX6_mix, Cond.selects RX6 yX6_mix yX6_mix, Cond.code yX6_mix cX6_mix 3 none, Cond.constantLong RX6 167 (31), Cond.methodLink RX6 179 yX6_meanSinking, Cond.methodLink RX6 183 yJxe99ae_doubleToLongBits_ccdee, Cond.static yJxe99ae_doubleToLongBits_ccdee, Cond.initialized RJxe99ae, Cond.code yJxe99ae_doubleToLongBits_ccdee cJxe99ae_doubleToLongBits_ccdee 2 (some .long), Cond.methodLink RJxe99ae 134 ⟨"java/lang/Double", "doubleToRawLongBits", "(D)J"⟩, Cond.native ⟨"java/lang/Double", "doubleToRawLongBits", "(D)J"⟩, Cond.static ⟨"java/lang/Double", "doubleToRawLongBits", "(D)J"⟩]
def wsL_law_r35 : List Cond := [Cond.initialized "java/lang/Double", Cond.constantLong RJxe99ae 137 (9221120237041090560), Cond.methodLink RJxe99ae 122 yJxe99ae_isNaN_b9ae7, Cond.static yJxe99ae_isNaN_b9ae7, Cond.code yJxe99ae_isNaN_b9ae7 cJxe99ae_isNaN_b9ae7 2 (some .boolean)]
def wsL_law : List Cond := (wsL_law_r1 ++ (wsL_law_r2 ++ (wsL_law_r3 ++ (wsL_law_r4 ++ (wsL_law_r5 ++ (wsL_law_r6 ++ (wsL_law_r7 ++ (wsL_law_r8 ++ (wsL_law_r9 ++ (wsL_law_r10 ++ (wsL_law_r11 ++ (wsL_law_r12 ++ (wsL_law_r13 ++ (wsL_law_r14 ++ (wsL_law_r15 ++ (wsL_law_r16 ++ (wsL_law_r17 ++ (wsL_law_r18 ++ (wsL_law_r19 ++ (wsL_law_r20 ++ (wsL_law_r21 ++ (wsL_law_r22 ++ (wsL_law_r23 ++ (wsL_law_r24 ++ (wsL_law_r25 ++ (wsL_law_r26 ++ (wsL_law_r27 ++ (wsL_law_r28 ++ (wsL_law_r29 ++ (wsL_law_r30 ++ (wsL_law_r31 ++ (wsL_law_r32 ++ (wsL_law_r33 ++ (wsL_law_r34 ++ wsL_law_r35)))))))))))))))))))))))))))))))))) ++ wsX50 ++ wsX60 ++ wsX10 ++ wsX30 ++ wsX00 ++ wsX20 ++ wsX40 ++ ([] : List Cond)
theorem inlX0 : ∀ w ∈ wsX00, w ∈ wsL_law := fun _ h => List.mem_append_left _ (List.mem_append_left _ (List.mem_append_left _ (List.mem_append_right _ h)))
theorem inlX1 : ∀ w ∈ wsX10, w ∈ wsL_law := fun _ h => List.mem_append_left _ (List.mem_append_left _ (List.mem_append_left _ (List.mem_append_left _ (List.mem_append_left _ (List.mem_append_right _ h)))))
theorem inlX2 : ∀ w ∈ wsX20, w ∈ wsL_law := fun _ h => List.mem_append_left _ (List.mem_append_left _ (List.mem_append_right _ h))
theorem inlX3 : ∀ w ∈ wsX30, w ∈ wsL_law := fun _ h => List.mem_append_left _ (List.mem_append_left _ (List.mem_append_left _ (List.mem_append_left _ (List.mem_append_right _ h))))
theorem inlX4 : ∀ w ∈ wsX40, w ∈ wsL_law := fun _ h => List.mem_append_left _ (List.mem_append_right _ h)
theorem inlX5 : ∀ w ∈ wsX50, w ∈ wsL_law := fun _ h => List.mem_append_left _ (List.mem_append_left _ (List.mem_append_left _ (List.mem_append_left _ (List.mem_append_left _ (List.mem_append_left _ (List.mem_append_left _ (List.mem_append_right _ h)))))))
theorem inlX6 : ∀ w ∈ wsX60, w ∈ wsL_law := fun _ h => List.mem_append_left _ (List.mem_append_left _ (List.mem_append_left _ (List.mem_append_left _ (List.mem_append_left _ (List.mem_append_left _ (List.mem_append_right _ h))))))
abbrev vwCl : List vw_C := [(RX0, TX0, 2), (RX1, TX1, 2), (RX2, TX2, 6), (RX3, TX3, 11), (RX4, TX4, 10), (RX5, TX5, 6), (RX6, TX6, 11)]
end
section
theorem dX0_init_0 : decode cX0_init 0 = .ok (.aload_n 0, 1) := by decide +kernel
theorem dX0_init_1 : decode cX0_init 1 = .ok (.invokespecial 3, 3) := by decide +kernel
theorem dX0_init_4 : decode cX0_init 4 = .ok (.aload_n 0, 1) := by decide +kernel
theorem dX0_init_5 : decode cX0_init 5 = .ok (.bipush 8, 2) := by decide +kernel
theorem dX0_init_7 : decode cX0_init 7 = .ok (.anewarray 9, 3) := by decide +kernel
theorem dX0_init_10 : decode cX0_init 10 = .ok (.putfield 11, 3) := by decide +kernel
theorem dX0_init_13 : decode cX0_init 13 = .ok (.iconst 0, 1) := by decide +kernel
theorem dX0_init_14 : decode cX0_init 14 = .ok (.istore_n 1, 1) := by decide +kernel
theorem dX0_init_15 : decode cX0_init 15 = .ok (.iload_n 1, 1) := by decide +kernel
theorem dX0_init_16 : decode cX0_init 16 = .ok (.aload_n 0, 1) := by decide +kernel
theorem dX0_init_17 : decode cX0_init 17 = .ok (.getfield 11, 3) := by decide +kernel
theorem dX0_init_20 : decode cX0_init 20 = .ok (.arraylength, 1) := by decide +kernel
theorem dX0_init_21 : decode cX0_init 21 = .ok (.if_icmp .ge 22, 3) := by decide +kernel
theorem dX0_init_24 : decode cX0_init 24 = .ok (.aload_n 0, 1) := by decide +kernel
theorem dX0_init_25 : decode cX0_init 25 = .ok (.getfield 11, 3) := by decide +kernel
theorem dX0_init_28 : decode cX0_init 28 = .ok (.iload_n 1, 1) := by decide +kernel
theorem dX0_init_29 : decode cX0_init 29 = .ok (.new 9, 3) := by decide +kernel
theorem dX0_init_32 : decode cX0_init 32 = .ok (.dup, 1) := by decide +kernel
theorem dX0_init_33 : decode cX0_init 33 = .ok (.invokespecial 17, 3) := by decide +kernel
theorem dX0_init_36 : decode cX0_init 36 = .ok (.aastore, 1) := by decide +kernel
theorem dX0_init_37 : decode cX0_init 37 = .ok (.iinc 1 1, 3) := by decide +kernel
theorem dX0_init_40 : decode cX0_init 40 = .ok (.goto (-25), 3) := by decide +kernel
theorem dX0_init_43 : decode cX0_init 43 = .ok (.return_, 1) := by decide +kernel
theorem dX0_size_0 : decode cX0_size 0 = .ok (.aload_n 0, 1) := by decide +kernel
theorem dX0_size_1 : decode cX0_size 1 = .ok (.getfield 18, 3) := by decide +kernel
theorem dX0_size_4 : decode cX0_size 4 = .ok (.ireturn, 1) := by decide +kernel
theorem dX0_remember_0 : decode cX0_remember 0 = .ok (.aload_n 0, 1) := by decide +kernel
theorem dX0_remember_1 : decode cX0_remember 1 = .ok (.getfield 18, 3) := by decide +kernel
theorem dX0_remember_4 : decode cX0_remember 4 = .ok (.aload_n 0, 1) := by decide +kernel
theorem dX0_remember_5 : decode cX0_remember 5 = .ok (.getfield 11, 3) := by decide +kernel
theorem dX0_remember_8 : decode cX0_remember 8 = .ok (.arraylength, 1) := by decide +kernel
theorem dX0_remember_9 : decode cX0_remember 9 = .ok (.if_icmp .lt 7, 3) := by decide +kernel
theorem dX0_remember_12 : decode cX0_remember 12 = .ok (.aload_n 0, 1) := by decide +kernel
theorem dX0_remember_13 : decode cX0_remember 13 = .ok (.invokevirtual 22, 3) := by decide +kernel
theorem dX0_remember_16 : decode cX0_remember 16 = .ok (.aload_n 0, 1) := by decide +kernel
theorem dX0_remember_17 : decode cX0_remember 17 = .ok (.getfield 18, 3) := by decide +kernel
theorem dX0_remember_20 : decode cX0_remember 20 = .ok (.ifCond .lt 38, 3) := by decide +kernel
theorem dX0_remember_23 : decode cX0_remember 23 = .ok (.aload_n 0, 1) := by decide +kernel
theorem dX0_remember_24 : decode cX0_remember 24 = .ok (.getfield 18, 3) := by decide +kernel
theorem dX0_remember_27 : decode cX0_remember 27 = .ok (.aload_n 0, 1) := by decide +kernel
theorem dX0_remember_28 : decode cX0_remember 28 = .ok (.getfield 11, 3) := by decide +kernel
theorem dX0_remember_31 : decode cX0_remember 31 = .ok (.arraylength, 1) := by decide +kernel
theorem dX0_remember_32 : decode cX0_remember 32 = .ok (.if_icmp .ge 26, 3) := by decide +kernel
theorem dX0_remember_35 : decode cX0_remember 35 = .ok (.aload_n 0, 1) := by decide +kernel
theorem dX0_remember_36 : decode cX0_remember 36 = .ok (.getfield 11, 3) := by decide +kernel
theorem dX0_remember_39 : decode cX0_remember 39 = .ok (.aload_n 0, 1) := by decide +kernel
theorem dX0_remember_40 : decode cX0_remember 40 = .ok (.getfield 18, 3) := by decide +kernel
theorem dX0_remember_43 : decode cX0_remember 43 = .ok (.aaload, 1) := by decide +kernel
theorem dX0_remember_44 : decode cX0_remember 44 = .ok (.aload_n 1, 1) := by decide +kernel
theorem dX0_remember_45 : decode cX0_remember 45 = .ok (.invokevirtual 25, 3) := by decide +kernel
theorem dX0_remember_48 : decode cX0_remember 48 = .ok (.aload_n 0, 1) := by decide +kernel
theorem dX0_remember_49 : decode cX0_remember 49 = .ok (.dup, 1) := by decide +kernel
theorem dX0_remember_50 : decode cX0_remember 50 = .ok (.getfield 18, 3) := by decide +kernel
theorem dX0_remember_53 : decode cX0_remember 53 = .ok (.iconst 1, 1) := by decide +kernel
theorem dX0_remember_54 : decode cX0_remember 54 = .ok (.iadd, 1) := by decide +kernel
theorem dX0_remember_55 : decode cX0_remember 55 = .ok (.putfield 18, 3) := by decide +kernel
theorem dX0_remember_58 : decode cX0_remember 58 = .ok (.return_, 1) := by decide +kernel
theorem dX0_restore_0 : decode cX0_restore 0 = .ok (.aload_n 0, 1) := by decide +kernel
theorem dX0_restore_1 : decode cX0_restore 1 = .ok (.getfield 18, 3) := by decide +kernel
theorem dX0_restore_4 : decode cX0_restore 4 = .ok (.ifCond .le 38, 3) := by decide +kernel
theorem dX0_restore_7 : decode cX0_restore 7 = .ok (.aload_n 0, 1) := by decide +kernel
theorem dX0_restore_8 : decode cX0_restore 8 = .ok (.getfield 18, 3) := by decide +kernel
theorem dX0_restore_11 : decode cX0_restore 11 = .ok (.aload_n 0, 1) := by decide +kernel
theorem dX0_restore_12 : decode cX0_restore 12 = .ok (.getfield 11, 3) := by decide +kernel
theorem dX0_restore_15 : decode cX0_restore 15 = .ok (.arraylength, 1) := by decide +kernel
theorem dX0_restore_16 : decode cX0_restore 16 = .ok (.if_icmp .gt 26, 3) := by decide +kernel
theorem dX0_restore_19 : decode cX0_restore 19 = .ok (.aload_n 0, 1) := by decide +kernel
theorem dX0_restore_20 : decode cX0_restore 20 = .ok (.dup, 1) := by decide +kernel
theorem dX0_restore_21 : decode cX0_restore 21 = .ok (.getfield 18, 3) := by decide +kernel
theorem dX0_restore_24 : decode cX0_restore 24 = .ok (.iconst 1, 1) := by decide +kernel
theorem dX0_restore_25 : decode cX0_restore 25 = .ok (.isub, 1) := by decide +kernel
theorem dX0_restore_26 : decode cX0_restore 26 = .ok (.putfield 18, 3) := by decide +kernel
theorem dX0_restore_29 : decode cX0_restore 29 = .ok (.aload_n 1, 1) := by decide +kernel
theorem dX0_restore_30 : decode cX0_restore 30 = .ok (.aload_n 0, 1) := by decide +kernel
theorem dX0_restore_31 : decode cX0_restore 31 = .ok (.getfield 11, 3) := by decide +kernel
theorem dX0_restore_34 : decode cX0_restore 34 = .ok (.aload_n 0, 1) := by decide +kernel
theorem dX0_restore_35 : decode cX0_restore 35 = .ok (.getfield 18, 3) := by decide +kernel
theorem dX0_restore_38 : decode cX0_restore 38 = .ok (.aaload, 1) := by decide +kernel
theorem dX0_restore_39 : decode cX0_restore 39 = .ok (.invokevirtual 25, 3) := by decide +kernel
theorem dX0_restore_42 : decode cX0_restore 42 = .ok (.return_, 1) := by decide +kernel
theorem dX0_dropOldest_0 : decode cX0_dropOldest 0 = .ok (.aload_n 0, 1) := by decide +kernel
theorem dX0_dropOldest_1 : decode cX0_dropOldest 1 = .ok (.getfield 11, 3) := by decide +kernel
theorem dX0_dropOldest_4 : decode cX0_dropOldest 4 = .ok (.iconst 0, 1) := by decide +kernel
theorem dX0_dropOldest_5 : decode cX0_dropOldest 5 = .ok (.aaload, 1) := by decide +kernel
theorem dX0_dropOldest_6 : decode cX0_dropOldest 6 = .ok (.astore_n 1, 1) := by decide +kernel
theorem dX0_dropOldest_7 : decode cX0_dropOldest 7 = .ok (.iconst 1, 1) := by decide +kernel
theorem dX0_dropOldest_8 : decode cX0_dropOldest 8 = .ok (.istore_n 2, 1) := by decide +kernel
theorem dX0_dropOldest_9 : decode cX0_dropOldest 9 = .ok (.iload_n 2, 1) := by decide +kernel
theorem dX0_dropOldest_10 : decode cX0_dropOldest 10 = .ok (.aload_n 0, 1) := by decide +kernel
theorem dX0_dropOldest_11 : decode cX0_dropOldest 11 = .ok (.getfield 11, 3) := by decide +kernel
theorem dX0_dropOldest_14 : decode cX0_dropOldest 14 = .ok (.arraylength, 1) := by decide +kernel
theorem dX0_dropOldest_15 : decode cX0_dropOldest 15 = .ok (.if_icmp .ge 23, 3) := by decide +kernel
theorem dX0_dropOldest_18 : decode cX0_dropOldest 18 = .ok (.aload_n 0, 1) := by decide +kernel
theorem dX0_dropOldest_19 : decode cX0_dropOldest 19 = .ok (.getfield 11, 3) := by decide +kernel
theorem dX0_dropOldest_22 : decode cX0_dropOldest 22 = .ok (.iload_n 2, 1) := by decide +kernel
theorem dX0_dropOldest_23 : decode cX0_dropOldest 23 = .ok (.iconst 1, 1) := by decide +kernel
theorem dX0_dropOldest_24 : decode cX0_dropOldest 24 = .ok (.isub, 1) := by decide +kernel
theorem dX0_dropOldest_25 : decode cX0_dropOldest 25 = .ok (.aload_n 0, 1) := by decide +kernel
theorem dX0_dropOldest_26 : decode cX0_dropOldest 26 = .ok (.getfield 11, 3) := by decide +kernel
theorem dX0_dropOldest_29 : decode cX0_dropOldest 29 = .ok (.iload_n 2, 1) := by decide +kernel
theorem dX0_dropOldest_30 : decode cX0_dropOldest 30 = .ok (.aaload, 1) := by decide +kernel
theorem dX0_dropOldest_31 : decode cX0_dropOldest 31 = .ok (.aastore, 1) := by decide +kernel
theorem dX0_dropOldest_32 : decode cX0_dropOldest 32 = .ok (.iinc 2 1, 3) := by decide +kernel
theorem dX0_dropOldest_35 : decode cX0_dropOldest 35 = .ok (.goto (-26), 3) := by decide +kernel
theorem dX0_dropOldest_38 : decode cX0_dropOldest 38 = .ok (.aload_n 0, 1) := by decide +kernel
theorem dX0_dropOldest_39 : decode cX0_dropOldest 39 = .ok (.getfield 11, 3) := by decide +kernel
theorem dX0_dropOldest_42 : decode cX0_dropOldest 42 = .ok (.aload_n 0, 1) := by decide +kernel
theorem dX0_dropOldest_43 : decode cX0_dropOldest 43 = .ok (.getfield 11, 3) := by decide +kernel
theorem dX0_dropOldest_46 : decode cX0_dropOldest 46 = .ok (.arraylength, 1) := by decide +kernel
theorem dX0_dropOldest_47 : decode cX0_dropOldest 47 = .ok (.iconst 1, 1) := by decide +kernel
theorem dX0_dropOldest_48 : decode cX0_dropOldest 48 = .ok (.isub, 1) := by decide +kernel
theorem dX0_dropOldest_49 : decode cX0_dropOldest 49 = .ok (.aload_n 1, 1) := by decide +kernel
theorem dX0_dropOldest_50 : decode cX0_dropOldest 50 = .ok (.aastore, 1) := by decide +kernel
theorem dX0_dropOldest_51 : decode cX0_dropOldest 51 = .ok (.aload_n 0, 1) := by decide +kernel
theorem dX0_dropOldest_52 : decode cX0_dropOldest 52 = .ok (.aload_n 0, 1) := by decide +kernel
theorem dX0_dropOldest_53 : decode cX0_dropOldest 53 = .ok (.getfield 11, 3) := by decide +kernel
theorem dX0_dropOldest_56 : decode cX0_dropOldest 56 = .ok (.arraylength, 1) := by decide +kernel
theorem dX0_dropOldest_57 : decode cX0_dropOldest 57 = .ok (.iconst 1, 1) := by decide +kernel
theorem dX0_dropOldest_58 : decode cX0_dropOldest 58 = .ok (.isub, 1) := by decide +kernel
theorem dX0_dropOldest_59 : decode cX0_dropOldest 59 = .ok (.putfield 18, 3) := by decide +kernel
theorem dX0_dropOldest_62 : decode cX0_dropOldest 62 = .ok (.return_, 1) := by decide +kernel
theorem dX1_init_0 : decode cX1_init 0 = .ok (.aload_n 0, 1) := by decide +kernel
theorem dX1_init_1 : decode cX1_init 1 = .ok (.invokespecial 3, 3) := by decide +kernel
theorem dX1_init_4 : decode cX1_init 4 = .ok (.aload_n 0, 1) := by decide +kernel
theorem dX1_init_5 : decode cX1_init 5 = .ok (.bipush 40, 2) := by decide +kernel
theorem dX1_init_7 : decode cX1_init 7 = .ok (.newarray .char, 2) := by decide +kernel
theorem dX1_init_9 : decode cX1_init 9 = .ok (.putfield 9, 3) := by decide +kernel
theorem dX1_init_12 : decode cX1_init 12 = .ok (.return_, 1) := by decide +kernel
theorem dX1_length_0 : decode cX1_length 0 = .ok (.aload_n 0, 1) := by decide +kernel
theorem dX1_length_1 : decode cX1_length 1 = .ok (.getfield 15, 3) := by decide +kernel
theorem dX1_length_4 : decode cX1_length 4 = .ok (.ireturn, 1) := by decide +kernel
theorem dX1_isFull_0 : decode cX1_isFull 0 = .ok (.aload_n 0, 1) := by decide +kernel
theorem dX1_isFull_1 : decode cX1_isFull 1 = .ok (.getfield 15, 3) := by decide +kernel
theorem dX1_isFull_4 : decode cX1_isFull 4 = .ok (.aload_n 0, 1) := by decide +kernel
theorem dX1_isFull_5 : decode cX1_isFull 5 = .ok (.getfield 9, 3) := by decide +kernel
theorem dX1_isFull_8 : decode cX1_isFull 8 = .ok (.arraylength, 1) := by decide +kernel
theorem dX1_isFull_9 : decode cX1_isFull 9 = .ok (.if_icmp .lt 7, 3) := by decide +kernel
theorem dX1_isFull_12 : decode cX1_isFull 12 = .ok (.iconst 1, 1) := by decide +kernel
theorem dX1_isFull_13 : decode cX1_isFull 13 = .ok (.goto 4, 3) := by decide +kernel
theorem dX1_isFull_16 : decode cX1_isFull 16 = .ok (.iconst 0, 1) := by decide +kernel
theorem dX1_isFull_17 : decode cX1_isFull 17 = .ok (.ireturn, 1) := by decide +kernel
theorem dX1_codeAt_0 : decode cX1_codeAt 0 = .ok (.iload_n 1, 1) := by decide +kernel
theorem dX1_codeAt_1 : decode cX1_codeAt 1 = .ok (.ifCond .lt 21, 3) := by decide +kernel
theorem dX1_codeAt_4 : decode cX1_codeAt 4 = .ok (.iload_n 1, 1) := by decide +kernel
theorem dX1_codeAt_5 : decode cX1_codeAt 5 = .ok (.aload_n 0, 1) := by decide +kernel
theorem dX1_codeAt_6 : decode cX1_codeAt 6 = .ok (.getfield 9, 3) := by decide +kernel
theorem dX1_codeAt_9 : decode cX1_codeAt 9 = .ok (.arraylength, 1) := by decide +kernel
theorem dX1_codeAt_10 : decode cX1_codeAt 10 = .ok (.if_icmp .ge 12, 3) := by decide +kernel
theorem dX1_codeAt_13 : decode cX1_codeAt 13 = .ok (.aload_n 0, 1) := by decide +kernel
theorem dX1_codeAt_14 : decode cX1_codeAt 14 = .ok (.getfield 9, 3) := by decide +kernel
theorem dX1_codeAt_17 : decode cX1_codeAt 17 = .ok (.iload_n 1, 1) := by decide +kernel
theorem dX1_codeAt_18 : decode cX1_codeAt 18 = .ok (.caload, 1) := by decide +kernel
theorem dX1_codeAt_19 : decode cX1_codeAt 19 = .ok (.goto 4, 3) := by decide +kernel
theorem dX1_codeAt_22 : decode cX1_codeAt 22 = .ok (.iconst 0, 1) := by decide +kernel
theorem dX1_codeAt_23 : decode cX1_codeAt 23 = .ok (.ireturn, 1) := by decide +kernel
theorem dX1_append_0 : decode cX1_append 0 = .ok (.aload_n 0, 1) := by decide +kernel
theorem dX1_append_1 : decode cX1_append 1 = .ok (.getfield 15, 3) := by decide +kernel
theorem dX1_append_4 : decode cX1_append 4 = .ok (.ifCond .lt 35, 3) := by decide +kernel
theorem dX1_append_7 : decode cX1_append 7 = .ok (.aload_n 0, 1) := by decide +kernel
theorem dX1_append_8 : decode cX1_append 8 = .ok (.getfield 15, 3) := by decide +kernel
theorem dX1_append_11 : decode cX1_append 11 = .ok (.aload_n 0, 1) := by decide +kernel
theorem dX1_append_12 : decode cX1_append 12 = .ok (.getfield 9, 3) := by decide +kernel
theorem dX1_append_15 : decode cX1_append 15 = .ok (.arraylength, 1) := by decide +kernel
theorem dX1_append_16 : decode cX1_append 16 = .ok (.if_icmp .ge 23, 3) := by decide +kernel
theorem dX1_append_19 : decode cX1_append 19 = .ok (.aload_n 0, 1) := by decide +kernel
theorem dX1_append_20 : decode cX1_append 20 = .ok (.getfield 9, 3) := by decide +kernel
theorem dX1_append_23 : decode cX1_append 23 = .ok (.aload_n 0, 1) := by decide +kernel
theorem dX1_append_24 : decode cX1_append 24 = .ok (.getfield 15, 3) := by decide +kernel
theorem dX1_append_27 : decode cX1_append 27 = .ok (.iload_n 1, 1) := by decide +kernel
theorem dX1_append_28 : decode cX1_append 28 = .ok (.castore, 1) := by decide +kernel
theorem dX1_append_29 : decode cX1_append 29 = .ok (.aload_n 0, 1) := by decide +kernel
theorem dX1_append_30 : decode cX1_append 30 = .ok (.dup, 1) := by decide +kernel
theorem dX1_append_31 : decode cX1_append 31 = .ok (.getfield 15, 3) := by decide +kernel
theorem dX1_append_34 : decode cX1_append 34 = .ok (.iconst 1, 1) := by decide +kernel
theorem dX1_append_35 : decode cX1_append 35 = .ok (.iadd, 1) := by decide +kernel
theorem dX1_append_36 : decode cX1_append 36 = .ok (.putfield 15, 3) := by decide +kernel
theorem dX1_append_39 : decode cX1_append 39 = .ok (.return_, 1) := by decide +kernel
theorem dX1_wipe_0 : decode cX1_wipe 0 = .ok (.aload_n 0, 1) := by decide +kernel
theorem dX1_wipe_1 : decode cX1_wipe 1 = .ok (.iconst 0, 1) := by decide +kernel
theorem dX1_wipe_2 : decode cX1_wipe 2 = .ok (.putfield 15, 3) := by decide +kernel
theorem dX1_wipe_5 : decode cX1_wipe 5 = .ok (.return_, 1) := by decide +kernel
theorem dX1_firstFault_0 : decode cX1_firstFault 0 = .ok (.iconst 0, 1) := by decide +kernel
theorem dX1_firstFault_1 : decode cX1_firstFault 1 = .ok (.istore_n 1, 1) := by decide +kernel
theorem dX1_firstFault_2 : decode cX1_firstFault 2 = .ok (.iconst 0, 1) := by decide +kernel
theorem dX1_firstFault_3 : decode cX1_firstFault 3 = .ok (.istore_n 2, 1) := by decide +kernel
theorem dX1_firstFault_4 : decode cX1_firstFault 4 = .ok (.iconst 0, 1) := by decide +kernel
theorem dX1_firstFault_5 : decode cX1_firstFault 5 = .ok (.istore_n 3, 1) := by decide +kernel
theorem dX1_firstFault_6 : decode cX1_firstFault 6 = .ok (.iload_n 3, 1) := by decide +kernel
theorem dX1_firstFault_7 : decode cX1_firstFault 7 = .ok (.aload_n 0, 1) := by decide +kernel
theorem dX1_firstFault_8 : decode cX1_firstFault 8 = .ok (.getfield 15, 3) := by decide +kernel
theorem dX1_firstFault_11 : decode cX1_firstFault 11 = .ok (.if_icmp .ge 75, 3) := by decide +kernel
theorem dX1_firstFault_14 : decode cX1_firstFault 14 = .ok (.aload_n 0, 1) := by decide +kernel
theorem dX1_firstFault_15 : decode cX1_firstFault 15 = .ok (.iload_n 3, 1) := by decide +kernel
theorem dX1_firstFault_16 : decode cX1_firstFault 16 = .ok (.invokevirtual 19, 3) := by decide +kernel
theorem dX1_firstFault_19 : decode cX1_firstFault 19 = .ok (.istore 4, 2) := by decide +kernel
theorem dX1_firstFault_21 : decode cX1_firstFault 21 = .ok (.iload_n 1, 1) := by decide +kernel
theorem dX1_firstFault_22 : decode cX1_firstFault 22 = .ok (.ifCond .ne 21, 3) := by decide +kernel
theorem dX1_firstFault_25 : decode cX1_firstFault 25 = .ok (.iload 4, 2) := by decide +kernel
theorem dX1_firstFault_27 : decode cX1_firstFault 27 = .ok (.invokestatic 23, 3) := by decide +kernel
theorem dX1_firstFault_30 : decode cX1_firstFault 30 = .ok (.ifCond .ne 5, 3) := by decide +kernel
theorem dX1_firstFault_33 : decode cX1_firstFault 33 = .ok (.iload_n 3, 1) := by decide +kernel
theorem dX1_firstFault_34 : decode cX1_firstFault 34 = .ok (.ireturn, 1) := by decide +kernel
theorem dX1_firstFault_35 : decode cX1_firstFault 35 = .ok (.iinc 2 1, 3) := by decide +kernel
theorem dX1_firstFault_38 : decode cX1_firstFault 38 = .ok (.iconst 1, 1) := by decide +kernel
theorem dX1_firstFault_39 : decode cX1_firstFault 39 = .ok (.istore_n 1, 1) := by decide +kernel
theorem dX1_firstFault_40 : decode cX1_firstFault 40 = .ok (.goto 40, 3) := by decide +kernel
theorem dX1_firstFault_43 : decode cX1_firstFault 43 = .ok (.iload 4, 2) := by decide +kernel
theorem dX1_firstFault_45 : decode cX1_firstFault 45 = .ok (.bipush 44, 2) := by decide +kernel
theorem dX1_firstFault_47 : decode cX1_firstFault 47 = .ok (.if_icmp .ne 14, 3) := by decide +kernel
theorem dX1_firstFault_50 : decode cX1_firstFault 50 = .ok (.iload_n 2, 1) := by decide +kernel
theorem dX1_firstFault_51 : decode cX1_firstFault 51 = .ok (.bipush 12, 2) := by decide +kernel
theorem dX1_firstFault_53 : decode cX1_firstFault 53 = .ok (.if_icmp .ge 8, 3) := by decide +kernel
theorem dX1_firstFault_56 : decode cX1_firstFault 56 = .ok (.iconst 0, 1) := by decide +kernel
theorem dX1_firstFault_57 : decode cX1_firstFault 57 = .ok (.istore_n 1, 1) := by decide +kernel
theorem dX1_firstFault_58 : decode cX1_firstFault 58 = .ok (.goto 22, 3) := by decide +kernel
theorem dX1_firstFault_61 : decode cX1_firstFault 61 = .ok (.iload 4, 2) := by decide +kernel
theorem dX1_firstFault_63 : decode cX1_firstFault 63 = .ok (.bipush 112, 2) := by decide +kernel
theorem dX1_firstFault_65 : decode cX1_firstFault 65 = .ok (.if_icmp .ne 13, 3) := by decide +kernel
theorem dX1_firstFault_68 : decode cX1_firstFault 68 = .ok (.iload_n 1, 1) := by decide +kernel
theorem dX1_firstFault_69 : decode cX1_firstFault 69 = .ok (.iconst 1, 1) := by decide +kernel
theorem dX1_firstFault_70 : decode cX1_firstFault 70 = .ok (.if_icmp .ne 8, 3) := by decide +kernel
theorem dX1_firstFault_73 : decode cX1_firstFault 73 = .ok (.iconst 2, 1) := by decide +kernel
theorem dX1_firstFault_74 : decode cX1_firstFault 74 = .ok (.istore_n 1, 1) := by decide +kernel
theorem dX1_firstFault_75 : decode cX1_firstFault 75 = .ok (.goto 5, 3) := by decide +kernel
theorem dX1_firstFault_78 : decode cX1_firstFault 78 = .ok (.iload_n 3, 1) := by decide +kernel
theorem dX1_firstFault_79 : decode cX1_firstFault 79 = .ok (.ireturn, 1) := by decide +kernel
theorem dX1_firstFault_80 : decode cX1_firstFault 80 = .ok (.iinc 3 1, 3) := by decide +kernel
theorem dX1_firstFault_83 : decode cX1_firstFault 83 = .ok (.goto (-77), 3) := by decide +kernel
theorem dX1_firstFault_86 : decode cX1_firstFault 86 = .ok (.iload_n 1, 1) := by decide +kernel
theorem dX1_firstFault_87 : decode cX1_firstFault 87 = .ok (.ifCond .eq 8, 3) := by decide +kernel
theorem dX1_firstFault_90 : decode cX1_firstFault 90 = .ok (.iload_n 2, 1) := by decide +kernel
theorem dX1_firstFault_91 : decode cX1_firstFault 91 = .ok (.iconst 3, 1) := by decide +kernel
theorem dX1_firstFault_92 : decode cX1_firstFault 92 = .ok (.if_icmp .ge 10, 3) := by decide +kernel
theorem dX1_firstFault_95 : decode cX1_firstFault 95 = .ok (.aload_n 0, 1) := by decide +kernel
theorem dX1_firstFault_96 : decode cX1_firstFault 96 = .ok (.getfield 15, 3) := by decide +kernel
theorem dX1_firstFault_99 : decode cX1_firstFault 99 = .ok (.goto 4, 3) := by decide +kernel
theorem dX1_firstFault_102 : decode cX1_firstFault 102 = .ok (.iconst (-1), 1) := by decide +kernel
theorem dX1_firstFault_103 : decode cX1_firstFault 103 = .ok (.ireturn, 1) := by decide +kernel
theorem dX1_layOnto_0 : decode cX1_layOnto 0 = .ok (.aload_n 1, 1) := by decide +kernel
theorem dX1_layOnto_1 : decode cX1_layOnto 1 = .ok (.invokevirtual 27, 3) := by decide +kernel
theorem dX1_layOnto_4 : decode cX1_layOnto 4 = .ok (.iconst 0, 1) := by decide +kernel
theorem dX1_layOnto_5 : decode cX1_layOnto 5 = .ok (.istore_n 2, 1) := by decide +kernel
theorem dX1_layOnto_6 : decode cX1_layOnto 6 = .ok (.iload_n 2, 1) := by decide +kernel
theorem dX1_layOnto_7 : decode cX1_layOnto 7 = .ok (.aload_n 0, 1) := by decide +kernel
theorem dX1_layOnto_8 : decode cX1_layOnto 8 = .ok (.getfield 15, 3) := by decide +kernel
theorem dX1_layOnto_11 : decode cX1_layOnto 11 = .ok (.if_icmp .ge 43, 3) := by decide +kernel
theorem dX1_layOnto_14 : decode cX1_layOnto 14 = .ok (.aload_n 0, 1) := by decide +kernel
theorem dX1_layOnto_15 : decode cX1_layOnto 15 = .ok (.iload_n 2, 1) := by decide +kernel
theorem dX1_layOnto_16 : decode cX1_layOnto 16 = .ok (.invokevirtual 19, 3) := by decide +kernel
theorem dX1_layOnto_19 : decode cX1_layOnto 19 = .ok (.istore_n 3, 1) := by decide +kernel
theorem dX1_layOnto_20 : decode cX1_layOnto 20 = .ok (.iload_n 3, 1) := by decide +kernel
theorem dX1_layOnto_21 : decode cX1_layOnto 21 = .ok (.invokestatic 23, 3) := by decide +kernel
theorem dX1_layOnto_24 : decode cX1_layOnto 24 = .ok (.ifCond .eq 14, 3) := by decide +kernel
theorem dX1_layOnto_27 : decode cX1_layOnto 27 = .ok (.aload_n 1, 1) := by decide +kernel
theorem dX1_layOnto_28 : decode cX1_layOnto 28 = .ok (.iload_n 3, 1) := by decide +kernel
theorem dX1_layOnto_29 : decode cX1_layOnto 29 = .ok (.bipush 48, 2) := by decide +kernel
theorem dX1_layOnto_31 : decode cX1_layOnto 31 = .ok (.isub, 1) := by decide +kernel
theorem dX1_layOnto_32 : decode cX1_layOnto 32 = .ok (.invokevirtual 32, 3) := by decide +kernel
theorem dX1_layOnto_35 : decode cX1_layOnto 35 = .ok (.goto 13, 3) := by decide +kernel
theorem dX1_layOnto_38 : decode cX1_layOnto 38 = .ok (.iload_n 3, 1) := by decide +kernel
theorem dX1_layOnto_39 : decode cX1_layOnto 39 = .ok (.bipush 112, 2) := by decide +kernel
theorem dX1_layOnto_41 : decode cX1_layOnto 41 = .ok (.if_icmp .ne 7, 3) := by decide +kernel
theorem dX1_layOnto_44 : decode cX1_layOnto 44 = .ok (.aload_n 1, 1) := by decide +kernel
theorem dX1_layOnto_45 : decode cX1_layOnto 45 = .ok (.invokevirtual 36, 3) := by decide +kernel
theorem dX1_layOnto_48 : decode cX1_layOnto 48 = .ok (.iinc 2 1, 3) := by decide +kernel
theorem dX1_layOnto_51 : decode cX1_layOnto 51 = .ok (.goto (-45), 3) := by decide +kernel
theorem dX1_layOnto_54 : decode cX1_layOnto 54 = .ok (.aload_n 1, 1) := by decide +kernel
theorem dX1_layOnto_55 : decode cX1_layOnto 55 = .ok (.invokevirtual 39, 3) := by decide +kernel
theorem dX1_layOnto_58 : decode cX1_layOnto 58 = .ok (.return_, 1) := by decide +kernel
theorem dX1_isDigit_0 : decode cX1_isDigit 0 = .ok (.iload_n 0, 1) := by decide +kernel
theorem dX1_isDigit_1 : decode cX1_isDigit 1 = .ok (.bipush 48, 2) := by decide +kernel
theorem dX1_isDigit_3 : decode cX1_isDigit 3 = .ok (.if_icmp .lt 13, 3) := by decide +kernel
theorem dX1_isDigit_6 : decode cX1_isDigit 6 = .ok (.iload_n 0, 1) := by decide +kernel
theorem dX1_isDigit_7 : decode cX1_isDigit 7 = .ok (.bipush 57, 2) := by decide +kernel
theorem dX1_isDigit_9 : decode cX1_isDigit 9 = .ok (.if_icmp .gt 7, 3) := by decide +kernel
theorem dX1_isDigit_12 : decode cX1_isDigit 12 = .ok (.iconst 1, 1) := by decide +kernel
theorem dX1_isDigit_13 : decode cX1_isDigit 13 = .ok (.goto 4, 3) := by decide +kernel
theorem dX1_isDigit_16 : decode cX1_isDigit 16 = .ok (.iconst 0, 1) := by decide +kernel
theorem dX1_isDigit_17 : decode cX1_isDigit 17 = .ok (.ireturn, 1) := by decide +kernel
theorem dX2_init_0 : decode cX2_init 0 = .ok (.aload_n 0, 1) := by decide +kernel
theorem dX2_init_1 : decode cX2_init 1 = .ok (.invokespecial 3, 3) := by decide +kernel
theorem dX2_init_4 : decode cX2_init 4 = .ok (.return_, 1) := by decide +kernel
theorem dX2_layDown_0 : decode cX2_layDown 0 = .ok (.aload_n 0, 1) := by decide +kernel
theorem dX2_layDown_1 : decode cX2_layDown 1 = .ok (.iload_n 1, 1) := by decide +kernel
theorem dX2_layDown_2 : decode cX2_layDown 2 = .ok (.putfield 9, 3) := by decide +kernel
theorem dX2_layDown_5 : decode cX2_layDown 5 = .ok (.aload_n 0, 1) := by decide +kernel
theorem dX2_layDown_6 : decode cX2_layDown 6 = .ok (.iconst 1, 1) := by decide +kernel
theorem dX2_layDown_7 : decode cX2_layDown 7 = .ok (.putfield 15, 3) := by decide +kernel
theorem dX2_layDown_10 : decode cX2_layDown 10 = .ok (.aload_n 0, 1) := by decide +kernel
theorem dX2_layDown_11 : decode cX2_layDown 11 = .ok (.iconst 0, 1) := by decide +kernel
theorem dX2_layDown_12 : decode cX2_layDown 12 = .ok (.putfield 18, 3) := by decide +kernel
theorem dX2_layDown_15 : decode cX2_layDown 15 = .ok (.return_, 1) := by decide +kernel
theorem dX2_copyFrom_0 : decode cX2_copyFrom 0 = .ok (.aload_n 0, 1) := by decide +kernel
theorem dX2_copyFrom_1 : decode cX2_copyFrom 1 = .ok (.aload_n 1, 1) := by decide +kernel
theorem dX2_copyFrom_2 : decode cX2_copyFrom 2 = .ok (.getfield 9, 3) := by decide +kernel
theorem dX2_copyFrom_5 : decode cX2_copyFrom 5 = .ok (.putfield 9, 3) := by decide +kernel
theorem dX2_copyFrom_8 : decode cX2_copyFrom 8 = .ok (.aload_n 0, 1) := by decide +kernel
theorem dX2_copyFrom_9 : decode cX2_copyFrom 9 = .ok (.aload_n 1, 1) := by decide +kernel
theorem dX2_copyFrom_10 : decode cX2_copyFrom 10 = .ok (.getfield 15, 3) := by decide +kernel
theorem dX2_copyFrom_13 : decode cX2_copyFrom 13 = .ok (.putfield 15, 3) := by decide +kernel
theorem dX2_copyFrom_16 : decode cX2_copyFrom 16 = .ok (.aload_n 0, 1) := by decide +kernel
theorem dX2_copyFrom_17 : decode cX2_copyFrom 17 = .ok (.aload_n 1, 1) := by decide +kernel
theorem dX2_copyFrom_18 : decode cX2_copyFrom 18 = .ok (.getfield 18, 3) := by decide +kernel
theorem dX2_copyFrom_21 : decode cX2_copyFrom 21 = .ok (.putfield 18, 3) := by decide +kernel
theorem dX2_copyFrom_24 : decode cX2_copyFrom 24 = .ok (.aload_n 0, 1) := by decide +kernel
theorem dX2_copyFrom_25 : decode cX2_copyFrom 25 = .ok (.aload_n 1, 1) := by decide +kernel
theorem dX2_copyFrom_26 : decode cX2_copyFrom 26 = .ok (.getfield 21, 3) := by decide +kernel
theorem dX2_copyFrom_29 : decode cX2_copyFrom 29 = .ok (.putfield 21, 3) := by decide +kernel
theorem dX2_copyFrom_32 : decode cX2_copyFrom 32 = .ok (.aload_n 0, 1) := by decide +kernel
theorem dX2_copyFrom_33 : decode cX2_copyFrom 33 = .ok (.aload_n 1, 1) := by decide +kernel
theorem dX2_copyFrom_34 : decode cX2_copyFrom 34 = .ok (.getfield 24, 3) := by decide +kernel
theorem dX2_copyFrom_37 : decode cX2_copyFrom 37 = .ok (.putfield 24, 3) := by decide +kernel
theorem dX2_copyFrom_40 : decode cX2_copyFrom 40 = .ok (.return_, 1) := by decide +kernel
theorem dX2_isPassingPlace_0 : decode cX2_isPassingPlace 0 = .ok (.aload_n 0, 1) := by decide +kernel
theorem dX2_isPassingPlace_1 : decode cX2_isPassingPlace 1 = .ok (.getfield 15, 3) := by decide +kernel
theorem dX2_isPassingPlace_4 : decode cX2_isPassingPlace 4 = .ok (.iconst 2, 1) := by decide +kernel
theorem dX2_isPassingPlace_5 : decode cX2_isPassingPlace 5 = .ok (.if_icmp .lt 7, 3) := by decide +kernel
theorem dX2_isPassingPlace_8 : decode cX2_isPassingPlace 8 = .ok (.iconst 1, 1) := by decide +kernel
theorem dX2_isPassingPlace_9 : decode cX2_isPassingPlace 9 = .ok (.goto 4, 3) := by decide +kernel
theorem dX2_isPassingPlace_12 : decode cX2_isPassingPlace 12 = .ok (.iconst 0, 1) := by decide +kernel
theorem dX2_isPassingPlace_13 : decode cX2_isPassingPlace 13 = .ok (.ireturn, 1) := by decide +kernel
theorem dX2_ticksToRise_0 : decode cX2_ticksToRise 0 = .ok (.aload_n 0, 1) := by decide +kernel
theorem dX2_ticksToRise_1 : decode cX2_ticksToRise 1 = .ok (.getfield 18, 3) := by decide +kernel
theorem dX2_ticksToRise_4 : decode cX2_ticksToRise 4 = .ok (.iload_n 1, 1) := by decide +kernel
theorem dX2_ticksToRise_5 : decode cX2_ticksToRise 5 = .ok (.if_icmp .le 8, 3) := by decide +kernel
theorem dX2_ticksToRise_8 : decode cX2_ticksToRise 8 = .ok (.iload_n 2, 1) := by decide +kernel
theorem dX2_ticksToRise_9 : decode cX2_ticksToRise 9 = .ok (.iconst 1, 1) := by decide +kernel
theorem dX2_ticksToRise_10 : decode cX2_ticksToRise 10 = .ok (.if_icmp .ge 5, 3) := by decide +kernel
theorem dX2_ticksToRise_13 : decode cX2_ticksToRise 13 = .ok (.iconst 0, 1) := by decide +kernel
theorem dX2_ticksToRise_14 : decode cX2_ticksToRise 14 = .ok (.ireturn, 1) := by decide +kernel
theorem dX2_ticksToRise_15 : decode cX2_ticksToRise 15 = .ok (.aload_n 0, 1) := by decide +kernel
theorem dX2_ticksToRise_16 : decode cX2_ticksToRise 16 = .ok (.getfield 18, 3) := by decide +kernel
theorem dX2_ticksToRise_19 : decode cX2_ticksToRise 19 = .ok (.iload_n 1, 1) := by decide +kernel
theorem dX2_ticksToRise_20 : decode cX2_ticksToRise 20 = .ok (.isub, 1) := by decide +kernel
theorem dX2_ticksToRise_21 : decode cX2_ticksToRise 21 = .ok (.iload_n 2, 1) := by decide +kernel
theorem dX2_ticksToRise_22 : decode cX2_ticksToRise 22 = .ok (.iadd, 1) := by decide +kernel
theorem dX2_ticksToRise_23 : decode cX2_ticksToRise 23 = .ok (.iconst 1, 1) := by decide +kernel
theorem dX2_ticksToRise_24 : decode cX2_ticksToRise 24 = .ok (.isub, 1) := by decide +kernel
theorem dX2_ticksToRise_25 : decode cX2_ticksToRise 25 = .ok (.iload_n 2, 1) := by decide +kernel
theorem dX2_ticksToRise_26 : decode cX2_ticksToRise 26 = .ok (.idiv, 1) := by decide +kernel
theorem dX2_ticksToRise_27 : decode cX2_ticksToRise 27 = .ok (.ireturn, 1) := by decide +kernel
theorem dX2_settle_0 : decode cX2_settle 0 = .ok (.aload_n 0, 1) := by decide +kernel
theorem dX2_settle_1 : decode cX2_settle 1 = .ok (.getfield 27, 3) := by decide +kernel
theorem dX2_settle_4 : decode cX2_settle 4 = .ok (.ifCond .ne 20, 3) := by decide +kernel
theorem dX2_settle_7 : decode cX2_settle 7 = .ok (.aload_n 0, 1) := by decide +kernel
theorem dX2_settle_8 : decode cX2_settle 8 = .ok (.aload_n 0, 1) := by decide +kernel
theorem dX2_settle_9 : decode cX2_settle 9 = .ok (.getfield 18, 3) := by decide +kernel
theorem dX2_settle_12 : decode cX2_settle 12 = .ok (.iload_n 1, 1) := by decide +kernel
theorem dX2_settle_13 : decode cX2_settle 13 = .ok (.isub, 1) := by decide +kernel
theorem dX2_settle_14 : decode cX2_settle 14 = .ok (.iconst 0, 1) := by decide +kernel
theorem dX2_settle_15 : decode cX2_settle 15 = .ok (.invokestatic 30, 3) := by decide +kernel
theorem dX2_settle_18 : decode cX2_settle 18 = .ok (.putfield 18, 3) := by decide +kernel
theorem dX2_settle_21 : decode cX2_settle 21 = .ok (.goto 30, 3) := by decide +kernel
theorem dX2_settle_24 : decode cX2_settle 24 = .ok (.aload_n 0, 1) := by decide +kernel
theorem dX2_settle_25 : decode cX2_settle 25 = .ok (.aload_n 0, 1) := by decide +kernel
theorem dX2_settle_26 : decode cX2_settle 26 = .ok (.getfield 18, 3) := by decide +kernel
theorem dX2_settle_29 : decode cX2_settle 29 = .ok (.aload_n 0, 1) := by decide +kernel
theorem dX2_settle_30 : decode cX2_settle 30 = .ok (.getfield 27, 3) := by decide +kernel
theorem dX2_settle_33 : decode cX2_settle 33 = .ok (.aload_n 0, 1) := by decide +kernel
theorem dX2_settle_34 : decode cX2_settle 34 = .ok (.getfield 9, 3) := by decide +kernel
theorem dX2_settle_37 : decode cX2_settle 37 = .ok (.imul, 1) := by decide +kernel
theorem dX2_settle_38 : decode cX2_settle 38 = .ok (.bipush 10, 2) := by decide +kernel
theorem dX2_settle_40 : decode cX2_settle 40 = .ok (.idiv, 1) := by decide +kernel
theorem dX2_settle_41 : decode cX2_settle 41 = .ok (.iadd, 1) := by decide +kernel
theorem dX2_settle_42 : decode cX2_settle 42 = .ok (.sipush 999, 3) := by decide +kernel
theorem dX2_settle_45 : decode cX2_settle 45 = .ok (.invokestatic 36, 3) := by decide +kernel
theorem dX2_settle_48 : decode cX2_settle 48 = .ok (.putfield 18, 3) := by decide +kernel
theorem dX2_settle_51 : decode cX2_settle 51 = .ok (.aload_n 0, 1) := by decide +kernel
theorem dX2_settle_52 : decode cX2_settle 52 = .ok (.iconst 0, 1) := by decide +kernel
theorem dX2_settle_53 : decode cX2_settle 53 = .ok (.putfield 27, 3) := by decide +kernel
theorem dX2_settle_56 : decode cX2_settle 56 = .ok (.return_, 1) := by decide +kernel
theorem dX3_init_0 : decode cX3_init 0 = .ok (.aload_n 0, 1) := by decide +kernel
theorem dX3_init_1 : decode cX3_init 1 = .ok (.invokespecial 3, 3) := by decide +kernel
theorem dX3_init_4 : decode cX3_init 4 = .ok (.aload_n 0, 1) := by decide +kernel
theorem dX3_init_5 : decode cX3_init 5 = .ok (.bipush 12, 2) := by decide +kernel
theorem dX3_init_7 : decode cX3_init 7 = .ok (.anewarray 9, 3) := by decide +kernel
theorem dX3_init_10 : decode cX3_init 10 = .ok (.putfield 11, 3) := by decide +kernel
theorem dX3_init_13 : decode cX3_init 13 = .ok (.iconst 0, 1) := by decide +kernel
theorem dX3_init_14 : decode cX3_init 14 = .ok (.istore_n 1, 1) := by decide +kernel
theorem dX3_init_15 : decode cX3_init 15 = .ok (.iload_n 1, 1) := by decide +kernel
theorem dX3_init_16 : decode cX3_init 16 = .ok (.aload_n 0, 1) := by decide +kernel
theorem dX3_init_17 : decode cX3_init 17 = .ok (.getfield 11, 3) := by decide +kernel
theorem dX3_init_20 : decode cX3_init 20 = .ok (.arraylength, 1) := by decide +kernel
theorem dX3_init_21 : decode cX3_init 21 = .ok (.if_icmp .ge 22, 3) := by decide +kernel
theorem dX3_init_24 : decode cX3_init 24 = .ok (.aload_n 0, 1) := by decide +kernel
theorem dX3_init_25 : decode cX3_init 25 = .ok (.getfield 11, 3) := by decide +kernel
theorem dX3_init_28 : decode cX3_init 28 = .ok (.iload_n 1, 1) := by decide +kernel
theorem dX3_init_29 : decode cX3_init 29 = .ok (.new 9, 3) := by decide +kernel
theorem dX3_init_32 : decode cX3_init 32 = .ok (.dup, 1) := by decide +kernel
theorem dX3_init_33 : decode cX3_init 33 = .ok (.invokespecial 17, 3) := by decide +kernel
theorem dX3_init_36 : decode cX3_init 36 = .ok (.aastore, 1) := by decide +kernel
theorem dX3_init_37 : decode cX3_init 37 = .ok (.iinc 1 1, 3) := by decide +kernel
theorem dX3_init_40 : decode cX3_init 40 = .ok (.goto (-25), 3) := by decide +kernel
theorem dX3_init_43 : decode cX3_init 43 = .ok (.aload_n 0, 1) := by decide +kernel
theorem dX3_init_44 : decode cX3_init 44 = .ok (.iconst 4, 1) := by decide +kernel
theorem dX3_init_45 : decode cX3_init 45 = .ok (.anewarray 18, 3) := by decide +kernel
theorem dX3_init_48 : decode cX3_init 48 = .ok (.putfield 20, 3) := by decide +kernel
theorem dX3_init_51 : decode cX3_init 51 = .ok (.iconst 0, 1) := by decide +kernel
theorem dX3_init_52 : decode cX3_init 52 = .ok (.istore_n 1, 1) := by decide +kernel
theorem dX3_init_53 : decode cX3_init 53 = .ok (.iload_n 1, 1) := by decide +kernel
theorem dX3_init_54 : decode cX3_init 54 = .ok (.aload_n 0, 1) := by decide +kernel
theorem dX3_init_55 : decode cX3_init 55 = .ok (.getfield 20, 3) := by decide +kernel
theorem dX3_init_58 : decode cX3_init 58 = .ok (.arraylength, 1) := by decide +kernel
theorem dX3_init_59 : decode cX3_init 59 = .ok (.if_icmp .ge 22, 3) := by decide +kernel
theorem dX3_init_62 : decode cX3_init 62 = .ok (.aload_n 0, 1) := by decide +kernel
theorem dX3_init_63 : decode cX3_init 63 = .ok (.getfield 20, 3) := by decide +kernel
theorem dX3_init_66 : decode cX3_init 66 = .ok (.iload_n 1, 1) := by decide +kernel
theorem dX3_init_67 : decode cX3_init 67 = .ok (.new 18, 3) := by decide +kernel
theorem dX3_init_70 : decode cX3_init 70 = .ok (.dup, 1) := by decide +kernel
theorem dX3_init_71 : decode cX3_init 71 = .ok (.invokespecial 24, 3) := by decide +kernel
theorem dX3_init_74 : decode cX3_init 74 = .ok (.aastore, 1) := by decide +kernel
theorem dX3_init_75 : decode cX3_init 75 = .ok (.iinc 1 1, 3) := by decide +kernel
theorem dX3_init_78 : decode cX3_init 78 = .ok (.goto (-25), 3) := by decide +kernel
theorem dX3_init_81 : decode cX3_init 81 = .ok (.aload_n 0, 1) := by decide +kernel
theorem dX3_init_82 : decode cX3_init 82 = .ok (.iconst 3, 1) := by decide +kernel
theorem dX3_init_83 : decode cX3_init 83 = .ok (.newarray .int, 2) := by decide +kernel
theorem dX3_init_85 : decode cX3_init 85 = .ok (.putfield 25, 3) := by decide +kernel
theorem dX3_init_88 : decode cX3_init 88 = .ok (.iconst 0, 1) := by decide +kernel
theorem dX3_init_89 : decode cX3_init 89 = .ok (.istore_n 1, 1) := by decide +kernel
theorem dX3_init_90 : decode cX3_init 90 = .ok (.iload_n 1, 1) := by decide +kernel
theorem dX3_init_91 : decode cX3_init 91 = .ok (.aload_n 0, 1) := by decide +kernel
theorem dX3_init_92 : decode cX3_init 92 = .ok (.getfield 25, 3) := by decide +kernel
theorem dX3_init_95 : decode cX3_init 95 = .ok (.arraylength, 1) := by decide +kernel
theorem dX3_init_96 : decode cX3_init 96 = .ok (.if_icmp .ge 28, 3) := by decide +kernel
theorem dX3_init_99 : decode cX3_init 99 = .ok (.iload_n 1, 1) := by decide +kernel
theorem dX3_init_100 : decode cX3_init 100 = .ok (.getstatic 29, 3) := by decide +kernel
theorem dX3_init_103 : decode cX3_init 103 = .ok (.arraylength, 1) := by decide +kernel
theorem dX3_init_104 : decode cX3_init 104 = .ok (.if_icmp .ge 20, 3) := by decide +kernel
theorem dX3_init_107 : decode cX3_init 107 = .ok (.aload_n 0, 1) := by decide +kernel
theorem dX3_init_108 : decode cX3_init 108 = .ok (.getfield 25, 3) := by decide +kernel
theorem dX3_init_111 : decode cX3_init 111 = .ok (.iload_n 1, 1) := by decide +kernel
theorem dX3_init_112 : decode cX3_init 112 = .ok (.getstatic 29, 3) := by decide +kernel
theorem dX3_init_115 : decode cX3_init 115 = .ok (.iload_n 1, 1) := by decide +kernel
theorem dX3_init_116 : decode cX3_init 116 = .ok (.iaload, 1) := by decide +kernel
theorem dX3_init_117 : decode cX3_init 117 = .ok (.iastore, 1) := by decide +kernel
theorem dX3_init_118 : decode cX3_init 118 = .ok (.iinc 1 1, 3) := by decide +kernel
theorem dX3_init_121 : decode cX3_init 121 = .ok (.goto (-31), 3) := by decide +kernel
theorem dX3_init_124 : decode cX3_init 124 = .ok (.return_, 1) := by decide +kernel
theorem dX3_copyFrom_0 : decode cX3_copyFrom 0 = .ok (.aload_n 0, 1) := by decide +kernel
theorem dX3_copyFrom_1 : decode cX3_copyFrom 1 = .ok (.aload_n 1, 1) := by decide +kernel
theorem dX3_copyFrom_2 : decode cX3_copyFrom 2 = .ok (.getfield 32, 3) := by decide +kernel
theorem dX3_copyFrom_5 : decode cX3_copyFrom 5 = .ok (.putfield 32, 3) := by decide +kernel
theorem dX3_copyFrom_8 : decode cX3_copyFrom 8 = .ok (.iconst 0, 1) := by decide +kernel
theorem dX3_copyFrom_9 : decode cX3_copyFrom 9 = .ok (.istore_n 2, 1) := by decide +kernel
theorem dX3_copyFrom_10 : decode cX3_copyFrom 10 = .ok (.iload_n 2, 1) := by decide +kernel
theorem dX3_copyFrom_11 : decode cX3_copyFrom 11 = .ok (.aload_n 0, 1) := by decide +kernel
theorem dX3_copyFrom_12 : decode cX3_copyFrom 12 = .ok (.getfield 11, 3) := by decide +kernel
theorem dX3_copyFrom_15 : decode cX3_copyFrom 15 = .ok (.arraylength, 1) := by decide +kernel
theorem dX3_copyFrom_16 : decode cX3_copyFrom 16 = .ok (.if_icmp .ge 33, 3) := by decide +kernel
theorem dX3_copyFrom_19 : decode cX3_copyFrom 19 = .ok (.iload_n 2, 1) := by decide +kernel
theorem dX3_copyFrom_20 : decode cX3_copyFrom 20 = .ok (.aload_n 1, 1) := by decide +kernel
theorem dX3_copyFrom_21 : decode cX3_copyFrom 21 = .ok (.getfield 11, 3) := by decide +kernel
theorem dX3_copyFrom_24 : decode cX3_copyFrom 24 = .ok (.arraylength, 1) := by decide +kernel
theorem dX3_copyFrom_25 : decode cX3_copyFrom 25 = .ok (.if_icmp .ge 24, 3) := by decide +kernel
theorem dX3_copyFrom_28 : decode cX3_copyFrom 28 = .ok (.aload_n 0, 1) := by decide +kernel
theorem dX3_copyFrom_29 : decode cX3_copyFrom 29 = .ok (.getfield 11, 3) := by decide +kernel
theorem dX3_copyFrom_32 : decode cX3_copyFrom 32 = .ok (.iload_n 2, 1) := by decide +kernel
theorem dX3_copyFrom_33 : decode cX3_copyFrom 33 = .ok (.aaload, 1) := by decide +kernel
theorem dX3_copyFrom_34 : decode cX3_copyFrom 34 = .ok (.aload_n 1, 1) := by decide +kernel
theorem dX3_copyFrom_35 : decode cX3_copyFrom 35 = .ok (.getfield 11, 3) := by decide +kernel
theorem dX3_copyFrom_38 : decode cX3_copyFrom 38 = .ok (.iload_n 2, 1) := by decide +kernel
theorem dX3_copyFrom_39 : decode cX3_copyFrom 39 = .ok (.aaload, 1) := by decide +kernel
theorem dX3_copyFrom_40 : decode cX3_copyFrom 40 = .ok (.invokevirtual 36, 3) := by decide +kernel
theorem dX3_copyFrom_43 : decode cX3_copyFrom 43 = .ok (.iinc 2 1, 3) := by decide +kernel
theorem dX3_copyFrom_46 : decode cX3_copyFrom 46 = .ok (.goto (-36), 3) := by decide +kernel
theorem dX3_copyFrom_49 : decode cX3_copyFrom 49 = .ok (.aload_n 0, 1) := by decide +kernel
theorem dX3_copyFrom_50 : decode cX3_copyFrom 50 = .ok (.aload_n 1, 1) := by decide +kernel
theorem dX3_copyFrom_51 : decode cX3_copyFrom 51 = .ok (.getfield 40, 3) := by decide +kernel
theorem dX3_copyFrom_54 : decode cX3_copyFrom 54 = .ok (.putfield 40, 3) := by decide +kernel
theorem dX3_copyFrom_57 : decode cX3_copyFrom 57 = .ok (.iconst 0, 1) := by decide +kernel
theorem dX3_copyFrom_58 : decode cX3_copyFrom 58 = .ok (.istore_n 2, 1) := by decide +kernel
theorem dX3_copyFrom_59 : decode cX3_copyFrom 59 = .ok (.iload_n 2, 1) := by decide +kernel
theorem dX3_copyFrom_60 : decode cX3_copyFrom 60 = .ok (.aload_n 0, 1) := by decide +kernel
theorem dX3_copyFrom_61 : decode cX3_copyFrom 61 = .ok (.getfield 20, 3) := by decide +kernel
theorem dX3_copyFrom_64 : decode cX3_copyFrom 64 = .ok (.arraylength, 1) := by decide +kernel
theorem dX3_copyFrom_65 : decode cX3_copyFrom 65 = .ok (.if_icmp .ge 33, 3) := by decide +kernel
theorem dX3_copyFrom_68 : decode cX3_copyFrom 68 = .ok (.iload_n 2, 1) := by decide +kernel
theorem dX3_copyFrom_69 : decode cX3_copyFrom 69 = .ok (.aload_n 1, 1) := by decide +kernel
theorem dX3_copyFrom_70 : decode cX3_copyFrom 70 = .ok (.getfield 20, 3) := by decide +kernel
theorem dX3_copyFrom_73 : decode cX3_copyFrom 73 = .ok (.arraylength, 1) := by decide +kernel
theorem dX3_copyFrom_74 : decode cX3_copyFrom 74 = .ok (.if_icmp .ge 24, 3) := by decide +kernel
theorem dX3_copyFrom_77 : decode cX3_copyFrom 77 = .ok (.aload_n 0, 1) := by decide +kernel
theorem dX3_copyFrom_78 : decode cX3_copyFrom 78 = .ok (.getfield 20, 3) := by decide +kernel
theorem dX3_copyFrom_81 : decode cX3_copyFrom 81 = .ok (.iload_n 2, 1) := by decide +kernel
theorem dX3_copyFrom_82 : decode cX3_copyFrom 82 = .ok (.aaload, 1) := by decide +kernel
theorem dX3_copyFrom_83 : decode cX3_copyFrom 83 = .ok (.aload_n 1, 1) := by decide +kernel
theorem dX3_copyFrom_84 : decode cX3_copyFrom 84 = .ok (.getfield 20, 3) := by decide +kernel
theorem dX3_copyFrom_87 : decode cX3_copyFrom 87 = .ok (.iload_n 2, 1) := by decide +kernel
theorem dX3_copyFrom_88 : decode cX3_copyFrom 88 = .ok (.aaload, 1) := by decide +kernel
theorem dX3_copyFrom_89 : decode cX3_copyFrom 89 = .ok (.invokevirtual 43, 3) := by decide +kernel
theorem dX3_copyFrom_92 : decode cX3_copyFrom 92 = .ok (.iinc 2 1, 3) := by decide +kernel
theorem dX3_copyFrom_95 : decode cX3_copyFrom 95 = .ok (.goto (-36), 3) := by decide +kernel
theorem dX3_copyFrom_98 : decode cX3_copyFrom 98 = .ok (.iconst 0, 1) := by decide +kernel
theorem dX3_copyFrom_99 : decode cX3_copyFrom 99 = .ok (.istore_n 2, 1) := by decide +kernel
theorem dX3_copyFrom_100 : decode cX3_copyFrom 100 = .ok (.iload_n 2, 1) := by decide +kernel
theorem dX3_copyFrom_101 : decode cX3_copyFrom 101 = .ok (.aload_n 0, 1) := by decide +kernel
theorem dX3_copyFrom_102 : decode cX3_copyFrom 102 = .ok (.getfield 25, 3) := by decide +kernel
theorem dX3_copyFrom_105 : decode cX3_copyFrom 105 = .ok (.arraylength, 1) := by decide +kernel
theorem dX3_copyFrom_106 : decode cX3_copyFrom 106 = .ok (.if_icmp .ge 30, 3) := by decide +kernel
theorem dX3_copyFrom_109 : decode cX3_copyFrom 109 = .ok (.iload_n 2, 1) := by decide +kernel
theorem dX3_copyFrom_110 : decode cX3_copyFrom 110 = .ok (.aload_n 1, 1) := by decide +kernel
theorem dX3_copyFrom_111 : decode cX3_copyFrom 111 = .ok (.getfield 25, 3) := by decide +kernel
theorem dX3_copyFrom_114 : decode cX3_copyFrom 114 = .ok (.arraylength, 1) := by decide +kernel
theorem dX3_copyFrom_115 : decode cX3_copyFrom 115 = .ok (.if_icmp .ge 21, 3) := by decide +kernel
theorem dX3_copyFrom_118 : decode cX3_copyFrom 118 = .ok (.aload_n 0, 1) := by decide +kernel
theorem dX3_copyFrom_119 : decode cX3_copyFrom 119 = .ok (.getfield 25, 3) := by decide +kernel
theorem dX3_copyFrom_122 : decode cX3_copyFrom 122 = .ok (.iload_n 2, 1) := by decide +kernel
theorem dX3_copyFrom_123 : decode cX3_copyFrom 123 = .ok (.aload_n 1, 1) := by decide +kernel
theorem dX3_copyFrom_124 : decode cX3_copyFrom 124 = .ok (.getfield 25, 3) := by decide +kernel
theorem dX3_copyFrom_127 : decode cX3_copyFrom 127 = .ok (.iload_n 2, 1) := by decide +kernel
theorem dX3_copyFrom_128 : decode cX3_copyFrom 128 = .ok (.iaload, 1) := by decide +kernel
theorem dX3_copyFrom_129 : decode cX3_copyFrom 129 = .ok (.iastore, 1) := by decide +kernel
theorem dX3_copyFrom_130 : decode cX3_copyFrom 130 = .ok (.iinc 2 1, 3) := by decide +kernel
theorem dX3_copyFrom_133 : decode cX3_copyFrom 133 = .ok (.goto (-33), 3) := by decide +kernel
theorem dX3_copyFrom_136 : decode cX3_copyFrom 136 = .ok (.aload_n 0, 1) := by decide +kernel
theorem dX3_copyFrom_137 : decode cX3_copyFrom 137 = .ok (.aload_n 1, 1) := by decide +kernel
theorem dX3_copyFrom_138 : decode cX3_copyFrom 138 = .ok (.getfield 46, 3) := by decide +kernel
theorem dX3_copyFrom_141 : decode cX3_copyFrom 141 = .ok (.putfield 46, 3) := by decide +kernel
theorem dX3_copyFrom_144 : decode cX3_copyFrom 144 = .ok (.aload_n 0, 1) := by decide +kernel
theorem dX3_copyFrom_145 : decode cX3_copyFrom 145 = .ok (.aload_n 1, 1) := by decide +kernel
theorem dX3_copyFrom_146 : decode cX3_copyFrom 146 = .ok (.getfield 49, 3) := by decide +kernel
theorem dX3_copyFrom_149 : decode cX3_copyFrom 149 = .ok (.putfield 49, 3) := by decide +kernel
theorem dX3_copyFrom_152 : decode cX3_copyFrom 152 = .ok (.aload_n 0, 1) := by decide +kernel
theorem dX3_copyFrom_153 : decode cX3_copyFrom 153 = .ok (.aload_n 1, 1) := by decide +kernel
theorem dX3_copyFrom_154 : decode cX3_copyFrom 154 = .ok (.getfield 52, 3) := by decide +kernel
theorem dX3_copyFrom_157 : decode cX3_copyFrom 157 = .ok (.putfield 52, 3) := by decide +kernel
theorem dX3_copyFrom_160 : decode cX3_copyFrom 160 = .ok (.aload_n 0, 1) := by decide +kernel
theorem dX3_copyFrom_161 : decode cX3_copyFrom 161 = .ok (.aload_n 1, 1) := by decide +kernel
theorem dX3_copyFrom_162 : decode cX3_copyFrom 162 = .ok (.getfield 55, 3) := by decide +kernel
theorem dX3_copyFrom_165 : decode cX3_copyFrom 165 = .ok (.putfield 55, 3) := by decide +kernel
theorem dX3_copyFrom_168 : decode cX3_copyFrom 168 = .ok (.aload_n 0, 1) := by decide +kernel
theorem dX3_copyFrom_169 : decode cX3_copyFrom 169 = .ok (.aload_n 1, 1) := by decide +kernel
theorem dX3_copyFrom_170 : decode cX3_copyFrom 170 = .ok (.getfield 58, 3) := by decide +kernel
theorem dX3_copyFrom_173 : decode cX3_copyFrom 173 = .ok (.putfield 58, 3) := by decide +kernel
theorem dX3_copyFrom_176 : decode cX3_copyFrom 176 = .ok (.return_, 1) := by decide +kernel
theorem dX3_segmentAt_0 : decode cX3_segmentAt 0 = .ok (.iload_n 1, 1) := by decide +kernel
theorem dX3_segmentAt_1 : decode cX3_segmentAt 1 = .ok (.ifCond .lt 20, 3) := by decide +kernel
theorem dX3_segmentAt_4 : decode cX3_segmentAt 4 = .ok (.iload_n 1, 1) := by decide +kernel
theorem dX3_segmentAt_5 : decode cX3_segmentAt 5 = .ok (.aload_n 0, 1) := by decide +kernel
theorem dX3_segmentAt_6 : decode cX3_segmentAt 6 = .ok (.getfield 32, 3) := by decide +kernel
theorem dX3_segmentAt_9 : decode cX3_segmentAt 9 = .ok (.if_icmp .ge 12, 3) := by decide +kernel
theorem dX3_segmentAt_12 : decode cX3_segmentAt 12 = .ok (.iload_n 1, 1) := by decide +kernel
theorem dX3_segmentAt_13 : decode cX3_segmentAt 13 = .ok (.aload_n 0, 1) := by decide +kernel
theorem dX3_segmentAt_14 : decode cX3_segmentAt 14 = .ok (.getfield 11, 3) := by decide +kernel
theorem dX3_segmentAt_17 : decode cX3_segmentAt 17 = .ok (.arraylength, 1) := by decide +kernel
theorem dX3_segmentAt_18 : decode cX3_segmentAt 18 = .ok (.if_icmp .lt 5, 3) := by decide +kernel
theorem dX3_segmentAt_21 : decode cX3_segmentAt 21 = .ok (.aconst_null, 1) := by decide +kernel
theorem dX3_segmentAt_22 : decode cX3_segmentAt 22 = .ok (.areturn, 1) := by decide +kernel
theorem dX3_segmentAt_23 : decode cX3_segmentAt 23 = .ok (.aload_n 0, 1) := by decide +kernel
theorem dX3_segmentAt_24 : decode cX3_segmentAt 24 = .ok (.getfield 11, 3) := by decide +kernel
theorem dX3_segmentAt_27 : decode cX3_segmentAt 27 = .ok (.iload_n 1, 1) := by decide +kernel
theorem dX3_segmentAt_28 : decode cX3_segmentAt 28 = .ok (.aaload, 1) := by decide +kernel
theorem dX3_segmentAt_29 : decode cX3_segmentAt 29 = .ok (.areturn, 1) := by decide +kernel
theorem dX3_trainAt_0 : decode cX3_trainAt 0 = .ok (.iload_n 1, 1) := by decide +kernel
theorem dX3_trainAt_1 : decode cX3_trainAt 1 = .ok (.ifCond .lt 20, 3) := by decide +kernel
theorem dX3_trainAt_4 : decode cX3_trainAt 4 = .ok (.iload_n 1, 1) := by decide +kernel
theorem dX3_trainAt_5 : decode cX3_trainAt 5 = .ok (.aload_n 0, 1) := by decide +kernel
theorem dX3_trainAt_6 : decode cX3_trainAt 6 = .ok (.getfield 40, 3) := by decide +kernel
theorem dX3_trainAt_9 : decode cX3_trainAt 9 = .ok (.if_icmp .ge 12, 3) := by decide +kernel
theorem dX3_trainAt_12 : decode cX3_trainAt 12 = .ok (.iload_n 1, 1) := by decide +kernel
theorem dX3_trainAt_13 : decode cX3_trainAt 13 = .ok (.aload_n 0, 1) := by decide +kernel
theorem dX3_trainAt_14 : decode cX3_trainAt 14 = .ok (.getfield 20, 3) := by decide +kernel
theorem dX3_trainAt_17 : decode cX3_trainAt 17 = .ok (.arraylength, 1) := by decide +kernel
theorem dX3_trainAt_18 : decode cX3_trainAt 18 = .ok (.if_icmp .lt 5, 3) := by decide +kernel
theorem dX3_trainAt_21 : decode cX3_trainAt 21 = .ok (.aconst_null, 1) := by decide +kernel
theorem dX3_trainAt_22 : decode cX3_trainAt 22 = .ok (.areturn, 1) := by decide +kernel
theorem dX3_trainAt_23 : decode cX3_trainAt 23 = .ok (.aload_n 0, 1) := by decide +kernel
theorem dX3_trainAt_24 : decode cX3_trainAt 24 = .ok (.getfield 20, 3) := by decide +kernel
theorem dX3_trainAt_27 : decode cX3_trainAt 27 = .ok (.iload_n 1, 1) := by decide +kernel
theorem dX3_trainAt_28 : decode cX3_trainAt 28 = .ok (.aaload, 1) := by decide +kernel
theorem dX3_trainAt_29 : decode cX3_trainAt 29 = .ok (.areturn, 1) := by decide +kernel
theorem dX3_beginTrack_0 : decode cX3_beginTrack 0 = .ok (.aload_n 0, 1) := by decide +kernel
theorem dX3_beginTrack_1 : decode cX3_beginTrack 1 = .ok (.iconst 0, 1) := by decide +kernel
theorem dX3_beginTrack_2 : decode cX3_beginTrack 2 = .ok (.putfield 32, 3) := by decide +kernel
theorem dX3_beginTrack_5 : decode cX3_beginTrack 5 = .ok (.return_, 1) := by decide +kernel
theorem dX3_appendSegment_0 : decode cX3_appendSegment 0 = .ok (.aload_n 0, 1) := by decide +kernel
theorem dX3_appendSegment_1 : decode cX3_appendSegment 1 = .ok (.dup, 1) := by decide +kernel
theorem dX3_appendSegment_2 : decode cX3_appendSegment 2 = .ok (.getfield 32, 3) := by decide +kernel
theorem dX3_appendSegment_5 : decode cX3_appendSegment 5 = .ok (.iconst 1, 1) := by decide +kernel
theorem dX3_appendSegment_6 : decode cX3_appendSegment 6 = .ok (.iadd, 1) := by decide +kernel
theorem dX3_appendSegment_7 : decode cX3_appendSegment 7 = .ok (.putfield 32, 3) := by decide +kernel
theorem dX3_appendSegment_10 : decode cX3_appendSegment 10 = .ok (.aload_n 0, 1) := by decide +kernel
theorem dX3_appendSegment_11 : decode cX3_appendSegment 11 = .ok (.aload_n 0, 1) := by decide +kernel
theorem dX3_appendSegment_12 : decode cX3_appendSegment 12 = .ok (.getfield 32, 3) := by decide +kernel
theorem dX3_appendSegment_15 : decode cX3_appendSegment 15 = .ok (.iconst 1, 1) := by decide +kernel
theorem dX3_appendSegment_16 : decode cX3_appendSegment 16 = .ok (.isub, 1) := by decide +kernel
theorem dX3_appendSegment_17 : decode cX3_appendSegment 17 = .ok (.invokevirtual 61, 3) := by decide +kernel
theorem dX3_appendSegment_20 : decode cX3_appendSegment 20 = .ok (.astore_n 2, 1) := by decide +kernel
theorem dX3_appendSegment_21 : decode cX3_appendSegment 21 = .ok (.aload_n 2, 1) := by decide +kernel
theorem dX3_appendSegment_22 : decode cX3_appendSegment 22 = .ok (.ifnull 8, 3) := by decide +kernel
theorem dX3_appendSegment_25 : decode cX3_appendSegment 25 = .ok (.aload_n 2, 1) := by decide +kernel
theorem dX3_appendSegment_26 : decode cX3_appendSegment 26 = .ok (.iload_n 1, 1) := by decide +kernel
theorem dX3_appendSegment_27 : decode cX3_appendSegment 27 = .ok (.invokevirtual 65, 3) := by decide +kernel
theorem dX3_appendSegment_30 : decode cX3_appendSegment 30 = .ok (.return_, 1) := by decide +kernel
theorem dX3_widenLatestSegment_0 : decode cX3_widenLatestSegment 0 = .ok (.aload_n 0, 1) := by decide +kernel
theorem dX3_widenLatestSegment_1 : decode cX3_widenLatestSegment 1 = .ok (.aload_n 0, 1) := by decide +kernel
theorem dX3_widenLatestSegment_2 : decode cX3_widenLatestSegment 2 = .ok (.getfield 32, 3) := by decide +kernel
theorem dX3_widenLatestSegment_5 : decode cX3_widenLatestSegment 5 = .ok (.iconst 1, 1) := by decide +kernel
theorem dX3_widenLatestSegment_6 : decode cX3_widenLatestSegment 6 = .ok (.isub, 1) := by decide +kernel
theorem dX3_widenLatestSegment_7 : decode cX3_widenLatestSegment 7 = .ok (.invokevirtual 61, 3) := by decide +kernel
theorem dX3_widenLatestSegment_10 : decode cX3_widenLatestSegment 10 = .ok (.astore_n 1, 1) := by decide +kernel
theorem dX3_widenLatestSegment_11 : decode cX3_widenLatestSegment 11 = .ok (.aload_n 1, 1) := by decide +kernel
theorem dX3_widenLatestSegment_12 : decode cX3_widenLatestSegment 12 = .ok (.ifnull 8, 3) := by decide +kernel
theorem dX3_widenLatestSegment_15 : decode cX3_widenLatestSegment 15 = .ok (.aload_n 1, 1) := by decide +kernel
theorem dX3_widenLatestSegment_16 : decode cX3_widenLatestSegment 16 = .ok (.iconst 2, 1) := by decide +kernel
theorem dX3_widenLatestSegment_17 : decode cX3_widenLatestSegment 17 = .ok (.putfield 69, 3) := by decide +kernel
theorem dX3_widenLatestSegment_20 : decode cX3_widenLatestSegment 20 = .ok (.return_, 1) := by decide +kernel
theorem dX3_endTrack_0 : decode cX3_endTrack 0 = .ok (.aload_n 0, 1) := by decide +kernel
theorem dX3_endTrack_1 : decode cX3_endTrack 1 = .ok (.iconst 0, 1) := by decide +kernel
theorem dX3_endTrack_2 : decode cX3_endTrack 2 = .ok (.invokevirtual 61, 3) := by decide +kernel
theorem dX3_endTrack_5 : decode cX3_endTrack 5 = .ok (.astore_n 1, 1) := by decide +kernel
theorem dX3_endTrack_6 : decode cX3_endTrack 6 = .ok (.aload_n 0, 1) := by decide +kernel
theorem dX3_endTrack_7 : decode cX3_endTrack 7 = .ok (.aload_n 0, 1) := by decide +kernel
theorem dX3_endTrack_8 : decode cX3_endTrack 8 = .ok (.getfield 32, 3) := by decide +kernel
theorem dX3_endTrack_11 : decode cX3_endTrack 11 = .ok (.iconst 1, 1) := by decide +kernel
theorem dX3_endTrack_12 : decode cX3_endTrack 12 = .ok (.isub, 1) := by decide +kernel
theorem dX3_endTrack_13 : decode cX3_endTrack 13 = .ok (.invokevirtual 61, 3) := by decide +kernel
theorem dX3_endTrack_16 : decode cX3_endTrack 16 = .ok (.astore_n 2, 1) := by decide +kernel
theorem dX3_endTrack_17 : decode cX3_endTrack 17 = .ok (.aload_n 1, 1) := by decide +kernel
theorem dX3_endTrack_18 : decode cX3_endTrack 18 = .ok (.ifnull 17, 3) := by decide +kernel
theorem dX3_endTrack_21 : decode cX3_endTrack 21 = .ok (.aload_n 2, 1) := by decide +kernel
theorem dX3_endTrack_22 : decode cX3_endTrack 22 = .ok (.ifnull 13, 3) := by decide +kernel
theorem dX3_endTrack_25 : decode cX3_endTrack 25 = .ok (.aload_n 1, 1) := by decide +kernel
theorem dX3_endTrack_26 : decode cX3_endTrack 26 = .ok (.iconst 4, 1) := by decide +kernel
theorem dX3_endTrack_27 : decode cX3_endTrack 27 = .ok (.putfield 69, 3) := by decide +kernel
theorem dX3_endTrack_30 : decode cX3_endTrack 30 = .ok (.aload_n 2, 1) := by decide +kernel
theorem dX3_endTrack_31 : decode cX3_endTrack 31 = .ok (.iconst 4, 1) := by decide +kernel
theorem dX3_endTrack_32 : decode cX3_endTrack 32 = .ok (.putfield 69, 3) := by decide +kernel
theorem dX3_endTrack_35 : decode cX3_endTrack 35 = .ok (.iconst 0, 1) := by decide +kernel
theorem dX3_endTrack_36 : decode cX3_endTrack 36 = .ok (.istore_n 3, 1) := by decide +kernel
theorem dX3_endTrack_37 : decode cX3_endTrack 37 = .ok (.iconst 0, 1) := by decide +kernel
theorem dX3_endTrack_38 : decode cX3_endTrack 38 = .ok (.istore 4, 2) := by decide +kernel
theorem dX3_endTrack_40 : decode cX3_endTrack 40 = .ok (.iload 4, 2) := by decide +kernel
theorem dX3_endTrack_42 : decode cX3_endTrack 42 = .ok (.bipush 12, 2) := by decide +kernel
theorem dX3_endTrack_44 : decode cX3_endTrack 44 = .ok (.if_icmp .ge 43, 3) := by decide +kernel
theorem dX3_endTrack_47 : decode cX3_endTrack 47 = .ok (.aload_n 0, 1) := by decide +kernel
theorem dX3_endTrack_48 : decode cX3_endTrack 48 = .ok (.iload 4, 2) := by decide +kernel
theorem dX3_endTrack_50 : decode cX3_endTrack 50 = .ok (.invokevirtual 61, 3) := by decide +kernel
theorem dX3_endTrack_53 : decode cX3_endTrack 53 = .ok (.astore 5, 2) := by decide +kernel
theorem dX3_endTrack_55 : decode cX3_endTrack 55 = .ok (.aload 5, 2) := by decide +kernel
theorem dX3_endTrack_57 : decode cX3_endTrack 57 = .ok (.ifnull 24, 3) := by decide +kernel
theorem dX3_endTrack_60 : decode cX3_endTrack 60 = .ok (.aload 5, 2) := by decide +kernel
theorem dX3_endTrack_62 : decode cX3_endTrack 62 = .ok (.iload_n 3, 1) := by decide +kernel
theorem dX3_endTrack_63 : decode cX3_endTrack 63 = .ok (.putfield 72, 3) := by decide +kernel
theorem dX3_endTrack_66 : decode cX3_endTrack 66 = .ok (.aload 5, 2) := by decide +kernel
theorem dX3_endTrack_68 : decode cX3_endTrack 68 = .ok (.invokevirtual 75, 3) := by decide +kernel
theorem dX3_endTrack_71 : decode cX3_endTrack 71 = .ok (.ifCond .eq 8, 3) := by decide +kernel
theorem dX3_endTrack_74 : decode cX3_endTrack 74 = .ok (.iload 4, 2) := by decide +kernel
theorem dX3_endTrack_76 : decode cX3_endTrack 76 = .ok (.goto 4, 3) := by decide +kernel
theorem dX3_endTrack_79 : decode cX3_endTrack 79 = .ok (.iload_n 3, 1) := by decide +kernel
theorem dX3_endTrack_80 : decode cX3_endTrack 80 = .ok (.istore_n 3, 1) := by decide +kernel
theorem dX3_endTrack_81 : decode cX3_endTrack 81 = .ok (.iinc 4 1, 3) := by decide +kernel
theorem dX3_endTrack_84 : decode cX3_endTrack 84 = .ok (.goto (-44), 3) := by decide +kernel
theorem dX3_endTrack_87 : decode cX3_endTrack 87 = .ok (.bipush 11, 2) := by decide +kernel
theorem dX3_endTrack_89 : decode cX3_endTrack 89 = .ok (.istore 4, 2) := by decide +kernel
theorem dX3_endTrack_91 : decode cX3_endTrack 91 = .ok (.iload 4, 2) := by decide +kernel
theorem dX3_endTrack_93 : decode cX3_endTrack 93 = .ok (.ifCond .lt 43, 3) := by decide +kernel
theorem dX3_endTrack_96 : decode cX3_endTrack 96 = .ok (.aload_n 0, 1) := by decide +kernel
theorem dX3_endTrack_97 : decode cX3_endTrack 97 = .ok (.iload 4, 2) := by decide +kernel
theorem dX3_endTrack_99 : decode cX3_endTrack 99 = .ok (.invokevirtual 61, 3) := by decide +kernel
theorem dX3_endTrack_102 : decode cX3_endTrack 102 = .ok (.astore 5, 2) := by decide +kernel
theorem dX3_endTrack_104 : decode cX3_endTrack 104 = .ok (.aload 5, 2) := by decide +kernel
theorem dX3_endTrack_106 : decode cX3_endTrack 106 = .ok (.ifnull 24, 3) := by decide +kernel
theorem dX3_endTrack_109 : decode cX3_endTrack 109 = .ok (.aload 5, 2) := by decide +kernel
theorem dX3_endTrack_111 : decode cX3_endTrack 111 = .ok (.iload_n 3, 1) := by decide +kernel
theorem dX3_endTrack_112 : decode cX3_endTrack 112 = .ok (.putfield 79, 3) := by decide +kernel
theorem dX3_endTrack_115 : decode cX3_endTrack 115 = .ok (.aload 5, 2) := by decide +kernel
theorem dX3_endTrack_117 : decode cX3_endTrack 117 = .ok (.invokevirtual 75, 3) := by decide +kernel
theorem dX3_endTrack_120 : decode cX3_endTrack 120 = .ok (.ifCond .eq 8, 3) := by decide +kernel
theorem dX3_endTrack_123 : decode cX3_endTrack 123 = .ok (.iload 4, 2) := by decide +kernel
theorem dX3_endTrack_125 : decode cX3_endTrack 125 = .ok (.goto 4, 3) := by decide +kernel
theorem dX3_endTrack_128 : decode cX3_endTrack 128 = .ok (.iload_n 3, 1) := by decide +kernel
theorem dX3_endTrack_129 : decode cX3_endTrack 129 = .ok (.istore_n 3, 1) := by decide +kernel
theorem dX3_endTrack_130 : decode cX3_endTrack 130 = .ok (.iinc 4 (-1), 3) := by decide +kernel
theorem dX3_endTrack_133 : decode cX3_endTrack 133 = .ok (.goto (-42), 3) := by decide +kernel
theorem dX3_endTrack_136 : decode cX3_endTrack 136 = .ok (.return_, 1) := by decide +kernel
theorem dX3_bringTrain_0 : decode cX3_bringTrain 0 = .ok (.aload_n 0, 1) := by decide +kernel
theorem dX3_bringTrain_1 : decode cX3_bringTrain 1 = .ok (.dup, 1) := by decide +kernel
theorem dX3_bringTrain_2 : decode cX3_bringTrain 2 = .ok (.getfield 40, 3) := by decide +kernel
theorem dX3_bringTrain_5 : decode cX3_bringTrain 5 = .ok (.iconst 1, 1) := by decide +kernel
theorem dX3_bringTrain_6 : decode cX3_bringTrain 6 = .ok (.iadd, 1) := by decide +kernel
theorem dX3_bringTrain_7 : decode cX3_bringTrain 7 = .ok (.putfield 40, 3) := by decide +kernel
theorem dX3_bringTrain_10 : decode cX3_bringTrain 10 = .ok (.aload_n 0, 1) := by decide +kernel
theorem dX3_bringTrain_11 : decode cX3_bringTrain 11 = .ok (.aload_n 0, 1) := by decide +kernel
theorem dX3_bringTrain_12 : decode cX3_bringTrain 12 = .ok (.getfield 40, 3) := by decide +kernel
theorem dX3_bringTrain_15 : decode cX3_bringTrain 15 = .ok (.iconst 1, 1) := by decide +kernel
theorem dX3_bringTrain_16 : decode cX3_bringTrain 16 = .ok (.isub, 1) := by decide +kernel
theorem dX3_bringTrain_17 : decode cX3_bringTrain 17 = .ok (.invokevirtual 82, 3) := by decide +kernel
theorem dX3_bringTrain_20 : decode cX3_bringTrain 20 = .ok (.astore_n 3, 1) := by decide +kernel
theorem dX3_bringTrain_21 : decode cX3_bringTrain 21 = .ok (.aload_n 3, 1) := by decide +kernel
theorem dX3_bringTrain_22 : decode cX3_bringTrain 22 = .ok (.ifnull 9, 3) := by decide +kernel
theorem dX3_bringTrain_25 : decode cX3_bringTrain 25 = .ok (.aload_n 3, 1) := by decide +kernel
theorem dX3_bringTrain_26 : decode cX3_bringTrain 26 = .ok (.iload_n 1, 1) := by decide +kernel
theorem dX3_bringTrain_27 : decode cX3_bringTrain 27 = .ok (.iload_n 2, 1) := by decide +kernel
theorem dX3_bringTrain_28 : decode cX3_bringTrain 28 = .ok (.invokevirtual 86, 3) := by decide +kernel
theorem dX3_bringTrain_31 : decode cX3_bringTrain 31 = .ok (.aload_n 0, 1) := by decide +kernel
theorem dX3_bringTrain_32 : decode cX3_bringTrain 32 = .ok (.getfield 40, 3) := by decide +kernel
theorem dX3_bringTrain_35 : decode cX3_bringTrain 35 = .ok (.iconst 1, 1) := by decide +kernel
theorem dX3_bringTrain_36 : decode cX3_bringTrain 36 = .ok (.isub, 1) := by decide +kernel
theorem dX3_bringTrain_37 : decode cX3_bringTrain 37 = .ok (.ireturn, 1) := by decide +kernel
theorem dX3_loseTrain_0 : decode cX3_loseTrain 0 = .ok (.aload_n 0, 1) := by decide +kernel
theorem dX3_loseTrain_1 : decode cX3_loseTrain 1 = .ok (.iload_n 1, 1) := by decide +kernel
theorem dX3_loseTrain_2 : decode cX3_loseTrain 2 = .ok (.invokevirtual 82, 3) := by decide +kernel
theorem dX3_loseTrain_5 : decode cX3_loseTrain 5 = .ok (.astore_n 2, 1) := by decide +kernel
theorem dX3_loseTrain_6 : decode cX3_loseTrain 6 = .ok (.aload_n 2, 1) := by decide +kernel
theorem dX3_loseTrain_7 : decode cX3_loseTrain 7 = .ok (.ifnonnull 4, 3) := by decide +kernel
theorem dX3_loseTrain_10 : decode cX3_loseTrain 10 = .ok (.return_, 1) := by decide +kernel
theorem dX3_loseTrain_11 : decode cX3_loseTrain 11 = .ok (.aload_n 0, 1) := by decide +kernel
theorem dX3_loseTrain_12 : decode cX3_loseTrain 12 = .ok (.dup, 1) := by decide +kernel
theorem dX3_loseTrain_13 : decode cX3_loseTrain 13 = .ok (.getfield 55, 3) := by decide +kernel
theorem dX3_loseTrain_16 : decode cX3_loseTrain 16 = .ok (.aload_n 2, 1) := by decide +kernel
theorem dX3_loseTrain_17 : decode cX3_loseTrain 17 = .ok (.getfield 90, 3) := by decide +kernel
theorem dX3_loseTrain_20 : decode cX3_loseTrain 20 = .ok (.iadd, 1) := by decide +kernel
theorem dX3_loseTrain_21 : decode cX3_loseTrain 21 = .ok (.putfield 55, 3) := by decide +kernel
theorem dX3_loseTrain_24 : decode cX3_loseTrain 24 = .ok (.iload_n 1, 1) := by decide +kernel
theorem dX3_loseTrain_25 : decode cX3_loseTrain 25 = .ok (.istore_n 3, 1) := by decide +kernel
theorem dX3_loseTrain_26 : decode cX3_loseTrain 26 = .ok (.iload_n 3, 1) := by decide +kernel
theorem dX3_loseTrain_27 : decode cX3_loseTrain 27 = .ok (.iconst 4, 1) := by decide +kernel
theorem dX3_loseTrain_28 : decode cX3_loseTrain 28 = .ok (.if_icmp .ge 42, 3) := by decide +kernel
theorem dX3_loseTrain_31 : decode cX3_loseTrain 31 = .ok (.aload_n 0, 1) := by decide +kernel
theorem dX3_loseTrain_32 : decode cX3_loseTrain 32 = .ok (.iload_n 3, 1) := by decide +kernel
theorem dX3_loseTrain_33 : decode cX3_loseTrain 33 = .ok (.invokevirtual 82, 3) := by decide +kernel
theorem dX3_loseTrain_36 : decode cX3_loseTrain 36 = .ok (.astore 4, 2) := by decide +kernel
theorem dX3_loseTrain_38 : decode cX3_loseTrain 38 = .ok (.aload_n 0, 1) := by decide +kernel
theorem dX3_loseTrain_39 : decode cX3_loseTrain 39 = .ok (.iload_n 3, 1) := by decide +kernel
theorem dX3_loseTrain_40 : decode cX3_loseTrain 40 = .ok (.iconst 1, 1) := by decide +kernel
theorem dX3_loseTrain_41 : decode cX3_loseTrain 41 = .ok (.iadd, 1) := by decide +kernel
theorem dX3_loseTrain_42 : decode cX3_loseTrain 42 = .ok (.invokevirtual 82, 3) := by decide +kernel
theorem dX3_loseTrain_45 : decode cX3_loseTrain 45 = .ok (.astore 5, 2) := by decide +kernel
theorem dX3_loseTrain_47 : decode cX3_loseTrain 47 = .ok (.aload 4, 2) := by decide +kernel
theorem dX3_loseTrain_49 : decode cX3_loseTrain 49 = .ok (.ifnull 15, 3) := by decide +kernel
theorem dX3_loseTrain_52 : decode cX3_loseTrain 52 = .ok (.aload 5, 2) := by decide +kernel
theorem dX3_loseTrain_54 : decode cX3_loseTrain 54 = .ok (.ifnull 10, 3) := by decide +kernel
theorem dX3_loseTrain_57 : decode cX3_loseTrain 57 = .ok (.aload 4, 2) := by decide +kernel
theorem dX3_loseTrain_59 : decode cX3_loseTrain 59 = .ok (.aload 5, 2) := by decide +kernel
theorem dX3_loseTrain_61 : decode cX3_loseTrain 61 = .ok (.invokevirtual 43, 3) := by decide +kernel
theorem dX3_loseTrain_64 : decode cX3_loseTrain 64 = .ok (.iinc 3 1, 3) := by decide +kernel
theorem dX3_loseTrain_67 : decode cX3_loseTrain 67 = .ok (.goto (-41), 3) := by decide +kernel
theorem dX3_loseTrain_70 : decode cX3_loseTrain 70 = .ok (.aload_n 0, 1) := by decide +kernel
theorem dX3_loseTrain_71 : decode cX3_loseTrain 71 = .ok (.dup, 1) := by decide +kernel
theorem dX3_loseTrain_72 : decode cX3_loseTrain 72 = .ok (.getfield 40, 3) := by decide +kernel
theorem dX3_loseTrain_75 : decode cX3_loseTrain 75 = .ok (.iconst 1, 1) := by decide +kernel
theorem dX3_loseTrain_76 : decode cX3_loseTrain 76 = .ok (.isub, 1) := by decide +kernel
theorem dX3_loseTrain_77 : decode cX3_loseTrain 77 = .ok (.putfield 40, 3) := by decide +kernel
theorem dX3_loseTrain_80 : decode cX3_loseTrain 80 = .ok (.return_, 1) := by decide +kernel
theorem dX3_loseAllTrains_0 : decode cX3_loseAllTrains 0 = .ok (.aload_n 0, 1) := by decide +kernel
theorem dX3_loseAllTrains_1 : decode cX3_loseAllTrains 1 = .ok (.dup, 1) := by decide +kernel
theorem dX3_loseAllTrains_2 : decode cX3_loseAllTrains 2 = .ok (.getfield 55, 3) := by decide +kernel
theorem dX3_loseAllTrains_5 : decode cX3_loseAllTrains 5 = .ok (.aload_n 0, 1) := by decide +kernel
theorem dX3_loseAllTrains_6 : decode cX3_loseAllTrains 6 = .ok (.invokevirtual 93, 3) := by decide +kernel
theorem dX3_loseAllTrains_9 : decode cX3_loseAllTrains 9 = .ok (.iadd, 1) := by decide +kernel
theorem dX3_loseAllTrains_10 : decode cX3_loseAllTrains 10 = .ok (.putfield 55, 3) := by decide +kernel
theorem dX3_loseAllTrains_13 : decode cX3_loseAllTrains 13 = .ok (.aload_n 0, 1) := by decide +kernel
theorem dX3_loseAllTrains_14 : decode cX3_loseAllTrains 14 = .ok (.iconst 0, 1) := by decide +kernel
theorem dX3_loseAllTrains_15 : decode cX3_loseAllTrains 15 = .ok (.putfield 40, 3) := by decide +kernel
theorem dX3_loseAllTrains_18 : decode cX3_loseAllTrains 18 = .ok (.return_, 1) := by decide +kernel
theorem dX3_pass_0 : decode cX3_pass 0 = .ok (.aload_n 0, 1) := by decide +kernel
theorem dX3_pass_1 : decode cX3_pass 1 = .ok (.getfield 52, 3) := by decide +kernel
theorem dX3_pass_4 : decode cX3_pass 4 = .ok (.istore_n 2, 1) := by decide +kernel
theorem dX3_pass_5 : decode cX3_pass 5 = .ok (.aload_n 0, 1) := by decide +kernel
theorem dX3_pass_6 : decode cX3_pass 6 = .ok (.iconst 0, 1) := by decide +kernel
theorem dX3_pass_7 : decode cX3_pass 7 = .ok (.putfield 97, 3) := by decide +kernel
theorem dX3_pass_10 : decode cX3_pass 10 = .ok (.iconst 0, 1) := by decide +kernel
theorem dX3_pass_11 : decode cX3_pass 11 = .ok (.istore_n 3, 1) := by decide +kernel
theorem dX3_pass_12 : decode cX3_pass 12 = .ok (.iload_n 3, 1) := by decide +kernel
theorem dX3_pass_13 : decode cX3_pass 13 = .ok (.iload_n 1, 1) := by decide +kernel
theorem dX3_pass_14 : decode cX3_pass 14 = .ok (.if_icmp .ge 13, 3) := by decide +kernel
theorem dX3_pass_17 : decode cX3_pass 17 = .ok (.aload_n 0, 1) := by decide +kernel
theorem dX3_pass_18 : decode cX3_pass 18 = .ok (.invokevirtual 100, 3) := by decide +kernel
theorem dX3_pass_21 : decode cX3_pass 21 = .ok (.iinc 3 1, 3) := by decide +kernel
theorem dX3_pass_24 : decode cX3_pass 24 = .ok (.goto (-12), 3) := by decide +kernel
theorem dX3_pass_27 : decode cX3_pass 27 = .ok (.aload_n 0, 1) := by decide +kernel
theorem dX3_pass_28 : decode cX3_pass 28 = .ok (.getfield 52, 3) := by decide +kernel
theorem dX3_pass_31 : decode cX3_pass 31 = .ok (.iload_n 2, 1) := by decide +kernel
theorem dX3_pass_32 : decode cX3_pass 32 = .ok (.isub, 1) := by decide +kernel
theorem dX3_pass_33 : decode cX3_pass 33 = .ok (.ireturn, 1) := by decide +kernel
theorem dX3_tick_0 : decode cX3_tick 0 = .ok (.iconst 0, 1) := by decide +kernel
theorem dX3_tick_1 : decode cX3_tick 1 = .ok (.istore_n 1, 1) := by decide +kernel
theorem dX3_tick_2 : decode cX3_tick 2 = .ok (.iload_n 1, 1) := by decide +kernel
theorem dX3_tick_3 : decode cX3_tick 3 = .ok (.iconst 4, 1) := by decide +kernel
theorem dX3_tick_4 : decode cX3_tick 4 = .ok (.if_icmp .ge 28, 3) := by decide +kernel
theorem dX3_tick_7 : decode cX3_tick 7 = .ok (.aload_n 0, 1) := by decide +kernel
theorem dX3_tick_8 : decode cX3_tick 8 = .ok (.iload_n 1, 1) := by decide +kernel
theorem dX3_tick_9 : decode cX3_tick 9 = .ok (.invokevirtual 82, 3) := by decide +kernel
theorem dX3_tick_12 : decode cX3_tick 12 = .ok (.astore_n 2, 1) := by decide +kernel
theorem dX3_tick_13 : decode cX3_tick 13 = .ok (.aload_n 2, 1) := by decide +kernel
theorem dX3_tick_14 : decode cX3_tick 14 = .ok (.ifnull 12, 3) := by decide +kernel
theorem dX3_tick_17 : decode cX3_tick 17 = .ok (.aload_n 2, 1) := by decide +kernel
theorem dX3_tick_18 : decode cX3_tick 18 = .ok (.aload_n 0, 1) := by decide +kernel
theorem dX3_tick_19 : decode cX3_tick 19 = .ok (.aload_n 2, 1) := by decide +kernel
theorem dX3_tick_20 : decode cX3_tick 20 = .ok (.invokevirtual 103, 3) := by decide +kernel
theorem dX3_tick_23 : decode cX3_tick 23 = .ok (.putfield 107, 3) := by decide +kernel
theorem dX3_tick_26 : decode cX3_tick 26 = .ok (.iinc 1 1, 3) := by decide +kernel
theorem dX3_tick_29 : decode cX3_tick 29 = .ok (.goto (-27), 3) := by decide +kernel
theorem dX3_tick_32 : decode cX3_tick 32 = .ok (.iconst 0, 1) := by decide +kernel
theorem dX3_tick_33 : decode cX3_tick 33 = .ok (.istore_n 1, 1) := by decide +kernel
theorem dX3_tick_34 : decode cX3_tick 34 = .ok (.iload_n 1, 1) := by decide +kernel
theorem dX3_tick_35 : decode cX3_tick 35 = .ok (.iconst 2, 1) := by decide +kernel
theorem dX3_tick_36 : decode cX3_tick 36 = .ok (.if_icmp .ge 53, 3) := by decide +kernel
theorem dX3_tick_39 : decode cX3_tick 39 = .ok (.iconst 0, 1) := by decide +kernel
theorem dX3_tick_40 : decode cX3_tick 40 = .ok (.istore_n 2, 1) := by decide +kernel
theorem dX3_tick_41 : decode cX3_tick 41 = .ok (.iload_n 2, 1) := by decide +kernel
theorem dX3_tick_42 : decode cX3_tick 42 = .ok (.iconst 4, 1) := by decide +kernel
theorem dX3_tick_43 : decode cX3_tick 43 = .ok (.if_icmp .ge 40, 3) := by decide +kernel
theorem dX3_tick_46 : decode cX3_tick 46 = .ok (.aload_n 0, 1) := by decide +kernel
theorem dX3_tick_47 : decode cX3_tick 47 = .ok (.iload_n 2, 1) := by decide +kernel
theorem dX3_tick_48 : decode cX3_tick 48 = .ok (.invokevirtual 82, 3) := by decide +kernel
theorem dX3_tick_51 : decode cX3_tick 51 = .ok (.astore_n 3, 1) := by decide +kernel
theorem dX3_tick_52 : decode cX3_tick 52 = .ok (.aload_n 3, 1) := by decide +kernel
theorem dX3_tick_53 : decode cX3_tick 53 = .ok (.ifnull 24, 3) := by decide +kernel
theorem dX3_tick_56 : decode cX3_tick 56 = .ok (.aload_n 3, 1) := by decide +kernel
theorem dX3_tick_57 : decode cX3_tick 57 = .ok (.getfield 107, 3) := by decide +kernel
theorem dX3_tick_60 : decode cX3_tick 60 = .ok (.iload_n 1, 1) := by decide +kernel
theorem dX3_tick_61 : decode cX3_tick 61 = .ok (.ifCond .ne 7, 3) := by decide +kernel
theorem dX3_tick_64 : decode cX3_tick 64 = .ok (.iconst 1, 1) := by decide +kernel
theorem dX3_tick_65 : decode cX3_tick 65 = .ok (.goto 4, 3) := by decide +kernel
theorem dX3_tick_68 : decode cX3_tick 68 = .ok (.iconst 0, 1) := by decide +kernel
theorem dX3_tick_69 : decode cX3_tick 69 = .ok (.if_icmp .ne 8, 3) := by decide +kernel
theorem dX3_tick_72 : decode cX3_tick 72 = .ok (.aload_n 0, 1) := by decide +kernel
theorem dX3_tick_73 : decode cX3_tick 73 = .ok (.aload_n 3, 1) := by decide +kernel
theorem dX3_tick_74 : decode cX3_tick 74 = .ok (.invokevirtual 111, 3) := by decide +kernel
theorem dX3_tick_77 : decode cX3_tick 77 = .ok (.iinc 2 1, 3) := by decide +kernel
theorem dX3_tick_80 : decode cX3_tick 80 = .ok (.goto (-39), 3) := by decide +kernel
theorem dX3_tick_83 : decode cX3_tick 83 = .ok (.iinc 1 1, 3) := by decide +kernel
theorem dX3_tick_86 : decode cX3_tick 86 = .ok (.goto (-52), 3) := by decide +kernel
theorem dX3_tick_89 : decode cX3_tick 89 = .ok (.aload_n 0, 1) := by decide +kernel
theorem dX3_tick_90 : decode cX3_tick 90 = .ok (.invokevirtual 114, 3) := by decide +kernel
theorem dX3_tick_93 : decode cX3_tick 93 = .ok (.aload_n 0, 1) := by decide +kernel
theorem dX3_tick_94 : decode cX3_tick 94 = .ok (.dup, 1) := by decide +kernel
theorem dX3_tick_95 : decode cX3_tick 95 = .ok (.getfield 58, 3) := by decide +kernel
theorem dX3_tick_98 : decode cX3_tick 98 = .ok (.iconst 1, 1) := by decide +kernel
theorem dX3_tick_99 : decode cX3_tick 99 = .ok (.iadd, 1) := by decide +kernel
theorem dX3_tick_100 : decode cX3_tick 100 = .ok (.putfield 58, 3) := by decide +kernel
theorem dX3_tick_103 : decode cX3_tick 103 = .ok (.return_, 1) := by decide +kernel
theorem dX3_goesFirst_0 : decode cX3_goesFirst 0 = .ok (.aload_n 0, 1) := by decide +kernel
theorem dX3_goesFirst_1 : decode cX3_goesFirst 1 = .ok (.getfield 25, 3) := by decide +kernel
theorem dX3_goesFirst_4 : decode cX3_goesFirst 4 = .ok (.iconst 2, 1) := by decide +kernel
theorem dX3_goesFirst_5 : decode cX3_goesFirst 5 = .ok (.iaload, 1) := by decide +kernel
theorem dX3_goesFirst_6 : decode cX3_goesFirst 6 = .ok (.istore_n 2, 1) := by decide +kernel
theorem dX3_goesFirst_7 : decode cX3_goesFirst 7 = .ok (.iload_n 2, 1) := by decide +kernel
theorem dX3_goesFirst_8 : decode cX3_goesFirst 8 = .ok (.iconst 2, 1) := by decide +kernel
theorem dX3_goesFirst_9 : decode cX3_goesFirst 9 = .ok (.if_icmp .eq 19, 3) := by decide +kernel
theorem dX3_goesFirst_12 : decode cX3_goesFirst 12 = .ok (.aload_n 1, 1) := by decide +kernel
theorem dX3_goesFirst_13 : decode cX3_goesFirst 13 = .ok (.getfield 117, 3) := by decide +kernel
theorem dX3_goesFirst_16 : decode cX3_goesFirst 16 = .ok (.iload_n 2, 1) := by decide +kernel
theorem dX3_goesFirst_17 : decode cX3_goesFirst 17 = .ok (.ifCond .ne 7, 3) := by decide +kernel
theorem dX3_goesFirst_20 : decode cX3_goesFirst 20 = .ok (.iconst 1, 1) := by decide +kernel
theorem dX3_goesFirst_21 : decode cX3_goesFirst 21 = .ok (.goto 4, 3) := by decide +kernel
theorem dX3_goesFirst_24 : decode cX3_goesFirst 24 = .ok (.iconst 0, 1) := by decide +kernel
theorem dX3_goesFirst_25 : decode cX3_goesFirst 25 = .ok (.if_icmp .ne 7, 3) := by decide +kernel
theorem dX3_goesFirst_28 : decode cX3_goesFirst 28 = .ok (.iconst 1, 1) := by decide +kernel
theorem dX3_goesFirst_29 : decode cX3_goesFirst 29 = .ok (.goto 4, 3) := by decide +kernel
theorem dX3_goesFirst_32 : decode cX3_goesFirst 32 = .ok (.iconst 0, 1) := by decide +kernel
theorem dX3_goesFirst_33 : decode cX3_goesFirst 33 = .ok (.ireturn, 1) := by decide +kernel
theorem dX3_takeTurn_0 : decode cX3_takeTurn 0 = .ok (.aload_n 1, 1) := by decide +kernel
theorem dX3_takeTurn_1 : decode cX3_takeTurn 1 = .ok (.getfield 120, 3) := by decide +kernel
theorem dX3_takeTurn_4 : decode cX3_takeTurn 4 = .ok (.ifCond .le 19, 3) := by decide +kernel
theorem dX3_takeTurn_7 : decode cX3_takeTurn 7 = .ok (.aload_n 1, 1) := by decide +kernel
theorem dX3_takeTurn_8 : decode cX3_takeTurn 8 = .ok (.dup, 1) := by decide +kernel
theorem dX3_takeTurn_9 : decode cX3_takeTurn 9 = .ok (.getfield 120, 3) := by decide +kernel
theorem dX3_takeTurn_12 : decode cX3_takeTurn 12 = .ok (.iconst 1, 1) := by decide +kernel
theorem dX3_takeTurn_13 : decode cX3_takeTurn 13 = .ok (.isub, 1) := by decide +kernel
theorem dX3_takeTurn_14 : decode cX3_takeTurn 14 = .ok (.putfield 120, 3) := by decide +kernel
theorem dX3_takeTurn_17 : decode cX3_takeTurn 17 = .ok (.aload_n 1, 1) := by decide +kernel
theorem dX3_takeTurn_18 : decode cX3_takeTurn 18 = .ok (.iconst 0, 1) := by decide +kernel
theorem dX3_takeTurn_19 : decode cX3_takeTurn 19 = .ok (.putfield 123, 3) := by decide +kernel
theorem dX3_takeTurn_22 : decode cX3_takeTurn 22 = .ok (.return_, 1) := by decide +kernel
theorem dX3_takeTurn_23 : decode cX3_takeTurn 23 = .ok (.aload_n 1, 1) := by decide +kernel
theorem dX3_takeTurn_24 : decode cX3_takeTurn 24 = .ok (.aload_n 0, 1) := by decide +kernel
theorem dX3_takeTurn_25 : decode cX3_takeTurn 25 = .ok (.aload_n 1, 1) := by decide +kernel
theorem dX3_takeTurn_26 : decode cX3_takeTurn 26 = .ok (.invokevirtual 126, 3) := by decide +kernel
theorem dX3_takeTurn_29 : decode cX3_takeTurn 29 = .ok (.putfield 123, 3) := by decide +kernel
theorem dX3_takeTurn_32 : decode cX3_takeTurn 32 = .ok (.aload_n 1, 1) := by decide +kernel
theorem dX3_takeTurn_33 : decode cX3_takeTurn 33 = .ok (.getfield 123, 3) := by decide +kernel
theorem dX3_takeTurn_36 : decode cX3_takeTurn 36 = .ok (.ifCond .eq 16, 3) := by decide +kernel
theorem dX3_takeTurn_39 : decode cX3_takeTurn 39 = .ok (.aload_n 1, 1) := by decide +kernel
theorem dX3_takeTurn_40 : decode cX3_takeTurn 40 = .ok (.dup, 1) := by decide +kernel
theorem dX3_takeTurn_41 : decode cX3_takeTurn 41 = .ok (.getfield 130, 3) := by decide +kernel
theorem dX3_takeTurn_44 : decode cX3_takeTurn 44 = .ok (.iconst 1, 1) := by decide +kernel
theorem dX3_takeTurn_45 : decode cX3_takeTurn 45 = .ok (.iadd, 1) := by decide +kernel
theorem dX3_takeTurn_46 : decode cX3_takeTurn 46 = .ok (.putfield 130, 3) := by decide +kernel
theorem dX3_takeTurn_49 : decode cX3_takeTurn 49 = .ok (.goto 40, 3) := by decide +kernel
theorem dX3_takeTurn_52 : decode cX3_takeTurn 52 = .ok (.aload_n 0, 1) := by decide +kernel
theorem dX3_takeTurn_53 : decode cX3_takeTurn 53 = .ok (.aload_n 1, 1) := by decide +kernel
theorem dX3_takeTurn_54 : decode cX3_takeTurn 54 = .ok (.invokevirtual 133, 3) := by decide +kernel
theorem dX3_takeTurn_57 : decode cX3_takeTurn 57 = .ok (.ifCond .eq 11, 3) := by decide +kernel
theorem dX3_takeTurn_60 : decode cX3_takeTurn 60 = .ok (.aload_n 0, 1) := by decide +kernel
theorem dX3_takeTurn_61 : decode cX3_takeTurn 61 = .ok (.aload_n 1, 1) := by decide +kernel
theorem dX3_takeTurn_62 : decode cX3_takeTurn 62 = .ok (.invokevirtual 136, 3) := by decide +kernel
theorem dX3_takeTurn_65 : decode cX3_takeTurn 65 = .ok (.goto 24, 3) := by decide +kernel
theorem dX3_takeTurn_68 : decode cX3_takeTurn 68 = .ok (.aload_n 0, 1) := by decide +kernel
theorem dX3_takeTurn_69 : decode cX3_takeTurn 69 = .ok (.aload_n 1, 1) := by decide +kernel
theorem dX3_takeTurn_70 : decode cX3_takeTurn 70 = .ok (.invokevirtual 139, 3) := by decide +kernel
theorem dX3_takeTurn_73 : decode cX3_takeTurn 73 = .ok (.ifCond .eq 11, 3) := by decide +kernel
theorem dX3_takeTurn_76 : decode cX3_takeTurn 76 = .ok (.aload_n 0, 1) := by decide +kernel
theorem dX3_takeTurn_77 : decode cX3_takeTurn 77 = .ok (.aload_n 1, 1) := by decide +kernel
theorem dX3_takeTurn_78 : decode cX3_takeTurn 78 = .ok (.invokevirtual 142, 3) := by decide +kernel
theorem dX3_takeTurn_81 : decode cX3_takeTurn 81 = .ok (.goto 8, 3) := by decide +kernel
theorem dX3_takeTurn_84 : decode cX3_takeTurn 84 = .ok (.aload_n 0, 1) := by decide +kernel
theorem dX3_takeTurn_85 : decode cX3_takeTurn 85 = .ok (.aload_n 1, 1) := by decide +kernel
theorem dX3_takeTurn_86 : decode cX3_takeTurn 86 = .ok (.invokevirtual 145, 3) := by decide +kernel
theorem dX3_takeTurn_89 : decode cX3_takeTurn 89 = .ok (.return_, 1) := by decide +kernel
theorem dX3_isToUnload_0 : decode cX3_isToUnload 0 = .ok (.aload_n 1, 1) := by decide +kernel
theorem dX3_isToUnload_1 : decode cX3_isToUnload 1 = .ok (.getfield 117, 3) := by decide +kernel
theorem dX3_isToUnload_4 : decode cX3_isToUnload 4 = .ok (.ifCond .eq 20, 3) := by decide +kernel
theorem dX3_isToUnload_7 : decode cX3_isToUnload 7 = .ok (.aload_n 1, 1) := by decide +kernel
theorem dX3_isToUnload_8 : decode cX3_isToUnload 8 = .ok (.getfield 148, 3) := by decide +kernel
theorem dX3_isToUnload_11 : decode cX3_isToUnload 11 = .ok (.aload_n 0, 1) := by decide +kernel
theorem dX3_isToUnload_12 : decode cX3_isToUnload 12 = .ok (.getfield 32, 3) := by decide +kernel
theorem dX3_isToUnload_15 : decode cX3_isToUnload 15 = .ok (.iconst 1, 1) := by decide +kernel
theorem dX3_isToUnload_16 : decode cX3_isToUnload 16 = .ok (.isub, 1) := by decide +kernel
theorem dX3_isToUnload_17 : decode cX3_isToUnload 17 = .ok (.if_icmp .ne 7, 3) := by decide +kernel
theorem dX3_isToUnload_20 : decode cX3_isToUnload 20 = .ok (.iconst 1, 1) := by decide +kernel
theorem dX3_isToUnload_21 : decode cX3_isToUnload 21 = .ok (.goto 4, 3) := by decide +kernel
theorem dX3_isToUnload_24 : decode cX3_isToUnload 24 = .ok (.iconst 0, 1) := by decide +kernel
theorem dX3_isToUnload_25 : decode cX3_isToUnload 25 = .ok (.ireturn, 1) := by decide +kernel
theorem dX3_isToLoad_0 : decode cX3_isToLoad 0 = .ok (.aload_n 1, 1) := by decide +kernel
theorem dX3_isToLoad_1 : decode cX3_isToLoad 1 = .ok (.getfield 117, 3) := by decide +kernel
theorem dX3_isToLoad_4 : decode cX3_isToLoad 4 = .ok (.ifCond .ne 14, 3) := by decide +kernel
theorem dX3_isToLoad_7 : decode cX3_isToLoad 7 = .ok (.aload_n 1, 1) := by decide +kernel
theorem dX3_isToLoad_8 : decode cX3_isToLoad 8 = .ok (.getfield 148, 3) := by decide +kernel
theorem dX3_isToLoad_11 : decode cX3_isToLoad 11 = .ok (.ifCond .ne 7, 3) := by decide +kernel
theorem dX3_isToLoad_14 : decode cX3_isToLoad 14 = .ok (.iconst 1, 1) := by decide +kernel
theorem dX3_isToLoad_15 : decode cX3_isToLoad 15 = .ok (.goto 4, 3) := by decide +kernel
theorem dX3_isToLoad_18 : decode cX3_isToLoad 18 = .ok (.iconst 0, 1) := by decide +kernel
theorem dX3_isToLoad_19 : decode cX3_isToLoad 19 = .ok (.ireturn, 1) := by decide +kernel
theorem dX3_unloadTrain_0 : decode cX3_unloadTrain 0 = .ok (.aload_n 0, 1) := by decide +kernel
theorem dX3_unloadTrain_1 : decode cX3_unloadTrain 1 = .ok (.dup, 1) := by decide +kernel
theorem dX3_unloadTrain_2 : decode cX3_unloadTrain 2 = .ok (.getfield 52, 3) := by decide +kernel
theorem dX3_unloadTrain_5 : decode cX3_unloadTrain 5 = .ok (.aload_n 1, 1) := by decide +kernel
theorem dX3_unloadTrain_6 : decode cX3_unloadTrain 6 = .ok (.getfield 90, 3) := by decide +kernel
theorem dX3_unloadTrain_9 : decode cX3_unloadTrain 9 = .ok (.iadd, 1) := by decide +kernel
theorem dX3_unloadTrain_10 : decode cX3_unloadTrain 10 = .ok (.putfield 52, 3) := by decide +kernel
theorem dX3_unloadTrain_13 : decode cX3_unloadTrain 13 = .ok (.aload_n 1, 1) := by decide +kernel
theorem dX3_unloadTrain_14 : decode cX3_unloadTrain 14 = .ok (.iconst 0, 1) := by decide +kernel
theorem dX3_unloadTrain_15 : decode cX3_unloadTrain 15 = .ok (.putfield 90, 3) := by decide +kernel
theorem dX3_unloadTrain_18 : decode cX3_unloadTrain 18 = .ok (.aload_n 1, 1) := by decide +kernel
theorem dX3_unloadTrain_19 : decode cX3_unloadTrain 19 = .ok (.iconst 0, 1) := by decide +kernel
theorem dX3_unloadTrain_20 : decode cX3_unloadTrain 20 = .ok (.putfield 117, 3) := by decide +kernel
theorem dX3_unloadTrain_23 : decode cX3_unloadTrain 23 = .ok (.aload_n 1, 1) := by decide +kernel
theorem dX3_unloadTrain_24 : decode cX3_unloadTrain 24 = .ok (.aload_n 1, 1) := by decide +kernel
theorem dX3_unloadTrain_25 : decode cX3_unloadTrain 25 = .ok (.getfield 151, 3) := by decide +kernel
theorem dX3_unloadTrain_28 : decode cX3_unloadTrain 28 = .ok (.putfield 120, 3) := by decide +kernel
theorem dX3_unloadTrain_31 : decode cX3_unloadTrain 31 = .ok (.aload_n 1, 1) := by decide +kernel
theorem dX3_unloadTrain_32 : decode cX3_unloadTrain 32 = .ok (.dup, 1) := by decide +kernel
theorem dX3_unloadTrain_33 : decode cX3_unloadTrain 33 = .ok (.getfield 154, 3) := by decide +kernel
theorem dX3_unloadTrain_36 : decode cX3_unloadTrain 36 = .ok (.iconst 1, 1) := by decide +kernel
theorem dX3_unloadTrain_37 : decode cX3_unloadTrain 37 = .ok (.iadd, 1) := by decide +kernel
theorem dX3_unloadTrain_38 : decode cX3_unloadTrain 38 = .ok (.putfield 154, 3) := by decide +kernel
theorem dX3_unloadTrain_41 : decode cX3_unloadTrain 41 = .ok (.return_, 1) := by decide +kernel
theorem dX3_loadTrain_0 : decode cX3_loadTrain 0 = .ok (.aload_n 1, 1) := by decide +kernel
theorem dX3_loadTrain_1 : decode cX3_loadTrain 1 = .ok (.aload_n 1, 1) := by decide +kernel
theorem dX3_loadTrain_2 : decode cX3_loadTrain 2 = .ok (.invokevirtual 157, 3) := by decide +kernel
theorem dX3_loadTrain_5 : decode cX3_loadTrain 5 = .ok (.putfield 90, 3) := by decide +kernel
theorem dX3_loadTrain_8 : decode cX3_loadTrain 8 = .ok (.aload_n 0, 1) := by decide +kernel
theorem dX3_loadTrain_9 : decode cX3_loadTrain 9 = .ok (.dup, 1) := by decide +kernel
theorem dX3_loadTrain_10 : decode cX3_loadTrain 10 = .ok (.getfield 46, 3) := by decide +kernel
theorem dX3_loadTrain_13 : decode cX3_loadTrain 13 = .ok (.aload_n 1, 1) := by decide +kernel
theorem dX3_loadTrain_14 : decode cX3_loadTrain 14 = .ok (.getfield 90, 3) := by decide +kernel
theorem dX3_loadTrain_17 : decode cX3_loadTrain 17 = .ok (.isub, 1) := by decide +kernel
theorem dX3_loadTrain_18 : decode cX3_loadTrain 18 = .ok (.putfield 46, 3) := by decide +kernel
theorem dX3_loadTrain_21 : decode cX3_loadTrain 21 = .ok (.aload_n 1, 1) := by decide +kernel
theorem dX3_loadTrain_22 : decode cX3_loadTrain 22 = .ok (.iconst 1, 1) := by decide +kernel
theorem dX3_loadTrain_23 : decode cX3_loadTrain 23 = .ok (.putfield 117, 3) := by decide +kernel
theorem dX3_loadTrain_26 : decode cX3_loadTrain 26 = .ok (.aload_n 1, 1) := by decide +kernel
theorem dX3_loadTrain_27 : decode cX3_loadTrain 27 = .ok (.aload_n 1, 1) := by decide +kernel
theorem dX3_loadTrain_28 : decode cX3_loadTrain 28 = .ok (.getfield 151, 3) := by decide +kernel
theorem dX3_loadTrain_31 : decode cX3_loadTrain 31 = .ok (.putfield 120, 3) := by decide +kernel
theorem dX3_loadTrain_34 : decode cX3_loadTrain 34 = .ok (.return_, 1) := by decide +kernel
theorem dX3_moveTrain_0 : decode cX3_moveTrain 0 = .ok (.aload_n 0, 1) := by decide +kernel
theorem dX3_moveTrain_1 : decode cX3_moveTrain 1 = .ok (.aload_n 0, 1) := by decide +kernel
theorem dX3_moveTrain_2 : decode cX3_moveTrain 2 = .ok (.aload_n 1, 1) := by decide +kernel
theorem dX3_moveTrain_3 : decode cX3_moveTrain 3 = .ok (.invokevirtual 160, 3) := by decide +kernel
theorem dX3_moveTrain_6 : decode cX3_moveTrain 6 = .ok (.invokevirtual 61, 3) := by decide +kernel
theorem dX3_moveTrain_9 : decode cX3_moveTrain 9 = .ok (.astore_n 2, 1) := by decide +kernel
theorem dX3_moveTrain_10 : decode cX3_moveTrain 10 = .ok (.aload_n 2, 1) := by decide +kernel
theorem dX3_moveTrain_11 : decode cX3_moveTrain 11 = .ok (.ifnull 25, 3) := by decide +kernel
theorem dX3_moveTrain_14 : decode cX3_moveTrain 14 = .ok (.aload_n 1, 1) := by decide +kernel
theorem dX3_moveTrain_15 : decode cX3_moveTrain 15 = .ok (.aload_n 0, 1) := by decide +kernel
theorem dX3_moveTrain_16 : decode cX3_moveTrain 16 = .ok (.aload_n 1, 1) := by decide +kernel
theorem dX3_moveTrain_17 : decode cX3_moveTrain 17 = .ok (.invokevirtual 160, 3) := by decide +kernel
theorem dX3_moveTrain_20 : decode cX3_moveTrain 20 = .ok (.putfield 148, 3) := by decide +kernel
theorem dX3_moveTrain_23 : decode cX3_moveTrain 23 = .ok (.aload_n 1, 1) := by decide +kernel
theorem dX3_moveTrain_24 : decode cX3_moveTrain 24 = .ok (.iconst 1, 1) := by decide +kernel
theorem dX3_moveTrain_25 : decode cX3_moveTrain 25 = .ok (.aload_n 2, 1) := by decide +kernel
theorem dX3_moveTrain_26 : decode cX3_moveTrain 26 = .ok (.getfield 163, 3) := by decide +kernel
theorem dX3_moveTrain_29 : decode cX3_moveTrain 29 = .ok (.bipush 100, 2) := by decide +kernel
theorem dX3_moveTrain_31 : decode cX3_moveTrain 31 = .ok (.idiv, 1) := by decide +kernel
theorem dX3_moveTrain_32 : decode cX3_moveTrain 32 = .ok (.iadd, 1) := by decide +kernel
theorem dX3_moveTrain_33 : decode cX3_moveTrain 33 = .ok (.putfield 120, 3) := by decide +kernel
theorem dX3_moveTrain_36 : decode cX3_moveTrain 36 = .ok (.return_, 1) := by decide +kernel
theorem dX3_placeBeyond_0 : decode cX3_placeBeyond 0 = .ok (.aload_n 1, 1) := by decide +kernel
theorem dX3_placeBeyond_1 : decode cX3_placeBeyond 1 = .ok (.getfield 117, 3) := by decide +kernel
theorem dX3_placeBeyond_4 : decode cX3_placeBeyond 4 = .ok (.ifCond .eq 12, 3) := by decide +kernel
theorem dX3_placeBeyond_7 : decode cX3_placeBeyond 7 = .ok (.aload_n 1, 1) := by decide +kernel
theorem dX3_placeBeyond_8 : decode cX3_placeBeyond 8 = .ok (.getfield 148, 3) := by decide +kernel
theorem dX3_placeBeyond_11 : decode cX3_placeBeyond 11 = .ok (.iconst 1, 1) := by decide +kernel
theorem dX3_placeBeyond_12 : decode cX3_placeBeyond 12 = .ok (.iadd, 1) := by decide +kernel
theorem dX3_placeBeyond_13 : decode cX3_placeBeyond 13 = .ok (.goto 9, 3) := by decide +kernel
theorem dX3_placeBeyond_16 : decode cX3_placeBeyond 16 = .ok (.aload_n 1, 1) := by decide +kernel
theorem dX3_placeBeyond_17 : decode cX3_placeBeyond 17 = .ok (.getfield 148, 3) := by decide +kernel
theorem dX3_placeBeyond_20 : decode cX3_placeBeyond 20 = .ok (.iconst 1, 1) := by decide +kernel
theorem dX3_placeBeyond_21 : decode cX3_placeBeyond 21 = .ok (.isub, 1) := by decide +kernel
theorem dX3_placeBeyond_22 : decode cX3_placeBeyond 22 = .ok (.ireturn, 1) := by decide +kernel
theorem dX3_reasonToWait_0 : decode cX3_reasonToWait 0 = .ok (.aload_n 0, 1) := by decide +kernel
theorem dX3_reasonToWait_1 : decode cX3_reasonToWait 1 = .ok (.aload_n 1, 1) := by decide +kernel
theorem dX3_reasonToWait_2 : decode cX3_reasonToWait 2 = .ok (.invokevirtual 133, 3) := by decide +kernel
theorem dX3_reasonToWait_5 : decode cX3_reasonToWait 5 = .ok (.ifCond .eq 5, 3) := by decide +kernel
theorem dX3_reasonToWait_8 : decode cX3_reasonToWait 8 = .ok (.iconst 0, 1) := by decide +kernel
theorem dX3_reasonToWait_9 : decode cX3_reasonToWait 9 = .ok (.ireturn, 1) := by decide +kernel
theorem dX3_reasonToWait_10 : decode cX3_reasonToWait 10 = .ok (.aload_n 0, 1) := by decide +kernel
theorem dX3_reasonToWait_11 : decode cX3_reasonToWait 11 = .ok (.aload_n 1, 1) := by decide +kernel
theorem dX3_reasonToWait_12 : decode cX3_reasonToWait 12 = .ok (.invokevirtual 139, 3) := by decide +kernel
theorem dX3_reasonToWait_15 : decode cX3_reasonToWait 15 = .ok (.ifCond .eq 20, 3) := by decide +kernel
theorem dX3_reasonToWait_18 : decode cX3_reasonToWait 18 = .ok (.aload_n 0, 1) := by decide +kernel
theorem dX3_reasonToWait_19 : decode cX3_reasonToWait 19 = .ok (.getfield 46, 3) := by decide +kernel
theorem dX3_reasonToWait_22 : decode cX3_reasonToWait 22 = .ok (.aload_n 1, 1) := by decide +kernel
theorem dX3_reasonToWait_23 : decode cX3_reasonToWait 23 = .ok (.invokevirtual 157, 3) := by decide +kernel
theorem dX3_reasonToWait_26 : decode cX3_reasonToWait 26 = .ok (.if_icmp .lt 7, 3) := by decide +kernel
theorem dX3_reasonToWait_29 : decode cX3_reasonToWait 29 = .ok (.iconst 0, 1) := by decide +kernel
theorem dX3_reasonToWait_30 : decode cX3_reasonToWait 30 = .ok (.goto 4, 3) := by decide +kernel
theorem dX3_reasonToWait_33 : decode cX3_reasonToWait 33 = .ok (.iconst 1, 1) := by decide +kernel
theorem dX3_reasonToWait_34 : decode cX3_reasonToWait 34 = .ok (.ireturn, 1) := by decide +kernel
theorem dX3_reasonToWait_35 : decode cX3_reasonToWait 35 = .ok (.aload_n 0, 1) := by decide +kernel
theorem dX3_reasonToWait_36 : decode cX3_reasonToWait 36 = .ok (.aload_n 1, 1) := by decide +kernel
theorem dX3_reasonToWait_37 : decode cX3_reasonToWait 37 = .ok (.invokevirtual 160, 3) := by decide +kernel
theorem dX3_reasonToWait_40 : decode cX3_reasonToWait 40 = .ok (.istore_n 2, 1) := by decide +kernel
theorem dX3_reasonToWait_41 : decode cX3_reasonToWait 41 = .ok (.aload_n 0, 1) := by decide +kernel
theorem dX3_reasonToWait_42 : decode cX3_reasonToWait 42 = .ok (.aload_n 1, 1) := by decide +kernel
theorem dX3_reasonToWait_43 : decode cX3_reasonToWait 43 = .ok (.getfield 148, 3) := by decide +kernel
theorem dX3_reasonToWait_46 : decode cX3_reasonToWait 46 = .ok (.invokevirtual 61, 3) := by decide +kernel
theorem dX3_reasonToWait_49 : decode cX3_reasonToWait 49 = .ok (.astore_n 3, 1) := by decide +kernel
theorem dX3_reasonToWait_50 : decode cX3_reasonToWait 50 = .ok (.aload_n 0, 1) := by decide +kernel
theorem dX3_reasonToWait_51 : decode cX3_reasonToWait 51 = .ok (.iload_n 2, 1) := by decide +kernel
theorem dX3_reasonToWait_52 : decode cX3_reasonToWait 52 = .ok (.invokevirtual 61, 3) := by decide +kernel
theorem dX3_reasonToWait_55 : decode cX3_reasonToWait 55 = .ok (.astore 4, 2) := by decide +kernel
theorem dX3_reasonToWait_57 : decode cX3_reasonToWait 57 = .ok (.aload_n 3, 1) := by decide +kernel
theorem dX3_reasonToWait_58 : decode cX3_reasonToWait 58 = .ok (.ifnull 8, 3) := by decide +kernel
theorem dX3_reasonToWait_61 : decode cX3_reasonToWait 61 = .ok (.aload 4, 2) := by decide +kernel
theorem dX3_reasonToWait_63 : decode cX3_reasonToWait 63 = .ok (.ifnonnull 5, 3) := by decide +kernel
theorem dX3_reasonToWait_66 : decode cX3_reasonToWait 66 = .ok (.iconst 0, 1) := by decide +kernel
theorem dX3_reasonToWait_67 : decode cX3_reasonToWait 67 = .ok (.ireturn, 1) := by decide +kernel
theorem dX3_reasonToWait_68 : decode cX3_reasonToWait 68 = .ok (.aload 4, 2) := by decide +kernel
theorem dX3_reasonToWait_70 : decode cX3_reasonToWait 70 = .ok (.getfield 163, 3) := by decide +kernel
theorem dX3_reasonToWait_73 : decode cX3_reasonToWait 73 = .ok (.aload_n 0, 1) := by decide +kernel
theorem dX3_reasonToWait_74 : decode cX3_reasonToWait 74 = .ok (.getfield 25, 3) := by decide +kernel
theorem dX3_reasonToWait_77 : decode cX3_reasonToWait 77 = .ok (.iconst 0, 1) := by decide +kernel
theorem dX3_reasonToWait_78 : decode cX3_reasonToWait 78 = .ok (.iaload, 1) := by decide +kernel
theorem dX3_reasonToWait_79 : decode cX3_reasonToWait 79 = .ok (.if_icmp .le 5, 3) := by decide +kernel
theorem dX3_reasonToWait_82 : decode cX3_reasonToWait 82 = .ok (.iconst 2, 1) := by decide +kernel
theorem dX3_reasonToWait_83 : decode cX3_reasonToWait 83 = .ok (.ireturn, 1) := by decide +kernel
theorem dX3_reasonToWait_84 : decode cX3_reasonToWait 84 = .ok (.aload_n 0, 1) := by decide +kernel
theorem dX3_reasonToWait_85 : decode cX3_reasonToWait 85 = .ok (.iload_n 2, 1) := by decide +kernel
theorem dX3_reasonToWait_86 : decode cX3_reasonToWait 86 = .ok (.invokevirtual 166, 3) := by decide +kernel
theorem dX3_reasonToWait_89 : decode cX3_reasonToWait 89 = .ok (.aload 4, 2) := by decide +kernel
theorem dX3_reasonToWait_91 : decode cX3_reasonToWait 91 = .ok (.getfield 69, 3) := by decide +kernel
theorem dX3_reasonToWait_94 : decode cX3_reasonToWait 94 = .ok (.if_icmp .lt 5, 3) := by decide +kernel
theorem dX3_reasonToWait_97 : decode cX3_reasonToWait 97 = .ok (.iconst 3, 1) := by decide +kernel
theorem dX3_reasonToWait_98 : decode cX3_reasonToWait 98 = .ok (.ireturn, 1) := by decide +kernel
theorem dX3_reasonToWait_99 : decode cX3_reasonToWait 99 = .ok (.aload_n 3, 1) := by decide +kernel
theorem dX3_reasonToWait_100 : decode cX3_reasonToWait 100 = .ok (.invokevirtual 75, 3) := by decide +kernel
theorem dX3_reasonToWait_103 : decode cX3_reasonToWait 103 = .ok (.ifCond .eq 11, 3) := by decide +kernel
theorem dX3_reasonToWait_106 : decode cX3_reasonToWait 106 = .ok (.aload 4, 2) := by decide +kernel
theorem dX3_reasonToWait_108 : decode cX3_reasonToWait 108 = .ok (.invokevirtual 75, 3) := by decide +kernel
theorem dX3_reasonToWait_111 : decode cX3_reasonToWait 111 = .ok (.ifCond .eq 5, 3) := by decide +kernel
theorem dX3_reasonToWait_114 : decode cX3_reasonToWait 114 = .ok (.iconst 0, 1) := by decide +kernel
theorem dX3_reasonToWait_115 : decode cX3_reasonToWait 115 = .ok (.ireturn, 1) := by decide +kernel
theorem dX3_reasonToWait_116 : decode cX3_reasonToWait 116 = .ok (.aload_n 0, 1) := by decide +kernel
theorem dX3_reasonToWait_117 : decode cX3_reasonToWait 117 = .ok (.aload_n 1, 1) := by decide +kernel
theorem dX3_reasonToWait_118 : decode cX3_reasonToWait 118 = .ok (.aload_n 1, 1) := by decide +kernel
theorem dX3_reasonToWait_119 : decode cX3_reasonToWait 119 = .ok (.getfield 117, 3) := by decide +kernel
theorem dX3_reasonToWait_122 : decode cX3_reasonToWait 122 = .ok (.ifCond .eq 10, 3) := by decide +kernel
theorem dX3_reasonToWait_125 : decode cX3_reasonToWait 125 = .ok (.aload_n 3, 1) := by decide +kernel
theorem dX3_reasonToWait_126 : decode cX3_reasonToWait 126 = .ok (.getfield 79, 3) := by decide +kernel
theorem dX3_reasonToWait_129 : decode cX3_reasonToWait 129 = .ok (.goto 7, 3) := by decide +kernel
theorem dX3_reasonToWait_132 : decode cX3_reasonToWait 132 = .ok (.aload_n 3, 1) := by decide +kernel
theorem dX3_reasonToWait_133 : decode cX3_reasonToWait 133 = .ok (.getfield 72, 3) := by decide +kernel
theorem dX3_reasonToWait_136 : decode cX3_reasonToWait 136 = .ok (.invokevirtual 170, 3) := by decide +kernel
theorem dX3_reasonToWait_139 : decode cX3_reasonToWait 139 = .ok (.ireturn, 1) := by decide +kernel
theorem dX3_reasonAhead_0 : decode cX3_reasonAhead 0 = .ok (.iconst 0, 1) := by decide +kernel
theorem dX3_reasonAhead_1 : decode cX3_reasonAhead 1 = .ok (.istore_n 3, 1) := by decide +kernel
theorem dX3_reasonAhead_2 : decode cX3_reasonAhead 2 = .ok (.iconst 0, 1) := by decide +kernel
theorem dX3_reasonAhead_3 : decode cX3_reasonAhead 3 = .ok (.istore 4, 2) := by decide +kernel
theorem dX3_reasonAhead_5 : decode cX3_reasonAhead 5 = .ok (.iload 4, 2) := by decide +kernel
theorem dX3_reasonAhead_7 : decode cX3_reasonAhead 7 = .ok (.iconst 4, 1) := by decide +kernel
theorem dX3_reasonAhead_8 : decode cX3_reasonAhead 8 = .ok (.if_icmp .ge 73, 3) := by decide +kernel
theorem dX3_reasonAhead_11 : decode cX3_reasonAhead 11 = .ok (.aload_n 0, 1) := by decide +kernel
theorem dX3_reasonAhead_12 : decode cX3_reasonAhead 12 = .ok (.iload 4, 2) := by decide +kernel
theorem dX3_reasonAhead_14 : decode cX3_reasonAhead 14 = .ok (.invokevirtual 82, 3) := by decide +kernel
theorem dX3_reasonAhead_17 : decode cX3_reasonAhead 17 = .ok (.astore 5, 2) := by decide +kernel
theorem dX3_reasonAhead_19 : decode cX3_reasonAhead 19 = .ok (.aload 5, 2) := by decide +kernel
theorem dX3_reasonAhead_21 : decode cX3_reasonAhead 21 = .ok (.ifnonnull 6, 3) := by decide +kernel
theorem dX3_reasonAhead_24 : decode cX3_reasonAhead 24 = .ok (.goto 51, 3) := by decide +kernel
theorem dX3_reasonAhead_27 : decode cX3_reasonAhead 27 = .ok (.aload_n 1, 1) := by decide +kernel
theorem dX3_reasonAhead_28 : decode cX3_reasonAhead 28 = .ok (.getfield 148, 3) := by decide +kernel
theorem dX3_reasonAhead_31 : decode cX3_reasonAhead 31 = .ok (.aload 5, 2) := by decide +kernel
theorem dX3_reasonAhead_33 : decode cX3_reasonAhead 33 = .ok (.getfield 148, 3) := by decide +kernel
theorem dX3_reasonAhead_36 : decode cX3_reasonAhead 36 = .ok (.iload_n 2, 1) := by decide +kernel
theorem dX3_reasonAhead_37 : decode cX3_reasonAhead 37 = .ok (.invokestatic 174, 3) := by decide +kernel
theorem dX3_reasonAhead_40 : decode cX3_reasonAhead 40 = .ok (.ifCond .eq 23, 3) := by decide +kernel
theorem dX3_reasonAhead_43 : decode cX3_reasonAhead 43 = .ok (.aload 5, 2) := by decide +kernel
theorem dX3_reasonAhead_45 : decode cX3_reasonAhead 45 = .ok (.getfield 117, 3) := by decide +kernel
theorem dX3_reasonAhead_48 : decode cX3_reasonAhead 48 = .ok (.aload_n 1, 1) := by decide +kernel
theorem dX3_reasonAhead_49 : decode cX3_reasonAhead 49 = .ok (.getfield 117, 3) := by decide +kernel
theorem dX3_reasonAhead_52 : decode cX3_reasonAhead 52 = .ok (.if_icmp .eq 5, 3) := by decide +kernel
theorem dX3_reasonAhead_55 : decode cX3_reasonAhead 55 = .ok (.iconst 4, 1) := by decide +kernel
theorem dX3_reasonAhead_56 : decode cX3_reasonAhead 56 = .ok (.ireturn, 1) := by decide +kernel
theorem dX3_reasonAhead_57 : decode cX3_reasonAhead 57 = .ok (.iinc 3 1, 3) := by decide +kernel
theorem dX3_reasonAhead_60 : decode cX3_reasonAhead 60 = .ok (.goto 15, 3) := by decide +kernel
theorem dX3_reasonAhead_63 : decode cX3_reasonAhead 63 = .ok (.aload 5, 2) := by decide +kernel
theorem dX3_reasonAhead_65 : decode cX3_reasonAhead 65 = .ok (.getfield 148, 3) := by decide +kernel
theorem dX3_reasonAhead_68 : decode cX3_reasonAhead 68 = .ok (.iload_n 2, 1) := by decide +kernel
theorem dX3_reasonAhead_69 : decode cX3_reasonAhead 69 = .ok (.if_icmp .ne 6, 3) := by decide +kernel
theorem dX3_reasonAhead_72 : decode cX3_reasonAhead 72 = .ok (.iinc 3 1, 3) := by decide +kernel
theorem dX3_reasonAhead_75 : decode cX3_reasonAhead 75 = .ok (.iinc 4 1, 3) := by decide +kernel
theorem dX3_reasonAhead_78 : decode cX3_reasonAhead 78 = .ok (.goto (-73), 3) := by decide +kernel
theorem dX3_reasonAhead_81 : decode cX3_reasonAhead 81 = .ok (.aload_n 0, 1) := by decide +kernel
theorem dX3_reasonAhead_82 : decode cX3_reasonAhead 82 = .ok (.iload_n 2, 1) := by decide +kernel
theorem dX3_reasonAhead_83 : decode cX3_reasonAhead 83 = .ok (.invokevirtual 61, 3) := by decide +kernel
theorem dX3_reasonAhead_86 : decode cX3_reasonAhead 86 = .ok (.astore 4, 2) := by decide +kernel
theorem dX3_reasonAhead_88 : decode cX3_reasonAhead 88 = .ok (.aload 4, 2) := by decide +kernel
theorem dX3_reasonAhead_90 : decode cX3_reasonAhead 90 = .ok (.ifnull 16, 3) := by decide +kernel
theorem dX3_reasonAhead_93 : decode cX3_reasonAhead 93 = .ok (.iload_n 3, 1) := by decide +kernel
theorem dX3_reasonAhead_94 : decode cX3_reasonAhead 94 = .ok (.aload 4, 2) := by decide +kernel
theorem dX3_reasonAhead_96 : decode cX3_reasonAhead 96 = .ok (.getfield 69, 3) := by decide +kernel
theorem dX3_reasonAhead_99 : decode cX3_reasonAhead 99 = .ok (.if_icmp .lt 7, 3) := by decide +kernel
theorem dX3_reasonAhead_102 : decode cX3_reasonAhead 102 = .ok (.iconst 5, 1) := by decide +kernel
theorem dX3_reasonAhead_103 : decode cX3_reasonAhead 103 = .ok (.goto 4, 3) := by decide +kernel
theorem dX3_reasonAhead_106 : decode cX3_reasonAhead 106 = .ok (.iconst 0, 1) := by decide +kernel
theorem dX3_reasonAhead_107 : decode cX3_reasonAhead 107 = .ok (.ireturn, 1) := by decide +kernel
theorem dX3_isBetween_0 : decode cX3_isBetween 0 = .ok (.iload_n 0, 1) := by decide +kernel
theorem dX3_isBetween_1 : decode cX3_isBetween 1 = .ok (.iload_n 1, 1) := by decide +kernel
theorem dX3_isBetween_2 : decode cX3_isBetween 2 = .ok (.if_icmp .ge 8, 3) := by decide +kernel
theorem dX3_isBetween_5 : decode cX3_isBetween 5 = .ok (.iload_n 1, 1) := by decide +kernel
theorem dX3_isBetween_6 : decode cX3_isBetween 6 = .ok (.iload_n 2, 1) := by decide +kernel
theorem dX3_isBetween_7 : decode cX3_isBetween 7 = .ok (.if_icmp .lt 13, 3) := by decide +kernel
theorem dX3_isBetween_10 : decode cX3_isBetween 10 = .ok (.iload_n 2, 1) := by decide +kernel
theorem dX3_isBetween_11 : decode cX3_isBetween 11 = .ok (.iload_n 1, 1) := by decide +kernel
theorem dX3_isBetween_12 : decode cX3_isBetween 12 = .ok (.if_icmp .ge 12, 3) := by decide +kernel
theorem dX3_isBetween_15 : decode cX3_isBetween 15 = .ok (.iload_n 1, 1) := by decide +kernel
theorem dX3_isBetween_16 : decode cX3_isBetween 16 = .ok (.iload_n 0, 1) := by decide +kernel
theorem dX3_isBetween_17 : decode cX3_isBetween 17 = .ok (.if_icmp .ge 7, 3) := by decide +kernel
theorem dX3_isBetween_20 : decode cX3_isBetween 20 = .ok (.iconst 1, 1) := by decide +kernel
theorem dX3_isBetween_21 : decode cX3_isBetween 21 = .ok (.goto 4, 3) := by decide +kernel
theorem dX3_isBetween_24 : decode cX3_isBetween 24 = .ok (.iconst 0, 1) := by decide +kernel
theorem dX3_isBetween_25 : decode cX3_isBetween 25 = .ok (.ireturn, 1) := by decide +kernel
theorem dX3_settle_0 : decode cX3_settle 0 = .ok (.iconst 0, 1) := by decide +kernel
theorem dX3_settle_1 : decode cX3_settle 1 = .ok (.istore_n 1, 1) := by decide +kernel
theorem dX3_settle_2 : decode cX3_settle 2 = .ok (.iload_n 1, 1) := by decide +kernel
theorem dX3_settle_3 : decode cX3_settle 3 = .ok (.iconst 4, 1) := by decide +kernel
theorem dX3_settle_4 : decode cX3_settle 4 = .ok (.if_icmp .ge 45, 3) := by decide +kernel
theorem dX3_settle_7 : decode cX3_settle 7 = .ok (.aload_n 0, 1) := by decide +kernel
theorem dX3_settle_8 : decode cX3_settle 8 = .ok (.iload_n 1, 1) := by decide +kernel
theorem dX3_settle_9 : decode cX3_settle 9 = .ok (.invokevirtual 82, 3) := by decide +kernel
theorem dX3_settle_12 : decode cX3_settle 12 = .ok (.astore_n 2, 1) := by decide +kernel
theorem dX3_settle_13 : decode cX3_settle 13 = .ok (.aload_n 2, 1) := by decide +kernel
theorem dX3_settle_14 : decode cX3_settle 14 = .ok (.ifnull 29, 3) := by decide +kernel
theorem dX3_settle_17 : decode cX3_settle 17 = .ok (.aload_n 0, 1) := by decide +kernel
theorem dX3_settle_18 : decode cX3_settle 18 = .ok (.aload_n 2, 1) := by decide +kernel
theorem dX3_settle_19 : decode cX3_settle 19 = .ok (.getfield 148, 3) := by decide +kernel
theorem dX3_settle_22 : decode cX3_settle 22 = .ok (.invokevirtual 61, 3) := by decide +kernel
theorem dX3_settle_25 : decode cX3_settle 25 = .ok (.astore_n 3, 1) := by decide +kernel
theorem dX3_settle_26 : decode cX3_settle 26 = .ok (.aload_n 3, 1) := by decide +kernel
theorem dX3_settle_27 : decode cX3_settle 27 = .ok (.ifnull 16, 3) := by decide +kernel
theorem dX3_settle_30 : decode cX3_settle 30 = .ok (.aload_n 3, 1) := by decide +kernel
theorem dX3_settle_31 : decode cX3_settle 31 = .ok (.dup, 1) := by decide +kernel
theorem dX3_settle_32 : decode cX3_settle 32 = .ok (.getfield 178, 3) := by decide +kernel
theorem dX3_settle_35 : decode cX3_settle 35 = .ok (.aload_n 2, 1) := by decide +kernel
theorem dX3_settle_36 : decode cX3_settle 36 = .ok (.invokevirtual 181, 3) := by decide +kernel
theorem dX3_settle_39 : decode cX3_settle 39 = .ok (.iadd, 1) := by decide +kernel
theorem dX3_settle_40 : decode cX3_settle 40 = .ok (.putfield 178, 3) := by decide +kernel
theorem dX3_settle_43 : decode cX3_settle 43 = .ok (.iinc 1 1, 3) := by decide +kernel
theorem dX3_settle_46 : decode cX3_settle 46 = .ok (.goto (-44), 3) := by decide +kernel
theorem dX3_settle_49 : decode cX3_settle 49 = .ok (.iconst 0, 1) := by decide +kernel
theorem dX3_settle_50 : decode cX3_settle 50 = .ok (.istore_n 1, 1) := by decide +kernel
theorem dX3_settle_51 : decode cX3_settle 51 = .ok (.iload_n 1, 1) := by decide +kernel
theorem dX3_settle_52 : decode cX3_settle 52 = .ok (.bipush 12, 2) := by decide +kernel
theorem dX3_settle_54 : decode cX3_settle 54 = .ok (.if_icmp .ge 44, 3) := by decide +kernel
theorem dX3_settle_57 : decode cX3_settle 57 = .ok (.aload_n 0, 1) := by decide +kernel
theorem dX3_settle_58 : decode cX3_settle 58 = .ok (.iload_n 1, 1) := by decide +kernel
theorem dX3_settle_59 : decode cX3_settle 59 = .ok (.invokevirtual 61, 3) := by decide +kernel
theorem dX3_settle_62 : decode cX3_settle 62 = .ok (.astore_n 2, 1) := by decide +kernel
theorem dX3_settle_63 : decode cX3_settle 63 = .ok (.aload_n 2, 1) := by decide +kernel
theorem dX3_settle_64 : decode cX3_settle 64 = .ok (.ifnull 28, 3) := by decide +kernel
theorem dX3_settle_67 : decode cX3_settle 67 = .ok (.aload_n 2, 1) := by decide +kernel
theorem dX3_settle_68 : decode cX3_settle 68 = .ok (.aload_n 0, 1) := by decide +kernel
theorem dX3_settle_69 : decode cX3_settle 69 = .ok (.getfield 25, 3) := by decide +kernel
theorem dX3_settle_72 : decode cX3_settle 72 = .ok (.iconst 1, 1) := by decide +kernel
theorem dX3_settle_73 : decode cX3_settle 73 = .ok (.iaload, 1) := by decide +kernel
theorem dX3_settle_74 : decode cX3_settle 74 = .ok (.invokevirtual 184, 3) := by decide +kernel
theorem dX3_settle_77 : decode cX3_settle 77 = .ok (.aload_n 0, 1) := by decide +kernel
theorem dX3_settle_78 : decode cX3_settle 78 = .ok (.aload_n 0, 1) := by decide +kernel
theorem dX3_settle_79 : decode cX3_settle 79 = .ok (.getfield 97, 3) := by decide +kernel
theorem dX3_settle_82 : decode cX3_settle 82 = .ok (.aload_n 2, 1) := by decide +kernel
theorem dX3_settle_83 : decode cX3_settle 83 = .ok (.getfield 163, 3) := by decide +kernel
theorem dX3_settle_86 : decode cX3_settle 86 = .ok (.invokestatic 186, 3) := by decide +kernel
theorem dX3_settle_89 : decode cX3_settle 89 = .ok (.putfield 97, 3) := by decide +kernel
theorem dX3_settle_92 : decode cX3_settle 92 = .ok (.iinc 1 1, 3) := by decide +kernel
theorem dX3_settle_95 : decode cX3_settle 95 = .ok (.goto (-44), 3) := by decide +kernel
theorem dX3_settle_98 : decode cX3_settle 98 = .ok (.return_, 1) := by decide +kernel
theorem dX3_trainsIn_0 : decode cX3_trainsIn 0 = .ok (.iconst 0, 1) := by decide +kernel
theorem dX3_trainsIn_1 : decode cX3_trainsIn 1 = .ok (.istore_n 2, 1) := by decide +kernel
theorem dX3_trainsIn_2 : decode cX3_trainsIn 2 = .ok (.iconst 0, 1) := by decide +kernel
theorem dX3_trainsIn_3 : decode cX3_trainsIn 3 = .ok (.istore_n 3, 1) := by decide +kernel
theorem dX3_trainsIn_4 : decode cX3_trainsIn 4 = .ok (.iload_n 3, 1) := by decide +kernel
theorem dX3_trainsIn_5 : decode cX3_trainsIn 5 = .ok (.iconst 4, 1) := by decide +kernel
theorem dX3_trainsIn_6 : decode cX3_trainsIn 6 = .ok (.if_icmp .ge 33, 3) := by decide +kernel
theorem dX3_trainsIn_9 : decode cX3_trainsIn 9 = .ok (.aload_n 0, 1) := by decide +kernel
theorem dX3_trainsIn_10 : decode cX3_trainsIn 10 = .ok (.iload_n 3, 1) := by decide +kernel
theorem dX3_trainsIn_11 : decode cX3_trainsIn 11 = .ok (.invokevirtual 82, 3) := by decide +kernel
theorem dX3_trainsIn_14 : decode cX3_trainsIn 14 = .ok (.astore 4, 2) := by decide +kernel
theorem dX3_trainsIn_16 : decode cX3_trainsIn 16 = .ok (.aload 4, 2) := by decide +kernel
theorem dX3_trainsIn_18 : decode cX3_trainsIn 18 = .ok (.ifnull 15, 3) := by decide +kernel
theorem dX3_trainsIn_21 : decode cX3_trainsIn 21 = .ok (.aload 4, 2) := by decide +kernel
theorem dX3_trainsIn_23 : decode cX3_trainsIn 23 = .ok (.getfield 148, 3) := by decide +kernel
theorem dX3_trainsIn_26 : decode cX3_trainsIn 26 = .ok (.iload_n 1, 1) := by decide +kernel
theorem dX3_trainsIn_27 : decode cX3_trainsIn 27 = .ok (.if_icmp .ne 6, 3) := by decide +kernel
theorem dX3_trainsIn_30 : decode cX3_trainsIn 30 = .ok (.iinc 2 1, 3) := by decide +kernel
theorem dX3_trainsIn_33 : decode cX3_trainsIn 33 = .ok (.iinc 3 1, 3) := by decide +kernel
theorem dX3_trainsIn_36 : decode cX3_trainsIn 36 = .ok (.goto (-32), 3) := by decide +kernel
theorem dX3_trainsIn_39 : decode cX3_trainsIn 39 = .ok (.iload_n 2, 1) := by decide +kernel
theorem dX3_trainsIn_40 : decode cX3_trainsIn 40 = .ok (.ireturn, 1) := by decide +kernel
theorem dX3_weightIn_0 : decode cX3_weightIn 0 = .ok (.iconst 0, 1) := by decide +kernel
theorem dX3_weightIn_1 : decode cX3_weightIn 1 = .ok (.istore_n 2, 1) := by decide +kernel
theorem dX3_weightIn_2 : decode cX3_weightIn 2 = .ok (.iconst 0, 1) := by decide +kernel
theorem dX3_weightIn_3 : decode cX3_weightIn 3 = .ok (.istore_n 3, 1) := by decide +kernel
theorem dX3_weightIn_4 : decode cX3_weightIn 4 = .ok (.iload_n 3, 1) := by decide +kernel
theorem dX3_weightIn_5 : decode cX3_weightIn 5 = .ok (.iconst 4, 1) := by decide +kernel
theorem dX3_weightIn_6 : decode cX3_weightIn 6 = .ok (.if_icmp .ge 38, 3) := by decide +kernel
theorem dX3_weightIn_9 : decode cX3_weightIn 9 = .ok (.aload_n 0, 1) := by decide +kernel
theorem dX3_weightIn_10 : decode cX3_weightIn 10 = .ok (.iload_n 3, 1) := by decide +kernel
theorem dX3_weightIn_11 : decode cX3_weightIn 11 = .ok (.invokevirtual 82, 3) := by decide +kernel
theorem dX3_weightIn_14 : decode cX3_weightIn 14 = .ok (.astore 4, 2) := by decide +kernel
theorem dX3_weightIn_16 : decode cX3_weightIn 16 = .ok (.aload 4, 2) := by decide +kernel
theorem dX3_weightIn_18 : decode cX3_weightIn 18 = .ok (.ifnull 20, 3) := by decide +kernel
theorem dX3_weightIn_21 : decode cX3_weightIn 21 = .ok (.aload 4, 2) := by decide +kernel
theorem dX3_weightIn_23 : decode cX3_weightIn 23 = .ok (.getfield 148, 3) := by decide +kernel
theorem dX3_weightIn_26 : decode cX3_weightIn 26 = .ok (.iload_n 1, 1) := by decide +kernel
theorem dX3_weightIn_27 : decode cX3_weightIn 27 = .ok (.if_icmp .ne 11, 3) := by decide +kernel
theorem dX3_weightIn_30 : decode cX3_weightIn 30 = .ok (.iload_n 2, 1) := by decide +kernel
theorem dX3_weightIn_31 : decode cX3_weightIn 31 = .ok (.aload 4, 2) := by decide +kernel
theorem dX3_weightIn_33 : decode cX3_weightIn 33 = .ok (.invokevirtual 181, 3) := by decide +kernel
theorem dX3_weightIn_36 : decode cX3_weightIn 36 = .ok (.iadd, 1) := by decide +kernel
theorem dX3_weightIn_37 : decode cX3_weightIn 37 = .ok (.istore_n 2, 1) := by decide +kernel
theorem dX3_weightIn_38 : decode cX3_weightIn 38 = .ok (.iinc 3 1, 3) := by decide +kernel
theorem dX3_weightIn_41 : decode cX3_weightIn 41 = .ok (.goto (-37), 3) := by decide +kernel
theorem dX3_weightIn_44 : decode cX3_weightIn 44 = .ok (.iload_n 2, 1) := by decide +kernel
theorem dX3_weightIn_45 : decode cX3_weightIn 45 = .ok (.ireturn, 1) := by decide +kernel
theorem dX3_peatInTrains_0 : decode cX3_peatInTrains 0 = .ok (.iconst 0, 1) := by decide +kernel
theorem dX3_peatInTrains_1 : decode cX3_peatInTrains 1 = .ok (.istore_n 1, 1) := by decide +kernel
theorem dX3_peatInTrains_2 : decode cX3_peatInTrains 2 = .ok (.iconst 0, 1) := by decide +kernel
theorem dX3_peatInTrains_3 : decode cX3_peatInTrains 3 = .ok (.istore_n 2, 1) := by decide +kernel
theorem dX3_peatInTrains_4 : decode cX3_peatInTrains 4 = .ok (.iload_n 2, 1) := by decide +kernel
theorem dX3_peatInTrains_5 : decode cX3_peatInTrains 5 = .ok (.iconst 4, 1) := by decide +kernel
theorem dX3_peatInTrains_6 : decode cX3_peatInTrains 6 = .ok (.if_icmp .ge 26, 3) := by decide +kernel
theorem dX3_peatInTrains_9 : decode cX3_peatInTrains 9 = .ok (.aload_n 0, 1) := by decide +kernel
theorem dX3_peatInTrains_10 : decode cX3_peatInTrains 10 = .ok (.iload_n 2, 1) := by decide +kernel
theorem dX3_peatInTrains_11 : decode cX3_peatInTrains 11 = .ok (.invokevirtual 82, 3) := by decide +kernel
theorem dX3_peatInTrains_14 : decode cX3_peatInTrains 14 = .ok (.astore_n 3, 1) := by decide +kernel
theorem dX3_peatInTrains_15 : decode cX3_peatInTrains 15 = .ok (.aload_n 3, 1) := by decide +kernel
theorem dX3_peatInTrains_16 : decode cX3_peatInTrains 16 = .ok (.ifnull 10, 3) := by decide +kernel
theorem dX3_peatInTrains_19 : decode cX3_peatInTrains 19 = .ok (.iload_n 1, 1) := by decide +kernel
theorem dX3_peatInTrains_20 : decode cX3_peatInTrains 20 = .ok (.aload_n 3, 1) := by decide +kernel
theorem dX3_peatInTrains_21 : decode cX3_peatInTrains 21 = .ok (.getfield 90, 3) := by decide +kernel
theorem dX3_peatInTrains_24 : decode cX3_peatInTrains 24 = .ok (.iadd, 1) := by decide +kernel
theorem dX3_peatInTrains_25 : decode cX3_peatInTrains 25 = .ok (.istore_n 1, 1) := by decide +kernel
theorem dX3_peatInTrains_26 : decode cX3_peatInTrains 26 = .ok (.iinc 2 1, 3) := by decide +kernel
theorem dX3_peatInTrains_29 : decode cX3_peatInTrains 29 = .ok (.goto (-25), 3) := by decide +kernel
theorem dX3_peatInTrains_32 : decode cX3_peatInTrains 32 = .ok (.iload_n 1, 1) := by decide +kernel
theorem dX3_peatInTrains_33 : decode cX3_peatInTrains 33 = .ok (.ireturn, 1) := by decide +kernel
theorem dX3_waitsOfAll_0 : decode cX3_waitsOfAll 0 = .ok (.iconst 0, 1) := by decide +kernel
theorem dX3_waitsOfAll_1 : decode cX3_waitsOfAll 1 = .ok (.istore_n 1, 1) := by decide +kernel
theorem dX3_waitsOfAll_2 : decode cX3_waitsOfAll 2 = .ok (.iconst 0, 1) := by decide +kernel
theorem dX3_waitsOfAll_3 : decode cX3_waitsOfAll 3 = .ok (.istore_n 2, 1) := by decide +kernel
theorem dX3_waitsOfAll_4 : decode cX3_waitsOfAll 4 = .ok (.iload_n 2, 1) := by decide +kernel
theorem dX3_waitsOfAll_5 : decode cX3_waitsOfAll 5 = .ok (.iconst 4, 1) := by decide +kernel
theorem dX3_waitsOfAll_6 : decode cX3_waitsOfAll 6 = .ok (.if_icmp .ge 26, 3) := by decide +kernel
theorem dX3_waitsOfAll_9 : decode cX3_waitsOfAll 9 = .ok (.aload_n 0, 1) := by decide +kernel
theorem dX3_waitsOfAll_10 : decode cX3_waitsOfAll 10 = .ok (.iload_n 2, 1) := by decide +kernel
theorem dX3_waitsOfAll_11 : decode cX3_waitsOfAll 11 = .ok (.invokevirtual 82, 3) := by decide +kernel
theorem dX3_waitsOfAll_14 : decode cX3_waitsOfAll 14 = .ok (.astore_n 3, 1) := by decide +kernel
theorem dX3_waitsOfAll_15 : decode cX3_waitsOfAll 15 = .ok (.aload_n 3, 1) := by decide +kernel
theorem dX3_waitsOfAll_16 : decode cX3_waitsOfAll 16 = .ok (.ifnull 10, 3) := by decide +kernel
theorem dX3_waitsOfAll_19 : decode cX3_waitsOfAll 19 = .ok (.iload_n 1, 1) := by decide +kernel
theorem dX3_waitsOfAll_20 : decode cX3_waitsOfAll 20 = .ok (.aload_n 3, 1) := by decide +kernel
theorem dX3_waitsOfAll_21 : decode cX3_waitsOfAll 21 = .ok (.getfield 130, 3) := by decide +kernel
theorem dX3_waitsOfAll_24 : decode cX3_waitsOfAll 24 = .ok (.iadd, 1) := by decide +kernel
theorem dX3_waitsOfAll_25 : decode cX3_waitsOfAll 25 = .ok (.istore_n 1, 1) := by decide +kernel
theorem dX3_waitsOfAll_26 : decode cX3_waitsOfAll 26 = .ok (.iinc 2 1, 3) := by decide +kernel
theorem dX3_waitsOfAll_29 : decode cX3_waitsOfAll 29 = .ok (.goto (-25), 3) := by decide +kernel
theorem dX3_waitsOfAll_32 : decode cX3_waitsOfAll 32 = .ok (.iload_n 1, 1) := by decide +kernel
theorem dX3_waitsOfAll_33 : decode cX3_waitsOfAll 33 = .ok (.ireturn, 1) := by decide +kernel
theorem dX3_greatestSinking_0 : decode cX3_greatestSinking 0 = .ok (.iconst 0, 1) := by decide +kernel
theorem dX3_greatestSinking_1 : decode cX3_greatestSinking 1 = .ok (.istore_n 1, 1) := by decide +kernel
theorem dX3_greatestSinking_2 : decode cX3_greatestSinking 2 = .ok (.iconst 0, 1) := by decide +kernel
theorem dX3_greatestSinking_3 : decode cX3_greatestSinking 3 = .ok (.istore_n 2, 1) := by decide +kernel
theorem dX3_greatestSinking_4 : decode cX3_greatestSinking 4 = .ok (.iload_n 2, 1) := by decide +kernel
theorem dX3_greatestSinking_5 : decode cX3_greatestSinking 5 = .ok (.bipush 12, 2) := by decide +kernel
theorem dX3_greatestSinking_7 : decode cX3_greatestSinking 7 = .ok (.if_icmp .ge 28, 3) := by decide +kernel
theorem dX3_greatestSinking_10 : decode cX3_greatestSinking 10 = .ok (.aload_n 0, 1) := by decide +kernel
theorem dX3_greatestSinking_11 : decode cX3_greatestSinking 11 = .ok (.iload_n 2, 1) := by decide +kernel
theorem dX3_greatestSinking_12 : decode cX3_greatestSinking 12 = .ok (.invokevirtual 61, 3) := by decide +kernel
theorem dX3_greatestSinking_15 : decode cX3_greatestSinking 15 = .ok (.astore_n 3, 1) := by decide +kernel
theorem dX3_greatestSinking_16 : decode cX3_greatestSinking 16 = .ok (.aload_n 3, 1) := by decide +kernel
theorem dX3_greatestSinking_17 : decode cX3_greatestSinking 17 = .ok (.ifnull 12, 3) := by decide +kernel
theorem dX3_greatestSinking_20 : decode cX3_greatestSinking 20 = .ok (.iload_n 1, 1) := by decide +kernel
theorem dX3_greatestSinking_21 : decode cX3_greatestSinking 21 = .ok (.aload_n 3, 1) := by decide +kernel
theorem dX3_greatestSinking_22 : decode cX3_greatestSinking 22 = .ok (.getfield 163, 3) := by decide +kernel
theorem dX3_greatestSinking_25 : decode cX3_greatestSinking 25 = .ok (.invokestatic 186, 3) := by decide +kernel
theorem dX3_greatestSinking_28 : decode cX3_greatestSinking 28 = .ok (.istore_n 1, 1) := by decide +kernel
theorem dX3_greatestSinking_29 : decode cX3_greatestSinking 29 = .ok (.iinc 2 1, 3) := by decide +kernel
theorem dX3_greatestSinking_32 : decode cX3_greatestSinking 32 = .ok (.goto (-28), 3) := by decide +kernel
theorem dX3_greatestSinking_35 : decode cX3_greatestSinking 35 = .ok (.iload_n 1, 1) := by decide +kernel
theorem dX3_greatestSinking_36 : decode cX3_greatestSinking 36 = .ok (.ireturn, 1) := by decide +kernel
theorem dX3_sumOfSinkings_0 : decode cX3_sumOfSinkings 0 = .ok (.iconst 0, 1) := by decide +kernel
theorem dX3_sumOfSinkings_1 : decode cX3_sumOfSinkings 1 = .ok (.istore_n 1, 1) := by decide +kernel
theorem dX3_sumOfSinkings_2 : decode cX3_sumOfSinkings 2 = .ok (.iconst 0, 1) := by decide +kernel
theorem dX3_sumOfSinkings_3 : decode cX3_sumOfSinkings 3 = .ok (.istore_n 2, 1) := by decide +kernel
theorem dX3_sumOfSinkings_4 : decode cX3_sumOfSinkings 4 = .ok (.iload_n 2, 1) := by decide +kernel
theorem dX3_sumOfSinkings_5 : decode cX3_sumOfSinkings 5 = .ok (.bipush 12, 2) := by decide +kernel
theorem dX3_sumOfSinkings_7 : decode cX3_sumOfSinkings 7 = .ok (.if_icmp .ge 26, 3) := by decide +kernel
theorem dX3_sumOfSinkings_10 : decode cX3_sumOfSinkings 10 = .ok (.aload_n 0, 1) := by decide +kernel
theorem dX3_sumOfSinkings_11 : decode cX3_sumOfSinkings 11 = .ok (.iload_n 2, 1) := by decide +kernel
theorem dX3_sumOfSinkings_12 : decode cX3_sumOfSinkings 12 = .ok (.invokevirtual 61, 3) := by decide +kernel
theorem dX3_sumOfSinkings_15 : decode cX3_sumOfSinkings 15 = .ok (.astore_n 3, 1) := by decide +kernel
theorem dX3_sumOfSinkings_16 : decode cX3_sumOfSinkings 16 = .ok (.aload_n 3, 1) := by decide +kernel
theorem dX3_sumOfSinkings_17 : decode cX3_sumOfSinkings 17 = .ok (.ifnull 10, 3) := by decide +kernel
theorem dX3_sumOfSinkings_20 : decode cX3_sumOfSinkings 20 = .ok (.iload_n 1, 1) := by decide +kernel
theorem dX3_sumOfSinkings_21 : decode cX3_sumOfSinkings 21 = .ok (.aload_n 3, 1) := by decide +kernel
theorem dX3_sumOfSinkings_22 : decode cX3_sumOfSinkings 22 = .ok (.getfield 163, 3) := by decide +kernel
theorem dX3_sumOfSinkings_25 : decode cX3_sumOfSinkings 25 = .ok (.iadd, 1) := by decide +kernel
theorem dX3_sumOfSinkings_26 : decode cX3_sumOfSinkings 26 = .ok (.istore_n 1, 1) := by decide +kernel
theorem dX3_sumOfSinkings_27 : decode cX3_sumOfSinkings 27 = .ok (.iinc 2 1, 3) := by decide +kernel
theorem dX3_sumOfSinkings_30 : decode cX3_sumOfSinkings 30 = .ok (.goto (-26), 3) := by decide +kernel
theorem dX3_sumOfSinkings_33 : decode cX3_sumOfSinkings 33 = .ok (.iload_n 1, 1) := by decide +kernel
theorem dX3_sumOfSinkings_34 : decode cX3_sumOfSinkings 34 = .ok (.ireturn, 1) := by decide +kernel
theorem dX3_sunkSegments_0 : decode cX3_sunkSegments 0 = .ok (.iconst 0, 1) := by decide +kernel
theorem dX3_sunkSegments_1 : decode cX3_sunkSegments 1 = .ok (.istore_n 1, 1) := by decide +kernel
theorem dX3_sunkSegments_2 : decode cX3_sunkSegments 2 = .ok (.iconst 0, 1) := by decide +kernel
theorem dX3_sunkSegments_3 : decode cX3_sunkSegments 3 = .ok (.istore_n 2, 1) := by decide +kernel
theorem dX3_sunkSegments_4 : decode cX3_sunkSegments 4 = .ok (.iload_n 2, 1) := by decide +kernel
theorem dX3_sunkSegments_5 : decode cX3_sunkSegments 5 = .ok (.bipush 12, 2) := by decide +kernel
theorem dX3_sunkSegments_7 : decode cX3_sunkSegments 7 = .ok (.if_icmp .ge 38, 3) := by decide +kernel
theorem dX3_sunkSegments_10 : decode cX3_sunkSegments 10 = .ok (.aload_n 0, 1) := by decide +kernel
theorem dX3_sunkSegments_11 : decode cX3_sunkSegments 11 = .ok (.iload_n 2, 1) := by decide +kernel
theorem dX3_sunkSegments_12 : decode cX3_sunkSegments 12 = .ok (.invokevirtual 61, 3) := by decide +kernel
theorem dX3_sunkSegments_15 : decode cX3_sunkSegments 15 = .ok (.astore_n 3, 1) := by decide +kernel
theorem dX3_sunkSegments_16 : decode cX3_sunkSegments 16 = .ok (.aload_n 3, 1) := by decide +kernel
theorem dX3_sunkSegments_17 : decode cX3_sunkSegments 17 = .ok (.ifnull 22, 3) := by decide +kernel
theorem dX3_sunkSegments_20 : decode cX3_sunkSegments 20 = .ok (.aload_n 3, 1) := by decide +kernel
theorem dX3_sunkSegments_21 : decode cX3_sunkSegments 21 = .ok (.getfield 163, 3) := by decide +kernel
theorem dX3_sunkSegments_24 : decode cX3_sunkSegments 24 = .ok (.aload_n 0, 1) := by decide +kernel
theorem dX3_sunkSegments_25 : decode cX3_sunkSegments 25 = .ok (.getfield 25, 3) := by decide +kernel
theorem dX3_sunkSegments_28 : decode cX3_sunkSegments 28 = .ok (.iconst 0, 1) := by decide +kernel
theorem dX3_sunkSegments_29 : decode cX3_sunkSegments 29 = .ok (.iaload, 1) := by decide +kernel
theorem dX3_sunkSegments_30 : decode cX3_sunkSegments 30 = .ok (.if_icmp .le 9, 3) := by decide +kernel
theorem dX3_sunkSegments_33 : decode cX3_sunkSegments 33 = .ok (.iload_n 1, 1) := by decide +kernel
theorem dX3_sunkSegments_34 : decode cX3_sunkSegments 34 = .ok (.iconst 1, 1) := by decide +kernel
theorem dX3_sunkSegments_35 : decode cX3_sunkSegments 35 = .ok (.iload_n 2, 1) := by decide +kernel
theorem dX3_sunkSegments_36 : decode cX3_sunkSegments 36 = .ok (.ishl, 1) := by decide +kernel
theorem dX3_sunkSegments_37 : decode cX3_sunkSegments 37 = .ok (.ior, 1) := by decide +kernel
theorem dX3_sunkSegments_38 : decode cX3_sunkSegments 38 = .ok (.istore_n 1, 1) := by decide +kernel
theorem dX3_sunkSegments_39 : decode cX3_sunkSegments 39 = .ok (.iinc 2 1, 3) := by decide +kernel
theorem dX3_sunkSegments_42 : decode cX3_sunkSegments 42 = .ok (.goto (-38), 3) := by decide +kernel
theorem dX3_sunkSegments_45 : decode cX3_sunkSegments 45 = .ok (.iload_n 1, 1) := by decide +kernel
theorem dX3_sunkSegments_46 : decode cX3_sunkSegments 46 = .ok (.ireturn, 1) := by decide +kernel
theorem dX4_init_0 : decode cX4_init 0 = .ok (.aload_n 0, 1) := by decide +kernel
theorem dX4_init_1 : decode cX4_init 1 = .ok (.invokespecial 3, 3) := by decide +kernel
theorem dX4_init_4 : decode cX4_init 4 = .ok (.return_, 1) := by decide +kernel
theorem dX4_start_0 : decode cX4_start 0 = .ok (.aload_n 0, 1) := by decide +kernel
theorem dX4_start_1 : decode cX4_start 1 = .ok (.iload_n 1, 1) := by decide +kernel
theorem dX4_start_2 : decode cX4_start 2 = .ok (.putfield 9, 3) := by decide +kernel
theorem dX4_start_5 : decode cX4_start 5 = .ok (.aload_n 0, 1) := by decide +kernel
theorem dX4_start_6 : decode cX4_start 6 = .ok (.iload_n 2, 1) := by decide +kernel
theorem dX4_start_7 : decode cX4_start 7 = .ok (.putfield 15, 3) := by decide +kernel
theorem dX4_start_10 : decode cX4_start 10 = .ok (.aload_n 0, 1) := by decide +kernel
theorem dX4_start_11 : decode cX4_start 11 = .ok (.iconst 0, 1) := by decide +kernel
theorem dX4_start_12 : decode cX4_start 12 = .ok (.putfield 18, 3) := by decide +kernel
theorem dX4_start_15 : decode cX4_start 15 = .ok (.aload_n 0, 1) := by decide +kernel
theorem dX4_start_16 : decode cX4_start 16 = .ok (.iconst 0, 1) := by decide +kernel
theorem dX4_start_17 : decode cX4_start 17 = .ok (.putfield 21, 3) := by decide +kernel
theorem dX4_start_20 : decode cX4_start 20 = .ok (.aload_n 0, 1) := by decide +kernel
theorem dX4_start_21 : decode cX4_start 21 = .ok (.iconst 0, 1) := by decide +kernel
theorem dX4_start_22 : decode cX4_start 22 = .ok (.putfield 24, 3) := by decide +kernel
theorem dX4_start_25 : decode cX4_start 25 = .ok (.aload_n 0, 1) := by decide +kernel
theorem dX4_start_26 : decode cX4_start 26 = .ok (.iconst 0, 1) := by decide +kernel
theorem dX4_start_27 : decode cX4_start 27 = .ok (.putfield 28, 3) := by decide +kernel
theorem dX4_start_30 : decode cX4_start 30 = .ok (.aload_n 0, 1) := by decide +kernel
theorem dX4_start_31 : decode cX4_start 31 = .ok (.iconst 0, 1) := by decide +kernel
theorem dX4_start_32 : decode cX4_start 32 = .ok (.putfield 31, 3) := by decide +kernel
theorem dX4_start_35 : decode cX4_start 35 = .ok (.aload_n 0, 1) := by decide +kernel
theorem dX4_start_36 : decode cX4_start 36 = .ok (.iconst 0, 1) := by decide +kernel
theorem dX4_start_37 : decode cX4_start 37 = .ok (.putfield 34, 3) := by decide +kernel
theorem dX4_start_40 : decode cX4_start 40 = .ok (.aload_n 0, 1) := by decide +kernel
theorem dX4_start_41 : decode cX4_start 41 = .ok (.iconst 0, 1) := by decide +kernel
theorem dX4_start_42 : decode cX4_start 42 = .ok (.putfield 37, 3) := by decide +kernel
theorem dX4_start_45 : decode cX4_start 45 = .ok (.return_, 1) := by decide +kernel
theorem dX4_copyFrom_0 : decode cX4_copyFrom 0 = .ok (.aload_n 0, 1) := by decide +kernel
theorem dX4_copyFrom_1 : decode cX4_copyFrom 1 = .ok (.aload_n 1, 1) := by decide +kernel
theorem dX4_copyFrom_2 : decode cX4_copyFrom 2 = .ok (.getfield 9, 3) := by decide +kernel
theorem dX4_copyFrom_5 : decode cX4_copyFrom 5 = .ok (.putfield 9, 3) := by decide +kernel
theorem dX4_copyFrom_8 : decode cX4_copyFrom 8 = .ok (.aload_n 0, 1) := by decide +kernel
theorem dX4_copyFrom_9 : decode cX4_copyFrom 9 = .ok (.aload_n 1, 1) := by decide +kernel
theorem dX4_copyFrom_10 : decode cX4_copyFrom 10 = .ok (.getfield 15, 3) := by decide +kernel
theorem dX4_copyFrom_13 : decode cX4_copyFrom 13 = .ok (.putfield 15, 3) := by decide +kernel
theorem dX4_copyFrom_16 : decode cX4_copyFrom 16 = .ok (.aload_n 0, 1) := by decide +kernel
theorem dX4_copyFrom_17 : decode cX4_copyFrom 17 = .ok (.aload_n 1, 1) := by decide +kernel
theorem dX4_copyFrom_18 : decode cX4_copyFrom 18 = .ok (.getfield 18, 3) := by decide +kernel
theorem dX4_copyFrom_21 : decode cX4_copyFrom 21 = .ok (.putfield 18, 3) := by decide +kernel
theorem dX4_copyFrom_24 : decode cX4_copyFrom 24 = .ok (.aload_n 0, 1) := by decide +kernel
theorem dX4_copyFrom_25 : decode cX4_copyFrom 25 = .ok (.aload_n 1, 1) := by decide +kernel
theorem dX4_copyFrom_26 : decode cX4_copyFrom 26 = .ok (.getfield 21, 3) := by decide +kernel
theorem dX4_copyFrom_29 : decode cX4_copyFrom 29 = .ok (.putfield 21, 3) := by decide +kernel
theorem dX4_copyFrom_32 : decode cX4_copyFrom 32 = .ok (.aload_n 0, 1) := by decide +kernel
theorem dX4_copyFrom_33 : decode cX4_copyFrom 33 = .ok (.aload_n 1, 1) := by decide +kernel
theorem dX4_copyFrom_34 : decode cX4_copyFrom 34 = .ok (.getfield 24, 3) := by decide +kernel
theorem dX4_copyFrom_37 : decode cX4_copyFrom 37 = .ok (.putfield 24, 3) := by decide +kernel
theorem dX4_copyFrom_40 : decode cX4_copyFrom 40 = .ok (.aload_n 0, 1) := by decide +kernel
theorem dX4_copyFrom_41 : decode cX4_copyFrom 41 = .ok (.aload_n 1, 1) := by decide +kernel
theorem dX4_copyFrom_42 : decode cX4_copyFrom 42 = .ok (.getfield 28, 3) := by decide +kernel
theorem dX4_copyFrom_45 : decode cX4_copyFrom 45 = .ok (.putfield 28, 3) := by decide +kernel
theorem dX4_copyFrom_48 : decode cX4_copyFrom 48 = .ok (.aload_n 0, 1) := by decide +kernel
theorem dX4_copyFrom_49 : decode cX4_copyFrom 49 = .ok (.aload_n 1, 1) := by decide +kernel
theorem dX4_copyFrom_50 : decode cX4_copyFrom 50 = .ok (.getfield 31, 3) := by decide +kernel
theorem dX4_copyFrom_53 : decode cX4_copyFrom 53 = .ok (.putfield 31, 3) := by decide +kernel
theorem dX4_copyFrom_56 : decode cX4_copyFrom 56 = .ok (.aload_n 0, 1) := by decide +kernel
theorem dX4_copyFrom_57 : decode cX4_copyFrom 57 = .ok (.aload_n 1, 1) := by decide +kernel
theorem dX4_copyFrom_58 : decode cX4_copyFrom 58 = .ok (.getfield 34, 3) := by decide +kernel
theorem dX4_copyFrom_61 : decode cX4_copyFrom 61 = .ok (.putfield 34, 3) := by decide +kernel
theorem dX4_copyFrom_64 : decode cX4_copyFrom 64 = .ok (.aload_n 0, 1) := by decide +kernel
theorem dX4_copyFrom_65 : decode cX4_copyFrom 65 = .ok (.aload_n 1, 1) := by decide +kernel
theorem dX4_copyFrom_66 : decode cX4_copyFrom 66 = .ok (.getfield 37, 3) := by decide +kernel
theorem dX4_copyFrom_69 : decode cX4_copyFrom 69 = .ok (.putfield 37, 3) := by decide +kernel
theorem dX4_copyFrom_72 : decode cX4_copyFrom 72 = .ok (.return_, 1) := by decide +kernel
theorem dX4_fullLoad_0 : decode cX4_fullLoad 0 = .ok (.aload_n 0, 1) := by decide +kernel
theorem dX4_fullLoad_1 : decode cX4_fullLoad 1 = .ok (.getfield 9, 3) := by decide +kernel
theorem dX4_fullLoad_4 : decode cX4_fullLoad 4 = .ok (.aload_n 0, 1) := by decide +kernel
theorem dX4_fullLoad_5 : decode cX4_fullLoad 5 = .ok (.getfield 15, 3) := by decide +kernel
theorem dX4_fullLoad_8 : decode cX4_fullLoad 8 = .ok (.imul, 1) := by decide +kernel
theorem dX4_fullLoad_9 : decode cX4_fullLoad 9 = .ok (.ireturn, 1) := by decide +kernel
theorem dX4_weight_0 : decode cX4_weight 0 = .ok (.iconst 4, 1) := by decide +kernel
theorem dX4_weight_1 : decode cX4_weight 1 = .ok (.iconst 2, 1) := by decide +kernel
theorem dX4_weight_2 : decode cX4_weight 2 = .ok (.aload_n 0, 1) := by decide +kernel
theorem dX4_weight_3 : decode cX4_weight 3 = .ok (.getfield 9, 3) := by decide +kernel
theorem dX4_weight_6 : decode cX4_weight 6 = .ok (.imul, 1) := by decide +kernel
theorem dX4_weight_7 : decode cX4_weight 7 = .ok (.iadd, 1) := by decide +kernel
theorem dX4_weight_8 : decode cX4_weight 8 = .ok (.aload_n 0, 1) := by decide +kernel
theorem dX4_weight_9 : decode cX4_weight 9 = .ok (.getfield 18, 3) := by decide +kernel
theorem dX4_weight_12 : decode cX4_weight 12 = .ok (.iadd, 1) := by decide +kernel
theorem dX4_weight_13 : decode cX4_weight 13 = .ok (.ireturn, 1) := by decide +kernel
theorem dX5_init_0 : decode cX5_init 0 = .ok (.aload_n 0, 1) := by decide +kernel
theorem dX5_init_1 : decode cX5_init 1 = .ok (.invokespecial 3, 3) := by decide +kernel
theorem dX5_init_4 : decode cX5_init 4 = .ok (.new 9, 3) := by decide +kernel
theorem dX5_init_7 : decode cX5_init 7 = .ok (.dup, 1) := by decide +kernel
theorem dX5_init_8 : decode cX5_init 8 = .ok (.invokespecial 11, 3) := by decide +kernel
theorem dX5_init_11 : decode cX5_init 11 = .ok (.astore_n 1, 1) := by decide +kernel
theorem dX5_init_12 : decode cX5_init 12 = .ok (.iconst 0, 1) := by decide +kernel
theorem dX5_init_13 : decode cX5_init 13 = .ok (.istore_n 2, 1) := by decide +kernel
theorem dX5_init_14 : decode cX5_init 14 = .ok (.iload_n 2, 1) := by decide +kernel
theorem dX5_init_15 : decode cX5_init 15 = .ok (.ldc 12, 2) := by decide +kernel
theorem dX5_init_17 : decode cX5_init 17 = .ok (.invokevirtual 14, 3) := by decide +kernel
theorem dX5_init_20 : decode cX5_init 20 = .ok (.if_icmp .ge 19, 3) := by decide +kernel
theorem dX5_init_23 : decode cX5_init 23 = .ok (.aload_n 1, 1) := by decide +kernel
theorem dX5_init_24 : decode cX5_init 24 = .ok (.ldc 12, 2) := by decide +kernel
theorem dX5_init_26 : decode cX5_init 26 = .ok (.iload_n 2, 1) := by decide +kernel
theorem dX5_init_27 : decode cX5_init 27 = .ok (.invokevirtual 20, 3) := by decide +kernel
theorem dX5_init_30 : decode cX5_init 30 = .ok (.invokevirtual 24, 3) := by decide +kernel
theorem dX5_init_33 : decode cX5_init 33 = .ok (.iinc 2 1, 3) := by decide +kernel
theorem dX5_init_36 : decode cX5_init 36 = .ok (.goto (-22), 3) := by decide +kernel
theorem dX5_init_39 : decode cX5_init 39 = .ok (.new 28, 3) := by decide +kernel
theorem dX5_init_42 : decode cX5_init 42 = .ok (.dup, 1) := by decide +kernel
theorem dX5_init_43 : decode cX5_init 43 = .ok (.invokespecial 30, 3) := by decide +kernel
theorem dX5_init_46 : decode cX5_init 46 = .ok (.astore_n 2, 1) := by decide +kernel
theorem dX5_init_47 : decode cX5_init 47 = .ok (.aload_n 1, 1) := by decide +kernel
theorem dX5_init_48 : decode cX5_init 48 = .ok (.aload_n 2, 1) := by decide +kernel
theorem dX5_init_49 : decode cX5_init 49 = .ok (.invokevirtual 31, 3) := by decide +kernel
theorem dX5_init_52 : decode cX5_init 52 = .ok (.aload_n 1, 1) := by decide +kernel
theorem dX5_init_53 : decode cX5_init 53 = .ok (.invokevirtual 35, 3) := by decide +kernel
theorem dX5_init_56 : decode cX5_init 56 = .ok (.aload_n 0, 1) := by decide +kernel
theorem dX5_init_57 : decode cX5_init 57 = .ok (.aload_n 1, 1) := by decide +kernel
theorem dX5_init_58 : decode cX5_init 58 = .ok (.putfield 38, 3) := by decide +kernel
theorem dX5_init_61 : decode cX5_init 61 = .ok (.aload_n 0, 1) := by decide +kernel
theorem dX5_init_62 : decode cX5_init 62 = .ok (.aload_n 2, 1) := by decide +kernel
theorem dX5_init_63 : decode cX5_init 63 = .ok (.putfield 42, 3) := by decide +kernel
theorem dX5_init_66 : decode cX5_init 66 = .ok (.aload_n 0, 1) := by decide +kernel
theorem dX5_init_67 : decode cX5_init 67 = .ok (.new 28, 3) := by decide +kernel
theorem dX5_init_70 : decode cX5_init 70 = .ok (.dup, 1) := by decide +kernel
theorem dX5_init_71 : decode cX5_init 71 = .ok (.invokespecial 30, 3) := by decide +kernel
theorem dX5_init_74 : decode cX5_init 74 = .ok (.putfield 46, 3) := by decide +kernel
theorem dX5_init_77 : decode cX5_init 77 = .ok (.aload_n 0, 1) := by decide +kernel
theorem dX5_init_78 : decode cX5_init 78 = .ok (.new 49, 3) := by decide +kernel
theorem dX5_init_81 : decode cX5_init 81 = .ok (.dup, 1) := by decide +kernel
theorem dX5_init_82 : decode cX5_init 82 = .ok (.invokespecial 51, 3) := by decide +kernel
theorem dX5_init_85 : decode cX5_init 85 = .ok (.putfield 52, 3) := by decide +kernel
theorem dX5_init_88 : decode cX5_init 88 = .ok (.aload_n 0, 1) := by decide +kernel
theorem dX5_init_89 : decode cX5_init 89 = .ok (.iconst 2, 1) := by decide +kernel
theorem dX5_init_90 : decode cX5_init 90 = .ok (.anewarray 28, 3) := by decide +kernel
theorem dX5_init_93 : decode cX5_init 93 = .ok (.putfield 56, 3) := by decide +kernel
theorem dX5_init_96 : decode cX5_init 96 = .ok (.iconst 0, 1) := by decide +kernel
theorem dX5_init_97 : decode cX5_init 97 = .ok (.istore_n 3, 1) := by decide +kernel
theorem dX5_init_98 : decode cX5_init 98 = .ok (.iload_n 3, 1) := by decide +kernel
theorem dX5_init_99 : decode cX5_init 99 = .ok (.aload_n 0, 1) := by decide +kernel
theorem dX5_init_100 : decode cX5_init 100 = .ok (.getfield 56, 3) := by decide +kernel
theorem dX5_init_103 : decode cX5_init 103 = .ok (.arraylength, 1) := by decide +kernel
theorem dX5_init_104 : decode cX5_init 104 = .ok (.if_icmp .ge 22, 3) := by decide +kernel
theorem dX5_init_107 : decode cX5_init 107 = .ok (.aload_n 0, 1) := by decide +kernel
theorem dX5_init_108 : decode cX5_init 108 = .ok (.getfield 56, 3) := by decide +kernel
theorem dX5_init_111 : decode cX5_init 111 = .ok (.iload_n 3, 1) := by decide +kernel
theorem dX5_init_112 : decode cX5_init 112 = .ok (.new 28, 3) := by decide +kernel
theorem dX5_init_115 : decode cX5_init 115 = .ok (.dup, 1) := by decide +kernel
theorem dX5_init_116 : decode cX5_init 116 = .ok (.invokespecial 30, 3) := by decide +kernel
theorem dX5_init_119 : decode cX5_init 119 = .ok (.aastore, 1) := by decide +kernel
theorem dX5_init_120 : decode cX5_init 120 = .ok (.iinc 3 1, 3) := by decide +kernel
theorem dX5_init_123 : decode cX5_init 123 = .ok (.goto (-25), 3) := by decide +kernel
theorem dX5_init_126 : decode cX5_init 126 = .ok (.return_, 1) := by decide +kernel
theorem dX5_type_0 : decode cX5_type 0 = .ok (.iload_n 1, 1) := by decide +kernel
theorem dX5_type_1 : decode cX5_type 1 = .ok (.bipush 32, 2) := by decide +kernel
theorem dX5_type_3 : decode cX5_type 3 = .ok (.if_icmp .lt 9, 3) := by decide +kernel
theorem dX5_type_6 : decode cX5_type 6 = .ok (.iload_n 1, 1) := by decide +kernel
theorem dX5_type_7 : decode cX5_type 7 = .ok (.bipush 126, 2) := by decide +kernel
theorem dX5_type_9 : decode cX5_type 9 = .ok (.if_icmp .le 6, 3) := by decide +kernel
theorem dX5_type_12 : decode cX5_type 12 = .ok (.bipush (-2), 2) := by decide +kernel
theorem dX5_type_14 : decode cX5_type 14 = .ok (.ireturn, 1) := by decide +kernel
theorem dX5_type_15 : decode cX5_type 15 = .ok (.aload_n 0, 1) := by decide +kernel
theorem dX5_type_16 : decode cX5_type 16 = .ok (.getfield 38, 3) := by decide +kernel
theorem dX5_type_19 : decode cX5_type 19 = .ok (.invokevirtual 60, 3) := by decide +kernel
theorem dX5_type_22 : decode cX5_type 22 = .ok (.ifCond .eq 6, 3) := by decide +kernel
theorem dX5_type_25 : decode cX5_type 25 = .ok (.bipush (-4), 2) := by decide +kernel
theorem dX5_type_27 : decode cX5_type 27 = .ok (.ireturn, 1) := by decide +kernel
theorem dX5_type_28 : decode cX5_type 28 = .ok (.aload_n 0, 1) := by decide +kernel
theorem dX5_type_29 : decode cX5_type 29 = .ok (.getfield 38, 3) := by decide +kernel
theorem dX5_type_32 : decode cX5_type 32 = .ok (.iload_n 1, 1) := by decide +kernel
theorem dX5_type_33 : decode cX5_type 33 = .ok (.i2c, 1) := by decide +kernel
theorem dX5_type_34 : decode cX5_type 34 = .ok (.invokevirtual 24, 3) := by decide +kernel
theorem dX5_type_37 : decode cX5_type 37 = .ok (.aload_n 0, 1) := by decide +kernel
theorem dX5_type_38 : decode cX5_type 38 = .ok (.getfield 38, 3) := by decide +kernel
theorem dX5_type_41 : decode cX5_type 41 = .ok (.invokevirtual 64, 3) := by decide +kernel
theorem dX5_type_44 : decode cX5_type 44 = .ok (.ireturn, 1) := by decide +kernel
theorem dX5_clear_0 : decode cX5_clear 0 = .ok (.aload_n 0, 1) := by decide +kernel
theorem dX5_clear_1 : decode cX5_clear 1 = .ok (.getfield 38, 3) := by decide +kernel
theorem dX5_clear_4 : decode cX5_clear 4 = .ok (.invokevirtual 64, 3) := by decide +kernel
theorem dX5_clear_7 : decode cX5_clear 7 = .ok (.istore_n 1, 1) := by decide +kernel
theorem dX5_clear_8 : decode cX5_clear 8 = .ok (.aload_n 0, 1) := by decide +kernel
theorem dX5_clear_9 : decode cX5_clear 9 = .ok (.getfield 38, 3) := by decide +kernel
theorem dX5_clear_12 : decode cX5_clear 12 = .ok (.invokevirtual 35, 3) := by decide +kernel
theorem dX5_clear_15 : decode cX5_clear 15 = .ok (.iload_n 1, 1) := by decide +kernel
theorem dX5_clear_16 : decode cX5_clear 16 = .ok (.ireturn, 1) := by decide +kernel
theorem dX5_fault_0 : decode cX5_fault 0 = .ok (.aload_n 0, 1) := by decide +kernel
theorem dX5_fault_1 : decode cX5_fault 1 = .ok (.getfield 38, 3) := by decide +kernel
theorem dX5_fault_4 : decode cX5_fault 4 = .ok (.invokevirtual 65, 3) := by decide +kernel
theorem dX5_fault_7 : decode cX5_fault 7 = .ok (.ireturn, 1) := by decide +kernel
theorem dX5_layTrack_0 : decode cX5_layTrack 0 = .ok (.aload_n 0, 1) := by decide +kernel
theorem dX5_layTrack_1 : decode cX5_layTrack 1 = .ok (.getfield 38, 3) := by decide +kernel
theorem dX5_layTrack_4 : decode cX5_layTrack 4 = .ok (.invokevirtual 65, 3) := by decide +kernel
theorem dX5_layTrack_7 : decode cX5_layTrack 7 = .ok (.iconst (-1), 1) := by decide +kernel
theorem dX5_layTrack_8 : decode cX5_layTrack 8 = .ok (.if_icmp .eq 6, 3) := by decide +kernel
theorem dX5_layTrack_11 : decode cX5_layTrack 11 = .ok (.bipush (-3), 2) := by decide +kernel
theorem dX5_layTrack_13 : decode cX5_layTrack 13 = .ok (.ireturn, 1) := by decide +kernel
theorem dX5_layTrack_14 : decode cX5_layTrack 14 = .ok (.aload_n 0, 1) := by decide +kernel
theorem dX5_layTrack_15 : decode cX5_layTrack 15 = .ok (.getfield 52, 3) := by decide +kernel
theorem dX5_layTrack_18 : decode cX5_layTrack 18 = .ok (.aload_n 0, 1) := by decide +kernel
theorem dX5_layTrack_19 : decode cX5_layTrack 19 = .ok (.getfield 42, 3) := by decide +kernel
theorem dX5_layTrack_22 : decode cX5_layTrack 22 = .ok (.invokevirtual 68, 3) := by decide +kernel
theorem dX5_layTrack_25 : decode cX5_layTrack 25 = .ok (.aload_n 0, 1) := by decide +kernel
theorem dX5_layTrack_26 : decode cX5_layTrack 26 = .ok (.getfield 42, 3) := by decide +kernel
theorem dX5_layTrack_29 : decode cX5_layTrack 29 = .ok (.invokevirtual 71, 3) := by decide +kernel
theorem dX5_layTrack_32 : decode cX5_layTrack 32 = .ok (.aload_n 0, 1) := by decide +kernel
theorem dX5_layTrack_33 : decode cX5_layTrack 33 = .ok (.getfield 38, 3) := by decide +kernel
theorem dX5_layTrack_36 : decode cX5_layTrack 36 = .ok (.aload_n 0, 1) := by decide +kernel
theorem dX5_layTrack_37 : decode cX5_layTrack 37 = .ok (.getfield 42, 3) := by decide +kernel
theorem dX5_layTrack_40 : decode cX5_layTrack 40 = .ok (.invokevirtual 31, 3) := by decide +kernel
theorem dX5_layTrack_43 : decode cX5_layTrack 43 = .ok (.aload_n 0, 1) := by decide +kernel
theorem dX5_layTrack_44 : decode cX5_layTrack 44 = .ok (.getfield 38, 3) := by decide +kernel
theorem dX5_layTrack_47 : decode cX5_layTrack 47 = .ok (.invokevirtual 35, 3) := by decide +kernel
theorem dX5_layTrack_50 : decode cX5_layTrack 50 = .ok (.aload_n 0, 1) := by decide +kernel
theorem dX5_layTrack_51 : decode cX5_layTrack 51 = .ok (.getfield 42, 3) := by decide +kernel
theorem dX5_layTrack_54 : decode cX5_layTrack 54 = .ok (.getfield 74, 3) := by decide +kernel
theorem dX5_layTrack_57 : decode cX5_layTrack 57 = .ok (.ireturn, 1) := by decide +kernel
theorem dX5_set_0 : decode cX5_set 0 = .ok (.iload_n 1, 1) := by decide +kernel
theorem dX5_set_1 : decode cX5_set 1 = .ok (.invokestatic 78, 3) := by decide +kernel
theorem dX5_set_4 : decode cX5_set 4 = .ok (.ifCond .eq 21, 3) := by decide +kernel
theorem dX5_set_7 : decode cX5_set 7 = .ok (.iload_n 2, 1) := by decide +kernel
theorem dX5_set_8 : decode cX5_set 8 = .ok (.getstatic 82, 3) := by decide +kernel
theorem dX5_set_11 : decode cX5_set 11 = .ok (.iload_n 1, 1) := by decide +kernel
theorem dX5_set_12 : decode cX5_set 12 = .ok (.iaload, 1) := by decide +kernel
theorem dX5_set_13 : decode cX5_set 13 = .ok (.if_icmp .lt 12, 3) := by decide +kernel
theorem dX5_set_16 : decode cX5_set 16 = .ok (.iload_n 2, 1) := by decide +kernel
theorem dX5_set_17 : decode cX5_set 17 = .ok (.getstatic 86, 3) := by decide +kernel
theorem dX5_set_20 : decode cX5_set 20 = .ok (.iload_n 1, 1) := by decide +kernel
theorem dX5_set_21 : decode cX5_set 21 = .ok (.iaload, 1) := by decide +kernel
theorem dX5_set_22 : decode cX5_set 22 = .ok (.if_icmp .le 6, 3) := by decide +kernel
theorem dX5_set_25 : decode cX5_set 25 = .ok (.bipush (-2), 2) := by decide +kernel
theorem dX5_set_27 : decode cX5_set 27 = .ok (.ireturn, 1) := by decide +kernel
theorem dX5_set_28 : decode cX5_set 28 = .ok (.aload_n 0, 1) := by decide +kernel
theorem dX5_set_29 : decode cX5_set 29 = .ok (.getfield 52, 3) := by decide +kernel
theorem dX5_set_32 : decode cX5_set 32 = .ok (.aload_n 0, 1) := by decide +kernel
theorem dX5_set_33 : decode cX5_set 33 = .ok (.getfield 42, 3) := by decide +kernel
theorem dX5_set_36 : decode cX5_set 36 = .ok (.invokevirtual 68, 3) := by decide +kernel
theorem dX5_set_39 : decode cX5_set 39 = .ok (.aload_n 0, 1) := by decide +kernel
theorem dX5_set_40 : decode cX5_set 40 = .ok (.getfield 42, 3) := by decide +kernel
theorem dX5_set_43 : decode cX5_set 43 = .ok (.getfield 89, 3) := by decide +kernel
theorem dX5_set_46 : decode cX5_set 46 = .ok (.iload_n 1, 1) := by decide +kernel
theorem dX5_set_47 : decode cX5_set 47 = .ok (.iaload, 1) := by decide +kernel
theorem dX5_set_48 : decode cX5_set 48 = .ok (.istore_n 3, 1) := by decide +kernel
theorem dX5_set_49 : decode cX5_set 49 = .ok (.aload_n 0, 1) := by decide +kernel
theorem dX5_set_50 : decode cX5_set 50 = .ok (.getfield 42, 3) := by decide +kernel
theorem dX5_set_53 : decode cX5_set 53 = .ok (.getfield 89, 3) := by decide +kernel
theorem dX5_set_56 : decode cX5_set 56 = .ok (.iload_n 1, 1) := by decide +kernel
theorem dX5_set_57 : decode cX5_set 57 = .ok (.iload_n 2, 1) := by decide +kernel
theorem dX5_set_58 : decode cX5_set 58 = .ok (.iastore, 1) := by decide +kernel
theorem dX5_set_59 : decode cX5_set 59 = .ok (.iload_n 3, 1) := by decide +kernel
theorem dX5_set_60 : decode cX5_set 60 = .ok (.ireturn, 1) := by decide +kernel
theorem dX5_dig_0 : decode cX5_dig 0 = .ok (.iload_n 1, 1) := by decide +kernel
theorem dX5_dig_1 : decode cX5_dig 1 = .ok (.iconst 1, 1) := by decide +kernel
theorem dX5_dig_2 : decode cX5_dig 2 = .ok (.if_icmp .lt 10, 3) := by decide +kernel
theorem dX5_dig_5 : decode cX5_dig 5 = .ok (.iload_n 1, 1) := by decide +kernel
theorem dX5_dig_6 : decode cX5_dig 6 = .ok (.sipush 1000, 3) := by decide +kernel
theorem dX5_dig_9 : decode cX5_dig 9 = .ok (.if_icmp .le 6, 3) := by decide +kernel
theorem dX5_dig_12 : decode cX5_dig 12 = .ok (.bipush (-2), 2) := by decide +kernel
theorem dX5_dig_14 : decode cX5_dig 14 = .ok (.ireturn, 1) := by decide +kernel
theorem dX5_dig_15 : decode cX5_dig 15 = .ok (.aload_n 0, 1) := by decide +kernel
theorem dX5_dig_16 : decode cX5_dig 16 = .ok (.getfield 42, 3) := by decide +kernel
theorem dX5_dig_19 : decode cX5_dig 19 = .ok (.getfield 92, 3) := by decide +kernel
theorem dX5_dig_22 : decode cX5_dig 22 = .ok (.iload_n 1, 1) := by decide +kernel
theorem dX5_dig_23 : decode cX5_dig 23 = .ok (.iadd, 1) := by decide +kernel
theorem dX5_dig_24 : decode cX5_dig 24 = .ok (.sipush 5000, 3) := by decide +kernel
theorem dX5_dig_27 : decode cX5_dig 27 = .ok (.if_icmp .le 6, 3) := by decide +kernel
theorem dX5_dig_30 : decode cX5_dig 30 = .ok (.bipush (-4), 2) := by decide +kernel
theorem dX5_dig_32 : decode cX5_dig 32 = .ok (.ireturn, 1) := by decide +kernel
theorem dX5_dig_33 : decode cX5_dig 33 = .ok (.aload_n 0, 1) := by decide +kernel
theorem dX5_dig_34 : decode cX5_dig 34 = .ok (.getfield 52, 3) := by decide +kernel
theorem dX5_dig_37 : decode cX5_dig 37 = .ok (.aload_n 0, 1) := by decide +kernel
theorem dX5_dig_38 : decode cX5_dig 38 = .ok (.getfield 42, 3) := by decide +kernel
theorem dX5_dig_41 : decode cX5_dig 41 = .ok (.invokevirtual 68, 3) := by decide +kernel
theorem dX5_dig_44 : decode cX5_dig 44 = .ok (.aload_n 0, 1) := by decide +kernel
theorem dX5_dig_45 : decode cX5_dig 45 = .ok (.getfield 42, 3) := by decide +kernel
theorem dX5_dig_48 : decode cX5_dig 48 = .ok (.dup, 1) := by decide +kernel
theorem dX5_dig_49 : decode cX5_dig 49 = .ok (.getfield 92, 3) := by decide +kernel
theorem dX5_dig_52 : decode cX5_dig 52 = .ok (.iload_n 1, 1) := by decide +kernel
theorem dX5_dig_53 : decode cX5_dig 53 = .ok (.iadd, 1) := by decide +kernel
theorem dX5_dig_54 : decode cX5_dig 54 = .ok (.putfield 92, 3) := by decide +kernel
theorem dX5_dig_57 : decode cX5_dig 57 = .ok (.aload_n 0, 1) := by decide +kernel
theorem dX5_dig_58 : decode cX5_dig 58 = .ok (.getfield 42, 3) := by decide +kernel
theorem dX5_dig_61 : decode cX5_dig 61 = .ok (.dup, 1) := by decide +kernel
theorem dX5_dig_62 : decode cX5_dig 62 = .ok (.getfield 95, 3) := by decide +kernel
theorem dX5_dig_65 : decode cX5_dig 65 = .ok (.iload_n 1, 1) := by decide +kernel
theorem dX5_dig_66 : decode cX5_dig 66 = .ok (.iadd, 1) := by decide +kernel
theorem dX5_dig_67 : decode cX5_dig 67 = .ok (.putfield 95, 3) := by decide +kernel
theorem dX5_dig_70 : decode cX5_dig 70 = .ok (.aload_n 0, 1) := by decide +kernel
theorem dX5_dig_71 : decode cX5_dig 71 = .ok (.getfield 42, 3) := by decide +kernel
theorem dX5_dig_74 : decode cX5_dig 74 = .ok (.getfield 92, 3) := by decide +kernel
theorem dX5_dig_77 : decode cX5_dig 77 = .ok (.ireturn, 1) := by decide +kernel
theorem dX5_addTrain_0 : decode cX5_addTrain 0 = .ok (.iload_n 1, 1) := by decide +kernel
theorem dX5_addTrain_1 : decode cX5_addTrain 1 = .ok (.iconst 1, 1) := by decide +kernel
theorem dX5_addTrain_2 : decode cX5_addTrain 2 = .ok (.if_icmp .lt 16, 3) := by decide +kernel
theorem dX5_addTrain_5 : decode cX5_addTrain 5 = .ok (.iload_n 1, 1) := by decide +kernel
theorem dX5_addTrain_6 : decode cX5_addTrain 6 = .ok (.bipush 6, 2) := by decide +kernel
theorem dX5_addTrain_8 : decode cX5_addTrain 8 = .ok (.if_icmp .gt 10, 3) := by decide +kernel
theorem dX5_addTrain_11 : decode cX5_addTrain 11 = .ok (.iload_n 2, 1) := by decide +kernel
theorem dX5_addTrain_12 : decode cX5_addTrain 12 = .ok (.invokestatic 98, 3) := by decide +kernel
theorem dX5_addTrain_15 : decode cX5_addTrain 15 = .ok (.ifCond .ne 6, 3) := by decide +kernel
theorem dX5_addTrain_18 : decode cX5_addTrain 18 = .ok (.bipush (-2), 2) := by decide +kernel
theorem dX5_addTrain_20 : decode cX5_addTrain 20 = .ok (.ireturn, 1) := by decide +kernel
theorem dX5_addTrain_21 : decode cX5_addTrain 21 = .ok (.aload_n 0, 1) := by decide +kernel
theorem dX5_addTrain_22 : decode cX5_addTrain 22 = .ok (.getfield 42, 3) := by decide +kernel
theorem dX5_addTrain_25 : decode cX5_addTrain 25 = .ok (.getfield 101, 3) := by decide +kernel
theorem dX5_addTrain_28 : decode cX5_addTrain 28 = .ok (.iconst 4, 1) := by decide +kernel
theorem dX5_addTrain_29 : decode cX5_addTrain 29 = .ok (.if_icmp .lt 6, 3) := by decide +kernel
theorem dX5_addTrain_32 : decode cX5_addTrain 32 = .ok (.bipush (-4), 2) := by decide +kernel
theorem dX5_addTrain_34 : decode cX5_addTrain 34 = .ok (.ireturn, 1) := by decide +kernel
theorem dX5_addTrain_35 : decode cX5_addTrain 35 = .ok (.aload_n 0, 1) := by decide +kernel
theorem dX5_addTrain_36 : decode cX5_addTrain 36 = .ok (.getfield 52, 3) := by decide +kernel
theorem dX5_addTrain_39 : decode cX5_addTrain 39 = .ok (.aload_n 0, 1) := by decide +kernel
theorem dX5_addTrain_40 : decode cX5_addTrain 40 = .ok (.getfield 42, 3) := by decide +kernel
theorem dX5_addTrain_43 : decode cX5_addTrain 43 = .ok (.invokevirtual 68, 3) := by decide +kernel
theorem dX5_addTrain_46 : decode cX5_addTrain 46 = .ok (.aload_n 0, 1) := by decide +kernel
theorem dX5_addTrain_47 : decode cX5_addTrain 47 = .ok (.getfield 42, 3) := by decide +kernel
theorem dX5_addTrain_50 : decode cX5_addTrain 50 = .ok (.iload_n 1, 1) := by decide +kernel
theorem dX5_addTrain_51 : decode cX5_addTrain 51 = .ok (.iload_n 2, 1) := by decide +kernel
theorem dX5_addTrain_52 : decode cX5_addTrain 52 = .ok (.invokevirtual 104, 3) := by decide +kernel
theorem dX5_addTrain_55 : decode cX5_addTrain 55 = .ok (.ireturn, 1) := by decide +kernel
theorem dX5_dropTrain_0 : decode cX5_dropTrain 0 = .ok (.aload_n 0, 1) := by decide +kernel
theorem dX5_dropTrain_1 : decode cX5_dropTrain 1 = .ok (.getfield 42, 3) := by decide +kernel
theorem dX5_dropTrain_4 : decode cX5_dropTrain 4 = .ok (.iload_n 1, 1) := by decide +kernel
theorem dX5_dropTrain_5 : decode cX5_dropTrain 5 = .ok (.invokevirtual 108, 3) := by decide +kernel
theorem dX5_dropTrain_8 : decode cX5_dropTrain 8 = .ok (.astore_n 2, 1) := by decide +kernel
theorem dX5_dropTrain_9 : decode cX5_dropTrain 9 = .ok (.aload_n 2, 1) := by decide +kernel
theorem dX5_dropTrain_10 : decode cX5_dropTrain 10 = .ok (.ifnonnull 6, 3) := by decide +kernel
theorem dX5_dropTrain_13 : decode cX5_dropTrain 13 = .ok (.bipush (-2), 2) := by decide +kernel
theorem dX5_dropTrain_15 : decode cX5_dropTrain 15 = .ok (.ireturn, 1) := by decide +kernel
theorem dX5_dropTrain_16 : decode cX5_dropTrain 16 = .ok (.aload_n 0, 1) := by decide +kernel
theorem dX5_dropTrain_17 : decode cX5_dropTrain 17 = .ok (.getfield 52, 3) := by decide +kernel
theorem dX5_dropTrain_20 : decode cX5_dropTrain 20 = .ok (.aload_n 0, 1) := by decide +kernel
theorem dX5_dropTrain_21 : decode cX5_dropTrain 21 = .ok (.getfield 42, 3) := by decide +kernel
theorem dX5_dropTrain_24 : decode cX5_dropTrain 24 = .ok (.invokevirtual 68, 3) := by decide +kernel
theorem dX5_dropTrain_27 : decode cX5_dropTrain 27 = .ok (.aload_n 2, 1) := by decide +kernel
theorem dX5_dropTrain_28 : decode cX5_dropTrain 28 = .ok (.getfield 112, 3) := by decide +kernel
theorem dX5_dropTrain_31 : decode cX5_dropTrain 31 = .ok (.istore_n 3, 1) := by decide +kernel
theorem dX5_dropTrain_32 : decode cX5_dropTrain 32 = .ok (.aload_n 0, 1) := by decide +kernel
theorem dX5_dropTrain_33 : decode cX5_dropTrain 33 = .ok (.getfield 42, 3) := by decide +kernel
theorem dX5_dropTrain_36 : decode cX5_dropTrain 36 = .ok (.iload_n 1, 1) := by decide +kernel
theorem dX5_dropTrain_37 : decode cX5_dropTrain 37 = .ok (.invokevirtual 117, 3) := by decide +kernel
theorem dX5_dropTrain_40 : decode cX5_dropTrain 40 = .ok (.iload_n 3, 1) := by decide +kernel
theorem dX5_dropTrain_41 : decode cX5_dropTrain 41 = .ok (.ireturn, 1) := by decide +kernel
theorem dX5_setLoad_0 : decode cX5_setLoad 0 = .ok (.aload_n 0, 1) := by decide +kernel
theorem dX5_setLoad_1 : decode cX5_setLoad 1 = .ok (.getfield 42, 3) := by decide +kernel
theorem dX5_setLoad_4 : decode cX5_setLoad 4 = .ok (.iload_n 1, 1) := by decide +kernel
theorem dX5_setLoad_5 : decode cX5_setLoad 5 = .ok (.invokevirtual 108, 3) := by decide +kernel
theorem dX5_setLoad_8 : decode cX5_setLoad 8 = .ok (.astore_n 3, 1) := by decide +kernel
theorem dX5_setLoad_9 : decode cX5_setLoad 9 = .ok (.aload_n 3, 1) := by decide +kernel
theorem dX5_setLoad_10 : decode cX5_setLoad 10 = .ok (.ifnull 10, 3) := by decide +kernel
theorem dX5_setLoad_13 : decode cX5_setLoad 13 = .ok (.iload_n 2, 1) := by decide +kernel
theorem dX5_setLoad_14 : decode cX5_setLoad 14 = .ok (.invokestatic 98, 3) := by decide +kernel
theorem dX5_setLoad_17 : decode cX5_setLoad 17 = .ok (.ifCond .ne 6, 3) := by decide +kernel
theorem dX5_setLoad_20 : decode cX5_setLoad 20 = .ok (.bipush (-2), 2) := by decide +kernel
theorem dX5_setLoad_22 : decode cX5_setLoad 22 = .ok (.ireturn, 1) := by decide +kernel
theorem dX5_setLoad_23 : decode cX5_setLoad 23 = .ok (.aload_n 0, 1) := by decide +kernel
theorem dX5_setLoad_24 : decode cX5_setLoad 24 = .ok (.getfield 52, 3) := by decide +kernel
theorem dX5_setLoad_27 : decode cX5_setLoad 27 = .ok (.aload_n 0, 1) := by decide +kernel
theorem dX5_setLoad_28 : decode cX5_setLoad 28 = .ok (.getfield 42, 3) := by decide +kernel
theorem dX5_setLoad_31 : decode cX5_setLoad 31 = .ok (.invokevirtual 68, 3) := by decide +kernel
theorem dX5_setLoad_34 : decode cX5_setLoad 34 = .ok (.aload_n 3, 1) := by decide +kernel
theorem dX5_setLoad_35 : decode cX5_setLoad 35 = .ok (.getfield 121, 3) := by decide +kernel
theorem dX5_setLoad_38 : decode cX5_setLoad 38 = .ok (.istore 4, 2) := by decide +kernel
theorem dX5_setLoad_40 : decode cX5_setLoad 40 = .ok (.aload_n 3, 1) := by decide +kernel
theorem dX5_setLoad_41 : decode cX5_setLoad 41 = .ok (.iload_n 2, 1) := by decide +kernel
theorem dX5_setLoad_42 : decode cX5_setLoad 42 = .ok (.putfield 121, 3) := by decide +kernel
theorem dX5_setLoad_45 : decode cX5_setLoad 45 = .ok (.iload 4, 2) := by decide +kernel
theorem dX5_setLoad_47 : decode cX5_setLoad 47 = .ok (.ireturn, 1) := by decide +kernel
theorem dX5_run_0 : decode cX5_run 0 = .ok (.iload_n 1, 1) := by decide +kernel
theorem dX5_run_1 : decode cX5_run 1 = .ok (.invokestatic 124, 3) := by decide +kernel
theorem dX5_run_4 : decode cX5_run 4 = .ok (.ifCond .ne 6, 3) := by decide +kernel
theorem dX5_run_7 : decode cX5_run 7 = .ok (.bipush (-2), 2) := by decide +kernel
theorem dX5_run_9 : decode cX5_run 9 = .ok (.ireturn, 1) := by decide +kernel
theorem dX5_run_10 : decode cX5_run 10 = .ok (.aload_n 0, 1) := by decide +kernel
theorem dX5_run_11 : decode cX5_run 11 = .ok (.getfield 52, 3) := by decide +kernel
theorem dX5_run_14 : decode cX5_run 14 = .ok (.aload_n 0, 1) := by decide +kernel
theorem dX5_run_15 : decode cX5_run 15 = .ok (.getfield 42, 3) := by decide +kernel
theorem dX5_run_18 : decode cX5_run 18 = .ok (.invokevirtual 68, 3) := by decide +kernel
theorem dX5_run_21 : decode cX5_run 21 = .ok (.aload_n 0, 1) := by decide +kernel
theorem dX5_run_22 : decode cX5_run 22 = .ok (.getfield 42, 3) := by decide +kernel
theorem dX5_run_25 : decode cX5_run 25 = .ok (.iload_n 1, 1) := by decide +kernel
theorem dX5_run_26 : decode cX5_run 26 = .ok (.invokevirtual 127, 3) := by decide +kernel
theorem dX5_run_29 : decode cX5_run 29 = .ok (.ireturn, 1) := by decide +kernel
theorem dX5_undo_0 : decode cX5_undo 0 = .ok (.aload_n 0, 1) := by decide +kernel
theorem dX5_undo_1 : decode cX5_undo 1 = .ok (.getfield 52, 3) := by decide +kernel
theorem dX5_undo_4 : decode cX5_undo 4 = .ok (.invokevirtual 131, 3) := by decide +kernel
theorem dX5_undo_7 : decode cX5_undo 7 = .ok (.ifCond .ne 6, 3) := by decide +kernel
theorem dX5_undo_10 : decode cX5_undo 10 = .ok (.bipush (-3), 2) := by decide +kernel
theorem dX5_undo_12 : decode cX5_undo 12 = .ok (.ireturn, 1) := by decide +kernel
theorem dX5_undo_13 : decode cX5_undo 13 = .ok (.aload_n 0, 1) := by decide +kernel
theorem dX5_undo_14 : decode cX5_undo 14 = .ok (.getfield 52, 3) := by decide +kernel
theorem dX5_undo_17 : decode cX5_undo 17 = .ok (.aload_n 0, 1) := by decide +kernel
theorem dX5_undo_18 : decode cX5_undo 18 = .ok (.getfield 42, 3) := by decide +kernel
theorem dX5_undo_21 : decode cX5_undo 21 = .ok (.invokevirtual 134, 3) := by decide +kernel
theorem dX5_undo_24 : decode cX5_undo 24 = .ok (.aload_n 0, 1) := by decide +kernel
theorem dX5_undo_25 : decode cX5_undo 25 = .ok (.getfield 52, 3) := by decide +kernel
theorem dX5_undo_28 : decode cX5_undo 28 = .ok (.invokevirtual 131, 3) := by decide +kernel
theorem dX5_undo_31 : decode cX5_undo 31 = .ok (.ireturn, 1) := by decide +kernel
theorem dX5_keep_0 : decode cX5_keep 0 = .ok (.iload_n 1, 1) := by decide +kernel
theorem dX5_keep_1 : decode cX5_keep 1 = .ok (.invokestatic 137, 3) := by decide +kernel
theorem dX5_keep_4 : decode cX5_keep 4 = .ok (.ifCond .ne 6, 3) := by decide +kernel
theorem dX5_keep_7 : decode cX5_keep 7 = .ok (.bipush (-2), 2) := by decide +kernel
theorem dX5_keep_9 : decode cX5_keep 9 = .ok (.ireturn, 1) := by decide +kernel
theorem dX5_keep_10 : decode cX5_keep 10 = .ok (.aload_n 0, 1) := by decide +kernel
theorem dX5_keep_11 : decode cX5_keep 11 = .ok (.getfield 56, 3) := by decide +kernel
theorem dX5_keep_14 : decode cX5_keep 14 = .ok (.iload_n 1, 1) := by decide +kernel
theorem dX5_keep_15 : decode cX5_keep 15 = .ok (.aaload, 1) := by decide +kernel
theorem dX5_keep_16 : decode cX5_keep 16 = .ok (.aload_n 0, 1) := by decide +kernel
theorem dX5_keep_17 : decode cX5_keep 17 = .ok (.getfield 42, 3) := by decide +kernel
theorem dX5_keep_20 : decode cX5_keep 20 = .ok (.invokevirtual 140, 3) := by decide +kernel
theorem dX5_keep_23 : decode cX5_keep 23 = .ok (.aload_n 0, 1) := by decide +kernel
theorem dX5_keep_24 : decode cX5_keep 24 = .ok (.dup, 1) := by decide +kernel
theorem dX5_keep_25 : decode cX5_keep 25 = .ok (.getfield 143, 3) := by decide +kernel
theorem dX5_keep_28 : decode cX5_keep 28 = .ok (.iconst 1, 1) := by decide +kernel
theorem dX5_keep_29 : decode cX5_keep 29 = .ok (.iload_n 1, 1) := by decide +kernel
theorem dX5_keep_30 : decode cX5_keep 30 = .ok (.ishl, 1) := by decide +kernel
theorem dX5_keep_31 : decode cX5_keep 31 = .ok (.ior, 1) := by decide +kernel
theorem dX5_keep_32 : decode cX5_keep 32 = .ok (.putfield 143, 3) := by decide +kernel
theorem dX5_keep_35 : decode cX5_keep 35 = .ok (.aload_n 0, 1) := by decide +kernel
theorem dX5_keep_36 : decode cX5_keep 36 = .ok (.getfield 42, 3) := by decide +kernel
theorem dX5_keep_39 : decode cX5_keep 39 = .ok (.getfield 146, 3) := by decide +kernel
theorem dX5_keep_42 : decode cX5_keep 42 = .ok (.ireturn, 1) := by decide +kernel
theorem dX5_back_0 : decode cX5_back 0 = .ok (.iload_n 1, 1) := by decide +kernel
theorem dX5_back_1 : decode cX5_back 1 = .ok (.invokestatic 137, 3) := by decide +kernel
theorem dX5_back_4 : decode cX5_back 4 = .ok (.ifCond .ne 6, 3) := by decide +kernel
theorem dX5_back_7 : decode cX5_back 7 = .ok (.bipush (-2), 2) := by decide +kernel
theorem dX5_back_9 : decode cX5_back 9 = .ok (.ireturn, 1) := by decide +kernel
theorem dX5_back_10 : decode cX5_back 10 = .ok (.aload_n 0, 1) := by decide +kernel
theorem dX5_back_11 : decode cX5_back 11 = .ok (.getfield 143, 3) := by decide +kernel
theorem dX5_back_14 : decode cX5_back 14 = .ok (.iconst 1, 1) := by decide +kernel
theorem dX5_back_15 : decode cX5_back 15 = .ok (.iload_n 1, 1) := by decide +kernel
theorem dX5_back_16 : decode cX5_back 16 = .ok (.ishl, 1) := by decide +kernel
theorem dX5_back_17 : decode cX5_back 17 = .ok (.iand, 1) := by decide +kernel
theorem dX5_back_18 : decode cX5_back 18 = .ok (.ifCond .ne 6, 3) := by decide +kernel
theorem dX5_back_21 : decode cX5_back 21 = .ok (.bipush (-3), 2) := by decide +kernel
theorem dX5_back_23 : decode cX5_back 23 = .ok (.ireturn, 1) := by decide +kernel
theorem dX5_back_24 : decode cX5_back 24 = .ok (.aload_n 0, 1) := by decide +kernel
theorem dX5_back_25 : decode cX5_back 25 = .ok (.getfield 52, 3) := by decide +kernel
theorem dX5_back_28 : decode cX5_back 28 = .ok (.aload_n 0, 1) := by decide +kernel
theorem dX5_back_29 : decode cX5_back 29 = .ok (.getfield 42, 3) := by decide +kernel
theorem dX5_back_32 : decode cX5_back 32 = .ok (.invokevirtual 68, 3) := by decide +kernel
theorem dX5_back_35 : decode cX5_back 35 = .ok (.aload_n 0, 1) := by decide +kernel
theorem dX5_back_36 : decode cX5_back 36 = .ok (.getfield 42, 3) := by decide +kernel
theorem dX5_back_39 : decode cX5_back 39 = .ok (.aload_n 0, 1) := by decide +kernel
theorem dX5_back_40 : decode cX5_back 40 = .ok (.getfield 56, 3) := by decide +kernel
theorem dX5_back_43 : decode cX5_back 43 = .ok (.iload_n 1, 1) := by decide +kernel
theorem dX5_back_44 : decode cX5_back 44 = .ok (.aaload, 1) := by decide +kernel
theorem dX5_back_45 : decode cX5_back 45 = .ok (.invokevirtual 140, 3) := by decide +kernel
theorem dX5_back_48 : decode cX5_back 48 = .ok (.aload_n 0, 1) := by decide +kernel
theorem dX5_back_49 : decode cX5_back 49 = .ok (.getfield 42, 3) := by decide +kernel
theorem dX5_back_52 : decode cX5_back 52 = .ok (.getfield 146, 3) := by decide +kernel
theorem dX5_back_55 : decode cX5_back 55 = .ok (.ireturn, 1) := by decide +kernel
theorem dX5_segment_0 : decode cX5_segment 0 = .ok (.aload_n 0, 1) := by decide +kernel
theorem dX5_segment_1 : decode cX5_segment 1 = .ok (.getfield 42, 3) := by decide +kernel
theorem dX5_segment_4 : decode cX5_segment 4 = .ok (.iload_n 1, 1) := by decide +kernel
theorem dX5_segment_5 : decode cX5_segment 5 = .ok (.invokevirtual 149, 3) := by decide +kernel
theorem dX5_segment_8 : decode cX5_segment 8 = .ok (.astore_n 3, 1) := by decide +kernel
theorem dX5_segment_9 : decode cX5_segment 9 = .ok (.aload_n 3, 1) := by decide +kernel
theorem dX5_segment_10 : decode cX5_segment 10 = .ok (.ifnonnull 6, 3) := by decide +kernel
theorem dX5_segment_13 : decode cX5_segment 13 = .ok (.bipush (-2), 2) := by decide +kernel
theorem dX5_segment_15 : decode cX5_segment 15 = .ok (.ireturn, 1) := by decide +kernel
theorem dX5_segment_16 : decode cX5_segment 16 = .ok (.iload_n 2, 1) := by decide +kernel
theorem dX5_segment_17 : decode cX5_segment 17 = .ok (.tableswitch 121 0 6 #[43, 48, 61, 66, 75, 84, 98], 43) := by decide +kernel
theorem dX5_segment_60 : decode cX5_segment 60 = .ok (.aload_n 3, 1) := by decide +kernel
theorem dX5_segment_61 : decode cX5_segment 61 = .ok (.getfield 153, 3) := by decide +kernel
theorem dX5_segment_64 : decode cX5_segment 64 = .ok (.ireturn, 1) := by decide +kernel
theorem dX5_segment_65 : decode cX5_segment 65 = .ok (.aload_n 3, 1) := by decide +kernel
theorem dX5_segment_66 : decode cX5_segment 66 = .ok (.invokevirtual 158, 3) := by decide +kernel
theorem dX5_segment_69 : decode cX5_segment 69 = .ok (.ifCond .eq 7, 3) := by decide +kernel
theorem dX5_segment_72 : decode cX5_segment 72 = .ok (.iconst 1, 1) := by decide +kernel
theorem dX5_segment_73 : decode cX5_segment 73 = .ok (.goto 4, 3) := by decide +kernel
theorem dX5_segment_76 : decode cX5_segment 76 = .ok (.iconst 0, 1) := by decide +kernel
theorem dX5_segment_77 : decode cX5_segment 77 = .ok (.ireturn, 1) := by decide +kernel
theorem dX5_segment_78 : decode cX5_segment 78 = .ok (.aload_n 3, 1) := by decide +kernel
theorem dX5_segment_79 : decode cX5_segment 79 = .ok (.getfield 161, 3) := by decide +kernel
theorem dX5_segment_82 : decode cX5_segment 82 = .ok (.ireturn, 1) := by decide +kernel
theorem dX5_segment_83 : decode cX5_segment 83 = .ok (.aload_n 0, 1) := by decide +kernel
theorem dX5_segment_84 : decode cX5_segment 84 = .ok (.getfield 42, 3) := by decide +kernel
theorem dX5_segment_87 : decode cX5_segment 87 = .ok (.iload_n 1, 1) := by decide +kernel
theorem dX5_segment_88 : decode cX5_segment 88 = .ok (.invokevirtual 164, 3) := by decide +kernel
theorem dX5_segment_91 : decode cX5_segment 91 = .ok (.ireturn, 1) := by decide +kernel
theorem dX5_segment_92 : decode cX5_segment 92 = .ok (.aload_n 0, 1) := by decide +kernel
theorem dX5_segment_93 : decode cX5_segment 93 = .ok (.getfield 42, 3) := by decide +kernel
theorem dX5_segment_96 : decode cX5_segment 96 = .ok (.iload_n 1, 1) := by decide +kernel
theorem dX5_segment_97 : decode cX5_segment 97 = .ok (.invokevirtual 167, 3) := by decide +kernel
theorem dX5_segment_100 : decode cX5_segment 100 = .ok (.ireturn, 1) := by decide +kernel
theorem dX5_segment_101 : decode cX5_segment 101 = .ok (.aload_n 3, 1) := by decide +kernel
theorem dX5_segment_102 : decode cX5_segment 102 = .ok (.getfield 170, 3) := by decide +kernel
theorem dX5_segment_105 : decode cX5_segment 105 = .ok (.aload_n 0, 1) := by decide +kernel
theorem dX5_segment_106 : decode cX5_segment 106 = .ok (.getfield 42, 3) := by decide +kernel
theorem dX5_segment_109 : decode cX5_segment 109 = .ok (.iload_n 1, 1) := by decide +kernel
theorem dX5_segment_110 : decode cX5_segment 110 = .ok (.invokevirtual 164, 3) := by decide +kernel
theorem dX5_segment_113 : decode cX5_segment 113 = .ok (.isub, 1) := by decide +kernel
theorem dX5_segment_114 : decode cX5_segment 114 = .ok (.ireturn, 1) := by decide +kernel
theorem dX5_segment_115 : decode cX5_segment 115 = .ok (.aload_n 3, 1) := by decide +kernel
theorem dX5_segment_116 : decode cX5_segment 116 = .ok (.aload_n 0, 1) := by decide +kernel
theorem dX5_segment_117 : decode cX5_segment 117 = .ok (.getfield 42, 3) := by decide +kernel
theorem dX5_segment_120 : decode cX5_segment 120 = .ok (.getfield 89, 3) := by decide +kernel
theorem dX5_segment_123 : decode cX5_segment 123 = .ok (.iconst 0, 1) := by decide +kernel
theorem dX5_segment_124 : decode cX5_segment 124 = .ok (.iaload, 1) := by decide +kernel
theorem dX5_segment_125 : decode cX5_segment 125 = .ok (.aload_n 0, 1) := by decide +kernel
theorem dX5_segment_126 : decode cX5_segment 126 = .ok (.getfield 42, 3) := by decide +kernel
theorem dX5_segment_129 : decode cX5_segment 129 = .ok (.getfield 89, 3) := by decide +kernel
theorem dX5_segment_132 : decode cX5_segment 132 = .ok (.iconst 1, 1) := by decide +kernel
theorem dX5_segment_133 : decode cX5_segment 133 = .ok (.iaload, 1) := by decide +kernel
theorem dX5_segment_134 : decode cX5_segment 134 = .ok (.invokevirtual 173, 3) := by decide +kernel
theorem dX5_segment_137 : decode cX5_segment 137 = .ok (.ireturn, 1) := by decide +kernel
theorem dX5_segment_138 : decode cX5_segment 138 = .ok (.bipush (-2), 2) := by decide +kernel
theorem dX5_segment_140 : decode cX5_segment 140 = .ok (.ireturn, 1) := by decide +kernel
theorem dX5_train_0 : decode cX5_train 0 = .ok (.aload_n 0, 1) := by decide +kernel
theorem dX5_train_1 : decode cX5_train 1 = .ok (.getfield 42, 3) := by decide +kernel
theorem dX5_train_4 : decode cX5_train 4 = .ok (.iload_n 1, 1) := by decide +kernel
theorem dX5_train_5 : decode cX5_train 5 = .ok (.invokevirtual 108, 3) := by decide +kernel
theorem dX5_train_8 : decode cX5_train 8 = .ok (.astore_n 3, 1) := by decide +kernel
theorem dX5_train_9 : decode cX5_train 9 = .ok (.aload_n 3, 1) := by decide +kernel
theorem dX5_train_10 : decode cX5_train 10 = .ok (.ifnonnull 6, 3) := by decide +kernel
theorem dX5_train_13 : decode cX5_train 13 = .ok (.bipush (-2), 2) := by decide +kernel
theorem dX5_train_15 : decode cX5_train 15 = .ok (.ireturn, 1) := by decide +kernel
theorem dX5_train_16 : decode cX5_train 16 = .ok (.iload_n 2, 1) := by decide +kernel
theorem dX5_train_17 : decode cX5_train 17 = .ok (.tableswitch 113 0 9 #[55, 60, 65, 70, 75, 88, 93, 98, 103, 108], 55) := by decide +kernel
theorem dX5_train_72 : decode cX5_train 72 = .ok (.aload_n 3, 1) := by decide +kernel
theorem dX5_train_73 : decode cX5_train 73 = .ok (.getfield 176, 3) := by decide +kernel
theorem dX5_train_76 : decode cX5_train 76 = .ok (.ireturn, 1) := by decide +kernel
theorem dX5_train_77 : decode cX5_train 77 = .ok (.aload_n 3, 1) := by decide +kernel
theorem dX5_train_78 : decode cX5_train 78 = .ok (.getfield 121, 3) := by decide +kernel
theorem dX5_train_81 : decode cX5_train 81 = .ok (.ireturn, 1) := by decide +kernel
theorem dX5_train_82 : decode cX5_train 82 = .ok (.aload_n 3, 1) := by decide +kernel
theorem dX5_train_83 : decode cX5_train 83 = .ok (.getfield 112, 3) := by decide +kernel
theorem dX5_train_86 : decode cX5_train 86 = .ok (.ireturn, 1) := by decide +kernel
theorem dX5_train_87 : decode cX5_train 87 = .ok (.aload_n 3, 1) := by decide +kernel
theorem dX5_train_88 : decode cX5_train 88 = .ok (.getfield 179, 3) := by decide +kernel
theorem dX5_train_91 : decode cX5_train 91 = .ok (.ireturn, 1) := by decide +kernel
theorem dX5_train_92 : decode cX5_train 92 = .ok (.aload_n 3, 1) := by decide +kernel
theorem dX5_train_93 : decode cX5_train 93 = .ok (.getfield 182, 3) := by decide +kernel
theorem dX5_train_96 : decode cX5_train 96 = .ok (.ifCond .eq 7, 3) := by decide +kernel
theorem dX5_train_99 : decode cX5_train 99 = .ok (.iconst 1, 1) := by decide +kernel
theorem dX5_train_100 : decode cX5_train 100 = .ok (.goto 4, 3) := by decide +kernel
theorem dX5_train_103 : decode cX5_train 103 = .ok (.iconst 0, 1) := by decide +kernel
theorem dX5_train_104 : decode cX5_train 104 = .ok (.ireturn, 1) := by decide +kernel
theorem dX5_train_105 : decode cX5_train 105 = .ok (.aload_n 3, 1) := by decide +kernel
theorem dX5_train_106 : decode cX5_train 106 = .ok (.getfield 186, 3) := by decide +kernel
theorem dX5_train_109 : decode cX5_train 109 = .ok (.ireturn, 1) := by decide +kernel
theorem dX5_train_110 : decode cX5_train 110 = .ok (.aload_n 3, 1) := by decide +kernel
theorem dX5_train_111 : decode cX5_train 111 = .ok (.getfield 189, 3) := by decide +kernel
theorem dX5_train_114 : decode cX5_train 114 = .ok (.ireturn, 1) := by decide +kernel
theorem dX5_train_115 : decode cX5_train 115 = .ok (.aload_n 3, 1) := by decide +kernel
theorem dX5_train_116 : decode cX5_train 116 = .ok (.getfield 192, 3) := by decide +kernel
theorem dX5_train_119 : decode cX5_train 119 = .ok (.ireturn, 1) := by decide +kernel
theorem dX5_train_120 : decode cX5_train 120 = .ok (.aload_n 3, 1) := by decide +kernel
theorem dX5_train_121 : decode cX5_train 121 = .ok (.getfield 195, 3) := by decide +kernel
theorem dX5_train_124 : decode cX5_train 124 = .ok (.ireturn, 1) := by decide +kernel
theorem dX5_train_125 : decode cX5_train 125 = .ok (.aload_n 3, 1) := by decide +kernel
theorem dX5_train_126 : decode cX5_train 126 = .ok (.invokevirtual 198, 3) := by decide +kernel
theorem dX5_train_129 : decode cX5_train 129 = .ok (.ireturn, 1) := by decide +kernel
theorem dX5_train_130 : decode cX5_train 130 = .ok (.bipush (-2), 2) := by decide +kernel
theorem dX5_train_132 : decode cX5_train 132 = .ok (.ireturn, 1) := by decide +kernel
theorem dX5_why_0 : decode cX5_why 0 = .ok (.aload_n 0, 1) := by decide +kernel
theorem dX5_why_1 : decode cX5_why 1 = .ok (.getfield 42, 3) := by decide +kernel
theorem dX5_why_4 : decode cX5_why 4 = .ok (.iload_n 1, 1) := by decide +kernel
theorem dX5_why_5 : decode cX5_why 5 = .ok (.invokevirtual 108, 3) := by decide +kernel
theorem dX5_why_8 : decode cX5_why 8 = .ok (.astore_n 2, 1) := by decide +kernel
theorem dX5_why_9 : decode cX5_why 9 = .ok (.aload_n 2, 1) := by decide +kernel
theorem dX5_why_10 : decode cX5_why 10 = .ok (.ifnonnull 6, 3) := by decide +kernel
theorem dX5_why_13 : decode cX5_why 13 = .ok (.bipush (-2), 2) := by decide +kernel
theorem dX5_why_15 : decode cX5_why 15 = .ok (.ireturn, 1) := by decide +kernel
theorem dX5_why_16 : decode cX5_why 16 = .ok (.aload_n 0, 1) := by decide +kernel
theorem dX5_why_17 : decode cX5_why 17 = .ok (.getfield 42, 3) := by decide +kernel
theorem dX5_why_20 : decode cX5_why 20 = .ok (.aload_n 2, 1) := by decide +kernel
theorem dX5_why_21 : decode cX5_why 21 = .ok (.invokevirtual 201, 3) := by decide +kernel
theorem dX5_why_24 : decode cX5_why 24 = .ok (.ireturn, 1) := by decide +kernel
theorem dX5_account_0 : decode cX5_account 0 = .ok (.iload_n 1, 1) := by decide +kernel
theorem dX5_account_1 : decode cX5_account 1 = .ok (.tableswitch 75 0 4 #[35, 43, 51, 59, 67], 35) := by decide +kernel
theorem dX5_account_36 : decode cX5_account 36 = .ok (.aload_n 0, 1) := by decide +kernel
theorem dX5_account_37 : decode cX5_account 37 = .ok (.getfield 42, 3) := by decide +kernel
theorem dX5_account_40 : decode cX5_account 40 = .ok (.getfield 95, 3) := by decide +kernel
theorem dX5_account_43 : decode cX5_account 43 = .ok (.ireturn, 1) := by decide +kernel
theorem dX5_account_44 : decode cX5_account 44 = .ok (.aload_n 0, 1) := by decide +kernel
theorem dX5_account_45 : decode cX5_account 45 = .ok (.getfield 42, 3) := by decide +kernel
theorem dX5_account_48 : decode cX5_account 48 = .ok (.getfield 92, 3) := by decide +kernel
theorem dX5_account_51 : decode cX5_account 51 = .ok (.ireturn, 1) := by decide +kernel
theorem dX5_account_52 : decode cX5_account 52 = .ok (.aload_n 0, 1) := by decide +kernel
theorem dX5_account_53 : decode cX5_account 53 = .ok (.getfield 42, 3) := by decide +kernel
theorem dX5_account_56 : decode cX5_account 56 = .ok (.invokevirtual 205, 3) := by decide +kernel
theorem dX5_account_59 : decode cX5_account 59 = .ok (.ireturn, 1) := by decide +kernel
theorem dX5_account_60 : decode cX5_account 60 = .ok (.aload_n 0, 1) := by decide +kernel
theorem dX5_account_61 : decode cX5_account 61 = .ok (.getfield 42, 3) := by decide +kernel
theorem dX5_account_64 : decode cX5_account 64 = .ok (.getfield 208, 3) := by decide +kernel
theorem dX5_account_67 : decode cX5_account 67 = .ok (.ireturn, 1) := by decide +kernel
theorem dX5_account_68 : decode cX5_account 68 = .ok (.aload_n 0, 1) := by decide +kernel
theorem dX5_account_69 : decode cX5_account 69 = .ok (.getfield 42, 3) := by decide +kernel
theorem dX5_account_72 : decode cX5_account 72 = .ok (.getfield 211, 3) := by decide +kernel
theorem dX5_account_75 : decode cX5_account 75 = .ok (.ireturn, 1) := by decide +kernel
theorem dX5_account_76 : decode cX5_account 76 = .ok (.bipush (-2), 2) := by decide +kernel
theorem dX5_account_78 : decode cX5_account 78 = .ok (.ireturn, 1) := by decide +kernel
theorem dX5_count_0 : decode cX5_count 0 = .ok (.iload_n 1, 1) := by decide +kernel
theorem dX5_count_1 : decode cX5_count 1 = .ok (.tableswitch 108 0 7 #[47, 55, 63, 71, 79, 87, 95, 100], 47) := by decide +kernel
theorem dX5_count_48 : decode cX5_count 48 = .ok (.aload_n 0, 1) := by decide +kernel
theorem dX5_count_49 : decode cX5_count 49 = .ok (.getfield 42, 3) := by decide +kernel
theorem dX5_count_52 : decode cX5_count 52 = .ok (.getfield 74, 3) := by decide +kernel
theorem dX5_count_55 : decode cX5_count 55 = .ok (.ireturn, 1) := by decide +kernel
theorem dX5_count_56 : decode cX5_count 56 = .ok (.aload_n 0, 1) := by decide +kernel
theorem dX5_count_57 : decode cX5_count 57 = .ok (.getfield 42, 3) := by decide +kernel
theorem dX5_count_60 : decode cX5_count 60 = .ok (.getfield 101, 3) := by decide +kernel
theorem dX5_count_63 : decode cX5_count 63 = .ok (.ireturn, 1) := by decide +kernel
theorem dX5_count_64 : decode cX5_count 64 = .ok (.aload_n 0, 1) := by decide +kernel
theorem dX5_count_65 : decode cX5_count 65 = .ok (.getfield 42, 3) := by decide +kernel
theorem dX5_count_68 : decode cX5_count 68 = .ok (.getfield 146, 3) := by decide +kernel
theorem dX5_count_71 : decode cX5_count 71 = .ok (.ireturn, 1) := by decide +kernel
theorem dX5_count_72 : decode cX5_count 72 = .ok (.aload_n 0, 1) := by decide +kernel
theorem dX5_count_73 : decode cX5_count 73 = .ok (.getfield 42, 3) := by decide +kernel
theorem dX5_count_76 : decode cX5_count 76 = .ok (.invokevirtual 214, 3) := by decide +kernel
theorem dX5_count_79 : decode cX5_count 79 = .ok (.ireturn, 1) := by decide +kernel
theorem dX5_count_80 : decode cX5_count 80 = .ok (.aload_n 0, 1) := by decide +kernel
theorem dX5_count_81 : decode cX5_count 81 = .ok (.getfield 42, 3) := by decide +kernel
theorem dX5_count_84 : decode cX5_count 84 = .ok (.invokevirtual 217, 3) := by decide +kernel
theorem dX5_count_87 : decode cX5_count 87 = .ok (.ireturn, 1) := by decide +kernel
theorem dX5_count_88 : decode cX5_count 88 = .ok (.aload_n 0, 1) := by decide +kernel
theorem dX5_count_89 : decode cX5_count 89 = .ok (.getfield 52, 3) := by decide +kernel
theorem dX5_count_92 : decode cX5_count 92 = .ok (.invokevirtual 131, 3) := by decide +kernel
theorem dX5_count_95 : decode cX5_count 95 = .ok (.ireturn, 1) := by decide +kernel
theorem dX5_count_96 : decode cX5_count 96 = .ok (.aload_n 0, 1) := by decide +kernel
theorem dX5_count_97 : decode cX5_count 97 = .ok (.getfield 143, 3) := by decide +kernel
theorem dX5_count_100 : decode cX5_count 100 = .ok (.ireturn, 1) := by decide +kernel
theorem dX5_count_101 : decode cX5_count 101 = .ok (.aload_n 0, 1) := by decide +kernel
theorem dX5_count_102 : decode cX5_count 102 = .ok (.getfield 42, 3) := by decide +kernel
theorem dX5_count_105 : decode cX5_count 105 = .ok (.invokevirtual 220, 3) := by decide +kernel
theorem dX5_count_108 : decode cX5_count 108 = .ok (.ireturn, 1) := by decide +kernel
theorem dX5_count_109 : decode cX5_count 109 = .ok (.bipush (-2), 2) := by decide +kernel
theorem dX5_count_111 : decode cX5_count 111 = .ok (.ireturn, 1) := by decide +kernel
theorem dX5_setting_0 : decode cX5_setting 0 = .ok (.iload_n 1, 1) := by decide +kernel
theorem dX5_setting_1 : decode cX5_setting 1 = .ok (.invokestatic 78, 3) := by decide +kernel
theorem dX5_setting_4 : decode cX5_setting 4 = .ok (.ifCond .eq 15, 3) := by decide +kernel
theorem dX5_setting_7 : decode cX5_setting 7 = .ok (.aload_n 0, 1) := by decide +kernel
theorem dX5_setting_8 : decode cX5_setting 8 = .ok (.getfield 42, 3) := by decide +kernel
theorem dX5_setting_11 : decode cX5_setting 11 = .ok (.getfield 89, 3) := by decide +kernel
theorem dX5_setting_14 : decode cX5_setting 14 = .ok (.iload_n 1, 1) := by decide +kernel
theorem dX5_setting_15 : decode cX5_setting 15 = .ok (.iaload, 1) := by decide +kernel
theorem dX5_setting_16 : decode cX5_setting 16 = .ok (.goto 5, 3) := by decide +kernel
theorem dX5_setting_19 : decode cX5_setting 19 = .ok (.bipush (-2), 2) := by decide +kernel
theorem dX5_setting_21 : decode cX5_setting 21 = .ok (.ireturn, 1) := by decide +kernel
theorem dX5_ifRun_0 : decode cX5_ifRun 0 = .ok (.iload_n 1, 1) := by decide +kernel
theorem dX5_ifRun_1 : decode cX5_ifRun 1 = .ok (.invokestatic 124, 3) := by decide +kernel
theorem dX5_ifRun_4 : decode cX5_ifRun 4 = .ok (.ifCond .eq 12, 3) := by decide +kernel
theorem dX5_ifRun_7 : decode cX5_ifRun 7 = .ok (.iload_n 2, 1) := by decide +kernel
theorem dX5_ifRun_8 : decode cX5_ifRun 8 = .ok (.ifCond .lt 8, 3) := by decide +kernel
theorem dX5_ifRun_11 : decode cX5_ifRun 11 = .ok (.iload_n 2, 1) := by decide +kernel
theorem dX5_ifRun_12 : decode cX5_ifRun 12 = .ok (.iconst 4, 1) := by decide +kernel
theorem dX5_ifRun_13 : decode cX5_ifRun 13 = .ok (.if_icmp .lt 6, 3) := by decide +kernel
theorem dX5_ifRun_16 : decode cX5_ifRun 16 = .ok (.bipush (-2), 2) := by decide +kernel
theorem dX5_ifRun_18 : decode cX5_ifRun 18 = .ok (.ireturn, 1) := by decide +kernel
theorem dX5_ifRun_19 : decode cX5_ifRun 19 = .ok (.aload_n 0, 1) := by decide +kernel
theorem dX5_ifRun_20 : decode cX5_ifRun 20 = .ok (.getfield 46, 3) := by decide +kernel
theorem dX5_ifRun_23 : decode cX5_ifRun 23 = .ok (.aload_n 0, 1) := by decide +kernel
theorem dX5_ifRun_24 : decode cX5_ifRun 24 = .ok (.getfield 42, 3) := by decide +kernel
theorem dX5_ifRun_27 : decode cX5_ifRun 27 = .ok (.invokevirtual 140, 3) := by decide +kernel
theorem dX5_ifRun_30 : decode cX5_ifRun 30 = .ok (.aload_n 0, 1) := by decide +kernel
theorem dX5_ifRun_31 : decode cX5_ifRun 31 = .ok (.getfield 46, 3) := by decide +kernel
theorem dX5_ifRun_34 : decode cX5_ifRun 34 = .ok (.iload_n 1, 1) := by decide +kernel
theorem dX5_ifRun_35 : decode cX5_ifRun 35 = .ok (.invokevirtual 127, 3) := by decide +kernel
theorem dX5_ifRun_38 : decode cX5_ifRun 38 = .ok (.pop, 1) := by decide +kernel
theorem dX5_ifRun_39 : decode cX5_ifRun 39 = .ok (.aload_n 0, 1) := by decide +kernel
theorem dX5_ifRun_40 : decode cX5_ifRun 40 = .ok (.iload_n 2, 1) := by decide +kernel
theorem dX5_ifRun_41 : decode cX5_ifRun 41 = .ok (.invokevirtual 223, 3) := by decide +kernel
theorem dX5_ifRun_44 : decode cX5_ifRun 44 = .ok (.ireturn, 1) := by decide +kernel
theorem dX5_ticksFor_0 : decode cX5_ticksFor 0 = .ok (.iload_n 1, 1) := by decide +kernel
theorem dX5_ticksFor_1 : decode cX5_ticksFor 1 = .ok (.iconst 1, 1) := by decide +kernel
theorem dX5_ticksFor_2 : decode cX5_ticksFor 2 = .ok (.if_icmp .lt 10, 3) := by decide +kernel
theorem dX5_ticksFor_5 : decode cX5_ticksFor 5 = .ok (.iload_n 1, 1) := by decide +kernel
theorem dX5_ticksFor_6 : decode cX5_ticksFor 6 = .ok (.sipush 1000, 3) := by decide +kernel
theorem dX5_ticksFor_9 : decode cX5_ticksFor 9 = .ok (.if_icmp .le 6, 3) := by decide +kernel
theorem dX5_ticksFor_12 : decode cX5_ticksFor 12 = .ok (.bipush (-2), 2) := by decide +kernel
theorem dX5_ticksFor_14 : decode cX5_ticksFor 14 = .ok (.ireturn, 1) := by decide +kernel
theorem dX5_ticksFor_15 : decode cX5_ticksFor 15 = .ok (.aload_n 0, 1) := by decide +kernel
theorem dX5_ticksFor_16 : decode cX5_ticksFor 16 = .ok (.getfield 46, 3) := by decide +kernel
theorem dX5_ticksFor_19 : decode cX5_ticksFor 19 = .ok (.aload_n 0, 1) := by decide +kernel
theorem dX5_ticksFor_20 : decode cX5_ticksFor 20 = .ok (.getfield 42, 3) := by decide +kernel
theorem dX5_ticksFor_23 : decode cX5_ticksFor 23 = .ok (.invokevirtual 140, 3) := by decide +kernel
theorem dX5_ticksFor_26 : decode cX5_ticksFor 26 = .ok (.iconst 1, 1) := by decide +kernel
theorem dX5_ticksFor_27 : decode cX5_ticksFor 27 = .ok (.istore_n 2, 1) := by decide +kernel
theorem dX5_ticksFor_28 : decode cX5_ticksFor 28 = .ok (.iload_n 2, 1) := by decide +kernel
theorem dX5_ticksFor_29 : decode cX5_ticksFor 29 = .ok (.sipush 500, 3) := by decide +kernel
theorem dX5_ticksFor_32 : decode cX5_ticksFor 32 = .ok (.if_icmp .gt 37, 3) := by decide +kernel
theorem dX5_ticksFor_35 : decode cX5_ticksFor 35 = .ok (.aload_n 0, 1) := by decide +kernel
theorem dX5_ticksFor_36 : decode cX5_ticksFor 36 = .ok (.getfield 46, 3) := by decide +kernel
theorem dX5_ticksFor_39 : decode cX5_ticksFor 39 = .ok (.invokevirtual 226, 3) := by decide +kernel
theorem dX5_ticksFor_42 : decode cX5_ticksFor 42 = .ok (.aload_n 0, 1) := by decide +kernel
theorem dX5_ticksFor_43 : decode cX5_ticksFor 43 = .ok (.getfield 46, 3) := by decide +kernel
theorem dX5_ticksFor_46 : decode cX5_ticksFor 46 = .ok (.getfield 208, 3) := by decide +kernel
theorem dX5_ticksFor_49 : decode cX5_ticksFor 49 = .ok (.aload_n 0, 1) := by decide +kernel
theorem dX5_ticksFor_50 : decode cX5_ticksFor 50 = .ok (.getfield 42, 3) := by decide +kernel
theorem dX5_ticksFor_53 : decode cX5_ticksFor 53 = .ok (.getfield 208, 3) := by decide +kernel
theorem dX5_ticksFor_56 : decode cX5_ticksFor 56 = .ok (.isub, 1) := by decide +kernel
theorem dX5_ticksFor_57 : decode cX5_ticksFor 57 = .ok (.iload_n 1, 1) := by decide +kernel
theorem dX5_ticksFor_58 : decode cX5_ticksFor 58 = .ok (.if_icmp .lt 5, 3) := by decide +kernel
theorem dX5_ticksFor_61 : decode cX5_ticksFor 61 = .ok (.iload_n 2, 1) := by decide +kernel
theorem dX5_ticksFor_62 : decode cX5_ticksFor 62 = .ok (.ireturn, 1) := by decide +kernel
theorem dX5_ticksFor_63 : decode cX5_ticksFor 63 = .ok (.iinc 2 1, 3) := by decide +kernel
theorem dX5_ticksFor_66 : decode cX5_ticksFor 66 = .ok (.goto (-38), 3) := by decide +kernel
theorem dX5_ticksFor_69 : decode cX5_ticksFor 69 = .ok (.iconst (-1), 1) := by decide +kernel
theorem dX5_ticksFor_70 : decode cX5_ticksFor 70 = .ok (.ireturn, 1) := by decide +kernel
theorem dX5_bestRule_0 : decode cX5_bestRule 0 = .ok (.iload_n 1, 1) := by decide +kernel
theorem dX5_bestRule_1 : decode cX5_bestRule 1 = .ok (.invokestatic 124, 3) := by decide +kernel
theorem dX5_bestRule_4 : decode cX5_bestRule 4 = .ok (.ifCond .ne 6, 3) := by decide +kernel
theorem dX5_bestRule_7 : decode cX5_bestRule 7 = .ok (.bipush (-2), 2) := by decide +kernel
theorem dX5_bestRule_9 : decode cX5_bestRule 9 = .ok (.ireturn, 1) := by decide +kernel
theorem dX5_bestRule_10 : decode cX5_bestRule 10 = .ok (.getstatic 82, 3) := by decide +kernel
theorem dX5_bestRule_13 : decode cX5_bestRule 13 = .ok (.iconst 2, 1) := by decide +kernel
theorem dX5_bestRule_14 : decode cX5_bestRule 14 = .ok (.iaload, 1) := by decide +kernel
theorem dX5_bestRule_15 : decode cX5_bestRule 15 = .ok (.istore_n 2, 1) := by decide +kernel
theorem dX5_bestRule_16 : decode cX5_bestRule 16 = .ok (.iconst (-1), 1) := by decide +kernel
theorem dX5_bestRule_17 : decode cX5_bestRule 17 = .ok (.istore_n 3, 1) := by decide +kernel
theorem dX5_bestRule_18 : decode cX5_bestRule 18 = .ok (.getstatic 82, 3) := by decide +kernel
theorem dX5_bestRule_21 : decode cX5_bestRule 21 = .ok (.iconst 2, 1) := by decide +kernel
theorem dX5_bestRule_22 : decode cX5_bestRule 22 = .ok (.iaload, 1) := by decide +kernel
theorem dX5_bestRule_23 : decode cX5_bestRule 23 = .ok (.istore 4, 2) := by decide +kernel
theorem dX5_bestRule_25 : decode cX5_bestRule 25 = .ok (.iload 4, 2) := by decide +kernel
theorem dX5_bestRule_27 : decode cX5_bestRule 27 = .ok (.getstatic 86, 3) := by decide +kernel
theorem dX5_bestRule_30 : decode cX5_bestRule 30 = .ok (.iconst 2, 1) := by decide +kernel
theorem dX5_bestRule_31 : decode cX5_bestRule 31 = .ok (.iaload, 1) := by decide +kernel
theorem dX5_bestRule_32 : decode cX5_bestRule 32 = .ok (.if_icmp .gt 53, 3) := by decide +kernel
theorem dX5_bestRule_35 : decode cX5_bestRule 35 = .ok (.aload_n 0, 1) := by decide +kernel
theorem dX5_bestRule_36 : decode cX5_bestRule 36 = .ok (.getfield 46, 3) := by decide +kernel
theorem dX5_bestRule_39 : decode cX5_bestRule 39 = .ok (.aload_n 0, 1) := by decide +kernel
theorem dX5_bestRule_40 : decode cX5_bestRule 40 = .ok (.getfield 42, 3) := by decide +kernel
theorem dX5_bestRule_43 : decode cX5_bestRule 43 = .ok (.invokevirtual 140, 3) := by decide +kernel
theorem dX5_bestRule_46 : decode cX5_bestRule 46 = .ok (.aload_n 0, 1) := by decide +kernel
theorem dX5_bestRule_47 : decode cX5_bestRule 47 = .ok (.getfield 46, 3) := by decide +kernel
theorem dX5_bestRule_50 : decode cX5_bestRule 50 = .ok (.getfield 89, 3) := by decide +kernel
theorem dX5_bestRule_53 : decode cX5_bestRule 53 = .ok (.iconst 2, 1) := by decide +kernel
theorem dX5_bestRule_54 : decode cX5_bestRule 54 = .ok (.iload 4, 2) := by decide +kernel
theorem dX5_bestRule_56 : decode cX5_bestRule 56 = .ok (.iastore, 1) := by decide +kernel
theorem dX5_bestRule_57 : decode cX5_bestRule 57 = .ok (.aload_n 0, 1) := by decide +kernel
theorem dX5_bestRule_58 : decode cX5_bestRule 58 = .ok (.getfield 46, 3) := by decide +kernel
theorem dX5_bestRule_61 : decode cX5_bestRule 61 = .ok (.iload_n 1, 1) := by decide +kernel
theorem dX5_bestRule_62 : decode cX5_bestRule 62 = .ok (.invokevirtual 127, 3) := by decide +kernel
theorem dX5_bestRule_65 : decode cX5_bestRule 65 = .ok (.istore 5, 2) := by decide +kernel
theorem dX5_bestRule_67 : decode cX5_bestRule 67 = .ok (.iload 5, 2) := by decide +kernel
theorem dX5_bestRule_69 : decode cX5_bestRule 69 = .ok (.iload_n 3, 1) := by decide +kernel
theorem dX5_bestRule_70 : decode cX5_bestRule 70 = .ok (.if_icmp .le 9, 3) := by decide +kernel
theorem dX5_bestRule_73 : decode cX5_bestRule 73 = .ok (.iload 5, 2) := by decide +kernel
theorem dX5_bestRule_75 : decode cX5_bestRule 75 = .ok (.istore_n 3, 1) := by decide +kernel
theorem dX5_bestRule_76 : decode cX5_bestRule 76 = .ok (.iload 4, 2) := by decide +kernel
theorem dX5_bestRule_78 : decode cX5_bestRule 78 = .ok (.istore_n 2, 1) := by decide +kernel
theorem dX5_bestRule_79 : decode cX5_bestRule 79 = .ok (.iinc 4 1, 3) := by decide +kernel
theorem dX5_bestRule_82 : decode cX5_bestRule 82 = .ok (.goto (-57), 3) := by decide +kernel
theorem dX5_bestRule_85 : decode cX5_bestRule 85 = .ok (.iload_n 2, 1) := by decide +kernel
theorem dX5_bestRule_86 : decode cX5_bestRule 86 = .ok (.ireturn, 1) := by decide +kernel
theorem dX5_bestLoad_0 : decode cX5_bestLoad 0 = .ok (.aload_n 0, 1) := by decide +kernel
theorem dX5_bestLoad_1 : decode cX5_bestLoad 1 = .ok (.getfield 42, 3) := by decide +kernel
theorem dX5_bestLoad_4 : decode cX5_bestLoad 4 = .ok (.iload_n 1, 1) := by decide +kernel
theorem dX5_bestLoad_5 : decode cX5_bestLoad 5 = .ok (.invokevirtual 108, 3) := by decide +kernel
theorem dX5_bestLoad_8 : decode cX5_bestLoad 8 = .ok (.ifnull 10, 3) := by decide +kernel
theorem dX5_bestLoad_11 : decode cX5_bestLoad 11 = .ok (.iload_n 2, 1) := by decide +kernel
theorem dX5_bestLoad_12 : decode cX5_bestLoad 12 = .ok (.invokestatic 124, 3) := by decide +kernel
theorem dX5_bestLoad_15 : decode cX5_bestLoad 15 = .ok (.ifCond .ne 6, 3) := by decide +kernel
theorem dX5_bestLoad_18 : decode cX5_bestLoad 18 = .ok (.bipush (-2), 2) := by decide +kernel
theorem dX5_bestLoad_20 : decode cX5_bestLoad 20 = .ok (.ireturn, 1) := by decide +kernel
theorem dX5_bestLoad_21 : decode cX5_bestLoad 21 = .ok (.iconst 1, 1) := by decide +kernel
theorem dX5_bestLoad_22 : decode cX5_bestLoad 22 = .ok (.istore_n 3, 1) := by decide +kernel
theorem dX5_bestLoad_23 : decode cX5_bestLoad 23 = .ok (.iconst (-1), 1) := by decide +kernel
theorem dX5_bestLoad_24 : decode cX5_bestLoad 24 = .ok (.istore 4, 2) := by decide +kernel
theorem dX5_bestLoad_26 : decode cX5_bestLoad 26 = .ok (.iconst 1, 1) := by decide +kernel
theorem dX5_bestLoad_27 : decode cX5_bestLoad 27 = .ok (.istore 5, 2) := by decide +kernel
theorem dX5_bestLoad_29 : decode cX5_bestLoad 29 = .ok (.iload 5, 2) := by decide +kernel
theorem dX5_bestLoad_31 : decode cX5_bestLoad 31 = .ok (.bipush 20, 2) := by decide +kernel
theorem dX5_bestLoad_33 : decode cX5_bestLoad 33 = .ok (.if_icmp .gt 66, 3) := by decide +kernel
theorem dX5_bestLoad_36 : decode cX5_bestLoad 36 = .ok (.aload_n 0, 1) := by decide +kernel
theorem dX5_bestLoad_37 : decode cX5_bestLoad 37 = .ok (.getfield 46, 3) := by decide +kernel
theorem dX5_bestLoad_40 : decode cX5_bestLoad 40 = .ok (.aload_n 0, 1) := by decide +kernel
theorem dX5_bestLoad_41 : decode cX5_bestLoad 41 = .ok (.getfield 42, 3) := by decide +kernel
theorem dX5_bestLoad_44 : decode cX5_bestLoad 44 = .ok (.invokevirtual 140, 3) := by decide +kernel
theorem dX5_bestLoad_47 : decode cX5_bestLoad 47 = .ok (.aload_n 0, 1) := by decide +kernel
theorem dX5_bestLoad_48 : decode cX5_bestLoad 48 = .ok (.getfield 46, 3) := by decide +kernel
theorem dX5_bestLoad_51 : decode cX5_bestLoad 51 = .ok (.iload_n 1, 1) := by decide +kernel
theorem dX5_bestLoad_52 : decode cX5_bestLoad 52 = .ok (.invokevirtual 108, 3) := by decide +kernel
theorem dX5_bestLoad_55 : decode cX5_bestLoad 55 = .ok (.astore 6, 2) := by decide +kernel
theorem dX5_bestLoad_57 : decode cX5_bestLoad 57 = .ok (.aload 6, 2) := by decide +kernel
theorem dX5_bestLoad_59 : decode cX5_bestLoad 59 = .ok (.ifnull 10, 3) := by decide +kernel
theorem dX5_bestLoad_62 : decode cX5_bestLoad 62 = .ok (.aload 6, 2) := by decide +kernel
theorem dX5_bestLoad_64 : decode cX5_bestLoad 64 = .ok (.iload 5, 2) := by decide +kernel
theorem dX5_bestLoad_66 : decode cX5_bestLoad 66 = .ok (.putfield 121, 3) := by decide +kernel
theorem dX5_bestLoad_69 : decode cX5_bestLoad 69 = .ok (.aload_n 0, 1) := by decide +kernel
theorem dX5_bestLoad_70 : decode cX5_bestLoad 70 = .ok (.getfield 46, 3) := by decide +kernel
theorem dX5_bestLoad_73 : decode cX5_bestLoad 73 = .ok (.iload_n 2, 1) := by decide +kernel
theorem dX5_bestLoad_74 : decode cX5_bestLoad 74 = .ok (.invokevirtual 127, 3) := by decide +kernel
theorem dX5_bestLoad_77 : decode cX5_bestLoad 77 = .ok (.istore 7, 2) := by decide +kernel
theorem dX5_bestLoad_79 : decode cX5_bestLoad 79 = .ok (.iload 7, 2) := by decide +kernel
theorem dX5_bestLoad_81 : decode cX5_bestLoad 81 = .ok (.iload 4, 2) := by decide +kernel
theorem dX5_bestLoad_83 : decode cX5_bestLoad 83 = .ok (.if_icmp .le 10, 3) := by decide +kernel
theorem dX5_bestLoad_86 : decode cX5_bestLoad 86 = .ok (.iload 7, 2) := by decide +kernel
theorem dX5_bestLoad_88 : decode cX5_bestLoad 88 = .ok (.istore 4, 2) := by decide +kernel
theorem dX5_bestLoad_90 : decode cX5_bestLoad 90 = .ok (.iload 5, 2) := by decide +kernel
theorem dX5_bestLoad_92 : decode cX5_bestLoad 92 = .ok (.istore_n 3, 1) := by decide +kernel
theorem dX5_bestLoad_93 : decode cX5_bestLoad 93 = .ok (.iinc 5 1, 3) := by decide +kernel
theorem dX5_bestLoad_96 : decode cX5_bestLoad 96 = .ok (.goto (-67), 3) := by decide +kernel
theorem dX5_bestLoad_99 : decode cX5_bestLoad 99 = .ok (.iload_n 3, 1) := by decide +kernel
theorem dX5_bestLoad_100 : decode cX5_bestLoad 100 = .ok (.ireturn, 1) := by decide +kernel
theorem dX5_meanSinking_0 : decode cX5_meanSinking 0 = .ok (.aload_n 0, 1) := by decide +kernel
theorem dX5_meanSinking_1 : decode cX5_meanSinking 1 = .ok (.getfield 42, 3) := by decide +kernel
theorem dX5_meanSinking_4 : decode cX5_meanSinking 4 = .ok (.getfield 74, 3) := by decide +kernel
theorem dX5_meanSinking_7 : decode cX5_meanSinking 7 = .ok (.iconst 1, 1) := by decide +kernel
theorem dX5_meanSinking_8 : decode cX5_meanSinking 8 = .ok (.if_icmp .ge 5, 3) := by decide +kernel
theorem dX5_meanSinking_11 : decode cX5_meanSinking 11 = .ok (.dconst 0, 1) := by decide +kernel
theorem dX5_meanSinking_12 : decode cX5_meanSinking 12 = .ok (.dreturn, 1) := by decide +kernel
theorem dX5_meanSinking_13 : decode cX5_meanSinking 13 = .ok (.aload_n 0, 1) := by decide +kernel
theorem dX5_meanSinking_14 : decode cX5_meanSinking 14 = .ok (.getfield 42, 3) := by decide +kernel
theorem dX5_meanSinking_17 : decode cX5_meanSinking 17 = .ok (.invokevirtual 229, 3) := by decide +kernel
theorem dX5_meanSinking_20 : decode cX5_meanSinking 20 = .ok (.i2d, 1) := by decide +kernel
theorem dX5_meanSinking_21 : decode cX5_meanSinking 21 = .ok (.aload_n 0, 1) := by decide +kernel
theorem dX5_meanSinking_22 : decode cX5_meanSinking 22 = .ok (.getfield 42, 3) := by decide +kernel
theorem dX5_meanSinking_25 : decode cX5_meanSinking 25 = .ok (.getfield 74, 3) := by decide +kernel
theorem dX5_meanSinking_28 : decode cX5_meanSinking 28 = .ok (.i2d, 1) := by decide +kernel
theorem dX5_meanSinking_29 : decode cX5_meanSinking 29 = .ok (.ddiv, 1) := by decide +kernel
theorem dX5_meanSinking_30 : decode cX5_meanSinking 30 = .ok (.dreturn, 1) := by decide +kernel
theorem dX5_digest_0 : decode cX5_digest 0 = .ok (.ldc2_w 232, 3) := by decide +kernel
theorem dX5_digest_3 : decode cX5_digest 3 = .ok (.lstore_n 1, 1) := by decide +kernel
theorem dX5_digest_4 : decode cX5_digest 4 = .ok (.iconst 0, 1) := by decide +kernel
theorem dX5_digest_5 : decode cX5_digest 5 = .ok (.istore_n 3, 1) := by decide +kernel
theorem dX5_digest_6 : decode cX5_digest 6 = .ok (.iload_n 3, 1) := by decide +kernel
theorem dX5_digest_7 : decode cX5_digest 7 = .ok (.bipush 8, 2) := by decide +kernel
theorem dX5_digest_9 : decode cX5_digest 9 = .ok (.if_icmp .ge 20, 3) := by decide +kernel
theorem dX5_digest_12 : decode cX5_digest 12 = .ok (.lload_n 1, 1) := by decide +kernel
theorem dX5_digest_13 : decode cX5_digest 13 = .ok (.aload_n 0, 1) := by decide +kernel
theorem dX5_digest_14 : decode cX5_digest 14 = .ok (.iload_n 3, 1) := by decide +kernel
theorem dX5_digest_15 : decode cX5_digest 15 = .ok (.invokevirtual 234, 3) := by decide +kernel
theorem dX5_digest_18 : decode cX5_digest 18 = .ok (.i2l, 1) := by decide +kernel
theorem dX5_digest_19 : decode cX5_digest 19 = .ok (.invokestatic 237, 3) := by decide +kernel
theorem dX5_digest_22 : decode cX5_digest 22 = .ok (.lstore_n 1, 1) := by decide +kernel
theorem dX5_digest_23 : decode cX5_digest 23 = .ok (.iinc 3 1, 3) := by decide +kernel
theorem dX5_digest_26 : decode cX5_digest 26 = .ok (.goto (-20), 3) := by decide +kernel
theorem dX5_digest_29 : decode cX5_digest 29 = .ok (.iconst 0, 1) := by decide +kernel
theorem dX5_digest_30 : decode cX5_digest 30 = .ok (.istore_n 3, 1) := by decide +kernel
theorem dX5_digest_31 : decode cX5_digest 31 = .ok (.iload_n 3, 1) := by decide +kernel
theorem dX5_digest_32 : decode cX5_digest 32 = .ok (.iconst 3, 1) := by decide +kernel
theorem dX5_digest_33 : decode cX5_digest 33 = .ok (.if_icmp .ge 20, 3) := by decide +kernel
theorem dX5_digest_36 : decode cX5_digest 36 = .ok (.lload_n 1, 1) := by decide +kernel
theorem dX5_digest_37 : decode cX5_digest 37 = .ok (.aload_n 0, 1) := by decide +kernel
theorem dX5_digest_38 : decode cX5_digest 38 = .ok (.iload_n 3, 1) := by decide +kernel
theorem dX5_digest_39 : decode cX5_digest 39 = .ok (.invokevirtual 241, 3) := by decide +kernel
theorem dX5_digest_42 : decode cX5_digest 42 = .ok (.i2l, 1) := by decide +kernel
theorem dX5_digest_43 : decode cX5_digest 43 = .ok (.invokestatic 237, 3) := by decide +kernel
theorem dX5_digest_46 : decode cX5_digest 46 = .ok (.lstore_n 1, 1) := by decide +kernel
theorem dX5_digest_47 : decode cX5_digest 47 = .ok (.iinc 3 1, 3) := by decide +kernel
theorem dX5_digest_50 : decode cX5_digest 50 = .ok (.goto (-19), 3) := by decide +kernel
theorem dX5_digest_53 : decode cX5_digest 53 = .ok (.iconst 0, 1) := by decide +kernel
theorem dX5_digest_54 : decode cX5_digest 54 = .ok (.istore_n 3, 1) := by decide +kernel
theorem dX5_digest_55 : decode cX5_digest 55 = .ok (.iload_n 3, 1) := by decide +kernel
theorem dX5_digest_56 : decode cX5_digest 56 = .ok (.iconst 5, 1) := by decide +kernel
theorem dX5_digest_57 : decode cX5_digest 57 = .ok (.if_icmp .ge 20, 3) := by decide +kernel
theorem dX5_digest_60 : decode cX5_digest 60 = .ok (.lload_n 1, 1) := by decide +kernel
theorem dX5_digest_61 : decode cX5_digest 61 = .ok (.aload_n 0, 1) := by decide +kernel
theorem dX5_digest_62 : decode cX5_digest 62 = .ok (.iload_n 3, 1) := by decide +kernel
theorem dX5_digest_63 : decode cX5_digest 63 = .ok (.invokevirtual 244, 3) := by decide +kernel
theorem dX5_digest_66 : decode cX5_digest 66 = .ok (.i2l, 1) := by decide +kernel
theorem dX5_digest_67 : decode cX5_digest 67 = .ok (.invokestatic 237, 3) := by decide +kernel
theorem dX5_digest_70 : decode cX5_digest 70 = .ok (.lstore_n 1, 1) := by decide +kernel
theorem dX5_digest_71 : decode cX5_digest 71 = .ok (.iinc 3 1, 3) := by decide +kernel
theorem dX5_digest_74 : decode cX5_digest 74 = .ok (.goto (-19), 3) := by decide +kernel
theorem dX5_digest_77 : decode cX5_digest 77 = .ok (.aload_n 0, 1) := by decide +kernel
theorem dX5_digest_78 : decode cX5_digest 78 = .ok (.aload_n 0, 1) := by decide +kernel
theorem dX5_digest_79 : decode cX5_digest 79 = .ok (.lload_n 1, 1) := by decide +kernel
theorem dX5_digest_80 : decode cX5_digest 80 = .ok (.invokevirtual 247, 3) := by decide +kernel
theorem dX5_digest_83 : decode cX5_digest 83 = .ok (.invokevirtual 251, 3) := by decide +kernel
theorem dX5_digest_86 : decode cX5_digest 86 = .ok (.lstore_n 1, 1) := by decide +kernel
theorem dX5_digest_87 : decode cX5_digest 87 = .ok (.aload_n 0, 1) := by decide +kernel
theorem dX5_digest_88 : decode cX5_digest 88 = .ok (.getfield 46, 3) := by decide +kernel
theorem dX5_digest_91 : decode cX5_digest 91 = .ok (.aload_n 0, 1) := by decide +kernel
theorem dX5_digest_92 : decode cX5_digest 92 = .ok (.getfield 42, 3) := by decide +kernel
theorem dX5_digest_95 : decode cX5_digest 95 = .ok (.invokevirtual 140, 3) := by decide +kernel
theorem dX5_digest_98 : decode cX5_digest 98 = .ok (.aload_n 0, 1) := by decide +kernel
theorem dX5_digest_99 : decode cX5_digest 99 = .ok (.getfield 46, 3) := by decide +kernel
theorem dX5_digest_102 : decode cX5_digest 102 = .ok (.bipush 50, 2) := by decide +kernel
theorem dX5_digest_104 : decode cX5_digest 104 = .ok (.invokevirtual 127, 3) := by decide +kernel
theorem dX5_digest_107 : decode cX5_digest 107 = .ok (.pop, 1) := by decide +kernel
theorem dX5_digest_108 : decode cX5_digest 108 = .ok (.iconst 0, 1) := by decide +kernel
theorem dX5_digest_109 : decode cX5_digest 109 = .ok (.istore_n 3, 1) := by decide +kernel
theorem dX5_digest_110 : decode cX5_digest 110 = .ok (.iload_n 3, 1) := by decide +kernel
theorem dX5_digest_111 : decode cX5_digest 111 = .ok (.iconst 4, 1) := by decide +kernel
theorem dX5_digest_112 : decode cX5_digest 112 = .ok (.if_icmp .ge 20, 3) := by decide +kernel
theorem dX5_digest_115 : decode cX5_digest 115 = .ok (.lload_n 1, 1) := by decide +kernel
theorem dX5_digest_116 : decode cX5_digest 116 = .ok (.aload_n 0, 1) := by decide +kernel
theorem dX5_digest_117 : decode cX5_digest 117 = .ok (.iload_n 3, 1) := by decide +kernel
theorem dX5_digest_118 : decode cX5_digest 118 = .ok (.invokevirtual 223, 3) := by decide +kernel
theorem dX5_digest_121 : decode cX5_digest 121 = .ok (.i2l, 1) := by decide +kernel
theorem dX5_digest_122 : decode cX5_digest 122 = .ok (.invokestatic 237, 3) := by decide +kernel
theorem dX5_digest_125 : decode cX5_digest 125 = .ok (.lstore_n 1, 1) := by decide +kernel
theorem dX5_digest_126 : decode cX5_digest 126 = .ok (.iinc 3 1, 3) := by decide +kernel
theorem dX5_digest_129 : decode cX5_digest 129 = .ok (.goto (-19), 3) := by decide +kernel
theorem dX5_digest_132 : decode cX5_digest 132 = .ok (.lload_n 1, 1) := by decide +kernel
theorem dX5_digest_133 : decode cX5_digest 133 = .ok (.aload_n 0, 1) := by decide +kernel
theorem dX5_digest_134 : decode cX5_digest 134 = .ok (.invokevirtual 254, 3) := by decide +kernel
theorem dX5_digest_137 : decode cX5_digest 137 = .ok (.invokestatic 258, 3) := by decide +kernel
theorem dX5_digest_140 : decode cX5_digest 140 = .ok (.invokestatic 237, 3) := by decide +kernel
theorem dX5_digest_143 : decode cX5_digest 143 = .ok (.lstore_n 1, 1) := by decide +kernel
theorem dX5_digest_144 : decode cX5_digest 144 = .ok (.lload_n 1, 1) := by decide +kernel
theorem dX5_digest_145 : decode cX5_digest 145 = .ok (.aload_n 0, 1) := by decide +kernel
theorem dX5_digest_146 : decode cX5_digest 146 = .ok (.getfield 38, 3) := by decide +kernel
theorem dX5_digest_149 : decode cX5_digest 149 = .ok (.invokevirtual 64, 3) := by decide +kernel
theorem dX5_digest_152 : decode cX5_digest 152 = .ok (.i2l, 1) := by decide +kernel
theorem dX5_digest_153 : decode cX5_digest 153 = .ok (.invokestatic 237, 3) := by decide +kernel
theorem dX5_digest_156 : decode cX5_digest 156 = .ok (.lstore_n 1, 1) := by decide +kernel
theorem dX5_digest_157 : decode cX5_digest 157 = .ok (.iconst 0, 1) := by decide +kernel
theorem dX5_digest_158 : decode cX5_digest 158 = .ok (.istore_n 3, 1) := by decide +kernel
theorem dX5_digest_159 : decode cX5_digest 159 = .ok (.iload_n 3, 1) := by decide +kernel
theorem dX5_digest_160 : decode cX5_digest 160 = .ok (.aload_n 0, 1) := by decide +kernel
theorem dX5_digest_161 : decode cX5_digest 161 = .ok (.getfield 38, 3) := by decide +kernel
theorem dX5_digest_164 : decode cX5_digest 164 = .ok (.invokevirtual 64, 3) := by decide +kernel
theorem dX5_digest_167 : decode cX5_digest 167 = .ok (.if_icmp .ge 23, 3) := by decide +kernel
theorem dX5_digest_170 : decode cX5_digest 170 = .ok (.lload_n 1, 1) := by decide +kernel
theorem dX5_digest_171 : decode cX5_digest 171 = .ok (.aload_n 0, 1) := by decide +kernel
theorem dX5_digest_172 : decode cX5_digest 172 = .ok (.getfield 38, 3) := by decide +kernel
theorem dX5_digest_175 : decode cX5_digest 175 = .ok (.iload_n 3, 1) := by decide +kernel
theorem dX5_digest_176 : decode cX5_digest 176 = .ok (.invokevirtual 262, 3) := by decide +kernel
theorem dX5_digest_179 : decode cX5_digest 179 = .ok (.i2l, 1) := by decide +kernel
theorem dX5_digest_180 : decode cX5_digest 180 = .ok (.invokestatic 237, 3) := by decide +kernel
theorem dX5_digest_183 : decode cX5_digest 183 = .ok (.lstore_n 1, 1) := by decide +kernel
theorem dX5_digest_184 : decode cX5_digest 184 = .ok (.iinc 3 1, 3) := by decide +kernel
theorem dX5_digest_187 : decode cX5_digest 187 = .ok (.goto (-28), 3) := by decide +kernel
theorem dX5_digest_190 : decode cX5_digest 190 = .ok (.lload_n 1, 1) := by decide +kernel
theorem dX5_digest_191 : decode cX5_digest 191 = .ok (.lreturn, 1) := by decide +kernel
theorem dX5_isSetting_0 : decode cX5_isSetting 0 = .ok (.iload_n 0, 1) := by decide +kernel
theorem dX5_isSetting_1 : decode cX5_isSetting 1 = .ok (.ifCond .lt 12, 3) := by decide +kernel
theorem dX5_isSetting_4 : decode cX5_isSetting 4 = .ok (.iload_n 0, 1) := by decide +kernel
theorem dX5_isSetting_5 : decode cX5_isSetting 5 = .ok (.iconst 3, 1) := by decide +kernel
theorem dX5_isSetting_6 : decode cX5_isSetting 6 = .ok (.if_icmp .ge 7, 3) := by decide +kernel
theorem dX5_isSetting_9 : decode cX5_isSetting 9 = .ok (.iconst 1, 1) := by decide +kernel
theorem dX5_isSetting_10 : decode cX5_isSetting 10 = .ok (.goto 4, 3) := by decide +kernel
theorem dX5_isSetting_13 : decode cX5_isSetting 13 = .ok (.iconst 0, 1) := by decide +kernel
theorem dX5_isSetting_14 : decode cX5_isSetting 14 = .ok (.ireturn, 1) := by decide +kernel
theorem dX5_isLoad_0 : decode cX5_isLoad 0 = .ok (.iload_n 0, 1) := by decide +kernel
theorem dX5_isLoad_1 : decode cX5_isLoad 1 = .ok (.iconst 1, 1) := by decide +kernel
theorem dX5_isLoad_2 : decode cX5_isLoad 2 = .ok (.if_icmp .lt 13, 3) := by decide +kernel
theorem dX5_isLoad_5 : decode cX5_isLoad 5 = .ok (.iload_n 0, 1) := by decide +kernel
theorem dX5_isLoad_6 : decode cX5_isLoad 6 = .ok (.bipush 20, 2) := by decide +kernel
theorem dX5_isLoad_8 : decode cX5_isLoad 8 = .ok (.if_icmp .gt 7, 3) := by decide +kernel
theorem dX5_isLoad_11 : decode cX5_isLoad 11 = .ok (.iconst 1, 1) := by decide +kernel
theorem dX5_isLoad_12 : decode cX5_isLoad 12 = .ok (.goto 4, 3) := by decide +kernel
theorem dX5_isLoad_15 : decode cX5_isLoad 15 = .ok (.iconst 0, 1) := by decide +kernel
theorem dX5_isLoad_16 : decode cX5_isLoad 16 = .ok (.ireturn, 1) := by decide +kernel
theorem dX5_isRun_0 : decode cX5_isRun 0 = .ok (.iload_n 0, 1) := by decide +kernel
theorem dX5_isRun_1 : decode cX5_isRun 1 = .ok (.iconst 1, 1) := by decide +kernel
theorem dX5_isRun_2 : decode cX5_isRun 2 = .ok (.if_icmp .lt 14, 3) := by decide +kernel
theorem dX5_isRun_5 : decode cX5_isRun 5 = .ok (.iload_n 0, 1) := by decide +kernel
theorem dX5_isRun_6 : decode cX5_isRun 6 = .ok (.sipush 200, 3) := by decide +kernel
theorem dX5_isRun_9 : decode cX5_isRun 9 = .ok (.if_icmp .gt 7, 3) := by decide +kernel
theorem dX5_isRun_12 : decode cX5_isRun 12 = .ok (.iconst 1, 1) := by decide +kernel
theorem dX5_isRun_13 : decode cX5_isRun 13 = .ok (.goto 4, 3) := by decide +kernel
theorem dX5_isRun_16 : decode cX5_isRun 16 = .ok (.iconst 0, 1) := by decide +kernel
theorem dX5_isRun_17 : decode cX5_isRun 17 = .ok (.ireturn, 1) := by decide +kernel
theorem dX5_isImage_0 : decode cX5_isImage 0 = .ok (.iload_n 0, 1) := by decide +kernel
theorem dX5_isImage_1 : decode cX5_isImage 1 = .ok (.ifCond .lt 12, 3) := by decide +kernel
theorem dX5_isImage_4 : decode cX5_isImage 4 = .ok (.iload_n 0, 1) := by decide +kernel
theorem dX5_isImage_5 : decode cX5_isImage 5 = .ok (.iconst 2, 1) := by decide +kernel
theorem dX5_isImage_6 : decode cX5_isImage 6 = .ok (.if_icmp .ge 7, 3) := by decide +kernel
theorem dX5_isImage_9 : decode cX5_isImage 9 = .ok (.iconst 1, 1) := by decide +kernel
theorem dX5_isImage_10 : decode cX5_isImage 10 = .ok (.goto 4, 3) := by decide +kernel
theorem dX5_isImage_13 : decode cX5_isImage 13 = .ok (.iconst 0, 1) := by decide +kernel
theorem dX5_isImage_14 : decode cX5_isImage 14 = .ok (.ireturn, 1) := by decide +kernel
theorem dX5_foreseen_0 : decode cX5_foreseen 0 = .ok (.iload_n 1, 1) := by decide +kernel
theorem dX5_foreseen_1 : decode cX5_foreseen 1 = .ok (.tableswitch 79 0 3 #[31, 47, 55, 71], 31) := by decide +kernel
theorem dX5_foreseen_32 : decode cX5_foreseen 32 = .ok (.aload_n 0, 1) := by decide +kernel
theorem dX5_foreseen_33 : decode cX5_foreseen 33 = .ok (.getfield 46, 3) := by decide +kernel
theorem dX5_foreseen_36 : decode cX5_foreseen 36 = .ok (.getfield 208, 3) := by decide +kernel
theorem dX5_foreseen_39 : decode cX5_foreseen 39 = .ok (.aload_n 0, 1) := by decide +kernel
theorem dX5_foreseen_40 : decode cX5_foreseen 40 = .ok (.getfield 42, 3) := by decide +kernel
theorem dX5_foreseen_43 : decode cX5_foreseen 43 = .ok (.getfield 208, 3) := by decide +kernel
theorem dX5_foreseen_46 : decode cX5_foreseen 46 = .ok (.isub, 1) := by decide +kernel
theorem dX5_foreseen_47 : decode cX5_foreseen 47 = .ok (.ireturn, 1) := by decide +kernel
theorem dX5_foreseen_48 : decode cX5_foreseen 48 = .ok (.aload_n 0, 1) := by decide +kernel
theorem dX5_foreseen_49 : decode cX5_foreseen 49 = .ok (.getfield 46, 3) := by decide +kernel
theorem dX5_foreseen_52 : decode cX5_foreseen 52 = .ok (.invokevirtual 214, 3) := by decide +kernel
theorem dX5_foreseen_55 : decode cX5_foreseen 55 = .ok (.ireturn, 1) := by decide +kernel
theorem dX5_foreseen_56 : decode cX5_foreseen 56 = .ok (.aload_n 0, 1) := by decide +kernel
theorem dX5_foreseen_57 : decode cX5_foreseen 57 = .ok (.getfield 46, 3) := by decide +kernel
theorem dX5_foreseen_60 : decode cX5_foreseen 60 = .ok (.invokevirtual 217, 3) := by decide +kernel
theorem dX5_foreseen_63 : decode cX5_foreseen 63 = .ok (.aload_n 0, 1) := by decide +kernel
theorem dX5_foreseen_64 : decode cX5_foreseen 64 = .ok (.getfield 42, 3) := by decide +kernel
theorem dX5_foreseen_67 : decode cX5_foreseen 67 = .ok (.invokevirtual 217, 3) := by decide +kernel
theorem dX5_foreseen_70 : decode cX5_foreseen 70 = .ok (.isub, 1) := by decide +kernel
theorem dX5_foreseen_71 : decode cX5_foreseen 71 = .ok (.ireturn, 1) := by decide +kernel
theorem dX5_foreseen_72 : decode cX5_foreseen 72 = .ok (.aload_n 0, 1) := by decide +kernel
theorem dX5_foreseen_73 : decode cX5_foreseen 73 = .ok (.getfield 46, 3) := by decide +kernel
theorem dX5_foreseen_76 : decode cX5_foreseen 76 = .ok (.getfield 265, 3) := by decide +kernel
theorem dX5_foreseen_79 : decode cX5_foreseen 79 = .ok (.ireturn, 1) := by decide +kernel
theorem dX5_foreseen_80 : decode cX5_foreseen 80 = .ok (.bipush (-2), 2) := by decide +kernel
theorem dX5_foreseen_82 : decode cX5_foreseen 82 = .ok (.ireturn, 1) := by decide +kernel
theorem dX5_mixed_0 : decode cX5_mixed 0 = .ok (.ldc2_w 268, 3) := by decide +kernel
theorem dX5_mixed_3 : decode cX5_mixed 3 = .ok (.lload_n 0, 1) := by decide +kernel
theorem dX5_mixed_4 : decode cX5_mixed 4 = .ok (.lmul, 1) := by decide +kernel
theorem dX5_mixed_5 : decode cX5_mixed 5 = .ok (.lload_n 2, 1) := by decide +kernel
theorem dX5_mixed_6 : decode cX5_mixed 6 = .ok (.ladd, 1) := by decide +kernel
theorem dX5_mixed_7 : decode cX5_mixed 7 = .ok (.lreturn, 1) := by decide +kernel
theorem dX5_withSegments_0 : decode cX5_withSegments 0 = .ok (.lload_n 1, 1) := by decide +kernel
theorem dX5_withSegments_1 : decode cX5_withSegments 1 = .ok (.lstore_n 3, 1) := by decide +kernel
theorem dX5_withSegments_2 : decode cX5_withSegments 2 = .ok (.iconst 0, 1) := by decide +kernel
theorem dX5_withSegments_3 : decode cX5_withSegments 3 = .ok (.istore 5, 2) := by decide +kernel
theorem dX5_withSegments_5 : decode cX5_withSegments 5 = .ok (.iload 5, 2) := by decide +kernel
theorem dX5_withSegments_7 : decode cX5_withSegments 7 = .ok (.aload_n 0, 1) := by decide +kernel
theorem dX5_withSegments_8 : decode cX5_withSegments 8 = .ok (.getfield 42, 3) := by decide +kernel
theorem dX5_withSegments_11 : decode cX5_withSegments 11 = .ok (.getfield 74, 3) := by decide +kernel
theorem dX5_withSegments_14 : decode cX5_withSegments 14 = .ok (.if_icmp .ge 39, 3) := by decide +kernel
theorem dX5_withSegments_17 : decode cX5_withSegments 17 = .ok (.iconst 0, 1) := by decide +kernel
theorem dX5_withSegments_18 : decode cX5_withSegments 18 = .ok (.istore 6, 2) := by decide +kernel
theorem dX5_withSegments_20 : decode cX5_withSegments 20 = .ok (.iload 6, 2) := by decide +kernel
theorem dX5_withSegments_22 : decode cX5_withSegments 22 = .ok (.bipush 7, 2) := by decide +kernel
theorem dX5_withSegments_24 : decode cX5_withSegments 24 = .ok (.if_icmp .ge 23, 3) := by decide +kernel
theorem dX5_withSegments_27 : decode cX5_withSegments 27 = .ok (.lload_n 3, 1) := by decide +kernel
theorem dX5_withSegments_28 : decode cX5_withSegments 28 = .ok (.aload_n 0, 1) := by decide +kernel
theorem dX5_withSegments_29 : decode cX5_withSegments 29 = .ok (.iload 5, 2) := by decide +kernel
theorem dX5_withSegments_31 : decode cX5_withSegments 31 = .ok (.iload 6, 2) := by decide +kernel
theorem dX5_withSegments_33 : decode cX5_withSegments 33 = .ok (.invokevirtual 270, 3) := by decide +kernel
theorem dX5_withSegments_36 : decode cX5_withSegments 36 = .ok (.i2l, 1) := by decide +kernel
theorem dX5_withSegments_37 : decode cX5_withSegments 37 = .ok (.invokestatic 237, 3) := by decide +kernel
theorem dX5_withSegments_40 : decode cX5_withSegments 40 = .ok (.lstore_n 3, 1) := by decide +kernel
theorem dX5_withSegments_41 : decode cX5_withSegments 41 = .ok (.iinc 6 1, 3) := by decide +kernel
theorem dX5_withSegments_44 : decode cX5_withSegments 44 = .ok (.goto (-24), 3) := by decide +kernel
theorem dX5_withSegments_47 : decode cX5_withSegments 47 = .ok (.iinc 5 1, 3) := by decide +kernel
theorem dX5_withSegments_50 : decode cX5_withSegments 50 = .ok (.goto (-45), 3) := by decide +kernel
theorem dX5_withSegments_53 : decode cX5_withSegments 53 = .ok (.lload_n 3, 1) := by decide +kernel
theorem dX5_withSegments_54 : decode cX5_withSegments 54 = .ok (.lreturn, 1) := by decide +kernel
theorem dX5_withTrains_0 : decode cX5_withTrains 0 = .ok (.lload_n 1, 1) := by decide +kernel
theorem dX5_withTrains_1 : decode cX5_withTrains 1 = .ok (.lstore_n 3, 1) := by decide +kernel
theorem dX5_withTrains_2 : decode cX5_withTrains 2 = .ok (.iconst 0, 1) := by decide +kernel
theorem dX5_withTrains_3 : decode cX5_withTrains 3 = .ok (.istore 5, 2) := by decide +kernel
theorem dX5_withTrains_5 : decode cX5_withTrains 5 = .ok (.iload 5, 2) := by decide +kernel
theorem dX5_withTrains_7 : decode cX5_withTrains 7 = .ok (.aload_n 0, 1) := by decide +kernel
theorem dX5_withTrains_8 : decode cX5_withTrains 8 = .ok (.getfield 42, 3) := by decide +kernel
theorem dX5_withTrains_11 : decode cX5_withTrains 11 = .ok (.getfield 101, 3) := by decide +kernel
theorem dX5_withTrains_14 : decode cX5_withTrains 14 = .ok (.if_icmp .ge 51, 3) := by decide +kernel
theorem dX5_withTrains_17 : decode cX5_withTrains 17 = .ok (.iconst 0, 1) := by decide +kernel
theorem dX5_withTrains_18 : decode cX5_withTrains 18 = .ok (.istore 6, 2) := by decide +kernel
theorem dX5_withTrains_20 : decode cX5_withTrains 20 = .ok (.iload 6, 2) := by decide +kernel
theorem dX5_withTrains_22 : decode cX5_withTrains 22 = .ok (.bipush 10, 2) := by decide +kernel
theorem dX5_withTrains_24 : decode cX5_withTrains 24 = .ok (.if_icmp .ge 23, 3) := by decide +kernel
theorem dX5_withTrains_27 : decode cX5_withTrains 27 = .ok (.lload_n 3, 1) := by decide +kernel
theorem dX5_withTrains_28 : decode cX5_withTrains 28 = .ok (.aload_n 0, 1) := by decide +kernel
theorem dX5_withTrains_29 : decode cX5_withTrains 29 = .ok (.iload 5, 2) := by decide +kernel
theorem dX5_withTrains_31 : decode cX5_withTrains 31 = .ok (.iload 6, 2) := by decide +kernel
theorem dX5_withTrains_33 : decode cX5_withTrains 33 = .ok (.invokevirtual 273, 3) := by decide +kernel
theorem dX5_withTrains_36 : decode cX5_withTrains 36 = .ok (.i2l, 1) := by decide +kernel
theorem dX5_withTrains_37 : decode cX5_withTrains 37 = .ok (.invokestatic 237, 3) := by decide +kernel
theorem dX5_withTrains_40 : decode cX5_withTrains 40 = .ok (.lstore_n 3, 1) := by decide +kernel
theorem dX5_withTrains_41 : decode cX5_withTrains 41 = .ok (.iinc 6 1, 3) := by decide +kernel
theorem dX5_withTrains_44 : decode cX5_withTrains 44 = .ok (.goto (-24), 3) := by decide +kernel
theorem dX5_withTrains_47 : decode cX5_withTrains 47 = .ok (.lload_n 3, 1) := by decide +kernel
theorem dX5_withTrains_48 : decode cX5_withTrains 48 = .ok (.aload_n 0, 1) := by decide +kernel
theorem dX5_withTrains_49 : decode cX5_withTrains 49 = .ok (.iload 5, 2) := by decide +kernel
theorem dX5_withTrains_51 : decode cX5_withTrains 51 = .ok (.invokevirtual 276, 3) := by decide +kernel
theorem dX5_withTrains_54 : decode cX5_withTrains 54 = .ok (.i2l, 1) := by decide +kernel
theorem dX5_withTrains_55 : decode cX5_withTrains 55 = .ok (.invokestatic 237, 3) := by decide +kernel
theorem dX5_withTrains_58 : decode cX5_withTrains 58 = .ok (.lstore_n 3, 1) := by decide +kernel
theorem dX5_withTrains_59 : decode cX5_withTrains 59 = .ok (.iinc 5 1, 3) := by decide +kernel
theorem dX5_withTrains_62 : decode cX5_withTrains 62 = .ok (.goto (-57), 3) := by decide +kernel
theorem dX5_withTrains_65 : decode cX5_withTrains 65 = .ok (.lload_n 3, 1) := by decide +kernel
theorem dX5_withTrains_66 : decode cX5_withTrains 66 = .ok (.lreturn, 1) := by decide +kernel
theorem dX5_bitsOf_0 : decode cX5_bitsOf 0 = .ok (.dload_n 0, 1) := by decide +kernel
theorem dX5_bitsOf_1 : decode cX5_bitsOf 1 = .ok (.dconst 0, 1) := by decide +kernel
theorem dX5_bitsOf_2 : decode cX5_bitsOf 2 = .ok (.dcmp .l, 1) := by decide +kernel
theorem dX5_bitsOf_3 : decode cX5_bitsOf 3 = .ok (.ifCond .gt 5, 3) := by decide +kernel
theorem dX5_bitsOf_6 : decode cX5_bitsOf 6 = .ok (.lconst 0, 1) := by decide +kernel
theorem dX5_bitsOf_7 : decode cX5_bitsOf 7 = .ok (.lreturn, 1) := by decide +kernel
theorem dX5_bitsOf_8 : decode cX5_bitsOf 8 = .ok (.dload_n 0, 1) := by decide +kernel
theorem dX5_bitsOf_9 : decode cX5_bitsOf 9 = .ok (.dstore_n 2, 1) := by decide +kernel
theorem dX5_bitsOf_10 : decode cX5_bitsOf 10 = .ok (.ldc2_w 279, 3) := by decide +kernel
theorem dX5_bitsOf_13 : decode cX5_bitsOf 13 = .ok (.lstore 4, 2) := by decide +kernel
theorem dX5_bitsOf_15 : decode cX5_bitsOf 15 = .ok (.iconst 0, 1) := by decide +kernel
theorem dX5_bitsOf_16 : decode cX5_bitsOf 16 = .ok (.istore 6, 2) := by decide +kernel
theorem dX5_bitsOf_18 : decode cX5_bitsOf 18 = .ok (.iload 6, 2) := by decide +kernel
theorem dX5_bitsOf_20 : decode cX5_bitsOf 20 = .ok (.sipush 1100, 3) := by decide +kernel
theorem dX5_bitsOf_23 : decode cX5_bitsOf 23 = .ok (.if_icmp .ge 29, 3) := by decide +kernel
theorem dX5_bitsOf_26 : decode cX5_bitsOf 26 = .ok (.dload_n 2, 1) := by decide +kernel
theorem dX5_bitsOf_27 : decode cX5_bitsOf 27 = .ok (.ldc2_w 281, 3) := by decide +kernel
theorem dX5_bitsOf_30 : decode cX5_bitsOf 30 = .ok (.dcmp .l, 1) := by decide +kernel
theorem dX5_bitsOf_31 : decode cX5_bitsOf 31 = .ok (.ifCond .lt 21, 3) := by decide +kernel
theorem dX5_bitsOf_34 : decode cX5_bitsOf 34 = .ok (.dload_n 2, 1) := by decide +kernel
theorem dX5_bitsOf_35 : decode cX5_bitsOf 35 = .ok (.ldc2_w 281, 3) := by decide +kernel
theorem dX5_bitsOf_38 : decode cX5_bitsOf 38 = .ok (.ddiv, 1) := by decide +kernel
theorem dX5_bitsOf_39 : decode cX5_bitsOf 39 = .ok (.dstore_n 2, 1) := by decide +kernel
theorem dX5_bitsOf_40 : decode cX5_bitsOf 40 = .ok (.lload 4, 2) := by decide +kernel
theorem dX5_bitsOf_42 : decode cX5_bitsOf 42 = .ok (.lconst 1, 1) := by decide +kernel
theorem dX5_bitsOf_43 : decode cX5_bitsOf 43 = .ok (.ladd, 1) := by decide +kernel
theorem dX5_bitsOf_44 : decode cX5_bitsOf 44 = .ok (.lstore 4, 2) := by decide +kernel
theorem dX5_bitsOf_46 : decode cX5_bitsOf 46 = .ok (.iinc 6 1, 3) := by decide +kernel
theorem dX5_bitsOf_49 : decode cX5_bitsOf 49 = .ok (.goto (-31), 3) := by decide +kernel
theorem dX5_bitsOf_52 : decode cX5_bitsOf 52 = .ok (.iconst 0, 1) := by decide +kernel
theorem dX5_bitsOf_53 : decode cX5_bitsOf 53 = .ok (.istore 6, 2) := by decide +kernel
theorem dX5_bitsOf_55 : decode cX5_bitsOf 55 = .ok (.iload 6, 2) := by decide +kernel
theorem dX5_bitsOf_57 : decode cX5_bitsOf 57 = .ok (.sipush 1100, 3) := by decide +kernel
theorem dX5_bitsOf_60 : decode cX5_bitsOf 60 = .ok (.if_icmp .ge 27, 3) := by decide +kernel
theorem dX5_bitsOf_63 : decode cX5_bitsOf 63 = .ok (.dload_n 2, 1) := by decide +kernel
theorem dX5_bitsOf_64 : decode cX5_bitsOf 64 = .ok (.dconst 1, 1) := by decide +kernel
theorem dX5_bitsOf_65 : decode cX5_bitsOf 65 = .ok (.dcmp .g, 1) := by decide +kernel
theorem dX5_bitsOf_66 : decode cX5_bitsOf 66 = .ok (.ifCond .ge 21, 3) := by decide +kernel
theorem dX5_bitsOf_69 : decode cX5_bitsOf 69 = .ok (.dload_n 2, 1) := by decide +kernel
theorem dX5_bitsOf_70 : decode cX5_bitsOf 70 = .ok (.ldc2_w 281, 3) := by decide +kernel
theorem dX5_bitsOf_73 : decode cX5_bitsOf 73 = .ok (.dmul, 1) := by decide +kernel
theorem dX5_bitsOf_74 : decode cX5_bitsOf 74 = .ok (.dstore_n 2, 1) := by decide +kernel
theorem dX5_bitsOf_75 : decode cX5_bitsOf 75 = .ok (.lload 4, 2) := by decide +kernel
theorem dX5_bitsOf_77 : decode cX5_bitsOf 77 = .ok (.lconst 1, 1) := by decide +kernel
theorem dX5_bitsOf_78 : decode cX5_bitsOf 78 = .ok (.lsub, 1) := by decide +kernel
theorem dX5_bitsOf_79 : decode cX5_bitsOf 79 = .ok (.lstore 4, 2) := by decide +kernel
theorem dX5_bitsOf_81 : decode cX5_bitsOf 81 = .ok (.iinc 6 1, 3) := by decide +kernel
theorem dX5_bitsOf_84 : decode cX5_bitsOf 84 = .ok (.goto (-29), 3) := by decide +kernel
theorem dX5_bitsOf_87 : decode cX5_bitsOf 87 = .ok (.lload 4, 2) := by decide +kernel
theorem dX5_bitsOf_89 : decode cX5_bitsOf 89 = .ok (.bipush 52, 2) := by decide +kernel
theorem dX5_bitsOf_91 : decode cX5_bitsOf 91 = .ok (.lshl, 1) := by decide +kernel
theorem dX5_bitsOf_92 : decode cX5_bitsOf 92 = .ok (.dload_n 2, 1) := by decide +kernel
theorem dX5_bitsOf_93 : decode cX5_bitsOf 93 = .ok (.dconst 1, 1) := by decide +kernel
theorem dX5_bitsOf_94 : decode cX5_bitsOf 94 = .ok (.dsub, 1) := by decide +kernel
theorem dX5_bitsOf_95 : decode cX5_bitsOf 95 = .ok (.ldc2_w 283, 3) := by decide +kernel
theorem dX5_bitsOf_98 : decode cX5_bitsOf 98 = .ok (.dmul, 1) := by decide +kernel
theorem dX5_bitsOf_99 : decode cX5_bitsOf 99 = .ok (.d2l, 1) := by decide +kernel
theorem dX5_bitsOf_100 : decode cX5_bitsOf 100 = .ok (.ladd, 1) := by decide +kernel
theorem dX5_bitsOf_101 : decode cX5_bitsOf 101 = .ok (.lreturn, 1) := by decide +kernel
theorem dX6_init_0 : decode cX6_init 0 = .ok (.aload_n 0, 1) := by decide +kernel
theorem dX6_init_1 : decode cX6_init 1 = .ok (.invokespecial 1, 3) := by decide +kernel
theorem dX6_init_4 : decode cX6_init 4 = .ok (.aload_n 0, 1) := by decide +kernel
theorem dX6_init_5 : decode cX6_init 5 = .ok (.bipush 82, 2) := by decide +kernel
theorem dX6_init_7 : decode cX6_init 7 = .ok (.newarray .int, 2) := by decide +kernel
theorem dX6_init_9 : decode cX6_init 9 = .ok (.putfield 7, 3) := by decide +kernel
theorem dX6_init_12 : decode cX6_init 12 = .ok (.aload_n 0, 1) := by decide +kernel
theorem dX6_init_13 : decode cX6_init 13 = .ok (.bipush 82, 2) := by decide +kernel
theorem dX6_init_15 : decode cX6_init 15 = .ok (.newarray .int, 2) := by decide +kernel
theorem dX6_init_17 : decode cX6_init 17 = .ok (.putfield 13, 3) := by decide +kernel
theorem dX6_init_20 : decode cX6_init 20 = .ok (.aload_n 0, 1) := by decide +kernel
theorem dX6_init_21 : decode cX6_init 21 = .ok (.sipush 656, 3) := by decide +kernel
theorem dX6_init_24 : decode cX6_init 24 = .ok (.newarray .int, 2) := by decide +kernel
theorem dX6_init_26 : decode cX6_init 26 = .ok (.putfield 16, 3) := by decide +kernel
theorem dX6_init_29 : decode cX6_init 29 = .ok (.aload_n 0, 1) := by decide +kernel
theorem dX6_init_30 : decode cX6_init 30 = .ok (.sipush 164, 3) := by decide +kernel
theorem dX6_init_33 : decode cX6_init 33 = .ok (.newarray .int, 2) := by decide +kernel
theorem dX6_init_35 : decode cX6_init 35 = .ok (.putfield 19, 3) := by decide +kernel
theorem dX6_init_38 : decode cX6_init 38 = .ok (.aload_n 0, 1) := by decide +kernel
theorem dX6_init_39 : decode cX6_init 39 = .ok (.bipush 40, 2) := by decide +kernel
theorem dX6_init_41 : decode cX6_init 41 = .ok (.newarray .int, 2) := by decide +kernel
theorem dX6_init_43 : decode cX6_init 43 = .ok (.putfield 22, 3) := by decide +kernel
theorem dX6_init_46 : decode cX6_init 46 = .ok (.aload_n 0, 1) := by decide +kernel
theorem dX6_init_47 : decode cX6_init 47 = .ok (.getfield 7, 3) := by decide +kernel
theorem dX6_init_50 : decode cX6_init 50 = .ok (.bipush 72, 2) := by decide +kernel
theorem dX6_init_52 : decode cX6_init 52 = .ok (.bipush 7, 2) := by decide +kernel
theorem dX6_init_54 : decode cX6_init 54 = .ok (.iastore, 1) := by decide +kernel
theorem dX6_init_55 : decode cX6_init 55 = .ok (.iconst 0, 1) := by decide +kernel
theorem dX6_init_56 : decode cX6_init 56 = .ok (.istore_n 1, 1) := by decide +kernel
theorem dX6_init_57 : decode cX6_init 57 = .ok (.iload_n 1, 1) := by decide +kernel
theorem dX6_init_58 : decode cX6_init 58 = .ok (.bipush 7, 2) := by decide +kernel
theorem dX6_init_60 : decode cX6_init 60 = .ok (.if_icmp .ge 49, 3) := by decide +kernel
theorem dX6_init_63 : decode cX6_init 63 = .ok (.aload_n 0, 1) := by decide +kernel
theorem dX6_init_64 : decode cX6_init 64 = .ok (.iload_n 1, 1) := by decide +kernel
theorem dX6_init_65 : decode cX6_init 65 = .ok (.iload_n 1, 1) := by decide +kernel
theorem dX6_init_66 : decode cX6_init 66 = .ok (.iconst 3, 1) := by decide +kernel
theorem dX6_init_67 : decode cX6_init 67 = .ok (.if_icmp .ne 7, 3) := by decide +kernel
theorem dX6_init_70 : decode cX6_init 70 = .ok (.iconst 2, 1) := by decide +kernel
theorem dX6_init_71 : decode cX6_init 71 = .ok (.goto 18, 3) := by decide +kernel
theorem dX6_init_74 : decode cX6_init 74 = .ok (.iload_n 1, 1) := by decide +kernel
theorem dX6_init_75 : decode cX6_init 75 = .ok (.ifCond .eq 9, 3) := by decide +kernel
theorem dX6_init_78 : decode cX6_init 78 = .ok (.iload_n 1, 1) := by decide +kernel
theorem dX6_init_79 : decode cX6_init 79 = .ok (.bipush 6, 2) := by decide +kernel
theorem dX6_init_81 : decode cX6_init 81 = .ok (.if_icmp .ne 7, 3) := by decide +kernel
theorem dX6_init_84 : decode cX6_init 84 = .ok (.iconst 0, 1) := by decide +kernel
theorem dX6_init_85 : decode cX6_init 85 = .ok (.goto 4, 3) := by decide +kernel
theorem dX6_init_88 : decode cX6_init 88 = .ok (.iconst 4, 1) := by decide +kernel
theorem dX6_init_89 : decode cX6_init 89 = .ok (.iload_n 1, 1) := by decide +kernel
theorem dX6_init_90 : decode cX6_init 90 = .ok (.iconst 3, 1) := by decide +kernel
theorem dX6_init_91 : decode cX6_init 91 = .ok (.irem, 1) := by decide +kernel
theorem dX6_init_92 : decode cX6_init 92 = .ok (.ifCond .ne 7, 3) := by decide +kernel
theorem dX6_init_95 : decode cX6_init 95 = .ok (.iconst 1, 1) := by decide +kernel
theorem dX6_init_96 : decode cX6_init 96 = .ok (.goto 4, 3) := by decide +kernel
theorem dX6_init_99 : decode cX6_init 99 = .ok (.iconst 0, 1) := by decide +kernel
theorem dX6_init_100 : decode cX6_init 100 = .ok (.invokevirtual 25, 3) := by decide +kernel
theorem dX6_init_103 : decode cX6_init 103 = .ok (.iinc 1 1, 3) := by decide +kernel
theorem dX6_init_106 : decode cX6_init 106 = .ok (.goto (-49), 3) := by decide +kernel
theorem dX6_init_109 : decode cX6_init 109 = .ok (.aload_n 0, 1) := by decide +kernel
theorem dX6_init_110 : decode cX6_init 110 = .ok (.getfield 7, 3) := by decide +kernel
theorem dX6_init_113 : decode cX6_init 113 = .ok (.bipush 75, 2) := by decide +kernel
theorem dX6_init_115 : decode cX6_init 115 = .ok (.sipush 300, 3) := by decide +kernel
theorem dX6_init_118 : decode cX6_init 118 = .ok (.iastore, 1) := by decide +kernel
theorem dX6_init_119 : decode cX6_init 119 = .ok (.aload_n 0, 1) := by decide +kernel
theorem dX6_init_120 : decode cX6_init 120 = .ok (.getfield 7, 3) := by decide +kernel
theorem dX6_init_123 : decode cX6_init 123 = .ok (.bipush 76, 2) := by decide +kernel
theorem dX6_init_125 : decode cX6_init 125 = .ok (.iconst 5, 1) := by decide +kernel
theorem dX6_init_126 : decode cX6_init 126 = .ok (.iastore, 1) := by decide +kernel
theorem dX6_init_127 : decode cX6_init 127 = .ok (.return_, 1) := by decide +kernel
theorem dX6_within_0 : decode cX6_within 0 = .ok (.iload_n 0, 1) := by decide +kernel
theorem dX6_within_1 : decode cX6_within 1 = .ok (.iload_n 1, 1) := by decide +kernel
theorem dX6_within_2 : decode cX6_within 2 = .ok (.if_icmp .lt 12, 3) := by decide +kernel
theorem dX6_within_5 : decode cX6_within 5 = .ok (.iload_n 0, 1) := by decide +kernel
theorem dX6_within_6 : decode cX6_within 6 = .ok (.iload_n 2, 1) := by decide +kernel
theorem dX6_within_7 : decode cX6_within 7 = .ok (.if_icmp .gt 7, 3) := by decide +kernel
theorem dX6_within_10 : decode cX6_within 10 = .ok (.iconst 1, 1) := by decide +kernel
theorem dX6_within_11 : decode cX6_within 11 = .ok (.goto 4, 3) := by decide +kernel
theorem dX6_within_14 : decode cX6_within 14 = .ok (.iconst 0, 1) := by decide +kernel
theorem dX6_within_15 : decode cX6_within 15 = .ok (.ireturn, 1) := by decide +kernel
theorem dX6_seg_0 : decode cX6_seg 0 = .ok (.aload_n 0, 1) := by decide +kernel
theorem dX6_seg_1 : decode cX6_seg 1 = .ok (.getfield 7, 3) := by decide +kernel
theorem dX6_seg_4 : decode cX6_seg 4 = .ok (.iconst 0, 1) := by decide +kernel
theorem dX6_seg_5 : decode cX6_seg 5 = .ok (.iconst 3, 1) := by decide +kernel
theorem dX6_seg_6 : decode cX6_seg 6 = .ok (.iload_n 1, 1) := by decide +kernel
theorem dX6_seg_7 : decode cX6_seg 7 = .ok (.imul, 1) := by decide +kernel
theorem dX6_seg_8 : decode cX6_seg 8 = .ok (.iadd, 1) := by decide +kernel
theorem dX6_seg_9 : decode cX6_seg 9 = .ok (.iload_n 2, 1) := by decide +kernel
theorem dX6_seg_10 : decode cX6_seg 10 = .ok (.iadd, 1) := by decide +kernel
theorem dX6_seg_11 : decode cX6_seg 11 = .ok (.iaload, 1) := by decide +kernel
theorem dX6_seg_12 : decode cX6_seg 12 = .ok (.ireturn, 1) := by decide +kernel
theorem dX6_of_0 : decode cX6_of 0 = .ok (.aload_n 0, 1) := by decide +kernel
theorem dX6_of_1 : decode cX6_of 1 = .ok (.getfield 7, 3) := by decide +kernel
theorem dX6_of_4 : decode cX6_of 4 = .ok (.bipush 36, 2) := by decide +kernel
theorem dX6_of_6 : decode cX6_of 6 = .ok (.bipush 9, 2) := by decide +kernel
theorem dX6_of_8 : decode cX6_of 8 = .ok (.iload_n 1, 1) := by decide +kernel
theorem dX6_of_9 : decode cX6_of 9 = .ok (.imul, 1) := by decide +kernel
theorem dX6_of_10 : decode cX6_of 10 = .ok (.iadd, 1) := by decide +kernel
theorem dX6_of_11 : decode cX6_of 11 = .ok (.iload_n 2, 1) := by decide +kernel
theorem dX6_of_12 : decode cX6_of 12 = .ok (.iadd, 1) := by decide +kernel
theorem dX6_of_13 : decode cX6_of 13 = .ok (.iaload, 1) := by decide +kernel
theorem dX6_of_14 : decode cX6_of 14 = .ok (.ireturn, 1) := by decide +kernel
theorem dX6_put_0 : decode cX6_put 0 = .ok (.aload_n 0, 1) := by decide +kernel
theorem dX6_put_1 : decode cX6_put 1 = .ok (.getfield 7, 3) := by decide +kernel
theorem dX6_put_4 : decode cX6_put 4 = .ok (.bipush 36, 2) := by decide +kernel
theorem dX6_put_6 : decode cX6_put 6 = .ok (.bipush 9, 2) := by decide +kernel
theorem dX6_put_8 : decode cX6_put 8 = .ok (.iload_n 1, 1) := by decide +kernel
theorem dX6_put_9 : decode cX6_put 9 = .ok (.imul, 1) := by decide +kernel
theorem dX6_put_10 : decode cX6_put 10 = .ok (.iadd, 1) := by decide +kernel
theorem dX6_put_11 : decode cX6_put 11 = .ok (.iload_n 2, 1) := by decide +kernel
theorem dX6_put_12 : decode cX6_put 12 = .ok (.iadd, 1) := by decide +kernel
theorem dX6_put_13 : decode cX6_put 13 = .ok (.iload_n 3, 1) := by decide +kernel
theorem dX6_put_14 : decode cX6_put 14 = .ok (.iastore, 1) := by decide +kernel
theorem dX6_put_15 : decode cX6_put 15 = .ok (.return_, 1) := by decide +kernel
theorem dX6_other_0 : decode cX6_other 0 = .ok (.aload_n 0, 1) := by decide +kernel
theorem dX6_other_1 : decode cX6_other 1 = .ok (.getfield 7, 3) := by decide +kernel
theorem dX6_other_4 : decode cX6_other 4 = .ok (.bipush 75, 2) := by decide +kernel
theorem dX6_other_6 : decode cX6_other 6 = .ok (.iload_n 1, 1) := by decide +kernel
theorem dX6_other_7 : decode cX6_other 7 = .ok (.iadd, 1) := by decide +kernel
theorem dX6_other_8 : decode cX6_other 8 = .ok (.iaload, 1) := by decide +kernel
theorem dX6_other_9 : decode cX6_other 9 = .ok (.ireturn, 1) := by decide +kernel
theorem dX6_putSegment_0 : decode cX6_putSegment 0 = .ok (.aload_n 0, 1) := by decide +kernel
theorem dX6_putSegment_1 : decode cX6_putSegment 1 = .ok (.getfield 7, 3) := by decide +kernel
theorem dX6_putSegment_4 : decode cX6_putSegment 4 = .ok (.iconst 0, 1) := by decide +kernel
theorem dX6_putSegment_5 : decode cX6_putSegment 5 = .ok (.iconst 3, 1) := by decide +kernel
theorem dX6_putSegment_6 : decode cX6_putSegment 6 = .ok (.iload_n 1, 1) := by decide +kernel
theorem dX6_putSegment_7 : decode cX6_putSegment 7 = .ok (.imul, 1) := by decide +kernel
theorem dX6_putSegment_8 : decode cX6_putSegment 8 = .ok (.iadd, 1) := by decide +kernel
theorem dX6_putSegment_9 : decode cX6_putSegment 9 = .ok (.iconst 0, 1) := by decide +kernel
theorem dX6_putSegment_10 : decode cX6_putSegment 10 = .ok (.iadd, 1) := by decide +kernel
theorem dX6_putSegment_11 : decode cX6_putSegment 11 = .ok (.iload_n 2, 1) := by decide +kernel
theorem dX6_putSegment_12 : decode cX6_putSegment 12 = .ok (.iastore, 1) := by decide +kernel
theorem dX6_putSegment_13 : decode cX6_putSegment 13 = .ok (.aload_n 0, 1) := by decide +kernel
theorem dX6_putSegment_14 : decode cX6_putSegment 14 = .ok (.getfield 7, 3) := by decide +kernel
theorem dX6_putSegment_17 : decode cX6_putSegment 17 = .ok (.iconst 0, 1) := by decide +kernel
theorem dX6_putSegment_18 : decode cX6_putSegment 18 = .ok (.iconst 3, 1) := by decide +kernel
theorem dX6_putSegment_19 : decode cX6_putSegment 19 = .ok (.iload_n 1, 1) := by decide +kernel
theorem dX6_putSegment_20 : decode cX6_putSegment 20 = .ok (.imul, 1) := by decide +kernel
theorem dX6_putSegment_21 : decode cX6_putSegment 21 = .ok (.iadd, 1) := by decide +kernel
theorem dX6_putSegment_22 : decode cX6_putSegment 22 = .ok (.iconst 1, 1) := by decide +kernel
theorem dX6_putSegment_23 : decode cX6_putSegment 23 = .ok (.iadd, 1) := by decide +kernel
theorem dX6_putSegment_24 : decode cX6_putSegment 24 = .ok (.iload_n 3, 1) := by decide +kernel
theorem dX6_putSegment_25 : decode cX6_putSegment 25 = .ok (.ifCond .eq 7, 3) := by decide +kernel
theorem dX6_putSegment_28 : decode cX6_putSegment 28 = .ok (.iconst 1, 1) := by decide +kernel
end
section
theorem dX6_putSegment_29 : decode cX6_putSegment 29 = .ok (.goto 4, 3) := by decide +kernel
theorem dX6_putSegment_32 : decode cX6_putSegment 32 = .ok (.iconst 0, 1) := by decide +kernel
theorem dX6_putSegment_33 : decode cX6_putSegment 33 = .ok (.iastore, 1) := by decide +kernel
theorem dX6_putSegment_34 : decode cX6_putSegment 34 = .ok (.aload_n 0, 1) := by decide +kernel
theorem dX6_putSegment_35 : decode cX6_putSegment 35 = .ok (.getfield 7, 3) := by decide +kernel
theorem dX6_putSegment_38 : decode cX6_putSegment 38 = .ok (.iconst 0, 1) := by decide +kernel
theorem dX6_putSegment_39 : decode cX6_putSegment 39 = .ok (.iconst 3, 1) := by decide +kernel
theorem dX6_putSegment_40 : decode cX6_putSegment 40 = .ok (.iload_n 1, 1) := by decide +kernel
theorem dX6_putSegment_41 : decode cX6_putSegment 41 = .ok (.imul, 1) := by decide +kernel
theorem dX6_putSegment_42 : decode cX6_putSegment 42 = .ok (.iadd, 1) := by decide +kernel
theorem dX6_putSegment_43 : decode cX6_putSegment 43 = .ok (.iconst 2, 1) := by decide +kernel
theorem dX6_putSegment_44 : decode cX6_putSegment 44 = .ok (.iadd, 1) := by decide +kernel
theorem dX6_putSegment_45 : decode cX6_putSegment 45 = .ok (.iconst 0, 1) := by decide +kernel
theorem dX6_putSegment_46 : decode cX6_putSegment 46 = .ok (.iastore, 1) := by decide +kernel
theorem dX6_putSegment_47 : decode cX6_putSegment 47 = .ok (.return_, 1) := by decide +kernel
theorem dX6_isTrain_0 : decode cX6_isTrain 0 = .ok (.iload_n 1, 1) := by decide +kernel
theorem dX6_isTrain_1 : decode cX6_isTrain 1 = .ok (.iconst 0, 1) := by decide +kernel
theorem dX6_isTrain_2 : decode cX6_isTrain 2 = .ok (.aload_n 0, 1) := by decide +kernel
theorem dX6_isTrain_3 : decode cX6_isTrain 3 = .ok (.getfield 7, 3) := by decide +kernel
theorem dX6_isTrain_6 : decode cX6_isTrain 6 = .ok (.bipush 73, 2) := by decide +kernel
theorem dX6_isTrain_8 : decode cX6_isTrain 8 = .ok (.iaload, 1) := by decide +kernel
theorem dX6_isTrain_9 : decode cX6_isTrain 9 = .ok (.iconst 1, 1) := by decide +kernel
theorem dX6_isTrain_10 : decode cX6_isTrain 10 = .ok (.isub, 1) := by decide +kernel
theorem dX6_isTrain_11 : decode cX6_isTrain 11 = .ok (.invokestatic 29, 3) := by decide +kernel
theorem dX6_isTrain_14 : decode cX6_isTrain 14 = .ok (.ireturn, 1) := by decide +kernel
theorem dX6_isSegment_0 : decode cX6_isSegment 0 = .ok (.iload_n 1, 1) := by decide +kernel
theorem dX6_isSegment_1 : decode cX6_isSegment 1 = .ok (.iconst 0, 1) := by decide +kernel
theorem dX6_isSegment_2 : decode cX6_isSegment 2 = .ok (.aload_n 0, 1) := by decide +kernel
theorem dX6_isSegment_3 : decode cX6_isSegment 3 = .ok (.getfield 7, 3) := by decide +kernel
theorem dX6_isSegment_6 : decode cX6_isSegment 6 = .ok (.bipush 72, 2) := by decide +kernel
theorem dX6_isSegment_8 : decode cX6_isSegment 8 = .ok (.iaload, 1) := by decide +kernel
theorem dX6_isSegment_9 : decode cX6_isSegment 9 = .ok (.iconst 1, 1) := by decide +kernel
theorem dX6_isSegment_10 : decode cX6_isSegment 10 = .ok (.isub, 1) := by decide +kernel
theorem dX6_isSegment_11 : decode cX6_isSegment 11 = .ok (.invokestatic 29, 3) := by decide +kernel
theorem dX6_isSegment_14 : decode cX6_isSegment 14 = .ok (.ireturn, 1) := by decide +kernel
theorem dX6_copy_0 : decode cX6_copy 0 = .ok (.iconst 0, 1) := by decide +kernel
theorem dX6_copy_1 : decode cX6_copy 1 = .ok (.istore 5, 2) := by decide +kernel
theorem dX6_copy_3 : decode cX6_copy 3 = .ok (.iload 5, 2) := by decide +kernel
theorem dX6_copy_5 : decode cX6_copy 5 = .ok (.bipush 82, 2) := by decide +kernel
theorem dX6_copy_7 : decode cX6_copy 7 = .ok (.if_icmp .ge 22, 3) := by decide +kernel
theorem dX6_copy_10 : decode cX6_copy 10 = .ok (.aload_n 3, 1) := by decide +kernel
theorem dX6_copy_11 : decode cX6_copy 11 = .ok (.iload 4, 2) := by decide +kernel
theorem dX6_copy_13 : decode cX6_copy 13 = .ok (.iload 5, 2) := by decide +kernel
theorem dX6_copy_15 : decode cX6_copy 15 = .ok (.iadd, 1) := by decide +kernel
theorem dX6_copy_16 : decode cX6_copy 16 = .ok (.aload_n 1, 1) := by decide +kernel
theorem dX6_copy_17 : decode cX6_copy 17 = .ok (.iload_n 2, 1) := by decide +kernel
theorem dX6_copy_18 : decode cX6_copy 18 = .ok (.iload 5, 2) := by decide +kernel
theorem dX6_copy_20 : decode cX6_copy 20 = .ok (.iadd, 1) := by decide +kernel
theorem dX6_copy_21 : decode cX6_copy 21 = .ok (.iaload, 1) := by decide +kernel
theorem dX6_copy_22 : decode cX6_copy 22 = .ok (.iastore, 1) := by decide +kernel
theorem dX6_copy_23 : decode cX6_copy 23 = .ok (.iinc 5 1, 3) := by decide +kernel
theorem dX6_copy_26 : decode cX6_copy 26 = .ok (.goto (-23), 3) := by decide +kernel
theorem dX6_copy_29 : decode cX6_copy 29 = .ok (.return_, 1) := by decide +kernel
theorem dX6_record_0 : decode cX6_record 0 = .ok (.aload_n 0, 1) := by decide +kernel
theorem dX6_record_1 : decode cX6_record 1 = .ok (.getfield 33, 3) := by decide +kernel
theorem dX6_record_4 : decode cX6_record 4 = .ok (.bipush 8, 2) := by decide +kernel
theorem dX6_record_6 : decode cX6_record 6 = .ok (.if_icmp .ne 44, 3) := by decide +kernel
theorem dX6_record_9 : decode cX6_record 9 = .ok (.bipush 82, 2) := by decide +kernel
theorem dX6_record_11 : decode cX6_record 11 = .ok (.istore_n 1, 1) := by decide +kernel
theorem dX6_record_12 : decode cX6_record 12 = .ok (.iload_n 1, 1) := by decide +kernel
theorem dX6_record_13 : decode cX6_record 13 = .ok (.sipush 656, 3) := by decide +kernel
theorem dX6_record_16 : decode cX6_record 16 = .ok (.if_icmp .ge 24, 3) := by decide +kernel
theorem dX6_record_19 : decode cX6_record 19 = .ok (.aload_n 0, 1) := by decide +kernel
theorem dX6_record_20 : decode cX6_record 20 = .ok (.getfield 16, 3) := by decide +kernel
theorem dX6_record_23 : decode cX6_record 23 = .ok (.iload_n 1, 1) := by decide +kernel
theorem dX6_record_24 : decode cX6_record 24 = .ok (.bipush 82, 2) := by decide +kernel
theorem dX6_record_26 : decode cX6_record 26 = .ok (.isub, 1) := by decide +kernel
theorem dX6_record_27 : decode cX6_record 27 = .ok (.aload_n 0, 1) := by decide +kernel
theorem dX6_record_28 : decode cX6_record 28 = .ok (.getfield 16, 3) := by decide +kernel
theorem dX6_record_31 : decode cX6_record 31 = .ok (.iload_n 1, 1) := by decide +kernel
theorem dX6_record_32 : decode cX6_record 32 = .ok (.iaload, 1) := by decide +kernel
theorem dX6_record_33 : decode cX6_record 33 = .ok (.iastore, 1) := by decide +kernel
theorem dX6_record_34 : decode cX6_record 34 = .ok (.iinc 1 1, 3) := by decide +kernel
theorem dX6_record_37 : decode cX6_record 37 = .ok (.goto (-25), 3) := by decide +kernel
theorem dX6_record_40 : decode cX6_record 40 = .ok (.aload_n 0, 1) := by decide +kernel
theorem dX6_record_41 : decode cX6_record 41 = .ok (.dup, 1) := by decide +kernel
theorem dX6_record_42 : decode cX6_record 42 = .ok (.getfield 33, 3) := by decide +kernel
theorem dX6_record_45 : decode cX6_record 45 = .ok (.iconst 1, 1) := by decide +kernel
theorem dX6_record_46 : decode cX6_record 46 = .ok (.isub, 1) := by decide +kernel
theorem dX6_record_47 : decode cX6_record 47 = .ok (.putfield 33, 3) := by decide +kernel
theorem dX6_record_50 : decode cX6_record 50 = .ok (.aload_n 0, 1) := by decide +kernel
theorem dX6_record_51 : decode cX6_record 51 = .ok (.aload_n 0, 1) := by decide +kernel
theorem dX6_record_52 : decode cX6_record 52 = .ok (.getfield 7, 3) := by decide +kernel
theorem dX6_record_55 : decode cX6_record 55 = .ok (.iconst 0, 1) := by decide +kernel
theorem dX6_record_56 : decode cX6_record 56 = .ok (.aload_n 0, 1) := by decide +kernel
theorem dX6_record_57 : decode cX6_record 57 = .ok (.getfield 16, 3) := by decide +kernel
theorem dX6_record_60 : decode cX6_record 60 = .ok (.bipush 82, 2) := by decide +kernel
theorem dX6_record_62 : decode cX6_record 62 = .ok (.aload_n 0, 1) := by decide +kernel
theorem dX6_record_63 : decode cX6_record 63 = .ok (.getfield 33, 3) := by decide +kernel
theorem dX6_record_66 : decode cX6_record 66 = .ok (.imul, 1) := by decide +kernel
theorem dX6_record_67 : decode cX6_record 67 = .ok (.invokevirtual 37, 3) := by decide +kernel
theorem dX6_record_70 : decode cX6_record 70 = .ok (.aload_n 0, 1) := by decide +kernel
theorem dX6_record_71 : decode cX6_record 71 = .ok (.dup, 1) := by decide +kernel
theorem dX6_record_72 : decode cX6_record 72 = .ok (.getfield 33, 3) := by decide +kernel
theorem dX6_record_75 : decode cX6_record 75 = .ok (.iconst 1, 1) := by decide +kernel
theorem dX6_record_76 : decode cX6_record 76 = .ok (.iadd, 1) := by decide +kernel
theorem dX6_record_77 : decode cX6_record 77 = .ok (.putfield 33, 3) := by decide +kernel
theorem dX6_record_80 : decode cX6_record 80 = .ok (.return_, 1) := by decide +kernel
theorem dX6_type_0 : decode cX6_type 0 = .ok (.iload_n 1, 1) := by decide +kernel
theorem dX6_type_1 : decode cX6_type 1 = .ok (.bipush 32, 2) := by decide +kernel
theorem dX6_type_3 : decode cX6_type 3 = .ok (.bipush 126, 2) := by decide +kernel
theorem dX6_type_5 : decode cX6_type 5 = .ok (.invokestatic 29, 3) := by decide +kernel
theorem dX6_type_8 : decode cX6_type 8 = .ok (.ifCond .ne 6, 3) := by decide +kernel
theorem dX6_type_11 : decode cX6_type 11 = .ok (.bipush (-2), 2) := by decide +kernel
theorem dX6_type_13 : decode cX6_type 13 = .ok (.ireturn, 1) := by decide +kernel
theorem dX6_type_14 : decode cX6_type 14 = .ok (.aload_n 0, 1) := by decide +kernel
theorem dX6_type_15 : decode cX6_type 15 = .ok (.getfield 41, 3) := by decide +kernel
theorem dX6_type_18 : decode cX6_type 18 = .ok (.bipush 40, 2) := by decide +kernel
theorem dX6_type_20 : decode cX6_type 20 = .ok (.if_icmp .ne 6, 3) := by decide +kernel
theorem dX6_type_23 : decode cX6_type 23 = .ok (.bipush (-4), 2) := by decide +kernel
theorem dX6_type_25 : decode cX6_type 25 = .ok (.ireturn, 1) := by decide +kernel
theorem dX6_type_26 : decode cX6_type 26 = .ok (.aload_n 0, 1) := by decide +kernel
theorem dX6_type_27 : decode cX6_type 27 = .ok (.getfield 22, 3) := by decide +kernel
theorem dX6_type_30 : decode cX6_type 30 = .ok (.aload_n 0, 1) := by decide +kernel
theorem dX6_type_31 : decode cX6_type 31 = .ok (.getfield 41, 3) := by decide +kernel
theorem dX6_type_34 : decode cX6_type 34 = .ok (.iload_n 1, 1) := by decide +kernel
theorem dX6_type_35 : decode cX6_type 35 = .ok (.iastore, 1) := by decide +kernel
theorem dX6_type_36 : decode cX6_type 36 = .ok (.aload_n 0, 1) := by decide +kernel
theorem dX6_type_37 : decode cX6_type 37 = .ok (.dup, 1) := by decide +kernel
theorem dX6_type_38 : decode cX6_type 38 = .ok (.getfield 41, 3) := by decide +kernel
theorem dX6_type_41 : decode cX6_type 41 = .ok (.iconst 1, 1) := by decide +kernel
theorem dX6_type_42 : decode cX6_type 42 = .ok (.iadd, 1) := by decide +kernel
theorem dX6_type_43 : decode cX6_type 43 = .ok (.putfield 41, 3) := by decide +kernel
theorem dX6_type_46 : decode cX6_type 46 = .ok (.aload_n 0, 1) := by decide +kernel
theorem dX6_type_47 : decode cX6_type 47 = .ok (.getfield 41, 3) := by decide +kernel
theorem dX6_type_50 : decode cX6_type 50 = .ok (.ireturn, 1) := by decide +kernel
theorem dX6_clear_0 : decode cX6_clear 0 = .ok (.aload_n 0, 1) := by decide +kernel
theorem dX6_clear_1 : decode cX6_clear 1 = .ok (.getfield 41, 3) := by decide +kernel
theorem dX6_clear_4 : decode cX6_clear 4 = .ok (.istore_n 1, 1) := by decide +kernel
theorem dX6_clear_5 : decode cX6_clear 5 = .ok (.aload_n 0, 1) := by decide +kernel
theorem dX6_clear_6 : decode cX6_clear 6 = .ok (.iconst 0, 1) := by decide +kernel
theorem dX6_clear_7 : decode cX6_clear 7 = .ok (.putfield 41, 3) := by decide +kernel
theorem dX6_clear_10 : decode cX6_clear 10 = .ok (.iload_n 1, 1) := by decide +kernel
theorem dX6_clear_11 : decode cX6_clear 11 = .ok (.ireturn, 1) := by decide +kernel
theorem dX6_takes_0 : decode cX6_takes 0 = .ok (.aload_n 0, 1) := by decide +kernel
theorem dX6_takes_1 : decode cX6_takes 1 = .ok (.getfield 44, 3) := by decide +kernel
theorem dX6_takes_4 : decode cX6_takes 4 = .ok (.ifCond .ne 45, 3) := by decide +kernel
theorem dX6_takes_7 : decode cX6_takes 7 = .ok (.iload_n 1, 1) := by decide +kernel
theorem dX6_takes_8 : decode cX6_takes 8 = .ok (.bipush 48, 2) := by decide +kernel
theorem dX6_takes_10 : decode cX6_takes 10 = .ok (.bipush 57, 2) := by decide +kernel
theorem dX6_takes_12 : decode cX6_takes 12 = .ok (.invokestatic 29, 3) := by decide +kernel
theorem dX6_takes_15 : decode cX6_takes 15 = .ok (.istore_n 2, 1) := by decide +kernel
theorem dX6_takes_16 : decode cX6_takes 16 = .ok (.aload_n 0, 1) := by decide +kernel
theorem dX6_takes_17 : decode cX6_takes 17 = .ok (.dup, 1) := by decide +kernel
theorem dX6_takes_18 : decode cX6_takes 18 = .ok (.getfield 47, 3) := by decide +kernel
theorem dX6_takes_21 : decode cX6_takes 21 = .ok (.iload_n 2, 1) := by decide +kernel
theorem dX6_takes_22 : decode cX6_takes 22 = .ok (.ifCond .eq 7, 3) := by decide +kernel
theorem dX6_takes_25 : decode cX6_takes 25 = .ok (.iconst 1, 1) := by decide +kernel
theorem dX6_takes_26 : decode cX6_takes 26 = .ok (.goto 4, 3) := by decide +kernel
theorem dX6_takes_29 : decode cX6_takes 29 = .ok (.iconst 0, 1) := by decide +kernel
theorem dX6_takes_30 : decode cX6_takes 30 = .ok (.iadd, 1) := by decide +kernel
theorem dX6_takes_31 : decode cX6_takes 31 = .ok (.putfield 47, 3) := by decide +kernel
theorem dX6_takes_34 : decode cX6_takes 34 = .ok (.aload_n 0, 1) := by decide +kernel
theorem dX6_takes_35 : decode cX6_takes 35 = .ok (.iload_n 2, 1) := by decide +kernel
theorem dX6_takes_36 : decode cX6_takes 36 = .ok (.ifCond .eq 7, 3) := by decide +kernel
theorem dX6_takes_39 : decode cX6_takes 39 = .ok (.iconst 1, 1) := by decide +kernel
theorem dX6_takes_40 : decode cX6_takes 40 = .ok (.goto 4, 3) := by decide +kernel
theorem dX6_takes_43 : decode cX6_takes 43 = .ok (.iconst 0, 1) := by decide +kernel
theorem dX6_takes_44 : decode cX6_takes 44 = .ok (.putfield 44, 3) := by decide +kernel
theorem dX6_takes_47 : decode cX6_takes 47 = .ok (.iload_n 2, 1) := by decide +kernel
theorem dX6_takes_48 : decode cX6_takes 48 = .ok (.ireturn, 1) := by decide +kernel
theorem dX6_takes_49 : decode cX6_takes 49 = .ok (.iload_n 1, 1) := by decide +kernel
theorem dX6_takes_50 : decode cX6_takes 50 = .ok (.bipush 112, 2) := by decide +kernel
theorem dX6_takes_52 : decode cX6_takes 52 = .ok (.if_icmp .ne 18, 3) := by decide +kernel
theorem dX6_takes_55 : decode cX6_takes 55 = .ok (.aload_n 0, 1) := by decide +kernel
theorem dX6_takes_56 : decode cX6_takes 56 = .ok (.getfield 44, 3) := by decide +kernel
theorem dX6_takes_59 : decode cX6_takes 59 = .ok (.iconst 1, 1) := by decide +kernel
theorem dX6_takes_60 : decode cX6_takes 60 = .ok (.if_icmp .ne 10, 3) := by decide +kernel
theorem dX6_takes_63 : decode cX6_takes 63 = .ok (.aload_n 0, 1) := by decide +kernel
theorem dX6_takes_64 : decode cX6_takes 64 = .ok (.iconst 2, 1) := by decide +kernel
theorem dX6_takes_65 : decode cX6_takes 65 = .ok (.putfield 44, 3) := by decide +kernel
theorem dX6_takes_68 : decode cX6_takes 68 = .ok (.iconst 1, 1) := by decide +kernel
theorem dX6_takes_69 : decode cX6_takes 69 = .ok (.ireturn, 1) := by decide +kernel
theorem dX6_takes_70 : decode cX6_takes 70 = .ok (.iload_n 1, 1) := by decide +kernel
theorem dX6_takes_71 : decode cX6_takes 71 = .ok (.bipush 44, 2) := by decide +kernel
theorem dX6_takes_73 : decode cX6_takes 73 = .ok (.if_icmp .ne 16, 3) := by decide +kernel
theorem dX6_takes_76 : decode cX6_takes 76 = .ok (.aload_n 0, 1) := by decide +kernel
theorem dX6_takes_77 : decode cX6_takes 77 = .ok (.getfield 47, 3) := by decide +kernel
theorem dX6_takes_80 : decode cX6_takes 80 = .ok (.bipush 12, 2) := by decide +kernel
theorem dX6_takes_82 : decode cX6_takes 82 = .ok (.if_icmp .ge 7, 3) := by decide +kernel
theorem dX6_takes_85 : decode cX6_takes 85 = .ok (.iconst 1, 1) := by decide +kernel
theorem dX6_takes_86 : decode cX6_takes 86 = .ok (.goto 4, 3) := by decide +kernel
theorem dX6_takes_89 : decode cX6_takes 89 = .ok (.iconst 0, 1) := by decide +kernel
theorem dX6_takes_90 : decode cX6_takes 90 = .ok (.istore_n 2, 1) := by decide +kernel
theorem dX6_takes_91 : decode cX6_takes 91 = .ok (.aload_n 0, 1) := by decide +kernel
theorem dX6_takes_92 : decode cX6_takes 92 = .ok (.iload_n 2, 1) := by decide +kernel
theorem dX6_takes_93 : decode cX6_takes 93 = .ok (.ifCond .eq 7, 3) := by decide +kernel
theorem dX6_takes_96 : decode cX6_takes 96 = .ok (.iconst 0, 1) := by decide +kernel
theorem dX6_takes_97 : decode cX6_takes 97 = .ok (.goto 7, 3) := by decide +kernel
theorem dX6_takes_100 : decode cX6_takes 100 = .ok (.aload_n 0, 1) := by decide +kernel
theorem dX6_takes_101 : decode cX6_takes 101 = .ok (.getfield 44, 3) := by decide +kernel
theorem dX6_takes_104 : decode cX6_takes 104 = .ok (.putfield 44, 3) := by decide +kernel
theorem dX6_takes_107 : decode cX6_takes 107 = .ok (.iload_n 2, 1) := by decide +kernel
theorem dX6_takes_108 : decode cX6_takes 108 = .ok (.ireturn, 1) := by decide +kernel
theorem dX6_faultNow_0 : decode cX6_faultNow 0 = .ok (.aload_n 0, 1) := by decide +kernel
theorem dX6_faultNow_1 : decode cX6_faultNow 1 = .ok (.iconst 0, 1) := by decide +kernel
theorem dX6_faultNow_2 : decode cX6_faultNow 2 = .ok (.putfield 47, 3) := by decide +kernel
theorem dX6_faultNow_5 : decode cX6_faultNow 5 = .ok (.aload_n 0, 1) := by decide +kernel
theorem dX6_faultNow_6 : decode cX6_faultNow 6 = .ok (.iconst 0, 1) := by decide +kernel
theorem dX6_faultNow_7 : decode cX6_faultNow 7 = .ok (.putfield 44, 3) := by decide +kernel
theorem dX6_faultNow_10 : decode cX6_faultNow 10 = .ok (.iconst 0, 1) := by decide +kernel
theorem dX6_faultNow_11 : decode cX6_faultNow 11 = .ok (.istore_n 1, 1) := by decide +kernel
theorem dX6_faultNow_12 : decode cX6_faultNow 12 = .ok (.iload_n 1, 1) := by decide +kernel
theorem dX6_faultNow_13 : decode cX6_faultNow 13 = .ok (.aload_n 0, 1) := by decide +kernel
theorem dX6_faultNow_14 : decode cX6_faultNow 14 = .ok (.getfield 41, 3) := by decide +kernel
theorem dX6_faultNow_17 : decode cX6_faultNow 17 = .ok (.if_icmp .ge 22, 3) := by decide +kernel
theorem dX6_faultNow_20 : decode cX6_faultNow 20 = .ok (.aload_n 0, 1) := by decide +kernel
theorem dX6_faultNow_21 : decode cX6_faultNow 21 = .ok (.aload_n 0, 1) := by decide +kernel
theorem dX6_faultNow_22 : decode cX6_faultNow 22 = .ok (.getfield 22, 3) := by decide +kernel
theorem dX6_faultNow_25 : decode cX6_faultNow 25 = .ok (.iload_n 1, 1) := by decide +kernel
theorem dX6_faultNow_26 : decode cX6_faultNow 26 = .ok (.iaload, 1) := by decide +kernel
theorem dX6_faultNow_27 : decode cX6_faultNow 27 = .ok (.invokevirtual 50, 3) := by decide +kernel
theorem dX6_faultNow_30 : decode cX6_faultNow 30 = .ok (.ifCond .eq 9, 3) := by decide +kernel
theorem dX6_faultNow_33 : decode cX6_faultNow 33 = .ok (.iinc 1 1, 3) := by decide +kernel
theorem dX6_faultNow_36 : decode cX6_faultNow 36 = .ok (.goto (-24), 3) := by decide +kernel
theorem dX6_faultNow_39 : decode cX6_faultNow 39 = .ok (.iload_n 1, 1) := by decide +kernel
theorem dX6_faultNow_40 : decode cX6_faultNow 40 = .ok (.aload_n 0, 1) := by decide +kernel
theorem dX6_faultNow_41 : decode cX6_faultNow 41 = .ok (.getfield 41, 3) := by decide +kernel
theorem dX6_faultNow_44 : decode cX6_faultNow 44 = .ok (.if_icmp .lt 18, 3) := by decide +kernel
theorem dX6_faultNow_47 : decode cX6_faultNow 47 = .ok (.aload_n 0, 1) := by decide +kernel
theorem dX6_faultNow_48 : decode cX6_faultNow 48 = .ok (.getfield 44, 3) := by decide +kernel
theorem dX6_faultNow_51 : decode cX6_faultNow 51 = .ok (.ifCond .eq 11, 3) := by decide +kernel
theorem dX6_faultNow_54 : decode cX6_faultNow 54 = .ok (.aload_n 0, 1) := by decide +kernel
theorem dX6_faultNow_55 : decode cX6_faultNow 55 = .ok (.getfield 47, 3) := by decide +kernel
theorem dX6_faultNow_58 : decode cX6_faultNow 58 = .ok (.iconst 3, 1) := by decide +kernel
theorem dX6_faultNow_59 : decode cX6_faultNow 59 = .ok (.if_icmp .ge 7, 3) := by decide +kernel
theorem dX6_faultNow_62 : decode cX6_faultNow 62 = .ok (.iload_n 1, 1) := by decide +kernel
theorem dX6_faultNow_63 : decode cX6_faultNow 63 = .ok (.goto 4, 3) := by decide +kernel
theorem dX6_faultNow_66 : decode cX6_faultNow 66 = .ok (.iconst (-1), 1) := by decide +kernel
theorem dX6_faultNow_67 : decode cX6_faultNow 67 = .ok (.ireturn, 1) := by decide +kernel
theorem dX6_fault_0 : decode cX6_fault 0 = .ok (.aload_n 0, 1) := by decide +kernel
theorem dX6_fault_1 : decode cX6_fault 1 = .ok (.invokevirtual 54, 3) := by decide +kernel
theorem dX6_fault_4 : decode cX6_fault 4 = .ok (.ireturn, 1) := by decide +kernel
theorem dX6_peatInTrains_0 : decode cX6_peatInTrains 0 = .ok (.iconst 0, 1) := by decide +kernel
theorem dX6_peatInTrains_1 : decode cX6_peatInTrains 1 = .ok (.istore_n 1, 1) := by decide +kernel
theorem dX6_peatInTrains_2 : decode cX6_peatInTrains 2 = .ok (.iconst 0, 1) := by decide +kernel
theorem dX6_peatInTrains_3 : decode cX6_peatInTrains 3 = .ok (.istore_n 2, 1) := by decide +kernel
theorem dX6_peatInTrains_4 : decode cX6_peatInTrains 4 = .ok (.iload_n 2, 1) := by decide +kernel
theorem dX6_peatInTrains_5 : decode cX6_peatInTrains 5 = .ok (.aload_n 0, 1) := by decide +kernel
theorem dX6_peatInTrains_6 : decode cX6_peatInTrains 6 = .ok (.getfield 7, 3) := by decide +kernel
theorem dX6_peatInTrains_9 : decode cX6_peatInTrains 9 = .ok (.bipush 73, 2) := by decide +kernel
theorem dX6_peatInTrains_11 : decode cX6_peatInTrains 11 = .ok (.iaload, 1) := by decide +kernel
theorem dX6_peatInTrains_12 : decode cX6_peatInTrains 12 = .ok (.if_icmp .ge 18, 3) := by decide +kernel
theorem dX6_peatInTrains_15 : decode cX6_peatInTrains 15 = .ok (.iload_n 1, 1) := by decide +kernel
theorem dX6_peatInTrains_16 : decode cX6_peatInTrains 16 = .ok (.aload_n 0, 1) := by decide +kernel
theorem dX6_peatInTrains_17 : decode cX6_peatInTrains 17 = .ok (.iload_n 2, 1) := by decide +kernel
theorem dX6_peatInTrains_18 : decode cX6_peatInTrains 18 = .ok (.iconst 2, 1) := by decide +kernel
theorem dX6_peatInTrains_19 : decode cX6_peatInTrains 19 = .ok (.invokevirtual 58, 3) := by decide +kernel
theorem dX6_peatInTrains_22 : decode cX6_peatInTrains 22 = .ok (.iadd, 1) := by decide +kernel
theorem dX6_peatInTrains_23 : decode cX6_peatInTrains 23 = .ok (.istore_n 1, 1) := by decide +kernel
theorem dX6_peatInTrains_24 : decode cX6_peatInTrains 24 = .ok (.iinc 2 1, 3) := by decide +kernel
theorem dX6_peatInTrains_27 : decode cX6_peatInTrains 27 = .ok (.goto (-23), 3) := by decide +kernel
theorem dX6_peatInTrains_30 : decode cX6_peatInTrains 30 = .ok (.iload_n 1, 1) := by decide +kernel
theorem dX6_peatInTrains_31 : decode cX6_peatInTrains 31 = .ok (.ireturn, 1) := by decide +kernel
theorem dX6_layTrack_0 : decode cX6_layTrack 0 = .ok (.aload_n 0, 1) := by decide +kernel
theorem dX6_layTrack_1 : decode cX6_layTrack 1 = .ok (.invokevirtual 54, 3) := by decide +kernel
theorem dX6_layTrack_4 : decode cX6_layTrack 4 = .ok (.iconst (-1), 1) := by decide +kernel
theorem dX6_layTrack_5 : decode cX6_layTrack 5 = .ok (.if_icmp .eq 6, 3) := by decide +kernel
theorem dX6_layTrack_8 : decode cX6_layTrack 8 = .ok (.bipush (-3), 2) := by decide +kernel
theorem dX6_layTrack_10 : decode cX6_layTrack 10 = .ok (.ireturn, 1) := by decide +kernel
theorem dX6_layTrack_11 : decode cX6_layTrack 11 = .ok (.aload_n 0, 1) := by decide +kernel
theorem dX6_layTrack_12 : decode cX6_layTrack 12 = .ok (.invokevirtual 62, 3) := by decide +kernel
theorem dX6_layTrack_15 : decode cX6_layTrack 15 = .ok (.aload_n 0, 1) := by decide +kernel
theorem dX6_layTrack_16 : decode cX6_layTrack 16 = .ok (.getfield 7, 3) := by decide +kernel
theorem dX6_layTrack_19 : decode cX6_layTrack 19 = .ok (.bipush 81, 2) := by decide +kernel
theorem dX6_layTrack_21 : decode cX6_layTrack 21 = .ok (.dup2, 1) := by decide +kernel
theorem dX6_layTrack_22 : decode cX6_layTrack 22 = .ok (.iaload, 1) := by decide +kernel
theorem dX6_layTrack_23 : decode cX6_layTrack 23 = .ok (.aload_n 0, 1) := by decide +kernel
theorem dX6_layTrack_24 : decode cX6_layTrack 24 = .ok (.invokevirtual 65, 3) := by decide +kernel
theorem dX6_layTrack_27 : decode cX6_layTrack 27 = .ok (.iadd, 1) := by decide +kernel
theorem dX6_layTrack_28 : decode cX6_layTrack 28 = .ok (.iastore, 1) := by decide +kernel
theorem dX6_layTrack_29 : decode cX6_layTrack 29 = .ok (.aload_n 0, 1) := by decide +kernel
theorem dX6_layTrack_30 : decode cX6_layTrack 30 = .ok (.getfield 7, 3) := by decide +kernel
theorem dX6_layTrack_33 : decode cX6_layTrack 33 = .ok (.bipush 73, 2) := by decide +kernel
theorem dX6_layTrack_35 : decode cX6_layTrack 35 = .ok (.iconst 0, 1) := by decide +kernel
theorem dX6_layTrack_36 : decode cX6_layTrack 36 = .ok (.iastore, 1) := by decide +kernel
theorem dX6_layTrack_37 : decode cX6_layTrack 37 = .ok (.aload_n 0, 1) := by decide +kernel
theorem dX6_layTrack_38 : decode cX6_layTrack 38 = .ok (.getfield 7, 3) := by decide +kernel
theorem dX6_layTrack_41 : decode cX6_layTrack 41 = .ok (.bipush 72, 2) := by decide +kernel
theorem dX6_layTrack_43 : decode cX6_layTrack 43 = .ok (.iconst 0, 1) := by decide +kernel
theorem dX6_layTrack_44 : decode cX6_layTrack 44 = .ok (.iastore, 1) := by decide +kernel
theorem dX6_layTrack_45 : decode cX6_layTrack 45 = .ok (.iconst 0, 1) := by decide +kernel
theorem dX6_layTrack_46 : decode cX6_layTrack 46 = .ok (.istore_n 1, 1) := by decide +kernel
theorem dX6_layTrack_47 : decode cX6_layTrack 47 = .ok (.iload_n 1, 1) := by decide +kernel
theorem dX6_layTrack_48 : decode cX6_layTrack 48 = .ok (.aload_n 0, 1) := by decide +kernel
theorem dX6_layTrack_49 : decode cX6_layTrack 49 = .ok (.getfield 41, 3) := by decide +kernel
theorem dX6_layTrack_52 : decode cX6_layTrack 52 = .ok (.if_icmp .ge 106, 3) := by decide +kernel
theorem dX6_layTrack_55 : decode cX6_layTrack 55 = .ok (.aload_n 0, 1) := by decide +kernel
theorem dX6_layTrack_56 : decode cX6_layTrack 56 = .ok (.getfield 22, 3) := by decide +kernel
theorem dX6_layTrack_59 : decode cX6_layTrack 59 = .ok (.iload_n 1, 1) := by decide +kernel
theorem dX6_layTrack_60 : decode cX6_layTrack 60 = .ok (.iaload, 1) := by decide +kernel
theorem dX6_layTrack_61 : decode cX6_layTrack 61 = .ok (.bipush 48, 2) := by decide +kernel
theorem dX6_layTrack_63 : decode cX6_layTrack 63 = .ok (.bipush 57, 2) := by decide +kernel
theorem dX6_layTrack_65 : decode cX6_layTrack 65 = .ok (.invokestatic 29, 3) := by decide +kernel
theorem dX6_layTrack_68 : decode cX6_layTrack 68 = .ok (.ifCond .eq 52, 3) := by decide +kernel
theorem dX6_layTrack_71 : decode cX6_layTrack 71 = .ok (.aload_n 0, 1) := by decide +kernel
theorem dX6_layTrack_72 : decode cX6_layTrack 72 = .ok (.aload_n 0, 1) := by decide +kernel
theorem dX6_layTrack_73 : decode cX6_layTrack 73 = .ok (.getfield 7, 3) := by decide +kernel
theorem dX6_layTrack_76 : decode cX6_layTrack 76 = .ok (.bipush 72, 2) := by decide +kernel
theorem dX6_layTrack_78 : decode cX6_layTrack 78 = .ok (.iaload, 1) := by decide +kernel
theorem dX6_layTrack_79 : decode cX6_layTrack 79 = .ok (.aload_n 0, 1) := by decide +kernel
theorem dX6_layTrack_80 : decode cX6_layTrack 80 = .ok (.getfield 22, 3) := by decide +kernel
theorem dX6_layTrack_83 : decode cX6_layTrack 83 = .ok (.iload_n 1, 1) := by decide +kernel
theorem dX6_layTrack_84 : decode cX6_layTrack 84 = .ok (.iaload, 1) := by decide +kernel
theorem dX6_layTrack_85 : decode cX6_layTrack 85 = .ok (.bipush 48, 2) := by decide +kernel
theorem dX6_layTrack_87 : decode cX6_layTrack 87 = .ok (.isub, 1) := by decide +kernel
theorem dX6_layTrack_88 : decode cX6_layTrack 88 = .ok (.aload_n 0, 1) := by decide +kernel
theorem dX6_layTrack_89 : decode cX6_layTrack 89 = .ok (.getfield 7, 3) := by decide +kernel
theorem dX6_layTrack_92 : decode cX6_layTrack 92 = .ok (.bipush 72, 2) := by decide +kernel
theorem dX6_layTrack_94 : decode cX6_layTrack 94 = .ok (.iaload, 1) := by decide +kernel
theorem dX6_layTrack_95 : decode cX6_layTrack 95 = .ok (.ifCond .ne 7, 3) := by decide +kernel
theorem dX6_layTrack_98 : decode cX6_layTrack 98 = .ok (.iconst 1, 1) := by decide +kernel
theorem dX6_layTrack_99 : decode cX6_layTrack 99 = .ok (.goto 4, 3) := by decide +kernel
theorem dX6_layTrack_102 : decode cX6_layTrack 102 = .ok (.iconst 0, 1) := by decide +kernel
theorem dX6_layTrack_103 : decode cX6_layTrack 103 = .ok (.invokevirtual 25, 3) := by decide +kernel
theorem dX6_layTrack_106 : decode cX6_layTrack 106 = .ok (.aload_n 0, 1) := by decide +kernel
theorem dX6_layTrack_107 : decode cX6_layTrack 107 = .ok (.getfield 7, 3) := by decide +kernel
theorem dX6_layTrack_110 : decode cX6_layTrack 110 = .ok (.bipush 72, 2) := by decide +kernel
theorem dX6_layTrack_112 : decode cX6_layTrack 112 = .ok (.dup2, 1) := by decide +kernel
theorem dX6_layTrack_113 : decode cX6_layTrack 113 = .ok (.iaload, 1) := by decide +kernel
theorem dX6_layTrack_114 : decode cX6_layTrack 114 = .ok (.iconst 1, 1) := by decide +kernel
theorem dX6_layTrack_115 : decode cX6_layTrack 115 = .ok (.iadd, 1) := by decide +kernel
theorem dX6_layTrack_116 : decode cX6_layTrack 116 = .ok (.iastore, 1) := by decide +kernel
theorem dX6_layTrack_117 : decode cX6_layTrack 117 = .ok (.goto 35, 3) := by decide +kernel
theorem dX6_layTrack_120 : decode cX6_layTrack 120 = .ok (.aload_n 0, 1) := by decide +kernel
theorem dX6_layTrack_121 : decode cX6_layTrack 121 = .ok (.getfield 22, 3) := by decide +kernel
theorem dX6_layTrack_124 : decode cX6_layTrack 124 = .ok (.iload_n 1, 1) := by decide +kernel
theorem dX6_layTrack_125 : decode cX6_layTrack 125 = .ok (.iaload, 1) := by decide +kernel
theorem dX6_layTrack_126 : decode cX6_layTrack 126 = .ok (.bipush 112, 2) := by decide +kernel
theorem dX6_layTrack_128 : decode cX6_layTrack 128 = .ok (.if_icmp .ne 24, 3) := by decide +kernel
theorem dX6_layTrack_131 : decode cX6_layTrack 131 = .ok (.aload_n 0, 1) := by decide +kernel
theorem dX6_layTrack_132 : decode cX6_layTrack 132 = .ok (.getfield 7, 3) := by decide +kernel
theorem dX6_layTrack_135 : decode cX6_layTrack 135 = .ok (.iconst 0, 1) := by decide +kernel
theorem dX6_layTrack_136 : decode cX6_layTrack 136 = .ok (.iconst 3, 1) := by decide +kernel
theorem dX6_layTrack_137 : decode cX6_layTrack 137 = .ok (.aload_n 0, 1) := by decide +kernel
theorem dX6_layTrack_138 : decode cX6_layTrack 138 = .ok (.getfield 7, 3) := by decide +kernel
theorem dX6_layTrack_141 : decode cX6_layTrack 141 = .ok (.bipush 72, 2) := by decide +kernel
theorem dX6_layTrack_143 : decode cX6_layTrack 143 = .ok (.iaload, 1) := by decide +kernel
theorem dX6_layTrack_144 : decode cX6_layTrack 144 = .ok (.iconst 1, 1) := by decide +kernel
theorem dX6_layTrack_145 : decode cX6_layTrack 145 = .ok (.isub, 1) := by decide +kernel
theorem dX6_layTrack_146 : decode cX6_layTrack 146 = .ok (.imul, 1) := by decide +kernel
theorem dX6_layTrack_147 : decode cX6_layTrack 147 = .ok (.iadd, 1) := by decide +kernel
theorem dX6_layTrack_148 : decode cX6_layTrack 148 = .ok (.iconst 1, 1) := by decide +kernel
theorem dX6_layTrack_149 : decode cX6_layTrack 149 = .ok (.iadd, 1) := by decide +kernel
theorem dX6_layTrack_150 : decode cX6_layTrack 150 = .ok (.iconst 1, 1) := by decide +kernel
theorem dX6_layTrack_151 : decode cX6_layTrack 151 = .ok (.iastore, 1) := by decide +kernel
theorem dX6_layTrack_152 : decode cX6_layTrack 152 = .ok (.iinc 1 1, 3) := by decide +kernel
theorem dX6_layTrack_155 : decode cX6_layTrack 155 = .ok (.goto (-108), 3) := by decide +kernel
theorem dX6_layTrack_158 : decode cX6_layTrack 158 = .ok (.aload_n 0, 1) := by decide +kernel
theorem dX6_layTrack_159 : decode cX6_layTrack 159 = .ok (.getfield 7, 3) := by decide +kernel
theorem dX6_layTrack_162 : decode cX6_layTrack 162 = .ok (.iconst 0, 1) := by decide +kernel
theorem dX6_layTrack_163 : decode cX6_layTrack 163 = .ok (.iconst 3, 1) := by decide +kernel
theorem dX6_layTrack_164 : decode cX6_layTrack 164 = .ok (.aload_n 0, 1) := by decide +kernel
theorem dX6_layTrack_165 : decode cX6_layTrack 165 = .ok (.getfield 7, 3) := by decide +kernel
theorem dX6_layTrack_168 : decode cX6_layTrack 168 = .ok (.bipush 72, 2) := by decide +kernel
theorem dX6_layTrack_170 : decode cX6_layTrack 170 = .ok (.iaload, 1) := by decide +kernel
theorem dX6_layTrack_171 : decode cX6_layTrack 171 = .ok (.iconst 1, 1) := by decide +kernel
theorem dX6_layTrack_172 : decode cX6_layTrack 172 = .ok (.isub, 1) := by decide +kernel
theorem dX6_layTrack_173 : decode cX6_layTrack 173 = .ok (.imul, 1) := by decide +kernel
theorem dX6_layTrack_174 : decode cX6_layTrack 174 = .ok (.iadd, 1) := by decide +kernel
theorem dX6_layTrack_175 : decode cX6_layTrack 175 = .ok (.iconst 1, 1) := by decide +kernel
theorem dX6_layTrack_176 : decode cX6_layTrack 176 = .ok (.iadd, 1) := by decide +kernel
theorem dX6_layTrack_177 : decode cX6_layTrack 177 = .ok (.iconst 1, 1) := by decide +kernel
theorem dX6_layTrack_178 : decode cX6_layTrack 178 = .ok (.iastore, 1) := by decide +kernel
theorem dX6_layTrack_179 : decode cX6_layTrack 179 = .ok (.aload_n 0, 1) := by decide +kernel
theorem dX6_layTrack_180 : decode cX6_layTrack 180 = .ok (.iconst 0, 1) := by decide +kernel
theorem dX6_layTrack_181 : decode cX6_layTrack 181 = .ok (.putfield 41, 3) := by decide +kernel
theorem dX6_layTrack_184 : decode cX6_layTrack 184 = .ok (.aload_n 0, 1) := by decide +kernel
theorem dX6_layTrack_185 : decode cX6_layTrack 185 = .ok (.getfield 7, 3) := by decide +kernel
theorem dX6_layTrack_188 : decode cX6_layTrack 188 = .ok (.bipush 72, 2) := by decide +kernel
theorem dX6_layTrack_190 : decode cX6_layTrack 190 = .ok (.iaload, 1) := by decide +kernel
theorem dX6_layTrack_191 : decode cX6_layTrack 191 = .ok (.ireturn, 1) := by decide +kernel
theorem dX6_isValue_0 : decode cX6_isValue 0 = .ok (.iload_n 0, 1) := by decide +kernel
theorem dX6_isValue_1 : decode cX6_isValue 1 = .ok (.tableswitch 52 0 2 #[27, 37, 45], 27) := by decide +kernel
theorem dX6_isValue_28 : decode cX6_isValue 28 = .ok (.iload_n 1, 1) := by decide +kernel
theorem dX6_isValue_29 : decode cX6_isValue 29 = .ok (.bipush 10, 2) := by decide +kernel
theorem dX6_isValue_31 : decode cX6_isValue 31 = .ok (.sipush 900, 3) := by decide +kernel
theorem dX6_isValue_34 : decode cX6_isValue 34 = .ok (.invokestatic 29, 3) := by decide +kernel
theorem dX6_isValue_37 : decode cX6_isValue 37 = .ok (.ireturn, 1) := by decide +kernel
theorem dX6_isValue_38 : decode cX6_isValue 38 = .ok (.iload_n 1, 1) := by decide +kernel
theorem dX6_isValue_39 : decode cX6_isValue 39 = .ok (.iconst 1, 1) := by decide +kernel
theorem dX6_isValue_40 : decode cX6_isValue 40 = .ok (.bipush 50, 2) := by decide +kernel
theorem dX6_isValue_42 : decode cX6_isValue 42 = .ok (.invokestatic 29, 3) := by decide +kernel
theorem dX6_isValue_45 : decode cX6_isValue 45 = .ok (.ireturn, 1) := by decide +kernel
theorem dX6_isValue_46 : decode cX6_isValue 46 = .ok (.iload_n 1, 1) := by decide +kernel
theorem dX6_isValue_47 : decode cX6_isValue 47 = .ok (.iconst 0, 1) := by decide +kernel
theorem dX6_isValue_48 : decode cX6_isValue 48 = .ok (.iconst 2, 1) := by decide +kernel
theorem dX6_isValue_49 : decode cX6_isValue 49 = .ok (.invokestatic 29, 3) := by decide +kernel
theorem dX6_isValue_52 : decode cX6_isValue 52 = .ok (.ireturn, 1) := by decide +kernel
theorem dX6_isValue_53 : decode cX6_isValue 53 = .ok (.iconst 0, 1) := by decide +kernel
theorem dX6_isValue_54 : decode cX6_isValue 54 = .ok (.ireturn, 1) := by decide +kernel
theorem dX6_set_0 : decode cX6_set 0 = .ok (.iload_n 1, 1) := by decide +kernel
theorem dX6_set_1 : decode cX6_set 1 = .ok (.iload_n 2, 1) := by decide +kernel
theorem dX6_set_2 : decode cX6_set 2 = .ok (.invokestatic 68, 3) := by decide +kernel
theorem dX6_set_5 : decode cX6_set 5 = .ok (.ifCond .ne 6, 3) := by decide +kernel
theorem dX6_set_8 : decode cX6_set 8 = .ok (.bipush (-2), 2) := by decide +kernel
theorem dX6_set_10 : decode cX6_set 10 = .ok (.ireturn, 1) := by decide +kernel
theorem dX6_set_11 : decode cX6_set 11 = .ok (.aload_n 0, 1) := by decide +kernel
theorem dX6_set_12 : decode cX6_set 12 = .ok (.invokevirtual 62, 3) := by decide +kernel
theorem dX6_set_15 : decode cX6_set 15 = .ok (.aload_n 0, 1) := by decide +kernel
theorem dX6_set_16 : decode cX6_set 16 = .ok (.iload_n 1, 1) := by decide +kernel
theorem dX6_set_17 : decode cX6_set 17 = .ok (.invokevirtual 72, 3) := by decide +kernel
theorem dX6_set_20 : decode cX6_set 20 = .ok (.istore_n 3, 1) := by decide +kernel
theorem dX6_set_21 : decode cX6_set 21 = .ok (.aload_n 0, 1) := by decide +kernel
theorem dX6_set_22 : decode cX6_set 22 = .ok (.getfield 7, 3) := by decide +kernel
theorem dX6_set_25 : decode cX6_set 25 = .ok (.bipush 75, 2) := by decide +kernel
theorem dX6_set_27 : decode cX6_set 27 = .ok (.iload_n 1, 1) := by decide +kernel
theorem dX6_set_28 : decode cX6_set 28 = .ok (.iadd, 1) := by decide +kernel
theorem dX6_set_29 : decode cX6_set 29 = .ok (.iload_n 2, 1) := by decide +kernel
theorem dX6_set_30 : decode cX6_set 30 = .ok (.iastore, 1) := by decide +kernel
theorem dX6_set_31 : decode cX6_set 31 = .ok (.iload_n 3, 1) := by decide +kernel
theorem dX6_set_32 : decode cX6_set 32 = .ok (.ireturn, 1) := by decide +kernel
theorem dX6_dig_0 : decode cX6_dig 0 = .ok (.iload_n 1, 1) := by decide +kernel
theorem dX6_dig_1 : decode cX6_dig 1 = .ok (.iconst 1, 1) := by decide +kernel
theorem dX6_dig_2 : decode cX6_dig 2 = .ok (.sipush 1000, 3) := by decide +kernel
theorem dX6_dig_5 : decode cX6_dig 5 = .ok (.invokestatic 29, 3) := by decide +kernel
theorem dX6_dig_8 : decode cX6_dig 8 = .ok (.ifCond .ne 6, 3) := by decide +kernel
theorem dX6_dig_11 : decode cX6_dig 11 = .ok (.bipush (-2), 2) := by decide +kernel
theorem dX6_dig_13 : decode cX6_dig 13 = .ok (.ireturn, 1) := by decide +kernel
theorem dX6_dig_14 : decode cX6_dig 14 = .ok (.aload_n 0, 1) := by decide +kernel
theorem dX6_dig_15 : decode cX6_dig 15 = .ok (.iconst 4, 1) := by decide +kernel
theorem dX6_dig_16 : decode cX6_dig 16 = .ok (.invokevirtual 72, 3) := by decide +kernel
theorem dX6_dig_19 : decode cX6_dig 19 = .ok (.iload_n 1, 1) := by decide +kernel
theorem dX6_dig_20 : decode cX6_dig 20 = .ok (.iadd, 1) := by decide +kernel
theorem dX6_dig_21 : decode cX6_dig 21 = .ok (.sipush 5000, 3) := by decide +kernel
theorem dX6_dig_24 : decode cX6_dig 24 = .ok (.if_icmp .le 6, 3) := by decide +kernel
theorem dX6_dig_27 : decode cX6_dig 27 = .ok (.bipush (-4), 2) := by decide +kernel
theorem dX6_dig_29 : decode cX6_dig 29 = .ok (.ireturn, 1) := by decide +kernel
theorem dX6_dig_30 : decode cX6_dig 30 = .ok (.aload_n 0, 1) := by decide +kernel
theorem dX6_dig_31 : decode cX6_dig 31 = .ok (.invokevirtual 62, 3) := by decide +kernel
theorem dX6_dig_34 : decode cX6_dig 34 = .ok (.aload_n 0, 1) := by decide +kernel
theorem dX6_dig_35 : decode cX6_dig 35 = .ok (.getfield 7, 3) := by decide +kernel
theorem dX6_dig_38 : decode cX6_dig 38 = .ok (.bipush 78, 2) := by decide +kernel
theorem dX6_dig_40 : decode cX6_dig 40 = .ok (.dup2, 1) := by decide +kernel
theorem dX6_dig_41 : decode cX6_dig 41 = .ok (.iaload, 1) := by decide +kernel
theorem dX6_dig_42 : decode cX6_dig 42 = .ok (.iload_n 1, 1) := by decide +kernel
theorem dX6_dig_43 : decode cX6_dig 43 = .ok (.iadd, 1) := by decide +kernel
theorem dX6_dig_44 : decode cX6_dig 44 = .ok (.iastore, 1) := by decide +kernel
theorem dX6_dig_45 : decode cX6_dig 45 = .ok (.aload_n 0, 1) := by decide +kernel
theorem dX6_dig_46 : decode cX6_dig 46 = .ok (.getfield 7, 3) := by decide +kernel
theorem dX6_dig_49 : decode cX6_dig 49 = .ok (.bipush 79, 2) := by decide +kernel
theorem dX6_dig_51 : decode cX6_dig 51 = .ok (.dup2, 1) := by decide +kernel
theorem dX6_dig_52 : decode cX6_dig 52 = .ok (.iaload, 1) := by decide +kernel
theorem dX6_dig_53 : decode cX6_dig 53 = .ok (.iload_n 1, 1) := by decide +kernel
theorem dX6_dig_54 : decode cX6_dig 54 = .ok (.iadd, 1) := by decide +kernel
theorem dX6_dig_55 : decode cX6_dig 55 = .ok (.iastore, 1) := by decide +kernel
theorem dX6_dig_56 : decode cX6_dig 56 = .ok (.aload_n 0, 1) := by decide +kernel
theorem dX6_dig_57 : decode cX6_dig 57 = .ok (.iconst 4, 1) := by decide +kernel
theorem dX6_dig_58 : decode cX6_dig 58 = .ok (.invokevirtual 72, 3) := by decide +kernel
theorem dX6_dig_61 : decode cX6_dig 61 = .ok (.ireturn, 1) := by decide +kernel
theorem dX6_addTrain_0 : decode cX6_addTrain 0 = .ok (.iload_n 1, 1) := by decide +kernel
theorem dX6_addTrain_1 : decode cX6_addTrain 1 = .ok (.iconst 1, 1) := by decide +kernel
theorem dX6_addTrain_2 : decode cX6_addTrain 2 = .ok (.bipush 6, 2) := by decide +kernel
theorem dX6_addTrain_4 : decode cX6_addTrain 4 = .ok (.invokestatic 29, 3) := by decide +kernel
theorem dX6_addTrain_7 : decode cX6_addTrain 7 = .ok (.ifCond .eq 13, 3) := by decide +kernel
theorem dX6_addTrain_10 : decode cX6_addTrain 10 = .ok (.iload_n 2, 1) := by decide +kernel
theorem dX6_addTrain_11 : decode cX6_addTrain 11 = .ok (.iconst 1, 1) := by decide +kernel
theorem dX6_addTrain_12 : decode cX6_addTrain 12 = .ok (.bipush 20, 2) := by decide +kernel
theorem dX6_addTrain_14 : decode cX6_addTrain 14 = .ok (.invokestatic 29, 3) := by decide +kernel
theorem dX6_addTrain_17 : decode cX6_addTrain 17 = .ok (.ifCond .ne 6, 3) := by decide +kernel
theorem dX6_addTrain_20 : decode cX6_addTrain 20 = .ok (.bipush (-2), 2) := by decide +kernel
theorem dX6_addTrain_22 : decode cX6_addTrain 22 = .ok (.ireturn, 1) := by decide +kernel
theorem dX6_addTrain_23 : decode cX6_addTrain 23 = .ok (.aload_n 0, 1) := by decide +kernel
theorem dX6_addTrain_24 : decode cX6_addTrain 24 = .ok (.getfield 7, 3) := by decide +kernel
theorem dX6_addTrain_27 : decode cX6_addTrain 27 = .ok (.bipush 73, 2) := by decide +kernel
theorem dX6_addTrain_29 : decode cX6_addTrain 29 = .ok (.iaload, 1) := by decide +kernel
theorem dX6_addTrain_30 : decode cX6_addTrain 30 = .ok (.iconst 4, 1) := by decide +kernel
theorem dX6_addTrain_31 : decode cX6_addTrain 31 = .ok (.if_icmp .ne 6, 3) := by decide +kernel
theorem dX6_addTrain_34 : decode cX6_addTrain 34 = .ok (.bipush (-4), 2) := by decide +kernel
theorem dX6_addTrain_36 : decode cX6_addTrain 36 = .ok (.ireturn, 1) := by decide +kernel
theorem dX6_addTrain_37 : decode cX6_addTrain 37 = .ok (.aload_n 0, 1) := by decide +kernel
theorem dX6_addTrain_38 : decode cX6_addTrain 38 = .ok (.invokevirtual 62, 3) := by decide +kernel
theorem dX6_addTrain_41 : decode cX6_addTrain 41 = .ok (.aload_n 0, 1) := by decide +kernel
theorem dX6_addTrain_42 : decode cX6_addTrain 42 = .ok (.getfield 7, 3) := by decide +kernel
theorem dX6_addTrain_45 : decode cX6_addTrain 45 = .ok (.bipush 73, 2) := by decide +kernel
theorem dX6_addTrain_47 : decode cX6_addTrain 47 = .ok (.iaload, 1) := by decide +kernel
theorem dX6_addTrain_48 : decode cX6_addTrain 48 = .ok (.istore_n 3, 1) := by decide +kernel
theorem dX6_addTrain_49 : decode cX6_addTrain 49 = .ok (.iconst 0, 1) := by decide +kernel
theorem dX6_addTrain_50 : decode cX6_addTrain 50 = .ok (.istore 4, 2) := by decide +kernel
theorem dX6_addTrain_52 : decode cX6_addTrain 52 = .ok (.iload 4, 2) := by decide +kernel
theorem dX6_addTrain_54 : decode cX6_addTrain 54 = .ok (.bipush 9, 2) := by decide +kernel
theorem dX6_addTrain_56 : decode cX6_addTrain 56 = .ok (.if_icmp .ge 17, 3) := by decide +kernel
theorem dX6_addTrain_59 : decode cX6_addTrain 59 = .ok (.aload_n 0, 1) := by decide +kernel
theorem dX6_addTrain_60 : decode cX6_addTrain 60 = .ok (.iload_n 3, 1) := by decide +kernel
theorem dX6_addTrain_61 : decode cX6_addTrain 61 = .ok (.iload 4, 2) := by decide +kernel
theorem dX6_addTrain_63 : decode cX6_addTrain 63 = .ok (.iconst 0, 1) := by decide +kernel
theorem dX6_addTrain_64 : decode cX6_addTrain 64 = .ok (.invokevirtual 76, 3) := by decide +kernel
theorem dX6_addTrain_67 : decode cX6_addTrain 67 = .ok (.iinc 4 1, 3) := by decide +kernel
theorem dX6_addTrain_70 : decode cX6_addTrain 70 = .ok (.goto (-18), 3) := by decide +kernel
theorem dX6_addTrain_73 : decode cX6_addTrain 73 = .ok (.aload_n 0, 1) := by decide +kernel
theorem dX6_addTrain_74 : decode cX6_addTrain 74 = .ok (.iload_n 3, 1) := by decide +kernel
theorem dX6_addTrain_75 : decode cX6_addTrain 75 = .ok (.iconst 0, 1) := by decide +kernel
theorem dX6_addTrain_76 : decode cX6_addTrain 76 = .ok (.iload_n 1, 1) := by decide +kernel
theorem dX6_addTrain_77 : decode cX6_addTrain 77 = .ok (.invokevirtual 76, 3) := by decide +kernel
theorem dX6_addTrain_80 : decode cX6_addTrain 80 = .ok (.aload_n 0, 1) := by decide +kernel
theorem dX6_addTrain_81 : decode cX6_addTrain 81 = .ok (.iload_n 3, 1) := by decide +kernel
theorem dX6_addTrain_82 : decode cX6_addTrain 82 = .ok (.iconst 1, 1) := by decide +kernel
theorem dX6_addTrain_83 : decode cX6_addTrain 83 = .ok (.iload_n 2, 1) := by decide +kernel
theorem dX6_addTrain_84 : decode cX6_addTrain 84 = .ok (.invokevirtual 76, 3) := by decide +kernel
theorem dX6_addTrain_87 : decode cX6_addTrain 87 = .ok (.aload_n 0, 1) := by decide +kernel
theorem dX6_addTrain_88 : decode cX6_addTrain 88 = .ok (.getfield 7, 3) := by decide +kernel
theorem dX6_addTrain_91 : decode cX6_addTrain 91 = .ok (.bipush 73, 2) := by decide +kernel
theorem dX6_addTrain_93 : decode cX6_addTrain 93 = .ok (.dup2, 1) := by decide +kernel
theorem dX6_addTrain_94 : decode cX6_addTrain 94 = .ok (.iaload, 1) := by decide +kernel
theorem dX6_addTrain_95 : decode cX6_addTrain 95 = .ok (.iconst 1, 1) := by decide +kernel
theorem dX6_addTrain_96 : decode cX6_addTrain 96 = .ok (.iadd, 1) := by decide +kernel
theorem dX6_addTrain_97 : decode cX6_addTrain 97 = .ok (.iastore, 1) := by decide +kernel
theorem dX6_addTrain_98 : decode cX6_addTrain 98 = .ok (.iload_n 3, 1) := by decide +kernel
theorem dX6_addTrain_99 : decode cX6_addTrain 99 = .ok (.ireturn, 1) := by decide +kernel
theorem dX6_dropTrain_0 : decode cX6_dropTrain 0 = .ok (.aload_n 0, 1) := by decide +kernel
theorem dX6_dropTrain_1 : decode cX6_dropTrain 1 = .ok (.iload_n 1, 1) := by decide +kernel
theorem dX6_dropTrain_2 : decode cX6_dropTrain 2 = .ok (.invokevirtual 80, 3) := by decide +kernel
theorem dX6_dropTrain_5 : decode cX6_dropTrain 5 = .ok (.ifCond .ne 6, 3) := by decide +kernel
theorem dX6_dropTrain_8 : decode cX6_dropTrain 8 = .ok (.bipush (-2), 2) := by decide +kernel
theorem dX6_dropTrain_10 : decode cX6_dropTrain 10 = .ok (.ireturn, 1) := by decide +kernel
theorem dX6_dropTrain_11 : decode cX6_dropTrain 11 = .ok (.aload_n 0, 1) := by decide +kernel
theorem dX6_dropTrain_12 : decode cX6_dropTrain 12 = .ok (.invokevirtual 62, 3) := by decide +kernel
theorem dX6_dropTrain_15 : decode cX6_dropTrain 15 = .ok (.aload_n 0, 1) := by decide +kernel
theorem dX6_dropTrain_16 : decode cX6_dropTrain 16 = .ok (.iload_n 1, 1) := by decide +kernel
theorem dX6_dropTrain_17 : decode cX6_dropTrain 17 = .ok (.iconst 2, 1) := by decide +kernel
theorem dX6_dropTrain_18 : decode cX6_dropTrain 18 = .ok (.invokevirtual 58, 3) := by decide +kernel
theorem dX6_dropTrain_21 : decode cX6_dropTrain 21 = .ok (.istore_n 2, 1) := by decide +kernel
theorem dX6_dropTrain_22 : decode cX6_dropTrain 22 = .ok (.aload_n 0, 1) := by decide +kernel
theorem dX6_dropTrain_23 : decode cX6_dropTrain 23 = .ok (.getfield 7, 3) := by decide +kernel
theorem dX6_dropTrain_26 : decode cX6_dropTrain 26 = .ok (.bipush 81, 2) := by decide +kernel
theorem dX6_dropTrain_28 : decode cX6_dropTrain 28 = .ok (.dup2, 1) := by decide +kernel
theorem dX6_dropTrain_29 : decode cX6_dropTrain 29 = .ok (.iaload, 1) := by decide +kernel
theorem dX6_dropTrain_30 : decode cX6_dropTrain 30 = .ok (.iload_n 2, 1) := by decide +kernel
theorem dX6_dropTrain_31 : decode cX6_dropTrain 31 = .ok (.iadd, 1) := by decide +kernel
theorem dX6_dropTrain_32 : decode cX6_dropTrain 32 = .ok (.iastore, 1) := by decide +kernel
theorem dX6_dropTrain_33 : decode cX6_dropTrain 33 = .ok (.aload_n 0, 1) := by decide +kernel
theorem dX6_dropTrain_34 : decode cX6_dropTrain 34 = .ok (.getfield 7, 3) := by decide +kernel
theorem dX6_dropTrain_37 : decode cX6_dropTrain 37 = .ok (.bipush 73, 2) := by decide +kernel
theorem dX6_dropTrain_39 : decode cX6_dropTrain 39 = .ok (.dup2, 1) := by decide +kernel
theorem dX6_dropTrain_40 : decode cX6_dropTrain 40 = .ok (.iaload, 1) := by decide +kernel
theorem dX6_dropTrain_41 : decode cX6_dropTrain 41 = .ok (.iconst 1, 1) := by decide +kernel
theorem dX6_dropTrain_42 : decode cX6_dropTrain 42 = .ok (.isub, 1) := by decide +kernel
theorem dX6_dropTrain_43 : decode cX6_dropTrain 43 = .ok (.iastore, 1) := by decide +kernel
theorem dX6_dropTrain_44 : decode cX6_dropTrain 44 = .ok (.bipush 36, 2) := by decide +kernel
theorem dX6_dropTrain_46 : decode cX6_dropTrain 46 = .ok (.bipush 9, 2) := by decide +kernel
theorem dX6_dropTrain_48 : decode cX6_dropTrain 48 = .ok (.iload_n 1, 1) := by decide +kernel
theorem dX6_dropTrain_49 : decode cX6_dropTrain 49 = .ok (.imul, 1) := by decide +kernel
theorem dX6_dropTrain_50 : decode cX6_dropTrain 50 = .ok (.iadd, 1) := by decide +kernel
theorem dX6_dropTrain_51 : decode cX6_dropTrain 51 = .ok (.istore_n 3, 1) := by decide +kernel
theorem dX6_dropTrain_52 : decode cX6_dropTrain 52 = .ok (.iload_n 3, 1) := by decide +kernel
theorem dX6_dropTrain_53 : decode cX6_dropTrain 53 = .ok (.bipush 36, 2) := by decide +kernel
theorem dX6_dropTrain_55 : decode cX6_dropTrain 55 = .ok (.bipush 9, 2) := by decide +kernel
theorem dX6_dropTrain_57 : decode cX6_dropTrain 57 = .ok (.aload_n 0, 1) := by decide +kernel
theorem dX6_dropTrain_58 : decode cX6_dropTrain 58 = .ok (.getfield 7, 3) := by decide +kernel
theorem dX6_dropTrain_61 : decode cX6_dropTrain 61 = .ok (.bipush 73, 2) := by decide +kernel
theorem dX6_dropTrain_63 : decode cX6_dropTrain 63 = .ok (.iaload, 1) := by decide +kernel
theorem dX6_dropTrain_64 : decode cX6_dropTrain 64 = .ok (.imul, 1) := by decide +kernel
theorem dX6_dropTrain_65 : decode cX6_dropTrain 65 = .ok (.iadd, 1) := by decide +kernel
theorem dX6_dropTrain_66 : decode cX6_dropTrain 66 = .ok (.if_icmp .ge 24, 3) := by decide +kernel
theorem dX6_dropTrain_69 : decode cX6_dropTrain 69 = .ok (.aload_n 0, 1) := by decide +kernel
theorem dX6_dropTrain_70 : decode cX6_dropTrain 70 = .ok (.getfield 7, 3) := by decide +kernel
theorem dX6_dropTrain_73 : decode cX6_dropTrain 73 = .ok (.iload_n 3, 1) := by decide +kernel
theorem dX6_dropTrain_74 : decode cX6_dropTrain 74 = .ok (.aload_n 0, 1) := by decide +kernel
theorem dX6_dropTrain_75 : decode cX6_dropTrain 75 = .ok (.getfield 7, 3) := by decide +kernel
theorem dX6_dropTrain_78 : decode cX6_dropTrain 78 = .ok (.iload_n 3, 1) := by decide +kernel
theorem dX6_dropTrain_79 : decode cX6_dropTrain 79 = .ok (.bipush 9, 2) := by decide +kernel
theorem dX6_dropTrain_81 : decode cX6_dropTrain 81 = .ok (.iadd, 1) := by decide +kernel
theorem dX6_dropTrain_82 : decode cX6_dropTrain 82 = .ok (.iaload, 1) := by decide +kernel
theorem dX6_dropTrain_83 : decode cX6_dropTrain 83 = .ok (.iastore, 1) := by decide +kernel
theorem dX6_dropTrain_84 : decode cX6_dropTrain 84 = .ok (.iinc 3 1, 3) := by decide +kernel
theorem dX6_dropTrain_87 : decode cX6_dropTrain 87 = .ok (.goto (-35), 3) := by decide +kernel
theorem dX6_dropTrain_90 : decode cX6_dropTrain 90 = .ok (.iload_n 2, 1) := by decide +kernel
theorem dX6_dropTrain_91 : decode cX6_dropTrain 91 = .ok (.ireturn, 1) := by decide +kernel
theorem dX6_setLoad_0 : decode cX6_setLoad 0 = .ok (.aload_n 0, 1) := by decide +kernel
theorem dX6_setLoad_1 : decode cX6_setLoad 1 = .ok (.iload_n 1, 1) := by decide +kernel
theorem dX6_setLoad_2 : decode cX6_setLoad 2 = .ok (.invokevirtual 80, 3) := by decide +kernel
theorem dX6_setLoad_5 : decode cX6_setLoad 5 = .ok (.ifCond .eq 13, 3) := by decide +kernel
theorem dX6_setLoad_8 : decode cX6_setLoad 8 = .ok (.iload_n 2, 1) := by decide +kernel
theorem dX6_setLoad_9 : decode cX6_setLoad 9 = .ok (.iconst 1, 1) := by decide +kernel
theorem dX6_setLoad_10 : decode cX6_setLoad 10 = .ok (.bipush 20, 2) := by decide +kernel
theorem dX6_setLoad_12 : decode cX6_setLoad 12 = .ok (.invokestatic 29, 3) := by decide +kernel
theorem dX6_setLoad_15 : decode cX6_setLoad 15 = .ok (.ifCond .ne 6, 3) := by decide +kernel
theorem dX6_setLoad_18 : decode cX6_setLoad 18 = .ok (.bipush (-2), 2) := by decide +kernel
theorem dX6_setLoad_20 : decode cX6_setLoad 20 = .ok (.ireturn, 1) := by decide +kernel
theorem dX6_setLoad_21 : decode cX6_setLoad 21 = .ok (.aload_n 0, 1) := by decide +kernel
theorem dX6_setLoad_22 : decode cX6_setLoad 22 = .ok (.invokevirtual 62, 3) := by decide +kernel
theorem dX6_setLoad_25 : decode cX6_setLoad 25 = .ok (.aload_n 0, 1) := by decide +kernel
theorem dX6_setLoad_26 : decode cX6_setLoad 26 = .ok (.iload_n 1, 1) := by decide +kernel
theorem dX6_setLoad_27 : decode cX6_setLoad 27 = .ok (.iconst 1, 1) := by decide +kernel
theorem dX6_setLoad_28 : decode cX6_setLoad 28 = .ok (.invokevirtual 58, 3) := by decide +kernel
theorem dX6_setLoad_31 : decode cX6_setLoad 31 = .ok (.istore_n 3, 1) := by decide +kernel
theorem dX6_setLoad_32 : decode cX6_setLoad 32 = .ok (.aload_n 0, 1) := by decide +kernel
theorem dX6_setLoad_33 : decode cX6_setLoad 33 = .ok (.iload_n 1, 1) := by decide +kernel
theorem dX6_setLoad_34 : decode cX6_setLoad 34 = .ok (.iconst 1, 1) := by decide +kernel
theorem dX6_setLoad_35 : decode cX6_setLoad 35 = .ok (.iload_n 2, 1) := by decide +kernel
theorem dX6_setLoad_36 : decode cX6_setLoad 36 = .ok (.invokevirtual 76, 3) := by decide +kernel
theorem dX6_setLoad_39 : decode cX6_setLoad 39 = .ok (.iload_n 3, 1) := by decide +kernel
theorem dX6_setLoad_40 : decode cX6_setLoad 40 = .ok (.ireturn, 1) := by decide +kernel
theorem dX6_isEnd_0 : decode cX6_isEnd 0 = .ok (.iload_n 1, 1) := by decide +kernel
theorem dX6_isEnd_1 : decode cX6_isEnd 1 = .ok (.ifCond .eq 16, 3) := by decide +kernel
theorem dX6_isEnd_4 : decode cX6_isEnd 4 = .ok (.iload_n 1, 1) := by decide +kernel
theorem dX6_isEnd_5 : decode cX6_isEnd 5 = .ok (.aload_n 0, 1) := by decide +kernel
theorem dX6_isEnd_6 : decode cX6_isEnd 6 = .ok (.getfield 7, 3) := by decide +kernel
theorem dX6_isEnd_9 : decode cX6_isEnd 9 = .ok (.bipush 72, 2) := by decide +kernel
theorem dX6_isEnd_11 : decode cX6_isEnd 11 = .ok (.iaload, 1) := by decide +kernel
theorem dX6_isEnd_12 : decode cX6_isEnd 12 = .ok (.iconst 1, 1) := by decide +kernel
theorem dX6_isEnd_13 : decode cX6_isEnd 13 = .ok (.isub, 1) := by decide +kernel
theorem dX6_isEnd_14 : decode cX6_isEnd 14 = .ok (.if_icmp .ne 7, 3) := by decide +kernel
theorem dX6_isEnd_17 : decode cX6_isEnd 17 = .ok (.iconst 1, 1) := by decide +kernel
theorem dX6_isEnd_18 : decode cX6_isEnd 18 = .ok (.goto 4, 3) := by decide +kernel
theorem dX6_isEnd_21 : decode cX6_isEnd 21 = .ok (.iconst 0, 1) := by decide +kernel
theorem dX6_isEnd_22 : decode cX6_isEnd 22 = .ok (.ireturn, 1) := by decide +kernel
theorem dX6_isPassing_0 : decode cX6_isPassing 0 = .ok (.aload_n 0, 1) := by decide +kernel
theorem dX6_isPassing_1 : decode cX6_isPassing 1 = .ok (.iload_n 1, 1) := by decide +kernel
theorem dX6_isPassing_2 : decode cX6_isPassing 2 = .ok (.iconst 1, 1) := by decide +kernel
theorem dX6_isPassing_3 : decode cX6_isPassing 3 = .ok (.invokevirtual 83, 3) := by decide +kernel
theorem dX6_isPassing_6 : decode cX6_isPassing 6 = .ok (.iconst 1, 1) := by decide +kernel
theorem dX6_isPassing_7 : decode cX6_isPassing 7 = .ok (.if_icmp .ne 7, 3) := by decide +kernel
theorem dX6_isPassing_10 : decode cX6_isPassing 10 = .ok (.iconst 1, 1) := by decide +kernel
theorem dX6_isPassing_11 : decode cX6_isPassing 11 = .ok (.goto 4, 3) := by decide +kernel
theorem dX6_isPassing_14 : decode cX6_isPassing 14 = .ok (.iconst 0, 1) := by decide +kernel
theorem dX6_isPassing_15 : decode cX6_isPassing 15 = .ok (.ireturn, 1) := by decide +kernel
theorem dX6_room_0 : decode cX6_room 0 = .ok (.aload_n 0, 1) := by decide +kernel
theorem dX6_room_1 : decode cX6_room 1 = .ok (.iload_n 1, 1) := by decide +kernel
theorem dX6_room_2 : decode cX6_room 2 = .ok (.invokevirtual 86, 3) := by decide +kernel
theorem dX6_room_5 : decode cX6_room 5 = .ok (.ifCond .eq 7, 3) := by decide +kernel
theorem dX6_room_8 : decode cX6_room 8 = .ok (.iconst 4, 1) := by decide +kernel
theorem dX6_room_9 : decode cX6_room 9 = .ok (.goto 16, 3) := by decide +kernel
theorem dX6_room_12 : decode cX6_room 12 = .ok (.aload_n 0, 1) := by decide +kernel
theorem dX6_room_13 : decode cX6_room 13 = .ok (.iload_n 1, 1) := by decide +kernel
theorem dX6_room_14 : decode cX6_room 14 = .ok (.invokevirtual 89, 3) := by decide +kernel
theorem dX6_room_17 : decode cX6_room 17 = .ok (.ifCond .eq 7, 3) := by decide +kernel
theorem dX6_room_20 : decode cX6_room 20 = .ok (.iconst 2, 1) := by decide +kernel
theorem dX6_room_21 : decode cX6_room 21 = .ok (.goto 4, 3) := by decide +kernel
theorem dX6_room_24 : decode cX6_room 24 = .ok (.iconst 1, 1) := by decide +kernel
theorem dX6_room_25 : decode cX6_room 25 = .ok (.ireturn, 1) := by decide +kernel
theorem dX6_trainsIn_0 : decode cX6_trainsIn 0 = .ok (.iconst 0, 1) := by decide +kernel
theorem dX6_trainsIn_1 : decode cX6_trainsIn 1 = .ok (.istore_n 2, 1) := by decide +kernel
theorem dX6_trainsIn_2 : decode cX6_trainsIn 2 = .ok (.iconst 0, 1) := by decide +kernel
theorem dX6_trainsIn_3 : decode cX6_trainsIn 3 = .ok (.istore_n 3, 1) := by decide +kernel
theorem dX6_trainsIn_4 : decode cX6_trainsIn 4 = .ok (.iload_n 3, 1) := by decide +kernel
theorem dX6_trainsIn_5 : decode cX6_trainsIn 5 = .ok (.aload_n 0, 1) := by decide +kernel
theorem dX6_trainsIn_6 : decode cX6_trainsIn 6 = .ok (.getfield 7, 3) := by decide +kernel
theorem dX6_trainsIn_9 : decode cX6_trainsIn 9 = .ok (.bipush 73, 2) := by decide +kernel
theorem dX6_trainsIn_11 : decode cX6_trainsIn 11 = .ok (.iaload, 1) := by decide +kernel
theorem dX6_trainsIn_12 : decode cX6_trainsIn 12 = .ok (.if_icmp .ge 27, 3) := by decide +kernel
theorem dX6_trainsIn_15 : decode cX6_trainsIn 15 = .ok (.iload_n 2, 1) := by decide +kernel
theorem dX6_trainsIn_16 : decode cX6_trainsIn 16 = .ok (.aload_n 0, 1) := by decide +kernel
theorem dX6_trainsIn_17 : decode cX6_trainsIn 17 = .ok (.iload_n 3, 1) := by decide +kernel
theorem dX6_trainsIn_18 : decode cX6_trainsIn 18 = .ok (.iconst 3, 1) := by decide +kernel
theorem dX6_trainsIn_19 : decode cX6_trainsIn 19 = .ok (.invokevirtual 58, 3) := by decide +kernel
theorem dX6_trainsIn_22 : decode cX6_trainsIn 22 = .ok (.iload_n 1, 1) := by decide +kernel
theorem dX6_trainsIn_23 : decode cX6_trainsIn 23 = .ok (.if_icmp .ne 7, 3) := by decide +kernel
theorem dX6_trainsIn_26 : decode cX6_trainsIn 26 = .ok (.iconst 1, 1) := by decide +kernel
theorem dX6_trainsIn_27 : decode cX6_trainsIn 27 = .ok (.goto 4, 3) := by decide +kernel
theorem dX6_trainsIn_30 : decode cX6_trainsIn 30 = .ok (.iconst 0, 1) := by decide +kernel
theorem dX6_trainsIn_31 : decode cX6_trainsIn 31 = .ok (.iadd, 1) := by decide +kernel
theorem dX6_trainsIn_32 : decode cX6_trainsIn 32 = .ok (.istore_n 2, 1) := by decide +kernel
theorem dX6_trainsIn_33 : decode cX6_trainsIn 33 = .ok (.iinc 3 1, 3) := by decide +kernel
theorem dX6_trainsIn_36 : decode cX6_trainsIn 36 = .ok (.goto (-32), 3) := by decide +kernel
theorem dX6_trainsIn_39 : decode cX6_trainsIn 39 = .ok (.iload_n 2, 1) := by decide +kernel
theorem dX6_trainsIn_40 : decode cX6_trainsIn 40 = .ok (.ireturn, 1) := by decide +kernel
theorem dX6_weight_0 : decode cX6_weight 0 = .ok (.iconst 4, 1) := by decide +kernel
theorem dX6_weight_1 : decode cX6_weight 1 = .ok (.iconst 2, 1) := by decide +kernel
theorem dX6_weight_2 : decode cX6_weight 2 = .ok (.aload_n 0, 1) := by decide +kernel
theorem dX6_weight_3 : decode cX6_weight 3 = .ok (.iload_n 1, 1) := by decide +kernel
theorem dX6_weight_4 : decode cX6_weight 4 = .ok (.iconst 0, 1) := by decide +kernel
theorem dX6_weight_5 : decode cX6_weight 5 = .ok (.invokevirtual 58, 3) := by decide +kernel
theorem dX6_weight_8 : decode cX6_weight 8 = .ok (.imul, 1) := by decide +kernel
theorem dX6_weight_9 : decode cX6_weight 9 = .ok (.iadd, 1) := by decide +kernel
theorem dX6_weight_10 : decode cX6_weight 10 = .ok (.aload_n 0, 1) := by decide +kernel
theorem dX6_weight_11 : decode cX6_weight 11 = .ok (.iload_n 1, 1) := by decide +kernel
theorem dX6_weight_12 : decode cX6_weight 12 = .ok (.iconst 2, 1) := by decide +kernel
theorem dX6_weight_13 : decode cX6_weight 13 = .ok (.invokevirtual 58, 3) := by decide +kernel
theorem dX6_weight_16 : decode cX6_weight 16 = .ok (.iadd, 1) := by decide +kernel
theorem dX6_weight_17 : decode cX6_weight 17 = .ok (.ireturn, 1) := by decide +kernel
theorem dX6_weightIn_0 : decode cX6_weightIn 0 = .ok (.iconst 0, 1) := by decide +kernel
theorem dX6_weightIn_1 : decode cX6_weightIn 1 = .ok (.istore_n 2, 1) := by decide +kernel
theorem dX6_weightIn_2 : decode cX6_weightIn 2 = .ok (.iconst 0, 1) := by decide +kernel
theorem dX6_weightIn_3 : decode cX6_weightIn 3 = .ok (.istore_n 3, 1) := by decide +kernel
theorem dX6_weightIn_4 : decode cX6_weightIn 4 = .ok (.iload_n 3, 1) := by decide +kernel
theorem dX6_weightIn_5 : decode cX6_weightIn 5 = .ok (.aload_n 0, 1) := by decide +kernel
theorem dX6_weightIn_6 : decode cX6_weightIn 6 = .ok (.getfield 7, 3) := by decide +kernel
theorem dX6_weightIn_9 : decode cX6_weightIn 9 = .ok (.bipush 73, 2) := by decide +kernel
theorem dX6_weightIn_11 : decode cX6_weightIn 11 = .ok (.iaload, 1) := by decide +kernel
theorem dX6_weightIn_12 : decode cX6_weightIn 12 = .ok (.if_icmp .ge 31, 3) := by decide +kernel
theorem dX6_weightIn_15 : decode cX6_weightIn 15 = .ok (.iload_n 2, 1) := by decide +kernel
theorem dX6_weightIn_16 : decode cX6_weightIn 16 = .ok (.aload_n 0, 1) := by decide +kernel
theorem dX6_weightIn_17 : decode cX6_weightIn 17 = .ok (.iload_n 3, 1) := by decide +kernel
theorem dX6_weightIn_18 : decode cX6_weightIn 18 = .ok (.iconst 3, 1) := by decide +kernel
theorem dX6_weightIn_19 : decode cX6_weightIn 19 = .ok (.invokevirtual 58, 3) := by decide +kernel
theorem dX6_weightIn_22 : decode cX6_weightIn 22 = .ok (.iload_n 1, 1) := by decide +kernel
theorem dX6_weightIn_23 : decode cX6_weightIn 23 = .ok (.if_icmp .ne 11, 3) := by decide +kernel
theorem dX6_weightIn_26 : decode cX6_weightIn 26 = .ok (.aload_n 0, 1) := by decide +kernel
theorem dX6_weightIn_27 : decode cX6_weightIn 27 = .ok (.iload_n 3, 1) := by decide +kernel
theorem dX6_weightIn_28 : decode cX6_weightIn 28 = .ok (.invokevirtual 92, 3) := by decide +kernel
theorem dX6_weightIn_31 : decode cX6_weightIn 31 = .ok (.goto 4, 3) := by decide +kernel
theorem dX6_weightIn_34 : decode cX6_weightIn 34 = .ok (.iconst 0, 1) := by decide +kernel
theorem dX6_weightIn_35 : decode cX6_weightIn 35 = .ok (.iadd, 1) := by decide +kernel
theorem dX6_weightIn_36 : decode cX6_weightIn 36 = .ok (.istore_n 2, 1) := by decide +kernel
theorem dX6_weightIn_37 : decode cX6_weightIn 37 = .ok (.iinc 3 1, 3) := by decide +kernel
theorem dX6_weightIn_40 : decode cX6_weightIn 40 = .ok (.goto (-36), 3) := by decide +kernel
theorem dX6_weightIn_43 : decode cX6_weightIn 43 = .ok (.iload_n 2, 1) := by decide +kernel
theorem dX6_weightIn_44 : decode cX6_weightIn 44 = .ok (.ireturn, 1) := by decide +kernel
theorem dX6_between_0 : decode cX6_between 0 = .ok (.iload_n 1, 1) := by decide +kernel
theorem dX6_between_1 : decode cX6_between 1 = .ok (.iload_n 2, 1) := by decide +kernel
theorem dX6_between_2 : decode cX6_between 2 = .ok (.if_icmp .ge 7, 3) := by decide +kernel
theorem dX6_between_5 : decode cX6_between 5 = .ok (.iload_n 1, 1) := by decide +kernel
theorem dX6_between_6 : decode cX6_between 6 = .ok (.goto 4, 3) := by decide +kernel
theorem dX6_between_9 : decode cX6_between 9 = .ok (.iload_n 2, 1) := by decide +kernel
theorem dX6_between_10 : decode cX6_between 10 = .ok (.istore 4, 2) := by decide +kernel
theorem dX6_between_12 : decode cX6_between 12 = .ok (.iload_n 1, 1) := by decide +kernel
theorem dX6_between_13 : decode cX6_between 13 = .ok (.iload_n 2, 1) := by decide +kernel
theorem dX6_between_14 : decode cX6_between 14 = .ok (.if_icmp .ge 7, 3) := by decide +kernel
theorem dX6_between_17 : decode cX6_between 17 = .ok (.iload_n 2, 1) := by decide +kernel
theorem dX6_between_18 : decode cX6_between 18 = .ok (.goto 4, 3) := by decide +kernel
theorem dX6_between_21 : decode cX6_between 21 = .ok (.iload_n 1, 1) := by decide +kernel
theorem dX6_between_22 : decode cX6_between 22 = .ok (.istore 5, 2) := by decide +kernel
theorem dX6_between_24 : decode cX6_between 24 = .ok (.iconst 0, 1) := by decide +kernel
theorem dX6_between_25 : decode cX6_between 25 = .ok (.istore 6, 2) := by decide +kernel
theorem dX6_between_27 : decode cX6_between 27 = .ok (.iconst 0, 1) := by decide +kernel
theorem dX6_between_28 : decode cX6_between 28 = .ok (.istore 7, 2) := by decide +kernel
theorem dX6_between_30 : decode cX6_between 30 = .ok (.iload 7, 2) := by decide +kernel
theorem dX6_between_32 : decode cX6_between 32 = .ok (.aload_n 0, 1) := by decide +kernel
theorem dX6_between_33 : decode cX6_between 33 = .ok (.getfield 7, 3) := by decide +kernel
theorem dX6_between_36 : decode cX6_between 36 = .ok (.bipush 73, 2) := by decide +kernel
theorem dX6_between_38 : decode cX6_between 38 = .ok (.iaload, 1) := by decide +kernel
theorem dX6_between_39 : decode cX6_between 39 = .ok (.if_icmp .ge 54, 3) := by decide +kernel
theorem dX6_between_42 : decode cX6_between 42 = .ok (.iload 6, 2) := by decide +kernel
theorem dX6_between_44 : decode cX6_between 44 = .ok (.aload_n 0, 1) := by decide +kernel
theorem dX6_between_45 : decode cX6_between 45 = .ok (.iload 7, 2) := by decide +kernel
theorem dX6_between_47 : decode cX6_between 47 = .ok (.iconst 3, 1) := by decide +kernel
theorem dX6_between_48 : decode cX6_between 48 = .ok (.invokevirtual 58, 3) := by decide +kernel
theorem dX6_between_51 : decode cX6_between 51 = .ok (.iload 4, 2) := by decide +kernel
theorem dX6_between_53 : decode cX6_between 53 = .ok (.if_icmp .le 30, 3) := by decide +kernel
theorem dX6_between_56 : decode cX6_between 56 = .ok (.aload_n 0, 1) := by decide +kernel
theorem dX6_between_57 : decode cX6_between 57 = .ok (.iload 7, 2) := by decide +kernel
theorem dX6_between_59 : decode cX6_between 59 = .ok (.iconst 3, 1) := by decide +kernel
theorem dX6_between_60 : decode cX6_between 60 = .ok (.invokevirtual 58, 3) := by decide +kernel
theorem dX6_between_63 : decode cX6_between 63 = .ok (.iload 5, 2) := by decide +kernel
theorem dX6_between_65 : decode cX6_between 65 = .ok (.if_icmp .ge 18, 3) := by decide +kernel
theorem dX6_between_68 : decode cX6_between 68 = .ok (.aload_n 0, 1) := by decide +kernel
theorem dX6_between_69 : decode cX6_between 69 = .ok (.iload 7, 2) := by decide +kernel
theorem dX6_between_71 : decode cX6_between 71 = .ok (.iconst 4, 1) := by decide +kernel
theorem dX6_between_72 : decode cX6_between 72 = .ok (.invokevirtual 58, 3) := by decide +kernel
theorem dX6_between_75 : decode cX6_between 75 = .ok (.iload_n 3, 1) := by decide +kernel
theorem dX6_between_76 : decode cX6_between 76 = .ok (.if_icmp .ne 7, 3) := by decide +kernel
theorem dX6_between_79 : decode cX6_between 79 = .ok (.iconst 1, 1) := by decide +kernel
theorem dX6_between_80 : decode cX6_between 80 = .ok (.goto 4, 3) := by decide +kernel
theorem dX6_between_83 : decode cX6_between 83 = .ok (.iconst 0, 1) := by decide +kernel
theorem dX6_between_84 : decode cX6_between 84 = .ok (.iadd, 1) := by decide +kernel
theorem dX6_between_85 : decode cX6_between 85 = .ok (.istore 6, 2) := by decide +kernel
theorem dX6_between_87 : decode cX6_between 87 = .ok (.iinc 7 1, 3) := by decide +kernel
theorem dX6_between_90 : decode cX6_between 90 = .ok (.goto (-60), 3) := by decide +kernel
theorem dX6_between_93 : decode cX6_between 93 = .ok (.iload 6, 2) := by decide +kernel
theorem dX6_between_95 : decode cX6_between 95 = .ok (.ireturn, 1) := by decide +kernel
theorem dX6_wanted_0 : decode cX6_wanted 0 = .ok (.aload_n 0, 1) := by decide +kernel
theorem dX6_wanted_1 : decode cX6_wanted 1 = .ok (.iload_n 1, 1) := by decide +kernel
theorem dX6_wanted_2 : decode cX6_wanted 2 = .ok (.iconst 0, 1) := by decide +kernel
theorem dX6_wanted_3 : decode cX6_wanted 3 = .ok (.invokevirtual 58, 3) := by decide +kernel
theorem dX6_wanted_6 : decode cX6_wanted 6 = .ok (.aload_n 0, 1) := by decide +kernel
theorem dX6_wanted_7 : decode cX6_wanted 7 = .ok (.iload_n 1, 1) := by decide +kernel
theorem dX6_wanted_8 : decode cX6_wanted 8 = .ok (.iconst 1, 1) := by decide +kernel
theorem dX6_wanted_9 : decode cX6_wanted 9 = .ok (.invokevirtual 58, 3) := by decide +kernel
theorem dX6_wanted_12 : decode cX6_wanted 12 = .ok (.imul, 1) := by decide +kernel
theorem dX6_wanted_13 : decode cX6_wanted 13 = .ok (.ireturn, 1) := by decide +kernel
theorem dX6_reason_0 : decode cX6_reason 0 = .ok (.aload_n 0, 1) := by decide +kernel
theorem dX6_reason_1 : decode cX6_reason 1 = .ok (.iload_n 1, 1) := by decide +kernel
theorem dX6_reason_2 : decode cX6_reason 2 = .ok (.iconst 3, 1) := by decide +kernel
theorem dX6_reason_3 : decode cX6_reason 3 = .ok (.invokevirtual 58, 3) := by decide +kernel
theorem dX6_reason_6 : decode cX6_reason 6 = .ok (.istore_n 2, 1) := by decide +kernel
theorem dX6_reason_7 : decode cX6_reason 7 = .ok (.aload_n 0, 1) := by decide +kernel
theorem dX6_reason_8 : decode cX6_reason 8 = .ok (.iload_n 1, 1) := by decide +kernel
theorem dX6_reason_9 : decode cX6_reason 9 = .ok (.iconst 4, 1) := by decide +kernel
theorem dX6_reason_10 : decode cX6_reason 10 = .ok (.invokevirtual 58, 3) := by decide +kernel
theorem dX6_reason_13 : decode cX6_reason 13 = .ok (.istore_n 3, 1) := by decide +kernel
theorem dX6_reason_14 : decode cX6_reason 14 = .ok (.iload_n 3, 1) := by decide +kernel
theorem dX6_reason_15 : decode cX6_reason 15 = .ok (.iconst 1, 1) := by decide +kernel
theorem dX6_reason_16 : decode cX6_reason 16 = .ok (.if_icmp .ne 18, 3) := by decide +kernel
theorem dX6_reason_19 : decode cX6_reason 19 = .ok (.iload_n 2, 1) := by decide +kernel
theorem dX6_reason_20 : decode cX6_reason 20 = .ok (.aload_n 0, 1) := by decide +kernel
theorem dX6_reason_21 : decode cX6_reason 21 = .ok (.getfield 7, 3) := by decide +kernel
theorem dX6_reason_24 : decode cX6_reason 24 = .ok (.bipush 72, 2) := by decide +kernel
theorem dX6_reason_26 : decode cX6_reason 26 = .ok (.iaload, 1) := by decide +kernel
theorem dX6_reason_27 : decode cX6_reason 27 = .ok (.iconst 1, 1) := by decide +kernel
theorem dX6_reason_28 : decode cX6_reason 28 = .ok (.isub, 1) := by decide +kernel
theorem dX6_reason_29 : decode cX6_reason 29 = .ok (.if_icmp .ne 5, 3) := by decide +kernel
theorem dX6_reason_32 : decode cX6_reason 32 = .ok (.iconst 0, 1) := by decide +kernel
theorem dX6_reason_33 : decode cX6_reason 33 = .ok (.ireturn, 1) := by decide +kernel
theorem dX6_reason_34 : decode cX6_reason 34 = .ok (.iload_n 3, 1) := by decide +kernel
theorem dX6_reason_35 : decode cX6_reason 35 = .ok (.ifCond .ne 26, 3) := by decide +kernel
theorem dX6_reason_38 : decode cX6_reason 38 = .ok (.iload_n 2, 1) := by decide +kernel
theorem dX6_reason_39 : decode cX6_reason 39 = .ok (.ifCond .ne 22, 3) := by decide +kernel
theorem dX6_reason_42 : decode cX6_reason 42 = .ok (.aload_n 0, 1) := by decide +kernel
theorem dX6_reason_43 : decode cX6_reason 43 = .ok (.iconst 4, 1) := by decide +kernel
theorem dX6_reason_44 : decode cX6_reason 44 = .ok (.invokevirtual 72, 3) := by decide +kernel
theorem dX6_reason_47 : decode cX6_reason 47 = .ok (.aload_n 0, 1) := by decide +kernel
theorem dX6_reason_48 : decode cX6_reason 48 = .ok (.iload_n 1, 1) := by decide +kernel
theorem dX6_reason_49 : decode cX6_reason 49 = .ok (.invokevirtual 95, 3) := by decide +kernel
theorem dX6_reason_52 : decode cX6_reason 52 = .ok (.if_icmp .ge 7, 3) := by decide +kernel
theorem dX6_reason_55 : decode cX6_reason 55 = .ok (.iconst 1, 1) := by decide +kernel
theorem dX6_reason_56 : decode cX6_reason 56 = .ok (.goto 4, 3) := by decide +kernel
theorem dX6_reason_59 : decode cX6_reason 59 = .ok (.iconst 0, 1) := by decide +kernel
theorem dX6_reason_60 : decode cX6_reason 60 = .ok (.ireturn, 1) := by decide +kernel
theorem dX6_reason_61 : decode cX6_reason 61 = .ok (.iload_n 3, 1) := by decide +kernel
theorem dX6_reason_62 : decode cX6_reason 62 = .ok (.iconst 1, 1) := by decide +kernel
theorem dX6_reason_63 : decode cX6_reason 63 = .ok (.if_icmp .ne 7, 3) := by decide +kernel
theorem dX6_reason_66 : decode cX6_reason 66 = .ok (.iconst 1, 1) := by decide +kernel
theorem dX6_reason_67 : decode cX6_reason 67 = .ok (.goto 4, 3) := by decide +kernel
theorem dX6_reason_70 : decode cX6_reason 70 = .ok (.iconst (-1), 1) := by decide +kernel
theorem dX6_reason_71 : decode cX6_reason 71 = .ok (.istore 4, 2) := by decide +kernel
theorem dX6_reason_73 : decode cX6_reason 73 = .ok (.iload_n 2, 1) := by decide +kernel
theorem dX6_reason_74 : decode cX6_reason 74 = .ok (.iload 4, 2) := by decide +kernel
theorem dX6_reason_76 : decode cX6_reason 76 = .ok (.iadd, 1) := by decide +kernel
theorem dX6_reason_77 : decode cX6_reason 77 = .ok (.istore 5, 2) := by decide +kernel
theorem dX6_reason_79 : decode cX6_reason 79 = .ok (.aload_n 0, 1) := by decide +kernel
theorem dX6_reason_80 : decode cX6_reason 80 = .ok (.iload 5, 2) := by decide +kernel
theorem dX6_reason_82 : decode cX6_reason 82 = .ok (.iconst 2, 1) := by decide +kernel
theorem dX6_reason_83 : decode cX6_reason 83 = .ok (.invokevirtual 83, 3) := by decide +kernel
theorem dX6_reason_86 : decode cX6_reason 86 = .ok (.aload_n 0, 1) := by decide +kernel
theorem dX6_reason_87 : decode cX6_reason 87 = .ok (.iconst 0, 1) := by decide +kernel
theorem dX6_reason_88 : decode cX6_reason 88 = .ok (.invokevirtual 72, 3) := by decide +kernel
theorem dX6_reason_91 : decode cX6_reason 91 = .ok (.if_icmp .le 5, 3) := by decide +kernel
theorem dX6_reason_94 : decode cX6_reason 94 = .ok (.iconst 2, 1) := by decide +kernel
theorem dX6_reason_95 : decode cX6_reason 95 = .ok (.ireturn, 1) := by decide +kernel
theorem dX6_reason_96 : decode cX6_reason 96 = .ok (.aload_n 0, 1) := by decide +kernel
theorem dX6_reason_97 : decode cX6_reason 97 = .ok (.iload 5, 2) := by decide +kernel
theorem dX6_reason_99 : decode cX6_reason 99 = .ok (.invokevirtual 98, 3) := by decide +kernel
theorem dX6_reason_102 : decode cX6_reason 102 = .ok (.aload_n 0, 1) := by decide +kernel
theorem dX6_reason_103 : decode cX6_reason 103 = .ok (.iload 5, 2) := by decide +kernel
theorem dX6_reason_105 : decode cX6_reason 105 = .ok (.invokevirtual 101, 3) := by decide +kernel
theorem dX6_reason_108 : decode cX6_reason 108 = .ok (.if_icmp .lt 5, 3) := by decide +kernel
theorem dX6_reason_111 : decode cX6_reason 111 = .ok (.iconst 3, 1) := by decide +kernel
theorem dX6_reason_112 : decode cX6_reason 112 = .ok (.ireturn, 1) := by decide +kernel
theorem dX6_reason_113 : decode cX6_reason 113 = .ok (.aload_n 0, 1) := by decide +kernel
theorem dX6_reason_114 : decode cX6_reason 114 = .ok (.iload_n 2, 1) := by decide +kernel
theorem dX6_reason_115 : decode cX6_reason 115 = .ok (.invokevirtual 89, 3) := by decide +kernel
theorem dX6_reason_118 : decode cX6_reason 118 = .ok (.ifCond .eq 12, 3) := by decide +kernel
theorem dX6_reason_121 : decode cX6_reason 121 = .ok (.aload_n 0, 1) := by decide +kernel
theorem dX6_reason_122 : decode cX6_reason 122 = .ok (.iload 5, 2) := by decide +kernel
theorem dX6_reason_124 : decode cX6_reason 124 = .ok (.invokevirtual 89, 3) := by decide +kernel
theorem dX6_reason_127 : decode cX6_reason 127 = .ok (.ifCond .eq 5, 3) := by decide +kernel
theorem dX6_reason_130 : decode cX6_reason 130 = .ok (.iconst 0, 1) := by decide +kernel
theorem dX6_reason_131 : decode cX6_reason 131 = .ok (.ireturn, 1) := by decide +kernel
theorem dX6_reason_132 : decode cX6_reason 132 = .ok (.iload 5, 2) := by decide +kernel
theorem dX6_reason_134 : decode cX6_reason 134 = .ok (.istore 6, 2) := by decide +kernel
theorem dX6_reason_136 : decode cX6_reason 136 = .ok (.aload_n 0, 1) := by decide +kernel
theorem dX6_reason_137 : decode cX6_reason 137 = .ok (.iload 6, 2) := by decide +kernel
theorem dX6_reason_139 : decode cX6_reason 139 = .ok (.invokevirtual 89, 3) := by decide +kernel
theorem dX6_reason_142 : decode cX6_reason 142 = .ok (.ifCond .ne 13, 3) := by decide +kernel
theorem dX6_reason_145 : decode cX6_reason 145 = .ok (.iload 6, 2) := by decide +kernel
theorem dX6_reason_147 : decode cX6_reason 147 = .ok (.iload 4, 2) := by decide +kernel
theorem dX6_reason_149 : decode cX6_reason 149 = .ok (.iadd, 1) := by decide +kernel
theorem dX6_reason_150 : decode cX6_reason 150 = .ok (.istore 6, 2) := by decide +kernel
theorem dX6_reason_152 : decode cX6_reason 152 = .ok (.goto (-16), 3) := by decide +kernel
theorem dX6_reason_155 : decode cX6_reason 155 = .ok (.aload_n 0, 1) := by decide +kernel
theorem dX6_reason_156 : decode cX6_reason 156 = .ok (.iload_n 2, 1) := by decide +kernel
theorem dX6_reason_157 : decode cX6_reason 157 = .ok (.iload 6, 2) := by decide +kernel
theorem dX6_reason_159 : decode cX6_reason 159 = .ok (.iconst 1, 1) := by decide +kernel
theorem dX6_reason_160 : decode cX6_reason 160 = .ok (.iload_n 3, 1) := by decide +kernel
theorem dX6_reason_161 : decode cX6_reason 161 = .ok (.isub, 1) := by decide +kernel
theorem dX6_reason_162 : decode cX6_reason 162 = .ok (.invokevirtual 104, 3) := by decide +kernel
theorem dX6_reason_165 : decode cX6_reason 165 = .ok (.ifCond .le 5, 3) := by decide +kernel
theorem dX6_reason_168 : decode cX6_reason 168 = .ok (.iconst 4, 1) := by decide +kernel
theorem dX6_reason_169 : decode cX6_reason 169 = .ok (.ireturn, 1) := by decide +kernel
theorem dX6_reason_170 : decode cX6_reason 170 = .ok (.aload_n 0, 1) := by decide +kernel
theorem dX6_reason_171 : decode cX6_reason 171 = .ok (.iload 6, 2) := by decide +kernel
theorem dX6_reason_173 : decode cX6_reason 173 = .ok (.invokevirtual 86, 3) := by decide +kernel
theorem dX6_reason_176 : decode cX6_reason 176 = .ok (.ifCond .ne 31, 3) := by decide +kernel
theorem dX6_reason_179 : decode cX6_reason 179 = .ok (.aload_n 0, 1) := by decide +kernel
theorem dX6_reason_180 : decode cX6_reason 180 = .ok (.iload 6, 2) := by decide +kernel
theorem dX6_reason_182 : decode cX6_reason 182 = .ok (.invokevirtual 98, 3) := by decide +kernel
theorem dX6_reason_185 : decode cX6_reason 185 = .ok (.aload_n 0, 1) := by decide +kernel
theorem dX6_reason_186 : decode cX6_reason 186 = .ok (.iload_n 2, 1) := by decide +kernel
theorem dX6_reason_187 : decode cX6_reason 187 = .ok (.iload 6, 2) := by decide +kernel
theorem dX6_reason_189 : decode cX6_reason 189 = .ok (.iload_n 3, 1) := by decide +kernel
theorem dX6_reason_190 : decode cX6_reason 190 = .ok (.invokevirtual 104, 3) := by decide +kernel
theorem dX6_reason_193 : decode cX6_reason 193 = .ok (.iadd, 1) := by decide +kernel
theorem dX6_reason_194 : decode cX6_reason 194 = .ok (.aload_n 0, 1) := by decide +kernel
theorem dX6_reason_195 : decode cX6_reason 195 = .ok (.iload 6, 2) := by decide +kernel
theorem dX6_reason_197 : decode cX6_reason 197 = .ok (.invokevirtual 101, 3) := by decide +kernel
theorem dX6_reason_200 : decode cX6_reason 200 = .ok (.if_icmp .lt 7, 3) := by decide +kernel
theorem dX6_reason_203 : decode cX6_reason 203 = .ok (.iconst 1, 1) := by decide +kernel
theorem dX6_reason_204 : decode cX6_reason 204 = .ok (.goto 4, 3) := by decide +kernel
theorem dX6_reason_207 : decode cX6_reason 207 = .ok (.iconst 0, 1) := by decide +kernel
theorem dX6_reason_208 : decode cX6_reason 208 = .ok (.istore 7, 2) := by decide +kernel
theorem dX6_reason_210 : decode cX6_reason 210 = .ok (.iload 7, 2) := by decide +kernel
theorem dX6_reason_212 : decode cX6_reason 212 = .ok (.ifCond .eq 7, 3) := by decide +kernel
theorem dX6_reason_215 : decode cX6_reason 215 = .ok (.iconst 5, 1) := by decide +kernel
theorem dX6_reason_216 : decode cX6_reason 216 = .ok (.goto 4, 3) := by decide +kernel
theorem dX6_reason_219 : decode cX6_reason 219 = .ok (.iconst 0, 1) := by decide +kernel
theorem dX6_reason_220 : decode cX6_reason 220 = .ok (.ireturn, 1) := by decide +kernel
theorem dX6_turn_0 : decode cX6_turn 0 = .ok (.aload_n 0, 1) := by decide +kernel
theorem dX6_turn_1 : decode cX6_turn 1 = .ok (.iload_n 1, 1) := by decide +kernel
theorem dX6_turn_2 : decode cX6_turn 2 = .ok (.iconst 5, 1) := by decide +kernel
theorem dX6_turn_3 : decode cX6_turn 3 = .ok (.invokevirtual 58, 3) := by decide +kernel
theorem dX6_turn_6 : decode cX6_turn 6 = .ok (.istore_n 2, 1) := by decide +kernel
theorem dX6_turn_7 : decode cX6_turn 7 = .ok (.iload_n 2, 1) := by decide +kernel
theorem dX6_turn_8 : decode cX6_turn 8 = .ok (.ifCond .le 7, 3) := by decide +kernel
theorem dX6_turn_11 : decode cX6_turn 11 = .ok (.iconst 0, 1) := by decide +kernel
theorem dX6_turn_12 : decode cX6_turn 12 = .ok (.goto 8, 3) := by decide +kernel
theorem dX6_turn_15 : decode cX6_turn 15 = .ok (.aload_n 0, 1) := by decide +kernel
theorem dX6_turn_16 : decode cX6_turn 16 = .ok (.iload_n 1, 1) := by decide +kernel
theorem dX6_turn_17 : decode cX6_turn 17 = .ok (.invokevirtual 108, 3) := by decide +kernel
theorem dX6_turn_20 : decode cX6_turn 20 = .ok (.istore_n 3, 1) := by decide +kernel
theorem dX6_turn_21 : decode cX6_turn 21 = .ok (.aload_n 0, 1) := by decide +kernel
theorem dX6_turn_22 : decode cX6_turn 22 = .ok (.iload_n 1, 1) := by decide +kernel
theorem dX6_turn_23 : decode cX6_turn 23 = .ok (.bipush 6, 2) := by decide +kernel
theorem dX6_turn_25 : decode cX6_turn 25 = .ok (.iload_n 3, 1) := by decide +kernel
theorem dX6_turn_26 : decode cX6_turn 26 = .ok (.invokevirtual 76, 3) := by decide +kernel
theorem dX6_turn_29 : decode cX6_turn 29 = .ok (.aload_n 0, 1) := by decide +kernel
theorem dX6_turn_30 : decode cX6_turn 30 = .ok (.iload_n 1, 1) := by decide +kernel
theorem dX6_turn_31 : decode cX6_turn 31 = .ok (.bipush 7, 2) := by decide +kernel
theorem dX6_turn_33 : decode cX6_turn 33 = .ok (.aload_n 0, 1) := by decide +kernel
theorem dX6_turn_34 : decode cX6_turn 34 = .ok (.iload_n 1, 1) := by decide +kernel
theorem dX6_turn_35 : decode cX6_turn 35 = .ok (.bipush 7, 2) := by decide +kernel
theorem dX6_turn_37 : decode cX6_turn 37 = .ok (.invokevirtual 58, 3) := by decide +kernel
theorem dX6_turn_40 : decode cX6_turn 40 = .ok (.iload_n 3, 1) := by decide +kernel
theorem dX6_turn_41 : decode cX6_turn 41 = .ok (.ifCond .le 7, 3) := by decide +kernel
theorem dX6_turn_44 : decode cX6_turn 44 = .ok (.iconst 1, 1) := by decide +kernel
theorem dX6_turn_45 : decode cX6_turn 45 = .ok (.goto 4, 3) := by decide +kernel
theorem dX6_turn_48 : decode cX6_turn 48 = .ok (.iconst 0, 1) := by decide +kernel
theorem dX6_turn_49 : decode cX6_turn 49 = .ok (.iadd, 1) := by decide +kernel
theorem dX6_turn_50 : decode cX6_turn 50 = .ok (.invokevirtual 76, 3) := by decide +kernel
theorem dX6_turn_53 : decode cX6_turn 53 = .ok (.iload_n 2, 1) := by decide +kernel
theorem dX6_turn_54 : decode cX6_turn 54 = .ok (.ifCond .le 15, 3) := by decide +kernel
theorem dX6_turn_57 : decode cX6_turn 57 = .ok (.aload_n 0, 1) := by decide +kernel
theorem dX6_turn_58 : decode cX6_turn 58 = .ok (.iload_n 1, 1) := by decide +kernel
theorem dX6_turn_59 : decode cX6_turn 59 = .ok (.iconst 5, 1) := by decide +kernel
theorem dX6_turn_60 : decode cX6_turn 60 = .ok (.iload_n 2, 1) := by decide +kernel
theorem dX6_turn_61 : decode cX6_turn 61 = .ok (.iconst 1, 1) := by decide +kernel
theorem dX6_turn_62 : decode cX6_turn 62 = .ok (.isub, 1) := by decide +kernel
theorem dX6_turn_63 : decode cX6_turn 63 = .ok (.invokevirtual 76, 3) := by decide +kernel
theorem dX6_turn_66 : decode cX6_turn 66 = .ok (.goto 12, 3) := by decide +kernel
theorem dX6_turn_69 : decode cX6_turn 69 = .ok (.iload_n 3, 1) := by decide +kernel
theorem dX6_turn_70 : decode cX6_turn 70 = .ok (.ifCond .ne 8, 3) := by decide +kernel
theorem dX6_turn_73 : decode cX6_turn 73 = .ok (.aload_n 0, 1) := by decide +kernel
theorem dX6_turn_74 : decode cX6_turn 74 = .ok (.iload_n 1, 1) := by decide +kernel
theorem dX6_turn_75 : decode cX6_turn 75 = .ok (.invokevirtual 111, 3) := by decide +kernel
theorem dX6_turn_78 : decode cX6_turn 78 = .ok (.return_, 1) := by decide +kernel
theorem dX6_go_0 : decode cX6_go 0 = .ok (.aload_n 0, 1) := by decide +kernel
theorem dX6_go_1 : decode cX6_go 1 = .ok (.iload_n 1, 1) := by decide +kernel
theorem dX6_go_2 : decode cX6_go 2 = .ok (.iconst 3, 1) := by decide +kernel
theorem dX6_go_3 : decode cX6_go 3 = .ok (.invokevirtual 58, 3) := by decide +kernel
theorem dX6_go_6 : decode cX6_go 6 = .ok (.istore_n 2, 1) := by decide +kernel
theorem dX6_go_7 : decode cX6_go 7 = .ok (.aload_n 0, 1) := by decide +kernel
theorem dX6_go_8 : decode cX6_go 8 = .ok (.iload_n 1, 1) := by decide +kernel
theorem dX6_go_9 : decode cX6_go 9 = .ok (.iconst 4, 1) := by decide +kernel
theorem dX6_go_10 : decode cX6_go 10 = .ok (.invokevirtual 58, 3) := by decide +kernel
theorem dX6_go_13 : decode cX6_go 13 = .ok (.iconst 1, 1) := by decide +kernel
theorem dX6_go_14 : decode cX6_go 14 = .ok (.if_icmp .ne 7, 3) := by decide +kernel
theorem dX6_go_17 : decode cX6_go 17 = .ok (.iconst 1, 1) := by decide +kernel
theorem dX6_go_18 : decode cX6_go 18 = .ok (.goto 4, 3) := by decide +kernel
theorem dX6_go_21 : decode cX6_go 21 = .ok (.iconst 0, 1) := by decide +kernel
theorem dX6_go_22 : decode cX6_go 22 = .ok (.istore_n 3, 1) := by decide +kernel
theorem dX6_go_23 : decode cX6_go 23 = .ok (.iload_n 3, 1) := by decide +kernel
theorem dX6_go_24 : decode cX6_go 24 = .ok (.ifCond .eq 77, 3) := by decide +kernel
theorem dX6_go_27 : decode cX6_go 27 = .ok (.iload_n 2, 1) := by decide +kernel
theorem dX6_go_28 : decode cX6_go 28 = .ok (.aload_n 0, 1) := by decide +kernel
theorem dX6_go_29 : decode cX6_go 29 = .ok (.getfield 7, 3) := by decide +kernel
theorem dX6_go_32 : decode cX6_go 32 = .ok (.bipush 72, 2) := by decide +kernel
theorem dX6_go_34 : decode cX6_go 34 = .ok (.iaload, 1) := by decide +kernel
theorem dX6_go_35 : decode cX6_go 35 = .ok (.iconst 1, 1) := by decide +kernel
theorem dX6_go_36 : decode cX6_go 36 = .ok (.isub, 1) := by decide +kernel
theorem dX6_go_37 : decode cX6_go 37 = .ok (.if_icmp .ne 64, 3) := by decide +kernel
theorem dX6_go_40 : decode cX6_go 40 = .ok (.aload_n 0, 1) := by decide +kernel
theorem dX6_go_41 : decode cX6_go 41 = .ok (.getfield 7, 3) := by decide +kernel
theorem dX6_go_44 : decode cX6_go 44 = .ok (.bipush 80, 2) := by decide +kernel
theorem dX6_go_46 : decode cX6_go 46 = .ok (.dup2, 1) := by decide +kernel
theorem dX6_go_47 : decode cX6_go 47 = .ok (.iaload, 1) := by decide +kernel
theorem dX6_go_48 : decode cX6_go 48 = .ok (.aload_n 0, 1) := by decide +kernel
theorem dX6_go_49 : decode cX6_go 49 = .ok (.iload_n 1, 1) := by decide +kernel
theorem dX6_go_50 : decode cX6_go 50 = .ok (.iconst 2, 1) := by decide +kernel
theorem dX6_go_51 : decode cX6_go 51 = .ok (.invokevirtual 58, 3) := by decide +kernel
theorem dX6_go_54 : decode cX6_go 54 = .ok (.iadd, 1) := by decide +kernel
theorem dX6_go_55 : decode cX6_go 55 = .ok (.iastore, 1) := by decide +kernel
theorem dX6_go_56 : decode cX6_go 56 = .ok (.aload_n 0, 1) := by decide +kernel
theorem dX6_go_57 : decode cX6_go 57 = .ok (.iload_n 1, 1) := by decide +kernel
theorem dX6_go_58 : decode cX6_go 58 = .ok (.iconst 2, 1) := by decide +kernel
theorem dX6_go_59 : decode cX6_go 59 = .ok (.iconst 0, 1) := by decide +kernel
theorem dX6_go_60 : decode cX6_go 60 = .ok (.invokevirtual 76, 3) := by decide +kernel
theorem dX6_go_63 : decode cX6_go 63 = .ok (.aload_n 0, 1) := by decide +kernel
theorem dX6_go_64 : decode cX6_go 64 = .ok (.iload_n 1, 1) := by decide +kernel
theorem dX6_go_65 : decode cX6_go 65 = .ok (.iconst 4, 1) := by decide +kernel
theorem dX6_go_66 : decode cX6_go 66 = .ok (.iconst 0, 1) := by decide +kernel
theorem dX6_go_67 : decode cX6_go 67 = .ok (.invokevirtual 76, 3) := by decide +kernel
theorem dX6_go_70 : decode cX6_go 70 = .ok (.aload_n 0, 1) := by decide +kernel
theorem dX6_go_71 : decode cX6_go 71 = .ok (.iload_n 1, 1) := by decide +kernel
theorem dX6_go_72 : decode cX6_go 72 = .ok (.iconst 5, 1) := by decide +kernel
theorem dX6_go_73 : decode cX6_go 73 = .ok (.aload_n 0, 1) := by decide +kernel
theorem dX6_go_74 : decode cX6_go 74 = .ok (.iload_n 1, 1) := by decide +kernel
theorem dX6_go_75 : decode cX6_go 75 = .ok (.iconst 0, 1) := by decide +kernel
theorem dX6_go_76 : decode cX6_go 76 = .ok (.invokevirtual 58, 3) := by decide +kernel
theorem dX6_go_79 : decode cX6_go 79 = .ok (.invokevirtual 76, 3) := by decide +kernel
theorem dX6_go_82 : decode cX6_go 82 = .ok (.aload_n 0, 1) := by decide +kernel
theorem dX6_go_83 : decode cX6_go 83 = .ok (.iload_n 1, 1) := by decide +kernel
theorem dX6_go_84 : decode cX6_go 84 = .ok (.bipush 8, 2) := by decide +kernel
theorem dX6_go_86 : decode cX6_go 86 = .ok (.aload_n 0, 1) := by decide +kernel
theorem dX6_go_87 : decode cX6_go 87 = .ok (.iload_n 1, 1) := by decide +kernel
theorem dX6_go_88 : decode cX6_go 88 = .ok (.bipush 8, 2) := by decide +kernel
theorem dX6_go_90 : decode cX6_go 90 = .ok (.invokevirtual 58, 3) := by decide +kernel
theorem dX6_go_93 : decode cX6_go 93 = .ok (.iconst 1, 1) := by decide +kernel
theorem dX6_go_94 : decode cX6_go 94 = .ok (.iadd, 1) := by decide +kernel
theorem dX6_go_95 : decode cX6_go 95 = .ok (.invokevirtual 76, 3) := by decide +kernel
theorem dX6_go_98 : decode cX6_go 98 = .ok (.goto 100, 3) := by decide +kernel
theorem dX6_go_101 : decode cX6_go 101 = .ok (.iload_n 3, 1) := by decide +kernel
theorem dX6_go_102 : decode cX6_go 102 = .ok (.ifCond .ne 55, 3) := by decide +kernel
theorem dX6_go_105 : decode cX6_go 105 = .ok (.iload_n 2, 1) := by decide +kernel
theorem dX6_go_106 : decode cX6_go 106 = .ok (.ifCond .ne 51, 3) := by decide +kernel
theorem dX6_go_109 : decode cX6_go 109 = .ok (.aload_n 0, 1) := by decide +kernel
theorem dX6_go_110 : decode cX6_go 110 = .ok (.getfield 7, 3) := by decide +kernel
theorem dX6_go_113 : decode cX6_go 113 = .ok (.bipush 79, 2) := by decide +kernel
theorem dX6_go_115 : decode cX6_go 115 = .ok (.dup2, 1) := by decide +kernel
theorem dX6_go_116 : decode cX6_go 116 = .ok (.iaload, 1) := by decide +kernel
theorem dX6_go_117 : decode cX6_go 117 = .ok (.aload_n 0, 1) := by decide +kernel
theorem dX6_go_118 : decode cX6_go 118 = .ok (.iload_n 1, 1) := by decide +kernel
theorem dX6_go_119 : decode cX6_go 119 = .ok (.invokevirtual 95, 3) := by decide +kernel
theorem dX6_go_122 : decode cX6_go 122 = .ok (.isub, 1) := by decide +kernel
theorem dX6_go_123 : decode cX6_go 123 = .ok (.iastore, 1) := by decide +kernel
theorem dX6_go_124 : decode cX6_go 124 = .ok (.aload_n 0, 1) := by decide +kernel
theorem dX6_go_125 : decode cX6_go 125 = .ok (.iload_n 1, 1) := by decide +kernel
theorem dX6_go_126 : decode cX6_go 126 = .ok (.iconst 2, 1) := by decide +kernel
theorem dX6_go_127 : decode cX6_go 127 = .ok (.aload_n 0, 1) := by decide +kernel
theorem dX6_go_128 : decode cX6_go 128 = .ok (.iload_n 1, 1) := by decide +kernel
theorem dX6_go_129 : decode cX6_go 129 = .ok (.invokevirtual 95, 3) := by decide +kernel
theorem dX6_go_132 : decode cX6_go 132 = .ok (.invokevirtual 76, 3) := by decide +kernel
theorem dX6_go_135 : decode cX6_go 135 = .ok (.aload_n 0, 1) := by decide +kernel
theorem dX6_go_136 : decode cX6_go 136 = .ok (.iload_n 1, 1) := by decide +kernel
theorem dX6_go_137 : decode cX6_go 137 = .ok (.iconst 4, 1) := by decide +kernel
theorem dX6_go_138 : decode cX6_go 138 = .ok (.iconst 1, 1) := by decide +kernel
theorem dX6_go_139 : decode cX6_go 139 = .ok (.invokevirtual 76, 3) := by decide +kernel
theorem dX6_go_142 : decode cX6_go 142 = .ok (.aload_n 0, 1) := by decide +kernel
theorem dX6_go_143 : decode cX6_go 143 = .ok (.iload_n 1, 1) := by decide +kernel
theorem dX6_go_144 : decode cX6_go 144 = .ok (.iconst 5, 1) := by decide +kernel
theorem dX6_go_145 : decode cX6_go 145 = .ok (.aload_n 0, 1) := by decide +kernel
theorem dX6_go_146 : decode cX6_go 146 = .ok (.iload_n 1, 1) := by decide +kernel
theorem dX6_go_147 : decode cX6_go 147 = .ok (.iconst 0, 1) := by decide +kernel
theorem dX6_go_148 : decode cX6_go 148 = .ok (.invokevirtual 58, 3) := by decide +kernel
theorem dX6_go_151 : decode cX6_go 151 = .ok (.invokevirtual 76, 3) := by decide +kernel
theorem dX6_go_154 : decode cX6_go 154 = .ok (.goto 44, 3) := by decide +kernel
theorem dX6_go_157 : decode cX6_go 157 = .ok (.iload_n 3, 1) := by decide +kernel
theorem dX6_go_158 : decode cX6_go 158 = .ok (.ifCond .eq 9, 3) := by decide +kernel
theorem dX6_go_161 : decode cX6_go 161 = .ok (.iload_n 2, 1) := by decide +kernel
theorem dX6_go_162 : decode cX6_go 162 = .ok (.iconst 1, 1) := by decide +kernel
theorem dX6_go_163 : decode cX6_go 163 = .ok (.iadd, 1) := by decide +kernel
theorem dX6_go_164 : decode cX6_go 164 = .ok (.goto 6, 3) := by decide +kernel
theorem dX6_go_167 : decode cX6_go 167 = .ok (.iload_n 2, 1) := by decide +kernel
theorem dX6_go_168 : decode cX6_go 168 = .ok (.iconst 1, 1) := by decide +kernel
theorem dX6_go_169 : decode cX6_go 169 = .ok (.isub, 1) := by decide +kernel
theorem dX6_go_170 : decode cX6_go 170 = .ok (.istore 4, 2) := by decide +kernel
theorem dX6_go_172 : decode cX6_go 172 = .ok (.aload_n 0, 1) := by decide +kernel
theorem dX6_go_173 : decode cX6_go 173 = .ok (.iload_n 1, 1) := by decide +kernel
theorem dX6_go_174 : decode cX6_go 174 = .ok (.iconst 3, 1) := by decide +kernel
theorem dX6_go_175 : decode cX6_go 175 = .ok (.iload 4, 2) := by decide +kernel
theorem dX6_go_177 : decode cX6_go 177 = .ok (.invokevirtual 76, 3) := by decide +kernel
theorem dX6_go_180 : decode cX6_go 180 = .ok (.aload_n 0, 1) := by decide +kernel
theorem dX6_go_181 : decode cX6_go 181 = .ok (.iload_n 1, 1) := by decide +kernel
theorem dX6_go_182 : decode cX6_go 182 = .ok (.iconst 5, 1) := by decide +kernel
theorem dX6_go_183 : decode cX6_go 183 = .ok (.iconst 1, 1) := by decide +kernel
theorem dX6_go_184 : decode cX6_go 184 = .ok (.aload_n 0, 1) := by decide +kernel
theorem dX6_go_185 : decode cX6_go 185 = .ok (.iload 4, 2) := by decide +kernel
theorem dX6_go_187 : decode cX6_go 187 = .ok (.iconst 2, 1) := by decide +kernel
theorem dX6_go_188 : decode cX6_go 188 = .ok (.invokevirtual 83, 3) := by decide +kernel
theorem dX6_go_191 : decode cX6_go 191 = .ok (.bipush 100, 2) := by decide +kernel
theorem dX6_go_193 : decode cX6_go 193 = .ok (.idiv, 1) := by decide +kernel
theorem dX6_go_194 : decode cX6_go 194 = .ok (.iadd, 1) := by decide +kernel
theorem dX6_go_195 : decode cX6_go 195 = .ok (.invokevirtual 76, 3) := by decide +kernel
theorem dX6_go_198 : decode cX6_go 198 = .ok (.return_, 1) := by decide +kernel
theorem dX6_sink_0 : decode cX6_sink 0 = .ok (.iconst 0, 1) := by decide +kernel
theorem dX6_sink_1 : decode cX6_sink 1 = .ok (.istore_n 1, 1) := by decide +kernel
theorem dX6_sink_2 : decode cX6_sink 2 = .ok (.iload_n 1, 1) := by decide +kernel
theorem dX6_sink_3 : decode cX6_sink 3 = .ok (.aload_n 0, 1) := by decide +kernel
theorem dX6_sink_4 : decode cX6_sink 4 = .ok (.getfield 7, 3) := by decide +kernel
theorem dX6_sink_7 : decode cX6_sink 7 = .ok (.bipush 72, 2) := by decide +kernel
theorem dX6_sink_9 : decode cX6_sink 9 = .ok (.iaload, 1) := by decide +kernel
theorem dX6_sink_10 : decode cX6_sink 10 = .ok (.if_icmp .ge 91, 3) := by decide +kernel
theorem dX6_sink_13 : decode cX6_sink 13 = .ok (.aload_n 0, 1) := by decide +kernel
theorem dX6_sink_14 : decode cX6_sink 14 = .ok (.iload_n 1, 1) := by decide +kernel
theorem dX6_sink_15 : decode cX6_sink 15 = .ok (.iconst 2, 1) := by decide +kernel
theorem dX6_sink_16 : decode cX6_sink 16 = .ok (.invokevirtual 83, 3) := by decide +kernel
theorem dX6_sink_19 : decode cX6_sink 19 = .ok (.istore_n 2, 1) := by decide +kernel
theorem dX6_sink_20 : decode cX6_sink 20 = .ok (.aload_n 0, 1) := by decide +kernel
theorem dX6_sink_21 : decode cX6_sink 21 = .ok (.iload_n 1, 1) := by decide +kernel
theorem dX6_sink_22 : decode cX6_sink 22 = .ok (.invokevirtual 98, 3) := by decide +kernel
theorem dX6_sink_25 : decode cX6_sink 25 = .ok (.ifCond .ne 12, 3) := by decide +kernel
theorem dX6_sink_28 : decode cX6_sink 28 = .ok (.aload_n 0, 1) := by decide +kernel
theorem dX6_sink_29 : decode cX6_sink 29 = .ok (.iconst 1, 1) := by decide +kernel
theorem dX6_sink_30 : decode cX6_sink 30 = .ok (.invokevirtual 72, 3) := by decide +kernel
theorem dX6_sink_33 : decode cX6_sink 33 = .ok (.ineg, 1) := by decide +kernel
theorem dX6_sink_34 : decode cX6_sink 34 = .ok (.goto 18, 3) := by decide +kernel
theorem dX6_sink_37 : decode cX6_sink 37 = .ok (.aload_n 0, 1) := by decide +kernel
theorem dX6_sink_38 : decode cX6_sink 38 = .ok (.iload_n 1, 1) := by decide +kernel
theorem dX6_sink_39 : decode cX6_sink 39 = .ok (.invokevirtual 115, 3) := by decide +kernel
theorem dX6_sink_42 : decode cX6_sink 42 = .ok (.aload_n 0, 1) := by decide +kernel
theorem dX6_sink_43 : decode cX6_sink 43 = .ok (.iload_n 1, 1) := by decide +kernel
theorem dX6_sink_44 : decode cX6_sink 44 = .ok (.iconst 0, 1) := by decide +kernel
theorem dX6_sink_45 : decode cX6_sink 45 = .ok (.invokevirtual 83, 3) := by decide +kernel
theorem dX6_sink_48 : decode cX6_sink 48 = .ok (.imul, 1) := by decide +kernel
theorem dX6_sink_49 : decode cX6_sink 49 = .ok (.bipush 10, 2) := by decide +kernel
theorem dX6_sink_51 : decode cX6_sink 51 = .ok (.idiv, 1) := by decide +kernel
theorem dX6_sink_52 : decode cX6_sink 52 = .ok (.istore_n 3, 1) := by decide +kernel
theorem dX6_sink_53 : decode cX6_sink 53 = .ok (.iload_n 2, 1) := by decide +kernel
theorem dX6_sink_54 : decode cX6_sink 54 = .ok (.iload_n 3, 1) := by decide +kernel
theorem dX6_sink_55 : decode cX6_sink 55 = .ok (.iadd, 1) := by decide +kernel
theorem dX6_sink_56 : decode cX6_sink 56 = .ok (.istore 4, 2) := by decide +kernel
theorem dX6_sink_58 : decode cX6_sink 58 = .ok (.aload_n 0, 1) := by decide +kernel
theorem dX6_sink_59 : decode cX6_sink 59 = .ok (.getfield 7, 3) := by decide +kernel
theorem dX6_sink_62 : decode cX6_sink 62 = .ok (.iconst 0, 1) := by decide +kernel
theorem dX6_sink_63 : decode cX6_sink 63 = .ok (.iconst 3, 1) := by decide +kernel
theorem dX6_sink_64 : decode cX6_sink 64 = .ok (.iload_n 1, 1) := by decide +kernel
theorem dX6_sink_65 : decode cX6_sink 65 = .ok (.imul, 1) := by decide +kernel
theorem dX6_sink_66 : decode cX6_sink 66 = .ok (.iadd, 1) := by decide +kernel
theorem dX6_sink_67 : decode cX6_sink 67 = .ok (.iconst 2, 1) := by decide +kernel
theorem dX6_sink_68 : decode cX6_sink 68 = .ok (.iadd, 1) := by decide +kernel
theorem dX6_sink_69 : decode cX6_sink 69 = .ok (.iload 4, 2) := by decide +kernel
theorem dX6_sink_71 : decode cX6_sink 71 = .ok (.ifCond .ge 7, 3) := by decide +kernel
theorem dX6_sink_74 : decode cX6_sink 74 = .ok (.iconst 0, 1) := by decide +kernel
theorem dX6_sink_75 : decode cX6_sink 75 = .ok (.goto 19, 3) := by decide +kernel
theorem dX6_sink_78 : decode cX6_sink 78 = .ok (.iload 4, 2) := by decide +kernel
theorem dX6_sink_80 : decode cX6_sink 80 = .ok (.sipush 999, 3) := by decide +kernel
theorem dX6_sink_83 : decode cX6_sink 83 = .ok (.if_icmp .le 9, 3) := by decide +kernel
theorem dX6_sink_86 : decode cX6_sink 86 = .ok (.sipush 999, 3) := by decide +kernel
theorem dX6_sink_89 : decode cX6_sink 89 = .ok (.goto 5, 3) := by decide +kernel
theorem dX6_sink_92 : decode cX6_sink 92 = .ok (.iload 4, 2) := by decide +kernel
theorem dX6_sink_94 : decode cX6_sink 94 = .ok (.iastore, 1) := by decide +kernel
theorem dX6_sink_95 : decode cX6_sink 95 = .ok (.iinc 1 1, 3) := by decide +kernel
theorem dX6_sink_98 : decode cX6_sink 98 = .ok (.goto (-96), 3) := by decide +kernel
theorem dX6_sink_101 : decode cX6_sink 101 = .ok (.return_, 1) := by decide +kernel
theorem dX6_tick_0 : decode cX6_tick 0 = .ok (.iconst 0, 1) := by decide +kernel
theorem dX6_tick_1 : decode cX6_tick 1 = .ok (.istore_n 1, 1) := by decide +kernel
theorem dX6_tick_2 : decode cX6_tick 2 = .ok (.iconst 0, 1) := by decide +kernel
theorem dX6_tick_3 : decode cX6_tick 3 = .ok (.istore_n 2, 1) := by decide +kernel
theorem dX6_tick_4 : decode cX6_tick 4 = .ok (.iload_n 2, 1) := by decide +kernel
theorem dX6_tick_5 : decode cX6_tick 5 = .ok (.aload_n 0, 1) := by decide +kernel
theorem dX6_tick_6 : decode cX6_tick 6 = .ok (.getfield 7, 3) := by decide +kernel
theorem dX6_tick_9 : decode cX6_tick 9 = .ok (.bipush 73, 2) := by decide +kernel
theorem dX6_tick_11 : decode cX6_tick 11 = .ok (.iaload, 1) := by decide +kernel
theorem dX6_tick_12 : decode cX6_tick 12 = .ok (.if_icmp .ge 20, 3) := by decide +kernel
theorem dX6_tick_15 : decode cX6_tick 15 = .ok (.iload_n 1, 1) := by decide +kernel
theorem dX6_tick_16 : decode cX6_tick 16 = .ok (.aload_n 0, 1) := by decide +kernel
theorem dX6_tick_17 : decode cX6_tick 17 = .ok (.iload_n 2, 1) := by decide +kernel
theorem dX6_tick_18 : decode cX6_tick 18 = .ok (.iconst 4, 1) := by decide +kernel
theorem dX6_tick_19 : decode cX6_tick 19 = .ok (.invokevirtual 58, 3) := by decide +kernel
theorem dX6_tick_22 : decode cX6_tick 22 = .ok (.iload_n 2, 1) := by decide +kernel
theorem dX6_tick_23 : decode cX6_tick 23 = .ok (.ishl, 1) := by decide +kernel
theorem dX6_tick_24 : decode cX6_tick 24 = .ok (.ior, 1) := by decide +kernel
theorem dX6_tick_25 : decode cX6_tick 25 = .ok (.istore_n 1, 1) := by decide +kernel
theorem dX6_tick_26 : decode cX6_tick 26 = .ok (.iinc 2 1, 3) := by decide +kernel
theorem dX6_tick_29 : decode cX6_tick 29 = .ok (.goto (-25), 3) := by decide +kernel
theorem dX6_tick_32 : decode cX6_tick 32 = .ok (.aload_n 0, 1) := by decide +kernel
theorem dX6_tick_33 : decode cX6_tick 33 = .ok (.iconst 2, 1) := by decide +kernel
theorem dX6_tick_34 : decode cX6_tick 34 = .ok (.invokevirtual 72, 3) := by decide +kernel
theorem dX6_tick_37 : decode cX6_tick 37 = .ok (.istore_n 2, 1) := by decide +kernel
theorem dX6_tick_38 : decode cX6_tick 38 = .ok (.iconst 0, 1) := by decide +kernel
theorem dX6_tick_39 : decode cX6_tick 39 = .ok (.istore_n 3, 1) := by decide +kernel
theorem dX6_tick_40 : decode cX6_tick 40 = .ok (.iload_n 3, 1) := by decide +kernel
theorem dX6_tick_41 : decode cX6_tick 41 = .ok (.iconst 2, 1) := by decide +kernel
theorem dX6_tick_42 : decode cX6_tick 42 = .ok (.if_icmp .ge 76, 3) := by decide +kernel
theorem dX6_tick_45 : decode cX6_tick 45 = .ok (.iconst 0, 1) := by decide +kernel
theorem dX6_tick_46 : decode cX6_tick 46 = .ok (.istore 4, 2) := by decide +kernel
theorem dX6_tick_48 : decode cX6_tick 48 = .ok (.iload 4, 2) := by decide +kernel
theorem dX6_tick_50 : decode cX6_tick 50 = .ok (.aload_n 0, 1) := by decide +kernel
theorem dX6_tick_51 : decode cX6_tick 51 = .ok (.getfield 7, 3) := by decide +kernel
theorem dX6_tick_54 : decode cX6_tick 54 = .ok (.bipush 73, 2) := by decide +kernel
theorem dX6_tick_56 : decode cX6_tick 56 = .ok (.iaload, 1) := by decide +kernel
theorem dX6_tick_57 : decode cX6_tick 57 = .ok (.if_icmp .ge 55, 3) := by decide +kernel
theorem dX6_tick_60 : decode cX6_tick 60 = .ok (.iload_n 2, 1) := by decide +kernel
theorem dX6_tick_61 : decode cX6_tick 61 = .ok (.iconst 2, 1) := by decide +kernel
theorem dX6_tick_62 : decode cX6_tick 62 = .ok (.if_icmp .ne 7, 3) := by decide +kernel
theorem dX6_tick_65 : decode cX6_tick 65 = .ok (.iconst 1, 1) := by decide +kernel
theorem dX6_tick_66 : decode cX6_tick 66 = .ok (.goto 24, 3) := by decide +kernel
theorem dX6_tick_69 : decode cX6_tick 69 = .ok (.iload_n 2, 1) := by decide +kernel
theorem dX6_tick_70 : decode cX6_tick 70 = .ok (.ifCond .ne 12, 3) := by decide +kernel
theorem dX6_tick_73 : decode cX6_tick 73 = .ok (.iload_n 1, 1) := by decide +kernel
theorem dX6_tick_74 : decode cX6_tick 74 = .ok (.iload 4, 2) := by decide +kernel
theorem dX6_tick_76 : decode cX6_tick 76 = .ok (.ishr, 1) := by decide +kernel
theorem dX6_tick_77 : decode cX6_tick 77 = .ok (.iconst 1, 1) := by decide +kernel
theorem dX6_tick_78 : decode cX6_tick 78 = .ok (.iand, 1) := by decide +kernel
theorem dX6_tick_79 : decode cX6_tick 79 = .ok (.goto 11, 3) := by decide +kernel
theorem dX6_tick_82 : decode cX6_tick 82 = .ok (.iconst 1, 1) := by decide +kernel
theorem dX6_tick_83 : decode cX6_tick 83 = .ok (.iload_n 1, 1) := by decide +kernel
theorem dX6_tick_84 : decode cX6_tick 84 = .ok (.iload 4, 2) := by decide +kernel
theorem dX6_tick_86 : decode cX6_tick 86 = .ok (.ishr, 1) := by decide +kernel
theorem dX6_tick_87 : decode cX6_tick 87 = .ok (.iconst 1, 1) := by decide +kernel
theorem dX6_tick_88 : decode cX6_tick 88 = .ok (.iand, 1) := by decide +kernel
theorem dX6_tick_89 : decode cX6_tick 89 = .ok (.isub, 1) := by decide +kernel
theorem dX6_tick_90 : decode cX6_tick 90 = .ok (.istore 5, 2) := by decide +kernel
theorem dX6_tick_92 : decode cX6_tick 92 = .ok (.iload 5, 2) := by decide +kernel
theorem dX6_tick_94 : decode cX6_tick 94 = .ok (.iconst 1, 1) := by decide +kernel
theorem dX6_tick_95 : decode cX6_tick 95 = .ok (.iload_n 3, 1) := by decide +kernel
theorem dX6_tick_96 : decode cX6_tick 96 = .ok (.isub, 1) := by decide +kernel
theorem dX6_tick_97 : decode cX6_tick 97 = .ok (.if_icmp .ne 9, 3) := by decide +kernel
theorem dX6_tick_100 : decode cX6_tick 100 = .ok (.aload_n 0, 1) := by decide +kernel
theorem dX6_tick_101 : decode cX6_tick 101 = .ok (.iload 4, 2) := by decide +kernel
theorem dX6_tick_103 : decode cX6_tick 103 = .ok (.invokevirtual 118, 3) := by decide +kernel
theorem dX6_tick_106 : decode cX6_tick 106 = .ok (.iinc 4 1, 3) := by decide +kernel
theorem dX6_tick_109 : decode cX6_tick 109 = .ok (.goto (-61), 3) := by decide +kernel
theorem dX6_tick_112 : decode cX6_tick 112 = .ok (.iinc 3 1, 3) := by decide +kernel
theorem dX6_tick_115 : decode cX6_tick 115 = .ok (.goto (-75), 3) := by decide +kernel
theorem dX6_tick_118 : decode cX6_tick 118 = .ok (.aload_n 0, 1) := by decide +kernel
theorem dX6_tick_119 : decode cX6_tick 119 = .ok (.invokevirtual 121, 3) := by decide +kernel
theorem dX6_tick_122 : decode cX6_tick 122 = .ok (.aload_n 0, 1) := by decide +kernel
theorem dX6_tick_123 : decode cX6_tick 123 = .ok (.getfield 7, 3) := by decide +kernel
theorem dX6_tick_126 : decode cX6_tick 126 = .ok (.bipush 74, 2) := by decide +kernel
theorem dX6_tick_128 : decode cX6_tick 128 = .ok (.dup2, 1) := by decide +kernel
theorem dX6_tick_129 : decode cX6_tick 129 = .ok (.iaload, 1) := by decide +kernel
theorem dX6_tick_130 : decode cX6_tick 130 = .ok (.iconst 1, 1) := by decide +kernel
theorem dX6_tick_131 : decode cX6_tick 131 = .ok (.iadd, 1) := by decide +kernel
theorem dX6_tick_132 : decode cX6_tick 132 = .ok (.iastore, 1) := by decide +kernel
theorem dX6_tick_133 : decode cX6_tick 133 = .ok (.return_, 1) := by decide +kernel
theorem dX6_run_0 : decode cX6_run 0 = .ok (.iload_n 1, 1) := by decide +kernel
theorem dX6_run_1 : decode cX6_run 1 = .ok (.iconst 1, 1) := by decide +kernel
theorem dX6_run_2 : decode cX6_run 2 = .ok (.sipush 200, 3) := by decide +kernel
theorem dX6_run_5 : decode cX6_run 5 = .ok (.invokestatic 29, 3) := by decide +kernel
theorem dX6_run_8 : decode cX6_run 8 = .ok (.ifCond .ne 6, 3) := by decide +kernel
theorem dX6_run_11 : decode cX6_run 11 = .ok (.bipush (-2), 2) := by decide +kernel
theorem dX6_run_13 : decode cX6_run 13 = .ok (.ireturn, 1) := by decide +kernel
theorem dX6_run_14 : decode cX6_run 14 = .ok (.aload_n 0, 1) := by decide +kernel
theorem dX6_run_15 : decode cX6_run 15 = .ok (.invokevirtual 62, 3) := by decide +kernel
theorem dX6_run_18 : decode cX6_run 18 = .ok (.aload_n 0, 1) := by decide +kernel
theorem dX6_run_19 : decode cX6_run 19 = .ok (.iconst 5, 1) := by decide +kernel
theorem dX6_run_20 : decode cX6_run 20 = .ok (.invokevirtual 72, 3) := by decide +kernel
theorem dX6_run_23 : decode cX6_run 23 = .ok (.istore_n 2, 1) := by decide +kernel
theorem dX6_run_24 : decode cX6_run 24 = .ok (.iconst 0, 1) := by decide +kernel
theorem dX6_run_25 : decode cX6_run 25 = .ok (.istore_n 3, 1) := by decide +kernel
theorem dX6_run_26 : decode cX6_run 26 = .ok (.iload_n 3, 1) := by decide +kernel
theorem dX6_run_27 : decode cX6_run 27 = .ok (.iload_n 1, 1) := by decide +kernel
theorem dX6_run_28 : decode cX6_run 28 = .ok (.if_icmp .ge 13, 3) := by decide +kernel
theorem dX6_run_31 : decode cX6_run 31 = .ok (.aload_n 0, 1) := by decide +kernel
theorem dX6_run_32 : decode cX6_run 32 = .ok (.invokevirtual 124, 3) := by decide +kernel
theorem dX6_run_35 : decode cX6_run 35 = .ok (.iinc 3 1, 3) := by decide +kernel
theorem dX6_run_38 : decode cX6_run 38 = .ok (.goto (-12), 3) := by decide +kernel
theorem dX6_run_41 : decode cX6_run 41 = .ok (.aload_n 0, 1) := by decide +kernel
theorem dX6_run_42 : decode cX6_run 42 = .ok (.iconst 5, 1) := by decide +kernel
theorem dX6_run_43 : decode cX6_run 43 = .ok (.invokevirtual 72, 3) := by decide +kernel
theorem dX6_run_46 : decode cX6_run 46 = .ok (.iload_n 2, 1) := by decide +kernel
theorem dX6_run_47 : decode cX6_run 47 = .ok (.isub, 1) := by decide +kernel
theorem dX6_run_48 : decode cX6_run 48 = .ok (.ireturn, 1) := by decide +kernel
theorem dX6_undo_0 : decode cX6_undo 0 = .ok (.aload_n 0, 1) := by decide +kernel
theorem dX6_undo_1 : decode cX6_undo 1 = .ok (.getfield 33, 3) := by decide +kernel
theorem dX6_undo_4 : decode cX6_undo 4 = .ok (.ifCond .ne 6, 3) := by decide +kernel
theorem dX6_undo_7 : decode cX6_undo 7 = .ok (.bipush (-3), 2) := by decide +kernel
theorem dX6_undo_9 : decode cX6_undo 9 = .ok (.ireturn, 1) := by decide +kernel
theorem dX6_undo_10 : decode cX6_undo 10 = .ok (.aload_n 0, 1) := by decide +kernel
theorem dX6_undo_11 : decode cX6_undo 11 = .ok (.dup, 1) := by decide +kernel
theorem dX6_undo_12 : decode cX6_undo 12 = .ok (.getfield 33, 3) := by decide +kernel
theorem dX6_undo_15 : decode cX6_undo 15 = .ok (.iconst 1, 1) := by decide +kernel
theorem dX6_undo_16 : decode cX6_undo 16 = .ok (.isub, 1) := by decide +kernel
theorem dX6_undo_17 : decode cX6_undo 17 = .ok (.putfield 33, 3) := by decide +kernel
theorem dX6_undo_20 : decode cX6_undo 20 = .ok (.aload_n 0, 1) := by decide +kernel
theorem dX6_undo_21 : decode cX6_undo 21 = .ok (.aload_n 0, 1) := by decide +kernel
theorem dX6_undo_22 : decode cX6_undo 22 = .ok (.getfield 16, 3) := by decide +kernel
theorem dX6_undo_25 : decode cX6_undo 25 = .ok (.bipush 82, 2) := by decide +kernel
theorem dX6_undo_27 : decode cX6_undo 27 = .ok (.aload_n 0, 1) := by decide +kernel
theorem dX6_undo_28 : decode cX6_undo 28 = .ok (.getfield 33, 3) := by decide +kernel
theorem dX6_undo_31 : decode cX6_undo 31 = .ok (.imul, 1) := by decide +kernel
theorem dX6_undo_32 : decode cX6_undo 32 = .ok (.aload_n 0, 1) := by decide +kernel
theorem dX6_undo_33 : decode cX6_undo 33 = .ok (.getfield 7, 3) := by decide +kernel
theorem dX6_undo_36 : decode cX6_undo 36 = .ok (.iconst 0, 1) := by decide +kernel
theorem dX6_undo_37 : decode cX6_undo 37 = .ok (.invokevirtual 37, 3) := by decide +kernel
theorem dX6_undo_40 : decode cX6_undo 40 = .ok (.aload_n 0, 1) := by decide +kernel
theorem dX6_undo_41 : decode cX6_undo 41 = .ok (.getfield 33, 3) := by decide +kernel
theorem dX6_undo_44 : decode cX6_undo 44 = .ok (.ireturn, 1) := by decide +kernel
theorem dX6_keep_0 : decode cX6_keep 0 = .ok (.iload_n 1, 1) := by decide +kernel
theorem dX6_keep_1 : decode cX6_keep 1 = .ok (.iconst 0, 1) := by decide +kernel
theorem dX6_keep_2 : decode cX6_keep 2 = .ok (.iconst 1, 1) := by decide +kernel
theorem dX6_keep_3 : decode cX6_keep 3 = .ok (.invokestatic 29, 3) := by decide +kernel
theorem dX6_keep_6 : decode cX6_keep 6 = .ok (.ifCond .ne 6, 3) := by decide +kernel
theorem dX6_keep_9 : decode cX6_keep 9 = .ok (.bipush (-2), 2) := by decide +kernel
theorem dX6_keep_11 : decode cX6_keep 11 = .ok (.ireturn, 1) := by decide +kernel
theorem dX6_keep_12 : decode cX6_keep 12 = .ok (.aload_n 0, 1) := by decide +kernel
theorem dX6_keep_13 : decode cX6_keep 13 = .ok (.aload_n 0, 1) := by decide +kernel
theorem dX6_keep_14 : decode cX6_keep 14 = .ok (.getfield 7, 3) := by decide +kernel
theorem dX6_keep_17 : decode cX6_keep 17 = .ok (.iconst 0, 1) := by decide +kernel
theorem dX6_keep_18 : decode cX6_keep 18 = .ok (.aload_n 0, 1) := by decide +kernel
theorem dX6_keep_19 : decode cX6_keep 19 = .ok (.getfield 19, 3) := by decide +kernel
theorem dX6_keep_22 : decode cX6_keep 22 = .ok (.bipush 82, 2) := by decide +kernel
theorem dX6_keep_24 : decode cX6_keep 24 = .ok (.iload_n 1, 1) := by decide +kernel
theorem dX6_keep_25 : decode cX6_keep 25 = .ok (.imul, 1) := by decide +kernel
theorem dX6_keep_26 : decode cX6_keep 26 = .ok (.invokevirtual 37, 3) := by decide +kernel
theorem dX6_keep_29 : decode cX6_keep 29 = .ok (.aload_n 0, 1) := by decide +kernel
theorem dX6_keep_30 : decode cX6_keep 30 = .ok (.dup, 1) := by decide +kernel
theorem dX6_keep_31 : decode cX6_keep 31 = .ok (.getfield 127, 3) := by decide +kernel
theorem dX6_keep_34 : decode cX6_keep 34 = .ok (.iconst 1, 1) := by decide +kernel
theorem dX6_keep_35 : decode cX6_keep 35 = .ok (.iload_n 1, 1) := by decide +kernel
theorem dX6_keep_36 : decode cX6_keep 36 = .ok (.ishl, 1) := by decide +kernel
theorem dX6_keep_37 : decode cX6_keep 37 = .ok (.ior, 1) := by decide +kernel
theorem dX6_keep_38 : decode cX6_keep 38 = .ok (.putfield 127, 3) := by decide +kernel
theorem dX6_keep_41 : decode cX6_keep 41 = .ok (.aload_n 0, 1) := by decide +kernel
theorem dX6_keep_42 : decode cX6_keep 42 = .ok (.getfield 7, 3) := by decide +kernel
theorem dX6_keep_45 : decode cX6_keep 45 = .ok (.bipush 74, 2) := by decide +kernel
theorem dX6_keep_47 : decode cX6_keep 47 = .ok (.iaload, 1) := by decide +kernel
theorem dX6_keep_48 : decode cX6_keep 48 = .ok (.ireturn, 1) := by decide +kernel
theorem dX6_back_0 : decode cX6_back 0 = .ok (.iload_n 1, 1) := by decide +kernel
theorem dX6_back_1 : decode cX6_back 1 = .ok (.iconst 0, 1) := by decide +kernel
theorem dX6_back_2 : decode cX6_back 2 = .ok (.iconst 1, 1) := by decide +kernel
theorem dX6_back_3 : decode cX6_back 3 = .ok (.invokestatic 29, 3) := by decide +kernel
theorem dX6_back_6 : decode cX6_back 6 = .ok (.ifCond .ne 6, 3) := by decide +kernel
theorem dX6_back_9 : decode cX6_back 9 = .ok (.bipush (-2), 2) := by decide +kernel
theorem dX6_back_11 : decode cX6_back 11 = .ok (.ireturn, 1) := by decide +kernel
theorem dX6_back_12 : decode cX6_back 12 = .ok (.aload_n 0, 1) := by decide +kernel
theorem dX6_back_13 : decode cX6_back 13 = .ok (.getfield 127, 3) := by decide +kernel
theorem dX6_back_16 : decode cX6_back 16 = .ok (.iload_n 1, 1) := by decide +kernel
theorem dX6_back_17 : decode cX6_back 17 = .ok (.ishr, 1) := by decide +kernel
theorem dX6_back_18 : decode cX6_back 18 = .ok (.iconst 1, 1) := by decide +kernel
theorem dX6_back_19 : decode cX6_back 19 = .ok (.iand, 1) := by decide +kernel
theorem dX6_back_20 : decode cX6_back 20 = .ok (.ifCond .ne 6, 3) := by decide +kernel
theorem dX6_back_23 : decode cX6_back 23 = .ok (.bipush (-3), 2) := by decide +kernel
theorem dX6_back_25 : decode cX6_back 25 = .ok (.ireturn, 1) := by decide +kernel
theorem dX6_back_26 : decode cX6_back 26 = .ok (.aload_n 0, 1) := by decide +kernel
theorem dX6_back_27 : decode cX6_back 27 = .ok (.invokevirtual 62, 3) := by decide +kernel
theorem dX6_back_30 : decode cX6_back 30 = .ok (.aload_n 0, 1) := by decide +kernel
theorem dX6_back_31 : decode cX6_back 31 = .ok (.aload_n 0, 1) := by decide +kernel
theorem dX6_back_32 : decode cX6_back 32 = .ok (.getfield 19, 3) := by decide +kernel
theorem dX6_back_35 : decode cX6_back 35 = .ok (.bipush 82, 2) := by decide +kernel
theorem dX6_back_37 : decode cX6_back 37 = .ok (.iload_n 1, 1) := by decide +kernel
theorem dX6_back_38 : decode cX6_back 38 = .ok (.imul, 1) := by decide +kernel
theorem dX6_back_39 : decode cX6_back 39 = .ok (.aload_n 0, 1) := by decide +kernel
theorem dX6_back_40 : decode cX6_back 40 = .ok (.getfield 7, 3) := by decide +kernel
theorem dX6_back_43 : decode cX6_back 43 = .ok (.iconst 0, 1) := by decide +kernel
theorem dX6_back_44 : decode cX6_back 44 = .ok (.invokevirtual 37, 3) := by decide +kernel
theorem dX6_back_47 : decode cX6_back 47 = .ok (.aload_n 0, 1) := by decide +kernel
theorem dX6_back_48 : decode cX6_back 48 = .ok (.getfield 7, 3) := by decide +kernel
theorem dX6_back_51 : decode cX6_back 51 = .ok (.bipush 74, 2) := by decide +kernel
theorem dX6_back_53 : decode cX6_back 53 = .ok (.iaload, 1) := by decide +kernel
theorem dX6_back_54 : decode cX6_back 54 = .ok (.ireturn, 1) := by decide +kernel
theorem dX6_resting_0 : decode cX6_resting 0 = .ok (.aload_n 0, 1) := by decide +kernel
theorem dX6_resting_1 : decode cX6_resting 1 = .ok (.iload_n 1, 1) := by decide +kernel
theorem dX6_resting_2 : decode cX6_resting 2 = .ok (.iconst 2, 1) := by decide +kernel
theorem dX6_resting_3 : decode cX6_resting 3 = .ok (.invokevirtual 83, 3) := by decide +kernel
theorem dX6_resting_6 : decode cX6_resting 6 = .ok (.aload_n 0, 1) := by decide +kernel
theorem dX6_resting_7 : decode cX6_resting 7 = .ok (.iconst 0, 1) := by decide +kernel
theorem dX6_resting_8 : decode cX6_resting 8 = .ok (.invokevirtual 72, 3) := by decide +kernel
theorem dX6_resting_11 : decode cX6_resting 11 = .ok (.isub, 1) := by decide +kernel
theorem dX6_resting_12 : decode cX6_resting 12 = .ok (.istore_n 2, 1) := by decide +kernel
theorem dX6_resting_13 : decode cX6_resting 13 = .ok (.iload_n 2, 1) := by decide +kernel
theorem dX6_resting_14 : decode cX6_resting 14 = .ok (.ifCond .gt 7, 3) := by decide +kernel
theorem dX6_resting_17 : decode cX6_resting 17 = .ok (.iconst 0, 1) := by decide +kernel
theorem dX6_resting_18 : decode cX6_resting 18 = .ok (.goto 18, 3) := by decide +kernel
theorem dX6_resting_21 : decode cX6_resting 21 = .ok (.iload_n 2, 1) := by decide +kernel
theorem dX6_resting_22 : decode cX6_resting 22 = .ok (.aload_n 0, 1) := by decide +kernel
theorem dX6_resting_23 : decode cX6_resting 23 = .ok (.iconst 1, 1) := by decide +kernel
theorem dX6_resting_24 : decode cX6_resting 24 = .ok (.invokevirtual 72, 3) := by decide +kernel
theorem dX6_resting_27 : decode cX6_resting 27 = .ok (.iadd, 1) := by decide +kernel
theorem dX6_resting_28 : decode cX6_resting 28 = .ok (.iconst 1, 1) := by decide +kernel
theorem dX6_resting_29 : decode cX6_resting 29 = .ok (.isub, 1) := by decide +kernel
theorem dX6_resting_30 : decode cX6_resting 30 = .ok (.aload_n 0, 1) := by decide +kernel
theorem dX6_resting_31 : decode cX6_resting 31 = .ok (.iconst 1, 1) := by decide +kernel
theorem dX6_resting_32 : decode cX6_resting 32 = .ok (.invokevirtual 72, 3) := by decide +kernel
theorem dX6_resting_35 : decode cX6_resting 35 = .ok (.idiv, 1) := by decide +kernel
theorem dX6_resting_36 : decode cX6_resting 36 = .ok (.ireturn, 1) := by decide +kernel
theorem dX6_segmentNow_0 : decode cX6_segmentNow 0 = .ok (.iload_n 2, 1) := by decide +kernel
theorem dX6_segmentNow_1 : decode cX6_segmentNow 1 = .ok (.tableswitch 70 0 5 #[39, 39, 39, 46, 52, 58], 39) := by decide +kernel
theorem dX6_segmentNow_40 : decode cX6_segmentNow 40 = .ok (.aload_n 0, 1) := by decide +kernel
theorem dX6_segmentNow_41 : decode cX6_segmentNow 41 = .ok (.iload_n 1, 1) := by decide +kernel
theorem dX6_segmentNow_42 : decode cX6_segmentNow 42 = .ok (.iload_n 2, 1) := by decide +kernel
theorem dX6_segmentNow_43 : decode cX6_segmentNow 43 = .ok (.invokevirtual 83, 3) := by decide +kernel
theorem dX6_segmentNow_46 : decode cX6_segmentNow 46 = .ok (.ireturn, 1) := by decide +kernel
theorem dX6_segmentNow_47 : decode cX6_segmentNow 47 = .ok (.aload_n 0, 1) := by decide +kernel
theorem dX6_segmentNow_48 : decode cX6_segmentNow 48 = .ok (.iload_n 1, 1) := by decide +kernel
theorem dX6_segmentNow_49 : decode cX6_segmentNow 49 = .ok (.invokevirtual 98, 3) := by decide +kernel
theorem dX6_segmentNow_52 : decode cX6_segmentNow 52 = .ok (.ireturn, 1) := by decide +kernel
theorem dX6_segmentNow_53 : decode cX6_segmentNow 53 = .ok (.aload_n 0, 1) := by decide +kernel
theorem dX6_segmentNow_54 : decode cX6_segmentNow 54 = .ok (.iload_n 1, 1) := by decide +kernel
theorem dX6_segmentNow_55 : decode cX6_segmentNow 55 = .ok (.invokevirtual 115, 3) := by decide +kernel
theorem dX6_segmentNow_58 : decode cX6_segmentNow 58 = .ok (.ireturn, 1) := by decide +kernel
theorem dX6_segmentNow_59 : decode cX6_segmentNow 59 = .ok (.aload_n 0, 1) := by decide +kernel
theorem dX6_segmentNow_60 : decode cX6_segmentNow 60 = .ok (.iload_n 1, 1) := by decide +kernel
theorem dX6_segmentNow_61 : decode cX6_segmentNow 61 = .ok (.invokevirtual 101, 3) := by decide +kernel
theorem dX6_segmentNow_64 : decode cX6_segmentNow 64 = .ok (.aload_n 0, 1) := by decide +kernel
theorem dX6_segmentNow_65 : decode cX6_segmentNow 65 = .ok (.iload_n 1, 1) := by decide +kernel
theorem dX6_segmentNow_66 : decode cX6_segmentNow 66 = .ok (.invokevirtual 98, 3) := by decide +kernel
theorem dX6_segmentNow_69 : decode cX6_segmentNow 69 = .ok (.isub, 1) := by decide +kernel
theorem dX6_segmentNow_70 : decode cX6_segmentNow 70 = .ok (.ireturn, 1) := by decide +kernel
theorem dX6_segmentNow_71 : decode cX6_segmentNow 71 = .ok (.aload_n 0, 1) := by decide +kernel
theorem dX6_segmentNow_72 : decode cX6_segmentNow 72 = .ok (.iload_n 1, 1) := by decide +kernel
theorem dX6_segmentNow_73 : decode cX6_segmentNow 73 = .ok (.invokevirtual 130, 3) := by decide +kernel
theorem dX6_segmentNow_76 : decode cX6_segmentNow 76 = .ok (.ireturn, 1) := by decide +kernel
theorem dX6_segment_0 : decode cX6_segment 0 = .ok (.aload_n 0, 1) := by decide +kernel
theorem dX6_segment_1 : decode cX6_segment 1 = .ok (.iload_n 1, 1) := by decide +kernel
theorem dX6_segment_2 : decode cX6_segment 2 = .ok (.invokevirtual 133, 3) := by decide +kernel
theorem dX6_segment_5 : decode cX6_segment 5 = .ok (.ifCond .eq 22, 3) := by decide +kernel
theorem dX6_segment_8 : decode cX6_segment 8 = .ok (.iload_n 2, 1) := by decide +kernel
theorem dX6_segment_9 : decode cX6_segment 9 = .ok (.iconst 0, 1) := by decide +kernel
theorem dX6_segment_10 : decode cX6_segment 10 = .ok (.bipush 6, 2) := by decide +kernel
theorem dX6_segment_12 : decode cX6_segment 12 = .ok (.invokestatic 29, 3) := by decide +kernel
theorem dX6_segment_15 : decode cX6_segment 15 = .ok (.ifCond .eq 12, 3) := by decide +kernel
theorem dX6_segment_18 : decode cX6_segment 18 = .ok (.aload_n 0, 1) := by decide +kernel
theorem dX6_segment_19 : decode cX6_segment 19 = .ok (.iload_n 1, 1) := by decide +kernel
theorem dX6_segment_20 : decode cX6_segment 20 = .ok (.iload_n 2, 1) := by decide +kernel
theorem dX6_segment_21 : decode cX6_segment 21 = .ok (.invokevirtual 136, 3) := by decide +kernel
theorem dX6_segment_24 : decode cX6_segment 24 = .ok (.goto 5, 3) := by decide +kernel
theorem dX6_segment_27 : decode cX6_segment 27 = .ok (.bipush (-2), 2) := by decide +kernel
theorem dX6_segment_29 : decode cX6_segment 29 = .ok (.ireturn, 1) := by decide +kernel
theorem dX6_trainNow_0 : decode cX6_trainNow 0 = .ok (.iload_n 2, 1) := by decide +kernel
theorem dX6_trainNow_1 : decode cX6_trainNow 1 = .ok (.bipush 9, 2) := by decide +kernel
theorem dX6_trainNow_3 : decode cX6_trainNow 3 = .ok (.if_icmp .ne 11, 3) := by decide +kernel
theorem dX6_trainNow_6 : decode cX6_trainNow 6 = .ok (.aload_n 0, 1) := by decide +kernel
theorem dX6_trainNow_7 : decode cX6_trainNow 7 = .ok (.iload_n 1, 1) := by decide +kernel
theorem dX6_trainNow_8 : decode cX6_trainNow 8 = .ok (.invokevirtual 92, 3) := by decide +kernel
theorem dX6_trainNow_11 : decode cX6_trainNow 11 = .ok (.goto 9, 3) := by decide +kernel
theorem dX6_trainNow_14 : decode cX6_trainNow 14 = .ok (.aload_n 0, 1) := by decide +kernel
theorem dX6_trainNow_15 : decode cX6_trainNow 15 = .ok (.iload_n 1, 1) := by decide +kernel
theorem dX6_trainNow_16 : decode cX6_trainNow 16 = .ok (.iload_n 2, 1) := by decide +kernel
theorem dX6_trainNow_17 : decode cX6_trainNow 17 = .ok (.invokevirtual 58, 3) := by decide +kernel
theorem dX6_trainNow_20 : decode cX6_trainNow 20 = .ok (.ireturn, 1) := by decide +kernel
theorem dX6_train_0 : decode cX6_train 0 = .ok (.aload_n 0, 1) := by decide +kernel
theorem dX6_train_1 : decode cX6_train 1 = .ok (.iload_n 1, 1) := by decide +kernel
theorem dX6_train_2 : decode cX6_train 2 = .ok (.invokevirtual 80, 3) := by decide +kernel
theorem dX6_train_5 : decode cX6_train 5 = .ok (.ifCond .eq 22, 3) := by decide +kernel
theorem dX6_train_8 : decode cX6_train 8 = .ok (.iload_n 2, 1) := by decide +kernel
theorem dX6_train_9 : decode cX6_train 9 = .ok (.iconst 0, 1) := by decide +kernel
theorem dX6_train_10 : decode cX6_train 10 = .ok (.bipush 9, 2) := by decide +kernel
theorem dX6_train_12 : decode cX6_train 12 = .ok (.invokestatic 29, 3) := by decide +kernel
theorem dX6_train_15 : decode cX6_train 15 = .ok (.ifCond .eq 12, 3) := by decide +kernel
theorem dX6_train_18 : decode cX6_train 18 = .ok (.aload_n 0, 1) := by decide +kernel
theorem dX6_train_19 : decode cX6_train 19 = .ok (.iload_n 1, 1) := by decide +kernel
theorem dX6_train_20 : decode cX6_train 20 = .ok (.iload_n 2, 1) := by decide +kernel
theorem dX6_train_21 : decode cX6_train 21 = .ok (.invokevirtual 139, 3) := by decide +kernel
theorem dX6_train_24 : decode cX6_train 24 = .ok (.goto 5, 3) := by decide +kernel
theorem dX6_train_27 : decode cX6_train 27 = .ok (.bipush (-2), 2) := by decide +kernel
theorem dX6_train_29 : decode cX6_train 29 = .ok (.ireturn, 1) := by decide +kernel
theorem dX6_why_0 : decode cX6_why 0 = .ok (.aload_n 0, 1) := by decide +kernel
theorem dX6_why_1 : decode cX6_why 1 = .ok (.iload_n 1, 1) := by decide +kernel
theorem dX6_why_2 : decode cX6_why 2 = .ok (.invokevirtual 80, 3) := by decide +kernel
theorem dX6_why_5 : decode cX6_why 5 = .ok (.ifCond .eq 11, 3) := by decide +kernel
theorem dX6_why_8 : decode cX6_why 8 = .ok (.aload_n 0, 1) := by decide +kernel
theorem dX6_why_9 : decode cX6_why 9 = .ok (.iload_n 1, 1) := by decide +kernel
theorem dX6_why_10 : decode cX6_why 10 = .ok (.invokevirtual 108, 3) := by decide +kernel
theorem dX6_why_13 : decode cX6_why 13 = .ok (.goto 5, 3) := by decide +kernel
theorem dX6_why_16 : decode cX6_why 16 = .ok (.bipush (-2), 2) := by decide +kernel
theorem dX6_why_18 : decode cX6_why 18 = .ok (.ireturn, 1) := by decide +kernel
theorem dX6_accountNow_0 : decode cX6_accountNow 0 = .ok (.iload_n 1, 1) := by decide +kernel
theorem dX6_accountNow_1 : decode cX6_accountNow 1 = .ok (.tableswitch 54 0 3 #[31, 37, 43, 48], 31) := by decide +kernel
theorem dX6_accountNow_32 : decode cX6_accountNow 32 = .ok (.aload_n 0, 1) := by decide +kernel
theorem dX6_accountNow_33 : decode cX6_accountNow 33 = .ok (.iconst 3, 1) := by decide +kernel
theorem dX6_accountNow_34 : decode cX6_accountNow 34 = .ok (.invokevirtual 72, 3) := by decide +kernel
theorem dX6_accountNow_37 : decode cX6_accountNow 37 = .ok (.ireturn, 1) := by decide +kernel
theorem dX6_accountNow_38 : decode cX6_accountNow 38 = .ok (.aload_n 0, 1) := by decide +kernel
theorem dX6_accountNow_39 : decode cX6_accountNow 39 = .ok (.iconst 4, 1) := by decide +kernel
theorem dX6_accountNow_40 : decode cX6_accountNow 40 = .ok (.invokevirtual 72, 3) := by decide +kernel
theorem dX6_accountNow_43 : decode cX6_accountNow 43 = .ok (.ireturn, 1) := by decide +kernel
theorem dX6_accountNow_44 : decode cX6_accountNow 44 = .ok (.aload_n 0, 1) := by decide +kernel
theorem dX6_accountNow_45 : decode cX6_accountNow 45 = .ok (.invokevirtual 65, 3) := by decide +kernel
theorem dX6_accountNow_48 : decode cX6_accountNow 48 = .ok (.ireturn, 1) := by decide +kernel
theorem dX6_accountNow_49 : decode cX6_accountNow 49 = .ok (.aload_n 0, 1) := by decide +kernel
theorem dX6_accountNow_50 : decode cX6_accountNow 50 = .ok (.iconst 5, 1) := by decide +kernel
theorem dX6_accountNow_51 : decode cX6_accountNow 51 = .ok (.invokevirtual 72, 3) := by decide +kernel
theorem dX6_accountNow_54 : decode cX6_accountNow 54 = .ok (.ireturn, 1) := by decide +kernel
theorem dX6_accountNow_55 : decode cX6_accountNow 55 = .ok (.aload_n 0, 1) := by decide +kernel
theorem dX6_accountNow_56 : decode cX6_accountNow 56 = .ok (.bipush 6, 2) := by decide +kernel
theorem dX6_accountNow_58 : decode cX6_accountNow 58 = .ok (.invokevirtual 72, 3) := by decide +kernel
theorem dX6_accountNow_61 : decode cX6_accountNow 61 = .ok (.ireturn, 1) := by decide +kernel
theorem dX6_account_0 : decode cX6_account 0 = .ok (.iload_n 1, 1) := by decide +kernel
theorem dX6_account_1 : decode cX6_account 1 = .ok (.iconst 0, 1) := by decide +kernel
theorem dX6_account_2 : decode cX6_account 2 = .ok (.iconst 4, 1) := by decide +kernel
theorem dX6_account_3 : decode cX6_account 3 = .ok (.invokestatic 29, 3) := by decide +kernel
theorem dX6_account_6 : decode cX6_account 6 = .ok (.ifCond .eq 11, 3) := by decide +kernel
theorem dX6_account_9 : decode cX6_account 9 = .ok (.aload_n 0, 1) := by decide +kernel
theorem dX6_account_10 : decode cX6_account 10 = .ok (.iload_n 1, 1) := by decide +kernel
theorem dX6_account_11 : decode cX6_account 11 = .ok (.invokevirtual 142, 3) := by decide +kernel
theorem dX6_account_14 : decode cX6_account 14 = .ok (.goto 5, 3) := by decide +kernel
theorem dX6_account_17 : decode cX6_account 17 = .ok (.bipush (-2), 2) := by decide +kernel
theorem dX6_account_19 : decode cX6_account 19 = .ok (.ireturn, 1) := by decide +kernel
theorem dX6_deepest_0 : decode cX6_deepest 0 = .ok (.iconst 0, 1) := by decide +kernel
theorem dX6_deepest_1 : decode cX6_deepest 1 = .ok (.istore_n 1, 1) := by decide +kernel
theorem dX6_deepest_2 : decode cX6_deepest 2 = .ok (.iconst 0, 1) := by decide +kernel
theorem dX6_deepest_3 : decode cX6_deepest 3 = .ok (.istore_n 2, 1) := by decide +kernel
theorem dX6_deepest_4 : decode cX6_deepest 4 = .ok (.iload_n 2, 1) := by decide +kernel
theorem dX6_deepest_5 : decode cX6_deepest 5 = .ok (.aload_n 0, 1) := by decide +kernel
theorem dX6_deepest_6 : decode cX6_deepest 6 = .ok (.getfield 7, 3) := by decide +kernel
theorem dX6_deepest_9 : decode cX6_deepest 9 = .ok (.bipush 72, 2) := by decide +kernel
theorem dX6_deepest_11 : decode cX6_deepest 11 = .ok (.iaload, 1) := by decide +kernel
theorem dX6_deepest_12 : decode cX6_deepest 12 = .ok (.if_icmp .ge 30, 3) := by decide +kernel
theorem dX6_deepest_15 : decode cX6_deepest 15 = .ok (.aload_n 0, 1) := by decide +kernel
theorem dX6_deepest_16 : decode cX6_deepest 16 = .ok (.iload_n 2, 1) := by decide +kernel
theorem dX6_deepest_17 : decode cX6_deepest 17 = .ok (.iconst 2, 1) := by decide +kernel
theorem dX6_deepest_18 : decode cX6_deepest 18 = .ok (.invokevirtual 83, 3) := by decide +kernel
theorem dX6_deepest_21 : decode cX6_deepest 21 = .ok (.iload_n 1, 1) := by decide +kernel
theorem dX6_deepest_22 : decode cX6_deepest 22 = .ok (.if_icmp .le 12, 3) := by decide +kernel
theorem dX6_deepest_25 : decode cX6_deepest 25 = .ok (.aload_n 0, 1) := by decide +kernel
theorem dX6_deepest_26 : decode cX6_deepest 26 = .ok (.iload_n 2, 1) := by decide +kernel
theorem dX6_deepest_27 : decode cX6_deepest 27 = .ok (.iconst 2, 1) := by decide +kernel
theorem dX6_deepest_28 : decode cX6_deepest 28 = .ok (.invokevirtual 83, 3) := by decide +kernel
theorem dX6_deepest_31 : decode cX6_deepest 31 = .ok (.goto 4, 3) := by decide +kernel
theorem dX6_deepest_34 : decode cX6_deepest 34 = .ok (.iload_n 1, 1) := by decide +kernel
theorem dX6_deepest_35 : decode cX6_deepest 35 = .ok (.istore_n 1, 1) := by decide +kernel
theorem dX6_deepest_36 : decode cX6_deepest 36 = .ok (.iinc 2 1, 3) := by decide +kernel
theorem dX6_deepest_39 : decode cX6_deepest 39 = .ok (.goto (-35), 3) := by decide +kernel
theorem dX6_deepest_42 : decode cX6_deepest 42 = .ok (.iload_n 1, 1) := by decide +kernel
theorem dX6_deepest_43 : decode cX6_deepest 43 = .ok (.ireturn, 1) := by decide +kernel
theorem dX6_allWaits_0 : decode cX6_allWaits 0 = .ok (.iconst 0, 1) := by decide +kernel
theorem dX6_allWaits_1 : decode cX6_allWaits 1 = .ok (.istore_n 1, 1) := by decide +kernel
theorem dX6_allWaits_2 : decode cX6_allWaits 2 = .ok (.iconst 0, 1) := by decide +kernel
theorem dX6_allWaits_3 : decode cX6_allWaits 3 = .ok (.istore_n 2, 1) := by decide +kernel
theorem dX6_allWaits_4 : decode cX6_allWaits 4 = .ok (.iload_n 2, 1) := by decide +kernel
theorem dX6_allWaits_5 : decode cX6_allWaits 5 = .ok (.aload_n 0, 1) := by decide +kernel
theorem dX6_allWaits_6 : decode cX6_allWaits 6 = .ok (.getfield 7, 3) := by decide +kernel
theorem dX6_allWaits_9 : decode cX6_allWaits 9 = .ok (.bipush 73, 2) := by decide +kernel
theorem dX6_allWaits_11 : decode cX6_allWaits 11 = .ok (.iaload, 1) := by decide +kernel
theorem dX6_allWaits_12 : decode cX6_allWaits 12 = .ok (.if_icmp .ge 19, 3) := by decide +kernel
theorem dX6_allWaits_15 : decode cX6_allWaits 15 = .ok (.iload_n 1, 1) := by decide +kernel
theorem dX6_allWaits_16 : decode cX6_allWaits 16 = .ok (.aload_n 0, 1) := by decide +kernel
theorem dX6_allWaits_17 : decode cX6_allWaits 17 = .ok (.iload_n 2, 1) := by decide +kernel
theorem dX6_allWaits_18 : decode cX6_allWaits 18 = .ok (.bipush 7, 2) := by decide +kernel
theorem dX6_allWaits_20 : decode cX6_allWaits 20 = .ok (.invokevirtual 58, 3) := by decide +kernel
theorem dX6_allWaits_23 : decode cX6_allWaits 23 = .ok (.iadd, 1) := by decide +kernel
theorem dX6_allWaits_24 : decode cX6_allWaits 24 = .ok (.istore_n 1, 1) := by decide +kernel
theorem dX6_allWaits_25 : decode cX6_allWaits 25 = .ok (.iinc 2 1, 3) := by decide +kernel
theorem dX6_allWaits_28 : decode cX6_allWaits 28 = .ok (.goto (-24), 3) := by decide +kernel
theorem dX6_allWaits_31 : decode cX6_allWaits 31 = .ok (.iload_n 1, 1) := by decide +kernel
theorem dX6_allWaits_32 : decode cX6_allWaits 32 = .ok (.ireturn, 1) := by decide +kernel
theorem dX6_tooDeep_0 : decode cX6_tooDeep 0 = .ok (.iconst 0, 1) := by decide +kernel
theorem dX6_tooDeep_1 : decode cX6_tooDeep 1 = .ok (.istore_n 1, 1) := by decide +kernel
theorem dX6_tooDeep_2 : decode cX6_tooDeep 2 = .ok (.iconst 0, 1) := by decide +kernel
theorem dX6_tooDeep_3 : decode cX6_tooDeep 3 = .ok (.istore_n 2, 1) := by decide +kernel
theorem dX6_tooDeep_4 : decode cX6_tooDeep 4 = .ok (.iload_n 2, 1) := by decide +kernel
theorem dX6_tooDeep_5 : decode cX6_tooDeep 5 = .ok (.aload_n 0, 1) := by decide +kernel
theorem dX6_tooDeep_6 : decode cX6_tooDeep 6 = .ok (.getfield 7, 3) := by decide +kernel
theorem dX6_tooDeep_9 : decode cX6_tooDeep 9 = .ok (.bipush 72, 2) := by decide +kernel
theorem dX6_tooDeep_11 : decode cX6_tooDeep 11 = .ok (.iaload, 1) := by decide +kernel
theorem dX6_tooDeep_12 : decode cX6_tooDeep 12 = .ok (.if_icmp .ge 33, 3) := by decide +kernel
theorem dX6_tooDeep_15 : decode cX6_tooDeep 15 = .ok (.iload_n 1, 1) := by decide +kernel
theorem dX6_tooDeep_16 : decode cX6_tooDeep 16 = .ok (.aload_n 0, 1) := by decide +kernel
theorem dX6_tooDeep_17 : decode cX6_tooDeep 17 = .ok (.iload_n 2, 1) := by decide +kernel
theorem dX6_tooDeep_18 : decode cX6_tooDeep 18 = .ok (.iconst 2, 1) := by decide +kernel
theorem dX6_tooDeep_19 : decode cX6_tooDeep 19 = .ok (.invokevirtual 83, 3) := by decide +kernel
theorem dX6_tooDeep_22 : decode cX6_tooDeep 22 = .ok (.aload_n 0, 1) := by decide +kernel
theorem dX6_tooDeep_23 : decode cX6_tooDeep 23 = .ok (.iconst 0, 1) := by decide +kernel
theorem dX6_tooDeep_24 : decode cX6_tooDeep 24 = .ok (.invokevirtual 72, 3) := by decide +kernel
theorem dX6_tooDeep_27 : decode cX6_tooDeep 27 = .ok (.if_icmp .le 9, 3) := by decide +kernel
theorem dX6_tooDeep_30 : decode cX6_tooDeep 30 = .ok (.iconst 1, 1) := by decide +kernel
theorem dX6_tooDeep_31 : decode cX6_tooDeep 31 = .ok (.iload_n 2, 1) := by decide +kernel
theorem dX6_tooDeep_32 : decode cX6_tooDeep 32 = .ok (.ishl, 1) := by decide +kernel
theorem dX6_tooDeep_33 : decode cX6_tooDeep 33 = .ok (.goto 4, 3) := by decide +kernel
theorem dX6_tooDeep_36 : decode cX6_tooDeep 36 = .ok (.iconst 0, 1) := by decide +kernel
theorem dX6_tooDeep_37 : decode cX6_tooDeep 37 = .ok (.ior, 1) := by decide +kernel
theorem dX6_tooDeep_38 : decode cX6_tooDeep 38 = .ok (.istore_n 1, 1) := by decide +kernel
theorem dX6_tooDeep_39 : decode cX6_tooDeep 39 = .ok (.iinc 2 1, 3) := by decide +kernel
theorem dX6_tooDeep_42 : decode cX6_tooDeep 42 = .ok (.goto (-38), 3) := by decide +kernel
theorem dX6_tooDeep_45 : decode cX6_tooDeep 45 = .ok (.iload_n 1, 1) := by decide +kernel
theorem dX6_tooDeep_46 : decode cX6_tooDeep 46 = .ok (.ireturn, 1) := by decide +kernel
theorem dX6_counted_0 : decode cX6_counted 0 = .ok (.iload_n 1, 1) := by decide +kernel
theorem dX6_counted_1 : decode cX6_counted 1 = .ok (.tableswitch 87 0 6 #[43, 51, 59, 67, 72, 77, 82], 43) := by decide +kernel
theorem dX6_counted_44 : decode cX6_counted 44 = .ok (.aload_n 0, 1) := by decide +kernel
theorem dX6_counted_45 : decode cX6_counted 45 = .ok (.getfield 7, 3) := by decide +kernel
theorem dX6_counted_48 : decode cX6_counted 48 = .ok (.bipush 72, 2) := by decide +kernel
theorem dX6_counted_50 : decode cX6_counted 50 = .ok (.iaload, 1) := by decide +kernel
theorem dX6_counted_51 : decode cX6_counted 51 = .ok (.ireturn, 1) := by decide +kernel
theorem dX6_counted_52 : decode cX6_counted 52 = .ok (.aload_n 0, 1) := by decide +kernel
theorem dX6_counted_53 : decode cX6_counted 53 = .ok (.getfield 7, 3) := by decide +kernel
theorem dX6_counted_56 : decode cX6_counted 56 = .ok (.bipush 73, 2) := by decide +kernel
theorem dX6_counted_58 : decode cX6_counted 58 = .ok (.iaload, 1) := by decide +kernel
theorem dX6_counted_59 : decode cX6_counted 59 = .ok (.ireturn, 1) := by decide +kernel
theorem dX6_counted_60 : decode cX6_counted 60 = .ok (.aload_n 0, 1) := by decide +kernel
theorem dX6_counted_61 : decode cX6_counted 61 = .ok (.getfield 7, 3) := by decide +kernel
theorem dX6_counted_64 : decode cX6_counted 64 = .ok (.bipush 74, 2) := by decide +kernel
theorem dX6_counted_66 : decode cX6_counted 66 = .ok (.iaload, 1) := by decide +kernel
theorem dX6_counted_67 : decode cX6_counted 67 = .ok (.ireturn, 1) := by decide +kernel
theorem dX6_counted_68 : decode cX6_counted 68 = .ok (.aload_n 0, 1) := by decide +kernel
theorem dX6_counted_69 : decode cX6_counted 69 = .ok (.invokevirtual 145, 3) := by decide +kernel
theorem dX6_counted_72 : decode cX6_counted 72 = .ok (.ireturn, 1) := by decide +kernel
theorem dX6_counted_73 : decode cX6_counted 73 = .ok (.aload_n 0, 1) := by decide +kernel
theorem dX6_counted_74 : decode cX6_counted 74 = .ok (.invokevirtual 148, 3) := by decide +kernel
theorem dX6_counted_77 : decode cX6_counted 77 = .ok (.ireturn, 1) := by decide +kernel
theorem dX6_counted_78 : decode cX6_counted 78 = .ok (.aload_n 0, 1) := by decide +kernel
theorem dX6_counted_79 : decode cX6_counted 79 = .ok (.getfield 33, 3) := by decide +kernel
theorem dX6_counted_82 : decode cX6_counted 82 = .ok (.ireturn, 1) := by decide +kernel
theorem dX6_counted_83 : decode cX6_counted 83 = .ok (.aload_n 0, 1) := by decide +kernel
theorem dX6_counted_84 : decode cX6_counted 84 = .ok (.getfield 127, 3) := by decide +kernel
theorem dX6_counted_87 : decode cX6_counted 87 = .ok (.ireturn, 1) := by decide +kernel
theorem dX6_counted_88 : decode cX6_counted 88 = .ok (.aload_n 0, 1) := by decide +kernel
theorem dX6_counted_89 : decode cX6_counted 89 = .ok (.invokevirtual 151, 3) := by decide +kernel
theorem dX6_counted_92 : decode cX6_counted 92 = .ok (.ireturn, 1) := by decide +kernel
theorem dX6_count_0 : decode cX6_count 0 = .ok (.iload_n 1, 1) := by decide +kernel
theorem dX6_count_1 : decode cX6_count 1 = .ok (.iconst 0, 1) := by decide +kernel
theorem dX6_count_2 : decode cX6_count 2 = .ok (.bipush 7, 2) := by decide +kernel
theorem dX6_count_4 : decode cX6_count 4 = .ok (.invokestatic 29, 3) := by decide +kernel
theorem dX6_count_7 : decode cX6_count 7 = .ok (.ifCond .eq 11, 3) := by decide +kernel
theorem dX6_count_10 : decode cX6_count 10 = .ok (.aload_n 0, 1) := by decide +kernel
theorem dX6_count_11 : decode cX6_count 11 = .ok (.iload_n 1, 1) := by decide +kernel
theorem dX6_count_12 : decode cX6_count 12 = .ok (.invokevirtual 154, 3) := by decide +kernel
theorem dX6_count_15 : decode cX6_count 15 = .ok (.goto 5, 3) := by decide +kernel
theorem dX6_count_18 : decode cX6_count 18 = .ok (.bipush (-2), 2) := by decide +kernel
theorem dX6_count_20 : decode cX6_count 20 = .ok (.ireturn, 1) := by decide +kernel
theorem dX6_setting_0 : decode cX6_setting 0 = .ok (.iload_n 1, 1) := by decide +kernel
theorem dX6_setting_1 : decode cX6_setting 1 = .ok (.iconst 0, 1) := by decide +kernel
theorem dX6_setting_2 : decode cX6_setting 2 = .ok (.iconst 2, 1) := by decide +kernel
theorem dX6_setting_3 : decode cX6_setting 3 = .ok (.invokestatic 29, 3) := by decide +kernel
theorem dX6_setting_6 : decode cX6_setting 6 = .ok (.ifCond .eq 11, 3) := by decide +kernel
theorem dX6_setting_9 : decode cX6_setting 9 = .ok (.aload_n 0, 1) := by decide +kernel
theorem dX6_setting_10 : decode cX6_setting 10 = .ok (.iload_n 1, 1) := by decide +kernel
theorem dX6_setting_11 : decode cX6_setting 11 = .ok (.invokevirtual 72, 3) := by decide +kernel
theorem dX6_setting_14 : decode cX6_setting 14 = .ok (.goto 5, 3) := by decide +kernel
theorem dX6_setting_17 : decode cX6_setting 17 = .ok (.bipush (-2), 2) := by decide +kernel
theorem dX6_setting_19 : decode cX6_setting 19 = .ok (.ireturn, 1) := by decide +kernel
theorem dX6_ahead_0 : decode cX6_ahead 0 = .ok (.aload_n 0, 1) := by decide +kernel
theorem dX6_ahead_1 : decode cX6_ahead 1 = .ok (.aload_n 0, 1) := by decide +kernel
theorem dX6_ahead_2 : decode cX6_ahead 2 = .ok (.getfield 7, 3) := by decide +kernel
theorem dX6_ahead_5 : decode cX6_ahead 5 = .ok (.iconst 0, 1) := by decide +kernel
theorem dX6_ahead_6 : decode cX6_ahead 6 = .ok (.aload_n 0, 1) := by decide +kernel
theorem dX6_ahead_7 : decode cX6_ahead 7 = .ok (.getfield 13, 3) := by decide +kernel
theorem dX6_ahead_10 : decode cX6_ahead 10 = .ok (.iconst 0, 1) := by decide +kernel
theorem dX6_ahead_11 : decode cX6_ahead 11 = .ok (.invokevirtual 37, 3) := by decide +kernel
theorem dX6_ahead_14 : decode cX6_ahead 14 = .ok (.aload_n 0, 1) := by decide +kernel
theorem dX6_ahead_15 : decode cX6_ahead 15 = .ok (.iconst 5, 1) := by decide +kernel
theorem dX6_ahead_16 : decode cX6_ahead 16 = .ok (.invokevirtual 72, 3) := by decide +kernel
theorem dX6_ahead_19 : decode cX6_ahead 19 = .ok (.istore_n 3, 1) := by decide +kernel
theorem dX6_ahead_20 : decode cX6_ahead 20 = .ok (.aload_n 0, 1) := by decide +kernel
theorem dX6_ahead_21 : decode cX6_ahead 21 = .ok (.invokevirtual 148, 3) := by decide +kernel
theorem dX6_ahead_24 : decode cX6_ahead 24 = .ok (.istore 4, 2) := by decide +kernel
theorem dX6_ahead_26 : decode cX6_ahead 26 = .ok (.iconst 0, 1) := by decide +kernel
theorem dX6_ahead_27 : decode cX6_ahead 27 = .ok (.istore 5, 2) := by decide +kernel
theorem dX6_ahead_29 : decode cX6_ahead 29 = .ok (.iconst 0, 1) := by decide +kernel
theorem dX6_ahead_30 : decode cX6_ahead 30 = .ok (.istore 6, 2) := by decide +kernel
theorem dX6_ahead_32 : decode cX6_ahead 32 = .ok (.iload 6, 2) := by decide +kernel
theorem dX6_ahead_34 : decode cX6_ahead 34 = .ok (.iload_n 1, 1) := by decide +kernel
theorem dX6_ahead_35 : decode cX6_ahead 35 = .ok (.if_icmp .ge 33, 3) := by decide +kernel
theorem dX6_ahead_38 : decode cX6_ahead 38 = .ok (.aload_n 0, 1) := by decide +kernel
theorem dX6_ahead_39 : decode cX6_ahead 39 = .ok (.invokevirtual 124, 3) := by decide +kernel
theorem dX6_ahead_42 : decode cX6_ahead 42 = .ok (.aload_n 0, 1) := by decide +kernel
theorem dX6_ahead_43 : decode cX6_ahead 43 = .ok (.invokevirtual 145, 3) := by decide +kernel
theorem dX6_ahead_46 : decode cX6_ahead 46 = .ok (.iload 5, 2) := by decide +kernel
theorem dX6_ahead_48 : decode cX6_ahead 48 = .ok (.if_icmp .le 10, 3) := by decide +kernel
theorem dX6_ahead_51 : decode cX6_ahead 51 = .ok (.aload_n 0, 1) := by decide +kernel
theorem dX6_ahead_52 : decode cX6_ahead 52 = .ok (.invokevirtual 145, 3) := by decide +kernel
theorem dX6_ahead_55 : decode cX6_ahead 55 = .ok (.goto 5, 3) := by decide +kernel
theorem dX6_ahead_58 : decode cX6_ahead 58 = .ok (.iload 5, 2) := by decide +kernel
theorem dX6_ahead_60 : decode cX6_ahead 60 = .ok (.istore 5, 2) := by decide +kernel
theorem dX6_ahead_62 : decode cX6_ahead 62 = .ok (.iinc 6 1, 3) := by decide +kernel
theorem dX6_ahead_65 : decode cX6_ahead 65 = .ok (.goto (-33), 3) := by decide +kernel
theorem dX6_ahead_68 : decode cX6_ahead 68 = .ok (.iload_n 2, 1) := by decide +kernel
theorem dX6_ahead_69 : decode cX6_ahead 69 = .ok (.ifCond .ne 13, 3) := by decide +kernel
theorem dX6_ahead_72 : decode cX6_ahead 72 = .ok (.aload_n 0, 1) := by decide +kernel
theorem dX6_ahead_73 : decode cX6_ahead 73 = .ok (.iconst 5, 1) := by decide +kernel
theorem dX6_ahead_74 : decode cX6_ahead 74 = .ok (.invokevirtual 72, 3) := by decide +kernel
theorem dX6_ahead_77 : decode cX6_ahead 77 = .ok (.iload_n 3, 1) := by decide +kernel
theorem dX6_ahead_78 : decode cX6_ahead 78 = .ok (.isub, 1) := by decide +kernel
theorem dX6_ahead_79 : decode cX6_ahead 79 = .ok (.goto 32, 3) := by decide +kernel
theorem dX6_ahead_82 : decode cX6_ahead 82 = .ok (.iload_n 2, 1) := by decide +kernel
theorem dX6_ahead_83 : decode cX6_ahead 83 = .ok (.iconst 1, 1) := by decide +kernel
theorem dX6_ahead_84 : decode cX6_ahead 84 = .ok (.if_icmp .ne 10, 3) := by decide +kernel
theorem dX6_ahead_87 : decode cX6_ahead 87 = .ok (.aload_n 0, 1) := by decide +kernel
theorem dX6_ahead_88 : decode cX6_ahead 88 = .ok (.invokevirtual 145, 3) := by decide +kernel
theorem dX6_ahead_91 : decode cX6_ahead 91 = .ok (.goto 20, 3) := by decide +kernel
theorem dX6_ahead_94 : decode cX6_ahead 94 = .ok (.iload_n 2, 1) := by decide +kernel
theorem dX6_ahead_95 : decode cX6_ahead 95 = .ok (.iconst 2, 1) := by decide +kernel
theorem dX6_ahead_96 : decode cX6_ahead 96 = .ok (.if_icmp .ne 13, 3) := by decide +kernel
theorem dX6_ahead_99 : decode cX6_ahead 99 = .ok (.aload_n 0, 1) := by decide +kernel
theorem dX6_ahead_100 : decode cX6_ahead 100 = .ok (.invokevirtual 148, 3) := by decide +kernel
theorem dX6_ahead_103 : decode cX6_ahead 103 = .ok (.iload 4, 2) := by decide +kernel
theorem dX6_ahead_105 : decode cX6_ahead 105 = .ok (.isub, 1) := by decide +kernel
theorem dX6_ahead_106 : decode cX6_ahead 106 = .ok (.goto 5, 3) := by decide +kernel
theorem dX6_ahead_109 : decode cX6_ahead 109 = .ok (.iload 5, 2) := by decide +kernel
theorem dX6_ahead_111 : decode cX6_ahead 111 = .ok (.istore 6, 2) := by decide +kernel
theorem dX6_ahead_113 : decode cX6_ahead 113 = .ok (.aload_n 0, 1) := by decide +kernel
theorem dX6_ahead_114 : decode cX6_ahead 114 = .ok (.aload_n 0, 1) := by decide +kernel
theorem dX6_ahead_115 : decode cX6_ahead 115 = .ok (.getfield 13, 3) := by decide +kernel
theorem dX6_ahead_118 : decode cX6_ahead 118 = .ok (.iconst 0, 1) := by decide +kernel
theorem dX6_ahead_119 : decode cX6_ahead 119 = .ok (.aload_n 0, 1) := by decide +kernel
theorem dX6_ahead_120 : decode cX6_ahead 120 = .ok (.getfield 7, 3) := by decide +kernel
theorem dX6_ahead_123 : decode cX6_ahead 123 = .ok (.iconst 0, 1) := by decide +kernel
theorem dX6_ahead_124 : decode cX6_ahead 124 = .ok (.invokevirtual 37, 3) := by decide +kernel
theorem dX6_ahead_127 : decode cX6_ahead 127 = .ok (.iload 6, 2) := by decide +kernel
theorem dX6_ahead_129 : decode cX6_ahead 129 = .ok (.ireturn, 1) := by decide +kernel
theorem dX6_ifRun_0 : decode cX6_ifRun 0 = .ok (.iload_n 1, 1) := by decide +kernel
theorem dX6_ifRun_1 : decode cX6_ifRun 1 = .ok (.iconst 1, 1) := by decide +kernel
theorem dX6_ifRun_2 : decode cX6_ifRun 2 = .ok (.sipush 200, 3) := by decide +kernel
theorem dX6_ifRun_5 : decode cX6_ifRun 5 = .ok (.invokestatic 29, 3) := by decide +kernel
theorem dX6_ifRun_8 : decode cX6_ifRun 8 = .ok (.ifCond .eq 21, 3) := by decide +kernel
theorem dX6_ifRun_11 : decode cX6_ifRun 11 = .ok (.iload_n 2, 1) := by decide +kernel
theorem dX6_ifRun_12 : decode cX6_ifRun 12 = .ok (.iconst 0, 1) := by decide +kernel
theorem dX6_ifRun_13 : decode cX6_ifRun 13 = .ok (.iconst 3, 1) := by decide +kernel
theorem dX6_ifRun_14 : decode cX6_ifRun 14 = .ok (.invokestatic 29, 3) := by decide +kernel
theorem dX6_ifRun_17 : decode cX6_ifRun 17 = .ok (.ifCond .eq 12, 3) := by decide +kernel
theorem dX6_ifRun_20 : decode cX6_ifRun 20 = .ok (.aload_n 0, 1) := by decide +kernel
theorem dX6_ifRun_21 : decode cX6_ifRun 21 = .ok (.iload_n 1, 1) := by decide +kernel
theorem dX6_ifRun_22 : decode cX6_ifRun 22 = .ok (.iload_n 2, 1) := by decide +kernel
theorem dX6_ifRun_23 : decode cX6_ifRun 23 = .ok (.invokevirtual 157, 3) := by decide +kernel
theorem dX6_ifRun_26 : decode cX6_ifRun 26 = .ok (.goto 5, 3) := by decide +kernel
theorem dX6_ifRun_29 : decode cX6_ifRun 29 = .ok (.bipush (-2), 2) := by decide +kernel
theorem dX6_ifRun_31 : decode cX6_ifRun 31 = .ok (.ireturn, 1) := by decide +kernel
theorem dX6_ticksUntil_0 : decode cX6_ticksUntil 0 = .ok (.aload_n 0, 1) := by decide +kernel
theorem dX6_ticksUntil_1 : decode cX6_ticksUntil 1 = .ok (.aload_n 0, 1) := by decide +kernel
theorem dX6_ticksUntil_2 : decode cX6_ticksUntil 2 = .ok (.getfield 7, 3) := by decide +kernel
theorem dX6_ticksUntil_5 : decode cX6_ticksUntil 5 = .ok (.iconst 0, 1) := by decide +kernel
theorem dX6_ticksUntil_6 : decode cX6_ticksUntil 6 = .ok (.aload_n 0, 1) := by decide +kernel
theorem dX6_ticksUntil_7 : decode cX6_ticksUntil 7 = .ok (.getfield 13, 3) := by decide +kernel
theorem dX6_ticksUntil_10 : decode cX6_ticksUntil 10 = .ok (.iconst 0, 1) := by decide +kernel
theorem dX6_ticksUntil_11 : decode cX6_ticksUntil 11 = .ok (.invokevirtual 37, 3) := by decide +kernel
theorem dX6_ticksUntil_14 : decode cX6_ticksUntil 14 = .ok (.aload_n 0, 1) := by decide +kernel
theorem dX6_ticksUntil_15 : decode cX6_ticksUntil 15 = .ok (.iconst 5, 1) := by decide +kernel
theorem dX6_ticksUntil_16 : decode cX6_ticksUntil 16 = .ok (.invokevirtual 72, 3) := by decide +kernel
theorem dX6_ticksUntil_19 : decode cX6_ticksUntil 19 = .ok (.iload_n 1, 1) := by decide +kernel
theorem dX6_ticksUntil_20 : decode cX6_ticksUntil 20 = .ok (.iadd, 1) := by decide +kernel
theorem dX6_ticksUntil_21 : decode cX6_ticksUntil 21 = .ok (.istore_n 2, 1) := by decide +kernel
theorem dX6_ticksUntil_22 : decode cX6_ticksUntil 22 = .ok (.iconst 0, 1) := by decide +kernel
theorem dX6_ticksUntil_23 : decode cX6_ticksUntil 23 = .ok (.istore_n 3, 1) := by decide +kernel
theorem dX6_ticksUntil_24 : decode cX6_ticksUntil 24 = .ok (.iload_n 3, 1) := by decide +kernel
theorem dX6_ticksUntil_25 : decode cX6_ticksUntil 25 = .ok (.sipush 500, 3) := by decide +kernel
theorem dX6_ticksUntil_28 : decode cX6_ticksUntil 28 = .ok (.if_icmp .ge 22, 3) := by decide +kernel
theorem dX6_ticksUntil_31 : decode cX6_ticksUntil 31 = .ok (.aload_n 0, 1) := by decide +kernel
theorem dX6_ticksUntil_32 : decode cX6_ticksUntil 32 = .ok (.iconst 5, 1) := by decide +kernel
theorem dX6_ticksUntil_33 : decode cX6_ticksUntil 33 = .ok (.invokevirtual 72, 3) := by decide +kernel
theorem dX6_ticksUntil_36 : decode cX6_ticksUntil 36 = .ok (.iload_n 2, 1) := by decide +kernel
theorem dX6_ticksUntil_37 : decode cX6_ticksUntil 37 = .ok (.if_icmp .ge 13, 3) := by decide +kernel
theorem dX6_ticksUntil_40 : decode cX6_ticksUntil 40 = .ok (.aload_n 0, 1) := by decide +kernel
theorem dX6_ticksUntil_41 : decode cX6_ticksUntil 41 = .ok (.invokevirtual 124, 3) := by decide +kernel
theorem dX6_ticksUntil_44 : decode cX6_ticksUntil 44 = .ok (.iinc 3 1, 3) := by decide +kernel
theorem dX6_ticksUntil_47 : decode cX6_ticksUntil 47 = .ok (.goto (-23), 3) := by decide +kernel
theorem dX6_ticksUntil_50 : decode cX6_ticksUntil 50 = .ok (.aload_n 0, 1) := by decide +kernel
theorem dX6_ticksUntil_51 : decode cX6_ticksUntil 51 = .ok (.iconst 5, 1) := by decide +kernel
theorem dX6_ticksUntil_52 : decode cX6_ticksUntil 52 = .ok (.invokevirtual 72, 3) := by decide +kernel
theorem dX6_ticksUntil_55 : decode cX6_ticksUntil 55 = .ok (.iload_n 2, 1) := by decide +kernel
theorem dX6_ticksUntil_56 : decode cX6_ticksUntil 56 = .ok (.if_icmp .ge 7, 3) := by decide +kernel
theorem dX6_ticksUntil_59 : decode cX6_ticksUntil 59 = .ok (.iconst (-1), 1) := by decide +kernel
theorem dX6_ticksUntil_60 : decode cX6_ticksUntil 60 = .ok (.goto 4, 3) := by decide +kernel
theorem dX6_ticksUntil_63 : decode cX6_ticksUntil 63 = .ok (.iload_n 3, 1) := by decide +kernel
theorem dX6_ticksUntil_64 : decode cX6_ticksUntil 64 = .ok (.istore 4, 2) := by decide +kernel
theorem dX6_ticksUntil_66 : decode cX6_ticksUntil 66 = .ok (.aload_n 0, 1) := by decide +kernel
theorem dX6_ticksUntil_67 : decode cX6_ticksUntil 67 = .ok (.aload_n 0, 1) := by decide +kernel
theorem dX6_ticksUntil_68 : decode cX6_ticksUntil 68 = .ok (.getfield 13, 3) := by decide +kernel
theorem dX6_ticksUntil_71 : decode cX6_ticksUntil 71 = .ok (.iconst 0, 1) := by decide +kernel
theorem dX6_ticksUntil_72 : decode cX6_ticksUntil 72 = .ok (.aload_n 0, 1) := by decide +kernel
theorem dX6_ticksUntil_73 : decode cX6_ticksUntil 73 = .ok (.getfield 7, 3) := by decide +kernel
theorem dX6_ticksUntil_76 : decode cX6_ticksUntil 76 = .ok (.iconst 0, 1) := by decide +kernel
theorem dX6_ticksUntil_77 : decode cX6_ticksUntil 77 = .ok (.invokevirtual 37, 3) := by decide +kernel
theorem dX6_ticksUntil_80 : decode cX6_ticksUntil 80 = .ok (.iload 4, 2) := by decide +kernel
theorem dX6_ticksUntil_82 : decode cX6_ticksUntil 82 = .ok (.ireturn, 1) := by decide +kernel
theorem dX6_ticksFor_0 : decode cX6_ticksFor 0 = .ok (.iload_n 1, 1) := by decide +kernel
theorem dX6_ticksFor_1 : decode cX6_ticksFor 1 = .ok (.iconst 1, 1) := by decide +kernel
theorem dX6_ticksFor_2 : decode cX6_ticksFor 2 = .ok (.sipush 1000, 3) := by decide +kernel
theorem dX6_ticksFor_5 : decode cX6_ticksFor 5 = .ok (.invokestatic 29, 3) := by decide +kernel
theorem dX6_ticksFor_8 : decode cX6_ticksFor 8 = .ok (.ifCond .eq 11, 3) := by decide +kernel
theorem dX6_ticksFor_11 : decode cX6_ticksFor 11 = .ok (.aload_n 0, 1) := by decide +kernel
theorem dX6_ticksFor_12 : decode cX6_ticksFor 12 = .ok (.iload_n 1, 1) := by decide +kernel
theorem dX6_ticksFor_13 : decode cX6_ticksFor 13 = .ok (.invokevirtual 160, 3) := by decide +kernel
theorem dX6_ticksFor_16 : decode cX6_ticksFor 16 = .ok (.goto 5, 3) := by decide +kernel
theorem dX6_ticksFor_19 : decode cX6_ticksFor 19 = .ok (.bipush (-2), 2) := by decide +kernel
theorem dX6_ticksFor_21 : decode cX6_ticksFor 21 = .ok (.ireturn, 1) := by decide +kernel
theorem dX6_best_0 : decode cX6_best 0 = .ok (.aload_n 0, 1) := by decide +kernel
theorem dX6_best_1 : decode cX6_best 1 = .ok (.getfield 7, 3) := by decide +kernel
theorem dX6_best_4 : decode cX6_best 4 = .ok (.iload_n 1, 1) := by decide +kernel
theorem dX6_best_5 : decode cX6_best 5 = .ok (.iaload, 1) := by decide +kernel
theorem dX6_best_6 : decode cX6_best 6 = .ok (.istore 5, 2) := by decide +kernel
theorem dX6_best_8 : decode cX6_best 8 = .ok (.iload_n 2, 1) := by decide +kernel
theorem dX6_best_9 : decode cX6_best 9 = .ok (.istore 6, 2) := by decide +kernel
theorem dX6_best_11 : decode cX6_best 11 = .ok (.iconst (-1), 1) := by decide +kernel
theorem dX6_best_12 : decode cX6_best 12 = .ok (.istore 7, 2) := by decide +kernel
theorem dX6_best_14 : decode cX6_best 14 = .ok (.iload_n 2, 1) := by decide +kernel
theorem dX6_best_15 : decode cX6_best 15 = .ok (.istore 8, 2) := by decide +kernel
theorem dX6_best_17 : decode cX6_best 17 = .ok (.iload 8, 2) := by decide +kernel
theorem dX6_best_19 : decode cX6_best 19 = .ok (.iload_n 3, 1) := by decide +kernel
theorem dX6_best_20 : decode cX6_best 20 = .ok (.if_icmp .gt 58, 3) := by decide +kernel
theorem dX6_best_23 : decode cX6_best 23 = .ok (.aload_n 0, 1) := by decide +kernel
theorem dX6_best_24 : decode cX6_best 24 = .ok (.getfield 7, 3) := by decide +kernel
theorem dX6_best_27 : decode cX6_best 27 = .ok (.iload_n 1, 1) := by decide +kernel
theorem dX6_best_28 : decode cX6_best 28 = .ok (.iload 8, 2) := by decide +kernel
theorem dX6_best_30 : decode cX6_best 30 = .ok (.iastore, 1) := by decide +kernel
theorem dX6_best_31 : decode cX6_best 31 = .ok (.aload_n 0, 1) := by decide +kernel
theorem dX6_best_32 : decode cX6_best 32 = .ok (.iload 4, 2) := by decide +kernel
theorem dX6_best_34 : decode cX6_best 34 = .ok (.iconst 0, 1) := by decide +kernel
theorem dX6_best_35 : decode cX6_best 35 = .ok (.invokevirtual 157, 3) := by decide +kernel
theorem dX6_best_38 : decode cX6_best 38 = .ok (.istore 9, 2) := by decide +kernel
theorem dX6_best_40 : decode cX6_best 40 = .ok (.iload 9, 2) := by decide +kernel
theorem dX6_best_42 : decode cX6_best 42 = .ok (.iload 7, 2) := by decide +kernel
theorem dX6_best_44 : decode cX6_best 44 = .ok (.if_icmp .le 8, 3) := by decide +kernel
theorem dX6_best_47 : decode cX6_best 47 = .ok (.iload 8, 2) := by decide +kernel
theorem dX6_best_49 : decode cX6_best 49 = .ok (.goto 5, 3) := by decide +kernel
theorem dX6_best_52 : decode cX6_best 52 = .ok (.iload 6, 2) := by decide +kernel
theorem dX6_best_54 : decode cX6_best 54 = .ok (.istore 6, 2) := by decide +kernel
theorem dX6_best_56 : decode cX6_best 56 = .ok (.iload 9, 2) := by decide +kernel
theorem dX6_best_58 : decode cX6_best 58 = .ok (.iload 7, 2) := by decide +kernel
theorem dX6_best_60 : decode cX6_best 60 = .ok (.if_icmp .le 8, 3) := by decide +kernel
theorem dX6_best_63 : decode cX6_best 63 = .ok (.iload 9, 2) := by decide +kernel
theorem dX6_best_65 : decode cX6_best 65 = .ok (.goto 5, 3) := by decide +kernel
theorem dX6_best_68 : decode cX6_best 68 = .ok (.iload 7, 2) := by decide +kernel
theorem dX6_best_70 : decode cX6_best 70 = .ok (.istore 7, 2) := by decide +kernel
theorem dX6_best_72 : decode cX6_best 72 = .ok (.iinc 8 1, 3) := by decide +kernel
theorem dX6_best_75 : decode cX6_best 75 = .ok (.goto (-58), 3) := by decide +kernel
theorem dX6_best_78 : decode cX6_best 78 = .ok (.aload_n 0, 1) := by decide +kernel
theorem dX6_best_79 : decode cX6_best 79 = .ok (.getfield 7, 3) := by decide +kernel
theorem dX6_best_82 : decode cX6_best 82 = .ok (.iload_n 1, 1) := by decide +kernel
theorem dX6_best_83 : decode cX6_best 83 = .ok (.iload 5, 2) := by decide +kernel
theorem dX6_best_85 : decode cX6_best 85 = .ok (.iastore, 1) := by decide +kernel
theorem dX6_best_86 : decode cX6_best 86 = .ok (.iload 6, 2) := by decide +kernel
theorem dX6_best_88 : decode cX6_best 88 = .ok (.ireturn, 1) := by decide +kernel
theorem dX6_bestRule_0 : decode cX6_bestRule 0 = .ok (.iload_n 1, 1) := by decide +kernel
theorem dX6_bestRule_1 : decode cX6_bestRule 1 = .ok (.iconst 1, 1) := by decide +kernel
theorem dX6_bestRule_2 : decode cX6_bestRule 2 = .ok (.sipush 200, 3) := by decide +kernel
theorem dX6_bestRule_5 : decode cX6_bestRule 5 = .ok (.invokestatic 29, 3) := by decide +kernel
theorem dX6_bestRule_8 : decode cX6_bestRule 8 = .ok (.ifCond .eq 15, 3) := by decide +kernel
theorem dX6_bestRule_11 : decode cX6_bestRule 11 = .ok (.aload_n 0, 1) := by decide +kernel
theorem dX6_bestRule_12 : decode cX6_bestRule 12 = .ok (.bipush 77, 2) := by decide +kernel
theorem dX6_bestRule_14 : decode cX6_bestRule 14 = .ok (.iconst 0, 1) := by decide +kernel
theorem dX6_bestRule_15 : decode cX6_bestRule 15 = .ok (.iconst 2, 1) := by decide +kernel
theorem dX6_bestRule_16 : decode cX6_bestRule 16 = .ok (.iload_n 1, 1) := by decide +kernel
theorem dX6_bestRule_17 : decode cX6_bestRule 17 = .ok (.invokevirtual 163, 3) := by decide +kernel
theorem dX6_bestRule_20 : decode cX6_bestRule 20 = .ok (.goto 5, 3) := by decide +kernel
theorem dX6_bestRule_23 : decode cX6_bestRule 23 = .ok (.bipush (-2), 2) := by decide +kernel
theorem dX6_bestRule_25 : decode cX6_bestRule 25 = .ok (.ireturn, 1) := by decide +kernel
theorem dX6_bestLoad_0 : decode cX6_bestLoad 0 = .ok (.aload_n 0, 1) := by decide +kernel
theorem dX6_bestLoad_1 : decode cX6_bestLoad 1 = .ok (.iload_n 1, 1) := by decide +kernel
theorem dX6_bestLoad_2 : decode cX6_bestLoad 2 = .ok (.invokevirtual 80, 3) := by decide +kernel
theorem dX6_bestLoad_5 : decode cX6_bestLoad 5 = .ok (.ifCond .eq 34, 3) := by decide +kernel
theorem dX6_bestLoad_8 : decode cX6_bestLoad 8 = .ok (.iload_n 2, 1) := by decide +kernel
theorem dX6_bestLoad_9 : decode cX6_bestLoad 9 = .ok (.iconst 1, 1) := by decide +kernel
theorem dX6_bestLoad_10 : decode cX6_bestLoad 10 = .ok (.sipush 200, 3) := by decide +kernel
theorem dX6_bestLoad_13 : decode cX6_bestLoad 13 = .ok (.invokestatic 29, 3) := by decide +kernel
theorem dX6_bestLoad_16 : decode cX6_bestLoad 16 = .ok (.ifCond .eq 23, 3) := by decide +kernel
theorem dX6_bestLoad_19 : decode cX6_bestLoad 19 = .ok (.aload_n 0, 1) := by decide +kernel
theorem dX6_bestLoad_20 : decode cX6_bestLoad 20 = .ok (.bipush 36, 2) := by decide +kernel
theorem dX6_bestLoad_22 : decode cX6_bestLoad 22 = .ok (.bipush 9, 2) := by decide +kernel
theorem dX6_bestLoad_24 : decode cX6_bestLoad 24 = .ok (.iload_n 1, 1) := by decide +kernel
theorem dX6_bestLoad_25 : decode cX6_bestLoad 25 = .ok (.imul, 1) := by decide +kernel
theorem dX6_bestLoad_26 : decode cX6_bestLoad 26 = .ok (.iadd, 1) := by decide +kernel
theorem dX6_bestLoad_27 : decode cX6_bestLoad 27 = .ok (.iconst 1, 1) := by decide +kernel
theorem dX6_bestLoad_28 : decode cX6_bestLoad 28 = .ok (.iadd, 1) := by decide +kernel
theorem dX6_bestLoad_29 : decode cX6_bestLoad 29 = .ok (.iconst 1, 1) := by decide +kernel
theorem dX6_bestLoad_30 : decode cX6_bestLoad 30 = .ok (.bipush 20, 2) := by decide +kernel
theorem dX6_bestLoad_32 : decode cX6_bestLoad 32 = .ok (.iload_n 2, 1) := by decide +kernel
theorem dX6_bestLoad_33 : decode cX6_bestLoad 33 = .ok (.invokevirtual 163, 3) := by decide +kernel
theorem dX6_bestLoad_36 : decode cX6_bestLoad 36 = .ok (.goto 5, 3) := by decide +kernel
theorem dX6_bestLoad_39 : decode cX6_bestLoad 39 = .ok (.bipush (-2), 2) := by decide +kernel
theorem dX6_bestLoad_41 : decode cX6_bestLoad 41 = .ok (.ireturn, 1) := by decide +kernel
theorem dX6_meanSinking_0 : decode cX6_meanSinking 0 = .ok (.iconst 0, 1) := by decide +kernel
theorem dX6_meanSinking_1 : decode cX6_meanSinking 1 = .ok (.istore_n 1, 1) := by decide +kernel
theorem dX6_meanSinking_2 : decode cX6_meanSinking 2 = .ok (.iconst 0, 1) := by decide +kernel
theorem dX6_meanSinking_3 : decode cX6_meanSinking 3 = .ok (.istore_n 2, 1) := by decide +kernel
theorem dX6_meanSinking_4 : decode cX6_meanSinking 4 = .ok (.iload_n 2, 1) := by decide +kernel
theorem dX6_meanSinking_5 : decode cX6_meanSinking 5 = .ok (.aload_n 0, 1) := by decide +kernel
theorem dX6_meanSinking_6 : decode cX6_meanSinking 6 = .ok (.getfield 7, 3) := by decide +kernel
theorem dX6_meanSinking_9 : decode cX6_meanSinking 9 = .ok (.bipush 72, 2) := by decide +kernel
theorem dX6_meanSinking_11 : decode cX6_meanSinking 11 = .ok (.iaload, 1) := by decide +kernel
theorem dX6_meanSinking_12 : decode cX6_meanSinking 12 = .ok (.if_icmp .ge 18, 3) := by decide +kernel
theorem dX6_meanSinking_15 : decode cX6_meanSinking 15 = .ok (.iload_n 1, 1) := by decide +kernel
theorem dX6_meanSinking_16 : decode cX6_meanSinking 16 = .ok (.aload_n 0, 1) := by decide +kernel
theorem dX6_meanSinking_17 : decode cX6_meanSinking 17 = .ok (.iload_n 2, 1) := by decide +kernel
theorem dX6_meanSinking_18 : decode cX6_meanSinking 18 = .ok (.iconst 2, 1) := by decide +kernel
theorem dX6_meanSinking_19 : decode cX6_meanSinking 19 = .ok (.invokevirtual 83, 3) := by decide +kernel
theorem dX6_meanSinking_22 : decode cX6_meanSinking 22 = .ok (.iadd, 1) := by decide +kernel
theorem dX6_meanSinking_23 : decode cX6_meanSinking 23 = .ok (.istore_n 1, 1) := by decide +kernel
theorem dX6_meanSinking_24 : decode cX6_meanSinking 24 = .ok (.iinc 2 1, 3) := by decide +kernel
theorem dX6_meanSinking_27 : decode cX6_meanSinking 27 = .ok (.goto (-23), 3) := by decide +kernel
theorem dX6_meanSinking_30 : decode cX6_meanSinking 30 = .ok (.iload_n 1, 1) := by decide +kernel
theorem dX6_meanSinking_31 : decode cX6_meanSinking 31 = .ok (.i2d, 1) := by decide +kernel
theorem dX6_meanSinking_32 : decode cX6_meanSinking 32 = .ok (.aload_n 0, 1) := by decide +kernel
theorem dX6_meanSinking_33 : decode cX6_meanSinking 33 = .ok (.getfield 7, 3) := by decide +kernel
theorem dX6_meanSinking_36 : decode cX6_meanSinking 36 = .ok (.bipush 72, 2) := by decide +kernel
theorem dX6_meanSinking_38 : decode cX6_meanSinking 38 = .ok (.iaload, 1) := by decide +kernel
theorem dX6_meanSinking_39 : decode cX6_meanSinking 39 = .ok (.i2d, 1) := by decide +kernel
theorem dX6_meanSinking_40 : decode cX6_meanSinking 40 = .ok (.ddiv, 1) := by decide +kernel
theorem dX6_meanSinking_41 : decode cX6_meanSinking 41 = .ok (.dreturn, 1) := by decide +kernel
theorem dX6_mix_0 : decode cX6_mix 0 = .ok (.aload_n 0, 1) := by decide +kernel
theorem dX6_mix_1 : decode cX6_mix 1 = .ok (.ldc2_w 167, 3) := by decide +kernel
theorem dX6_mix_4 : decode cX6_mix 4 = .ok (.aload_n 0, 1) := by decide +kernel
theorem dX6_mix_5 : decode cX6_mix 5 = .ok (.getfield 169, 3) := by decide +kernel
theorem dX6_mix_8 : decode cX6_mix 8 = .ok (.lmul, 1) := by decide +kernel
theorem dX6_mix_9 : decode cX6_mix 9 = .ok (.lload_n 1, 1) := by decide +kernel
theorem dX6_mix_10 : decode cX6_mix 10 = .ok (.ladd, 1) := by decide +kernel
theorem dX6_mix_11 : decode cX6_mix 11 = .ok (.putfield 169, 3) := by decide +kernel
theorem dX6_mix_14 : decode cX6_mix 14 = .ok (.return_, 1) := by decide +kernel
theorem dX6_digest_0 : decode cX6_digest 0 = .ok (.aload_n 0, 1) := by decide +kernel
theorem dX6_digest_1 : decode cX6_digest 1 = .ok (.ldc2_w 173, 3) := by decide +kernel
theorem dX6_digest_4 : decode cX6_digest 4 = .ok (.putfield 169, 3) := by decide +kernel
theorem dX6_digest_7 : decode cX6_digest 7 = .ok (.iconst 0, 1) := by decide +kernel
theorem dX6_digest_8 : decode cX6_digest 8 = .ok (.istore_n 1, 1) := by decide +kernel
theorem dX6_digest_9 : decode cX6_digest 9 = .ok (.iload_n 1, 1) := by decide +kernel
theorem dX6_digest_10 : decode cX6_digest 10 = .ok (.bipush 8, 2) := by decide +kernel
theorem dX6_digest_12 : decode cX6_digest 12 = .ok (.if_icmp .ge 19, 3) := by decide +kernel
theorem dX6_digest_15 : decode cX6_digest 15 = .ok (.aload_n 0, 1) := by decide +kernel
theorem dX6_digest_16 : decode cX6_digest 16 = .ok (.aload_n 0, 1) := by decide +kernel
theorem dX6_digest_17 : decode cX6_digest 17 = .ok (.iload_n 1, 1) := by decide +kernel
theorem dX6_digest_18 : decode cX6_digest 18 = .ok (.invokevirtual 154, 3) := by decide +kernel
theorem dX6_digest_21 : decode cX6_digest 21 = .ok (.i2l, 1) := by decide +kernel
theorem dX6_digest_22 : decode cX6_digest 22 = .ok (.invokevirtual 175, 3) := by decide +kernel
theorem dX6_digest_25 : decode cX6_digest 25 = .ok (.iinc 1 1, 3) := by decide +kernel
theorem dX6_digest_28 : decode cX6_digest 28 = .ok (.goto (-19), 3) := by decide +kernel
theorem dX6_digest_31 : decode cX6_digest 31 = .ok (.iconst 0, 1) := by decide +kernel
theorem dX6_digest_32 : decode cX6_digest 32 = .ok (.istore_n 1, 1) := by decide +kernel
theorem dX6_digest_33 : decode cX6_digest 33 = .ok (.iload_n 1, 1) := by decide +kernel
theorem dX6_digest_34 : decode cX6_digest 34 = .ok (.iconst 3, 1) := by decide +kernel
theorem dX6_digest_35 : decode cX6_digest 35 = .ok (.if_icmp .ge 19, 3) := by decide +kernel
theorem dX6_digest_38 : decode cX6_digest 38 = .ok (.aload_n 0, 1) := by decide +kernel
theorem dX6_digest_39 : decode cX6_digest 39 = .ok (.aload_n 0, 1) := by decide +kernel
theorem dX6_digest_40 : decode cX6_digest 40 = .ok (.iload_n 1, 1) := by decide +kernel
theorem dX6_digest_41 : decode cX6_digest 41 = .ok (.invokevirtual 72, 3) := by decide +kernel
theorem dX6_digest_44 : decode cX6_digest 44 = .ok (.i2l, 1) := by decide +kernel
theorem dX6_digest_45 : decode cX6_digest 45 = .ok (.invokevirtual 175, 3) := by decide +kernel
theorem dX6_digest_48 : decode cX6_digest 48 = .ok (.iinc 1 1, 3) := by decide +kernel
theorem dX6_digest_51 : decode cX6_digest 51 = .ok (.goto (-18), 3) := by decide +kernel
theorem dX6_digest_54 : decode cX6_digest 54 = .ok (.iconst 0, 1) := by decide +kernel
theorem dX6_digest_55 : decode cX6_digest 55 = .ok (.istore_n 1, 1) := by decide +kernel
theorem dX6_digest_56 : decode cX6_digest 56 = .ok (.iload_n 1, 1) := by decide +kernel
theorem dX6_digest_57 : decode cX6_digest 57 = .ok (.iconst 5, 1) := by decide +kernel
theorem dX6_digest_58 : decode cX6_digest 58 = .ok (.if_icmp .ge 19, 3) := by decide +kernel
theorem dX6_digest_61 : decode cX6_digest 61 = .ok (.aload_n 0, 1) := by decide +kernel
theorem dX6_digest_62 : decode cX6_digest 62 = .ok (.aload_n 0, 1) := by decide +kernel
theorem dX6_digest_63 : decode cX6_digest 63 = .ok (.iload_n 1, 1) := by decide +kernel
theorem dX6_digest_64 : decode cX6_digest 64 = .ok (.invokevirtual 142, 3) := by decide +kernel
theorem dX6_digest_67 : decode cX6_digest 67 = .ok (.i2l, 1) := by decide +kernel
theorem dX6_digest_68 : decode cX6_digest 68 = .ok (.invokevirtual 175, 3) := by decide +kernel
theorem dX6_digest_71 : decode cX6_digest 71 = .ok (.iinc 1 1, 3) := by decide +kernel
theorem dX6_digest_74 : decode cX6_digest 74 = .ok (.goto (-18), 3) := by decide +kernel
theorem dX6_digest_77 : decode cX6_digest 77 = .ok (.iconst 0, 1) := by decide +kernel
theorem dX6_digest_78 : decode cX6_digest 78 = .ok (.istore_n 1, 1) := by decide +kernel
theorem dX6_digest_79 : decode cX6_digest 79 = .ok (.iload_n 1, 1) := by decide +kernel
theorem dX6_digest_80 : decode cX6_digest 80 = .ok (.bipush 7, 2) := by decide +kernel
theorem dX6_digest_82 : decode cX6_digest 82 = .ok (.aload_n 0, 1) := by decide +kernel
theorem dX6_digest_83 : decode cX6_digest 83 = .ok (.getfield 7, 3) := by decide +kernel
theorem dX6_digest_86 : decode cX6_digest 86 = .ok (.bipush 72, 2) := by decide +kernel
theorem dX6_digest_88 : decode cX6_digest 88 = .ok (.iaload, 1) := by decide +kernel
theorem dX6_digest_89 : decode cX6_digest 89 = .ok (.imul, 1) := by decide +kernel
theorem dX6_digest_90 : decode cX6_digest 90 = .ok (.if_icmp .ge 26, 3) := by decide +kernel
theorem dX6_digest_93 : decode cX6_digest 93 = .ok (.aload_n 0, 1) := by decide +kernel
theorem dX6_digest_94 : decode cX6_digest 94 = .ok (.aload_n 0, 1) := by decide +kernel
theorem dX6_digest_95 : decode cX6_digest 95 = .ok (.iload_n 1, 1) := by decide +kernel
theorem dX6_digest_96 : decode cX6_digest 96 = .ok (.bipush 7, 2) := by decide +kernel
theorem dX6_digest_98 : decode cX6_digest 98 = .ok (.idiv, 1) := by decide +kernel
theorem dX6_digest_99 : decode cX6_digest 99 = .ok (.iload_n 1, 1) := by decide +kernel
theorem dX6_digest_100 : decode cX6_digest 100 = .ok (.bipush 7, 2) := by decide +kernel
theorem dX6_digest_102 : decode cX6_digest 102 = .ok (.irem, 1) := by decide +kernel
theorem dX6_digest_103 : decode cX6_digest 103 = .ok (.invokevirtual 136, 3) := by decide +kernel
theorem dX6_digest_106 : decode cX6_digest 106 = .ok (.i2l, 1) := by decide +kernel
theorem dX6_digest_107 : decode cX6_digest 107 = .ok (.invokevirtual 175, 3) := by decide +kernel
theorem dX6_digest_110 : decode cX6_digest 110 = .ok (.iinc 1 1, 3) := by decide +kernel
theorem dX6_digest_113 : decode cX6_digest 113 = .ok (.goto (-34), 3) := by decide +kernel
theorem dX6_digest_116 : decode cX6_digest 116 = .ok (.iconst 0, 1) := by decide +kernel
theorem dX6_digest_117 : decode cX6_digest 117 = .ok (.istore_n 1, 1) := by decide +kernel
theorem dX6_digest_118 : decode cX6_digest 118 = .ok (.iload_n 1, 1) := by decide +kernel
theorem dX6_digest_119 : decode cX6_digest 119 = .ok (.aload_n 0, 1) := by decide +kernel
theorem dX6_digest_120 : decode cX6_digest 120 = .ok (.getfield 7, 3) := by decide +kernel
theorem dX6_digest_123 : decode cX6_digest 123 = .ok (.bipush 73, 2) := by decide +kernel
theorem dX6_digest_125 : decode cX6_digest 125 = .ok (.iaload, 1) := by decide +kernel
theorem dX6_digest_126 : decode cX6_digest 126 = .ok (.if_icmp .ge 44, 3) := by decide +kernel
theorem dX6_digest_129 : decode cX6_digest 129 = .ok (.iconst 0, 1) := by decide +kernel
theorem dX6_digest_130 : decode cX6_digest 130 = .ok (.istore_n 2, 1) := by decide +kernel
theorem dX6_digest_131 : decode cX6_digest 131 = .ok (.iload_n 2, 1) := by decide +kernel
theorem dX6_digest_132 : decode cX6_digest 132 = .ok (.bipush 10, 2) := by decide +kernel
theorem dX6_digest_134 : decode cX6_digest 134 = .ok (.if_icmp .ge 20, 3) := by decide +kernel
theorem dX6_digest_137 : decode cX6_digest 137 = .ok (.aload_n 0, 1) := by decide +kernel
theorem dX6_digest_138 : decode cX6_digest 138 = .ok (.aload_n 0, 1) := by decide +kernel
theorem dX6_digest_139 : decode cX6_digest 139 = .ok (.iload_n 1, 1) := by decide +kernel
theorem dX6_digest_140 : decode cX6_digest 140 = .ok (.iload_n 2, 1) := by decide +kernel
theorem dX6_digest_141 : decode cX6_digest 141 = .ok (.invokevirtual 139, 3) := by decide +kernel
theorem dX6_digest_144 : decode cX6_digest 144 = .ok (.i2l, 1) := by decide +kernel
theorem dX6_digest_145 : decode cX6_digest 145 = .ok (.invokevirtual 175, 3) := by decide +kernel
theorem dX6_digest_148 : decode cX6_digest 148 = .ok (.iinc 2 1, 3) := by decide +kernel
theorem dX6_digest_151 : decode cX6_digest 151 = .ok (.goto (-20), 3) := by decide +kernel
theorem dX6_digest_154 : decode cX6_digest 154 = .ok (.aload_n 0, 1) := by decide +kernel
theorem dX6_digest_155 : decode cX6_digest 155 = .ok (.aload_n 0, 1) := by decide +kernel
theorem dX6_digest_156 : decode cX6_digest 156 = .ok (.iload_n 1, 1) := by decide +kernel
theorem dX6_digest_157 : decode cX6_digest 157 = .ok (.invokevirtual 108, 3) := by decide +kernel
theorem dX6_digest_160 : decode cX6_digest 160 = .ok (.i2l, 1) := by decide +kernel
theorem dX6_digest_161 : decode cX6_digest 161 = .ok (.invokevirtual 175, 3) := by decide +kernel
theorem dX6_digest_164 : decode cX6_digest 164 = .ok (.iinc 1 1, 3) := by decide +kernel
theorem dX6_digest_167 : decode cX6_digest 167 = .ok (.goto (-49), 3) := by decide +kernel
theorem dX6_digest_170 : decode cX6_digest 170 = .ok (.iconst 0, 1) := by decide +kernel
theorem dX6_digest_171 : decode cX6_digest 171 = .ok (.istore_n 1, 1) := by decide +kernel
theorem dX6_digest_172 : decode cX6_digest 172 = .ok (.iload_n 1, 1) := by decide +kernel
theorem dX6_digest_173 : decode cX6_digest 173 = .ok (.iconst 4, 1) := by decide +kernel
theorem dX6_digest_174 : decode cX6_digest 174 = .ok (.if_icmp .ge 21, 3) := by decide +kernel
theorem dX6_digest_177 : decode cX6_digest 177 = .ok (.aload_n 0, 1) := by decide +kernel
theorem dX6_digest_178 : decode cX6_digest 178 = .ok (.aload_n 0, 1) := by decide +kernel
theorem dX6_digest_179 : decode cX6_digest 179 = .ok (.bipush 50, 2) := by decide +kernel
theorem dX6_digest_181 : decode cX6_digest 181 = .ok (.iload_n 1, 1) := by decide +kernel
theorem dX6_digest_182 : decode cX6_digest 182 = .ok (.invokevirtual 157, 3) := by decide +kernel
theorem dX6_digest_185 : decode cX6_digest 185 = .ok (.i2l, 1) := by decide +kernel
theorem dX6_digest_186 : decode cX6_digest 186 = .ok (.invokevirtual 175, 3) := by decide +kernel
theorem dX6_digest_189 : decode cX6_digest 189 = .ok (.iinc 1 1, 3) := by decide +kernel
theorem dX6_digest_192 : decode cX6_digest 192 = .ok (.goto (-20), 3) := by decide +kernel
theorem dX6_digest_195 : decode cX6_digest 195 = .ok (.aload_n 0, 1) := by decide +kernel
theorem dX6_digest_196 : decode cX6_digest 196 = .ok (.aload_n 0, 1) := by decide +kernel
theorem dX6_digest_197 : decode cX6_digest 197 = .ok (.invokevirtual 179, 3) := by decide +kernel
theorem dX6_digest_200 : decode cX6_digest 200 = .ok (.invokestatic 183, 3) := by decide +kernel
theorem dX6_digest_203 : decode cX6_digest 203 = .ok (.invokevirtual 175, 3) := by decide +kernel
theorem dX6_digest_206 : decode cX6_digest 206 = .ok (.aload_n 0, 1) := by decide +kernel
theorem dX6_digest_207 : decode cX6_digest 207 = .ok (.aload_n 0, 1) := by decide +kernel
theorem dX6_digest_208 : decode cX6_digest 208 = .ok (.getfield 41, 3) := by decide +kernel
theorem dX6_digest_211 : decode cX6_digest 211 = .ok (.i2l, 1) := by decide +kernel
theorem dX6_digest_212 : decode cX6_digest 212 = .ok (.invokevirtual 175, 3) := by decide +kernel
theorem dX6_digest_215 : decode cX6_digest 215 = .ok (.iconst 0, 1) := by decide +kernel
theorem dX6_digest_216 : decode cX6_digest 216 = .ok (.istore_n 1, 1) := by decide +kernel
theorem dX6_digest_217 : decode cX6_digest 217 = .ok (.iload_n 1, 1) := by decide +kernel
theorem dX6_digest_218 : decode cX6_digest 218 = .ok (.aload_n 0, 1) := by decide +kernel
theorem dX6_digest_219 : decode cX6_digest 219 = .ok (.getfield 41, 3) := by decide +kernel
theorem dX6_digest_222 : decode cX6_digest 222 = .ok (.if_icmp .ge 20, 3) := by decide +kernel
theorem dX6_digest_225 : decode cX6_digest 225 = .ok (.aload_n 0, 1) := by decide +kernel
theorem dX6_digest_226 : decode cX6_digest 226 = .ok (.aload_n 0, 1) := by decide +kernel
theorem dX6_digest_227 : decode cX6_digest 227 = .ok (.getfield 22, 3) := by decide +kernel
theorem dX6_digest_230 : decode cX6_digest 230 = .ok (.iload_n 1, 1) := by decide +kernel
theorem dX6_digest_231 : decode cX6_digest 231 = .ok (.iaload, 1) := by decide +kernel
theorem dX6_digest_232 : decode cX6_digest 232 = .ok (.i2l, 1) := by decide +kernel
theorem dX6_digest_233 : decode cX6_digest 233 = .ok (.invokevirtual 175, 3) := by decide +kernel
theorem dX6_digest_236 : decode cX6_digest 236 = .ok (.iinc 1 1, 3) := by decide +kernel
theorem dX6_digest_239 : decode cX6_digest 239 = .ok (.goto (-22), 3) := by decide +kernel
theorem dX6_digest_242 : decode cX6_digest 242 = .ok (.aload_n 0, 1) := by decide +kernel
theorem dX6_digest_243 : decode cX6_digest 243 = .ok (.getfield 169, 3) := by decide +kernel
theorem dX6_digest_246 : decode cX6_digest 246 = .ok (.lreturn, 1) := by decide +kernel
theorem dJxe99ae_isNaN_b9ae7_0 : decode cJxe99ae_isNaN_b9ae7 0 = .ok (.dload_n 0, 1) := by decide +kernel
theorem dJxe99ae_isNaN_b9ae7_1 : decode cJxe99ae_isNaN_b9ae7 1 = .ok (.dload_n 0, 1) := by decide +kernel
theorem dJxe99ae_isNaN_b9ae7_2 : decode cJxe99ae_isNaN_b9ae7 2 = .ok (.dcmp .l, 1) := by decide +kernel
theorem dJxe99ae_isNaN_b9ae7_3 : decode cJxe99ae_isNaN_b9ae7 3 = .ok (.ifCond .eq 7, 3) := by decide +kernel
theorem dJxe99ae_isNaN_b9ae7_6 : decode cJxe99ae_isNaN_b9ae7 6 = .ok (.iconst 1, 1) := by decide +kernel
theorem dJxe99ae_isNaN_b9ae7_7 : decode cJxe99ae_isNaN_b9ae7 7 = .ok (.goto 4, 3) := by decide +kernel
theorem dJxe99ae_isNaN_b9ae7_10 : decode cJxe99ae_isNaN_b9ae7 10 = .ok (.iconst 0, 1) := by decide +kernel
theorem dJxe99ae_isNaN_b9ae7_11 : decode cJxe99ae_isNaN_b9ae7 11 = .ok (.ireturn, 1) := by decide +kernel
theorem dJxe99ae_doubleToLongBits_ccdee_0 : decode cJxe99ae_doubleToLongBits_ccdee 0 = .ok (.dload_n 0, 1) := by decide +kernel
theorem dJxe99ae_doubleToLongBits_ccdee_1 : decode cJxe99ae_doubleToLongBits_ccdee 1 = .ok (.invokestatic 122, 3) := by decide +kernel
theorem dJxe99ae_doubleToLongBits_ccdee_4 : decode cJxe99ae_doubleToLongBits_ccdee 4 = .ok (.ifCond .ne 8, 3) := by decide +kernel
theorem dJxe99ae_doubleToLongBits_ccdee_7 : decode cJxe99ae_doubleToLongBits_ccdee 7 = .ok (.dload_n 0, 1) := by decide +kernel
theorem dJxe99ae_doubleToLongBits_ccdee_8 : decode cJxe99ae_doubleToLongBits_ccdee 8 = .ok (.invokestatic 134, 3) := by decide +kernel
theorem dJxe99ae_doubleToLongBits_ccdee_11 : decode cJxe99ae_doubleToLongBits_ccdee 11 = .ok (.lreturn, 1) := by decide +kernel
theorem dJxe99ae_doubleToLongBits_ccdee_12 : decode cJxe99ae_doubleToLongBits_ccdee 12 = .ok (.ldc2_w 137, 3) := by decide +kernel
theorem dJxe99ae_doubleToLongBits_ccdee_15 : decode cJxe99ae_doubleToLongBits_ccdee 15 = .ok (.lreturn, 1) := by decide +kernel
theorem dJ9_max_7cf53_0 : decode cJ9_max_7cf53 0 = .ok (.iload_n 0, 1) := by decide +kernel
theorem dJ9_max_7cf53_1 : decode cJ9_max_7cf53 1 = .ok (.iload_n 1, 1) := by decide +kernel
theorem dJ9_max_7cf53_2 : decode cJ9_max_7cf53 2 = .ok (.if_icmp .lt 7, 3) := by decide +kernel
theorem dJ9_max_7cf53_5 : decode cJ9_max_7cf53 5 = .ok (.iload_n 0, 1) := by decide +kernel
theorem dJ9_max_7cf53_6 : decode cJ9_max_7cf53 6 = .ok (.goto 4, 3) := by decide +kernel
theorem dJ9_max_7cf53_9 : decode cJ9_max_7cf53 9 = .ok (.iload_n 1, 1) := by decide +kernel
theorem dJ9_max_7cf53_10 : decode cJ9_max_7cf53 10 = .ok (.ireturn, 1) := by decide +kernel
theorem dJ9_min_7cf53_0 : decode cJ9_min_7cf53 0 = .ok (.iload_n 0, 1) := by decide +kernel
theorem dJ9_min_7cf53_1 : decode cJ9_min_7cf53 1 = .ok (.iload_n 1, 1) := by decide +kernel
theorem dJ9_min_7cf53_2 : decode cJ9_min_7cf53 2 = .ok (.if_icmp .gt 7, 3) := by decide +kernel
theorem dJ9_min_7cf53_5 : decode cJ9_min_7cf53 5 = .ok (.iload_n 0, 1) := by decide +kernel
theorem dJ9_min_7cf53_6 : decode cJ9_min_7cf53 6 = .ok (.goto 4, 3) := by decide +kernel
theorem dJ9_min_7cf53_9 : decode cJ9_min_7cf53 9 = .ok (.iload_n 1, 1) := by decide +kernel
theorem dJ9_min_7cf53_10 : decode cJ9_min_7cf53 10 = .ok (.ireturn, 1) := by decide +kernel
theorem dJ0_length_8abf5_0 : decode cJ0_length_8abf5 0 = .ok (.aload_n 0, 1) := by decide +kernel
theorem dJ0_length_8abf5_1 : decode cJ0_length_8abf5 1 = .ok (.getfield 9, 3) := by decide +kernel
theorem dJ0_length_8abf5_4 : decode cJ0_length_8abf5 4 = .ok (.arraylength, 1) := by decide +kernel
theorem dJ0_length_8abf5_5 : decode cJ0_length_8abf5 5 = .ok (.aload_n 0, 1) := by decide +kernel
theorem dJ0_length_8abf5_6 : decode cJ0_length_8abf5 6 = .ok (.invokevirtual 335, 3) := by decide +kernel
theorem dJ0_length_8abf5_9 : decode cJ0_length_8abf5 9 = .ok (.ishr, 1) := by decide +kernel
theorem dJ0_length_8abf5_10 : decode cJ0_length_8abf5 10 = .ok (.ireturn, 1) := by decide +kernel
theorem dJ0_charAt_5068e_0 : decode cJ0_charAt_5068e 0 = .ok (.aload_n 0, 1) := by decide +kernel
theorem dJ0_charAt_5068e_1 : decode cJ0_charAt_5068e 1 = .ok (.invokevirtual 492, 3) := by decide +kernel
theorem dJ0_charAt_5068e_4 : decode cJ0_charAt_5068e 4 = .ok (.ifCond .eq 12, 3) := by decide +kernel
theorem dJ0_charAt_5068e_7 : decode cJ0_charAt_5068e 7 = .ok (.aload_n 0, 1) := by decide +kernel
theorem dJ0_charAt_5068e_8 : decode cJ0_charAt_5068e 8 = .ok (.getfield 9, 3) := by decide +kernel
theorem dJ0_charAt_5068e_11 : decode cJ0_charAt_5068e 11 = .ok (.iload_n 1, 1) := by decide +kernel
theorem dJ0_charAt_5068e_12 : decode cJ0_charAt_5068e 12 = .ok (.invokestatic 495, 3) := by decide +kernel
theorem dJ0_charAt_5068e_15 : decode cJ0_charAt_5068e 15 = .ok (.ireturn, 1) := by decide +kernel
theorem dJ0_charAt_5068e_16 : decode cJ0_charAt_5068e 16 = .ok (.aload_n 0, 1) := by decide +kernel
theorem dJ0_charAt_5068e_17 : decode cJ0_charAt_5068e 17 = .ok (.getfield 9, 3) := by decide +kernel
theorem dJ0_charAt_5068e_20 : decode cJ0_charAt_5068e 20 = .ok (.iload_n 1, 1) := by decide +kernel
theorem dJ0_charAt_5068e_21 : decode cJ0_charAt_5068e 21 = .ok (.invokestatic 498, 3) := by decide +kernel
theorem dJ0_charAt_5068e_24 : decode cJ0_charAt_5068e 24 = .ok (.ireturn, 1) := by decide +kernel
theorem dJ0_coder_7d493_0 : decode cJ0_coder_7d493 0 = .ok (.getstatic 38, 3) := by decide +kernel
theorem dJ0_coder_7d493_3 : decode cJ0_coder_7d493 3 = .ok (.ifCond .eq 10, 3) := by decide +kernel
theorem dJ0_coder_7d493_6 : decode cJ0_coder_7d493 6 = .ok (.aload_n 0, 1) := by decide +kernel
theorem dJ0_coder_7d493_7 : decode cJ0_coder_7d493 7 = .ok (.getfield 15, 3) := by decide +kernel
theorem dJ0_coder_7d493_10 : decode cJ0_coder_7d493 10 = .ok (.goto 4, 3) := by decide +kernel
theorem dJ0_coder_7d493_13 : decode cJ0_coder_7d493 13 = .ok (.iconst 1, 1) := by decide +kernel
theorem dJ0_coder_7d493_14 : decode cJ0_coder_7d493 14 = .ok (.ireturn, 1) := by decide +kernel
theorem dJ0_isLatin1_aae02_0 : decode cJ0_isLatin1_aae02 0 = .ok (.getstatic 38, 3) := by decide +kernel
theorem dJ0_isLatin1_aae02_3 : decode cJ0_isLatin1_aae02 3 = .ok (.ifCond .eq 14, 3) := by decide +kernel
theorem dJ0_isLatin1_aae02_6 : decode cJ0_isLatin1_aae02 6 = .ok (.aload_n 0, 1) := by decide +kernel
theorem dJ0_isLatin1_aae02_7 : decode cJ0_isLatin1_aae02 7 = .ok (.getfield 15, 3) := by decide +kernel
theorem dJ0_isLatin1_aae02_10 : decode cJ0_isLatin1_aae02 10 = .ok (.ifCond .ne 7, 3) := by decide +kernel
theorem dJ0_isLatin1_aae02_13 : decode cJ0_isLatin1_aae02 13 = .ok (.iconst 1, 1) := by decide +kernel
theorem dJ0_isLatin1_aae02_14 : decode cJ0_isLatin1_aae02 14 = .ok (.goto 4, 3) := by decide +kernel
theorem dJ0_isLatin1_aae02_17 : decode cJ0_isLatin1_aae02 17 = .ok (.iconst 0, 1) := by decide +kernel
theorem dJ0_isLatin1_aae02_18 : decode cJ0_isLatin1_aae02 18 = .ok (.ireturn, 1) := by decide +kernel
theorem dJ0_checkIndex_df160_0 : decode cJ0_checkIndex_df160 0 = .ok (.iload_n 0, 1) := by decide +kernel
theorem dJ0_checkIndex_df160_1 : decode cJ0_checkIndex_df160 1 = .ok (.iload_n 1, 1) := by decide +kernel
theorem dJ0_checkIndex_df160_2 : decode cJ0_checkIndex_df160 2 = .ok (.getstatic 1053, 3) := by decide +kernel
theorem dJ0_checkIndex_df160_5 : decode cJ0_checkIndex_df160 5 = .ok (.invokestatic 1059, 3) := by decide +kernel
theorem dJ0_checkIndex_df160_8 : decode cJ0_checkIndex_df160 8 = .ok (.pop, 1) := by decide +kernel
theorem dJ0_checkIndex_df160_9 : decode cJ0_checkIndex_df160 9 = .ok (.return_, 1) := by decide +kernel
theorem dJ1_charAt_3b067_0 : decode cJ1_charAt_3b067 0 = .ok (.iload_n 1, 1) := by decide +kernel
theorem dJ1_charAt_3b067_1 : decode cJ1_charAt_3b067 1 = .ok (.aload_n 0, 1) := by decide +kernel
theorem dJ1_charAt_3b067_2 : decode cJ1_charAt_3b067 2 = .ok (.arraylength, 1) := by decide +kernel
theorem dJ1_charAt_3b067_3 : decode cJ1_charAt_3b067 3 = .ok (.invokestatic 9, 3) := by decide +kernel
theorem dJ1_charAt_3b067_6 : decode cJ1_charAt_3b067 6 = .ok (.aload_n 0, 1) := by decide +kernel
theorem dJ1_charAt_3b067_7 : decode cJ1_charAt_3b067 7 = .ok (.iload_n 1, 1) := by decide +kernel
theorem dJ1_charAt_3b067_8 : decode cJ1_charAt_3b067 8 = .ok (.baload, 1) := by decide +kernel
theorem dJ1_charAt_3b067_9 : decode cJ1_charAt_3b067 9 = .ok (.sipush 255, 3) := by decide +kernel
theorem dJ1_charAt_3b067_12 : decode cJ1_charAt_3b067 12 = .ok (.iand, 1) := by decide +kernel
theorem dJ1_charAt_3b067_13 : decode cJ1_charAt_3b067 13 = .ok (.i2c, 1) := by decide +kernel
theorem dJ1_charAt_3b067_14 : decode cJ1_charAt_3b067 14 = .ok (.ireturn, 1) := by decide +kernel
theorem dJ2_getChar_3b067_0 : decode cJ2_getChar_3b067 0 = .ok (.getstatic 44, 3) := by decide +kernel
theorem dJ2_getChar_3b067_3 : decode cJ2_getChar_3b067 3 = .ok (.ifCond .ne 25, 3) := by decide +kernel
theorem dJ2_getChar_3b067_6 : decode cJ2_getChar_3b067 6 = .ok (.iload_n 1, 1) := by decide +kernel
theorem dJ2_getChar_3b067_7 : decode cJ2_getChar_3b067 7 = .ok (.ifCond .lt 11, 3) := by decide +kernel
theorem dJ2_getChar_3b067_10 : decode cJ2_getChar_3b067 10 = .ok (.iload_n 1, 1) := by decide +kernel
theorem dJ2_getChar_3b067_11 : decode cJ2_getChar_3b067 11 = .ok (.aload_n 0, 1) := by decide +kernel
theorem dJ2_getChar_3b067_12 : decode cJ2_getChar_3b067 12 = .ok (.invokestatic 48, 3) := by decide +kernel
theorem dJ2_getChar_3b067_15 : decode cJ2_getChar_3b067 15 = .ok (.if_icmp .lt 13, 3) := by decide +kernel
theorem dJ2_getChar_3b067_18 : decode cJ2_getChar_3b067 18 = .ok (.new 52, 3) := by decide +kernel
theorem dJ2_getChar_3b067_21 : decode cJ2_getChar_3b067 21 = .ok (.dup, 1) := by decide +kernel
theorem dJ2_getChar_3b067_22 : decode cJ2_getChar_3b067 22 = .ok (.ldc 54, 2) := by decide +kernel
theorem dJ2_getChar_3b067_24 : decode cJ2_getChar_3b067 24 = .ok (.invokespecial 56, 3) := by decide +kernel
theorem dJ2_getChar_3b067_27 : decode cJ2_getChar_3b067 27 = .ok (.athrow, 1) := by decide +kernel
theorem dJ2_getChar_3b067_28 : decode cJ2_getChar_3b067 28 = .ok (.iload_n 1, 1) := by decide +kernel
theorem dJ2_getChar_3b067_29 : decode cJ2_getChar_3b067 29 = .ok (.iconst 1, 1) := by decide +kernel
theorem dJ2_getChar_3b067_30 : decode cJ2_getChar_3b067 30 = .ok (.ishl, 1) := by decide +kernel
theorem dJ2_getChar_3b067_31 : decode cJ2_getChar_3b067 31 = .ok (.istore_n 1, 1) := by decide +kernel
theorem dJ2_getChar_3b067_32 : decode cJ2_getChar_3b067 32 = .ok (.aload_n 0, 1) := by decide +kernel
theorem dJ2_getChar_3b067_33 : decode cJ2_getChar_3b067 33 = .ok (.iload_n 1, 1) := by decide +kernel
theorem dJ2_getChar_3b067_34 : decode cJ2_getChar_3b067 34 = .ok (.iinc 1 1, 3) := by decide +kernel
theorem dJ2_getChar_3b067_37 : decode cJ2_getChar_3b067 37 = .ok (.baload, 1) := by decide +kernel
theorem dJ2_getChar_3b067_38 : decode cJ2_getChar_3b067 38 = .ok (.sipush 255, 3) := by decide +kernel
theorem dJ2_getChar_3b067_41 : decode cJ2_getChar_3b067 41 = .ok (.iand, 1) := by decide +kernel
theorem dJ2_getChar_3b067_42 : decode cJ2_getChar_3b067 42 = .ok (.getstatic 59, 3) := by decide +kernel
theorem dJ2_getChar_3b067_45 : decode cJ2_getChar_3b067 45 = .ok (.ishl, 1) := by decide +kernel
theorem dJ2_getChar_3b067_46 : decode cJ2_getChar_3b067 46 = .ok (.aload_n 0, 1) := by decide +kernel
theorem dJ2_getChar_3b067_47 : decode cJ2_getChar_3b067 47 = .ok (.iload_n 1, 1) := by decide +kernel
theorem dJ2_getChar_3b067_48 : decode cJ2_getChar_3b067 48 = .ok (.baload, 1) := by decide +kernel
theorem dJ2_getChar_3b067_49 : decode cJ2_getChar_3b067 49 = .ok (.sipush 255, 3) := by decide +kernel
theorem dJ2_getChar_3b067_52 : decode cJ2_getChar_3b067 52 = .ok (.iand, 1) := by decide +kernel
theorem dJ2_getChar_3b067_53 : decode cJ2_getChar_3b067 53 = .ok (.getstatic 63, 3) := by decide +kernel
theorem dJ2_getChar_3b067_56 : decode cJ2_getChar_3b067 56 = .ok (.ishl, 1) := by decide +kernel
theorem dJ2_getChar_3b067_57 : decode cJ2_getChar_3b067 57 = .ok (.ior, 1) := by decide +kernel
theorem dJ2_getChar_3b067_58 : decode cJ2_getChar_3b067 58 = .ok (.i2c, 1) := by decide +kernel
theorem dJ2_getChar_3b067_59 : decode cJ2_getChar_3b067 59 = .ok (.ireturn, 1) := by decide +kernel
theorem dJ2_length_9d52b_0 : decode cJ2_length_9d52b 0 = .ok (.aload_n 0, 1) := by decide +kernel
theorem dJ2_length_9d52b_1 : decode cJ2_length_9d52b 1 = .ok (.arraylength, 1) := by decide +kernel
theorem dJ2_length_9d52b_2 : decode cJ2_length_9d52b 2 = .ok (.iconst 1, 1) := by decide +kernel
theorem dJ2_length_9d52b_3 : decode cJ2_length_9d52b 3 = .ok (.ishr, 1) := by decide +kernel
theorem dJ2_length_9d52b_4 : decode cJ2_length_9d52b 4 = .ok (.ireturn, 1) := by decide +kernel
theorem dJ2_charAt_3b067_0 : decode cJ2_charAt_3b067 0 = .ok (.iload_n 1, 1) := by decide +kernel
theorem dJ2_charAt_3b067_1 : decode cJ2_charAt_3b067 1 = .ok (.aload_n 0, 1) := by decide +kernel
theorem dJ2_charAt_3b067_2 : decode cJ2_charAt_3b067 2 = .ok (.invokestatic 67, 3) := by decide +kernel
theorem dJ2_charAt_3b067_5 : decode cJ2_charAt_3b067 5 = .ok (.aload_n 0, 1) := by decide +kernel
theorem dJ2_charAt_3b067_6 : decode cJ2_charAt_3b067 6 = .ok (.iload_n 1, 1) := by decide +kernel
theorem dJ2_charAt_3b067_7 : decode cJ2_charAt_3b067 7 = .ok (.invokestatic 71, 3) := by decide +kernel
theorem dJ2_charAt_3b067_10 : decode cJ2_charAt_3b067 10 = .ok (.ireturn, 1) := by decide +kernel
theorem dJ2_checkIndex_2214a_0 : decode cJ2_checkIndex_2214a 0 = .ok (.iload_n 0, 1) := by decide +kernel
theorem dJ2_checkIndex_2214a_1 : decode cJ2_checkIndex_2214a 1 = .ok (.aload_n 1, 1) := by decide +kernel
theorem dJ2_checkIndex_2214a_2 : decode cJ2_checkIndex_2214a 2 = .ok (.invokestatic 48, 3) := by decide +kernel
theorem dJ2_checkIndex_2214a_5 : decode cJ2_checkIndex_2214a 5 = .ok (.invokestatic 414, 3) := by decide +kernel
theorem dJ2_checkIndex_2214a_8 : decode cJ2_checkIndex_2214a 8 = .ok (.return_, 1) := by decide +kernel
theorem dJ3_checkIndex_8e157_0 : decode cJ3_checkIndex_8e157 0 = .ok (.iload_n 0, 1) := by decide +kernel
theorem dJ3_checkIndex_8e157_1 : decode cJ3_checkIndex_8e157 1 = .ok (.ifCond .lt 8, 3) := by decide +kernel
theorem dJ3_checkIndex_8e157_4 : decode cJ3_checkIndex_8e157 4 = .ok (.iload_n 0, 1) := by decide +kernel
theorem dJ3_checkIndex_8e157_5 : decode cJ3_checkIndex_8e157 5 = .ok (.iload_n 1, 1) := by decide +kernel
theorem dJ3_checkIndex_8e157_6 : decode cJ3_checkIndex_8e157 6 = .ok (.if_icmp .lt 10, 3) := by decide +kernel
theorem dJ3_checkIndex_8e157_9 : decode cJ3_checkIndex_8e157 9 = .ok (.aload_n 2, 1) := by decide +kernel
theorem dJ3_checkIndex_8e157_10 : decode cJ3_checkIndex_8e157 10 = .ok (.iload_n 0, 1) := by decide +kernel
theorem dJ3_checkIndex_8e157_11 : decode cJ3_checkIndex_8e157 11 = .ok (.iload_n 1, 1) := by decide +kernel
theorem dJ3_checkIndex_8e157_12 : decode cJ3_checkIndex_8e157 12 = .ok (.invokestatic 95, 3) := by decide +kernel
theorem dJ3_checkIndex_8e157_15 : decode cJ3_checkIndex_8e157 15 = .ok (.athrow, 1) := by decide +kernel
theorem dJ3_checkIndex_8e157_16 : decode cJ3_checkIndex_8e157 16 = .ok (.iload_n 0, 1) := by decide +kernel
theorem dJ3_checkIndex_8e157_17 : decode cJ3_checkIndex_8e157 17 = .ok (.ireturn, 1) := by decide +kernel
theorem dL_law_0 : decode cL_law 0 = .ok (.new 7, 3) := by decide +kernel
theorem dL_law_3 : decode cL_law 3 = .ok (.dup, 1) := by decide +kernel
theorem dL_law_4 : decode cL_law 4 = .ok (.invokespecial 9, 3) := by decide +kernel
theorem dL_law_7 : decode cL_law 7 = .ok (.astore_n 1, 1) := by decide +kernel
theorem dL_law_8 : decode cL_law 8 = .ok (.new 10, 3) := by decide +kernel
theorem dL_law_11 : decode cL_law 11 = .ok (.dup, 1) := by decide +kernel
theorem dL_law_12 : decode cL_law 12 = .ok (.invokespecial 12, 3) := by decide +kernel
theorem dL_law_15 : decode cL_law 15 = .ok (.astore_n 2, 1) := by decide +kernel
theorem dL_law_16 : decode cL_law 16 = .ok (.iconst 0, 1) := by decide +kernel
theorem dL_law_17 : decode cL_law 17 = .ok (.istore_n 3, 1) := by decide +kernel
theorem dL_law_18 : decode cL_law 18 = .ok (.iload_n 3, 1) := by decide +kernel
theorem dL_law_19 : decode cL_law 19 = .ok (.aload_n 0, 1) := by decide +kernel
theorem dL_law_20 : decode cL_law 20 = .ok (.arraylength, 1) := by decide +kernel
theorem dL_law_21 : decode cL_law 21 = .ok (.iconst 3, 1) := by decide +kernel
theorem dL_law_22 : decode cL_law 22 = .ok (.isub, 1) := by decide +kernel
theorem dL_law_23 : decode cL_law 23 = .ok (.if_icmp .gt 745, 3) := by decide +kernel
theorem dL_law_26 : decode cL_law 26 = .ok (.aload_n 0, 1) := by decide +kernel
theorem dL_law_27 : decode cL_law 27 = .ok (.iload_n 3, 1) := by decide +kernel
theorem dL_law_28 : decode cL_law 28 = .ok (.iaload, 1) := by decide +kernel
theorem dL_law_29 : decode cL_law 29 = .ok (.bipush 31, 2) := by decide +kernel
theorem dL_law_31 : decode cL_law 31 = .ok (.iand, 1) := by decide +kernel
theorem dL_law_32 : decode cL_law 32 = .ok (.tableswitch 730 0 24 #[116, 139, 152, 165, 178, 211, 234, 267, 290, 323, 346, 359, 382, 405, 438, 471, 494, 517, 540, 563, 596, 619, 642, 675, 716], 116) := by decide +kernel
theorem dL_law_148 : decode cL_law 148 = .ok (.aload_n 1, 1) := by decide +kernel
theorem dL_law_149 : decode cL_law 149 = .ok (.aload_n 0, 1) := by decide +kernel
theorem dL_law_150 : decode cL_law 150 = .ok (.iload_n 3, 1) := by decide +kernel
theorem dL_law_151 : decode cL_law 151 = .ok (.iconst 1, 1) := by decide +kernel
theorem dL_law_152 : decode cL_law 152 = .ok (.iadd, 1) := by decide +kernel
theorem dL_law_153 : decode cL_law 153 = .ok (.iaload, 1) := by decide +kernel
theorem dL_law_154 : decode cL_law 154 = .ok (.invokevirtual 13, 3) := by decide +kernel
theorem dL_law_157 : decode cL_law 157 = .ok (.aload_n 2, 1) := by decide +kernel
theorem dL_law_158 : decode cL_law 158 = .ok (.aload_n 0, 1) := by decide +kernel
theorem dL_law_159 : decode cL_law 159 = .ok (.iload_n 3, 1) := by decide +kernel
theorem dL_law_160 : decode cL_law 160 = .ok (.iconst 1, 1) := by decide +kernel
theorem dL_law_161 : decode cL_law 161 = .ok (.iadd, 1) := by decide +kernel
theorem dL_law_162 : decode cL_law 162 = .ok (.iaload, 1) := by decide +kernel
theorem dL_law_163 : decode cL_law 163 = .ok (.invokevirtual 17, 3) := by decide +kernel
theorem dL_law_166 : decode cL_law 166 = .ok (.if_icmp .eq 596, 3) := by decide +kernel
theorem dL_law_169 : decode cL_law 169 = .ok (.iconst 0, 1) := by decide +kernel
theorem dL_law_170 : decode cL_law 170 = .ok (.ireturn, 1) := by decide +kernel
theorem dL_law_171 : decode cL_law 171 = .ok (.aload_n 1, 1) := by decide +kernel
theorem dL_law_172 : decode cL_law 172 = .ok (.invokevirtual 18, 3) := by decide +kernel
theorem dL_law_175 : decode cL_law 175 = .ok (.aload_n 2, 1) := by decide +kernel
theorem dL_law_176 : decode cL_law 176 = .ok (.invokevirtual 22, 3) := by decide +kernel
theorem dL_law_179 : decode cL_law 179 = .ok (.if_icmp .eq 583, 3) := by decide +kernel
theorem dL_law_182 : decode cL_law 182 = .ok (.iconst 0, 1) := by decide +kernel
theorem dL_law_183 : decode cL_law 183 = .ok (.ireturn, 1) := by decide +kernel
theorem dL_law_184 : decode cL_law 184 = .ok (.aload_n 1, 1) := by decide +kernel
theorem dL_law_185 : decode cL_law 185 = .ok (.invokevirtual 23, 3) := by decide +kernel
theorem dL_law_188 : decode cL_law 188 = .ok (.aload_n 2, 1) := by decide +kernel
theorem dL_law_189 : decode cL_law 189 = .ok (.invokevirtual 26, 3) := by decide +kernel
theorem dL_law_192 : decode cL_law 192 = .ok (.if_icmp .eq 570, 3) := by decide +kernel
theorem dL_law_195 : decode cL_law 195 = .ok (.iconst 0, 1) := by decide +kernel
theorem dL_law_196 : decode cL_law 196 = .ok (.ireturn, 1) := by decide +kernel
theorem dL_law_197 : decode cL_law 197 = .ok (.aload_n 1, 1) := by decide +kernel
theorem dL_law_198 : decode cL_law 198 = .ok (.invokevirtual 27, 3) := by decide +kernel
theorem dL_law_201 : decode cL_law 201 = .ok (.aload_n 2, 1) := by decide +kernel
theorem dL_law_202 : decode cL_law 202 = .ok (.invokevirtual 30, 3) := by decide +kernel
theorem dL_law_205 : decode cL_law 205 = .ok (.if_icmp .eq 557, 3) := by decide +kernel
theorem dL_law_208 : decode cL_law 208 = .ok (.iconst 0, 1) := by decide +kernel
theorem dL_law_209 : decode cL_law 209 = .ok (.ireturn, 1) := by decide +kernel
theorem dL_law_210 : decode cL_law 210 = .ok (.aload_n 1, 1) := by decide +kernel
theorem dL_law_211 : decode cL_law 211 = .ok (.aload_n 0, 1) := by decide +kernel
theorem dL_law_212 : decode cL_law 212 = .ok (.iload_n 3, 1) := by decide +kernel
theorem dL_law_213 : decode cL_law 213 = .ok (.iconst 1, 1) := by decide +kernel
theorem dL_law_214 : decode cL_law 214 = .ok (.iadd, 1) := by decide +kernel
theorem dL_law_215 : decode cL_law 215 = .ok (.iaload, 1) := by decide +kernel
theorem dL_law_216 : decode cL_law 216 = .ok (.aload_n 0, 1) := by decide +kernel
theorem dL_law_217 : decode cL_law 217 = .ok (.iload_n 3, 1) := by decide +kernel
theorem dL_law_218 : decode cL_law 218 = .ok (.iconst 2, 1) := by decide +kernel
theorem dL_law_219 : decode cL_law 219 = .ok (.iadd, 1) := by decide +kernel
theorem dL_law_220 : decode cL_law 220 = .ok (.iaload, 1) := by decide +kernel
theorem dL_law_221 : decode cL_law 221 = .ok (.invokevirtual 31, 3) := by decide +kernel
theorem dL_law_224 : decode cL_law 224 = .ok (.aload_n 2, 1) := by decide +kernel
theorem dL_law_225 : decode cL_law 225 = .ok (.aload_n 0, 1) := by decide +kernel
theorem dL_law_226 : decode cL_law 226 = .ok (.iload_n 3, 1) := by decide +kernel
theorem dL_law_227 : decode cL_law 227 = .ok (.iconst 1, 1) := by decide +kernel
theorem dL_law_228 : decode cL_law 228 = .ok (.iadd, 1) := by decide +kernel
theorem dL_law_229 : decode cL_law 229 = .ok (.iaload, 1) := by decide +kernel
theorem dL_law_230 : decode cL_law 230 = .ok (.aload_n 0, 1) := by decide +kernel
theorem dL_law_231 : decode cL_law 231 = .ok (.iload_n 3, 1) := by decide +kernel
theorem dL_law_232 : decode cL_law 232 = .ok (.iconst 2, 1) := by decide +kernel
theorem dL_law_233 : decode cL_law 233 = .ok (.iadd, 1) := by decide +kernel
theorem dL_law_234 : decode cL_law 234 = .ok (.iaload, 1) := by decide +kernel
theorem dL_law_235 : decode cL_law 235 = .ok (.invokevirtual 35, 3) := by decide +kernel
theorem dL_law_238 : decode cL_law 238 = .ok (.if_icmp .eq 524, 3) := by decide +kernel
theorem dL_law_241 : decode cL_law 241 = .ok (.iconst 0, 1) := by decide +kernel
theorem dL_law_242 : decode cL_law 242 = .ok (.ireturn, 1) := by decide +kernel
theorem dL_law_243 : decode cL_law 243 = .ok (.aload_n 1, 1) := by decide +kernel
theorem dL_law_244 : decode cL_law 244 = .ok (.aload_n 0, 1) := by decide +kernel
theorem dL_law_245 : decode cL_law 245 = .ok (.iload_n 3, 1) := by decide +kernel
theorem dL_law_246 : decode cL_law 246 = .ok (.iconst 1, 1) := by decide +kernel
theorem dL_law_247 : decode cL_law 247 = .ok (.iadd, 1) := by decide +kernel
theorem dL_law_248 : decode cL_law 248 = .ok (.iaload, 1) := by decide +kernel
theorem dL_law_249 : decode cL_law 249 = .ok (.invokevirtual 36, 3) := by decide +kernel
theorem dL_law_252 : decode cL_law 252 = .ok (.aload_n 2, 1) := by decide +kernel
theorem dL_law_253 : decode cL_law 253 = .ok (.aload_n 0, 1) := by decide +kernel
theorem dL_law_254 : decode cL_law 254 = .ok (.iload_n 3, 1) := by decide +kernel
theorem dL_law_255 : decode cL_law 255 = .ok (.iconst 1, 1) := by decide +kernel
theorem dL_law_256 : decode cL_law 256 = .ok (.iadd, 1) := by decide +kernel
theorem dL_law_257 : decode cL_law 257 = .ok (.iaload, 1) := by decide +kernel
theorem dL_law_258 : decode cL_law 258 = .ok (.invokevirtual 39, 3) := by decide +kernel
theorem dL_law_261 : decode cL_law 261 = .ok (.if_icmp .eq 501, 3) := by decide +kernel
theorem dL_law_264 : decode cL_law 264 = .ok (.iconst 0, 1) := by decide +kernel
theorem dL_law_265 : decode cL_law 265 = .ok (.ireturn, 1) := by decide +kernel
theorem dL_law_266 : decode cL_law 266 = .ok (.aload_n 1, 1) := by decide +kernel
theorem dL_law_267 : decode cL_law 267 = .ok (.aload_n 0, 1) := by decide +kernel
theorem dL_law_268 : decode cL_law 268 = .ok (.iload_n 3, 1) := by decide +kernel
theorem dL_law_269 : decode cL_law 269 = .ok (.iconst 1, 1) := by decide +kernel
theorem dL_law_270 : decode cL_law 270 = .ok (.iadd, 1) := by decide +kernel
theorem dL_law_271 : decode cL_law 271 = .ok (.iaload, 1) := by decide +kernel
theorem dL_law_272 : decode cL_law 272 = .ok (.aload_n 0, 1) := by decide +kernel
theorem dL_law_273 : decode cL_law 273 = .ok (.iload_n 3, 1) := by decide +kernel
theorem dL_law_274 : decode cL_law 274 = .ok (.iconst 2, 1) := by decide +kernel
theorem dL_law_275 : decode cL_law 275 = .ok (.iadd, 1) := by decide +kernel
theorem dL_law_276 : decode cL_law 276 = .ok (.iaload, 1) := by decide +kernel
theorem dL_law_277 : decode cL_law 277 = .ok (.invokevirtual 40, 3) := by decide +kernel
theorem dL_law_280 : decode cL_law 280 = .ok (.aload_n 2, 1) := by decide +kernel
theorem dL_law_281 : decode cL_law 281 = .ok (.aload_n 0, 1) := by decide +kernel
theorem dL_law_282 : decode cL_law 282 = .ok (.iload_n 3, 1) := by decide +kernel
theorem dL_law_283 : decode cL_law 283 = .ok (.iconst 1, 1) := by decide +kernel
theorem dL_law_284 : decode cL_law 284 = .ok (.iadd, 1) := by decide +kernel
theorem dL_law_285 : decode cL_law 285 = .ok (.iaload, 1) := by decide +kernel
theorem dL_law_286 : decode cL_law 286 = .ok (.aload_n 0, 1) := by decide +kernel
theorem dL_law_287 : decode cL_law 287 = .ok (.iload_n 3, 1) := by decide +kernel
theorem dL_law_288 : decode cL_law 288 = .ok (.iconst 2, 1) := by decide +kernel
theorem dL_law_289 : decode cL_law 289 = .ok (.iadd, 1) := by decide +kernel
theorem dL_law_290 : decode cL_law 290 = .ok (.iaload, 1) := by decide +kernel
theorem dL_law_291 : decode cL_law 291 = .ok (.invokevirtual 43, 3) := by decide +kernel
theorem dL_law_294 : decode cL_law 294 = .ok (.if_icmp .eq 468, 3) := by decide +kernel
theorem dL_law_297 : decode cL_law 297 = .ok (.iconst 0, 1) := by decide +kernel
theorem dL_law_298 : decode cL_law 298 = .ok (.ireturn, 1) := by decide +kernel
theorem dL_law_299 : decode cL_law 299 = .ok (.aload_n 1, 1) := by decide +kernel
theorem dL_law_300 : decode cL_law 300 = .ok (.aload_n 0, 1) := by decide +kernel
theorem dL_law_301 : decode cL_law 301 = .ok (.iload_n 3, 1) := by decide +kernel
theorem dL_law_302 : decode cL_law 302 = .ok (.iconst 1, 1) := by decide +kernel
theorem dL_law_303 : decode cL_law 303 = .ok (.iadd, 1) := by decide +kernel
theorem dL_law_304 : decode cL_law 304 = .ok (.iaload, 1) := by decide +kernel
theorem dL_law_305 : decode cL_law 305 = .ok (.invokevirtual 44, 3) := by decide +kernel
theorem dL_law_308 : decode cL_law 308 = .ok (.aload_n 2, 1) := by decide +kernel
theorem dL_law_309 : decode cL_law 309 = .ok (.aload_n 0, 1) := by decide +kernel
theorem dL_law_310 : decode cL_law 310 = .ok (.iload_n 3, 1) := by decide +kernel
theorem dL_law_311 : decode cL_law 311 = .ok (.iconst 1, 1) := by decide +kernel
theorem dL_law_312 : decode cL_law 312 = .ok (.iadd, 1) := by decide +kernel
theorem dL_law_313 : decode cL_law 313 = .ok (.iaload, 1) := by decide +kernel
theorem dL_law_314 : decode cL_law 314 = .ok (.invokevirtual 47, 3) := by decide +kernel
theorem dL_law_317 : decode cL_law 317 = .ok (.if_icmp .eq 445, 3) := by decide +kernel
theorem dL_law_320 : decode cL_law 320 = .ok (.iconst 0, 1) := by decide +kernel
theorem dL_law_321 : decode cL_law 321 = .ok (.ireturn, 1) := by decide +kernel
theorem dL_law_322 : decode cL_law 322 = .ok (.aload_n 1, 1) := by decide +kernel
theorem dL_law_323 : decode cL_law 323 = .ok (.aload_n 0, 1) := by decide +kernel
theorem dL_law_324 : decode cL_law 324 = .ok (.iload_n 3, 1) := by decide +kernel
theorem dL_law_325 : decode cL_law 325 = .ok (.iconst 1, 1) := by decide +kernel
theorem dL_law_326 : decode cL_law 326 = .ok (.iadd, 1) := by decide +kernel
theorem dL_law_327 : decode cL_law 327 = .ok (.iaload, 1) := by decide +kernel
theorem dL_law_328 : decode cL_law 328 = .ok (.aload_n 0, 1) := by decide +kernel
theorem dL_law_329 : decode cL_law 329 = .ok (.iload_n 3, 1) := by decide +kernel
theorem dL_law_330 : decode cL_law 330 = .ok (.iconst 2, 1) := by decide +kernel
theorem dL_law_331 : decode cL_law 331 = .ok (.iadd, 1) := by decide +kernel
theorem dL_law_332 : decode cL_law 332 = .ok (.iaload, 1) := by decide +kernel
theorem dL_law_333 : decode cL_law 333 = .ok (.invokevirtual 48, 3) := by decide +kernel
theorem dL_law_336 : decode cL_law 336 = .ok (.aload_n 2, 1) := by decide +kernel
theorem dL_law_337 : decode cL_law 337 = .ok (.aload_n 0, 1) := by decide +kernel
theorem dL_law_338 : decode cL_law 338 = .ok (.iload_n 3, 1) := by decide +kernel
theorem dL_law_339 : decode cL_law 339 = .ok (.iconst 1, 1) := by decide +kernel
theorem dL_law_340 : decode cL_law 340 = .ok (.iadd, 1) := by decide +kernel
theorem dL_law_341 : decode cL_law 341 = .ok (.iaload, 1) := by decide +kernel
theorem dL_law_342 : decode cL_law 342 = .ok (.aload_n 0, 1) := by decide +kernel
theorem dL_law_343 : decode cL_law 343 = .ok (.iload_n 3, 1) := by decide +kernel
theorem dL_law_344 : decode cL_law 344 = .ok (.iconst 2, 1) := by decide +kernel
theorem dL_law_345 : decode cL_law 345 = .ok (.iadd, 1) := by decide +kernel
theorem dL_law_346 : decode cL_law 346 = .ok (.iaload, 1) := by decide +kernel
theorem dL_law_347 : decode cL_law 347 = .ok (.invokevirtual 51, 3) := by decide +kernel
theorem dL_law_350 : decode cL_law 350 = .ok (.if_icmp .eq 412, 3) := by decide +kernel
theorem dL_law_353 : decode cL_law 353 = .ok (.iconst 0, 1) := by decide +kernel
theorem dL_law_354 : decode cL_law 354 = .ok (.ireturn, 1) := by decide +kernel
theorem dL_law_355 : decode cL_law 355 = .ok (.aload_n 1, 1) := by decide +kernel
theorem dL_law_356 : decode cL_law 356 = .ok (.aload_n 0, 1) := by decide +kernel
theorem dL_law_357 : decode cL_law 357 = .ok (.iload_n 3, 1) := by decide +kernel
theorem dL_law_358 : decode cL_law 358 = .ok (.iconst 1, 1) := by decide +kernel
theorem dL_law_359 : decode cL_law 359 = .ok (.iadd, 1) := by decide +kernel
theorem dL_law_360 : decode cL_law 360 = .ok (.iaload, 1) := by decide +kernel
theorem dL_law_361 : decode cL_law 361 = .ok (.invokevirtual 52, 3) := by decide +kernel
theorem dL_law_364 : decode cL_law 364 = .ok (.aload_n 2, 1) := by decide +kernel
theorem dL_law_365 : decode cL_law 365 = .ok (.aload_n 0, 1) := by decide +kernel
theorem dL_law_366 : decode cL_law 366 = .ok (.iload_n 3, 1) := by decide +kernel
theorem dL_law_367 : decode cL_law 367 = .ok (.iconst 1, 1) := by decide +kernel
theorem dL_law_368 : decode cL_law 368 = .ok (.iadd, 1) := by decide +kernel
theorem dL_law_369 : decode cL_law 369 = .ok (.iaload, 1) := by decide +kernel
theorem dL_law_370 : decode cL_law 370 = .ok (.invokevirtual 55, 3) := by decide +kernel
theorem dL_law_373 : decode cL_law 373 = .ok (.if_icmp .eq 389, 3) := by decide +kernel
theorem dL_law_376 : decode cL_law 376 = .ok (.iconst 0, 1) := by decide +kernel
theorem dL_law_377 : decode cL_law 377 = .ok (.ireturn, 1) := by decide +kernel
theorem dL_law_378 : decode cL_law 378 = .ok (.aload_n 1, 1) := by decide +kernel
theorem dL_law_379 : decode cL_law 379 = .ok (.invokevirtual 56, 3) := by decide +kernel
theorem dL_law_382 : decode cL_law 382 = .ok (.aload_n 2, 1) := by decide +kernel
theorem dL_law_383 : decode cL_law 383 = .ok (.invokevirtual 59, 3) := by decide +kernel
theorem dL_law_386 : decode cL_law 386 = .ok (.if_icmp .eq 376, 3) := by decide +kernel
theorem dL_law_389 : decode cL_law 389 = .ok (.iconst 0, 1) := by decide +kernel
theorem dL_law_390 : decode cL_law 390 = .ok (.ireturn, 1) := by decide +kernel
theorem dL_law_391 : decode cL_law 391 = .ok (.aload_n 1, 1) := by decide +kernel
theorem dL_law_392 : decode cL_law 392 = .ok (.aload_n 0, 1) := by decide +kernel
theorem dL_law_393 : decode cL_law 393 = .ok (.iload_n 3, 1) := by decide +kernel
theorem dL_law_394 : decode cL_law 394 = .ok (.iconst 1, 1) := by decide +kernel
theorem dL_law_395 : decode cL_law 395 = .ok (.iadd, 1) := by decide +kernel
theorem dL_law_396 : decode cL_law 396 = .ok (.iaload, 1) := by decide +kernel
theorem dL_law_397 : decode cL_law 397 = .ok (.invokevirtual 60, 3) := by decide +kernel
theorem dL_law_400 : decode cL_law 400 = .ok (.aload_n 2, 1) := by decide +kernel
theorem dL_law_401 : decode cL_law 401 = .ok (.aload_n 0, 1) := by decide +kernel
theorem dL_law_402 : decode cL_law 402 = .ok (.iload_n 3, 1) := by decide +kernel
theorem dL_law_403 : decode cL_law 403 = .ok (.iconst 1, 1) := by decide +kernel
theorem dL_law_404 : decode cL_law 404 = .ok (.iadd, 1) := by decide +kernel
theorem dL_law_405 : decode cL_law 405 = .ok (.iaload, 1) := by decide +kernel
theorem dL_law_406 : decode cL_law 406 = .ok (.invokevirtual 63, 3) := by decide +kernel
theorem dL_law_409 : decode cL_law 409 = .ok (.if_icmp .eq 353, 3) := by decide +kernel
theorem dL_law_412 : decode cL_law 412 = .ok (.iconst 0, 1) := by decide +kernel
theorem dL_law_413 : decode cL_law 413 = .ok (.ireturn, 1) := by decide +kernel
theorem dL_law_414 : decode cL_law 414 = .ok (.aload_n 1, 1) := by decide +kernel
theorem dL_law_415 : decode cL_law 415 = .ok (.aload_n 0, 1) := by decide +kernel
theorem dL_law_416 : decode cL_law 416 = .ok (.iload_n 3, 1) := by decide +kernel
theorem dL_law_417 : decode cL_law 417 = .ok (.iconst 1, 1) := by decide +kernel
theorem dL_law_418 : decode cL_law 418 = .ok (.iadd, 1) := by decide +kernel
theorem dL_law_419 : decode cL_law 419 = .ok (.iaload, 1) := by decide +kernel
theorem dL_law_420 : decode cL_law 420 = .ok (.invokevirtual 64, 3) := by decide +kernel
theorem dL_law_423 : decode cL_law 423 = .ok (.aload_n 2, 1) := by decide +kernel
theorem dL_law_424 : decode cL_law 424 = .ok (.aload_n 0, 1) := by decide +kernel
theorem dL_law_425 : decode cL_law 425 = .ok (.iload_n 3, 1) := by decide +kernel
theorem dL_law_426 : decode cL_law 426 = .ok (.iconst 1, 1) := by decide +kernel
theorem dL_law_427 : decode cL_law 427 = .ok (.iadd, 1) := by decide +kernel
theorem dL_law_428 : decode cL_law 428 = .ok (.iaload, 1) := by decide +kernel
theorem dL_law_429 : decode cL_law 429 = .ok (.invokevirtual 67, 3) := by decide +kernel
theorem dL_law_432 : decode cL_law 432 = .ok (.if_icmp .eq 330, 3) := by decide +kernel
theorem dL_law_435 : decode cL_law 435 = .ok (.iconst 0, 1) := by decide +kernel
theorem dL_law_436 : decode cL_law 436 = .ok (.ireturn, 1) := by decide +kernel
theorem dL_law_437 : decode cL_law 437 = .ok (.aload_n 1, 1) := by decide +kernel
theorem dL_law_438 : decode cL_law 438 = .ok (.aload_n 0, 1) := by decide +kernel
theorem dL_law_439 : decode cL_law 439 = .ok (.iload_n 3, 1) := by decide +kernel
theorem dL_law_440 : decode cL_law 440 = .ok (.iconst 1, 1) := by decide +kernel
theorem dL_law_441 : decode cL_law 441 = .ok (.iadd, 1) := by decide +kernel
theorem dL_law_442 : decode cL_law 442 = .ok (.iaload, 1) := by decide +kernel
theorem dL_law_443 : decode cL_law 443 = .ok (.aload_n 0, 1) := by decide +kernel
theorem dL_law_444 : decode cL_law 444 = .ok (.iload_n 3, 1) := by decide +kernel
theorem dL_law_445 : decode cL_law 445 = .ok (.iconst 2, 1) := by decide +kernel
theorem dL_law_446 : decode cL_law 446 = .ok (.iadd, 1) := by decide +kernel
theorem dL_law_447 : decode cL_law 447 = .ok (.iaload, 1) := by decide +kernel
theorem dL_law_448 : decode cL_law 448 = .ok (.invokevirtual 68, 3) := by decide +kernel
theorem dL_law_451 : decode cL_law 451 = .ok (.aload_n 2, 1) := by decide +kernel
theorem dL_law_452 : decode cL_law 452 = .ok (.aload_n 0, 1) := by decide +kernel
theorem dL_law_453 : decode cL_law 453 = .ok (.iload_n 3, 1) := by decide +kernel
theorem dL_law_454 : decode cL_law 454 = .ok (.iconst 1, 1) := by decide +kernel
theorem dL_law_455 : decode cL_law 455 = .ok (.iadd, 1) := by decide +kernel
theorem dL_law_456 : decode cL_law 456 = .ok (.iaload, 1) := by decide +kernel
theorem dL_law_457 : decode cL_law 457 = .ok (.aload_n 0, 1) := by decide +kernel
theorem dL_law_458 : decode cL_law 458 = .ok (.iload_n 3, 1) := by decide +kernel
theorem dL_law_459 : decode cL_law 459 = .ok (.iconst 2, 1) := by decide +kernel
theorem dL_law_460 : decode cL_law 460 = .ok (.iadd, 1) := by decide +kernel
theorem dL_law_461 : decode cL_law 461 = .ok (.iaload, 1) := by decide +kernel
theorem dL_law_462 : decode cL_law 462 = .ok (.invokevirtual 71, 3) := by decide +kernel
theorem dL_law_465 : decode cL_law 465 = .ok (.if_icmp .eq 297, 3) := by decide +kernel
theorem dL_law_468 : decode cL_law 468 = .ok (.iconst 0, 1) := by decide +kernel
theorem dL_law_469 : decode cL_law 469 = .ok (.ireturn, 1) := by decide +kernel
theorem dL_law_470 : decode cL_law 470 = .ok (.aload_n 1, 1) := by decide +kernel
theorem dL_law_471 : decode cL_law 471 = .ok (.aload_n 0, 1) := by decide +kernel
theorem dL_law_472 : decode cL_law 472 = .ok (.iload_n 3, 1) := by decide +kernel
theorem dL_law_473 : decode cL_law 473 = .ok (.iconst 1, 1) := by decide +kernel
theorem dL_law_474 : decode cL_law 474 = .ok (.iadd, 1) := by decide +kernel
theorem dL_law_475 : decode cL_law 475 = .ok (.iaload, 1) := by decide +kernel
theorem dL_law_476 : decode cL_law 476 = .ok (.aload_n 0, 1) := by decide +kernel
theorem dL_law_477 : decode cL_law 477 = .ok (.iload_n 3, 1) := by decide +kernel
theorem dL_law_478 : decode cL_law 478 = .ok (.iconst 2, 1) := by decide +kernel
theorem dL_law_479 : decode cL_law 479 = .ok (.iadd, 1) := by decide +kernel
theorem dL_law_480 : decode cL_law 480 = .ok (.iaload, 1) := by decide +kernel
theorem dL_law_481 : decode cL_law 481 = .ok (.invokevirtual 72, 3) := by decide +kernel
theorem dL_law_484 : decode cL_law 484 = .ok (.aload_n 2, 1) := by decide +kernel
theorem dL_law_485 : decode cL_law 485 = .ok (.aload_n 0, 1) := by decide +kernel
theorem dL_law_486 : decode cL_law 486 = .ok (.iload_n 3, 1) := by decide +kernel
theorem dL_law_487 : decode cL_law 487 = .ok (.iconst 1, 1) := by decide +kernel
theorem dL_law_488 : decode cL_law 488 = .ok (.iadd, 1) := by decide +kernel
theorem dL_law_489 : decode cL_law 489 = .ok (.iaload, 1) := by decide +kernel
theorem dL_law_490 : decode cL_law 490 = .ok (.aload_n 0, 1) := by decide +kernel
theorem dL_law_491 : decode cL_law 491 = .ok (.iload_n 3, 1) := by decide +kernel
theorem dL_law_492 : decode cL_law 492 = .ok (.iconst 2, 1) := by decide +kernel
theorem dL_law_493 : decode cL_law 493 = .ok (.iadd, 1) := by decide +kernel
theorem dL_law_494 : decode cL_law 494 = .ok (.iaload, 1) := by decide +kernel
theorem dL_law_495 : decode cL_law 495 = .ok (.invokevirtual 75, 3) := by decide +kernel
theorem dL_law_498 : decode cL_law 498 = .ok (.if_icmp .eq 264, 3) := by decide +kernel
theorem dL_law_501 : decode cL_law 501 = .ok (.iconst 0, 1) := by decide +kernel
theorem dL_law_502 : decode cL_law 502 = .ok (.ireturn, 1) := by decide +kernel
theorem dL_law_503 : decode cL_law 503 = .ok (.aload_n 1, 1) := by decide +kernel
theorem dL_law_504 : decode cL_law 504 = .ok (.aload_n 0, 1) := by decide +kernel
theorem dL_law_505 : decode cL_law 505 = .ok (.iload_n 3, 1) := by decide +kernel
theorem dL_law_506 : decode cL_law 506 = .ok (.iconst 1, 1) := by decide +kernel
theorem dL_law_507 : decode cL_law 507 = .ok (.iadd, 1) := by decide +kernel
theorem dL_law_508 : decode cL_law 508 = .ok (.iaload, 1) := by decide +kernel
theorem dL_law_509 : decode cL_law 509 = .ok (.invokevirtual 76, 3) := by decide +kernel
theorem dL_law_512 : decode cL_law 512 = .ok (.aload_n 2, 1) := by decide +kernel
theorem dL_law_513 : decode cL_law 513 = .ok (.aload_n 0, 1) := by decide +kernel
theorem dL_law_514 : decode cL_law 514 = .ok (.iload_n 3, 1) := by decide +kernel
theorem dL_law_515 : decode cL_law 515 = .ok (.iconst 1, 1) := by decide +kernel
theorem dL_law_516 : decode cL_law 516 = .ok (.iadd, 1) := by decide +kernel
theorem dL_law_517 : decode cL_law 517 = .ok (.iaload, 1) := by decide +kernel
theorem dL_law_518 : decode cL_law 518 = .ok (.invokevirtual 79, 3) := by decide +kernel
theorem dL_law_521 : decode cL_law 521 = .ok (.if_icmp .eq 241, 3) := by decide +kernel
theorem dL_law_524 : decode cL_law 524 = .ok (.iconst 0, 1) := by decide +kernel
theorem dL_law_525 : decode cL_law 525 = .ok (.ireturn, 1) := by decide +kernel
theorem dL_law_526 : decode cL_law 526 = .ok (.aload_n 1, 1) := by decide +kernel
theorem dL_law_527 : decode cL_law 527 = .ok (.aload_n 0, 1) := by decide +kernel
theorem dL_law_528 : decode cL_law 528 = .ok (.iload_n 3, 1) := by decide +kernel
theorem dL_law_529 : decode cL_law 529 = .ok (.iconst 1, 1) := by decide +kernel
theorem dL_law_530 : decode cL_law 530 = .ok (.iadd, 1) := by decide +kernel
theorem dL_law_531 : decode cL_law 531 = .ok (.iaload, 1) := by decide +kernel
theorem dL_law_532 : decode cL_law 532 = .ok (.invokevirtual 80, 3) := by decide +kernel
theorem dL_law_535 : decode cL_law 535 = .ok (.aload_n 2, 1) := by decide +kernel
theorem dL_law_536 : decode cL_law 536 = .ok (.aload_n 0, 1) := by decide +kernel
theorem dL_law_537 : decode cL_law 537 = .ok (.iload_n 3, 1) := by decide +kernel
theorem dL_law_538 : decode cL_law 538 = .ok (.iconst 1, 1) := by decide +kernel
theorem dL_law_539 : decode cL_law 539 = .ok (.iadd, 1) := by decide +kernel
theorem dL_law_540 : decode cL_law 540 = .ok (.iaload, 1) := by decide +kernel
theorem dL_law_541 : decode cL_law 541 = .ok (.invokevirtual 83, 3) := by decide +kernel
theorem dL_law_544 : decode cL_law 544 = .ok (.if_icmp .eq 218, 3) := by decide +kernel
theorem dL_law_547 : decode cL_law 547 = .ok (.iconst 0, 1) := by decide +kernel
theorem dL_law_548 : decode cL_law 548 = .ok (.ireturn, 1) := by decide +kernel
theorem dL_law_549 : decode cL_law 549 = .ok (.aload_n 1, 1) := by decide +kernel
theorem dL_law_550 : decode cL_law 550 = .ok (.aload_n 0, 1) := by decide +kernel
theorem dL_law_551 : decode cL_law 551 = .ok (.iload_n 3, 1) := by decide +kernel
theorem dL_law_552 : decode cL_law 552 = .ok (.iconst 1, 1) := by decide +kernel
theorem dL_law_553 : decode cL_law 553 = .ok (.iadd, 1) := by decide +kernel
theorem dL_law_554 : decode cL_law 554 = .ok (.iaload, 1) := by decide +kernel
theorem dL_law_555 : decode cL_law 555 = .ok (.invokevirtual 84, 3) := by decide +kernel
theorem dL_law_558 : decode cL_law 558 = .ok (.aload_n 2, 1) := by decide +kernel
theorem dL_law_559 : decode cL_law 559 = .ok (.aload_n 0, 1) := by decide +kernel
theorem dL_law_560 : decode cL_law 560 = .ok (.iload_n 3, 1) := by decide +kernel
theorem dL_law_561 : decode cL_law 561 = .ok (.iconst 1, 1) := by decide +kernel
theorem dL_law_562 : decode cL_law 562 = .ok (.iadd, 1) := by decide +kernel
theorem dL_law_563 : decode cL_law 563 = .ok (.iaload, 1) := by decide +kernel
theorem dL_law_564 : decode cL_law 564 = .ok (.invokevirtual 87, 3) := by decide +kernel
theorem dL_law_567 : decode cL_law 567 = .ok (.if_icmp .eq 195, 3) := by decide +kernel
theorem dL_law_570 : decode cL_law 570 = .ok (.iconst 0, 1) := by decide +kernel
theorem dL_law_571 : decode cL_law 571 = .ok (.ireturn, 1) := by decide +kernel
theorem dL_law_572 : decode cL_law 572 = .ok (.aload_n 1, 1) := by decide +kernel
theorem dL_law_573 : decode cL_law 573 = .ok (.aload_n 0, 1) := by decide +kernel
theorem dL_law_574 : decode cL_law 574 = .ok (.iload_n 3, 1) := by decide +kernel
theorem dL_law_575 : decode cL_law 575 = .ok (.iconst 1, 1) := by decide +kernel
theorem dL_law_576 : decode cL_law 576 = .ok (.iadd, 1) := by decide +kernel
theorem dL_law_577 : decode cL_law 577 = .ok (.iaload, 1) := by decide +kernel
theorem dL_law_578 : decode cL_law 578 = .ok (.invokevirtual 88, 3) := by decide +kernel
theorem dL_law_581 : decode cL_law 581 = .ok (.aload_n 2, 1) := by decide +kernel
theorem dL_law_582 : decode cL_law 582 = .ok (.aload_n 0, 1) := by decide +kernel
theorem dL_law_583 : decode cL_law 583 = .ok (.iload_n 3, 1) := by decide +kernel
theorem dL_law_584 : decode cL_law 584 = .ok (.iconst 1, 1) := by decide +kernel
theorem dL_law_585 : decode cL_law 585 = .ok (.iadd, 1) := by decide +kernel
theorem dL_law_586 : decode cL_law 586 = .ok (.iaload, 1) := by decide +kernel
theorem dL_law_587 : decode cL_law 587 = .ok (.invokevirtual 91, 3) := by decide +kernel
theorem dL_law_590 : decode cL_law 590 = .ok (.if_icmp .eq 172, 3) := by decide +kernel
theorem dL_law_593 : decode cL_law 593 = .ok (.iconst 0, 1) := by decide +kernel
theorem dL_law_594 : decode cL_law 594 = .ok (.ireturn, 1) := by decide +kernel
theorem dL_law_595 : decode cL_law 595 = .ok (.aload_n 1, 1) := by decide +kernel
theorem dL_law_596 : decode cL_law 596 = .ok (.aload_n 0, 1) := by decide +kernel
theorem dL_law_597 : decode cL_law 597 = .ok (.iload_n 3, 1) := by decide +kernel
theorem dL_law_598 : decode cL_law 598 = .ok (.iconst 1, 1) := by decide +kernel
theorem dL_law_599 : decode cL_law 599 = .ok (.iadd, 1) := by decide +kernel
theorem dL_law_600 : decode cL_law 600 = .ok (.iaload, 1) := by decide +kernel
theorem dL_law_601 : decode cL_law 601 = .ok (.aload_n 0, 1) := by decide +kernel
theorem dL_law_602 : decode cL_law 602 = .ok (.iload_n 3, 1) := by decide +kernel
theorem dL_law_603 : decode cL_law 603 = .ok (.iconst 2, 1) := by decide +kernel
theorem dL_law_604 : decode cL_law 604 = .ok (.iadd, 1) := by decide +kernel
theorem dL_law_605 : decode cL_law 605 = .ok (.iaload, 1) := by decide +kernel
theorem dL_law_606 : decode cL_law 606 = .ok (.invokevirtual 92, 3) := by decide +kernel
theorem dL_law_609 : decode cL_law 609 = .ok (.aload_n 2, 1) := by decide +kernel
theorem dL_law_610 : decode cL_law 610 = .ok (.aload_n 0, 1) := by decide +kernel
theorem dL_law_611 : decode cL_law 611 = .ok (.iload_n 3, 1) := by decide +kernel
theorem dL_law_612 : decode cL_law 612 = .ok (.iconst 1, 1) := by decide +kernel
theorem dL_law_613 : decode cL_law 613 = .ok (.iadd, 1) := by decide +kernel
theorem dL_law_614 : decode cL_law 614 = .ok (.iaload, 1) := by decide +kernel
theorem dL_law_615 : decode cL_law 615 = .ok (.aload_n 0, 1) := by decide +kernel
theorem dL_law_616 : decode cL_law 616 = .ok (.iload_n 3, 1) := by decide +kernel
theorem dL_law_617 : decode cL_law 617 = .ok (.iconst 2, 1) := by decide +kernel
theorem dL_law_618 : decode cL_law 618 = .ok (.iadd, 1) := by decide +kernel
theorem dL_law_619 : decode cL_law 619 = .ok (.iaload, 1) := by decide +kernel
theorem dL_law_620 : decode cL_law 620 = .ok (.invokevirtual 95, 3) := by decide +kernel
theorem dL_law_623 : decode cL_law 623 = .ok (.if_icmp .eq 139, 3) := by decide +kernel
theorem dL_law_626 : decode cL_law 626 = .ok (.iconst 0, 1) := by decide +kernel
theorem dL_law_627 : decode cL_law 627 = .ok (.ireturn, 1) := by decide +kernel
theorem dL_law_628 : decode cL_law 628 = .ok (.aload_n 1, 1) := by decide +kernel
theorem dL_law_629 : decode cL_law 629 = .ok (.aload_n 0, 1) := by decide +kernel
theorem dL_law_630 : decode cL_law 630 = .ok (.iload_n 3, 1) := by decide +kernel
theorem dL_law_631 : decode cL_law 631 = .ok (.iconst 1, 1) := by decide +kernel
theorem dL_law_632 : decode cL_law 632 = .ok (.iadd, 1) := by decide +kernel
theorem dL_law_633 : decode cL_law 633 = .ok (.iaload, 1) := by decide +kernel
theorem dL_law_634 : decode cL_law 634 = .ok (.invokevirtual 96, 3) := by decide +kernel
theorem dL_law_637 : decode cL_law 637 = .ok (.aload_n 2, 1) := by decide +kernel
theorem dL_law_638 : decode cL_law 638 = .ok (.aload_n 0, 1) := by decide +kernel
theorem dL_law_639 : decode cL_law 639 = .ok (.iload_n 3, 1) := by decide +kernel
theorem dL_law_640 : decode cL_law 640 = .ok (.iconst 1, 1) := by decide +kernel
theorem dL_law_641 : decode cL_law 641 = .ok (.iadd, 1) := by decide +kernel
theorem dL_law_642 : decode cL_law 642 = .ok (.iaload, 1) := by decide +kernel
theorem dL_law_643 : decode cL_law 643 = .ok (.invokevirtual 99, 3) := by decide +kernel
theorem dL_law_646 : decode cL_law 646 = .ok (.if_icmp .eq 116, 3) := by decide +kernel
theorem dL_law_649 : decode cL_law 649 = .ok (.iconst 0, 1) := by decide +kernel
theorem dL_law_650 : decode cL_law 650 = .ok (.ireturn, 1) := by decide +kernel
theorem dL_law_651 : decode cL_law 651 = .ok (.aload_n 1, 1) := by decide +kernel
theorem dL_law_652 : decode cL_law 652 = .ok (.aload_n 0, 1) := by decide +kernel
theorem dL_law_653 : decode cL_law 653 = .ok (.iload_n 3, 1) := by decide +kernel
theorem dL_law_654 : decode cL_law 654 = .ok (.iconst 1, 1) := by decide +kernel
theorem dL_law_655 : decode cL_law 655 = .ok (.iadd, 1) := by decide +kernel
theorem dL_law_656 : decode cL_law 656 = .ok (.iaload, 1) := by decide +kernel
theorem dL_law_657 : decode cL_law 657 = .ok (.invokevirtual 100, 3) := by decide +kernel
theorem dL_law_660 : decode cL_law 660 = .ok (.aload_n 2, 1) := by decide +kernel
theorem dL_law_661 : decode cL_law 661 = .ok (.aload_n 0, 1) := by decide +kernel
theorem dL_law_662 : decode cL_law 662 = .ok (.iload_n 3, 1) := by decide +kernel
theorem dL_law_663 : decode cL_law 663 = .ok (.iconst 1, 1) := by decide +kernel
theorem dL_law_664 : decode cL_law 664 = .ok (.iadd, 1) := by decide +kernel
theorem dL_law_665 : decode cL_law 665 = .ok (.iaload, 1) := by decide +kernel
theorem dL_law_666 : decode cL_law 666 = .ok (.invokevirtual 103, 3) := by decide +kernel
theorem dL_law_669 : decode cL_law 669 = .ok (.if_icmp .eq 93, 3) := by decide +kernel
theorem dL_law_672 : decode cL_law 672 = .ok (.iconst 0, 1) := by decide +kernel
theorem dL_law_673 : decode cL_law 673 = .ok (.ireturn, 1) := by decide +kernel
theorem dL_law_674 : decode cL_law 674 = .ok (.aload_n 1, 1) := by decide +kernel
theorem dL_law_675 : decode cL_law 675 = .ok (.aload_n 0, 1) := by decide +kernel
theorem dL_law_676 : decode cL_law 676 = .ok (.iload_n 3, 1) := by decide +kernel
theorem dL_law_677 : decode cL_law 677 = .ok (.iconst 1, 1) := by decide +kernel
theorem dL_law_678 : decode cL_law 678 = .ok (.iadd, 1) := by decide +kernel
theorem dL_law_679 : decode cL_law 679 = .ok (.iaload, 1) := by decide +kernel
theorem dL_law_680 : decode cL_law 680 = .ok (.aload_n 0, 1) := by decide +kernel
theorem dL_law_681 : decode cL_law 681 = .ok (.iload_n 3, 1) := by decide +kernel
theorem dL_law_682 : decode cL_law 682 = .ok (.iconst 2, 1) := by decide +kernel
theorem dL_law_683 : decode cL_law 683 = .ok (.iadd, 1) := by decide +kernel
theorem dL_law_684 : decode cL_law 684 = .ok (.iaload, 1) := by decide +kernel
theorem dL_law_685 : decode cL_law 685 = .ok (.invokevirtual 104, 3) := by decide +kernel
theorem dL_law_688 : decode cL_law 688 = .ok (.aload_n 2, 1) := by decide +kernel
theorem dL_law_689 : decode cL_law 689 = .ok (.aload_n 0, 1) := by decide +kernel
theorem dL_law_690 : decode cL_law 690 = .ok (.iload_n 3, 1) := by decide +kernel
theorem dL_law_691 : decode cL_law 691 = .ok (.iconst 1, 1) := by decide +kernel
theorem dL_law_692 : decode cL_law 692 = .ok (.iadd, 1) := by decide +kernel
theorem dL_law_693 : decode cL_law 693 = .ok (.iaload, 1) := by decide +kernel
theorem dL_law_694 : decode cL_law 694 = .ok (.aload_n 0, 1) := by decide +kernel
theorem dL_law_695 : decode cL_law 695 = .ok (.iload_n 3, 1) := by decide +kernel
theorem dL_law_696 : decode cL_law 696 = .ok (.iconst 2, 1) := by decide +kernel
theorem dL_law_697 : decode cL_law 697 = .ok (.iadd, 1) := by decide +kernel
theorem dL_law_698 : decode cL_law 698 = .ok (.iaload, 1) := by decide +kernel
theorem dL_law_699 : decode cL_law 699 = .ok (.invokevirtual 107, 3) := by decide +kernel
theorem dL_law_702 : decode cL_law 702 = .ok (.if_icmp .eq 60, 3) := by decide +kernel
theorem dL_law_705 : decode cL_law 705 = .ok (.iconst 0, 1) := by decide +kernel
theorem dL_law_706 : decode cL_law 706 = .ok (.ireturn, 1) := by decide +kernel
theorem dL_law_707 : decode cL_law 707 = .ok (.aload_n 1, 1) := by decide +kernel
theorem dL_law_708 : decode cL_law 708 = .ok (.invokevirtual 108, 3) := by decide +kernel
theorem dL_law_711 : decode cL_law 711 = .ok (.dstore 4, 2) := by decide +kernel
theorem dL_law_713 : decode cL_law 713 = .ok (.aload_n 2, 1) := by decide +kernel
theorem dL_law_714 : decode cL_law 714 = .ok (.invokevirtual 112, 3) := by decide +kernel
theorem dL_law_717 : decode cL_law 717 = .ok (.dstore 6, 2) := by decide +kernel
theorem dL_law_719 : decode cL_law 719 = .ok (.dload 4, 2) := by decide +kernel
theorem dL_law_721 : decode cL_law 721 = .ok (.dload 6, 2) := by decide +kernel
theorem dL_law_723 : decode cL_law 723 = .ok (.dcmp .l, 1) := by decide +kernel
theorem dL_law_724 : decode cL_law 724 = .ok (.ifCond .eq 21, 3) := by decide +kernel
theorem dL_law_727 : decode cL_law 727 = .ok (.dload 4, 2) := by decide +kernel
theorem dL_law_729 : decode cL_law 729 = .ok (.dload 4, 2) := by decide +kernel
theorem dL_law_731 : decode cL_law 731 = .ok (.dcmp .l, 1) := by decide +kernel
theorem dL_law_732 : decode cL_law 732 = .ok (.ifCond .eq 11, 3) := by decide +kernel
theorem dL_law_735 : decode cL_law 735 = .ok (.dload 6, 2) := by decide +kernel
theorem dL_law_737 : decode cL_law 737 = .ok (.dload 6, 2) := by decide +kernel
theorem dL_law_739 : decode cL_law 739 = .ok (.dcmp .l, 1) := by decide +kernel
theorem dL_law_740 : decode cL_law 740 = .ok (.ifCond .ne 5, 3) := by decide +kernel
theorem dL_law_743 : decode cL_law 743 = .ok (.iconst 0, 1) := by decide +kernel
theorem dL_law_744 : decode cL_law 744 = .ok (.ireturn, 1) := by decide +kernel
theorem dL_law_745 : decode cL_law 745 = .ok (.goto 17, 3) := by decide +kernel
theorem dL_law_748 : decode cL_law 748 = .ok (.aload_n 1, 1) := by decide +kernel
theorem dL_law_749 : decode cL_law 749 = .ok (.invokevirtual 113, 3) := by decide +kernel
theorem dL_law_752 : decode cL_law 752 = .ok (.aload_n 2, 1) := by decide +kernel
theorem dL_law_753 : decode cL_law 753 = .ok (.invokevirtual 117, 3) := by decide +kernel
theorem dL_law_756 : decode cL_law 756 = .ok (.lcmp, 1) := by decide +kernel
theorem dL_law_757 : decode cL_law 757 = .ok (.ifCond .eq 5, 3) := by decide +kernel
theorem dL_law_760 : decode cL_law 760 = .ok (.iconst 0, 1) := by decide +kernel
theorem dL_law_761 : decode cL_law 761 = .ok (.ireturn, 1) := by decide +kernel
theorem dL_law_762 : decode cL_law 762 = .ok (.iinc 3 3, 3) := by decide +kernel
theorem dL_law_765 : decode cL_law 765 = .ok (.goto (-747), 3) := by decide +kernel
theorem dL_law_768 : decode cL_law 768 = .ok (.iconst 1, 1) := by decide +kernel
theorem dL_law_769 : decode cL_law 769 = .ok (.ireturn, 1) := by decide +kernel
end
section
/-! the words of wsL_law, one by one -/
theorem wi_1 {w : Cond} (h : w ∈ wsL_law_r1) : w ∈ wsL_law := by
  unfold wsL_law
  simp only [List.mem_append, h, true_or, or_true]
theorem wi_2 {w : Cond} (h : w ∈ wsL_law_r2) : w ∈ wsL_law := by
  unfold wsL_law
  simp only [List.mem_append, h, true_or, or_true]
theorem wi_3 {w : Cond} (h : w ∈ wsL_law_r3) : w ∈ wsL_law := by
  unfold wsL_law
  simp only [List.mem_append, h, true_or, or_true]
theorem wi_4 {w : Cond} (h : w ∈ wsL_law_r4) : w ∈ wsL_law := by
  unfold wsL_law
  simp only [List.mem_append, h, true_or, or_true]
theorem wi_5 {w : Cond} (h : w ∈ wsL_law_r5) : w ∈ wsL_law := by
  unfold wsL_law
  simp only [List.mem_append, h, true_or, or_true]
theorem wi_6 {w : Cond} (h : w ∈ wsL_law_r6) : w ∈ wsL_law := by
  unfold wsL_law
  simp only [List.mem_append, h, true_or, or_true]
theorem wi_7 {w : Cond} (h : w ∈ wsL_law_r7) : w ∈ wsL_law := by
  unfold wsL_law
  simp only [List.mem_append, h, true_or, or_true]
theorem wi_8 {w : Cond} (h : w ∈ wsL_law_r8) : w ∈ wsL_law := by
  unfold wsL_law
  simp only [List.mem_append, h, true_or, or_true]
theorem wi_9 {w : Cond} (h : w ∈ wsL_law_r9) : w ∈ wsL_law := by
  unfold wsL_law
  simp only [List.mem_append, h, true_or, or_true]
theorem wi_10 {w : Cond} (h : w ∈ wsL_law_r10) : w ∈ wsL_law := by
  unfold wsL_law
  simp only [List.mem_append, h, true_or, or_true]
theorem wi_11 {w : Cond} (h : w ∈ wsL_law_r11) : w ∈ wsL_law := by
  unfold wsL_law
  simp only [List.mem_append, h, true_or, or_true]
theorem wi_12 {w : Cond} (h : w ∈ wsL_law_r12) : w ∈ wsL_law := by
  unfold wsL_law
  simp only [List.mem_append, h, true_or, or_true]
theorem wi_13 {w : Cond} (h : w ∈ wsL_law_r13) : w ∈ wsL_law := by
  unfold wsL_law
  simp only [List.mem_append, h, true_or, or_true]
theorem wi_14 {w : Cond} (h : w ∈ wsL_law_r14) : w ∈ wsL_law := by
  unfold wsL_law
  simp only [List.mem_append, h, true_or, or_true]
theorem wi_15 {w : Cond} (h : w ∈ wsL_law_r15) : w ∈ wsL_law := by
  unfold wsL_law
  simp only [List.mem_append, h, true_or, or_true]
theorem wi_16 {w : Cond} (h : w ∈ wsL_law_r16) : w ∈ wsL_law := by
  unfold wsL_law
  simp only [List.mem_append, h, true_or, or_true]
theorem wi_17 {w : Cond} (h : w ∈ wsL_law_r17) : w ∈ wsL_law := by
  unfold wsL_law
  simp only [List.mem_append, h, true_or, or_true]
theorem wi_18 {w : Cond} (h : w ∈ wsL_law_r18) : w ∈ wsL_law := by
  unfold wsL_law
  simp only [List.mem_append, h, true_or, or_true]
theorem wi_19 {w : Cond} (h : w ∈ wsL_law_r19) : w ∈ wsL_law := by
  unfold wsL_law
  simp only [List.mem_append, h, true_or, or_true]
theorem wi_20 {w : Cond} (h : w ∈ wsL_law_r20) : w ∈ wsL_law := by
  unfold wsL_law
  simp only [List.mem_append, h, true_or, or_true]
theorem wi_21 {w : Cond} (h : w ∈ wsL_law_r21) : w ∈ wsL_law := by
  unfold wsL_law
  simp only [List.mem_append, h, true_or, or_true]
theorem wi_22 {w : Cond} (h : w ∈ wsL_law_r22) : w ∈ wsL_law := by
  unfold wsL_law
  simp only [List.mem_append, h, true_or, or_true]
theorem wi_23 {w : Cond} (h : w ∈ wsL_law_r23) : w ∈ wsL_law := by
  unfold wsL_law
  simp only [List.mem_append, h, true_or, or_true]
theorem wi_24 {w : Cond} (h : w ∈ wsL_law_r24) : w ∈ wsL_law := by
  unfold wsL_law
  simp only [List.mem_append, h, true_or, or_true]
theorem wi_25 {w : Cond} (h : w ∈ wsL_law_r25) : w ∈ wsL_law := by
  unfold wsL_law
  simp only [List.mem_append, h, true_or, or_true]
theorem wi_26 {w : Cond} (h : w ∈ wsL_law_r26) : w ∈ wsL_law := by
  unfold wsL_law
  simp only [List.mem_append, h, true_or, or_true]
theorem wi_27 {w : Cond} (h : w ∈ wsL_law_r27) : w ∈ wsL_law := by
  unfold wsL_law
  simp only [List.mem_append, h, true_or, or_true]
theorem wi_28 {w : Cond} (h : w ∈ wsL_law_r28) : w ∈ wsL_law := by
  unfold wsL_law
  simp only [List.mem_append, h, true_or, or_true]
theorem wi_29 {w : Cond} (h : w ∈ wsL_law_r29) : w ∈ wsL_law := by
  unfold wsL_law
  simp only [List.mem_append, h, true_or, or_true]
theorem wi_30 {w : Cond} (h : w ∈ wsL_law_r30) : w ∈ wsL_law := by
  unfold wsL_law
  simp only [List.mem_append, h, true_or, or_true]
theorem wi_31 {w : Cond} (h : w ∈ wsL_law_r31) : w ∈ wsL_law := by
  unfold wsL_law
  simp only [List.mem_append, h, true_or, or_true]
theorem wi_32 {w : Cond} (h : w ∈ wsL_law_r32) : w ∈ wsL_law := by
  unfold wsL_law
  simp only [List.mem_append, h, true_or, or_true]
theorem wi_33 {w : Cond} (h : w ∈ wsL_law_r33) : w ∈ wsL_law := by
  unfold wsL_law
  simp only [List.mem_append, h, true_or, or_true]
theorem wi_34 {w : Cond} (h : w ∈ wsL_law_r34) : w ∈ wsL_law := by
  unfold wsL_law
  simp only [List.mem_append, h, true_or, or_true]
theorem wi_35 {w : Cond} (h : w ∈ wsL_law_r35) : w ∈ wsL_law := by
  unfold wsL_law
  simp only [List.mem_append, h, true_or, or_true]
theorem wd_1_0 : Cond.classLink RL 7 RX5 ∈ wsL_law := wi_1 (List.mem_of_getElem? (i := 0) rfl)
theorem wd_1_1 : Cond.instantiable RX5 6 ∈ wsL_law := wi_1 (List.mem_of_getElem? (i := 1) rfl)
theorem wd_1_2 : Cond.initialized RX5 ∈ wsL_law := wi_1 (List.mem_of_getElem? (i := 2) rfl)
theorem wd_1_3 : Cond.classLink RL 10 RX6 ∈ wsL_law := wi_1 (List.mem_of_getElem? (i := 3) rfl)
theorem wd_1_4 : Cond.instantiable RX6 11 ∈ wsL_law := wi_1 (List.mem_of_getElem? (i := 4) rfl)
theorem wd_1_5 : Cond.initialized RX6 ∈ wsL_law := wi_1 (List.mem_of_getElem? (i := 5) rfl)
theorem wd_1_6 : Cond.methodLink RL 9 yX5_init ∈ wsL_law := wi_1 (List.mem_of_getElem? (i := 6) rfl)
theorem wd_1_7 : Cond.instanceMethod yX5_init ∈ wsL_law := wi_1 (List.mem_of_getElem? (i := 7) rfl)
theorem wd_1_8 : Cond.code yX5_init cX5_init 4 none ∈ wsL_law := wi_1 (List.mem_of_getElem? (i := 8) rfl)
theorem wd_1_9 : Cond.methodLink RX5 3 objectInit ∈ wsL_law := wi_1 (List.mem_of_getElem? (i := 9) rfl)
theorem wd_1_10 : Cond.instanceMethod objectInit ∈ wsL_law := wi_1 (List.mem_of_getElem? (i := 10) rfl)
theorem wd_1_11 : Cond.code objectInit ⟨#[0xb1]⟩ 1 none ∈ wsL_law := wi_1 (List.mem_of_getElem? (i := 11) rfl)
theorem wd_1_12 : Cond.classLink RX5 9 RX1 ∈ wsL_law := wi_1 (List.mem_of_getElem? (i := 12) rfl)
theorem wd_1_13 : Cond.instantiable RX1 2 ∈ wsL_law := wi_1 (List.mem_of_getElem? (i := 13) rfl)
theorem wd_1_14 : Cond.initialized RX1 ∈ wsL_law := wi_1 (List.mem_of_getElem? (i := 14) rfl)
theorem wd_1_15 : Cond.classLink RX5 28 RX3 ∈ wsL_law := wi_1 (List.mem_of_getElem? (i := 15) rfl)
theorem wd_1_16 : Cond.instantiable RX3 11 ∈ wsL_law := wi_1 (List.mem_of_getElem? (i := 16) rfl)
theorem wd_1_17 : Cond.initialized RX3 ∈ wsL_law := wi_1 (List.mem_of_getElem? (i := 17) rfl)
theorem wd_1_18 : Cond.fieldLink RX5 38 "PeatRailway" "text" "LPeatRailway$InputText;" ∈ wsL_law := wi_1 (List.mem_of_getElem? (i := 18) rfl)
theorem wd_1_19 : Cond.fieldLink RX5 42 "PeatRailway" "now" "LPeatRailway$State;" ∈ wsL_law := wi_1 (List.mem_of_getElem? (i := 19) rfl)
theorem wd_1_20 : Cond.fieldLink RX5 46 "PeatRailway" "trial" "LPeatRailway$State;" ∈ wsL_law := wi_1 (List.mem_of_getElem? (i := 20) rfl)
theorem wd_1_21 : Cond.classLink RX5 49 RX0 ∈ wsL_law := wi_1 (List.mem_of_getElem? (i := 21) rfl)
theorem wd_1_22 : Cond.instantiable RX0 2 ∈ wsL_law := wi_1 (List.mem_of_getElem? (i := 22) rfl)
theorem wd_1_23 : Cond.initialized RX0 ∈ wsL_law := wi_1 (List.mem_of_getElem? (i := 23) rfl)
theorem wd_2_0 : Cond.fieldLink RX5 52 "PeatRailway" "history" "LPeatRailway$History;" ∈ wsL_law := wi_2 (List.mem_of_getElem? (i := 0) rfl)
theorem wd_2_1 : Cond.fieldLink RX5 56 "PeatRailway" "images" "[LPeatRailway$State;" ∈ wsL_law := wi_2 (List.mem_of_getElem? (i := 1) rfl)
theorem wd_2_2 : Cond.methodLink RX5 11 yX1_init ∈ wsL_law := wi_2 (List.mem_of_getElem? (i := 2) rfl)
theorem wd_2_3 : Cond.instanceMethod yX1_init ∈ wsL_law := wi_2 (List.mem_of_getElem? (i := 3) rfl)
theorem wd_2_4 : Cond.code yX1_init cX1_init 1 none ∈ wsL_law := wi_2 (List.mem_of_getElem? (i := 4) rfl)
theorem wd_2_5 : Cond.methodLink RX1 3 objectInit ∈ wsL_law := wi_2 (List.mem_of_getElem? (i := 5) rfl)
theorem wd_2_6 : Cond.arrayClass .char ∈ wsL_law := wi_2 (List.mem_of_getElem? (i := 6) rfl)
theorem wd_2_7 : Cond.fieldLink RX1 9 "PeatRailway$InputText" "signs" "[C" ∈ wsL_law := wi_2 (List.mem_of_getElem? (i := 7) rfl)
theorem wd_2_8 : Cond.methodLink RX5 14 yJ0_length_8abf5 ∈ wsL_law := wi_2 (List.mem_of_getElem? (i := 8) rfl)
theorem wd_2_9 : Cond.instanceMethod yJ0_length_8abf5 ∈ wsL_law := wi_2 (List.mem_of_getElem? (i := 9) rfl)
theorem wd_2_10 : Cond.selects RJ0 yJ0_length_8abf5 yJ0_length_8abf5 ∈ wsL_law := wi_2 (List.mem_of_getElem? (i := 10) rfl)
theorem wd_2_11 : Cond.initialized RJ0 ∈ wsL_law := wi_2 (List.mem_of_getElem? (i := 11) rfl)
theorem wd_2_12 : Cond.code yJ0_length_8abf5 cJ0_length_8abf5 1 (some .int) ∈ wsL_law := wi_2 (List.mem_of_getElem? (i := 12) rfl)
theorem wd_2_13 : Cond.fieldLink RJ0 9 "java/lang/String" "value" "[B" ∈ wsL_law := wi_2 (List.mem_of_getElem? (i := 13) rfl)
theorem wd_2_14 : Cond.methodLink RJ0 335 yJ0_coder_7d493 ∈ wsL_law := wi_2 (List.mem_of_getElem? (i := 14) rfl)
theorem wd_2_15 : Cond.instanceMethod yJ0_coder_7d493 ∈ wsL_law := wi_2 (List.mem_of_getElem? (i := 15) rfl)
theorem wd_2_16 : Cond.selects RJ0 yJ0_coder_7d493 yJ0_coder_7d493 ∈ wsL_law := wi_2 (List.mem_of_getElem? (i := 16) rfl)
theorem wd_2_17 : Cond.code yJ0_coder_7d493 cJ0_coder_7d493 1 (some .byte) ∈ wsL_law := wi_2 (List.mem_of_getElem? (i := 17) rfl)
theorem wd_2_18 : Cond.fieldLink RJ0 38 "java/lang/String" "COMPACT_STRINGS" "Z" ∈ wsL_law := wi_2 (List.mem_of_getElem? (i := 18) rfl)
theorem wd_2_19 : Cond.fieldLink RJ0 15 "java/lang/String" "coder" "B" ∈ wsL_law := wi_2 (List.mem_of_getElem? (i := 19) rfl)
theorem wd_2_20 : Cond.methodLink RX5 20 yJ0_charAt_5068e ∈ wsL_law := wi_2 (List.mem_of_getElem? (i := 20) rfl)
theorem wd_2_21 : Cond.instanceMethod yJ0_charAt_5068e ∈ wsL_law := wi_2 (List.mem_of_getElem? (i := 21) rfl)
theorem wd_2_22 : Cond.selects RJ0 yJ0_charAt_5068e yJ0_charAt_5068e ∈ wsL_law := wi_2 (List.mem_of_getElem? (i := 22) rfl)
theorem wd_2_23 : Cond.code yJ0_charAt_5068e cJ0_charAt_5068e 2 (some .char) ∈ wsL_law := wi_2 (List.mem_of_getElem? (i := 23) rfl)
theorem wd_3_0 : Cond.methodLink RJ0 492 yJ0_isLatin1_aae02 ∈ wsL_law := wi_3 (List.mem_of_getElem? (i := 0) rfl)
theorem wd_3_1 : Cond.instanceMethod yJ0_isLatin1_aae02 ∈ wsL_law := wi_3 (List.mem_of_getElem? (i := 1) rfl)
theorem wd_3_2 : Cond.selects RJ0 yJ0_isLatin1_aae02 yJ0_isLatin1_aae02 ∈ wsL_law := wi_3 (List.mem_of_getElem? (i := 2) rfl)
theorem wd_3_3 : Cond.code yJ0_isLatin1_aae02 cJ0_isLatin1_aae02 1 (some .boolean) ∈ wsL_law := wi_3 (List.mem_of_getElem? (i := 3) rfl)
theorem wd_3_4 : Cond.methodLink RJ0 495 yJ1_charAt_3b067 ∈ wsL_law := wi_3 (List.mem_of_getElem? (i := 4) rfl)
theorem wd_3_5 : Cond.static yJ1_charAt_3b067 ∈ wsL_law := wi_3 (List.mem_of_getElem? (i := 5) rfl)
theorem wd_3_6 : Cond.initialized RJ1 ∈ wsL_law := wi_3 (List.mem_of_getElem? (i := 6) rfl)
theorem wd_3_7 : Cond.code yJ1_charAt_3b067 cJ1_charAt_3b067 2 (some .char) ∈ wsL_law := wi_3 (List.mem_of_getElem? (i := 7) rfl)
theorem wd_3_8 : Cond.methodLink RJ1 9 yJ0_checkIndex_df160 ∈ wsL_law := wi_3 (List.mem_of_getElem? (i := 8) rfl)
theorem wd_3_9 : Cond.static yJ0_checkIndex_df160 ∈ wsL_law := wi_3 (List.mem_of_getElem? (i := 9) rfl)
theorem wd_3_10 : Cond.code yJ0_checkIndex_df160 cJ0_checkIndex_df160 2 none ∈ wsL_law := wi_3 (List.mem_of_getElem? (i := 10) rfl)
theorem wd_3_11 : Cond.fieldLink RJ0 1053 "jdk/internal/util/Preconditions" "SIOOBE_FORMATTER" "Ljava/util/function/BiFunction;" ∈ wsL_law := wi_3 (List.mem_of_getElem? (i := 11) rfl)
theorem wd_3_12 : Cond.methodLink RJ0 1059 yJ3_checkIndex_8e157 ∈ wsL_law := wi_3 (List.mem_of_getElem? (i := 12) rfl)
theorem wd_3_13 : Cond.static yJ3_checkIndex_8e157 ∈ wsL_law := wi_3 (List.mem_of_getElem? (i := 13) rfl)
theorem wd_3_14 : Cond.initialized RJ3 ∈ wsL_law := wi_3 (List.mem_of_getElem? (i := 14) rfl)
theorem wd_3_15 : Cond.code yJ3_checkIndex_8e157 cJ3_checkIndex_8e157 3 (some .int) ∈ wsL_law := wi_3 (List.mem_of_getElem? (i := 15) rfl)
theorem wd_3_16 : Cond.methodLink RJ0 498 yJ2_charAt_3b067 ∈ wsL_law := wi_3 (List.mem_of_getElem? (i := 16) rfl)
theorem wd_3_17 : Cond.static yJ2_charAt_3b067 ∈ wsL_law := wi_3 (List.mem_of_getElem? (i := 17) rfl)
theorem wd_3_18 : Cond.initialized RJ2 ∈ wsL_law := wi_3 (List.mem_of_getElem? (i := 18) rfl)
theorem wd_3_19 : Cond.code yJ2_charAt_3b067 cJ2_charAt_3b067 2 (some .char) ∈ wsL_law := wi_3 (List.mem_of_getElem? (i := 19) rfl)
theorem wd_3_20 : Cond.methodLink RJ2 67 yJ2_checkIndex_2214a ∈ wsL_law := wi_3 (List.mem_of_getElem? (i := 20) rfl)
theorem wd_3_21 : Cond.static yJ2_checkIndex_2214a ∈ wsL_law := wi_3 (List.mem_of_getElem? (i := 21) rfl)
theorem wd_3_22 : Cond.code yJ2_checkIndex_2214a cJ2_checkIndex_2214a 2 none ∈ wsL_law := wi_3 (List.mem_of_getElem? (i := 22) rfl)
theorem wd_3_23 : Cond.methodLink RJ2 48 yJ2_length_9d52b ∈ wsL_law := wi_3 (List.mem_of_getElem? (i := 23) rfl)
theorem wd_4_0 : Cond.static yJ2_length_9d52b ∈ wsL_law := wi_4 (List.mem_of_getElem? (i := 0) rfl)
theorem wd_4_1 : Cond.code yJ2_length_9d52b cJ2_length_9d52b 1 (some .int) ∈ wsL_law := wi_4 (List.mem_of_getElem? (i := 1) rfl)
theorem wd_4_2 : Cond.methodLink RJ2 414 yJ0_checkIndex_df160 ∈ wsL_law := wi_4 (List.mem_of_getElem? (i := 2) rfl)
theorem wd_4_3 : Cond.methodLink RJ2 71 yJ2_getChar_3b067 ∈ wsL_law := wi_4 (List.mem_of_getElem? (i := 3) rfl)
theorem wd_4_4 : Cond.static yJ2_getChar_3b067 ∈ wsL_law := wi_4 (List.mem_of_getElem? (i := 4) rfl)
theorem wd_4_5 : Cond.code yJ2_getChar_3b067 cJ2_getChar_3b067 2 (some .char) ∈ wsL_law := wi_4 (List.mem_of_getElem? (i := 5) rfl)
theorem wd_4_6 : Cond.fieldLink RJ2 44 "java/lang/StringUTF16" "$assertionsDisabled" "Z" ∈ wsL_law := wi_4 (List.mem_of_getElem? (i := 6) rfl)
theorem wd_4_7 : Cond.fieldLink RJ2 59 "java/lang/StringUTF16" "HI_BYTE_SHIFT" "I" ∈ wsL_law := wi_4 (List.mem_of_getElem? (i := 7) rfl)
theorem wd_4_8 : Cond.fieldLink RJ2 63 "java/lang/StringUTF16" "LO_BYTE_SHIFT" "I" ∈ wsL_law := wi_4 (List.mem_of_getElem? (i := 8) rfl)
theorem wd_4_9 : Cond.methodLink RX5 24 yX1_append ∈ wsL_law := wi_4 (List.mem_of_getElem? (i := 9) rfl)
theorem wd_4_10 : Cond.instanceMethod yX1_append ∈ wsL_law := wi_4 (List.mem_of_getElem? (i := 10) rfl)
theorem wd_4_11 : Cond.selects RX1 yX1_append yX1_append ∈ wsL_law := wi_4 (List.mem_of_getElem? (i := 11) rfl)
theorem wd_4_12 : Cond.code yX1_append cX1_append 2 none ∈ wsL_law := wi_4 (List.mem_of_getElem? (i := 12) rfl)
theorem wd_4_13 : Cond.fieldLink RX1 15 "PeatRailway$InputText" "length" "I" ∈ wsL_law := wi_4 (List.mem_of_getElem? (i := 13) rfl)
theorem wd_4_14 : Cond.methodLink RX5 30 yX3_init ∈ wsL_law := wi_4 (List.mem_of_getElem? (i := 14) rfl)
theorem wd_4_15 : Cond.instanceMethod yX3_init ∈ wsL_law := wi_4 (List.mem_of_getElem? (i := 15) rfl)
theorem wd_4_16 : Cond.code yX3_init cX3_init 2 none ∈ wsL_law := wi_4 (List.mem_of_getElem? (i := 16) rfl)
theorem wd_4_17 : Cond.methodLink RX3 3 objectInit ∈ wsL_law := wi_4 (List.mem_of_getElem? (i := 17) rfl)
theorem wd_4_18 : Cond.classLink RX3 9 RX2 ∈ wsL_law := wi_4 (List.mem_of_getElem? (i := 18) rfl)
theorem wd_4_19 : Cond.fieldLink RX3 11 "PeatRailway$State" "segments" "[LPeatRailway$Segment;" ∈ wsL_law := wi_4 (List.mem_of_getElem? (i := 19) rfl)
theorem wd_4_20 : Cond.instantiable RX2 6 ∈ wsL_law := wi_4 (List.mem_of_getElem? (i := 20) rfl)
theorem wd_4_21 : Cond.initialized RX2 ∈ wsL_law := wi_4 (List.mem_of_getElem? (i := 21) rfl)
theorem wd_4_22 : Cond.classLink RX3 18 RX4 ∈ wsL_law := wi_4 (List.mem_of_getElem? (i := 22) rfl)
theorem wd_4_23 : Cond.fieldLink RX3 20 "PeatRailway$State" "trains" "[LPeatRailway$Train;" ∈ wsL_law := wi_4 (List.mem_of_getElem? (i := 23) rfl)
theorem wd_5_0 : Cond.instantiable RX4 10 ∈ wsL_law := wi_5 (List.mem_of_getElem? (i := 0) rfl)
theorem wd_5_1 : Cond.initialized RX4 ∈ wsL_law := wi_5 (List.mem_of_getElem? (i := 1) rfl)
theorem wd_5_2 : Cond.arrayClass .int ∈ wsL_law := wi_5 (List.mem_of_getElem? (i := 2) rfl)
theorem wd_5_3 : Cond.fieldLink RX3 25 "PeatRailway$State" "settings" "[I" ∈ wsL_law := wi_5 (List.mem_of_getElem? (i := 3) rfl)
theorem wd_5_4 : Cond.instanceMethod yX2_init ∈ wsL_law := wi_5 (List.mem_of_getElem? (i := 4) rfl)
theorem wd_5_5 : Cond.code yX2_init cX2_init 1 none ∈ wsL_law := wi_5 (List.mem_of_getElem? (i := 5) rfl)
theorem wd_5_6 : Cond.methodLink RX2 3 objectInit ∈ wsL_law := wi_5 (List.mem_of_getElem? (i := 6) rfl)
theorem wd_5_7 : Cond.instanceMethod yX4_init ∈ wsL_law := wi_5 (List.mem_of_getElem? (i := 7) rfl)
theorem wd_5_8 : Cond.code yX4_init cX4_init 1 none ∈ wsL_law := wi_5 (List.mem_of_getElem? (i := 8) rfl)
theorem wd_5_9 : Cond.methodLink RX4 3 objectInit ∈ wsL_law := wi_5 (List.mem_of_getElem? (i := 9) rfl)
theorem wd_5_10 : Cond.methodLink RX5 31 yX1_layOnto ∈ wsL_law := wi_5 (List.mem_of_getElem? (i := 10) rfl)
theorem wd_5_11 : Cond.instanceMethod yX1_layOnto ∈ wsL_law := wi_5 (List.mem_of_getElem? (i := 11) rfl)
theorem wd_5_12 : Cond.selects RX1 yX1_layOnto yX1_layOnto ∈ wsL_law := wi_5 (List.mem_of_getElem? (i := 12) rfl)
theorem wd_5_13 : Cond.code yX1_layOnto cX1_layOnto 4 none ∈ wsL_law := wi_5 (List.mem_of_getElem? (i := 13) rfl)
theorem wd_5_14 : Cond.methodLink RX1 27 yX3_beginTrack ∈ wsL_law := wi_5 (List.mem_of_getElem? (i := 14) rfl)
theorem wd_5_15 : Cond.instanceMethod yX3_beginTrack ∈ wsL_law := wi_5 (List.mem_of_getElem? (i := 15) rfl)
theorem wd_5_16 : Cond.selects RX3 yX3_beginTrack yX3_beginTrack ∈ wsL_law := wi_5 (List.mem_of_getElem? (i := 16) rfl)
theorem wd_5_17 : Cond.code yX3_beginTrack cX3_beginTrack 1 none ∈ wsL_law := wi_5 (List.mem_of_getElem? (i := 17) rfl)
theorem wd_5_18 : Cond.fieldLink RX3 32 "PeatRailway$State" "segmentCount" "I" ∈ wsL_law := wi_5 (List.mem_of_getElem? (i := 18) rfl)
theorem wd_5_19 : Cond.methodLink RX1 19 yX1_codeAt ∈ wsL_law := wi_5 (List.mem_of_getElem? (i := 19) rfl)
theorem wd_5_20 : Cond.instanceMethod yX1_codeAt ∈ wsL_law := wi_5 (List.mem_of_getElem? (i := 20) rfl)
theorem wd_5_21 : Cond.selects RX1 yX1_codeAt yX1_codeAt ∈ wsL_law := wi_5 (List.mem_of_getElem? (i := 21) rfl)
theorem wd_5_22 : Cond.code yX1_codeAt cX1_codeAt 2 (some .int) ∈ wsL_law := wi_5 (List.mem_of_getElem? (i := 22) rfl)
theorem wd_5_23 : Cond.methodLink RX1 23 yX1_isDigit ∈ wsL_law := wi_5 (List.mem_of_getElem? (i := 23) rfl)
theorem wd_6_0 : Cond.static yX1_isDigit ∈ wsL_law := wi_6 (List.mem_of_getElem? (i := 0) rfl)
theorem wd_6_1 : Cond.code yX1_isDigit cX1_isDigit 1 (some .boolean) ∈ wsL_law := wi_6 (List.mem_of_getElem? (i := 1) rfl)
theorem wd_6_2 : Cond.methodLink RX1 32 yX3_appendSegment ∈ wsL_law := wi_6 (List.mem_of_getElem? (i := 2) rfl)
theorem wd_6_3 : Cond.instanceMethod yX3_appendSegment ∈ wsL_law := wi_6 (List.mem_of_getElem? (i := 3) rfl)
theorem wd_6_4 : Cond.selects RX3 yX3_appendSegment yX3_appendSegment ∈ wsL_law := wi_6 (List.mem_of_getElem? (i := 4) rfl)
theorem wd_6_5 : Cond.code yX3_appendSegment cX3_appendSegment 3 none ∈ wsL_law := wi_6 (List.mem_of_getElem? (i := 5) rfl)
theorem wd_6_6 : Cond.methodLink RX3 61 yX3_segmentAt ∈ wsL_law := wi_6 (List.mem_of_getElem? (i := 6) rfl)
theorem wd_6_7 : Cond.instanceMethod yX3_segmentAt ∈ wsL_law := wi_6 (List.mem_of_getElem? (i := 7) rfl)
theorem wd_6_8 : Cond.selects RX3 yX3_segmentAt yX3_segmentAt ∈ wsL_law := wi_6 (List.mem_of_getElem? (i := 8) rfl)
theorem wd_6_9 : Cond.code yX3_segmentAt cX3_segmentAt 2 (some (.object "PeatRailway$Segment")) ∈ wsL_law := wi_6 (List.mem_of_getElem? (i := 9) rfl)
theorem wd_6_10 : Cond.methodLink RX3 65 yX2_layDown ∈ wsL_law := wi_6 (List.mem_of_getElem? (i := 10) rfl)
theorem wd_6_11 : Cond.instanceMethod yX2_layDown ∈ wsL_law := wi_6 (List.mem_of_getElem? (i := 11) rfl)
theorem wd_6_12 : Cond.selects RX2 yX2_layDown yX2_layDown ∈ wsL_law := wi_6 (List.mem_of_getElem? (i := 12) rfl)
theorem wd_6_13 : Cond.code yX2_layDown cX2_layDown 2 none ∈ wsL_law := wi_6 (List.mem_of_getElem? (i := 13) rfl)
theorem wd_6_14 : Cond.fieldLink RX2 9 "PeatRailway$Segment" "softness" "I" ∈ wsL_law := wi_6 (List.mem_of_getElem? (i := 14) rfl)
theorem wd_6_15 : Cond.fieldLink RX2 15 "PeatRailway$Segment" "room" "I" ∈ wsL_law := wi_6 (List.mem_of_getElem? (i := 15) rfl)
theorem wd_6_16 : Cond.fieldLink RX2 18 "PeatRailway$Segment" "sinking" "I" ∈ wsL_law := wi_6 (List.mem_of_getElem? (i := 16) rfl)
theorem wd_6_17 : Cond.methodLink RX1 36 yX3_widenLatestSegment ∈ wsL_law := wi_6 (List.mem_of_getElem? (i := 17) rfl)
theorem wd_6_18 : Cond.instanceMethod yX3_widenLatestSegment ∈ wsL_law := wi_6 (List.mem_of_getElem? (i := 18) rfl)
theorem wd_6_19 : Cond.selects RX3 yX3_widenLatestSegment yX3_widenLatestSegment ∈ wsL_law := wi_6 (List.mem_of_getElem? (i := 19) rfl)
theorem wd_6_20 : Cond.code yX3_widenLatestSegment cX3_widenLatestSegment 2 none ∈ wsL_law := wi_6 (List.mem_of_getElem? (i := 20) rfl)
theorem wd_6_21 : Cond.fieldLink RX3 69 "PeatRailway$Segment" "room" "I" ∈ wsL_law := wi_6 (List.mem_of_getElem? (i := 21) rfl)
theorem wd_6_22 : Cond.methodLink RX1 39 yX3_endTrack ∈ wsL_law := wi_6 (List.mem_of_getElem? (i := 22) rfl)
theorem wd_6_23 : Cond.instanceMethod yX3_endTrack ∈ wsL_law := wi_6 (List.mem_of_getElem? (i := 23) rfl)
theorem wd_7_0 : Cond.selects RX3 yX3_endTrack yX3_endTrack ∈ wsL_law := wi_7 (List.mem_of_getElem? (i := 0) rfl)
theorem wd_7_1 : Cond.code yX3_endTrack cX3_endTrack 6 none ∈ wsL_law := wi_7 (List.mem_of_getElem? (i := 1) rfl)
theorem wd_7_2 : Cond.fieldLink RX3 72 "PeatRailway$Segment" "passingBelow" "I" ∈ wsL_law := wi_7 (List.mem_of_getElem? (i := 2) rfl)
theorem wd_7_3 : Cond.fieldLink RX3 79 "PeatRailway$Segment" "passingAbove" "I" ∈ wsL_law := wi_7 (List.mem_of_getElem? (i := 3) rfl)
theorem wd_7_4 : Cond.methodLink RX3 75 yX2_isPassingPlace ∈ wsL_law := wi_7 (List.mem_of_getElem? (i := 4) rfl)
theorem wd_7_5 : Cond.instanceMethod yX2_isPassingPlace ∈ wsL_law := wi_7 (List.mem_of_getElem? (i := 5) rfl)
theorem wd_7_6 : Cond.selects RX2 yX2_isPassingPlace yX2_isPassingPlace ∈ wsL_law := wi_7 (List.mem_of_getElem? (i := 6) rfl)
theorem wd_7_7 : Cond.code yX2_isPassingPlace cX2_isPassingPlace 1 (some .boolean) ∈ wsL_law := wi_7 (List.mem_of_getElem? (i := 7) rfl)
theorem wd_7_8 : Cond.methodLink RX5 35 yX1_wipe ∈ wsL_law := wi_7 (List.mem_of_getElem? (i := 8) rfl)
theorem wd_7_9 : Cond.instanceMethod yX1_wipe ∈ wsL_law := wi_7 (List.mem_of_getElem? (i := 9) rfl)
theorem wd_7_10 : Cond.selects RX1 yX1_wipe yX1_wipe ∈ wsL_law := wi_7 (List.mem_of_getElem? (i := 10) rfl)
theorem wd_7_11 : Cond.code yX1_wipe cX1_wipe 1 none ∈ wsL_law := wi_7 (List.mem_of_getElem? (i := 11) rfl)
theorem wd_7_12 : Cond.methodLink RX5 51 yX0_init ∈ wsL_law := wi_7 (List.mem_of_getElem? (i := 12) rfl)
theorem wd_7_13 : Cond.instanceMethod yX0_init ∈ wsL_law := wi_7 (List.mem_of_getElem? (i := 13) rfl)
theorem wd_7_14 : Cond.code yX0_init cX0_init 2 none ∈ wsL_law := wi_7 (List.mem_of_getElem? (i := 14) rfl)
theorem wd_7_15 : Cond.methodLink RX0 3 objectInit ∈ wsL_law := wi_7 (List.mem_of_getElem? (i := 15) rfl)
theorem wd_7_16 : Cond.classLink RX0 9 RX3 ∈ wsL_law := wi_7 (List.mem_of_getElem? (i := 16) rfl)
theorem wd_7_17 : Cond.fieldLink RX0 11 "PeatRailway$History" "states" "[LPeatRailway$State;" ∈ wsL_law := wi_7 (List.mem_of_getElem? (i := 17) rfl)
theorem wd_7_18 : Cond.methodLink RX0 17 yX3_init ∈ wsL_law := wi_7 (List.mem_of_getElem? (i := 18) rfl)
theorem wd_7_19 : Cond.methodLink RL 12 yX6_init ∈ wsL_law := wi_7 (List.mem_of_getElem? (i := 19) rfl)
theorem wd_7_20 : Cond.instanceMethod yX6_init ∈ wsL_law := wi_7 (List.mem_of_getElem? (i := 20) rfl)
theorem wd_7_21 : Cond.code yX6_init cX6_init 2 none ∈ wsL_law := wi_7 (List.mem_of_getElem? (i := 21) rfl)
theorem wd_7_22 : Cond.methodLink RX6 1 objectInit ∈ wsL_law := wi_7 (List.mem_of_getElem? (i := 22) rfl)
theorem wd_7_23 : Cond.fieldLink RX6 7 "PeatRailwayModel" "z" "[I" ∈ wsL_law := wi_7 (List.mem_of_getElem? (i := 23) rfl)
theorem wd_8_0 : Cond.fieldLink RX6 13 "PeatRailwayModel" "aside" "[I" ∈ wsL_law := wi_8 (List.mem_of_getElem? (i := 0) rfl)
theorem wd_8_1 : Cond.fieldLink RX6 16 "PeatRailwayModel" "history" "[I" ∈ wsL_law := wi_8 (List.mem_of_getElem? (i := 1) rfl)
theorem wd_8_2 : Cond.fieldLink RX6 19 "PeatRailwayModel" "images" "[I" ∈ wsL_law := wi_8 (List.mem_of_getElem? (i := 2) rfl)
theorem wd_8_3 : Cond.fieldLink RX6 22 "PeatRailwayModel" "text" "[I" ∈ wsL_law := wi_8 (List.mem_of_getElem? (i := 3) rfl)
theorem wd_8_4 : Cond.methodLink RX6 25 yX6_putSegment ∈ wsL_law := wi_8 (List.mem_of_getElem? (i := 4) rfl)
theorem wd_8_5 : Cond.instanceMethod yX6_putSegment ∈ wsL_law := wi_8 (List.mem_of_getElem? (i := 5) rfl)
theorem wd_8_6 : Cond.selects RX6 yX6_putSegment yX6_putSegment ∈ wsL_law := wi_8 (List.mem_of_getElem? (i := 6) rfl)
theorem wd_8_7 : Cond.code yX6_putSegment cX6_putSegment 4 none ∈ wsL_law := wi_8 (List.mem_of_getElem? (i := 7) rfl)
theorem wd_8_8 : Cond.methodLink RL 13 yX5_type ∈ wsL_law := wi_8 (List.mem_of_getElem? (i := 8) rfl)
theorem wd_8_9 : Cond.instanceMethod yX5_type ∈ wsL_law := wi_8 (List.mem_of_getElem? (i := 9) rfl)
theorem wd_8_10 : Cond.selects RX5 yX5_type yX5_type ∈ wsL_law := wi_8 (List.mem_of_getElem? (i := 10) rfl)
theorem wd_8_11 : Cond.code yX5_type cX5_type 2 (some .int) ∈ wsL_law := wi_8 (List.mem_of_getElem? (i := 11) rfl)
theorem wd_8_12 : Cond.methodLink RX5 60 yX1_isFull ∈ wsL_law := wi_8 (List.mem_of_getElem? (i := 12) rfl)
theorem wd_8_13 : Cond.instanceMethod yX1_isFull ∈ wsL_law := wi_8 (List.mem_of_getElem? (i := 13) rfl)
theorem wd_8_14 : Cond.selects RX1 yX1_isFull yX1_isFull ∈ wsL_law := wi_8 (List.mem_of_getElem? (i := 14) rfl)
theorem wd_8_15 : Cond.code yX1_isFull cX1_isFull 1 (some .boolean) ∈ wsL_law := wi_8 (List.mem_of_getElem? (i := 15) rfl)
theorem wd_8_16 : Cond.methodLink RX5 64 yX1_length ∈ wsL_law := wi_8 (List.mem_of_getElem? (i := 16) rfl)
theorem wd_8_17 : Cond.instanceMethod yX1_length ∈ wsL_law := wi_8 (List.mem_of_getElem? (i := 17) rfl)
theorem wd_8_18 : Cond.selects RX1 yX1_length yX1_length ∈ wsL_law := wi_8 (List.mem_of_getElem? (i := 18) rfl)
theorem wd_8_19 : Cond.code yX1_length cX1_length 1 (some .int) ∈ wsL_law := wi_8 (List.mem_of_getElem? (i := 19) rfl)
theorem wd_8_20 : Cond.methodLink RL 17 yX6_type ∈ wsL_law := wi_8 (List.mem_of_getElem? (i := 20) rfl)
theorem wd_8_21 : Cond.instanceMethod yX6_type ∈ wsL_law := wi_8 (List.mem_of_getElem? (i := 21) rfl)
theorem wd_8_22 : Cond.selects RX6 yX6_type yX6_type ∈ wsL_law := wi_8 (List.mem_of_getElem? (i := 22) rfl)
theorem wd_8_23 : Cond.code yX6_type cX6_type 2 (some .int) ∈ wsL_law := wi_8 (List.mem_of_getElem? (i := 23) rfl)
theorem wd_9_0 : Cond.fieldLink RX6 41 "PeatRailwayModel" "length" "I" ∈ wsL_law := wi_9 (List.mem_of_getElem? (i := 0) rfl)
theorem wd_9_1 : Cond.methodLink RX6 29 yX6_within ∈ wsL_law := wi_9 (List.mem_of_getElem? (i := 1) rfl)
theorem wd_9_2 : Cond.static yX6_within ∈ wsL_law := wi_9 (List.mem_of_getElem? (i := 2) rfl)
theorem wd_9_3 : Cond.code yX6_within cX6_within 3 (some .boolean) ∈ wsL_law := wi_9 (List.mem_of_getElem? (i := 3) rfl)
theorem wd_9_4 : Cond.methodLink RL 18 yX5_clear ∈ wsL_law := wi_9 (List.mem_of_getElem? (i := 4) rfl)
theorem wd_9_5 : Cond.instanceMethod yX5_clear ∈ wsL_law := wi_9 (List.mem_of_getElem? (i := 5) rfl)
theorem wd_9_6 : Cond.selects RX5 yX5_clear yX5_clear ∈ wsL_law := wi_9 (List.mem_of_getElem? (i := 6) rfl)
theorem wd_9_7 : Cond.code yX5_clear cX5_clear 2 (some .int) ∈ wsL_law := wi_9 (List.mem_of_getElem? (i := 7) rfl)
theorem wd_9_8 : Cond.methodLink RL 22 yX6_clear ∈ wsL_law := wi_9 (List.mem_of_getElem? (i := 8) rfl)
theorem wd_9_9 : Cond.instanceMethod yX6_clear ∈ wsL_law := wi_9 (List.mem_of_getElem? (i := 9) rfl)
theorem wd_9_10 : Cond.selects RX6 yX6_clear yX6_clear ∈ wsL_law := wi_9 (List.mem_of_getElem? (i := 10) rfl)
theorem wd_9_11 : Cond.code yX6_clear cX6_clear 2 (some .int) ∈ wsL_law := wi_9 (List.mem_of_getElem? (i := 11) rfl)
theorem wd_9_12 : Cond.methodLink RL 23 yX5_fault ∈ wsL_law := wi_9 (List.mem_of_getElem? (i := 12) rfl)
theorem wd_9_13 : Cond.instanceMethod yX5_fault ∈ wsL_law := wi_9 (List.mem_of_getElem? (i := 13) rfl)
theorem wd_9_14 : Cond.selects RX5 yX5_fault yX5_fault ∈ wsL_law := wi_9 (List.mem_of_getElem? (i := 14) rfl)
theorem wd_9_15 : Cond.code yX5_fault cX5_fault 1 (some .int) ∈ wsL_law := wi_9 (List.mem_of_getElem? (i := 15) rfl)
theorem wd_9_16 : Cond.methodLink RX5 65 yX1_firstFault ∈ wsL_law := wi_9 (List.mem_of_getElem? (i := 16) rfl)
theorem wd_9_17 : Cond.instanceMethod yX1_firstFault ∈ wsL_law := wi_9 (List.mem_of_getElem? (i := 17) rfl)
theorem wd_9_18 : Cond.selects RX1 yX1_firstFault yX1_firstFault ∈ wsL_law := wi_9 (List.mem_of_getElem? (i := 18) rfl)
theorem wd_9_19 : Cond.code yX1_firstFault cX1_firstFault 5 (some .int) ∈ wsL_law := wi_9 (List.mem_of_getElem? (i := 19) rfl)
theorem wd_9_20 : Cond.methodLink RL 26 yX6_fault ∈ wsL_law := wi_9 (List.mem_of_getElem? (i := 20) rfl)
theorem wd_9_21 : Cond.instanceMethod yX6_fault ∈ wsL_law := wi_9 (List.mem_of_getElem? (i := 21) rfl)
theorem wd_9_22 : Cond.selects RX6 yX6_fault yX6_fault ∈ wsL_law := wi_9 (List.mem_of_getElem? (i := 22) rfl)
theorem wd_9_23 : Cond.code yX6_fault cX6_fault 1 (some .int) ∈ wsL_law := wi_9 (List.mem_of_getElem? (i := 23) rfl)
theorem wd_10_0 : Cond.methodLink RX6 54 yX6_faultNow ∈ wsL_law := wi_10 (List.mem_of_getElem? (i := 0) rfl)
theorem wd_10_1 : Cond.instanceMethod yX6_faultNow ∈ wsL_law := wi_10 (List.mem_of_getElem? (i := 1) rfl)
theorem wd_10_2 : Cond.selects RX6 yX6_faultNow yX6_faultNow ∈ wsL_law := wi_10 (List.mem_of_getElem? (i := 2) rfl)
theorem wd_10_3 : Cond.code yX6_faultNow cX6_faultNow 2 (some .int) ∈ wsL_law := wi_10 (List.mem_of_getElem? (i := 3) rfl)
theorem wd_10_4 : Cond.fieldLink RX6 47 "PeatRailwayModel" "begun" "I" ∈ wsL_law := wi_10 (List.mem_of_getElem? (i := 4) rfl)
theorem wd_10_5 : Cond.fieldLink RX6 44 "PeatRailwayModel" "step" "I" ∈ wsL_law := wi_10 (List.mem_of_getElem? (i := 5) rfl)
theorem wd_10_6 : Cond.methodLink RX6 50 yX6_takes ∈ wsL_law := wi_10 (List.mem_of_getElem? (i := 6) rfl)
theorem wd_10_7 : Cond.instanceMethod yX6_takes ∈ wsL_law := wi_10 (List.mem_of_getElem? (i := 7) rfl)
theorem wd_10_8 : Cond.selects RX6 yX6_takes yX6_takes ∈ wsL_law := wi_10 (List.mem_of_getElem? (i := 8) rfl)
theorem wd_10_9 : Cond.code yX6_takes cX6_takes 3 (some .boolean) ∈ wsL_law := wi_10 (List.mem_of_getElem? (i := 9) rfl)
theorem wd_10_10 : Cond.methodLink RL 27 yX5_layTrack ∈ wsL_law := wi_10 (List.mem_of_getElem? (i := 10) rfl)
theorem wd_10_11 : Cond.instanceMethod yX5_layTrack ∈ wsL_law := wi_10 (List.mem_of_getElem? (i := 11) rfl)
theorem wd_10_12 : Cond.selects RX5 yX5_layTrack yX5_layTrack ∈ wsL_law := wi_10 (List.mem_of_getElem? (i := 12) rfl)
theorem wd_10_13 : Cond.code yX5_layTrack cX5_layTrack 1 (some .int) ∈ wsL_law := wi_10 (List.mem_of_getElem? (i := 13) rfl)
theorem wd_10_14 : Cond.fieldLink RX5 74 "PeatRailway$State" "segmentCount" "I" ∈ wsL_law := wi_10 (List.mem_of_getElem? (i := 14) rfl)
theorem wd_10_15 : Cond.methodLink RX5 68 yX0_remember ∈ wsL_law := wi_10 (List.mem_of_getElem? (i := 15) rfl)
theorem wd_10_16 : Cond.instanceMethod yX0_remember ∈ wsL_law := wi_10 (List.mem_of_getElem? (i := 16) rfl)
theorem wd_10_17 : Cond.selects RX0 yX0_remember yX0_remember ∈ wsL_law := wi_10 (List.mem_of_getElem? (i := 17) rfl)
theorem wd_10_18 : Cond.code yX0_remember cX0_remember 2 none ∈ wsL_law := wi_10 (List.mem_of_getElem? (i := 18) rfl)
theorem wd_10_19 : Cond.fieldLink RX0 18 "PeatRailway$History" "size" "I" ∈ wsL_law := wi_10 (List.mem_of_getElem? (i := 19) rfl)
theorem wd_10_20 : Cond.methodLink RX0 22 yX0_dropOldest ∈ wsL_law := wi_10 (List.mem_of_getElem? (i := 20) rfl)
theorem wd_10_21 : Cond.instanceMethod yX0_dropOldest ∈ wsL_law := wi_10 (List.mem_of_getElem? (i := 21) rfl)
theorem wd_10_22 : Cond.selects RX0 yX0_dropOldest yX0_dropOldest ∈ wsL_law := wi_10 (List.mem_of_getElem? (i := 22) rfl)
theorem wd_10_23 : Cond.code yX0_dropOldest cX0_dropOldest 3 none ∈ wsL_law := wi_10 (List.mem_of_getElem? (i := 23) rfl)
theorem wd_11_0 : Cond.methodLink RX0 25 yX3_copyFrom ∈ wsL_law := wi_11 (List.mem_of_getElem? (i := 0) rfl)
theorem wd_11_1 : Cond.instanceMethod yX3_copyFrom ∈ wsL_law := wi_11 (List.mem_of_getElem? (i := 1) rfl)
theorem wd_11_2 : Cond.selects RX3 yX3_copyFrom yX3_copyFrom ∈ wsL_law := wi_11 (List.mem_of_getElem? (i := 2) rfl)
theorem wd_11_3 : Cond.code yX3_copyFrom cX3_copyFrom 3 none ∈ wsL_law := wi_11 (List.mem_of_getElem? (i := 3) rfl)
theorem wd_11_4 : Cond.fieldLink RX3 40 "PeatRailway$State" "trainCount" "I" ∈ wsL_law := wi_11 (List.mem_of_getElem? (i := 4) rfl)
theorem wd_11_5 : Cond.fieldLink RX3 46 "PeatRailway$State" "stock" "I" ∈ wsL_law := wi_11 (List.mem_of_getElem? (i := 5) rfl)
theorem wd_11_6 : Cond.fieldLink RX3 49 "PeatRailway$State" "dug" "I" ∈ wsL_law := wi_11 (List.mem_of_getElem? (i := 6) rfl)
theorem wd_11_7 : Cond.fieldLink RX3 52 "PeatRailway$State" "delivered" "I" ∈ wsL_law := wi_11 (List.mem_of_getElem? (i := 7) rfl)
theorem wd_11_8 : Cond.fieldLink RX3 55 "PeatRailway$State" "lost" "I" ∈ wsL_law := wi_11 (List.mem_of_getElem? (i := 8) rfl)
theorem wd_11_9 : Cond.fieldLink RX3 58 "PeatRailway$State" "clock" "I" ∈ wsL_law := wi_11 (List.mem_of_getElem? (i := 9) rfl)
theorem wd_11_10 : Cond.methodLink RX3 36 yX2_copyFrom ∈ wsL_law := wi_11 (List.mem_of_getElem? (i := 10) rfl)
theorem wd_11_11 : Cond.instanceMethod yX2_copyFrom ∈ wsL_law := wi_11 (List.mem_of_getElem? (i := 11) rfl)
theorem wd_11_12 : Cond.selects RX2 yX2_copyFrom yX2_copyFrom ∈ wsL_law := wi_11 (List.mem_of_getElem? (i := 12) rfl)
theorem wd_11_13 : Cond.code yX2_copyFrom cX2_copyFrom 2 none ∈ wsL_law := wi_11 (List.mem_of_getElem? (i := 13) rfl)
theorem wd_11_14 : Cond.fieldLink RX2 21 "PeatRailway$Segment" "passingAbove" "I" ∈ wsL_law := wi_11 (List.mem_of_getElem? (i := 14) rfl)
theorem wd_11_15 : Cond.fieldLink RX2 24 "PeatRailway$Segment" "passingBelow" "I" ∈ wsL_law := wi_11 (List.mem_of_getElem? (i := 15) rfl)
theorem wd_11_16 : Cond.methodLink RX3 43 yX4_copyFrom ∈ wsL_law := wi_11 (List.mem_of_getElem? (i := 16) rfl)
theorem wd_11_17 : Cond.instanceMethod yX4_copyFrom ∈ wsL_law := wi_11 (List.mem_of_getElem? (i := 17) rfl)
theorem wd_11_18 : Cond.selects RX4 yX4_copyFrom yX4_copyFrom ∈ wsL_law := wi_11 (List.mem_of_getElem? (i := 18) rfl)
theorem wd_11_19 : Cond.code yX4_copyFrom cX4_copyFrom 2 none ∈ wsL_law := wi_11 (List.mem_of_getElem? (i := 19) rfl)
theorem wd_11_20 : Cond.fieldLink RX4 9 "PeatRailway$Train" "wagons" "I" ∈ wsL_law := wi_11 (List.mem_of_getElem? (i := 20) rfl)
theorem wd_11_21 : Cond.fieldLink RX4 15 "PeatRailway$Train" "load" "I" ∈ wsL_law := wi_11 (List.mem_of_getElem? (i := 21) rfl)
theorem wd_11_22 : Cond.fieldLink RX4 18 "PeatRailway$Train" "peat" "I" ∈ wsL_law := wi_11 (List.mem_of_getElem? (i := 22) rfl)
theorem wd_11_23 : Cond.fieldLink RX4 21 "PeatRailway$Train" "place" "I" ∈ wsL_law := wi_11 (List.mem_of_getElem? (i := 23) rfl)
theorem wd_12_0 : Cond.fieldLink RX4 24 "PeatRailway$Train" "up" "Z" ∈ wsL_law := wi_12 (List.mem_of_getElem? (i := 0) rfl)
theorem wd_12_1 : Cond.fieldLink RX4 28 "PeatRailway$Train" "rest" "I" ∈ wsL_law := wi_12 (List.mem_of_getElem? (i := 1) rfl)
theorem wd_12_2 : Cond.fieldLink RX4 31 "PeatRailway$Train" "reason" "I" ∈ wsL_law := wi_12 (List.mem_of_getElem? (i := 2) rfl)
theorem wd_12_3 : Cond.fieldLink RX4 34 "PeatRailway$Train" "waits" "I" ∈ wsL_law := wi_12 (List.mem_of_getElem? (i := 3) rfl)
theorem wd_12_4 : Cond.fieldLink RX4 37 "PeatRailway$Train" "unloads" "I" ∈ wsL_law := wi_12 (List.mem_of_getElem? (i := 4) rfl)
theorem wd_12_5 : Cond.methodLink RX5 71 yX3_loseAllTrains ∈ wsL_law := wi_12 (List.mem_of_getElem? (i := 5) rfl)
theorem wd_12_6 : Cond.instanceMethod yX3_loseAllTrains ∈ wsL_law := wi_12 (List.mem_of_getElem? (i := 6) rfl)
theorem wd_12_7 : Cond.selects RX3 yX3_loseAllTrains yX3_loseAllTrains ∈ wsL_law := wi_12 (List.mem_of_getElem? (i := 7) rfl)
theorem wd_12_8 : Cond.code yX3_loseAllTrains cX3_loseAllTrains 1 none ∈ wsL_law := wi_12 (List.mem_of_getElem? (i := 8) rfl)
theorem wd_12_9 : Cond.methodLink RX3 93 yX3_peatInTrains ∈ wsL_law := wi_12 (List.mem_of_getElem? (i := 9) rfl)
theorem wd_12_10 : Cond.instanceMethod yX3_peatInTrains ∈ wsL_law := wi_12 (List.mem_of_getElem? (i := 10) rfl)
theorem wd_12_11 : Cond.selects RX3 yX3_peatInTrains yX3_peatInTrains ∈ wsL_law := wi_12 (List.mem_of_getElem? (i := 11) rfl)
theorem wd_12_12 : Cond.code yX3_peatInTrains cX3_peatInTrains 4 (some .int) ∈ wsL_law := wi_12 (List.mem_of_getElem? (i := 12) rfl)
theorem wd_12_13 : Cond.fieldLink RX3 90 "PeatRailway$Train" "peat" "I" ∈ wsL_law := wi_12 (List.mem_of_getElem? (i := 13) rfl)
theorem wd_12_14 : Cond.methodLink RX3 82 yX3_trainAt ∈ wsL_law := wi_12 (List.mem_of_getElem? (i := 14) rfl)
theorem wd_12_15 : Cond.instanceMethod yX3_trainAt ∈ wsL_law := wi_12 (List.mem_of_getElem? (i := 15) rfl)
theorem wd_12_16 : Cond.selects RX3 yX3_trainAt yX3_trainAt ∈ wsL_law := wi_12 (List.mem_of_getElem? (i := 16) rfl)
theorem wd_12_17 : Cond.code yX3_trainAt cX3_trainAt 2 (some (.object "PeatRailway$Train")) ∈ wsL_law := wi_12 (List.mem_of_getElem? (i := 17) rfl)
theorem wd_12_18 : Cond.methodLink RL 30 yX6_layTrack ∈ wsL_law := wi_12 (List.mem_of_getElem? (i := 18) rfl)
theorem wd_12_19 : Cond.instanceMethod yX6_layTrack ∈ wsL_law := wi_12 (List.mem_of_getElem? (i := 19) rfl)
theorem wd_12_20 : Cond.selects RX6 yX6_layTrack yX6_layTrack ∈ wsL_law := wi_12 (List.mem_of_getElem? (i := 20) rfl)
theorem wd_12_21 : Cond.code yX6_layTrack cX6_layTrack 2 (some .int) ∈ wsL_law := wi_12 (List.mem_of_getElem? (i := 21) rfl)
theorem wd_12_22 : Cond.methodLink RX6 62 yX6_record ∈ wsL_law := wi_12 (List.mem_of_getElem? (i := 22) rfl)
theorem wd_12_23 : Cond.instanceMethod yX6_record ∈ wsL_law := wi_12 (List.mem_of_getElem? (i := 23) rfl)
theorem wd_13_0 : Cond.selects RX6 yX6_record yX6_record ∈ wsL_law := wi_13 (List.mem_of_getElem? (i := 0) rfl)
theorem wd_13_1 : Cond.code yX6_record cX6_record 2 none ∈ wsL_law := wi_13 (List.mem_of_getElem? (i := 1) rfl)
theorem wd_13_2 : Cond.fieldLink RX6 33 "PeatRailwayModel" "states" "I" ∈ wsL_law := wi_13 (List.mem_of_getElem? (i := 2) rfl)
theorem wd_13_3 : Cond.methodLink RX6 37 yX6_copy ∈ wsL_law := wi_13 (List.mem_of_getElem? (i := 3) rfl)
theorem wd_13_4 : Cond.instanceMethod yX6_copy ∈ wsL_law := wi_13 (List.mem_of_getElem? (i := 4) rfl)
theorem wd_13_5 : Cond.selects RX6 yX6_copy yX6_copy ∈ wsL_law := wi_13 (List.mem_of_getElem? (i := 5) rfl)
theorem wd_13_6 : Cond.code yX6_copy cX6_copy 6 none ∈ wsL_law := wi_13 (List.mem_of_getElem? (i := 6) rfl)
theorem wd_13_7 : Cond.methodLink RX6 65 yX6_peatInTrains ∈ wsL_law := wi_13 (List.mem_of_getElem? (i := 7) rfl)
theorem wd_13_8 : Cond.instanceMethod yX6_peatInTrains ∈ wsL_law := wi_13 (List.mem_of_getElem? (i := 8) rfl)
theorem wd_13_9 : Cond.selects RX6 yX6_peatInTrains yX6_peatInTrains ∈ wsL_law := wi_13 (List.mem_of_getElem? (i := 9) rfl)
theorem wd_13_10 : Cond.code yX6_peatInTrains cX6_peatInTrains 3 (some .int) ∈ wsL_law := wi_13 (List.mem_of_getElem? (i := 10) rfl)
theorem wd_13_11 : Cond.methodLink RX6 58 yX6_of ∈ wsL_law := wi_13 (List.mem_of_getElem? (i := 11) rfl)
theorem wd_13_12 : Cond.instanceMethod yX6_of ∈ wsL_law := wi_13 (List.mem_of_getElem? (i := 12) rfl)
theorem wd_13_13 : Cond.selects RX6 yX6_of yX6_of ∈ wsL_law := wi_13 (List.mem_of_getElem? (i := 13) rfl)
theorem wd_13_14 : Cond.code yX6_of cX6_of 3 (some .int) ∈ wsL_law := wi_13 (List.mem_of_getElem? (i := 14) rfl)
theorem wd_13_15 : Cond.methodLink RL 31 yX5_set ∈ wsL_law := wi_13 (List.mem_of_getElem? (i := 15) rfl)
theorem wd_13_16 : Cond.instanceMethod yX5_set ∈ wsL_law := wi_13 (List.mem_of_getElem? (i := 16) rfl)
theorem wd_13_17 : Cond.selects RX5 yX5_set yX5_set ∈ wsL_law := wi_13 (List.mem_of_getElem? (i := 17) rfl)
theorem wd_13_18 : Cond.code yX5_set cX5_set 4 (some .int) ∈ wsL_law := wi_13 (List.mem_of_getElem? (i := 18) rfl)
theorem wd_13_19 : Cond.fieldLink RX5 82 "PeatRailway" "LEAST_VALUE" "[I" ∈ wsL_law := wi_13 (List.mem_of_getElem? (i := 19) rfl)
theorem wd_13_20 : Cond.fieldLink RX5 86 "PeatRailway" "MOST_VALUE" "[I" ∈ wsL_law := wi_13 (List.mem_of_getElem? (i := 20) rfl)
theorem wd_13_21 : Cond.fieldLink RX5 89 "PeatRailway$State" "settings" "[I" ∈ wsL_law := wi_13 (List.mem_of_getElem? (i := 21) rfl)
theorem wd_13_22 : Cond.methodLink RX5 78 yX5_isSetting ∈ wsL_law := wi_13 (List.mem_of_getElem? (i := 22) rfl)
theorem wd_13_23 : Cond.static yX5_isSetting ∈ wsL_law := wi_13 (List.mem_of_getElem? (i := 23) rfl)
theorem wd_14_0 : Cond.code yX5_isSetting cX5_isSetting 1 (some .boolean) ∈ wsL_law := wi_14 (List.mem_of_getElem? (i := 0) rfl)
theorem wd_14_1 : Cond.methodLink RL 35 yX6_set ∈ wsL_law := wi_14 (List.mem_of_getElem? (i := 1) rfl)
theorem wd_14_2 : Cond.instanceMethod yX6_set ∈ wsL_law := wi_14 (List.mem_of_getElem? (i := 2) rfl)
theorem wd_14_3 : Cond.selects RX6 yX6_set yX6_set ∈ wsL_law := wi_14 (List.mem_of_getElem? (i := 3) rfl)
theorem wd_14_4 : Cond.code yX6_set cX6_set 4 (some .int) ∈ wsL_law := wi_14 (List.mem_of_getElem? (i := 4) rfl)
theorem wd_14_5 : Cond.methodLink RX6 68 yX6_isValue ∈ wsL_law := wi_14 (List.mem_of_getElem? (i := 5) rfl)
theorem wd_14_6 : Cond.static yX6_isValue ∈ wsL_law := wi_14 (List.mem_of_getElem? (i := 6) rfl)
theorem wd_14_7 : Cond.code yX6_isValue cX6_isValue 2 (some .boolean) ∈ wsL_law := wi_14 (List.mem_of_getElem? (i := 7) rfl)
theorem wd_14_8 : Cond.methodLink RX6 72 yX6_other ∈ wsL_law := wi_14 (List.mem_of_getElem? (i := 8) rfl)
theorem wd_14_9 : Cond.instanceMethod yX6_other ∈ wsL_law := wi_14 (List.mem_of_getElem? (i := 9) rfl)
theorem wd_14_10 : Cond.selects RX6 yX6_other yX6_other ∈ wsL_law := wi_14 (List.mem_of_getElem? (i := 10) rfl)
theorem wd_14_11 : Cond.code yX6_other cX6_other 2 (some .int) ∈ wsL_law := wi_14 (List.mem_of_getElem? (i := 11) rfl)
theorem wd_14_12 : Cond.methodLink RL 36 yX5_dig ∈ wsL_law := wi_14 (List.mem_of_getElem? (i := 12) rfl)
theorem wd_14_13 : Cond.instanceMethod yX5_dig ∈ wsL_law := wi_14 (List.mem_of_getElem? (i := 13) rfl)
theorem wd_14_14 : Cond.selects RX5 yX5_dig yX5_dig ∈ wsL_law := wi_14 (List.mem_of_getElem? (i := 14) rfl)
theorem wd_14_15 : Cond.code yX5_dig cX5_dig 2 (some .int) ∈ wsL_law := wi_14 (List.mem_of_getElem? (i := 15) rfl)
theorem wd_14_16 : Cond.fieldLink RX5 92 "PeatRailway$State" "stock" "I" ∈ wsL_law := wi_14 (List.mem_of_getElem? (i := 16) rfl)
theorem wd_14_17 : Cond.fieldLink RX5 95 "PeatRailway$State" "dug" "I" ∈ wsL_law := wi_14 (List.mem_of_getElem? (i := 17) rfl)
theorem wd_14_18 : Cond.methodLink RL 39 yX6_dig ∈ wsL_law := wi_14 (List.mem_of_getElem? (i := 18) rfl)
theorem wd_14_19 : Cond.instanceMethod yX6_dig ∈ wsL_law := wi_14 (List.mem_of_getElem? (i := 19) rfl)
theorem wd_14_20 : Cond.selects RX6 yX6_dig yX6_dig ∈ wsL_law := wi_14 (List.mem_of_getElem? (i := 20) rfl)
theorem wd_14_21 : Cond.code yX6_dig cX6_dig 2 (some .int) ∈ wsL_law := wi_14 (List.mem_of_getElem? (i := 21) rfl)
theorem wd_14_22 : Cond.methodLink RL 40 yX5_addTrain ∈ wsL_law := wi_14 (List.mem_of_getElem? (i := 22) rfl)
theorem wd_14_23 : Cond.instanceMethod yX5_addTrain ∈ wsL_law := wi_14 (List.mem_of_getElem? (i := 23) rfl)
theorem wd_15_0 : Cond.selects RX5 yX5_addTrain yX5_addTrain ∈ wsL_law := wi_15 (List.mem_of_getElem? (i := 0) rfl)
theorem wd_15_1 : Cond.code yX5_addTrain cX5_addTrain 3 (some .int) ∈ wsL_law := wi_15 (List.mem_of_getElem? (i := 1) rfl)
theorem wd_15_2 : Cond.fieldLink RX5 101 "PeatRailway$State" "trainCount" "I" ∈ wsL_law := wi_15 (List.mem_of_getElem? (i := 2) rfl)
theorem wd_15_3 : Cond.methodLink RX5 98 yX5_isLoad ∈ wsL_law := wi_15 (List.mem_of_getElem? (i := 3) rfl)
theorem wd_15_4 : Cond.static yX5_isLoad ∈ wsL_law := wi_15 (List.mem_of_getElem? (i := 4) rfl)
theorem wd_15_5 : Cond.code yX5_isLoad cX5_isLoad 1 (some .boolean) ∈ wsL_law := wi_15 (List.mem_of_getElem? (i := 5) rfl)
theorem wd_15_6 : Cond.methodLink RX5 104 yX3_bringTrain ∈ wsL_law := wi_15 (List.mem_of_getElem? (i := 6) rfl)
theorem wd_15_7 : Cond.instanceMethod yX3_bringTrain ∈ wsL_law := wi_15 (List.mem_of_getElem? (i := 7) rfl)
theorem wd_15_8 : Cond.selects RX3 yX3_bringTrain yX3_bringTrain ∈ wsL_law := wi_15 (List.mem_of_getElem? (i := 8) rfl)
theorem wd_15_9 : Cond.code yX3_bringTrain cX3_bringTrain 4 (some .int) ∈ wsL_law := wi_15 (List.mem_of_getElem? (i := 9) rfl)
theorem wd_15_10 : Cond.methodLink RX3 86 yX4_start ∈ wsL_law := wi_15 (List.mem_of_getElem? (i := 10) rfl)
theorem wd_15_11 : Cond.instanceMethod yX4_start ∈ wsL_law := wi_15 (List.mem_of_getElem? (i := 11) rfl)
theorem wd_15_12 : Cond.selects RX4 yX4_start yX4_start ∈ wsL_law := wi_15 (List.mem_of_getElem? (i := 12) rfl)
theorem wd_15_13 : Cond.code yX4_start cX4_start 3 none ∈ wsL_law := wi_15 (List.mem_of_getElem? (i := 13) rfl)
theorem wd_15_14 : Cond.methodLink RL 43 yX6_addTrain ∈ wsL_law := wi_15 (List.mem_of_getElem? (i := 14) rfl)
theorem wd_15_15 : Cond.instanceMethod yX6_addTrain ∈ wsL_law := wi_15 (List.mem_of_getElem? (i := 15) rfl)
theorem wd_15_16 : Cond.selects RX6 yX6_addTrain yX6_addTrain ∈ wsL_law := wi_15 (List.mem_of_getElem? (i := 16) rfl)
theorem wd_15_17 : Cond.code yX6_addTrain cX6_addTrain 5 (some .int) ∈ wsL_law := wi_15 (List.mem_of_getElem? (i := 17) rfl)
theorem wd_15_18 : Cond.methodLink RX6 76 yX6_put ∈ wsL_law := wi_15 (List.mem_of_getElem? (i := 18) rfl)
theorem wd_15_19 : Cond.instanceMethod yX6_put ∈ wsL_law := wi_15 (List.mem_of_getElem? (i := 19) rfl)
theorem wd_15_20 : Cond.selects RX6 yX6_put yX6_put ∈ wsL_law := wi_15 (List.mem_of_getElem? (i := 20) rfl)
theorem wd_15_21 : Cond.code yX6_put cX6_put 4 none ∈ wsL_law := wi_15 (List.mem_of_getElem? (i := 21) rfl)
theorem wd_15_22 : Cond.methodLink RL 44 yX5_dropTrain ∈ wsL_law := wi_15 (List.mem_of_getElem? (i := 22) rfl)
theorem wd_15_23 : Cond.instanceMethod yX5_dropTrain ∈ wsL_law := wi_15 (List.mem_of_getElem? (i := 23) rfl)
theorem wd_16_0 : Cond.selects RX5 yX5_dropTrain yX5_dropTrain ∈ wsL_law := wi_16 (List.mem_of_getElem? (i := 0) rfl)
theorem wd_16_1 : Cond.code yX5_dropTrain cX5_dropTrain 4 (some .int) ∈ wsL_law := wi_16 (List.mem_of_getElem? (i := 1) rfl)
theorem wd_16_2 : Cond.fieldLink RX5 112 "PeatRailway$Train" "peat" "I" ∈ wsL_law := wi_16 (List.mem_of_getElem? (i := 2) rfl)
theorem wd_16_3 : Cond.methodLink RX5 108 yX3_trainAt ∈ wsL_law := wi_16 (List.mem_of_getElem? (i := 3) rfl)
theorem wd_16_4 : Cond.methodLink RX5 117 yX3_loseTrain ∈ wsL_law := wi_16 (List.mem_of_getElem? (i := 4) rfl)
theorem wd_16_5 : Cond.instanceMethod yX3_loseTrain ∈ wsL_law := wi_16 (List.mem_of_getElem? (i := 5) rfl)
theorem wd_16_6 : Cond.selects RX3 yX3_loseTrain yX3_loseTrain ∈ wsL_law := wi_16 (List.mem_of_getElem? (i := 6) rfl)
theorem wd_16_7 : Cond.code yX3_loseTrain cX3_loseTrain 6 none ∈ wsL_law := wi_16 (List.mem_of_getElem? (i := 7) rfl)
theorem wd_16_8 : Cond.methodLink RL 47 yX6_dropTrain ∈ wsL_law := wi_16 (List.mem_of_getElem? (i := 8) rfl)
theorem wd_16_9 : Cond.instanceMethod yX6_dropTrain ∈ wsL_law := wi_16 (List.mem_of_getElem? (i := 9) rfl)
theorem wd_16_10 : Cond.selects RX6 yX6_dropTrain yX6_dropTrain ∈ wsL_law := wi_16 (List.mem_of_getElem? (i := 10) rfl)
theorem wd_16_11 : Cond.code yX6_dropTrain cX6_dropTrain 4 (some .int) ∈ wsL_law := wi_16 (List.mem_of_getElem? (i := 11) rfl)
theorem wd_16_12 : Cond.methodLink RX6 80 yX6_isTrain ∈ wsL_law := wi_16 (List.mem_of_getElem? (i := 12) rfl)
theorem wd_16_13 : Cond.instanceMethod yX6_isTrain ∈ wsL_law := wi_16 (List.mem_of_getElem? (i := 13) rfl)
theorem wd_16_14 : Cond.selects RX6 yX6_isTrain yX6_isTrain ∈ wsL_law := wi_16 (List.mem_of_getElem? (i := 14) rfl)
theorem wd_16_15 : Cond.code yX6_isTrain cX6_isTrain 2 (some .boolean) ∈ wsL_law := wi_16 (List.mem_of_getElem? (i := 15) rfl)
theorem wd_16_16 : Cond.methodLink RL 48 yX5_setLoad ∈ wsL_law := wi_16 (List.mem_of_getElem? (i := 16) rfl)
theorem wd_16_17 : Cond.instanceMethod yX5_setLoad ∈ wsL_law := wi_16 (List.mem_of_getElem? (i := 17) rfl)
theorem wd_16_18 : Cond.selects RX5 yX5_setLoad yX5_setLoad ∈ wsL_law := wi_16 (List.mem_of_getElem? (i := 18) rfl)
theorem wd_16_19 : Cond.code yX5_setLoad cX5_setLoad 5 (some .int) ∈ wsL_law := wi_16 (List.mem_of_getElem? (i := 19) rfl)
theorem wd_16_20 : Cond.fieldLink RX5 121 "PeatRailway$Train" "load" "I" ∈ wsL_law := wi_16 (List.mem_of_getElem? (i := 20) rfl)
theorem wd_16_21 : Cond.methodLink RL 51 yX6_setLoad ∈ wsL_law := wi_16 (List.mem_of_getElem? (i := 21) rfl)
theorem wd_16_22 : Cond.instanceMethod yX6_setLoad ∈ wsL_law := wi_16 (List.mem_of_getElem? (i := 22) rfl)
theorem wd_16_23 : Cond.selects RX6 yX6_setLoad yX6_setLoad ∈ wsL_law := wi_16 (List.mem_of_getElem? (i := 23) rfl)
theorem wd_17_0 : Cond.code yX6_setLoad cX6_setLoad 4 (some .int) ∈ wsL_law := wi_17 (List.mem_of_getElem? (i := 0) rfl)
theorem wd_17_1 : Cond.methodLink RL 52 yX5_run ∈ wsL_law := wi_17 (List.mem_of_getElem? (i := 1) rfl)
theorem wd_17_2 : Cond.instanceMethod yX5_run ∈ wsL_law := wi_17 (List.mem_of_getElem? (i := 2) rfl)
theorem wd_17_3 : Cond.selects RX5 yX5_run yX5_run ∈ wsL_law := wi_17 (List.mem_of_getElem? (i := 3) rfl)
theorem wd_17_4 : Cond.code yX5_run cX5_run 2 (some .int) ∈ wsL_law := wi_17 (List.mem_of_getElem? (i := 4) rfl)
theorem wd_17_5 : Cond.methodLink RX5 124 yX5_isRun ∈ wsL_law := wi_17 (List.mem_of_getElem? (i := 5) rfl)
theorem wd_17_6 : Cond.static yX5_isRun ∈ wsL_law := wi_17 (List.mem_of_getElem? (i := 6) rfl)
theorem wd_17_7 : Cond.code yX5_isRun cX5_isRun 1 (some .boolean) ∈ wsL_law := wi_17 (List.mem_of_getElem? (i := 7) rfl)
theorem wd_17_8 : Cond.methodLink RX5 127 yX3_pass ∈ wsL_law := wi_17 (List.mem_of_getElem? (i := 8) rfl)
theorem wd_17_9 : Cond.instanceMethod yX3_pass ∈ wsL_law := wi_17 (List.mem_of_getElem? (i := 9) rfl)
theorem wd_17_10 : Cond.selects RX3 yX3_pass yX3_pass ∈ wsL_law := wi_17 (List.mem_of_getElem? (i := 10) rfl)
theorem wd_17_11 : Cond.code yX3_pass cX3_pass 4 (some .int) ∈ wsL_law := wi_17 (List.mem_of_getElem? (i := 11) rfl)
theorem wd_17_12 : Cond.fieldLink RX3 97 "PeatRailway$State" "peak" "I" ∈ wsL_law := wi_17 (List.mem_of_getElem? (i := 12) rfl)
theorem wd_17_13 : Cond.methodLink RX3 100 yX3_tick ∈ wsL_law := wi_17 (List.mem_of_getElem? (i := 13) rfl)
theorem wd_17_14 : Cond.instanceMethod yX3_tick ∈ wsL_law := wi_17 (List.mem_of_getElem? (i := 14) rfl)
theorem wd_17_15 : Cond.selects RX3 yX3_tick yX3_tick ∈ wsL_law := wi_17 (List.mem_of_getElem? (i := 15) rfl)
theorem wd_17_16 : Cond.code yX3_tick cX3_tick 4 none ∈ wsL_law := wi_17 (List.mem_of_getElem? (i := 16) rfl)
theorem wd_17_17 : Cond.fieldLink RX3 107 "PeatRailway$Train" "early" "Z" ∈ wsL_law := wi_17 (List.mem_of_getElem? (i := 17) rfl)
theorem wd_17_18 : Cond.methodLink RX3 103 yX3_goesFirst ∈ wsL_law := wi_17 (List.mem_of_getElem? (i := 18) rfl)
theorem wd_17_19 : Cond.instanceMethod yX3_goesFirst ∈ wsL_law := wi_17 (List.mem_of_getElem? (i := 19) rfl)
theorem wd_17_20 : Cond.selects RX3 yX3_goesFirst yX3_goesFirst ∈ wsL_law := wi_17 (List.mem_of_getElem? (i := 20) rfl)
theorem wd_17_21 : Cond.code yX3_goesFirst cX3_goesFirst 3 (some .boolean) ∈ wsL_law := wi_17 (List.mem_of_getElem? (i := 21) rfl)
theorem wd_17_22 : Cond.fieldLink RX3 117 "PeatRailway$Train" "up" "Z" ∈ wsL_law := wi_17 (List.mem_of_getElem? (i := 22) rfl)
theorem wd_17_23 : Cond.methodLink RX3 111 yX3_takeTurn ∈ wsL_law := wi_17 (List.mem_of_getElem? (i := 23) rfl)
theorem wd_18_0 : Cond.instanceMethod yX3_takeTurn ∈ wsL_law := wi_18 (List.mem_of_getElem? (i := 0) rfl)
theorem wd_18_1 : Cond.selects RX3 yX3_takeTurn yX3_takeTurn ∈ wsL_law := wi_18 (List.mem_of_getElem? (i := 1) rfl)
theorem wd_18_2 : Cond.code yX3_takeTurn cX3_takeTurn 2 none ∈ wsL_law := wi_18 (List.mem_of_getElem? (i := 2) rfl)
theorem wd_18_3 : Cond.fieldLink RX3 120 "PeatRailway$Train" "rest" "I" ∈ wsL_law := wi_18 (List.mem_of_getElem? (i := 3) rfl)
theorem wd_18_4 : Cond.fieldLink RX3 123 "PeatRailway$Train" "reason" "I" ∈ wsL_law := wi_18 (List.mem_of_getElem? (i := 4) rfl)
theorem wd_18_5 : Cond.fieldLink RX3 130 "PeatRailway$Train" "waits" "I" ∈ wsL_law := wi_18 (List.mem_of_getElem? (i := 5) rfl)
theorem wd_18_6 : Cond.methodLink RX3 126 yX3_reasonToWait ∈ wsL_law := wi_18 (List.mem_of_getElem? (i := 6) rfl)
theorem wd_18_7 : Cond.instanceMethod yX3_reasonToWait ∈ wsL_law := wi_18 (List.mem_of_getElem? (i := 7) rfl)
theorem wd_18_8 : Cond.selects RX3 yX3_reasonToWait yX3_reasonToWait ∈ wsL_law := wi_18 (List.mem_of_getElem? (i := 8) rfl)
theorem wd_18_9 : Cond.code yX3_reasonToWait cX3_reasonToWait 5 (some .int) ∈ wsL_law := wi_18 (List.mem_of_getElem? (i := 9) rfl)
theorem wd_18_10 : Cond.fieldLink RX3 148 "PeatRailway$Train" "place" "I" ∈ wsL_law := wi_18 (List.mem_of_getElem? (i := 10) rfl)
theorem wd_18_11 : Cond.fieldLink RX3 163 "PeatRailway$Segment" "sinking" "I" ∈ wsL_law := wi_18 (List.mem_of_getElem? (i := 11) rfl)
theorem wd_18_12 : Cond.methodLink RX3 133 yX3_isToUnload ∈ wsL_law := wi_18 (List.mem_of_getElem? (i := 12) rfl)
theorem wd_18_13 : Cond.instanceMethod yX3_isToUnload ∈ wsL_law := wi_18 (List.mem_of_getElem? (i := 13) rfl)
theorem wd_18_14 : Cond.selects RX3 yX3_isToUnload yX3_isToUnload ∈ wsL_law := wi_18 (List.mem_of_getElem? (i := 14) rfl)
theorem wd_18_15 : Cond.code yX3_isToUnload cX3_isToUnload 2 (some .boolean) ∈ wsL_law := wi_18 (List.mem_of_getElem? (i := 15) rfl)
theorem wd_18_16 : Cond.methodLink RX3 139 yX3_isToLoad ∈ wsL_law := wi_18 (List.mem_of_getElem? (i := 16) rfl)
theorem wd_18_17 : Cond.instanceMethod yX3_isToLoad ∈ wsL_law := wi_18 (List.mem_of_getElem? (i := 17) rfl)
theorem wd_18_18 : Cond.selects RX3 yX3_isToLoad yX3_isToLoad ∈ wsL_law := wi_18 (List.mem_of_getElem? (i := 18) rfl)
theorem wd_18_19 : Cond.code yX3_isToLoad cX3_isToLoad 2 (some .boolean) ∈ wsL_law := wi_18 (List.mem_of_getElem? (i := 19) rfl)
theorem wd_18_20 : Cond.methodLink RX3 157 yX4_fullLoad ∈ wsL_law := wi_18 (List.mem_of_getElem? (i := 20) rfl)
theorem wd_18_21 : Cond.instanceMethod yX4_fullLoad ∈ wsL_law := wi_18 (List.mem_of_getElem? (i := 21) rfl)
theorem wd_18_22 : Cond.selects RX4 yX4_fullLoad yX4_fullLoad ∈ wsL_law := wi_18 (List.mem_of_getElem? (i := 22) rfl)
theorem wd_18_23 : Cond.code yX4_fullLoad cX4_fullLoad 1 (some .int) ∈ wsL_law := wi_18 (List.mem_of_getElem? (i := 23) rfl)
theorem wd_19_0 : Cond.methodLink RX3 160 yX3_placeBeyond ∈ wsL_law := wi_19 (List.mem_of_getElem? (i := 0) rfl)
theorem wd_19_1 : Cond.instanceMethod yX3_placeBeyond ∈ wsL_law := wi_19 (List.mem_of_getElem? (i := 1) rfl)
theorem wd_19_2 : Cond.selects RX3 yX3_placeBeyond yX3_placeBeyond ∈ wsL_law := wi_19 (List.mem_of_getElem? (i := 2) rfl)
theorem wd_19_3 : Cond.code yX3_placeBeyond cX3_placeBeyond 2 (some .int) ∈ wsL_law := wi_19 (List.mem_of_getElem? (i := 3) rfl)
theorem wd_19_4 : Cond.methodLink RX3 166 yX3_trainsIn ∈ wsL_law := wi_19 (List.mem_of_getElem? (i := 4) rfl)
theorem wd_19_5 : Cond.instanceMethod yX3_trainsIn ∈ wsL_law := wi_19 (List.mem_of_getElem? (i := 5) rfl)
theorem wd_19_6 : Cond.selects RX3 yX3_trainsIn yX3_trainsIn ∈ wsL_law := wi_19 (List.mem_of_getElem? (i := 6) rfl)
theorem wd_19_7 : Cond.code yX3_trainsIn cX3_trainsIn 5 (some .int) ∈ wsL_law := wi_19 (List.mem_of_getElem? (i := 7) rfl)
theorem wd_19_8 : Cond.methodLink RX3 170 yX3_reasonAhead ∈ wsL_law := wi_19 (List.mem_of_getElem? (i := 8) rfl)
theorem wd_19_9 : Cond.instanceMethod yX3_reasonAhead ∈ wsL_law := wi_19 (List.mem_of_getElem? (i := 9) rfl)
theorem wd_19_10 : Cond.selects RX3 yX3_reasonAhead yX3_reasonAhead ∈ wsL_law := wi_19 (List.mem_of_getElem? (i := 10) rfl)
theorem wd_19_11 : Cond.code yX3_reasonAhead cX3_reasonAhead 6 (some .int) ∈ wsL_law := wi_19 (List.mem_of_getElem? (i := 11) rfl)
theorem wd_19_12 : Cond.methodLink RX3 174 yX3_isBetween ∈ wsL_law := wi_19 (List.mem_of_getElem? (i := 12) rfl)
theorem wd_19_13 : Cond.static yX3_isBetween ∈ wsL_law := wi_19 (List.mem_of_getElem? (i := 13) rfl)
theorem wd_19_14 : Cond.code yX3_isBetween cX3_isBetween 3 (some .boolean) ∈ wsL_law := wi_19 (List.mem_of_getElem? (i := 14) rfl)
theorem wd_19_15 : Cond.methodLink RX3 136 yX3_unloadTrain ∈ wsL_law := wi_19 (List.mem_of_getElem? (i := 15) rfl)
theorem wd_19_16 : Cond.instanceMethod yX3_unloadTrain ∈ wsL_law := wi_19 (List.mem_of_getElem? (i := 16) rfl)
theorem wd_19_17 : Cond.selects RX3 yX3_unloadTrain yX3_unloadTrain ∈ wsL_law := wi_19 (List.mem_of_getElem? (i := 17) rfl)
theorem wd_19_18 : Cond.code yX3_unloadTrain cX3_unloadTrain 2 none ∈ wsL_law := wi_19 (List.mem_of_getElem? (i := 18) rfl)
theorem wd_19_19 : Cond.fieldLink RX3 151 "PeatRailway$Train" "wagons" "I" ∈ wsL_law := wi_19 (List.mem_of_getElem? (i := 19) rfl)
theorem wd_19_20 : Cond.fieldLink RX3 154 "PeatRailway$Train" "unloads" "I" ∈ wsL_law := wi_19 (List.mem_of_getElem? (i := 20) rfl)
theorem wd_19_21 : Cond.methodLink RX3 142 yX3_loadTrain ∈ wsL_law := wi_19 (List.mem_of_getElem? (i := 21) rfl)
theorem wd_19_22 : Cond.instanceMethod yX3_loadTrain ∈ wsL_law := wi_19 (List.mem_of_getElem? (i := 22) rfl)
theorem wd_19_23 : Cond.selects RX3 yX3_loadTrain yX3_loadTrain ∈ wsL_law := wi_19 (List.mem_of_getElem? (i := 23) rfl)
theorem wd_20_0 : Cond.code yX3_loadTrain cX3_loadTrain 2 none ∈ wsL_law := wi_20 (List.mem_of_getElem? (i := 0) rfl)
theorem wd_20_1 : Cond.methodLink RX3 145 yX3_moveTrain ∈ wsL_law := wi_20 (List.mem_of_getElem? (i := 1) rfl)
theorem wd_20_2 : Cond.instanceMethod yX3_moveTrain ∈ wsL_law := wi_20 (List.mem_of_getElem? (i := 2) rfl)
theorem wd_20_3 : Cond.selects RX3 yX3_moveTrain yX3_moveTrain ∈ wsL_law := wi_20 (List.mem_of_getElem? (i := 3) rfl)
theorem wd_20_4 : Cond.code yX3_moveTrain cX3_moveTrain 3 none ∈ wsL_law := wi_20 (List.mem_of_getElem? (i := 4) rfl)
theorem wd_20_5 : Cond.methodLink RX3 114 yX3_settle ∈ wsL_law := wi_20 (List.mem_of_getElem? (i := 5) rfl)
theorem wd_20_6 : Cond.instanceMethod yX3_settle ∈ wsL_law := wi_20 (List.mem_of_getElem? (i := 6) rfl)
theorem wd_20_7 : Cond.selects RX3 yX3_settle yX3_settle ∈ wsL_law := wi_20 (List.mem_of_getElem? (i := 7) rfl)
theorem wd_20_8 : Cond.code yX3_settle cX3_settle 4 none ∈ wsL_law := wi_20 (List.mem_of_getElem? (i := 8) rfl)
theorem wd_20_9 : Cond.fieldLink RX3 178 "PeatRailway$Segment" "burden" "I" ∈ wsL_law := wi_20 (List.mem_of_getElem? (i := 9) rfl)
theorem wd_20_10 : Cond.methodLink RX3 186 Lib.Math.max.name ∈ wsL_law := wi_20 (List.mem_of_getElem? (i := 10) rfl)
theorem wd_20_11 : Cond.static Lib.Math.max.name ∈ wsL_law := wi_20 (List.mem_of_getElem? (i := 11) rfl)
theorem wd_20_12 : Cond.initialized "java/lang/Math" ∈ wsL_law := wi_20 (List.mem_of_getElem? (i := 12) rfl)
theorem wd_20_13 : Cond.code Lib.Math.max.name Lib.Math.max.code 2 (some .int) ∈ wsL_law := wi_20 (List.mem_of_getElem? (i := 13) rfl)
theorem wd_20_14 : Cond.methodLink RX3 181 yX4_weight ∈ wsL_law := wi_20 (List.mem_of_getElem? (i := 14) rfl)
theorem wd_20_15 : Cond.instanceMethod yX4_weight ∈ wsL_law := wi_20 (List.mem_of_getElem? (i := 15) rfl)
theorem wd_20_16 : Cond.selects RX4 yX4_weight yX4_weight ∈ wsL_law := wi_20 (List.mem_of_getElem? (i := 16) rfl)
theorem wd_20_17 : Cond.code yX4_weight cX4_weight 1 (some .int) ∈ wsL_law := wi_20 (List.mem_of_getElem? (i := 17) rfl)
theorem wd_20_18 : Cond.methodLink RX3 184 yX2_settle ∈ wsL_law := wi_20 (List.mem_of_getElem? (i := 18) rfl)
theorem wd_20_19 : Cond.instanceMethod yX2_settle ∈ wsL_law := wi_20 (List.mem_of_getElem? (i := 19) rfl)
theorem wd_20_20 : Cond.selects RX2 yX2_settle yX2_settle ∈ wsL_law := wi_20 (List.mem_of_getElem? (i := 20) rfl)
theorem wd_20_21 : Cond.code yX2_settle cX2_settle 2 none ∈ wsL_law := wi_20 (List.mem_of_getElem? (i := 21) rfl)
theorem wd_20_22 : Cond.fieldLink RX2 27 "PeatRailway$Segment" "burden" "I" ∈ wsL_law := wi_20 (List.mem_of_getElem? (i := 22) rfl)
theorem wd_20_23 : Cond.methodLink RX2 30 Lib.Math.max.name ∈ wsL_law := wi_20 (List.mem_of_getElem? (i := 23) rfl)
theorem wd_21_0 : Cond.methodLink RX2 36 Lib.Math.min.name ∈ wsL_law := wi_21 (List.mem_of_getElem? (i := 0) rfl)
theorem wd_21_1 : Cond.static Lib.Math.min.name ∈ wsL_law := wi_21 (List.mem_of_getElem? (i := 1) rfl)
theorem wd_21_2 : Cond.code Lib.Math.min.name Lib.Math.min.code 2 (some .int) ∈ wsL_law := wi_21 (List.mem_of_getElem? (i := 2) rfl)
theorem wd_21_3 : Cond.methodLink RL 55 yX6_run ∈ wsL_law := wi_21 (List.mem_of_getElem? (i := 3) rfl)
theorem wd_21_4 : Cond.instanceMethod yX6_run ∈ wsL_law := wi_21 (List.mem_of_getElem? (i := 4) rfl)
theorem wd_21_5 : Cond.selects RX6 yX6_run yX6_run ∈ wsL_law := wi_21 (List.mem_of_getElem? (i := 5) rfl)
theorem wd_21_6 : Cond.code yX6_run cX6_run 4 (some .int) ∈ wsL_law := wi_21 (List.mem_of_getElem? (i := 6) rfl)
theorem wd_21_7 : Cond.methodLink RX6 124 yX6_tick ∈ wsL_law := wi_21 (List.mem_of_getElem? (i := 7) rfl)
theorem wd_21_8 : Cond.instanceMethod yX6_tick ∈ wsL_law := wi_21 (List.mem_of_getElem? (i := 8) rfl)
theorem wd_21_9 : Cond.selects RX6 yX6_tick yX6_tick ∈ wsL_law := wi_21 (List.mem_of_getElem? (i := 9) rfl)
theorem wd_21_10 : Cond.code yX6_tick cX6_tick 6 none ∈ wsL_law := wi_21 (List.mem_of_getElem? (i := 10) rfl)
theorem wd_21_11 : Cond.methodLink RX6 118 yX6_turn ∈ wsL_law := wi_21 (List.mem_of_getElem? (i := 11) rfl)
theorem wd_21_12 : Cond.instanceMethod yX6_turn ∈ wsL_law := wi_21 (List.mem_of_getElem? (i := 12) rfl)
theorem wd_21_13 : Cond.selects RX6 yX6_turn yX6_turn ∈ wsL_law := wi_21 (List.mem_of_getElem? (i := 13) rfl)
theorem wd_21_14 : Cond.code yX6_turn cX6_turn 4 none ∈ wsL_law := wi_21 (List.mem_of_getElem? (i := 14) rfl)
theorem wd_21_15 : Cond.methodLink RX6 108 yX6_reason ∈ wsL_law := wi_21 (List.mem_of_getElem? (i := 15) rfl)
theorem wd_21_16 : Cond.instanceMethod yX6_reason ∈ wsL_law := wi_21 (List.mem_of_getElem? (i := 16) rfl)
theorem wd_21_17 : Cond.selects RX6 yX6_reason yX6_reason ∈ wsL_law := wi_21 (List.mem_of_getElem? (i := 17) rfl)
theorem wd_21_18 : Cond.code yX6_reason cX6_reason 8 (some .int) ∈ wsL_law := wi_21 (List.mem_of_getElem? (i := 18) rfl)
theorem wd_21_19 : Cond.methodLink RX6 95 yX6_wanted ∈ wsL_law := wi_21 (List.mem_of_getElem? (i := 19) rfl)
theorem wd_21_20 : Cond.instanceMethod yX6_wanted ∈ wsL_law := wi_21 (List.mem_of_getElem? (i := 20) rfl)
theorem wd_21_21 : Cond.selects RX6 yX6_wanted yX6_wanted ∈ wsL_law := wi_21 (List.mem_of_getElem? (i := 21) rfl)
theorem wd_21_22 : Cond.code yX6_wanted cX6_wanted 2 (some .int) ∈ wsL_law := wi_21 (List.mem_of_getElem? (i := 22) rfl)
theorem wd_21_23 : Cond.methodLink RX6 83 yX6_seg ∈ wsL_law := wi_21 (List.mem_of_getElem? (i := 23) rfl)
theorem wd_22_0 : Cond.instanceMethod yX6_seg ∈ wsL_law := wi_22 (List.mem_of_getElem? (i := 0) rfl)
theorem wd_22_1 : Cond.selects RX6 yX6_seg yX6_seg ∈ wsL_law := wi_22 (List.mem_of_getElem? (i := 1) rfl)
theorem wd_22_2 : Cond.code yX6_seg cX6_seg 3 (some .int) ∈ wsL_law := wi_22 (List.mem_of_getElem? (i := 2) rfl)
theorem wd_22_3 : Cond.methodLink RX6 98 yX6_trainsIn ∈ wsL_law := wi_22 (List.mem_of_getElem? (i := 3) rfl)
theorem wd_22_4 : Cond.instanceMethod yX6_trainsIn ∈ wsL_law := wi_22 (List.mem_of_getElem? (i := 4) rfl)
theorem wd_22_5 : Cond.selects RX6 yX6_trainsIn yX6_trainsIn ∈ wsL_law := wi_22 (List.mem_of_getElem? (i := 5) rfl)
theorem wd_22_6 : Cond.code yX6_trainsIn cX6_trainsIn 4 (some .int) ∈ wsL_law := wi_22 (List.mem_of_getElem? (i := 6) rfl)
theorem wd_22_7 : Cond.methodLink RX6 101 yX6_room ∈ wsL_law := wi_22 (List.mem_of_getElem? (i := 7) rfl)
theorem wd_22_8 : Cond.instanceMethod yX6_room ∈ wsL_law := wi_22 (List.mem_of_getElem? (i := 8) rfl)
theorem wd_22_9 : Cond.selects RX6 yX6_room yX6_room ∈ wsL_law := wi_22 (List.mem_of_getElem? (i := 9) rfl)
theorem wd_22_10 : Cond.code yX6_room cX6_room 2 (some .int) ∈ wsL_law := wi_22 (List.mem_of_getElem? (i := 10) rfl)
theorem wd_22_11 : Cond.methodLink RX6 86 yX6_isEnd ∈ wsL_law := wi_22 (List.mem_of_getElem? (i := 11) rfl)
theorem wd_22_12 : Cond.instanceMethod yX6_isEnd ∈ wsL_law := wi_22 (List.mem_of_getElem? (i := 12) rfl)
theorem wd_22_13 : Cond.selects RX6 yX6_isEnd yX6_isEnd ∈ wsL_law := wi_22 (List.mem_of_getElem? (i := 13) rfl)
theorem wd_22_14 : Cond.code yX6_isEnd cX6_isEnd 2 (some .boolean) ∈ wsL_law := wi_22 (List.mem_of_getElem? (i := 14) rfl)
theorem wd_22_15 : Cond.methodLink RX6 89 yX6_isPassing ∈ wsL_law := wi_22 (List.mem_of_getElem? (i := 15) rfl)
theorem wd_22_16 : Cond.instanceMethod yX6_isPassing ∈ wsL_law := wi_22 (List.mem_of_getElem? (i := 16) rfl)
theorem wd_22_17 : Cond.selects RX6 yX6_isPassing yX6_isPassing ∈ wsL_law := wi_22 (List.mem_of_getElem? (i := 17) rfl)
theorem wd_22_18 : Cond.code yX6_isPassing cX6_isPassing 2 (some .boolean) ∈ wsL_law := wi_22 (List.mem_of_getElem? (i := 18) rfl)
theorem wd_22_19 : Cond.methodLink RX6 104 yX6_between ∈ wsL_law := wi_22 (List.mem_of_getElem? (i := 19) rfl)
theorem wd_22_20 : Cond.instanceMethod yX6_between ∈ wsL_law := wi_22 (List.mem_of_getElem? (i := 20) rfl)
theorem wd_22_21 : Cond.selects RX6 yX6_between yX6_between ∈ wsL_law := wi_22 (List.mem_of_getElem? (i := 21) rfl)
theorem wd_22_22 : Cond.code yX6_between cX6_between 8 (some .int) ∈ wsL_law := wi_22 (List.mem_of_getElem? (i := 22) rfl)
theorem wd_22_23 : Cond.methodLink RX6 111 yX6_go ∈ wsL_law := wi_22 (List.mem_of_getElem? (i := 23) rfl)
theorem wd_23_0 : Cond.instanceMethod yX6_go ∈ wsL_law := wi_23 (List.mem_of_getElem? (i := 0) rfl)
theorem wd_23_1 : Cond.selects RX6 yX6_go yX6_go ∈ wsL_law := wi_23 (List.mem_of_getElem? (i := 1) rfl)
theorem wd_23_2 : Cond.code yX6_go cX6_go 5 none ∈ wsL_law := wi_23 (List.mem_of_getElem? (i := 2) rfl)
theorem wd_23_3 : Cond.methodLink RX6 121 yX6_sink ∈ wsL_law := wi_23 (List.mem_of_getElem? (i := 3) rfl)
theorem wd_23_4 : Cond.instanceMethod yX6_sink ∈ wsL_law := wi_23 (List.mem_of_getElem? (i := 4) rfl)
theorem wd_23_5 : Cond.selects RX6 yX6_sink yX6_sink ∈ wsL_law := wi_23 (List.mem_of_getElem? (i := 5) rfl)
theorem wd_23_6 : Cond.code yX6_sink cX6_sink 5 none ∈ wsL_law := wi_23 (List.mem_of_getElem? (i := 6) rfl)
theorem wd_23_7 : Cond.methodLink RX6 115 yX6_weightIn ∈ wsL_law := wi_23 (List.mem_of_getElem? (i := 7) rfl)
theorem wd_23_8 : Cond.instanceMethod yX6_weightIn ∈ wsL_law := wi_23 (List.mem_of_getElem? (i := 8) rfl)
theorem wd_23_9 : Cond.selects RX6 yX6_weightIn yX6_weightIn ∈ wsL_law := wi_23 (List.mem_of_getElem? (i := 9) rfl)
theorem wd_23_10 : Cond.code yX6_weightIn cX6_weightIn 4 (some .int) ∈ wsL_law := wi_23 (List.mem_of_getElem? (i := 10) rfl)
theorem wd_23_11 : Cond.methodLink RX6 92 yX6_weight ∈ wsL_law := wi_23 (List.mem_of_getElem? (i := 11) rfl)
theorem wd_23_12 : Cond.instanceMethod yX6_weight ∈ wsL_law := wi_23 (List.mem_of_getElem? (i := 12) rfl)
theorem wd_23_13 : Cond.selects RX6 yX6_weight yX6_weight ∈ wsL_law := wi_23 (List.mem_of_getElem? (i := 13) rfl)
theorem wd_23_14 : Cond.code yX6_weight cX6_weight 2 (some .int) ∈ wsL_law := wi_23 (List.mem_of_getElem? (i := 14) rfl)
theorem wd_23_15 : Cond.methodLink RL 56 yX5_undo ∈ wsL_law := wi_23 (List.mem_of_getElem? (i := 15) rfl)
theorem wd_23_16 : Cond.instanceMethod yX5_undo ∈ wsL_law := wi_23 (List.mem_of_getElem? (i := 16) rfl)
theorem wd_23_17 : Cond.selects RX5 yX5_undo yX5_undo ∈ wsL_law := wi_23 (List.mem_of_getElem? (i := 17) rfl)
theorem wd_23_18 : Cond.code yX5_undo cX5_undo 1 (some .int) ∈ wsL_law := wi_23 (List.mem_of_getElem? (i := 18) rfl)
theorem wd_23_19 : Cond.methodLink RX5 131 yX0_size ∈ wsL_law := wi_23 (List.mem_of_getElem? (i := 19) rfl)
theorem wd_23_20 : Cond.instanceMethod yX0_size ∈ wsL_law := wi_23 (List.mem_of_getElem? (i := 20) rfl)
theorem wd_23_21 : Cond.selects RX0 yX0_size yX0_size ∈ wsL_law := wi_23 (List.mem_of_getElem? (i := 21) rfl)
theorem wd_23_22 : Cond.code yX0_size cX0_size 1 (some .int) ∈ wsL_law := wi_23 (List.mem_of_getElem? (i := 22) rfl)
theorem wd_23_23 : Cond.methodLink RX5 134 yX0_restore ∈ wsL_law := wi_23 (List.mem_of_getElem? (i := 23) rfl)
theorem wd_24_0 : Cond.instanceMethod yX0_restore ∈ wsL_law := wi_24 (List.mem_of_getElem? (i := 0) rfl)
theorem wd_24_1 : Cond.selects RX0 yX0_restore yX0_restore ∈ wsL_law := wi_24 (List.mem_of_getElem? (i := 1) rfl)
theorem wd_24_2 : Cond.code yX0_restore cX0_restore 2 none ∈ wsL_law := wi_24 (List.mem_of_getElem? (i := 2) rfl)
theorem wd_24_3 : Cond.methodLink RL 59 yX6_undo ∈ wsL_law := wi_24 (List.mem_of_getElem? (i := 3) rfl)
theorem wd_24_4 : Cond.instanceMethod yX6_undo ∈ wsL_law := wi_24 (List.mem_of_getElem? (i := 4) rfl)
theorem wd_24_5 : Cond.selects RX6 yX6_undo yX6_undo ∈ wsL_law := wi_24 (List.mem_of_getElem? (i := 5) rfl)
theorem wd_24_6 : Cond.code yX6_undo cX6_undo 1 (some .int) ∈ wsL_law := wi_24 (List.mem_of_getElem? (i := 6) rfl)
theorem wd_24_7 : Cond.methodLink RL 60 yX5_keep ∈ wsL_law := wi_24 (List.mem_of_getElem? (i := 7) rfl)
theorem wd_24_8 : Cond.instanceMethod yX5_keep ∈ wsL_law := wi_24 (List.mem_of_getElem? (i := 8) rfl)
theorem wd_24_9 : Cond.selects RX5 yX5_keep yX5_keep ∈ wsL_law := wi_24 (List.mem_of_getElem? (i := 9) rfl)
theorem wd_24_10 : Cond.code yX5_keep cX5_keep 2 (some .int) ∈ wsL_law := wi_24 (List.mem_of_getElem? (i := 10) rfl)
theorem wd_24_11 : Cond.fieldLink RX5 143 "PeatRailway" "keptImages" "I" ∈ wsL_law := wi_24 (List.mem_of_getElem? (i := 11) rfl)
theorem wd_24_12 : Cond.fieldLink RX5 146 "PeatRailway$State" "clock" "I" ∈ wsL_law := wi_24 (List.mem_of_getElem? (i := 12) rfl)
theorem wd_24_13 : Cond.methodLink RX5 137 yX5_isImage ∈ wsL_law := wi_24 (List.mem_of_getElem? (i := 13) rfl)
theorem wd_24_14 : Cond.static yX5_isImage ∈ wsL_law := wi_24 (List.mem_of_getElem? (i := 14) rfl)
theorem wd_24_15 : Cond.code yX5_isImage cX5_isImage 1 (some .boolean) ∈ wsL_law := wi_24 (List.mem_of_getElem? (i := 15) rfl)
theorem wd_24_16 : Cond.methodLink RX5 140 yX3_copyFrom ∈ wsL_law := wi_24 (List.mem_of_getElem? (i := 16) rfl)
theorem wd_24_17 : Cond.methodLink RL 63 yX6_keep ∈ wsL_law := wi_24 (List.mem_of_getElem? (i := 17) rfl)
theorem wd_24_18 : Cond.instanceMethod yX6_keep ∈ wsL_law := wi_24 (List.mem_of_getElem? (i := 18) rfl)
theorem wd_24_19 : Cond.selects RX6 yX6_keep yX6_keep ∈ wsL_law := wi_24 (List.mem_of_getElem? (i := 19) rfl)
theorem wd_24_20 : Cond.code yX6_keep cX6_keep 2 (some .int) ∈ wsL_law := wi_24 (List.mem_of_getElem? (i := 20) rfl)
theorem wd_24_21 : Cond.fieldLink RX6 127 "PeatRailwayModel" "kept" "I" ∈ wsL_law := wi_24 (List.mem_of_getElem? (i := 21) rfl)
theorem wd_24_22 : Cond.methodLink RL 64 yX5_back ∈ wsL_law := wi_24 (List.mem_of_getElem? (i := 22) rfl)
theorem wd_24_23 : Cond.instanceMethod yX5_back ∈ wsL_law := wi_24 (List.mem_of_getElem? (i := 23) rfl)
theorem wd_25_0 : Cond.selects RX5 yX5_back yX5_back ∈ wsL_law := wi_25 (List.mem_of_getElem? (i := 0) rfl)
theorem wd_25_1 : Cond.code yX5_back cX5_back 2 (some .int) ∈ wsL_law := wi_25 (List.mem_of_getElem? (i := 1) rfl)
theorem wd_25_2 : Cond.methodLink RL 67 yX6_back ∈ wsL_law := wi_25 (List.mem_of_getElem? (i := 2) rfl)
theorem wd_25_3 : Cond.instanceMethod yX6_back ∈ wsL_law := wi_25 (List.mem_of_getElem? (i := 3) rfl)
theorem wd_25_4 : Cond.selects RX6 yX6_back yX6_back ∈ wsL_law := wi_25 (List.mem_of_getElem? (i := 4) rfl)
theorem wd_25_5 : Cond.code yX6_back cX6_back 2 (some .int) ∈ wsL_law := wi_25 (List.mem_of_getElem? (i := 5) rfl)
theorem wd_25_6 : Cond.methodLink RL 68 yX5_segment ∈ wsL_law := wi_25 (List.mem_of_getElem? (i := 6) rfl)
theorem wd_25_7 : Cond.instanceMethod yX5_segment ∈ wsL_law := wi_25 (List.mem_of_getElem? (i := 7) rfl)
theorem wd_25_8 : Cond.selects RX5 yX5_segment yX5_segment ∈ wsL_law := wi_25 (List.mem_of_getElem? (i := 8) rfl)
theorem wd_25_9 : Cond.code yX5_segment cX5_segment 4 (some .int) ∈ wsL_law := wi_25 (List.mem_of_getElem? (i := 9) rfl)
theorem wd_25_10 : Cond.fieldLink RX5 153 "PeatRailway$Segment" "softness" "I" ∈ wsL_law := wi_25 (List.mem_of_getElem? (i := 10) rfl)
theorem wd_25_11 : Cond.fieldLink RX5 161 "PeatRailway$Segment" "sinking" "I" ∈ wsL_law := wi_25 (List.mem_of_getElem? (i := 11) rfl)
theorem wd_25_12 : Cond.fieldLink RX5 170 "PeatRailway$Segment" "room" "I" ∈ wsL_law := wi_25 (List.mem_of_getElem? (i := 12) rfl)
theorem wd_25_13 : Cond.methodLink RX5 149 yX3_segmentAt ∈ wsL_law := wi_25 (List.mem_of_getElem? (i := 13) rfl)
theorem wd_25_14 : Cond.methodLink RX5 158 yX2_isPassingPlace ∈ wsL_law := wi_25 (List.mem_of_getElem? (i := 14) rfl)
theorem wd_25_15 : Cond.methodLink RX5 164 yX3_trainsIn ∈ wsL_law := wi_25 (List.mem_of_getElem? (i := 15) rfl)
theorem wd_25_16 : Cond.methodLink RX5 167 yX3_weightIn ∈ wsL_law := wi_25 (List.mem_of_getElem? (i := 16) rfl)
theorem wd_25_17 : Cond.instanceMethod yX3_weightIn ∈ wsL_law := wi_25 (List.mem_of_getElem? (i := 17) rfl)
theorem wd_25_18 : Cond.selects RX3 yX3_weightIn yX3_weightIn ∈ wsL_law := wi_25 (List.mem_of_getElem? (i := 18) rfl)
theorem wd_25_19 : Cond.code yX3_weightIn cX3_weightIn 5 (some .int) ∈ wsL_law := wi_25 (List.mem_of_getElem? (i := 19) rfl)
theorem wd_25_20 : Cond.methodLink RX5 173 yX2_ticksToRise ∈ wsL_law := wi_25 (List.mem_of_getElem? (i := 20) rfl)
theorem wd_25_21 : Cond.instanceMethod yX2_ticksToRise ∈ wsL_law := wi_25 (List.mem_of_getElem? (i := 21) rfl)
theorem wd_25_22 : Cond.selects RX2 yX2_ticksToRise yX2_ticksToRise ∈ wsL_law := wi_25 (List.mem_of_getElem? (i := 22) rfl)
theorem wd_25_23 : Cond.code yX2_ticksToRise cX2_ticksToRise 3 (some .int) ∈ wsL_law := wi_25 (List.mem_of_getElem? (i := 23) rfl)
theorem wd_26_0 : Cond.methodLink RL 71 yX6_segment ∈ wsL_law := wi_26 (List.mem_of_getElem? (i := 0) rfl)
theorem wd_26_1 : Cond.instanceMethod yX6_segment ∈ wsL_law := wi_26 (List.mem_of_getElem? (i := 1) rfl)
theorem wd_26_2 : Cond.selects RX6 yX6_segment yX6_segment ∈ wsL_law := wi_26 (List.mem_of_getElem? (i := 2) rfl)
theorem wd_26_3 : Cond.code yX6_segment cX6_segment 3 (some .int) ∈ wsL_law := wi_26 (List.mem_of_getElem? (i := 3) rfl)
theorem wd_26_4 : Cond.methodLink RX6 133 yX6_isSegment ∈ wsL_law := wi_26 (List.mem_of_getElem? (i := 4) rfl)
theorem wd_26_5 : Cond.instanceMethod yX6_isSegment ∈ wsL_law := wi_26 (List.mem_of_getElem? (i := 5) rfl)
theorem wd_26_6 : Cond.selects RX6 yX6_isSegment yX6_isSegment ∈ wsL_law := wi_26 (List.mem_of_getElem? (i := 6) rfl)
theorem wd_26_7 : Cond.code yX6_isSegment cX6_isSegment 2 (some .boolean) ∈ wsL_law := wi_26 (List.mem_of_getElem? (i := 7) rfl)
theorem wd_26_8 : Cond.methodLink RX6 136 yX6_segmentNow ∈ wsL_law := wi_26 (List.mem_of_getElem? (i := 8) rfl)
theorem wd_26_9 : Cond.instanceMethod yX6_segmentNow ∈ wsL_law := wi_26 (List.mem_of_getElem? (i := 9) rfl)
theorem wd_26_10 : Cond.selects RX6 yX6_segmentNow yX6_segmentNow ∈ wsL_law := wi_26 (List.mem_of_getElem? (i := 10) rfl)
theorem wd_26_11 : Cond.code yX6_segmentNow cX6_segmentNow 3 (some .int) ∈ wsL_law := wi_26 (List.mem_of_getElem? (i := 11) rfl)
theorem wd_26_12 : Cond.methodLink RX6 130 yX6_resting ∈ wsL_law := wi_26 (List.mem_of_getElem? (i := 12) rfl)
theorem wd_26_13 : Cond.instanceMethod yX6_resting ∈ wsL_law := wi_26 (List.mem_of_getElem? (i := 13) rfl)
theorem wd_26_14 : Cond.selects RX6 yX6_resting yX6_resting ∈ wsL_law := wi_26 (List.mem_of_getElem? (i := 14) rfl)
theorem wd_26_15 : Cond.code yX6_resting cX6_resting 3 (some .int) ∈ wsL_law := wi_26 (List.mem_of_getElem? (i := 15) rfl)
theorem wd_26_16 : Cond.methodLink RL 72 yX5_train ∈ wsL_law := wi_26 (List.mem_of_getElem? (i := 16) rfl)
theorem wd_26_17 : Cond.instanceMethod yX5_train ∈ wsL_law := wi_26 (List.mem_of_getElem? (i := 17) rfl)
theorem wd_26_18 : Cond.selects RX5 yX5_train yX5_train ∈ wsL_law := wi_26 (List.mem_of_getElem? (i := 18) rfl)
theorem wd_26_19 : Cond.code yX5_train cX5_train 4 (some .int) ∈ wsL_law := wi_26 (List.mem_of_getElem? (i := 19) rfl)
theorem wd_26_20 : Cond.fieldLink RX5 176 "PeatRailway$Train" "wagons" "I" ∈ wsL_law := wi_26 (List.mem_of_getElem? (i := 20) rfl)
theorem wd_26_21 : Cond.fieldLink RX5 179 "PeatRailway$Train" "place" "I" ∈ wsL_law := wi_26 (List.mem_of_getElem? (i := 21) rfl)
theorem wd_26_22 : Cond.fieldLink RX5 182 "PeatRailway$Train" "up" "Z" ∈ wsL_law := wi_26 (List.mem_of_getElem? (i := 22) rfl)
theorem wd_26_23 : Cond.fieldLink RX5 186 "PeatRailway$Train" "rest" "I" ∈ wsL_law := wi_26 (List.mem_of_getElem? (i := 23) rfl)
theorem wd_27_0 : Cond.fieldLink RX5 189 "PeatRailway$Train" "reason" "I" ∈ wsL_law := wi_27 (List.mem_of_getElem? (i := 0) rfl)
theorem wd_27_1 : Cond.fieldLink RX5 192 "PeatRailway$Train" "waits" "I" ∈ wsL_law := wi_27 (List.mem_of_getElem? (i := 1) rfl)
theorem wd_27_2 : Cond.fieldLink RX5 195 "PeatRailway$Train" "unloads" "I" ∈ wsL_law := wi_27 (List.mem_of_getElem? (i := 2) rfl)
theorem wd_27_3 : Cond.methodLink RX5 198 yX4_weight ∈ wsL_law := wi_27 (List.mem_of_getElem? (i := 3) rfl)
theorem wd_27_4 : Cond.methodLink RL 75 yX6_train ∈ wsL_law := wi_27 (List.mem_of_getElem? (i := 4) rfl)
theorem wd_27_5 : Cond.instanceMethod yX6_train ∈ wsL_law := wi_27 (List.mem_of_getElem? (i := 5) rfl)
theorem wd_27_6 : Cond.selects RX6 yX6_train yX6_train ∈ wsL_law := wi_27 (List.mem_of_getElem? (i := 6) rfl)
theorem wd_27_7 : Cond.code yX6_train cX6_train 3 (some .int) ∈ wsL_law := wi_27 (List.mem_of_getElem? (i := 7) rfl)
theorem wd_27_8 : Cond.methodLink RX6 139 yX6_trainNow ∈ wsL_law := wi_27 (List.mem_of_getElem? (i := 8) rfl)
theorem wd_27_9 : Cond.instanceMethod yX6_trainNow ∈ wsL_law := wi_27 (List.mem_of_getElem? (i := 9) rfl)
theorem wd_27_10 : Cond.selects RX6 yX6_trainNow yX6_trainNow ∈ wsL_law := wi_27 (List.mem_of_getElem? (i := 10) rfl)
theorem wd_27_11 : Cond.code yX6_trainNow cX6_trainNow 3 (some .int) ∈ wsL_law := wi_27 (List.mem_of_getElem? (i := 11) rfl)
theorem wd_27_12 : Cond.methodLink RL 76 yX5_why ∈ wsL_law := wi_27 (List.mem_of_getElem? (i := 12) rfl)
theorem wd_27_13 : Cond.instanceMethod yX5_why ∈ wsL_law := wi_27 (List.mem_of_getElem? (i := 13) rfl)
theorem wd_27_14 : Cond.selects RX5 yX5_why yX5_why ∈ wsL_law := wi_27 (List.mem_of_getElem? (i := 14) rfl)
theorem wd_27_15 : Cond.code yX5_why cX5_why 3 (some .int) ∈ wsL_law := wi_27 (List.mem_of_getElem? (i := 15) rfl)
theorem wd_27_16 : Cond.methodLink RX5 201 yX3_reasonToWait ∈ wsL_law := wi_27 (List.mem_of_getElem? (i := 16) rfl)
theorem wd_27_17 : Cond.methodLink RL 79 yX6_why ∈ wsL_law := wi_27 (List.mem_of_getElem? (i := 17) rfl)
theorem wd_27_18 : Cond.instanceMethod yX6_why ∈ wsL_law := wi_27 (List.mem_of_getElem? (i := 18) rfl)
theorem wd_27_19 : Cond.selects RX6 yX6_why yX6_why ∈ wsL_law := wi_27 (List.mem_of_getElem? (i := 19) rfl)
theorem wd_27_20 : Cond.code yX6_why cX6_why 2 (some .int) ∈ wsL_law := wi_27 (List.mem_of_getElem? (i := 20) rfl)
theorem wd_27_21 : Cond.methodLink RL 80 yX5_account ∈ wsL_law := wi_27 (List.mem_of_getElem? (i := 21) rfl)
theorem wd_27_22 : Cond.instanceMethod yX5_account ∈ wsL_law := wi_27 (List.mem_of_getElem? (i := 22) rfl)
theorem wd_27_23 : Cond.selects RX5 yX5_account yX5_account ∈ wsL_law := wi_27 (List.mem_of_getElem? (i := 23) rfl)
theorem wd_28_0 : Cond.code yX5_account cX5_account 2 (some .int) ∈ wsL_law := wi_28 (List.mem_of_getElem? (i := 0) rfl)
theorem wd_28_1 : Cond.fieldLink RX5 208 "PeatRailway$State" "delivered" "I" ∈ wsL_law := wi_28 (List.mem_of_getElem? (i := 1) rfl)
theorem wd_28_2 : Cond.fieldLink RX5 211 "PeatRailway$State" "lost" "I" ∈ wsL_law := wi_28 (List.mem_of_getElem? (i := 2) rfl)
theorem wd_28_3 : Cond.methodLink RX5 205 yX3_peatInTrains ∈ wsL_law := wi_28 (List.mem_of_getElem? (i := 3) rfl)
theorem wd_28_4 : Cond.methodLink RL 83 yX6_account ∈ wsL_law := wi_28 (List.mem_of_getElem? (i := 4) rfl)
theorem wd_28_5 : Cond.instanceMethod yX6_account ∈ wsL_law := wi_28 (List.mem_of_getElem? (i := 5) rfl)
theorem wd_28_6 : Cond.selects RX6 yX6_account yX6_account ∈ wsL_law := wi_28 (List.mem_of_getElem? (i := 6) rfl)
theorem wd_28_7 : Cond.code yX6_account cX6_account 2 (some .int) ∈ wsL_law := wi_28 (List.mem_of_getElem? (i := 7) rfl)
theorem wd_28_8 : Cond.methodLink RX6 142 yX6_accountNow ∈ wsL_law := wi_28 (List.mem_of_getElem? (i := 8) rfl)
theorem wd_28_9 : Cond.instanceMethod yX6_accountNow ∈ wsL_law := wi_28 (List.mem_of_getElem? (i := 9) rfl)
theorem wd_28_10 : Cond.selects RX6 yX6_accountNow yX6_accountNow ∈ wsL_law := wi_28 (List.mem_of_getElem? (i := 10) rfl)
theorem wd_28_11 : Cond.code yX6_accountNow cX6_accountNow 2 (some .int) ∈ wsL_law := wi_28 (List.mem_of_getElem? (i := 11) rfl)
theorem wd_28_12 : Cond.methodLink RL 84 yX5_count ∈ wsL_law := wi_28 (List.mem_of_getElem? (i := 12) rfl)
theorem wd_28_13 : Cond.instanceMethod yX5_count ∈ wsL_law := wi_28 (List.mem_of_getElem? (i := 13) rfl)
theorem wd_28_14 : Cond.selects RX5 yX5_count yX5_count ∈ wsL_law := wi_28 (List.mem_of_getElem? (i := 14) rfl)
theorem wd_28_15 : Cond.code yX5_count cX5_count 2 (some .int) ∈ wsL_law := wi_28 (List.mem_of_getElem? (i := 15) rfl)
theorem wd_28_16 : Cond.methodLink RX5 214 yX3_greatestSinking ∈ wsL_law := wi_28 (List.mem_of_getElem? (i := 16) rfl)
theorem wd_28_17 : Cond.instanceMethod yX3_greatestSinking ∈ wsL_law := wi_28 (List.mem_of_getElem? (i := 17) rfl)
theorem wd_28_18 : Cond.selects RX3 yX3_greatestSinking yX3_greatestSinking ∈ wsL_law := wi_28 (List.mem_of_getElem? (i := 18) rfl)
theorem wd_28_19 : Cond.code yX3_greatestSinking cX3_greatestSinking 4 (some .int) ∈ wsL_law := wi_28 (List.mem_of_getElem? (i := 19) rfl)
theorem wd_28_20 : Cond.methodLink RX5 217 yX3_waitsOfAll ∈ wsL_law := wi_28 (List.mem_of_getElem? (i := 20) rfl)
theorem wd_28_21 : Cond.instanceMethod yX3_waitsOfAll ∈ wsL_law := wi_28 (List.mem_of_getElem? (i := 21) rfl)
theorem wd_28_22 : Cond.selects RX3 yX3_waitsOfAll yX3_waitsOfAll ∈ wsL_law := wi_28 (List.mem_of_getElem? (i := 22) rfl)
theorem wd_28_23 : Cond.code yX3_waitsOfAll cX3_waitsOfAll 4 (some .int) ∈ wsL_law := wi_28 (List.mem_of_getElem? (i := 23) rfl)
theorem wd_29_0 : Cond.methodLink RX5 220 yX3_sunkSegments ∈ wsL_law := wi_29 (List.mem_of_getElem? (i := 0) rfl)
theorem wd_29_1 : Cond.instanceMethod yX3_sunkSegments ∈ wsL_law := wi_29 (List.mem_of_getElem? (i := 1) rfl)
theorem wd_29_2 : Cond.selects RX3 yX3_sunkSegments yX3_sunkSegments ∈ wsL_law := wi_29 (List.mem_of_getElem? (i := 2) rfl)
theorem wd_29_3 : Cond.code yX3_sunkSegments cX3_sunkSegments 4 (some .int) ∈ wsL_law := wi_29 (List.mem_of_getElem? (i := 3) rfl)
theorem wd_29_4 : Cond.methodLink RL 87 yX6_count ∈ wsL_law := wi_29 (List.mem_of_getElem? (i := 4) rfl)
theorem wd_29_5 : Cond.instanceMethod yX6_count ∈ wsL_law := wi_29 (List.mem_of_getElem? (i := 5) rfl)
theorem wd_29_6 : Cond.selects RX6 yX6_count yX6_count ∈ wsL_law := wi_29 (List.mem_of_getElem? (i := 6) rfl)
theorem wd_29_7 : Cond.code yX6_count cX6_count 2 (some .int) ∈ wsL_law := wi_29 (List.mem_of_getElem? (i := 7) rfl)
theorem wd_29_8 : Cond.methodLink RX6 154 yX6_counted ∈ wsL_law := wi_29 (List.mem_of_getElem? (i := 8) rfl)
theorem wd_29_9 : Cond.instanceMethod yX6_counted ∈ wsL_law := wi_29 (List.mem_of_getElem? (i := 9) rfl)
theorem wd_29_10 : Cond.selects RX6 yX6_counted yX6_counted ∈ wsL_law := wi_29 (List.mem_of_getElem? (i := 10) rfl)
theorem wd_29_11 : Cond.code yX6_counted cX6_counted 2 (some .int) ∈ wsL_law := wi_29 (List.mem_of_getElem? (i := 11) rfl)
theorem wd_29_12 : Cond.methodLink RX6 145 yX6_deepest ∈ wsL_law := wi_29 (List.mem_of_getElem? (i := 12) rfl)
theorem wd_29_13 : Cond.instanceMethod yX6_deepest ∈ wsL_law := wi_29 (List.mem_of_getElem? (i := 13) rfl)
theorem wd_29_14 : Cond.selects RX6 yX6_deepest yX6_deepest ∈ wsL_law := wi_29 (List.mem_of_getElem? (i := 14) rfl)
theorem wd_29_15 : Cond.code yX6_deepest cX6_deepest 3 (some .int) ∈ wsL_law := wi_29 (List.mem_of_getElem? (i := 15) rfl)
theorem wd_29_16 : Cond.methodLink RX6 148 yX6_allWaits ∈ wsL_law := wi_29 (List.mem_of_getElem? (i := 16) rfl)
theorem wd_29_17 : Cond.instanceMethod yX6_allWaits ∈ wsL_law := wi_29 (List.mem_of_getElem? (i := 17) rfl)
theorem wd_29_18 : Cond.selects RX6 yX6_allWaits yX6_allWaits ∈ wsL_law := wi_29 (List.mem_of_getElem? (i := 18) rfl)
theorem wd_29_19 : Cond.code yX6_allWaits cX6_allWaits 3 (some .int) ∈ wsL_law := wi_29 (List.mem_of_getElem? (i := 19) rfl)
theorem wd_29_20 : Cond.methodLink RX6 151 yX6_tooDeep ∈ wsL_law := wi_29 (List.mem_of_getElem? (i := 20) rfl)
theorem wd_29_21 : Cond.instanceMethod yX6_tooDeep ∈ wsL_law := wi_29 (List.mem_of_getElem? (i := 21) rfl)
theorem wd_29_22 : Cond.selects RX6 yX6_tooDeep yX6_tooDeep ∈ wsL_law := wi_29 (List.mem_of_getElem? (i := 22) rfl)
theorem wd_29_23 : Cond.code yX6_tooDeep cX6_tooDeep 3 (some .int) ∈ wsL_law := wi_29 (List.mem_of_getElem? (i := 23) rfl)
theorem wd_30_0 : Cond.methodLink RL 88 yX5_setting ∈ wsL_law := wi_30 (List.mem_of_getElem? (i := 0) rfl)
theorem wd_30_1 : Cond.instanceMethod yX5_setting ∈ wsL_law := wi_30 (List.mem_of_getElem? (i := 1) rfl)
theorem wd_30_2 : Cond.selects RX5 yX5_setting yX5_setting ∈ wsL_law := wi_30 (List.mem_of_getElem? (i := 2) rfl)
theorem wd_30_3 : Cond.code yX5_setting cX5_setting 2 (some .int) ∈ wsL_law := wi_30 (List.mem_of_getElem? (i := 3) rfl)
theorem wd_30_4 : Cond.methodLink RL 91 yX6_setting ∈ wsL_law := wi_30 (List.mem_of_getElem? (i := 4) rfl)
theorem wd_30_5 : Cond.instanceMethod yX6_setting ∈ wsL_law := wi_30 (List.mem_of_getElem? (i := 5) rfl)
theorem wd_30_6 : Cond.selects RX6 yX6_setting yX6_setting ∈ wsL_law := wi_30 (List.mem_of_getElem? (i := 6) rfl)
theorem wd_30_7 : Cond.code yX6_setting cX6_setting 2 (some .int) ∈ wsL_law := wi_30 (List.mem_of_getElem? (i := 7) rfl)
theorem wd_30_8 : Cond.methodLink RL 92 yX5_ifRun ∈ wsL_law := wi_30 (List.mem_of_getElem? (i := 8) rfl)
theorem wd_30_9 : Cond.instanceMethod yX5_ifRun ∈ wsL_law := wi_30 (List.mem_of_getElem? (i := 9) rfl)
theorem wd_30_10 : Cond.selects RX5 yX5_ifRun yX5_ifRun ∈ wsL_law := wi_30 (List.mem_of_getElem? (i := 10) rfl)
theorem wd_30_11 : Cond.code yX5_ifRun cX5_ifRun 3 (some .int) ∈ wsL_law := wi_30 (List.mem_of_getElem? (i := 11) rfl)
theorem wd_30_12 : Cond.methodLink RX5 223 yX5_foreseen ∈ wsL_law := wi_30 (List.mem_of_getElem? (i := 12) rfl)
theorem wd_30_13 : Cond.instanceMethod yX5_foreseen ∈ wsL_law := wi_30 (List.mem_of_getElem? (i := 13) rfl)
theorem wd_30_14 : Cond.selects RX5 yX5_foreseen yX5_foreseen ∈ wsL_law := wi_30 (List.mem_of_getElem? (i := 14) rfl)
theorem wd_30_15 : Cond.code yX5_foreseen cX5_foreseen 2 (some .int) ∈ wsL_law := wi_30 (List.mem_of_getElem? (i := 15) rfl)
theorem wd_30_16 : Cond.fieldLink RX5 265 "PeatRailway$State" "peak" "I" ∈ wsL_law := wi_30 (List.mem_of_getElem? (i := 16) rfl)
theorem wd_30_17 : Cond.methodLink RL 95 yX6_ifRun ∈ wsL_law := wi_30 (List.mem_of_getElem? (i := 17) rfl)
theorem wd_30_18 : Cond.instanceMethod yX6_ifRun ∈ wsL_law := wi_30 (List.mem_of_getElem? (i := 18) rfl)
theorem wd_30_19 : Cond.selects RX6 yX6_ifRun yX6_ifRun ∈ wsL_law := wi_30 (List.mem_of_getElem? (i := 19) rfl)
theorem wd_30_20 : Cond.code yX6_ifRun cX6_ifRun 3 (some .int) ∈ wsL_law := wi_30 (List.mem_of_getElem? (i := 20) rfl)
theorem wd_30_21 : Cond.methodLink RX6 157 yX6_ahead ∈ wsL_law := wi_30 (List.mem_of_getElem? (i := 21) rfl)
theorem wd_30_22 : Cond.instanceMethod yX6_ahead ∈ wsL_law := wi_30 (List.mem_of_getElem? (i := 22) rfl)
theorem wd_30_23 : Cond.selects RX6 yX6_ahead yX6_ahead ∈ wsL_law := wi_30 (List.mem_of_getElem? (i := 23) rfl)
theorem wd_31_0 : Cond.code yX6_ahead cX6_ahead 7 (some .int) ∈ wsL_law := wi_31 (List.mem_of_getElem? (i := 0) rfl)
theorem wd_31_1 : Cond.methodLink RL 96 yX5_ticksFor ∈ wsL_law := wi_31 (List.mem_of_getElem? (i := 1) rfl)
theorem wd_31_2 : Cond.instanceMethod yX5_ticksFor ∈ wsL_law := wi_31 (List.mem_of_getElem? (i := 2) rfl)
theorem wd_31_3 : Cond.selects RX5 yX5_ticksFor yX5_ticksFor ∈ wsL_law := wi_31 (List.mem_of_getElem? (i := 3) rfl)
theorem wd_31_4 : Cond.code yX5_ticksFor cX5_ticksFor 3 (some .int) ∈ wsL_law := wi_31 (List.mem_of_getElem? (i := 4) rfl)
theorem wd_31_5 : Cond.methodLink RX5 226 yX3_tick ∈ wsL_law := wi_31 (List.mem_of_getElem? (i := 5) rfl)
theorem wd_31_6 : Cond.methodLink RL 99 yX6_ticksFor ∈ wsL_law := wi_31 (List.mem_of_getElem? (i := 6) rfl)
theorem wd_31_7 : Cond.instanceMethod yX6_ticksFor ∈ wsL_law := wi_31 (List.mem_of_getElem? (i := 7) rfl)
theorem wd_31_8 : Cond.selects RX6 yX6_ticksFor yX6_ticksFor ∈ wsL_law := wi_31 (List.mem_of_getElem? (i := 8) rfl)
theorem wd_31_9 : Cond.code yX6_ticksFor cX6_ticksFor 2 (some .int) ∈ wsL_law := wi_31 (List.mem_of_getElem? (i := 9) rfl)
theorem wd_31_10 : Cond.methodLink RX6 160 yX6_ticksUntil ∈ wsL_law := wi_31 (List.mem_of_getElem? (i := 10) rfl)
theorem wd_31_11 : Cond.instanceMethod yX6_ticksUntil ∈ wsL_law := wi_31 (List.mem_of_getElem? (i := 11) rfl)
theorem wd_31_12 : Cond.selects RX6 yX6_ticksUntil yX6_ticksUntil ∈ wsL_law := wi_31 (List.mem_of_getElem? (i := 12) rfl)
theorem wd_31_13 : Cond.code yX6_ticksUntil cX6_ticksUntil 5 (some .int) ∈ wsL_law := wi_31 (List.mem_of_getElem? (i := 13) rfl)
theorem wd_31_14 : Cond.methodLink RL 100 yX5_bestRule ∈ wsL_law := wi_31 (List.mem_of_getElem? (i := 14) rfl)
theorem wd_31_15 : Cond.instanceMethod yX5_bestRule ∈ wsL_law := wi_31 (List.mem_of_getElem? (i := 15) rfl)
theorem wd_31_16 : Cond.selects RX5 yX5_bestRule yX5_bestRule ∈ wsL_law := wi_31 (List.mem_of_getElem? (i := 16) rfl)
theorem wd_31_17 : Cond.code yX5_bestRule cX5_bestRule 6 (some .int) ∈ wsL_law := wi_31 (List.mem_of_getElem? (i := 17) rfl)
theorem wd_31_18 : Cond.methodLink RL 103 yX6_bestRule ∈ wsL_law := wi_31 (List.mem_of_getElem? (i := 18) rfl)
theorem wd_31_19 : Cond.instanceMethod yX6_bestRule ∈ wsL_law := wi_31 (List.mem_of_getElem? (i := 19) rfl)
theorem wd_31_20 : Cond.selects RX6 yX6_bestRule yX6_bestRule ∈ wsL_law := wi_31 (List.mem_of_getElem? (i := 20) rfl)
theorem wd_31_21 : Cond.code yX6_bestRule cX6_bestRule 2 (some .int) ∈ wsL_law := wi_31 (List.mem_of_getElem? (i := 21) rfl)
theorem wd_31_22 : Cond.methodLink RX6 163 yX6_best ∈ wsL_law := wi_31 (List.mem_of_getElem? (i := 22) rfl)
theorem wd_31_23 : Cond.instanceMethod yX6_best ∈ wsL_law := wi_31 (List.mem_of_getElem? (i := 23) rfl)
theorem wd_32_0 : Cond.selects RX6 yX6_best yX6_best ∈ wsL_law := wi_32 (List.mem_of_getElem? (i := 0) rfl)
theorem wd_32_1 : Cond.code yX6_best cX6_best 10 (some .int) ∈ wsL_law := wi_32 (List.mem_of_getElem? (i := 1) rfl)
theorem wd_32_2 : Cond.methodLink RL 104 yX5_bestLoad ∈ wsL_law := wi_32 (List.mem_of_getElem? (i := 2) rfl)
theorem wd_32_3 : Cond.instanceMethod yX5_bestLoad ∈ wsL_law := wi_32 (List.mem_of_getElem? (i := 3) rfl)
theorem wd_32_4 : Cond.selects RX5 yX5_bestLoad yX5_bestLoad ∈ wsL_law := wi_32 (List.mem_of_getElem? (i := 4) rfl)
theorem wd_32_5 : Cond.code yX5_bestLoad cX5_bestLoad 8 (some .int) ∈ wsL_law := wi_32 (List.mem_of_getElem? (i := 5) rfl)
theorem wd_32_6 : Cond.methodLink RL 107 yX6_bestLoad ∈ wsL_law := wi_32 (List.mem_of_getElem? (i := 6) rfl)
theorem wd_32_7 : Cond.instanceMethod yX6_bestLoad ∈ wsL_law := wi_32 (List.mem_of_getElem? (i := 7) rfl)
theorem wd_32_8 : Cond.selects RX6 yX6_bestLoad yX6_bestLoad ∈ wsL_law := wi_32 (List.mem_of_getElem? (i := 8) rfl)
theorem wd_32_9 : Cond.code yX6_bestLoad cX6_bestLoad 3 (some .int) ∈ wsL_law := wi_32 (List.mem_of_getElem? (i := 9) rfl)
theorem wd_32_10 : Cond.methodLink RL 108 yX5_meanSinking ∈ wsL_law := wi_32 (List.mem_of_getElem? (i := 10) rfl)
theorem wd_32_11 : Cond.instanceMethod yX5_meanSinking ∈ wsL_law := wi_32 (List.mem_of_getElem? (i := 11) rfl)
theorem wd_32_12 : Cond.selects RX5 yX5_meanSinking yX5_meanSinking ∈ wsL_law := wi_32 (List.mem_of_getElem? (i := 12) rfl)
theorem wd_32_13 : Cond.code yX5_meanSinking cX5_meanSinking 1 (some .double) ∈ wsL_law := wi_32 (List.mem_of_getElem? (i := 13) rfl)
theorem wd_32_14 : Cond.methodLink RX5 229 yX3_sumOfSinkings ∈ wsL_law := wi_32 (List.mem_of_getElem? (i := 14) rfl)
theorem wd_32_15 : Cond.instanceMethod yX3_sumOfSinkings ∈ wsL_law := wi_32 (List.mem_of_getElem? (i := 15) rfl)
theorem wd_32_16 : Cond.selects RX3 yX3_sumOfSinkings yX3_sumOfSinkings ∈ wsL_law := wi_32 (List.mem_of_getElem? (i := 16) rfl)
theorem wd_32_17 : Cond.code yX3_sumOfSinkings cX3_sumOfSinkings 4 (some .int) ∈ wsL_law := wi_32 (List.mem_of_getElem? (i := 17) rfl)
theorem wd_32_18 : Cond.methodLink RL 112 yX6_meanSinking ∈ wsL_law := wi_32 (List.mem_of_getElem? (i := 18) rfl)
theorem wd_32_19 : Cond.instanceMethod yX6_meanSinking ∈ wsL_law := wi_32 (List.mem_of_getElem? (i := 19) rfl)
theorem wd_32_20 : Cond.selects RX6 yX6_meanSinking yX6_meanSinking ∈ wsL_law := wi_32 (List.mem_of_getElem? (i := 20) rfl)
theorem wd_32_21 : Cond.code yX6_meanSinking cX6_meanSinking 3 (some .double) ∈ wsL_law := wi_32 (List.mem_of_getElem? (i := 21) rfl)
theorem wd_32_22 : Cond.methodLink RL 113 yX5_digest ∈ wsL_law := wi_32 (List.mem_of_getElem? (i := 22) rfl)
theorem wd_32_23 : Cond.instanceMethod yX5_digest ∈ wsL_law := wi_32 (List.mem_of_getElem? (i := 23) rfl)
theorem wd_33_0 : Cond.selects RX5 yX5_digest yX5_digest ∈ wsL_law := wi_33 (List.mem_of_getElem? (i := 0) rfl)
theorem wd_33_1 : Cond.code yX5_digest cX5_digest 4 (some .long) ∈ wsL_law := wi_33 (List.mem_of_getElem? (i := 1) rfl)
theorem wd_33_2 : Cond.constantLong RX5 232 (2069) ∈ wsL_law := wi_33 (List.mem_of_getElem? (i := 2) rfl)
theorem wd_33_3 : Cond.methodLink RX5 234 yX5_count ∈ wsL_law := wi_33 (List.mem_of_getElem? (i := 3) rfl)
theorem wd_33_4 : Cond.methodLink RX5 237 yX5_mixed ∈ wsL_law := wi_33 (List.mem_of_getElem? (i := 4) rfl)
theorem wd_33_5 : Cond.static yX5_mixed ∈ wsL_law := wi_33 (List.mem_of_getElem? (i := 5) rfl)
theorem wd_33_6 : Cond.code yX5_mixed cX5_mixed 4 (some .long) ∈ wsL_law := wi_33 (List.mem_of_getElem? (i := 6) rfl)
theorem wd_33_7 : Cond.constantLong RX5 268 (31) ∈ wsL_law := wi_33 (List.mem_of_getElem? (i := 7) rfl)
theorem wd_33_8 : Cond.methodLink RX5 241 yX5_setting ∈ wsL_law := wi_33 (List.mem_of_getElem? (i := 8) rfl)
theorem wd_33_9 : Cond.methodLink RX5 244 yX5_account ∈ wsL_law := wi_33 (List.mem_of_getElem? (i := 9) rfl)
theorem wd_33_10 : Cond.methodLink RX5 247 yX5_withSegments ∈ wsL_law := wi_33 (List.mem_of_getElem? (i := 10) rfl)
theorem wd_33_11 : Cond.instanceMethod yX5_withSegments ∈ wsL_law := wi_33 (List.mem_of_getElem? (i := 11) rfl)
theorem wd_33_12 : Cond.selects RX5 yX5_withSegments yX5_withSegments ∈ wsL_law := wi_33 (List.mem_of_getElem? (i := 12) rfl)
theorem wd_33_13 : Cond.code yX5_withSegments cX5_withSegments 7 (some .long) ∈ wsL_law := wi_33 (List.mem_of_getElem? (i := 13) rfl)
theorem wd_33_14 : Cond.methodLink RX5 270 yX5_segment ∈ wsL_law := wi_33 (List.mem_of_getElem? (i := 14) rfl)
theorem wd_33_15 : Cond.methodLink RX5 251 yX5_withTrains ∈ wsL_law := wi_33 (List.mem_of_getElem? (i := 15) rfl)
theorem wd_33_16 : Cond.instanceMethod yX5_withTrains ∈ wsL_law := wi_33 (List.mem_of_getElem? (i := 16) rfl)
theorem wd_33_17 : Cond.selects RX5 yX5_withTrains yX5_withTrains ∈ wsL_law := wi_33 (List.mem_of_getElem? (i := 17) rfl)
theorem wd_33_18 : Cond.code yX5_withTrains cX5_withTrains 7 (some .long) ∈ wsL_law := wi_33 (List.mem_of_getElem? (i := 18) rfl)
theorem wd_33_19 : Cond.methodLink RX5 273 yX5_train ∈ wsL_law := wi_33 (List.mem_of_getElem? (i := 19) rfl)
theorem wd_33_20 : Cond.methodLink RX5 276 yX5_why ∈ wsL_law := wi_33 (List.mem_of_getElem? (i := 20) rfl)
theorem wd_33_21 : Cond.methodLink RX5 254 yX5_meanSinking ∈ wsL_law := wi_33 (List.mem_of_getElem? (i := 21) rfl)
theorem wd_33_22 : Cond.methodLink RX5 258 yX5_bitsOf ∈ wsL_law := wi_33 (List.mem_of_getElem? (i := 22) rfl)
theorem wd_33_23 : Cond.static yX5_bitsOf ∈ wsL_law := wi_33 (List.mem_of_getElem? (i := 23) rfl)
theorem wd_34_0 : Cond.code yX5_bitsOf cX5_bitsOf 7 (some .long) ∈ wsL_law := wi_34 (List.mem_of_getElem? (i := 0) rfl)
theorem wd_34_1 : Cond.constantLong RX5 279 (1023) ∈ wsL_law := wi_34 (List.mem_of_getElem? (i := 1) rfl)
theorem wd_34_2 : Cond.constantDouble RX5 281 (4611686018427387904) ∈ wsL_law := wi_34 (List.mem_of_getElem? (i := 2) rfl)
theorem wd_34_3 : Cond.constantDouble RX5 283 (4841369599423283200) ∈ wsL_law := wi_34 (List.mem_of_getElem? (i := 3) rfl)
theorem wd_34_4 : Cond.methodLink RX5 262 yX1_codeAt ∈ wsL_law := wi_34 (List.mem_of_getElem? (i := 4) rfl)
theorem wd_34_5 : Cond.methodLink RL 117 yX6_digest ∈ wsL_law := wi_34 (List.mem_of_getElem? (i := 5) rfl)
theorem wd_34_6 : Cond.instanceMethod yX6_digest ∈ wsL_law := wi_34 (List.mem_of_getElem? (i := 6) rfl)
theorem wd_34_7 : Cond.selects RX6 yX6_digest yX6_digest ∈ wsL_law := wi_34 (List.mem_of_getElem? (i := 7) rfl)
theorem wd_34_8 : Cond.code yX6_digest cX6_digest 3 (some .long) ∈ wsL_law := wi_34 (List.mem_of_getElem? (i := 8) rfl)
theorem wd_34_9 : Cond.constantLong RX6 173 (2069) ∈ wsL_law := wi_34 (List.mem_of_getElem? (i := 9) rfl)
theorem wd_34_10 : Cond.fieldLink RX6 169 "PeatRailwayModel" "hash" "J" ∈ wsL_law := wi_34 (List.mem_of_getElem? (i := 10) rfl)
theorem wd_34_11 : Cond.methodLink RX6 175 yX6_mix ∈ wsL_law := wi_34 (List.mem_of_getElem? (i := 11) rfl)
theorem wd_34_12 : Cond.instanceMethod yX6_mix ∈ wsL_law := wi_34 (List.mem_of_getElem? (i := 12) rfl)
theorem wd_34_13 : Cond.selects RX6 yX6_mix yX6_mix ∈ wsL_law := wi_34 (List.mem_of_getElem? (i := 13) rfl)
theorem wd_34_14 : Cond.code yX6_mix cX6_mix 3 none ∈ wsL_law := wi_34 (List.mem_of_getElem? (i := 14) rfl)
theorem wd_34_15 : Cond.constantLong RX6 167 (31) ∈ wsL_law := wi_34 (List.mem_of_getElem? (i := 15) rfl)
theorem wd_34_16 : Cond.methodLink RX6 179 yX6_meanSinking ∈ wsL_law := wi_34 (List.mem_of_getElem? (i := 16) rfl)
theorem wd_34_17 : Cond.methodLink RX6 183 yJxe99ae_doubleToLongBits_ccdee ∈ wsL_law := wi_34 (List.mem_of_getElem? (i := 17) rfl)
theorem wd_34_18 : Cond.static yJxe99ae_doubleToLongBits_ccdee ∈ wsL_law := wi_34 (List.mem_of_getElem? (i := 18) rfl)
theorem wd_34_19 : Cond.initialized RJxe99ae ∈ wsL_law := wi_34 (List.mem_of_getElem? (i := 19) rfl)
theorem wd_34_20 : Cond.code yJxe99ae_doubleToLongBits_ccdee cJxe99ae_doubleToLongBits_ccdee 2 (some .long) ∈ wsL_law := wi_34 (List.mem_of_getElem? (i := 20) rfl)
theorem wd_34_21 : Cond.methodLink RJxe99ae 134 ⟨"java/lang/Double", "doubleToRawLongBits", "(D)J"⟩ ∈ wsL_law := wi_34 (List.mem_of_getElem? (i := 21) rfl)
theorem wd_34_22 : Cond.native ⟨"java/lang/Double", "doubleToRawLongBits", "(D)J"⟩ ∈ wsL_law := wi_34 (List.mem_of_getElem? (i := 22) rfl)
theorem wd_34_23 : Cond.static ⟨"java/lang/Double", "doubleToRawLongBits", "(D)J"⟩ ∈ wsL_law := wi_34 (List.mem_of_getElem? (i := 23) rfl)
theorem wd_35_0 : Cond.initialized "java/lang/Double" ∈ wsL_law := wi_35 (List.mem_of_getElem? (i := 0) rfl)
theorem wd_35_1 : Cond.constantLong RJxe99ae 137 (9221120237041090560) ∈ wsL_law := wi_35 (List.mem_of_getElem? (i := 1) rfl)
theorem wd_35_2 : Cond.methodLink RJxe99ae 122 yJxe99ae_isNaN_b9ae7 ∈ wsL_law := wi_35 (List.mem_of_getElem? (i := 2) rfl)
theorem wd_35_3 : Cond.static yJxe99ae_isNaN_b9ae7 ∈ wsL_law := wi_35 (List.mem_of_getElem? (i := 3) rfl)
theorem wd_35_4 : Cond.code yJxe99ae_isNaN_b9ae7 cJxe99ae_isNaN_b9ae7 2 (some .boolean) ∈ wsL_law := wi_35 (List.mem_of_getElem? (i := 4) rfl)
set_option maxRecDepth 100000 in
theorem wd_good : ∀ w ∈ wsL_law, goodWord w = true := List.all_eq_true.mp (by decide +kernel)
end
section
/-! THE WORLD: every cell of the class and of the reference has a number; what all of them hold is one function G of the number and the place. -/
abbrev mM : Type := Nat → Nat → Int32
def up2 (G : mM) (c k : Nat) (v : Int32) : mM := fun c' k' => if c' = c ∧ k' = k then v else G c' k'
theorem up2_same (G : mM) (c k : Nat) (v : Int32) : up2 G c k v c k = v := by simp [up2]
theorem up2_ne {G : mM} {c k c' k' : Nat} {v : Int32} (h : c' ≠ c ∨ k' ≠ k) : up2 G c k v c' k' = G c' k' := by
  unfold up2
  rw [if_neg]
  rintro ⟨h1, h2⟩
  rcases h with h | h
  · exact h h1
  · exact h h2
theorem up2_row (G : mM) (c k : Nat) (v : Int32) : up2 G c k v c = upd (G c) k v := by
  funext j
  unfold up2 upd
  by_cases h : j = k <;> simp [h]
theorem up2_other {G : mM} {c k c' : Nat} {v : Int32} (h : c' ≠ c) : up2 G c k v c' = G c' := by
  funext j
  exact up2_ne (Or.inl h)
def mLong (x y : Int32) : Int64 := Int64.ofBitVec (x.toBitVec ++ y.toBitVec)
/-- array classes, addresses, the cells that are there -/
abbrev mE : Type := va_G × (Nat → ClassId) × (Nat → Nat) × List Nat
abbrev mY (E : mE) : Nat → ClassId := E.2.1
abbrev mad (E : mE) : Nat → Nat := E.2.2.1
abbrev mI (E : mE) : List Nat := E.2.2.2
abbrev mtys (E : mE) : List (ClassId × FieldType) := [(mY E 0, .char), (mY E 1, .int), (mY E 2, .object "PeatRailway$Segment"), (mY E 3, .object "PeatRailway$State"), (mY E 4, .object "PeatRailway$Train")]
def f_Seg (G : mM) (c : Nat) : List Value := [.int (G c 0), .int (G c 1), .int (G c 2), .int (G c 3), .int (G c 4), .int (G c 5)]
def f_Tr (G : mM) (c : Nat) : List Value := [.int (G c 0), .int (G c 1), .int (G c 2), .int (G c 3), .int (G c 4), .int (G c 5), .int (G c 6), .int (G c 7), .int (G c 8), .int (G c 9)]
def f_St (ad : Nat → Nat) (G : mM) (c : Nat) : List Value := [.ref (ad (c + 1)), .ref (ad (c + 2)), .ref (ad (c + 3)), .int (G c 3), .int (G c 4), .int (G c 5), .int (G c 6), .int (G c 7), .int (G c 8), .int (G c 9), .int (G c 10)]
def f_Ra (ad : Nat → Nat) (G : mM) (c : Nat) : List Value := [.ref (ad 241), .ref (ad 0), .ref (ad 20), .ref (ad 243), .ref (ad 245), .int (G c 5)]
def f_Tx (ad : Nat → Nat) (G : mM) (c : Nat) : List Value := [.ref (ad 242), .int (G c 1)]
def f_Hi (ad : Nat → Nat) (G : mM) (c : Nat) : List Value := [.ref (ad 244), .int (G c 1)]
def f_Mo (ad : Nat → Nat) (G : mM) (c : Nat) : List Value := [.ref (ad 247), .ref (ad 248), .int (G c 2), .ref (ad 249), .int (G c 4), .ref (ad 250), .int (G c 6), .ref (ad 251), .int (G c 8), .int (G c 9), .long (mLong (G c 10) (G c 11))]
def mcell (E : mE) (G : mM) (c : Nat) : va_E :=
  if c < 240 then
    if c % 20 = 0 then .inr (3, f_St (mad E) G c)
    else if c % 20 = 1 then .inl (mY E 2, 12, .inr (.inr (.inr (.inr (fun q => some (mad E (c + 3 + q)))))))
    else if c % 20 = 2 then .inl (mY E 4, 4, .inr (.inr (.inr (.inr (fun q => some (mad E (c + 14 + q)))))))
    else if c % 20 = 3 then .inl (mY E 1, 3, .inl (G c))
    else if c % 20 < 16 then .inr (2, f_Seg G c)
    else .inr (4, f_Tr G c)
  else if c = 240 then .inr (5, f_Ra (mad E) G c)
  else if c = 241 then .inr (1, f_Tx (mad E) G c)
  else if c = 242 then .inl (mY E 0, 40, .inl (G c))
  else if c = 243 then .inr (0, f_Hi (mad E) G c)
  else if c = 244 then .inl (mY E 3, 8, .inr (.inr (.inr (.inr (fun q => some (mad E (G c q).toNatClampNeg))))))
  else if c = 245 then .inl (mY E 3, 2, .inr (.inr (.inr (.inr (fun q => some (mad E (200 + 20 * q)))))))
  else if c = 246 then .inr (6, f_Mo (mad E) G c)
  else if c = 247 then .inl (mY E 1, 82, .inl (G c))
  else if c = 248 then .inl (mY E 1, 82, .inl (G c))
  else if c = 249 then .inl (mY E 1, 656, .inl (G c))
  else if c = 250 then .inl (mY E 1, 164, .inl (G c))
  else .inl (mY E 1, 40, .inl (G c))
theorem mcell_cong {E : mE} {G G' : mM} {c : Nat} (h : G c = G' c) : mcell E G c = mcell E G' c := by
  unfold mcell f_St f_Seg f_Tr f_Ra f_Tx f_Hi f_Mo
  rw [h]
/-- the kinds of the cells' numbers -/
def mSt (E : mE) (c : Nat) : Prop := c < 240 ∧ c % 20 = 0 ∧ ∀ r, r < 20 → c + r ∈ mI E
def mSg (E : mE) (c : Nat) : Prop := c < 240 ∧ 4 ≤ c % 20 ∧ c % 20 < 16 ∧ c ∈ mI E
def mTr (E : mE) (c : Nat) : Prop := c < 240 ∧ 16 ≤ c % 20 ∧ c ∈ mI E
def mTx (E : mE) (c : Nat) : Prop := c = 241 ∧ 241 ∈ mI E ∧ 242 ∈ mI E
def mAl (E : mE) (c : Nat) : Prop := c = 240 ∧ ∀ r, r < 246 → r ∈ mI E
def mHi (E : mE) (c : Nat) : Prop := c = 243 ∧ ∀ r, r < 246 → r ∈ mI E
def mMo (E : mE) (c : Nat) : Prop := c = 246 ∧ ∀ r, r < 6 → 246 + r ∈ mI E
theorem mSt.i {E : mE} {c : Nat} (h : mSt E c) : c ∈ mI E := h.2.2 0 (by decide)
theorem mSg.i {E : mE} {c : Nat} (h : mSg E c) : c ∈ mI E := h.2.2.2
theorem mTr.i {E : mE} {c : Nat} (h : mTr E c) : c ∈ mI E := h.2.2
theorem mTx.i {E : mE} {c : Nat} (h : mTx E c) : c ∈ mI E := by rw [h.1]; exact h.2.1
theorem mAl.i {E : mE} {c : Nat} (h : mAl E c) : c ∈ mI E := by rw [h.1]; exact h.2 240 (by decide)
theorem mHi.i {E : mE} {c : Nat} (h : mHi E c) : c ∈ mI E := by rw [h.1]; exact h.2 243 (by decide)
theorem mMo.i {E : mE} {c : Nat} (h : mMo E c) : c ∈ mI E := by rw [h.1]; exact h.2 0 (by decide)
theorem mSt.c {E : mE} {c : Nat} (h : mSt E c) (G : mM) : mcell E G c = .inr (3, f_St (mad E) G c) := by
  unfold mcell; rw [if_pos h.1, if_pos h.2.1]
theorem mSg.c {E : mE} {c : Nat} (h : mSg E c) (G : mM) : mcell E G c = .inr (2, f_Seg G c) := by
  obtain ⟨h1, h2, h3, -⟩ := h
  unfold mcell; rw [if_pos h1, if_neg (by omega), if_neg (by omega), if_neg (by omega), if_neg (by omega), if_pos h3]
theorem mTr.c {E : mE} {c : Nat} (h : mTr E c) (G : mM) : mcell E G c = .inr (4, f_Tr G c) := by
  obtain ⟨h1, h2, -⟩ := h
  unfold mcell; rw [if_pos h1, if_neg (by omega), if_neg (by omega), if_neg (by omega), if_neg (by omega), if_neg (by omega)]
theorem mTx.c {E : mE} {c : Nat} (h : mTx E c) (G : mM) : mcell E G c = .inr (1, f_Tx (mad E) G c) := by
  obtain ⟨rfl, -⟩ := h; rfl
theorem mAl.c {E : mE} {c : Nat} (h : mAl E c) (G : mM) : mcell E G c = .inr (5, f_Ra (mad E) G c) := by
  obtain ⟨rfl, -⟩ := h; rfl
theorem mHi.c {E : mE} {c : Nat} (h : mHi E c) (G : mM) : mcell E G c = .inr (0, f_Hi (mad E) G c) := by
  obtain ⟨rfl, -⟩ := h; rfl
theorem mMo.c {E : mE} {c : Nat} (h : mMo E c) (G : mM) : mcell E G c = .inr (6, f_Mo (mad E) G c) := by
  obtain ⟨rfl, -⟩ := h; rfl
/-- arrays: the number of the row's cell, what it holds -/
def mAi (E : mE) (a t n : Nat) : Prop := a ∈ mI E ∧ ∀ G : mM, mcell E G a = .inl (mY E t, n, .inl (G a))
def mAr (E : mE) (a t n : Nat) (f : mM → Nat → Nat) : Prop := a ∈ mI E ∧ ∀ G : mM, mcell E G a = .inl (mY E t, n, .inr (.inr (.inr (.inr (fun q => some (mad E (f G q)))))))
theorem mSt.segs {E : mE} {c : Nat} (h : mSt E c) : mAr E (c + 1) 2 12 (fun _ q => c + 4 + q) := by
  obtain ⟨h1, h2, h3⟩ := h
  refine ⟨h3 1 (by decide), fun G => ?_⟩
  unfold mcell
  rw [if_pos (by omega), if_neg (by omega), if_pos (by omega)]
theorem mSt.trs {E : mE} {c : Nat} (h : mSt E c) : mAr E (c + 2) 4 4 (fun _ q => c + 16 + q) := by
  obtain ⟨h1, h2, h3⟩ := h
  refine ⟨h3 2 (by decide), fun G => ?_⟩
  unfold mcell
  rw [if_pos (by omega), if_neg (by omega), if_neg (by omega), if_pos (by omega)]
theorem mSt.sets {E : mE} {c : Nat} (h : mSt E c) : mAi E (c + 3) 1 3 := by
  obtain ⟨h1, h2, h3⟩ := h
  refine ⟨h3 3 (by decide), fun G => ?_⟩
  unfold mcell
  rw [if_pos (by omega), if_neg (by omega), if_neg (by omega), if_neg (by omega), if_pos (by omega)]
theorem mTx.signs {E : mE} {c : Nat} (h : mTx E c) : mAi E 242 0 40 := ⟨h.2.2, fun _ => rfl⟩
theorem mHi.states {E : mE} {c : Nat} (h : mHi E c) : mAr E 244 3 8 (fun G q => (G 244 q).toNatClampNeg) := ⟨h.2 244 (by decide), fun _ => rfl⟩
theorem mAl.images {E : mE} {c : Nat} (h : mAl E c) : mAr E 245 3 2 (fun _ q => 200 + 20 * q) := ⟨h.2 245 (by decide), fun _ => rfl⟩
theorem mMo.z {E : mE} {c : Nat} (h : mMo E c) : mAi E 247 1 82 := ⟨h.2 1 (by decide), fun _ => rfl⟩
theorem mMo.aside {E : mE} {c : Nat} (h : mMo E c) : mAi E 248 1 82 := ⟨h.2 2 (by decide), fun _ => rfl⟩
theorem mMo.history {E : mE} {c : Nat} (h : mMo E c) : mAi E 249 1 656 := ⟨h.2 3 (by decide), fun _ => rfl⟩
theorem mMo.images {E : mE} {c : Nat} (h : mMo E c) : mAi E 250 1 164 := ⟨h.2 4 (by decide), fun _ => rfl⟩
theorem mMo.text {E : mE} {c : Nat} (h : mMo E c) : mAi E 251 1 40 := ⟨h.2 5 (by decide), fun _ => rfl⟩
theorem mSt.seg {E : mE} {c : Nat} (h : mSt E c) {i : Int32} (hi : vp_in i 12) : mSg E (c + 4 + i.toNatClampNeg) := by
  obtain ⟨h1, h2, h3⟩ := h
  have hn : i.toNatClampNeg < 12 := Nat.not_le.mp fun q => hi (Or.inr q)
  exact ⟨by omega, by omega, by omega, by rw [Nat.add_assoc]; exact h3 _ (by omega)⟩
theorem mSt.tr {E : mE} {c : Nat} (h : mSt E c) {i : Int32} (hi : vp_in i 4) : mTr E (c + 16 + i.toNatClampNeg) := by
  obtain ⟨h1, h2, h3⟩ := h
  have hn : i.toNatClampNeg < 4 := Nat.not_le.mp fun q => hi (Or.inr q)
  exact ⟨by omega, by omega, by rw [Nat.add_assoc]; exact h3 _ (by omega)⟩
def mStP (c : Nat) : Prop := c < 240 ∧ c % 20 = 0
theorem mStP.k {E : mE} {c : Nat} (h : mStP c) (hI : ∀ r, r < 246 → r ∈ mI E) : mSt E c := ⟨h.1, h.2, fun r hr => hI _ (by have h1 := h.1; have h2 := h.2; omega)⟩
theorem mAl.now {E : mE} {c : Nat} (h : mAl E c) : mSt E 0 := ⟨by decide, by decide, fun r hr => h.2 _ (by omega)⟩
theorem mAl.trial {E : mE} {c : Nat} (h : mAl E c) : mSt E 20 := ⟨by decide, by decide, fun r hr => h.2 _ (by omega)⟩
theorem mAl.tx {E : mE} {c : Nat} (h : mAl E c) : mTx E 241 := ⟨rfl, h.2 _ (by decide), h.2 _ (by decide)⟩
theorem mAl.hi {E : mE} {c : Nat} (h : mAl E c) : mHi E 243 := ⟨rfl, h.2⟩
theorem mAl.img {E : mE} {c : Nat} (h : mAl E c) {i : Int32} (hi : vp_in i 2) : mSt E (200 + 20 * i.toNatClampNeg) := by
  have hn : i.toNatClampNeg < 2 := Nat.not_le.mp fun q => hi (Or.inr q)
  exact ⟨by omega, by omega, fun r hr => h.2 _ (by omega)⟩
/-- the world of G -/
def mws (E : mE) (G : mM) : va_W := (mI E).map (fun c => (mad E c, mcell E G c))
def mP (E : mE) (G : mM) (H : Heap) : Prop := va_P E.1 vwCl (mws E G) H
def mK (E : mE) (U : State) : Prop := va_K E.1 vwCl (mtys E) U
def mJ (E : mE) : Prop := ((mI E).map (mad E)).Nodup
def mA (E : mE) : Nat → Prop := fun q => ∃ c, c ∈ mI E ∧ mad E c = q
def mZ (E : mE) (H0 H : Heap) (locs : List Loc) (G : mM) : Prop := mP E G H ∧ va_S (mA E) H0 H locs
/-- the three static rows of the class -/
def mStat (i j : Nat) : Int32 := (([[300, 5, 0], [10, 1, 0], [900, 50, 2]] : List (List Int32)).getD i []).getD j 0
def mStatN (i : Nat) : String := (["FIRST_VALUE", "LEAST_VALUE", "MOST_VALUE"] : List String).getD i ""
def mS (E : mE) (U : State) (H : Heap) : Prop := ∀ i, i < 3 → ∃ t : Nat, va_Z "PeatRailway" (mStatN i) "[I" (.ref t) (mA E) U H ∧ va_T .int t 3 (fun j => .int (mStat i j)) (mA E) U H
theorem mS.moved {E : mE} {u U : State} {H : Heap} (hvm : u.vm.Alike U.vm) (h : mS E u H) : mS E U H := fun i hi => by
  obtain ⟨t, h1, h2⟩ := h i hi
  exact ⟨t, va_Z.moved hvm h1, va_T.moved hvm h2⟩
theorem mS.kept {E : mE} {U : State} {H H1 : Heap} (h : mS E U H) (hq : ∀ a : Nat, a < H.size → ¬ mA E a → H1[a]? = H[a]?) : mS E U H1 := fun i hi => by
  obtain ⟨t, h1, h2⟩ := h i hi
  exact ⟨t, va_Z.kept h1 hq, va_T.kept h2 hq⟩
theorem mws_at {E : mE} {G : mM} {q c : Nat} (h : (mI E)[q]? = some c) : (mws E G)[q]? = some (mad E c, mcell E G c) := by
  unfold mws
  rw [List.getElem?_map, h]
  rfl
theorem mws_of {E : mE} {G : mM} {q : Nat} {x : Nat × va_E} (h : (mws E G)[q]? = some x) : ∃ c, (mI E)[q]? = some c ∧ x = (mad E c, mcell E G c) := by
  unfold mws at h
  rw [List.getElem?_map] at h
  cases hc : (mI E)[q]? with
  | none => rw [hc] at h; cases h
  | some c => rw [hc] at h; exact ⟨c, rfl, (Option.some.inj h).symm⟩
theorem mJ.inj {E : mE} (hJ : mJ E) {i j a b : Nat} (hi : (mI E)[i]? = some a) (hj : (mI E)[j]? = some b) (h : mad E a = mad E b) : i = j := by
  have h1 : ((mI E).map (mad E))[i]? = some (mad E a) := by rw [List.getElem?_map, hi]; rfl
  have h2 : ((mI E).map (mad E))[j]? = some (mad E a) := by rw [List.getElem?_map, hj, h]; rfl
  have hl := (List.getElem?_eq_some_iff.mp h1).1
  exact (List.getElem?_inj hl hJ).mp (h1.trans h2.symm)
theorem mD_of {E : mE} (hJ : mJ E) (G : mM) : va_D (mA E) (mws E G) := by
  refine ⟨fun i j p q hi hj h => ?_, fun k q hk => ?_⟩
  · obtain ⟨a, ha, rfl⟩ := mws_of hi
    obtain ⟨b, hb, rfl⟩ := mws_of hj
    exact hJ.inj ha hb h
  · obtain ⟨a, ha, rfl⟩ := mws_of hk
    exact ⟨a, List.mem_of_getElem? ha, rfl⟩
theorem mws_set {E : mE} (hJ : mJ E) {G G' : mM} {q a : Nat} (h : (mI E)[q]? = some a) (ho : ∀ c, c ≠ a → G' c = G c) : (mws E G).set q (mad E a, mcell E G' a) = mws E G' := by
  apply List.ext_getElem?
  intro k
  have hl : q < (mws E G).length := (List.getElem?_eq_some_iff.mp (mws_at (G := G) h)).1
  by_cases hk : k = q
  · subst hk
    rw [List.getElem?_set_self hl, mws_at h]
  · rw [List.getElem?_set_ne (Ne.symm hk)]
    unfold mws
    rw [List.getElem?_map, List.getElem?_map]
    cases hc : (mI E)[k]? with
    | none => rfl
    | some c =>
      have hca : c ≠ a := fun e => hk (hJ.inj hc h (by rw [e]))
      show some (mad E c, mcell E G c) = some (mad E c, mcell E G' c)
      rw [mcell_cong (ho c hca).symm]
theorem mws_put {E : mE} (hJ : mJ E) {G : mM} {q a k : Nat} {v : Int32} {e : va_E} (h : (mI E)[q]? = some a) (he : mcell E (up2 G a k v) a = e) : (mws E G).set q (mad E a, e) = mws E (up2 G a k v) := by
  rw [← he]
  exact mws_set hJ h (fun c hc => up2_other hc)
end
section
/-! ROWS over the world of numbered cells -/
def mX (p : Program) (s : State) (m : MethodId) (args : Array Value) (c : Code) (cc : ByteArray) (nL : Nat) (own : String) (E : mE) : Prop := p.tables.exec = Jvm.exec ∧ c.code = cc ∧ c.maxLocals = nL ∧ s.vm.findClass own = some m.cls ∧ (∀ w ∈ wsL_law, w.before args s = true) ∧ mK E s ∧ mJ E ∧ mS E s s.heap
def mWs (y : MethodName) (cc : ByteArray) (n : Nat) (ret : Option FieldType) : List Cond := Cond.code y cc n ret :: wsL_law
def mPc (E : mE) (av : List Value) (G : mM) : Array Value → State → Prop := fun v U => v = av.toArray ∧ mP E G U.heap ∧ mK E U ∧ mS E U U.heap
def mQ (E : mE) (v : Option Value) (G : mM) : Array Value → State → Outcome → State → Prop := fun _ st oc t => oc = .returned v ∧ mP E G t.heap ∧ va_F (mA E) st t
/-- a contract of a method that makes nothing -/
def mMet (l : Launch) (E : mE) (y : MethodName) (cc : ByteArray) (n : Nat) (ret : Option FieldType) (fr lo : Nat) (av : List Value) (G : mM) (v : Option Value) (G' : mM) : Prop :=
  Met l y (mWs y cc n ret) ({ frames := fr, cells := 0, slots := 0, locals := lo }) (mPc E av G) (mQ E v G') 0 0 (mA E)
theorem mx_bind {α β : Type} {o : Option α} {f : α → Option β} {t : β} (h : o.bind f = some t) : ∃ q, o = some q ∧ f q = some t := by
  cases o with
  | none => cases h
  | some q => exact ⟨q, rfl, h⟩
def mNm {α β : Type} (a : α) (f : α → Option β) : Option β := f a
theorem mx_nm {α β : Type} {a : α} {f : α → Option β} {t : β} (h : mNm a f = some t) : ∃ v, a = v ∧ f v = some t := ⟨a, rfl, h⟩
def mCk {α : Type} (c : Prop) [Decidable c] (a : Option α) : Option α := if c then a else none
abbrev mIn (i : Int32) (n : Nat) : Prop := ¬ (i < 0 ∨ n ≤ i.toNatClampNeg)
theorem mx_lit {i : Int32} {n : Nat} (h : mIn i n) : vp_in i n := h
abbrev mNN (r : UInt64) : Prop := r &&& 0x7fffffffffffffff ≤ 0x7ff0000000000000
theorem mx_chk {α : Type} {c : Prop} [Decidable c] {a : Option α} {t : α} (h : mCk c a = some t) : c ∧ a = some t := by
  unfold mCk at h
  by_cases hc : c
  · rw [if_pos hc] at h; exact ⟨hc, h⟩
  · rw [if_neg hc] at h; cases h
theorem mx_t {α : Type} {c : Prop} [Decidable c] {a b : Option α} {t : α} (h : (if c then a else b) = some t) (hc : c) : a = some t := by rw [if_pos hc] at h; exact h
theorem mx_f {α : Type} {c : Prop} [Decidable c] {a b : Option α} {t : α} (h : (if c then a else b) = some t) (hc : ¬ c) : b = some t := by rw [if_neg hc] at h; exact h
def mOpt {α : Type} (q : Option Nat) (a : α) (f : Nat → α) : α := match q with
  | none => a
  | some c => f c
theorem mx_on {α : Type} {a : Option α} {f : Nat → Option α} {t : α} (h : mOpt none a f = some t) : a = some t := h
theorem mx_os {α : Type} {a : Option α} {f : Nat → Option α} {t : α} {o : Nat} (h : mOpt (some o) a f = some t) : f o = some t := h
abbrev mBl (x : Int32) : Prop := x = 0 ∨ x = 1
theorem mBl.n {x : Int32} (h : mBl x) : narrow .boolean (.int x) = .int x := by rcases h with rfl | rfl <;> rfl
theorem mBl.f {x : Int32} (h : mBl x) : fits .boolean (.int x) = true := by rcases h with rfl | rfl <;> rfl
def mFu : Nat := 2000
theorem mx_out {x : Int32} {n : Nat} (hn : n < 100) (h : ∀ k, k ≤ n → ¬ x = Int32.ofNat k) : x.toInt < 0 ∨ (n : Int) < x.toInt := by
  rcases Int.lt_or_le x.toInt 0 with h0 | h0
  · exact Or.inl h0
  · refine Or.inr (Int.not_le.mp fun h1 => ?_)
    obtain ⟨k, hk⟩ : ∃ k : Nat, x.toInt = (k : Int) := ⟨x.toInt.toNat, by omega⟩
    refine h k (by omega) ?_
    apply Int32.toInt_inj.mp
    rw [hk, Int32.toInt_ofNat_of_lt (by omega)]
section MXR
variable {p : Program} {l : Launch} {e : Env} {R : Room} {s : State} {m : MethodId} {args : Array Value} {below : List Frame} {meth : Method} {c : Code} {H : Heap} {locs : List Loc} {cells slots : Nat} {Q : State → Prop}
variable {cc : ByteArray} {pc nL : Nat} {ls : Array Slot} {rest : List Value} {own : String} {E : mE} {G : mM}
theorem mx_entry {y : MethodName} {n : Nat} {ret : Option FieldType} {fr lo : Nat} {s₁ : State} (B : BodyLoose p l y (headSpec (mWs y cc n ret) ({ frames := fr, cells := 0, slots := 0, locals := lo })) cc n ret e s m args below meth c s₁) (hml : c.maxLocals = n) (hK : mK E s) (hJ : mJ E) (hS : mS E s s.heap) (hy : y.cls = own) : mX p s m args c cc n own E := by
  refine ⟨B.exec, B.bytes, hml, ?_, fun w h => atoms_spec (ws := mWs y cc n ret) B.pre w (List.mem_cons_of_mem _ h), hK, hJ, hS⟩
  rw [← hy]
  exact findClass_of_methodNamed B.named
theorem mx_get (X : mX p s m args c cc nL own E) (Z : mZ E s.heap H locs G) {a ci index N : Nat} {C : String} {T : u_T} {fs : List Value} {v : Value} (hI : a ∈ mI E) (hc : mcell E G a = .inr (ci, fs)) (hcl : vwCl[ci]? = some (C, T, N)) (hin : ∀ w ∈ u_ws C T N, w ∈ wsL_law) (k : Nat) (hk : k < N) (hw : Cond.fieldLink own index (T k).1 (T k).2.1 (T k).2.2.1 ∈ wsL_law) (hv : fs[k]? = some v) (hdg : decode cc pc = .ok (.getfield index, 3))
    (kk : W p l e R s m args below meth c H locs cells slots Q (F0 m (pc + 3) ls (v :: rest))) : W p l e R s m args below meth c H locs cells slots Q (F0 m pc ls (.ref (mad E a) :: rest)) := by
  obtain ⟨hx, hb, hml, hown, hts, hK, hJ, hSt⟩ := X
  obtain ⟨q0, hq⟩ := List.getElem?_of_mem hI
  exact va_get hx hb hts hin hown hK Z.1 q0 (by rw [mws_at hq, hc]) hcl k hk (hts _ hw) (fun _ h => h) hv hdg kk
theorem mx_put (X : mX p s m args c cc nL own E) (Z : mZ E s.heap H locs G) {a ci index N : Nat} {C : String} {T : u_T} {fs : List Value} {v : Int32} (hI : a ∈ mI E) (hc : mcell E G a = .inr (ci, fs)) (hcl : vwCl[ci]? = some (C, T, N)) (hin : ∀ w ∈ u_ws C T N, w ∈ wsL_law) (ty0 : Nat → FieldType) (hty : ∀ k, k < N → parseFieldDescriptor (T k).2.2.1 = some (ty0 k)) (hnm : ∀ a, a < N → ∀ b, b < N → a ≠ b → (T a).2.1 ≠ (T b).2.1) (k : Nat) (hk : k < N) (hw : Cond.fieldLink own index (T k).1 (T k).2.1 (T k).2.2.1 ∈ wsL_law) (hfin : (T k).2.2.2 = false) (hn : narrow (ty0 k) (.int v) = .int v) (hf : fits (ty0 k) (.int v) = true) (hl : k < fs.length) (hset : mcell E (up2 G a k v) a = .inr (ci, fs.set k (.int v))) (hdg : decode cc pc = .ok (.putfield index, 3))
    (kk : ∀ (H1 : Heap) (locs1 : List Loc), mZ E s.heap H1 locs1 (up2 G a k v) → W p l e R s m args below meth c H1 locs1 cells slots Q (F0 m (pc + 3) ls rest)) : W p l e R s m args below meth c H locs cells slots Q (F0 m pc ls (.int v :: .ref (mad E a) :: rest)) := by
  obtain ⟨hx, hb, hml, hown, hts, hK, hJ, hSt⟩ := X
  obtain ⟨q0, hq⟩ := List.getElem?_of_mem hI
  refine va_put hx hb hts hin ty0 hty hnm hown hK Z.1 (mD_of hJ G) Z.2 q0 (by rw [mws_at hq, hc]) hcl k hk (hts _ hw) (fun _ h => h) hfin (hty k hk) hn hf hl hdg (fun H1 locs1 hP hD hS => ?_)
  rw [mws_put hJ hq hset] at hP
  exact kk H1 locs1 ⟨hP, hS⟩
theorem mx_putl (X : mX p s m args c cc nL own E) (Z : mZ E s.heap H locs G) {a ci index N : Nat} {C : String} {T : u_T} {fs : List Value} {v : Value} {G' : mM} (hI : a ∈ mI E) (hc : mcell E G a = .inr (ci, fs)) (hcl : vwCl[ci]? = some (C, T, N)) (hin : ∀ w ∈ u_ws C T N, w ∈ wsL_law) (ty0 : Nat → FieldType) (hty : ∀ k, k < N → parseFieldDescriptor (T k).2.2.1 = some (ty0 k)) (hnm : ∀ a, a < N → ∀ b, b < N → a ≠ b → (T a).2.1 ≠ (T b).2.1) (k : Nat) (hk : k < N) (hw : Cond.fieldLink own index (T k).1 (T k).2.1 (T k).2.2.1 ∈ wsL_law) (hfin : (T k).2.2.2 = false) (hn : narrow (ty0 k) v = v) (hf : fits (ty0 k) v = true) (hl : k < fs.length) (hset : mcell E G' a = .inr (ci, fs.set k v)) (ho : ∀ c, c ≠ a → G' c = G c) (hdg : decode cc pc = .ok (.putfield index, 3))
    (kk : ∀ (H1 : Heap) (locs1 : List Loc), mZ E s.heap H1 locs1 G' → W p l e R s m args below meth c H1 locs1 cells slots Q (F0 m (pc + 3) ls rest)) : W p l e R s m args below meth c H locs cells slots Q (F0 m pc ls (v :: .ref (mad E a) :: rest)) := by
  obtain ⟨hx, hb, hml, hown, hts, hK, hJ, hSt⟩ := X
  obtain ⟨q0, hq⟩ := List.getElem?_of_mem hI
  refine va_put hx hb hts hin ty0 hty hnm hown hK Z.1 (mD_of hJ G) Z.2 q0 (by rw [mws_at hq, hc]) hcl k hk (hts _ hw) (fun _ h => h) hfin (hty k hk) hn hf hl hdg (fun H1 locs1 hP hD hS => ?_)
  rw [show (mws E G).set q0 (mad E a, .inr (ci, fs.set k v)) = mws E G' by rw [← hset]; exact mws_set hJ hq ho] at hP
  exact kk H1 locs1 ⟨hP, hS⟩
theorem mx_iald (X : mX p s m args c cc nL own E) (Z : mZ E s.heap H locs G) {a n : Nat} (hA : mAi E a 1 n) {i : Int32} (hi : vp_in i n) (hdg : decode cc pc = .ok (.iaload, 1))
    (kk : W p l e R s m args below meth c H locs cells slots Q (F0 m (pc + 1) ls (.int (G a i.toNatClampNeg) :: rest))) : W p l e R s m args below meth c H locs cells slots Q (F0 m pc ls (.int i :: .ref (mad E a) :: rest)) := by
  obtain ⟨hx, hb, hml, hown, hts, hK, hJ, hSt⟩ := X
  obtain ⟨q0, hq⟩ := List.getElem?_of_mem hA.1
  exact va_iald hx hb hK Z.1 q0 1 (by rw [mws_at hq, hA.2]) rfl hi hdg kk
theorem mx_cald (X : mX p s m args c cc nL own E) (Z : mZ E s.heap H locs G) {a n : Nat} (hA : mAi E a 0 n) {i : Int32} (hi : vp_in i n) (hdg : decode cc pc = .ok (.caload, 1))
    (kk : W p l e R s m args below meth c H locs cells slots Q (F0 m (pc + 1) ls (.int (G a i.toNatClampNeg) :: rest))) : W p l e R s m args below meth c H locs cells slots Q (F0 m pc ls (.int i :: .ref (mad E a) :: rest)) := by
  obtain ⟨hx, hb, hml, hown, hts, hK, hJ, hSt⟩ := X
  obtain ⟨q0, hq⟩ := List.getElem?_of_mem hA.1
  exact va_cald hx hb hK Z.1 q0 0 (by rw [mws_at hq, hA.2]) rfl hi hdg kk
theorem mx_iast (X : mX p s m args c cc nL own E) (Z : mZ E s.heap H locs G) {a n : Nat} (hA : mAi E a 1 n) {i v : Int32} (hi : vp_in i n) (hdg : decode cc pc = .ok (.iastore, 1))
    (kk : ∀ (H1 : Heap) (locs1 : List Loc), mZ E s.heap H1 locs1 (up2 G a i.toNatClampNeg v) → W p l e R s m args below meth c H1 locs1 cells slots Q (F0 m (pc + 1) ls rest)) : W p l e R s m args below meth c H locs cells slots Q (F0 m pc ls (.int v :: .int i :: .ref (mad E a) :: rest)) := by
  obtain ⟨hx, hb, hml, hown, hts, hK, hJ, hSt⟩ := X
  obtain ⟨q0, hq⟩ := List.getElem?_of_mem hA.1
  refine va_iast hx hb hK Z.1 (mD_of hJ G) Z.2 q0 1 (by rw [mws_at hq, hA.2]) rfl hi hdg (fun H1 locs1 hP hD hS => ?_)
  rw [mws_put hJ hq (by rw [hA.2, up2_row])] at hP
  exact kk H1 locs1 ⟨hP, hS⟩
theorem mx_cast (X : mX p s m args c cc nL own E) (Z : mZ E s.heap H locs G) {a n : Nat} (hA : mAi E a 0 n) {i v : Int32} (hi : vp_in i n) (hdg : decode cc pc = .ok (.castore, 1))
    (kk : ∀ (H1 : Heap) (locs1 : List Loc), mZ E s.heap H1 locs1 (up2 G a i.toNatClampNeg (vp_nar .char v)) → W p l e R s m args below meth c H1 locs1 cells slots Q (F0 m (pc + 1) ls rest)) : W p l e R s m args below meth c H locs cells slots Q (F0 m pc ls (.int v :: .int i :: .ref (mad E a) :: rest)) := by
  obtain ⟨hx, hb, hml, hown, hts, hK, hJ, hSt⟩ := X
  obtain ⟨q0, hq⟩ := List.getElem?_of_mem hA.1
  refine va_cast hx hb hK Z.1 (mD_of hJ G) Z.2 q0 0 (by rw [mws_at hq, hA.2]) rfl hi hdg (fun H1 locs1 hP hD hS => ?_)
  rw [mws_put hJ hq (by rw [hA.2, up2_row])] at hP
  exact kk H1 locs1 ⟨hP, hS⟩
theorem mx_aald (X : mX p s m args c cc nL own E) (Z : mZ E s.heap H locs G) {a t n : Nat} {f : mM → Nat → Nat} {C : String} (hA : mAr E a t n f) (ht : (mtys E)[t]? = some (mY E t, .object C)) {i : Int32} (hi : vp_in i n) (hdg : decode cc pc = .ok (.aaload, 1))
    (kk : W p l e R s m args below meth c H locs cells slots Q (F0 m (pc + 1) ls (.ref (mad E (f G i.toNatClampNeg)) :: rest))) : W p l e R s m args below meth c H locs cells slots Q (F0 m pc ls (.int i :: .ref (mad E a) :: rest)) := by
  obtain ⟨hx, hb, hml, hown, hts, hK, hJ, hSt⟩ := X
  obtain ⟨q0, hq⟩ := List.getElem?_of_mem hA.1
  exact va_aldq (f := fun q => some (mad E (f G q))) hx hb hK Z.1 q0 t (by rw [mws_at hq, hA.2]) ht hi hdg kk
/-- a State into History's row -/
theorem mx_aast (X : mX p s m args c cc nL own E) (Z : mZ E s.heap H locs G) {d : Nat} (hA : mAr E 244 3 8 (fun G q => (G 244 q).toNatClampNeg)) (hd : mSt E d) {i : Int32} (hi : vp_in i 8) (hdg : decode cc pc = .ok (.aastore, 1))
    (kk : ∀ (H1 : Heap) (locs1 : List Loc), mZ E s.heap H1 locs1 (up2 G 244 i.toNatClampNeg (nI d)) → W p l e R s m args below meth c H1 locs1 cells slots Q (F0 m (pc + 1) ls rest)) : W p l e R s m args below meth c H locs cells slots Q (F0 m pc ls (.ref (mad E d) :: .int i :: .ref (mad E 244) :: rest)) := by
  obtain ⟨hx, hb, hml, hown, hts, hK, hJ, hSt⟩ := X
  obtain ⟨q0, hq⟩ := List.getElem?_of_mem hA.1
  obtain ⟨q1, hq1⟩ := List.getElem?_of_mem hd.i
  refine va_astq (r := (RX3, TX3, 11)) hx hb hK Z.1 (mD_of hJ G) Z.2 q0 3 q1 3 (by rw [mws_at hq, hA.2]) rfl (by rw [mws_at hq1, hd.c]) rfl hi hdg (fun H1 locs1 hP hD hS => ?_)
  rw [mws_put hJ (k := i.toNatClampNeg) (v := nI d) hq (by
    rw [hA.2]
    congr 7
    funext q
    unfold va_up
    by_cases h : q = i.toNatClampNeg
    · rw [if_pos h, h]
      show some (mad E (up2 G 244 i.toNatClampNeg (nI d) 244 i.toNatClampNeg).toNatClampNeg) = some (mad E d)
      rw [up2_same, nI_clamp (by have := hd.1; omega)]
    · rw [if_neg h]
      show some (mad E (up2 G 244 i.toNatClampNeg (nI d) 244 q).toNatClampNeg) = some (mad E (G 244 q).toNatClampNeg)
      rw [up2_ne (Or.inr h)])] at hP
  exact kk H1 locs1 ⟨hP, hS⟩
theorem mx_alen (X : mX p s m args c cc nL own E) (Z : mZ E s.heap H locs G) {a t : Nat} {x : vp_A} {ty : FieldType} (hI : a ∈ mI E) (hc : mcell E G a = .inl (mY E t, x)) (ht : (mtys E)[t]? = some (mY E t, ty)) {v : Int32} (hv : Int32.ofNat x.1 = v) (hdg : decode cc pc = .ok (.arraylength, 1))
    (kk : W p l e R s m args below meth c H locs cells slots Q (F0 m (pc + 1) ls (.int v :: rest))) : W p l e R s m args below meth c H locs cells slots Q (F0 m pc ls (.ref (mad E a) :: rest)) := by
  obtain ⟨hx, hb, hml, hown, hts, hK, hJ, hSt⟩ := X
  obtain ⟨q0, hq⟩ := List.getElem?_of_mem hI
  exact va_alen hx hb hK Z.1 q0 t (by rw [mws_at hq, hc]) ht hv hdg kk
/-- a static row's element -/
theorem mx_stat (X : mX p s m args c cc nL own E) (Z : mZ E s.heap H locs G) {i index : Nat} (hi : i < 3) (hw : Cond.fieldLink own index "PeatRailway" (mStatN i) "[I" ∈ wsL_law) (hdg : decode cc pc = .ok (.getstatic index, 3))
    (kk : ∀ t : Nat, va_T .int t 3 (fun j => .int (mStat i j)) (mA E) s s.heap → W p l e R s m args below meth c H locs cells slots Q (F0 m (pc + 3) ls (.ref t :: rest))) : W p l e R s m args below meth c H locs cells slots Q (F0 m pc ls rest) := by
  obtain ⟨hx, hb, hml, hown, hts, hK, hJ, hSt⟩ := X
  obtain ⟨t, h1, h2⟩ := hSt i hi
  exact va_gets hx hb h1 Z.2 hown (hts _ hw) (fun _ h => h) hdg (kk t h2)
theorem mx_max (X : mX p s m args c cc nL own E) (hs : ls.size = nL) {index : Nat} (hw : Cond.methodLink own index Lib.Math.max.name ∈ wsL_law) (h1 : Cond.static Lib.Math.max.name ∈ wsL_law) (h2 : Cond.initialized "java/lang/Math" ∈ wsL_law) (h3 : Cond.code Lib.Math.max.name Lib.Math.max.code 2 (some .int) ∈ wsL_law) (hf : 1 ≤ R.frames) (hlo : (rest.map fun v => v.category).sum + 13 ≤ R.locals) (hcs : cells ≤ R.cells ∧ slots ≤ R.slots) {x y : Int32} (hdg : decode cc pc = .ok (.invokestatic index, 3))
    (kk : W p l e R s m args below meth c H locs cells slots Q (F0 m (pc + 3) ls (.int (if x < y then y else x) :: rest))) : W p l e R s m args below meth c H locs cells slots Q (F0 m pc ls (.int y :: .int x :: rest)) := by
  obtain ⟨hx, hb, hml, hown, hts, hK, hJ, hSt⟩ := X
  exact va_mmax hx hb (hml.trans hs.symm) hown (hts _ hw) (hts _ h1) (hts _ h2) (hts _ h3) hf hlo hcs.1 hcs.2 hdg kk
theorem mx_min (X : mX p s m args c cc nL own E) (hs : ls.size = nL) {index : Nat} (hw : Cond.methodLink own index Lib.Math.min.name ∈ wsL_law) (h1 : Cond.static Lib.Math.min.name ∈ wsL_law) (h2 : Cond.initialized "java/lang/Math" ∈ wsL_law) (h3 : Cond.code Lib.Math.min.name Lib.Math.min.code 2 (some .int) ∈ wsL_law) (hf : 1 ≤ R.frames) (hlo : (rest.map fun v => v.category).sum + 13 ≤ R.locals) (hcs : cells ≤ R.cells ∧ slots ≤ R.slots) {x y : Int32} (hdg : decode cc pc = .ok (.invokestatic index, 3))
    (kk : W p l e R s m args below meth c H locs cells slots Q (F0 m (pc + 3) ls (.int (if y < x then y else x) :: rest))) : W p l e R s m args below meth c H locs cells slots Q (F0 m pc ls (.int y :: .int x :: rest)) := by
  obtain ⟨hx, hb, hml, hown, hts, hK, hJ, hSt⟩ := X
  exact va_mmin hx hb (hml.trans hs.symm) hown (hts _ hw) (hts _ h1) (hts _ h2) (hts _ h3) hf hlo hcs.1 hcs.2 hdg kk
theorem mx_good {ws : List Cond} (h : ∀ w ∈ ws, w ∈ wsL_law) : GoodIn wsL_law ws := fun w hw => ⟨h w hw, good_of_word (wd_good w (h w hw))⟩
theorem mPc.blind {av : List Value} : FrameBlind (mPc E av G) := fun a U g mk q => ⟨q.1, q.2.1, va_K.moved (u := U) (U := U.calling g mk a) (Vm.Alike.refl U.vm) q.2.2.1, (q.2.2.2 : mS E U U.heap).moved (U := U.calling g mk a) (Vm.Alike.refl U.vm)⟩
theorem mx_pre (X : mX p s m args c cc nL own E) (Z : mZ E s.heap H locs G) {av : List Value} (U : State) (hU : U.heap = H) (hW : s.WarmedH U.vm) : mPc E av G av.toArray U := by
  obtain ⟨hx, hb, hml, hown, hts, hK, hJ, hSt⟩ := X
  refine ⟨rfl, by rw [hU]; exact Z.1, va_K.moved hW.alike hK, ?_⟩
  rw [hU]
  exact (hSt.kept (fun a h1 h2 => Z.2.2.1 a h1 h2)).moved hW.alike
theorem mx_back {mc ms : Nat} {a : Array Value} {v : Option Value} {G' : mM} {st0 : List Value} (hr : va_Run p l e R s m args below meth c H locs cells slots 0 0 (F0 m pc ls st0) rest (mQ E v G' a) (mA E)) (Z : mZ E s.heap H locs G)
    (kk : ∀ (H1 : Heap) (locs1 : List Loc), mZ E s.heap H1 locs1 G' → W p l e R s m args below meth c H1 locs1 cells slots Q (F0 m (pc + 3) ls (v.toList ++ rest))) : W p l e R s m args below meth c H locs cells slots Q (F0 m pc ls st0) := by
  intro T hT X
  obtain ⟨v1, st₀, t, T', L, h0, X', hL, e1, e2, ⟨hv, hp, hz, hk⟩, st⟩ := hr T hT X
  cases hv
  rw [h0] at hz hk
  obtain ⟨t2, a1, b1⟩ := kk T'.heap (locs ++ L) ⟨by rw [e1]; exact hp, Nat.le_trans Z.2.1 (by rw [e1]; exact hz), fun q h1 h2 => by rw [e1, hk q (Nat.lt_of_lt_of_le h1 Z.2.1) h2]; exact Z.2.2.1 q h1 h2, fun q hq => by
      rcases List.mem_append.mp hq with h | h
      · exact Z.2.2.2 q h
      · exact hL q h⟩ T' rfl X'
  exact ⟨t2, st t2 a1, b1⟩
theorem mx_callV (X : mX p s m args c cc nL own E) (Z : mZ E s.heap H locs G) (hs : ls.size = nL) {y : MethodName} {cc' : ByteArray} {n' : Nat} {ret : Option FieldType} {fr lo index cB ci N : Nat} {C : String} {T : u_T} {fs : List Value} {As : List Value} {v : Option Value} {G' : mM} (hM : mMet l E y cc' n' ret fr lo (.ref (mad E cB) :: As) G v G') (w1 : Cond.methodLink own index y ∈ wsL_law) (w2 : Cond.instanceMethod y ∈ wsL_law) (w3 : Cond.selects C y y ∈ wsL_law) (w4 : Cond.initialized C ∈ wsL_law) (w5 : Cond.code y cc' n' ret ∈ wsL_law) (hd : y.cls = C ∧ y.cls ≠ "java/lang/invoke/MethodHandle" ∧ y.cls ≠ "java/lang/invoke/VarHandle" ∧ (parseMethodDescriptor y.desc).map (fun d => d.parameters.length) = some As.length) (hR : fr + 1 ≤ R.frames ∧ 8 + (n' + 11) + lo ≤ R.locals) (hcs : cells ≤ R.cells ∧ slots ≤ R.slots) (hI : cB ∈ mI E) (hc : mcell E G cB = .inr (ci, fs)) (hcl : vwCl[ci]? = some (C, T, N)) (hcat : (rest.map fun v => v.category).sum ≤ 8) {st0 st1 : List Value} (hst : st0 = As.reverse ++ .ref (mad E cB) :: rest) (hs1 : v.toList ++ rest = st1) (hdg : decode cc pc = .ok (.invokevirtual index, 3))
    (kk : ∀ (H1 : Heap) (locs1 : List Loc), mZ E s.heap H1 locs1 G' → W p l e R s m args below meth c H1 locs1 cells slots Q (F0 m (pc + 3) ls st1)) : W p l e R s m args below meth c H locs cells slots Q (F0 m pc ls st0) := by
  subst hs1
  obtain ⟨hx, hb, hml, hown, hts, hK, hJ, hSt⟩ := id X
  obtain ⟨q0, hq⟩ := List.getElem?_of_mem hI
  have hg : GoodIn wsL_law (wsV own index C y (mWs y cc' n' ret)) := mx_good (fun w h => by
    simp only [wsV, mWs, List.cons_append, List.nil_append, List.mem_cons] at h
    rcases h with rfl | rfl | rfl | rfl | rfl | h
    · exact w1
    · exact w2
    · exact w3
    · exact w4
    · exact w5
    · exact h)
  exact mx_back (mc := 0) (ms := 0) (va_runV (As := As) (rest := rest) (g := F0 m pc ls st0) (free := mA E) ⟨hx, hb, hml, hown, hts⟩ hM (cwV As.length hts hg rfl rfl rfl hd hR) ⟨mPc.blind, va_recv hK Z.1 (ci := ci) (q0 := q0) hcl (by rw [mws_at hq, hc]), fun U hU hW => mx_pre X Z U hU hW⟩ rfl rfl hs hst (lv_room hcat) hdg hcs) Z kk
theorem mx_callS (X : mX p s m args c cc nL own E) (Z : mZ E s.heap H locs G) (hs : ls.size = nL) {y : MethodName} {cc' : ByteArray} {n' : Nat} {ret : Option FieldType} {fr lo index : Nat} {As : List Value} {v : Option Value} {G' : mM} (hM : mMet l E y cc' n' ret fr lo As G v G') (w1 : Cond.methodLink own index y ∈ wsL_law) (w2 : Cond.static y ∈ wsL_law) (w4 : Cond.initialized y.cls ∈ wsL_law) (w5 : Cond.code y cc' n' ret ∈ wsL_law) (hd : y.cls ≠ "java/lang/invoke/MethodHandle" ∧ y.cls ≠ "java/lang/invoke/VarHandle" ∧ (parseMethodDescriptor y.desc).map (fun d => d.parameters.length) = some As.length) (hR : fr + 1 ≤ R.frames ∧ 8 + (n' + 11) + lo ≤ R.locals) (hcs : cells ≤ R.cells ∧ slots ≤ R.slots) (hcat : (rest.map fun v => v.category).sum ≤ 8) {st0 st1 : List Value} (hst : st0 = As.reverse ++ rest) (hs1 : v.toList ++ rest = st1) (hdg : decode cc pc = .ok (.invokestatic index, 3))
    (kk : ∀ (H1 : Heap) (locs1 : List Loc), mZ E s.heap H1 locs1 G' → W p l e R s m args below meth c H1 locs1 cells slots Q (F0 m (pc + 3) ls st1)) : W p l e R s m args below meth c H locs cells slots Q (F0 m pc ls st0) := by
  subst hs1
  obtain ⟨hx, hb, hml, hown, hts, hK, hJ, hSt⟩ := id X
  have hg : GoodIn wsL_law (va_wsS own index y (mWs y cc' n' ret)) := mx_good (fun w h => by
    simp only [va_wsS, mWs, List.cons_append, List.nil_append, List.mem_cons] at h
    rcases h with rfl | rfl | rfl | rfl | h
    · exact w1
    · exact w2
    · exact w4
    · exact w5
    · exact h)
  exact mx_back (mc := 0) (ms := 0) (va_runS (As := As) (rest := rest) (g := F0 m pc ls st0) (free := mA E) ⟨hx, hb, hml, hown, hts⟩ hM (va_cwS As.length hts hg rfl rfl rfl hd hR) ⟨mPc.blind, fun U hU hW => mx_pre X Z U hU hW⟩ rfl rfl hs hst (lv_room hcat) hdg hcs) Z kk
theorem mx_tops {s1 s2 : List Value} (h : s1 = s2) (k : W p l e R s m args below meth c H locs cells slots Q (F0 m pc ls s2)) : W p l e R s m args below meth c H locs cells slots Q (F0 m pc ls s1) := h ▸ k
theorem mx_end (Z : mZ E s.heap H locs G) {v : Option Value} (t : State) (ht : t.heap = H) (a : Array Value) : mQ E v G a s (.returned v) t := ⟨rfl, by rw [ht]; exact Z.1, Z.2.F ht⟩
end MXR
theorem sp_Sg_0 (G : mM) (c : Nat) (v : Int32) : f_Seg (up2 G c 0 v) c = (f_Seg G c).set 0 (.int v) := by simp [f_Seg, up2]
theorem sp_Sg_1 (G : mM) (c : Nat) (v : Int32) : f_Seg (up2 G c 1 v) c = (f_Seg G c).set 1 (.int v) := by simp [f_Seg, up2]
theorem sp_Sg_2 (G : mM) (c : Nat) (v : Int32) : f_Seg (up2 G c 2 v) c = (f_Seg G c).set 2 (.int v) := by simp [f_Seg, up2]
theorem sp_Sg_3 (G : mM) (c : Nat) (v : Int32) : f_Seg (up2 G c 3 v) c = (f_Seg G c).set 3 (.int v) := by simp [f_Seg, up2]
theorem sp_Sg_4 (G : mM) (c : Nat) (v : Int32) : f_Seg (up2 G c 4 v) c = (f_Seg G c).set 4 (.int v) := by simp [f_Seg, up2]
theorem sp_Sg_5 (G : mM) (c : Nat) (v : Int32) : f_Seg (up2 G c 5 v) c = (f_Seg G c).set 5 (.int v) := by simp [f_Seg, up2]
theorem sp_Tr_0 (G : mM) (c : Nat) (v : Int32) : f_Tr (up2 G c 0 v) c = (f_Tr G c).set 0 (.int v) := by simp [f_Tr, up2]
theorem sp_Tr_1 (G : mM) (c : Nat) (v : Int32) : f_Tr (up2 G c 1 v) c = (f_Tr G c).set 1 (.int v) := by simp [f_Tr, up2]
theorem sp_Tr_2 (G : mM) (c : Nat) (v : Int32) : f_Tr (up2 G c 2 v) c = (f_Tr G c).set 2 (.int v) := by simp [f_Tr, up2]
theorem sp_Tr_3 (G : mM) (c : Nat) (v : Int32) : f_Tr (up2 G c 3 v) c = (f_Tr G c).set 3 (.int v) := by simp [f_Tr, up2]
theorem sp_Tr_4 (G : mM) (c : Nat) (v : Int32) : f_Tr (up2 G c 4 v) c = (f_Tr G c).set 4 (.int v) := by simp [f_Tr, up2]
theorem sp_Tr_5 (G : mM) (c : Nat) (v : Int32) : f_Tr (up2 G c 5 v) c = (f_Tr G c).set 5 (.int v) := by simp [f_Tr, up2]
theorem sp_Tr_6 (G : mM) (c : Nat) (v : Int32) : f_Tr (up2 G c 6 v) c = (f_Tr G c).set 6 (.int v) := by simp [f_Tr, up2]
theorem sp_Tr_7 (G : mM) (c : Nat) (v : Int32) : f_Tr (up2 G c 7 v) c = (f_Tr G c).set 7 (.int v) := by simp [f_Tr, up2]
theorem sp_Tr_8 (G : mM) (c : Nat) (v : Int32) : f_Tr (up2 G c 8 v) c = (f_Tr G c).set 8 (.int v) := by simp [f_Tr, up2]
theorem sp_Tr_9 (G : mM) (c : Nat) (v : Int32) : f_Tr (up2 G c 9 v) c = (f_Tr G c).set 9 (.int v) := by simp [f_Tr, up2]
theorem sp_St_3 (ad : Nat → Nat) (G : mM) (c : Nat) (v : Int32) : f_St ad (up2 G c 3 v) c = (f_St ad G c).set 3 (.int v) := by simp [f_St, up2]
theorem sp_St_4 (ad : Nat → Nat) (G : mM) (c : Nat) (v : Int32) : f_St ad (up2 G c 4 v) c = (f_St ad G c).set 4 (.int v) := by simp [f_St, up2]
theorem sp_St_5 (ad : Nat → Nat) (G : mM) (c : Nat) (v : Int32) : f_St ad (up2 G c 5 v) c = (f_St ad G c).set 5 (.int v) := by simp [f_St, up2]
theorem sp_St_6 (ad : Nat → Nat) (G : mM) (c : Nat) (v : Int32) : f_St ad (up2 G c 6 v) c = (f_St ad G c).set 6 (.int v) := by simp [f_St, up2]
theorem sp_St_7 (ad : Nat → Nat) (G : mM) (c : Nat) (v : Int32) : f_St ad (up2 G c 7 v) c = (f_St ad G c).set 7 (.int v) := by simp [f_St, up2]
theorem sp_St_8 (ad : Nat → Nat) (G : mM) (c : Nat) (v : Int32) : f_St ad (up2 G c 8 v) c = (f_St ad G c).set 8 (.int v) := by simp [f_St, up2]
theorem sp_St_9 (ad : Nat → Nat) (G : mM) (c : Nat) (v : Int32) : f_St ad (up2 G c 9 v) c = (f_St ad G c).set 9 (.int v) := by simp [f_St, up2]
theorem sp_St_10 (ad : Nat → Nat) (G : mM) (c : Nat) (v : Int32) : f_St ad (up2 G c 10 v) c = (f_St ad G c).set 10 (.int v) := by simp [f_St, up2]
theorem sp_Al_5 (ad : Nat → Nat) (G : mM) (c : Nat) (v : Int32) : f_Ra ad (up2 G c 5 v) c = (f_Ra ad G c).set 5 (.int v) := by simp [f_Ra, up2]
theorem sp_Tx_1 (ad : Nat → Nat) (G : mM) (c : Nat) (v : Int32) : f_Tx ad (up2 G c 1 v) c = (f_Tx ad G c).set 1 (.int v) := by simp [f_Tx, up2]
theorem sp_Hi_1 (ad : Nat → Nat) (G : mM) (c : Nat) (v : Int32) : f_Hi ad (up2 G c 1 v) c = (f_Hi ad G c).set 1 (.int v) := by simp [f_Hi, up2]
theorem sp_Mo_2 (ad : Nat → Nat) (G : mM) (c : Nat) (v : Int32) : f_Mo ad (up2 G c 2 v) c = (f_Mo ad G c).set 2 (.int v) := by simp [f_Mo, up2]
theorem sp_Mo_4 (ad : Nat → Nat) (G : mM) (c : Nat) (v : Int32) : f_Mo ad (up2 G c 4 v) c = (f_Mo ad G c).set 4 (.int v) := by simp [f_Mo, up2]
theorem sp_Mo_6 (ad : Nat → Nat) (G : mM) (c : Nat) (v : Int32) : f_Mo ad (up2 G c 6 v) c = (f_Mo ad G c).set 6 (.int v) := by simp [f_Mo, up2]
theorem sp_Mo_8 (ad : Nat → Nat) (G : mM) (c : Nat) (v : Int32) : f_Mo ad (up2 G c 8 v) c = (f_Mo ad G c).set 8 (.int v) := by simp [f_Mo, up2]
theorem sp_Mo_9 (ad : Nat → Nat) (G : mM) (c : Nat) (v : Int32) : f_Mo ad (up2 G c 9 v) c = (f_Mo ad G c).set 9 (.int v) := by simp [f_Mo, up2]
end
section
/-! PeatRailway$Segment.layDown -/
def x2_layDown (c : Nat) (x1 : Int32) (G : mM) : Option mM :=
  mNm (up2 G c 0 x1) fun G_1 =>
  mNm (up2 G_1 c 1 ((1 : Int32))) fun G_2 =>
  mNm (up2 G_2 c 2 ((0 : Int32))) fun G_3 =>
  some (G_3)
theorem hd2_layDown : yX2_layDown.cls = RX2 ∧ yX2_layDown.cls ≠ "java/lang/invoke/MethodHandle" ∧ yX2_layDown.cls ≠ "java/lang/invoke/VarHandle" ∧ (parseMethodDescriptor yX2_layDown.desc).map (fun d => d.parameters.length) = some 1 := by decide +kernel
set_option maxHeartbeats 4000000 in
set_option maxRecDepth 100000 in
theorem c2_layDown (l : Launch) (E : mE) (hJ : mJ E) {c : Nat} (hc : mSg E c) (x1 : Int32) (G : mM) (q : mM) (hT : x2_layDown c x1 G = some q) : mMet l E yX2_layDown cX2_layDown 2 none 0 0 [.ref (mad E (c)), .int (x1)] G (none) q := by
  refine Met.ofW (cc := cX2_layDown) (maxL := 2) (ret := none) (by decide) rfl ?_
  intro p e s m args below meth cd s₁ B hml hv
  obtain ⟨rfl, hP, hK, hS⟩ := hv
  have X := mx_entry (own := RX2) B hml hK hJ hS rfl
  have hx := X.1
  have hb := X.2.1
  have hown := X.2.2.2.1
  have hts := X.2.2.2.2.1
  have hr := B.returns
  have hlocks := B.notSynchronized
  have hR : 0 ≤ (headSpec (mWs yX2_layDown cX2_layDown 2 none) ({ frames := 0, cells := 0, slots := 0, locals := 0 })).room.frames ∧ 0 ≤ (headSpec (mWs yX2_layDown cX2_layDown 2 none) ({ frames := 0, cells := 0, slots := 0, locals := 0 })).room.locals := ⟨Nat.le_refl _, Nat.le_refl _⟩
  have Z : mZ E s.heap s.heap [] G := ⟨hP, va_S.rf⟩
  have hl := lv_entry ([.ref (mad E (c)), .int (x1)]) (n := 2) (Nat.le_of_ble_eq_true rfl)
  rw [lg_entry_eq]
  generalize (lg_sl ([.ref (mad E (c)), .int (x1)]) ++ List.replicate (2 - (lg_sl ([.ref (mad E (c)), .int (x1)])).length) Slot.unset).toArray = ls at hl ⊢
  have hl : lv_has ls 2 [(0, .ref (mad E (c))), (1, .int (x1))] := hl
  unfold x2_layDown at hT
  refine lv_aload_n hx hb dX2_layDown_0 rfl (lv_at hl 0 rfl) ?_
  refine lv_iload_n hx hb dX2_layDown_1 rfl (lv_at hl 1 rfl) ?_
  obtain ⟨G_1, e_G_1, hT⟩ := mx_nm hT
  refine mx_put (ci := 2) (C := RX2) (T := TX2) (N := 6) X Z hc.i (hc.c _) rfl inlX2 tyX2 tyX2_ok nmX2 0 (by decide) wd_6_14 rfl rfl rfl (by show 0 < 6; decide) ((hc.c _).trans (congrArg (fun z => Sum.inr (2, z)) (sp_Sg_0 _ _ _))) dX2_layDown_2 (fun H locs Z => ?_)
  rw [e_G_1] at Z
  refine lv_aload_n hx hb dX2_layDown_5 rfl (lv_at hl 0 rfl) ?_
  refine lv_iconst (v := (1 : Int32)) hx hb dX2_layDown_6 (by decide) ?_
  obtain ⟨G_2, e_G_2, hT⟩ := mx_nm hT
  refine mx_put (ci := 2) (C := RX2) (T := TX2) (N := 6) X Z hc.i (hc.c _) rfl inlX2 tyX2 tyX2_ok nmX2 1 (by decide) wd_6_15 rfl rfl rfl (by show 1 < 6; decide) ((hc.c _).trans (congrArg (fun z => Sum.inr (2, z)) (sp_Sg_1 _ _ _))) dX2_layDown_7 (fun H locs Z => ?_)
  rw [e_G_2] at Z
  refine lv_aload_n hx hb dX2_layDown_10 rfl (lv_at hl 0 rfl) ?_
  refine lv_iconst (v := (0 : Int32)) hx hb dX2_layDown_11 (by decide) ?_
  obtain ⟨G_3, e_G_3, hT⟩ := mx_nm hT
  refine mx_put (ci := 2) (C := RX2) (T := TX2) (N := 6) X Z hc.i (hc.c _) rfl inlX2 tyX2 tyX2_ok nmX2 2 (by decide) wd_6_16 rfl rfl rfl (by show 2 < 6; decide) ((hc.c _).trans (congrArg (fun z => Sum.inr (2, z)) (sp_Sg_2 _ _ _))) dX2_layDown_12 (fun H locs Z => ?_)
  rw [e_G_3] at Z
  cases hT
  exact W.vret hx hb hr (fun t ht hW => mx_end Z t ht _) Z.2.2.2 dX2_layDown_15
/-! PeatRailway$Segment.copyFrom -/
def x2_copyFrom (c : Nat) (d1 : Nat) (G : mM) : Option mM :=
  mNm (up2 G c 0 (G d1 0)) fun G_1 =>
  mNm (up2 G_1 c 1 (G_1 d1 1)) fun G_2 =>
  mNm (up2 G_2 c 2 (G_2 d1 2)) fun G_3 =>
  mNm (up2 G_3 c 3 (G_3 d1 3)) fun G_4 =>
  mNm (up2 G_4 c 4 (G_4 d1 4)) fun G_5 =>
  some (G_5)
theorem hd2_copyFrom : yX2_copyFrom.cls = RX2 ∧ yX2_copyFrom.cls ≠ "java/lang/invoke/MethodHandle" ∧ yX2_copyFrom.cls ≠ "java/lang/invoke/VarHandle" ∧ (parseMethodDescriptor yX2_copyFrom.desc).map (fun d => d.parameters.length) = some 1 := by decide +kernel
set_option maxHeartbeats 4000000 in
set_option maxRecDepth 100000 in
theorem c2_copyFrom (l : Launch) (E : mE) (hJ : mJ E) {c : Nat} {d1 : Nat} (hc : mSg E c) (hd1 : mSg E d1) (G : mM) (q : mM) (hT : x2_copyFrom c d1 G = some q) : mMet l E yX2_copyFrom cX2_copyFrom 2 none 0 0 [.ref (mad E (c)), .ref (mad E (d1))] G (none) q := by
  refine Met.ofW (cc := cX2_copyFrom) (maxL := 2) (ret := none) (by decide) rfl ?_
  intro p e s m args below meth cd s₁ B hml hv
  obtain ⟨rfl, hP, hK, hS⟩ := hv
  have X := mx_entry (own := RX2) B hml hK hJ hS rfl
  have hx := X.1
  have hb := X.2.1
  have hown := X.2.2.2.1
  have hts := X.2.2.2.2.1
  have hr := B.returns
  have hlocks := B.notSynchronized
  have hR : 0 ≤ (headSpec (mWs yX2_copyFrom cX2_copyFrom 2 none) ({ frames := 0, cells := 0, slots := 0, locals := 0 })).room.frames ∧ 0 ≤ (headSpec (mWs yX2_copyFrom cX2_copyFrom 2 none) ({ frames := 0, cells := 0, slots := 0, locals := 0 })).room.locals := ⟨Nat.le_refl _, Nat.le_refl _⟩
  have Z : mZ E s.heap s.heap [] G := ⟨hP, va_S.rf⟩
  have hl := lv_entry ([.ref (mad E (c)), .ref (mad E (d1))]) (n := 2) (Nat.le_of_ble_eq_true rfl)
  rw [lg_entry_eq]
  generalize (lg_sl ([.ref (mad E (c)), .ref (mad E (d1))]) ++ List.replicate (2 - (lg_sl ([.ref (mad E (c)), .ref (mad E (d1))])).length) Slot.unset).toArray = ls at hl ⊢
  have hl : lv_has ls 2 [(0, .ref (mad E (c))), (1, .ref (mad E (d1)))] := hl
  unfold x2_copyFrom at hT
  refine lv_aload_n hx hb dX2_copyFrom_0 rfl (lv_at hl 0 rfl) ?_
  refine lv_aload_n hx hb dX2_copyFrom_1 rfl (lv_at hl 1 rfl) ?_
  refine mx_get (v := .int (G d1 0)) (ci := 2) (C := RX2) (T := TX2) (N := 6) X Z hd1.i (hd1.c _) rfl inlX2 0 (by decide) wd_6_14 rfl dX2_copyFrom_2 ?_
  obtain ⟨G_1, e_G_1, hT⟩ := mx_nm hT
  refine mx_put (ci := 2) (C := RX2) (T := TX2) (N := 6) X Z hc.i (hc.c _) rfl inlX2 tyX2 tyX2_ok nmX2 0 (by decide) wd_6_14 rfl rfl rfl (by show 0 < 6; decide) ((hc.c _).trans (congrArg (fun z => Sum.inr (2, z)) (sp_Sg_0 _ _ _))) dX2_copyFrom_5 (fun H locs Z => ?_)
  rw [e_G_1] at Z
  refine lv_aload_n hx hb dX2_copyFrom_8 rfl (lv_at hl 0 rfl) ?_
  refine lv_aload_n hx hb dX2_copyFrom_9 rfl (lv_at hl 1 rfl) ?_
  refine mx_get (v := .int (G_1 d1 1)) (ci := 2) (C := RX2) (T := TX2) (N := 6) X Z hd1.i (hd1.c _) rfl inlX2 1 (by decide) wd_6_15 rfl dX2_copyFrom_10 ?_
  obtain ⟨G_2, e_G_2, hT⟩ := mx_nm hT
  refine mx_put (ci := 2) (C := RX2) (T := TX2) (N := 6) X Z hc.i (hc.c _) rfl inlX2 tyX2 tyX2_ok nmX2 1 (by decide) wd_6_15 rfl rfl rfl (by show 1 < 6; decide) ((hc.c _).trans (congrArg (fun z => Sum.inr (2, z)) (sp_Sg_1 _ _ _))) dX2_copyFrom_13 (fun H locs Z => ?_)
  rw [e_G_2] at Z
  refine lv_aload_n hx hb dX2_copyFrom_16 rfl (lv_at hl 0 rfl) ?_
  refine lv_aload_n hx hb dX2_copyFrom_17 rfl (lv_at hl 1 rfl) ?_
  refine mx_get (v := .int (G_2 d1 2)) (ci := 2) (C := RX2) (T := TX2) (N := 6) X Z hd1.i (hd1.c _) rfl inlX2 2 (by decide) wd_6_16 rfl dX2_copyFrom_18 ?_
  obtain ⟨G_3, e_G_3, hT⟩ := mx_nm hT
  refine mx_put (ci := 2) (C := RX2) (T := TX2) (N := 6) X Z hc.i (hc.c _) rfl inlX2 tyX2 tyX2_ok nmX2 2 (by decide) wd_6_16 rfl rfl rfl (by show 2 < 6; decide) ((hc.c _).trans (congrArg (fun z => Sum.inr (2, z)) (sp_Sg_2 _ _ _))) dX2_copyFrom_21 (fun H locs Z => ?_)
  rw [e_G_3] at Z
  refine lv_aload_n hx hb dX2_copyFrom_24 rfl (lv_at hl 0 rfl) ?_
  refine lv_aload_n hx hb dX2_copyFrom_25 rfl (lv_at hl 1 rfl) ?_
  refine mx_get (v := .int (G_3 d1 3)) (ci := 2) (C := RX2) (T := TX2) (N := 6) X Z hd1.i (hd1.c _) rfl inlX2 3 (by decide) wd_11_14 rfl dX2_copyFrom_26 ?_
  obtain ⟨G_4, e_G_4, hT⟩ := mx_nm hT
  refine mx_put (ci := 2) (C := RX2) (T := TX2) (N := 6) X Z hc.i (hc.c _) rfl inlX2 tyX2 tyX2_ok nmX2 3 (by decide) wd_11_14 rfl rfl rfl (by show 3 < 6; decide) ((hc.c _).trans (congrArg (fun z => Sum.inr (2, z)) (sp_Sg_3 _ _ _))) dX2_copyFrom_29 (fun H locs Z => ?_)
  rw [e_G_4] at Z
  refine lv_aload_n hx hb dX2_copyFrom_32 rfl (lv_at hl 0 rfl) ?_
  refine lv_aload_n hx hb dX2_copyFrom_33 rfl (lv_at hl 1 rfl) ?_
  refine mx_get (v := .int (G_4 d1 4)) (ci := 2) (C := RX2) (T := TX2) (N := 6) X Z hd1.i (hd1.c _) rfl inlX2 4 (by decide) wd_11_15 rfl dX2_copyFrom_34 ?_
  obtain ⟨G_5, e_G_5, hT⟩ := mx_nm hT
  refine mx_put (ci := 2) (C := RX2) (T := TX2) (N := 6) X Z hc.i (hc.c _) rfl inlX2 tyX2 tyX2_ok nmX2 4 (by decide) wd_11_15 rfl rfl rfl (by show 4 < 6; decide) ((hc.c _).trans (congrArg (fun z => Sum.inr (2, z)) (sp_Sg_4 _ _ _))) dX2_copyFrom_37 (fun H locs Z => ?_)
  rw [e_G_5] at Z
  cases hT
  exact W.vret hx hb hr (fun t ht hW => mx_end Z t ht _) Z.2.2.2 dX2_copyFrom_40
/-! PeatRailway$Segment.isPassingPlace -/
def x2_isPassingPlace (c : Nat) (G : mM) : Option Int32 :=
  if (G c 1) < ((2 : Int32)) then
    some ((0 : Int32))
  else
    some ((1 : Int32))
theorem hd2_isPassingPlace : yX2_isPassingPlace.cls = RX2 ∧ yX2_isPassingPlace.cls ≠ "java/lang/invoke/MethodHandle" ∧ yX2_isPassingPlace.cls ≠ "java/lang/invoke/VarHandle" ∧ (parseMethodDescriptor yX2_isPassingPlace.desc).map (fun d => d.parameters.length) = some 0 := by decide +kernel
set_option maxHeartbeats 4000000 in
set_option maxRecDepth 100000 in
theorem c2_isPassingPlace (l : Launch) (E : mE) (hJ : mJ E) {c : Nat} (hc : mSg E c) (G : mM) (q : Int32) (hT : x2_isPassingPlace c G = some q) : mMet l E yX2_isPassingPlace cX2_isPassingPlace 1 (some .boolean) 0 0 [.ref (mad E (c))] G (some (.int q)) G := by
  refine Met.ofW (cc := cX2_isPassingPlace) (maxL := 1) (ret := (some .boolean)) (by decide) rfl ?_
  intro p e s m args below meth cd s₁ B hml hv
  obtain ⟨rfl, hP, hK, hS⟩ := hv
  have X := mx_entry (own := RX2) B hml hK hJ hS rfl
  have hx := X.1
  have hb := X.2.1
  have hown := X.2.2.2.1
  have hts := X.2.2.2.2.1
  have hr := B.returns
  have hlocks := B.notSynchronized
  have hR : 0 ≤ (headSpec (mWs yX2_isPassingPlace cX2_isPassingPlace 1 (some .boolean)) ({ frames := 0, cells := 0, slots := 0, locals := 0 })).room.frames ∧ 0 ≤ (headSpec (mWs yX2_isPassingPlace cX2_isPassingPlace 1 (some .boolean)) ({ frames := 0, cells := 0, slots := 0, locals := 0 })).room.locals := ⟨Nat.le_refl _, Nat.le_refl _⟩
  have Z : mZ E s.heap s.heap [] G := ⟨hP, va_S.rf⟩
  have hl := lv_entry ([.ref (mad E (c))]) (n := 1) (Nat.le_of_ble_eq_true rfl)
  rw [lg_entry_eq]
  generalize (lg_sl ([.ref (mad E (c))]) ++ List.replicate (1 - (lg_sl ([.ref (mad E (c))])).length) Slot.unset).toArray = ls at hl ⊢
  have hl : lv_has ls 1 [(0, .ref (mad E (c)))] := hl
  unfold x2_isPassingPlace at hT
  refine lv_aload_n hx hb dX2_isPassingPlace_0 rfl (lv_at hl 0 rfl) ?_
  refine mx_get (v := .int (G c 1)) (ci := 2) (C := RX2) (T := TX2) (N := 6) X Z hc.i (hc.c _) rfl inlX2 1 (by decide) wd_6_15 rfl dX2_isPassingPlace_1 ?_
  refine lv_iconst (v := (2 : Int32)) hx hb dX2_isPassingPlace_4 (by decide) ?_
  refine lv_icmp_lt (tgt := 12) hx hb dX2_isPassingPlace_5 (by decide) (fun h_1 => ?_) (fun h_1 => ?_)
  · replace hT := mx_t hT h_1
    refine lv_iconst (v := (0 : Int32)) hx hb dX2_isPassingPlace_12 (by decide) ?_
    cases hT
    exact W.zret hx hb hr rfl (fun t ht hW => mx_end Z t ht _) Z.2.2.2 dX2_isPassingPlace_13
  · replace hT := mx_f hT h_1
    refine lv_iconst (v := (1 : Int32)) hx hb dX2_isPassingPlace_8 (by decide) ?_
    refine lv_goto (tgt := 13) hx hb dX2_isPassingPlace_9 (by decide) ?_
    cases hT
    exact W.zret hx hb hr rfl (fun t ht hW => mx_end Z t ht _) Z.2.2.2 dX2_isPassingPlace_13
/-! PeatRailway$Segment.ticksToRise -/
def x2_ticksToRise (c : Nat) (x1 : Int32) (x2 : Int32) (G : mM) : Option Int32 :=
  if (G c 2) ≤ x1 then
    some ((0 : Int32))
  else
    if ((1 : Int32)) ≤ x2 then
      mCk (¬ x2 = 0) <|
      some (((((G c 2) - x1) + x2) - ((1 : Int32))) / x2)
    else
      some ((0 : Int32))
theorem hd2_ticksToRise : yX2_ticksToRise.cls = RX2 ∧ yX2_ticksToRise.cls ≠ "java/lang/invoke/MethodHandle" ∧ yX2_ticksToRise.cls ≠ "java/lang/invoke/VarHandle" ∧ (parseMethodDescriptor yX2_ticksToRise.desc).map (fun d => d.parameters.length) = some 2 := by decide +kernel
set_option maxHeartbeats 4000000 in
set_option maxRecDepth 100000 in
theorem c2_ticksToRise (l : Launch) (E : mE) (hJ : mJ E) {c : Nat} (hc : mSg E c) (x1 : Int32) (x2 : Int32) (G : mM) (q : Int32) (hT : x2_ticksToRise c x1 x2 G = some q) : mMet l E yX2_ticksToRise cX2_ticksToRise 3 (some .int) 0 0 [.ref (mad E (c)), .int (x1), .int (x2)] G (some (.int q)) G := by
  refine Met.ofW (cc := cX2_ticksToRise) (maxL := 3) (ret := (some .int)) (by decide) rfl ?_
  intro p e s m args below meth cd s₁ B hml hv
  obtain ⟨rfl, hP, hK, hS⟩ := hv
  have X := mx_entry (own := RX2) B hml hK hJ hS rfl
  have hx := X.1
  have hb := X.2.1
  have hown := X.2.2.2.1
  have hts := X.2.2.2.2.1
  have hr := B.returns
  have hlocks := B.notSynchronized
  have hR : 0 ≤ (headSpec (mWs yX2_ticksToRise cX2_ticksToRise 3 (some .int)) ({ frames := 0, cells := 0, slots := 0, locals := 0 })).room.frames ∧ 0 ≤ (headSpec (mWs yX2_ticksToRise cX2_ticksToRise 3 (some .int)) ({ frames := 0, cells := 0, slots := 0, locals := 0 })).room.locals := ⟨Nat.le_refl _, Nat.le_refl _⟩
  have Z : mZ E s.heap s.heap [] G := ⟨hP, va_S.rf⟩
  have hl := lv_entry ([.ref (mad E (c)), .int (x1), .int (x2)]) (n := 3) (Nat.le_of_ble_eq_true rfl)
  rw [lg_entry_eq]
  generalize (lg_sl ([.ref (mad E (c)), .int (x1), .int (x2)]) ++ List.replicate (3 - (lg_sl ([.ref (mad E (c)), .int (x1), .int (x2)])).length) Slot.unset).toArray = ls at hl ⊢
  have hl : lv_has ls 3 [(0, .ref (mad E (c))), (1, .int (x1)), (2, .int (x2))] := hl
  unfold x2_ticksToRise at hT
  refine lv_aload_n hx hb dX2_ticksToRise_0 rfl (lv_at hl 0 rfl) ?_
  refine mx_get (v := .int (G c 2)) (ci := 2) (C := RX2) (T := TX2) (N := 6) X Z hc.i (hc.c _) rfl inlX2 2 (by decide) wd_6_16 rfl dX2_ticksToRise_1 ?_
  refine lv_iload_n hx hb dX2_ticksToRise_4 rfl (lv_at hl 1 rfl) ?_
  refine lv_icmp_le (tgt := 13) hx hb dX2_ticksToRise_5 (by decide) (fun h_1 => ?_) (fun h_1 => ?_)
  · replace hT := mx_t hT h_1
    refine lv_iconst (v := (0 : Int32)) hx hb dX2_ticksToRise_13 (by decide) ?_
    cases hT
    exact W.iret hx hb hr (fun t ht hW => mx_end Z t ht _) Z.2.2.2 dX2_ticksToRise_14
  · replace hT := mx_f hT h_1
    refine lv_iload_n hx hb dX2_ticksToRise_8 rfl (lv_at hl 2 rfl) ?_
    refine lv_iconst (v := (1 : Int32)) hx hb dX2_ticksToRise_9 (by decide) ?_
    refine lv_icmp_ge (tgt := 15) hx hb dX2_ticksToRise_10 (by decide) (fun h_2 => ?_) (fun h_2 => ?_)
    · replace hT := mx_t hT h_2
      refine lv_aload_n hx hb dX2_ticksToRise_15 rfl (lv_at hl 0 rfl) ?_
      refine mx_get (v := .int (G c 2)) (ci := 2) (C := RX2) (T := TX2) (N := 6) X Z hc.i (hc.c _) rfl inlX2 2 (by decide) wd_6_16 rfl dX2_ticksToRise_16 ?_
      refine lv_iload_n hx hb dX2_ticksToRise_19 rfl (lv_at hl 1 rfl) ?_
      refine lv_isub hx hb dX2_ticksToRise_20 ?_
      refine lv_iload_n hx hb dX2_ticksToRise_21 rfl (lv_at hl 2 rfl) ?_
      refine lv_iadd hx hb dX2_ticksToRise_22 ?_
      refine lv_iconst (v := (1 : Int32)) hx hb dX2_ticksToRise_23 (by decide) ?_
      refine lv_isub hx hb dX2_ticksToRise_24 ?_
      refine lv_iload_n hx hb dX2_ticksToRise_25 rfl (lv_at hl 2 rfl) ?_
      obtain ⟨h_3, hT⟩ := mx_chk hT
      refine lv_idiv hx hb dX2_ticksToRise_26 h_3 ?_
      cases hT
      exact W.iret hx hb hr (fun t ht hW => mx_end Z t ht _) Z.2.2.2 dX2_ticksToRise_27
    · replace hT := mx_f hT h_2
      refine lv_iconst (v := (0 : Int32)) hx hb dX2_ticksToRise_13 (by decide) ?_
      cases hT
      exact W.iret hx hb hr (fun t ht hW => mx_end Z t ht _) Z.2.2.2 dX2_ticksToRise_14
/-! PeatRailway$Segment.settle -/
def x2_settle (c : Nat) (x1 : Int32) (G : mM) : Option mM :=
  if (G c 5) = 0 then
    mNm (if ((G c 2) - x1) < ((0 : Int32)) then ((0 : Int32)) else ((G c 2) - x1)) fun v_5 =>
    mNm (up2 G c 2 v_5) fun G_6 =>
    mNm (up2 G_6 c 5 ((0 : Int32))) fun G_7 =>
    some (G_7)
  else
    mNm (if ((999 : Int32)) < ((G c 2) + (((G c 5) * (G c 0)) / ((10 : Int32)))) then ((999 : Int32)) else ((G c 2) + (((G c 5) * (G c 0)) / ((10 : Int32))))) fun v_2 =>
    mNm (up2 G c 2 v_2) fun G_3 =>
    mNm (up2 G_3 c 5 ((0 : Int32))) fun G_4 =>
    some (G_4)
theorem hd2_settle : yX2_settle.cls = RX2 ∧ yX2_settle.cls ≠ "java/lang/invoke/MethodHandle" ∧ yX2_settle.cls ≠ "java/lang/invoke/VarHandle" ∧ (parseMethodDescriptor yX2_settle.desc).map (fun d => d.parameters.length) = some 1 := by decide +kernel
set_option maxHeartbeats 4000000 in
set_option maxRecDepth 100000 in
theorem c2_settle (l : Launch) (E : mE) (hJ : mJ E) {c : Nat} (hc : mSg E c) (x1 : Int32) (G : mM) (q : mM) (hT : x2_settle c x1 G = some q) : mMet l E yX2_settle cX2_settle 2 none 1 21 [.ref (mad E (c)), .int (x1)] G (none) q := by
  refine Met.ofW (cc := cX2_settle) (maxL := 2) (ret := none) (by decide) rfl ?_
  intro p e s m args below meth cd s₁ B hml hv
  obtain ⟨rfl, hP, hK, hS⟩ := hv
  have X := mx_entry (own := RX2) B hml hK hJ hS rfl
  have hx := X.1
  have hb := X.2.1
  have hown := X.2.2.2.1
  have hts := X.2.2.2.2.1
  have hr := B.returns
  have hlocks := B.notSynchronized
  have hR : 1 ≤ (headSpec (mWs yX2_settle cX2_settle 2 none) ({ frames := 1, cells := 0, slots := 0, locals := 21 })).room.frames ∧ 21 ≤ (headSpec (mWs yX2_settle cX2_settle 2 none) ({ frames := 1, cells := 0, slots := 0, locals := 21 })).room.locals := ⟨Nat.le_refl _, Nat.le_refl _⟩
  have Z : mZ E s.heap s.heap [] G := ⟨hP, va_S.rf⟩
  have hl := lv_entry ([.ref (mad E (c)), .int (x1)]) (n := 2) (Nat.le_of_ble_eq_true rfl)
  rw [lg_entry_eq]
  generalize (lg_sl ([.ref (mad E (c)), .int (x1)]) ++ List.replicate (2 - (lg_sl ([.ref (mad E (c)), .int (x1)])).length) Slot.unset).toArray = ls at hl ⊢
  have hl : lv_has ls 2 [(0, .ref (mad E (c))), (1, .int (x1))] := hl
  unfold x2_settle at hT
  refine lv_aload_n hx hb dX2_settle_0 rfl (lv_at hl 0 rfl) ?_
  refine mx_get (v := .int (G c 5)) (ci := 2) (C := RX2) (T := TX2) (N := 6) X Z hc.i (hc.c _) rfl inlX2 5 (by decide) wd_20_22 rfl dX2_settle_1 ?_
  refine lv_if_ne (tgt := 24) hx hb dX2_settle_4 (by decide) (fun h_1 => ?_) (fun h_1 => ?_)
  · replace hT := mx_f hT h_1
    refine lv_aload_n hx hb dX2_settle_24 rfl (lv_at hl 0 rfl) ?_
    refine lv_aload_n hx hb dX2_settle_25 rfl (lv_at hl 0 rfl) ?_
    refine mx_get (v := .int (G c 2)) (ci := 2) (C := RX2) (T := TX2) (N := 6) X Z hc.i (hc.c _) rfl inlX2 2 (by decide) wd_6_16 rfl dX2_settle_26 ?_
    refine lv_aload_n hx hb dX2_settle_29 rfl (lv_at hl 0 rfl) ?_
    refine mx_get (v := .int (G c 5)) (ci := 2) (C := RX2) (T := TX2) (N := 6) X Z hc.i (hc.c _) rfl inlX2 5 (by decide) wd_20_22 rfl dX2_settle_30 ?_
    refine lv_aload_n hx hb dX2_settle_33 rfl (lv_at hl 0 rfl) ?_
    refine mx_get (v := .int (G c 0)) (ci := 2) (C := RX2) (T := TX2) (N := 6) X Z hc.i (hc.c _) rfl inlX2 0 (by decide) wd_6_14 rfl dX2_settle_34 ?_
    refine lv_imul hx hb dX2_settle_37 ?_
    refine lv_bipush (v := (10 : Int32)) hx hb dX2_settle_38 (by decide) ?_
    refine lv_idiv hx hb dX2_settle_40 (by decide) ?_
    refine lv_iadd hx hb dX2_settle_41 ?_
    refine lv_sipush (v := (999 : Int32)) hx hb dX2_settle_42 (by decide) ?_
    refine mx_min X hl.1 wd_21_0 wd_21_1 wd_20_12 wd_21_2 (Nat.le_trans (by decide) hR.1) (Nat.le_trans (Nat.le_of_ble_eq_true rfl) hR.2) ⟨Nat.zero_le _, Nat.zero_le _⟩ dX2_settle_45 ?_
    obtain ⟨v_2, e_v_2, hT⟩ := mx_nm hT
    refine mx_tops (congrArg (fun z => (.int (z) :: [.ref (mad E (c))] : List Value)) e_v_2) ?_
    obtain ⟨G_3, e_G_3, hT⟩ := mx_nm hT
    refine mx_put (ci := 2) (C := RX2) (T := TX2) (N := 6) X Z hc.i (hc.c _) rfl inlX2 tyX2 tyX2_ok nmX2 2 (by decide) wd_6_16 rfl rfl rfl (by show 2 < 6; decide) ((hc.c _).trans (congrArg (fun z => Sum.inr (2, z)) (sp_Sg_2 _ _ _))) dX2_settle_48 (fun H locs Z => ?_)
    rw [e_G_3] at Z
    refine lv_aload_n hx hb dX2_settle_51 rfl (lv_at hl 0 rfl) ?_
    refine lv_iconst (v := (0 : Int32)) hx hb dX2_settle_52 (by decide) ?_
    obtain ⟨G_4, e_G_4, hT⟩ := mx_nm hT
    refine mx_put (ci := 2) (C := RX2) (T := TX2) (N := 6) X Z hc.i (hc.c _) rfl inlX2 tyX2 tyX2_ok nmX2 5 (by decide) wd_20_22 rfl rfl rfl (by show 5 < 6; decide) ((hc.c _).trans (congrArg (fun z => Sum.inr (2, z)) (sp_Sg_5 _ _ _))) dX2_settle_53 (fun H locs Z => ?_)
    rw [e_G_4] at Z
    cases hT
    exact W.vret hx hb hr (fun t ht hW => mx_end Z t ht _) Z.2.2.2 dX2_settle_56
  · replace hT := mx_t hT h_1
    refine lv_aload_n hx hb dX2_settle_7 rfl (lv_at hl 0 rfl) ?_
    refine lv_aload_n hx hb dX2_settle_8 rfl (lv_at hl 0 rfl) ?_
    refine mx_get (v := .int (G c 2)) (ci := 2) (C := RX2) (T := TX2) (N := 6) X Z hc.i (hc.c _) rfl inlX2 2 (by decide) wd_6_16 rfl dX2_settle_9 ?_
    refine lv_iload_n hx hb dX2_settle_12 rfl (lv_at hl 1 rfl) ?_
    refine lv_isub hx hb dX2_settle_13 ?_
    refine lv_iconst (v := (0 : Int32)) hx hb dX2_settle_14 (by decide) ?_
    refine mx_max X hl.1 wd_20_23 wd_20_11 wd_20_12 wd_20_13 (Nat.le_trans (by decide) hR.1) (Nat.le_trans (Nat.le_of_ble_eq_true rfl) hR.2) ⟨Nat.zero_le _, Nat.zero_le _⟩ dX2_settle_15 ?_
    obtain ⟨v_5, e_v_5, hT⟩ := mx_nm hT
    refine mx_tops (congrArg (fun z => (.int (z) :: [.ref (mad E (c))] : List Value)) e_v_5) ?_
    obtain ⟨G_6, e_G_6, hT⟩ := mx_nm hT
    refine mx_put (ci := 2) (C := RX2) (T := TX2) (N := 6) X Z hc.i (hc.c _) rfl inlX2 tyX2 tyX2_ok nmX2 2 (by decide) wd_6_16 rfl rfl rfl (by show 2 < 6; decide) ((hc.c _).trans (congrArg (fun z => Sum.inr (2, z)) (sp_Sg_2 _ _ _))) dX2_settle_18 (fun H locs Z => ?_)
    rw [e_G_6] at Z
    refine lv_goto (tgt := 51) hx hb dX2_settle_21 (by decide) ?_
    refine lv_aload_n hx hb dX2_settle_51 rfl (lv_at hl 0 rfl) ?_
    refine lv_iconst (v := (0 : Int32)) hx hb dX2_settle_52 (by decide) ?_
    obtain ⟨G_7, e_G_7, hT⟩ := mx_nm hT
    refine mx_put (ci := 2) (C := RX2) (T := TX2) (N := 6) X Z hc.i (hc.c _) rfl inlX2 tyX2 tyX2_ok nmX2 5 (by decide) wd_20_22 rfl rfl rfl (by show 5 < 6; decide) ((hc.c _).trans (congrArg (fun z => Sum.inr (2, z)) (sp_Sg_5 _ _ _))) dX2_settle_53 (fun H locs Z => ?_)
    rw [e_G_7] at Z
    cases hT
    exact W.vret hx hb hr (fun t ht hW => mx_end Z t ht _) Z.2.2.2 dX2_settle_56
/-! PeatRailway$Train.start -/
def x4_start (c : Nat) (x1 : Int32) (x2 : Int32) (G : mM) : Option mM :=
  mNm (up2 G c 0 x1) fun G_1 =>
  mNm (up2 G_1 c 1 x2) fun G_2 =>
  mNm (up2 G_2 c 2 ((0 : Int32))) fun G_3 =>
  mNm (up2 G_3 c 3 ((0 : Int32))) fun G_4 =>
  mNm (up2 G_4 c 4 ((0 : Int32))) fun G_5 =>
  mNm (up2 G_5 c 5 ((0 : Int32))) fun G_6 =>
  mNm (up2 G_6 c 6 ((0 : Int32))) fun G_7 =>
  mNm (up2 G_7 c 7 ((0 : Int32))) fun G_8 =>
  mNm (up2 G_8 c 8 ((0 : Int32))) fun G_9 =>
  some (G_9)
theorem hd4_start : yX4_start.cls = RX4 ∧ yX4_start.cls ≠ "java/lang/invoke/MethodHandle" ∧ yX4_start.cls ≠ "java/lang/invoke/VarHandle" ∧ (parseMethodDescriptor yX4_start.desc).map (fun d => d.parameters.length) = some 2 := by decide +kernel
set_option maxHeartbeats 4000000 in
set_option maxRecDepth 100000 in
theorem c4_start (l : Launch) (E : mE) (hJ : mJ E) {c : Nat} (hc : mTr E c) (x1 : Int32) (x2 : Int32) (G : mM) (q : mM) (hT : x4_start c x1 x2 G = some q) : mMet l E yX4_start cX4_start 3 none 0 0 [.ref (mad E (c)), .int (x1), .int (x2)] G (none) q := by
  refine Met.ofW (cc := cX4_start) (maxL := 3) (ret := none) (by decide) rfl ?_
  intro p e s m args below meth cd s₁ B hml hv
  obtain ⟨rfl, hP, hK, hS⟩ := hv
  have X := mx_entry (own := RX4) B hml hK hJ hS rfl
  have hx := X.1
  have hb := X.2.1
  have hown := X.2.2.2.1
  have hts := X.2.2.2.2.1
  have hr := B.returns
  have hlocks := B.notSynchronized
  have hR : 0 ≤ (headSpec (mWs yX4_start cX4_start 3 none) ({ frames := 0, cells := 0, slots := 0, locals := 0 })).room.frames ∧ 0 ≤ (headSpec (mWs yX4_start cX4_start 3 none) ({ frames := 0, cells := 0, slots := 0, locals := 0 })).room.locals := ⟨Nat.le_refl _, Nat.le_refl _⟩
  have Z : mZ E s.heap s.heap [] G := ⟨hP, va_S.rf⟩
  have hl := lv_entry ([.ref (mad E (c)), .int (x1), .int (x2)]) (n := 3) (Nat.le_of_ble_eq_true rfl)
  rw [lg_entry_eq]
  generalize (lg_sl ([.ref (mad E (c)), .int (x1), .int (x2)]) ++ List.replicate (3 - (lg_sl ([.ref (mad E (c)), .int (x1), .int (x2)])).length) Slot.unset).toArray = ls at hl ⊢
  have hl : lv_has ls 3 [(0, .ref (mad E (c))), (1, .int (x1)), (2, .int (x2))] := hl
  unfold x4_start at hT
  refine lv_aload_n hx hb dX4_start_0 rfl (lv_at hl 0 rfl) ?_
  refine lv_iload_n hx hb dX4_start_1 rfl (lv_at hl 1 rfl) ?_
  obtain ⟨G_1, e_G_1, hT⟩ := mx_nm hT
  refine mx_put (ci := 4) (C := RX4) (T := TX4) (N := 10) X Z hc.i (hc.c _) rfl inlX4 tyX4 tyX4_ok nmX4 0 (by decide) wd_11_20 rfl rfl rfl (by show 0 < 10; decide) ((hc.c _).trans (congrArg (fun z => Sum.inr (4, z)) (sp_Tr_0 _ _ _))) dX4_start_2 (fun H locs Z => ?_)
  rw [e_G_1] at Z
  refine lv_aload_n hx hb dX4_start_5 rfl (lv_at hl 0 rfl) ?_
  refine lv_iload_n hx hb dX4_start_6 rfl (lv_at hl 2 rfl) ?_
  obtain ⟨G_2, e_G_2, hT⟩ := mx_nm hT
  refine mx_put (ci := 4) (C := RX4) (T := TX4) (N := 10) X Z hc.i (hc.c _) rfl inlX4 tyX4 tyX4_ok nmX4 1 (by decide) wd_11_21 rfl rfl rfl (by show 1 < 10; decide) ((hc.c _).trans (congrArg (fun z => Sum.inr (4, z)) (sp_Tr_1 _ _ _))) dX4_start_7 (fun H locs Z => ?_)
  rw [e_G_2] at Z
  refine lv_aload_n hx hb dX4_start_10 rfl (lv_at hl 0 rfl) ?_
  refine lv_iconst (v := (0 : Int32)) hx hb dX4_start_11 (by decide) ?_
  obtain ⟨G_3, e_G_3, hT⟩ := mx_nm hT
  refine mx_put (ci := 4) (C := RX4) (T := TX4) (N := 10) X Z hc.i (hc.c _) rfl inlX4 tyX4 tyX4_ok nmX4 2 (by decide) wd_11_22 rfl rfl rfl (by show 2 < 10; decide) ((hc.c _).trans (congrArg (fun z => Sum.inr (4, z)) (sp_Tr_2 _ _ _))) dX4_start_12 (fun H locs Z => ?_)
  rw [e_G_3] at Z
  refine lv_aload_n hx hb dX4_start_15 rfl (lv_at hl 0 rfl) ?_
  refine lv_iconst (v := (0 : Int32)) hx hb dX4_start_16 (by decide) ?_
  obtain ⟨G_4, e_G_4, hT⟩ := mx_nm hT
  refine mx_put (ci := 4) (C := RX4) (T := TX4) (N := 10) X Z hc.i (hc.c _) rfl inlX4 tyX4 tyX4_ok nmX4 3 (by decide) wd_11_23 rfl rfl rfl (by show 3 < 10; decide) ((hc.c _).trans (congrArg (fun z => Sum.inr (4, z)) (sp_Tr_3 _ _ _))) dX4_start_17 (fun H locs Z => ?_)
  rw [e_G_4] at Z
  refine lv_aload_n hx hb dX4_start_20 rfl (lv_at hl 0 rfl) ?_
  refine lv_iconst (v := (0 : Int32)) hx hb dX4_start_21 (by decide) ?_
  obtain ⟨G_5, e_G_5, hT⟩ := mx_nm hT
  refine mx_put (ci := 4) (C := RX4) (T := TX4) (N := 10) X Z hc.i (hc.c _) rfl inlX4 tyX4 tyX4_ok nmX4 4 (by decide) wd_12_0 rfl rfl rfl (by show 4 < 10; decide) ((hc.c _).trans (congrArg (fun z => Sum.inr (4, z)) (sp_Tr_4 _ _ _))) dX4_start_22 (fun H locs Z => ?_)
  rw [e_G_5] at Z
  refine lv_aload_n hx hb dX4_start_25 rfl (lv_at hl 0 rfl) ?_
  refine lv_iconst (v := (0 : Int32)) hx hb dX4_start_26 (by decide) ?_
  obtain ⟨G_6, e_G_6, hT⟩ := mx_nm hT
  refine mx_put (ci := 4) (C := RX4) (T := TX4) (N := 10) X Z hc.i (hc.c _) rfl inlX4 tyX4 tyX4_ok nmX4 5 (by decide) wd_12_1 rfl rfl rfl (by show 5 < 10; decide) ((hc.c _).trans (congrArg (fun z => Sum.inr (4, z)) (sp_Tr_5 _ _ _))) dX4_start_27 (fun H locs Z => ?_)
  rw [e_G_6] at Z
  refine lv_aload_n hx hb dX4_start_30 rfl (lv_at hl 0 rfl) ?_
  refine lv_iconst (v := (0 : Int32)) hx hb dX4_start_31 (by decide) ?_
  obtain ⟨G_7, e_G_7, hT⟩ := mx_nm hT
  refine mx_put (ci := 4) (C := RX4) (T := TX4) (N := 10) X Z hc.i (hc.c _) rfl inlX4 tyX4 tyX4_ok nmX4 6 (by decide) wd_12_2 rfl rfl rfl (by show 6 < 10; decide) ((hc.c _).trans (congrArg (fun z => Sum.inr (4, z)) (sp_Tr_6 _ _ _))) dX4_start_32 (fun H locs Z => ?_)
  rw [e_G_7] at Z
  refine lv_aload_n hx hb dX4_start_35 rfl (lv_at hl 0 rfl) ?_
  refine lv_iconst (v := (0 : Int32)) hx hb dX4_start_36 (by decide) ?_
  obtain ⟨G_8, e_G_8, hT⟩ := mx_nm hT
  refine mx_put (ci := 4) (C := RX4) (T := TX4) (N := 10) X Z hc.i (hc.c _) rfl inlX4 tyX4 tyX4_ok nmX4 7 (by decide) wd_12_3 rfl rfl rfl (by show 7 < 10; decide) ((hc.c _).trans (congrArg (fun z => Sum.inr (4, z)) (sp_Tr_7 _ _ _))) dX4_start_37 (fun H locs Z => ?_)
  rw [e_G_8] at Z
  refine lv_aload_n hx hb dX4_start_40 rfl (lv_at hl 0 rfl) ?_
  refine lv_iconst (v := (0 : Int32)) hx hb dX4_start_41 (by decide) ?_
  obtain ⟨G_9, e_G_9, hT⟩ := mx_nm hT
  refine mx_put (ci := 4) (C := RX4) (T := TX4) (N := 10) X Z hc.i (hc.c _) rfl inlX4 tyX4 tyX4_ok nmX4 8 (by decide) wd_12_4 rfl rfl rfl (by show 8 < 10; decide) ((hc.c _).trans (congrArg (fun z => Sum.inr (4, z)) (sp_Tr_8 _ _ _))) dX4_start_42 (fun H locs Z => ?_)
  rw [e_G_9] at Z
  cases hT
  exact W.vret hx hb hr (fun t ht hW => mx_end Z t ht _) Z.2.2.2 dX4_start_45
/-! PeatRailway$Train.copyFrom -/
def x4_copyFrom (c : Nat) (d1 : Nat) (G : mM) : Option mM :=
  mNm (up2 G c 0 (G d1 0)) fun G_1 =>
  mNm (up2 G_1 c 1 (G_1 d1 1)) fun G_2 =>
  mNm (up2 G_2 c 2 (G_2 d1 2)) fun G_3 =>
  mNm (up2 G_3 c 3 (G_3 d1 3)) fun G_4 =>
  mCk (mBl (G_4 d1 4)) <|
  mNm (up2 G_4 c 4 (G_4 d1 4)) fun G_6 =>
  mNm (up2 G_6 c 5 (G_6 d1 5)) fun G_7 =>
  mNm (up2 G_7 c 6 (G_7 d1 6)) fun G_8 =>
  mNm (up2 G_8 c 7 (G_8 d1 7)) fun G_9 =>
  mNm (up2 G_9 c 8 (G_9 d1 8)) fun G_10 =>
  some (G_10)
theorem hd4_copyFrom : yX4_copyFrom.cls = RX4 ∧ yX4_copyFrom.cls ≠ "java/lang/invoke/MethodHandle" ∧ yX4_copyFrom.cls ≠ "java/lang/invoke/VarHandle" ∧ (parseMethodDescriptor yX4_copyFrom.desc).map (fun d => d.parameters.length) = some 1 := by decide +kernel
set_option maxHeartbeats 4000000 in
set_option maxRecDepth 100000 in
theorem c4_copyFrom (l : Launch) (E : mE) (hJ : mJ E) {c : Nat} {d1 : Nat} (hc : mTr E c) (hd1 : mTr E d1) (G : mM) (q : mM) (hT : x4_copyFrom c d1 G = some q) : mMet l E yX4_copyFrom cX4_copyFrom 2 none 0 0 [.ref (mad E (c)), .ref (mad E (d1))] G (none) q := by
  refine Met.ofW (cc := cX4_copyFrom) (maxL := 2) (ret := none) (by decide) rfl ?_
  intro p e s m args below meth cd s₁ B hml hv
  obtain ⟨rfl, hP, hK, hS⟩ := hv
  have X := mx_entry (own := RX4) B hml hK hJ hS rfl
  have hx := X.1
  have hb := X.2.1
  have hown := X.2.2.2.1
  have hts := X.2.2.2.2.1
  have hr := B.returns
  have hlocks := B.notSynchronized
  have hR : 0 ≤ (headSpec (mWs yX4_copyFrom cX4_copyFrom 2 none) ({ frames := 0, cells := 0, slots := 0, locals := 0 })).room.frames ∧ 0 ≤ (headSpec (mWs yX4_copyFrom cX4_copyFrom 2 none) ({ frames := 0, cells := 0, slots := 0, locals := 0 })).room.locals := ⟨Nat.le_refl _, Nat.le_refl _⟩
  have Z : mZ E s.heap s.heap [] G := ⟨hP, va_S.rf⟩
  have hl := lv_entry ([.ref (mad E (c)), .ref (mad E (d1))]) (n := 2) (Nat.le_of_ble_eq_true rfl)
  rw [lg_entry_eq]
  generalize (lg_sl ([.ref (mad E (c)), .ref (mad E (d1))]) ++ List.replicate (2 - (lg_sl ([.ref (mad E (c)), .ref (mad E (d1))])).length) Slot.unset).toArray = ls at hl ⊢
  have hl : lv_has ls 2 [(0, .ref (mad E (c))), (1, .ref (mad E (d1)))] := hl
  unfold x4_copyFrom at hT
  refine lv_aload_n hx hb dX4_copyFrom_0 rfl (lv_at hl 0 rfl) ?_
  refine lv_aload_n hx hb dX4_copyFrom_1 rfl (lv_at hl 1 rfl) ?_
  refine mx_get (v := .int (G d1 0)) (ci := 4) (C := RX4) (T := TX4) (N := 10) X Z hd1.i (hd1.c _) rfl inlX4 0 (by decide) wd_11_20 rfl dX4_copyFrom_2 ?_
  obtain ⟨G_1, e_G_1, hT⟩ := mx_nm hT
  refine mx_put (ci := 4) (C := RX4) (T := TX4) (N := 10) X Z hc.i (hc.c _) rfl inlX4 tyX4 tyX4_ok nmX4 0 (by decide) wd_11_20 rfl rfl rfl (by show 0 < 10; decide) ((hc.c _).trans (congrArg (fun z => Sum.inr (4, z)) (sp_Tr_0 _ _ _))) dX4_copyFrom_5 (fun H locs Z => ?_)
  rw [e_G_1] at Z
  refine lv_aload_n hx hb dX4_copyFrom_8 rfl (lv_at hl 0 rfl) ?_
  refine lv_aload_n hx hb dX4_copyFrom_9 rfl (lv_at hl 1 rfl) ?_
  refine mx_get (v := .int (G_1 d1 1)) (ci := 4) (C := RX4) (T := TX4) (N := 10) X Z hd1.i (hd1.c _) rfl inlX4 1 (by decide) wd_11_21 rfl dX4_copyFrom_10 ?_
  obtain ⟨G_2, e_G_2, hT⟩ := mx_nm hT
  refine mx_put (ci := 4) (C := RX4) (T := TX4) (N := 10) X Z hc.i (hc.c _) rfl inlX4 tyX4 tyX4_ok nmX4 1 (by decide) wd_11_21 rfl rfl rfl (by show 1 < 10; decide) ((hc.c _).trans (congrArg (fun z => Sum.inr (4, z)) (sp_Tr_1 _ _ _))) dX4_copyFrom_13 (fun H locs Z => ?_)
  rw [e_G_2] at Z
  refine lv_aload_n hx hb dX4_copyFrom_16 rfl (lv_at hl 0 rfl) ?_
  refine lv_aload_n hx hb dX4_copyFrom_17 rfl (lv_at hl 1 rfl) ?_
  refine mx_get (v := .int (G_2 d1 2)) (ci := 4) (C := RX4) (T := TX4) (N := 10) X Z hd1.i (hd1.c _) rfl inlX4 2 (by decide) wd_11_22 rfl dX4_copyFrom_18 ?_
  obtain ⟨G_3, e_G_3, hT⟩ := mx_nm hT
  refine mx_put (ci := 4) (C := RX4) (T := TX4) (N := 10) X Z hc.i (hc.c _) rfl inlX4 tyX4 tyX4_ok nmX4 2 (by decide) wd_11_22 rfl rfl rfl (by show 2 < 10; decide) ((hc.c _).trans (congrArg (fun z => Sum.inr (4, z)) (sp_Tr_2 _ _ _))) dX4_copyFrom_21 (fun H locs Z => ?_)
  rw [e_G_3] at Z
  refine lv_aload_n hx hb dX4_copyFrom_24 rfl (lv_at hl 0 rfl) ?_
  refine lv_aload_n hx hb dX4_copyFrom_25 rfl (lv_at hl 1 rfl) ?_
  refine mx_get (v := .int (G_3 d1 3)) (ci := 4) (C := RX4) (T := TX4) (N := 10) X Z hd1.i (hd1.c _) rfl inlX4 3 (by decide) wd_11_23 rfl dX4_copyFrom_26 ?_
  obtain ⟨G_4, e_G_4, hT⟩ := mx_nm hT
  refine mx_put (ci := 4) (C := RX4) (T := TX4) (N := 10) X Z hc.i (hc.c _) rfl inlX4 tyX4 tyX4_ok nmX4 3 (by decide) wd_11_23 rfl rfl rfl (by show 3 < 10; decide) ((hc.c _).trans (congrArg (fun z => Sum.inr (4, z)) (sp_Tr_3 _ _ _))) dX4_copyFrom_29 (fun H locs Z => ?_)
  rw [e_G_4] at Z
  refine lv_aload_n hx hb dX4_copyFrom_32 rfl (lv_at hl 0 rfl) ?_
  refine lv_aload_n hx hb dX4_copyFrom_33 rfl (lv_at hl 1 rfl) ?_
  refine mx_get (v := .int (G_4 d1 4)) (ci := 4) (C := RX4) (T := TX4) (N := 10) X Z hd1.i (hd1.c _) rfl inlX4 4 (by decide) wd_12_0 rfl dX4_copyFrom_34 ?_
  obtain ⟨h_5, hT⟩ := mx_chk hT
  obtain ⟨G_6, e_G_6, hT⟩ := mx_nm hT
  refine mx_put (ci := 4) (C := RX4) (T := TX4) (N := 10) X Z hc.i (hc.c _) rfl inlX4 tyX4 tyX4_ok nmX4 4 (by decide) wd_12_0 rfl (mBl.n h_5) (mBl.f h_5) (by show 4 < 10; decide) ((hc.c _).trans (congrArg (fun z => Sum.inr (4, z)) (sp_Tr_4 _ _ _))) dX4_copyFrom_37 (fun H locs Z => ?_)
  rw [e_G_6] at Z
  refine lv_aload_n hx hb dX4_copyFrom_40 rfl (lv_at hl 0 rfl) ?_
  refine lv_aload_n hx hb dX4_copyFrom_41 rfl (lv_at hl 1 rfl) ?_
  refine mx_get (v := .int (G_6 d1 5)) (ci := 4) (C := RX4) (T := TX4) (N := 10) X Z hd1.i (hd1.c _) rfl inlX4 5 (by decide) wd_12_1 rfl dX4_copyFrom_42 ?_
  obtain ⟨G_7, e_G_7, hT⟩ := mx_nm hT
  refine mx_put (ci := 4) (C := RX4) (T := TX4) (N := 10) X Z hc.i (hc.c _) rfl inlX4 tyX4 tyX4_ok nmX4 5 (by decide) wd_12_1 rfl rfl rfl (by show 5 < 10; decide) ((hc.c _).trans (congrArg (fun z => Sum.inr (4, z)) (sp_Tr_5 _ _ _))) dX4_copyFrom_45 (fun H locs Z => ?_)
  rw [e_G_7] at Z
  refine lv_aload_n hx hb dX4_copyFrom_48 rfl (lv_at hl 0 rfl) ?_
  refine lv_aload_n hx hb dX4_copyFrom_49 rfl (lv_at hl 1 rfl) ?_
  refine mx_get (v := .int (G_7 d1 6)) (ci := 4) (C := RX4) (T := TX4) (N := 10) X Z hd1.i (hd1.c _) rfl inlX4 6 (by decide) wd_12_2 rfl dX4_copyFrom_50 ?_
  obtain ⟨G_8, e_G_8, hT⟩ := mx_nm hT
  refine mx_put (ci := 4) (C := RX4) (T := TX4) (N := 10) X Z hc.i (hc.c _) rfl inlX4 tyX4 tyX4_ok nmX4 6 (by decide) wd_12_2 rfl rfl rfl (by show 6 < 10; decide) ((hc.c _).trans (congrArg (fun z => Sum.inr (4, z)) (sp_Tr_6 _ _ _))) dX4_copyFrom_53 (fun H locs Z => ?_)
  rw [e_G_8] at Z
  refine lv_aload_n hx hb dX4_copyFrom_56 rfl (lv_at hl 0 rfl) ?_
  refine lv_aload_n hx hb dX4_copyFrom_57 rfl (lv_at hl 1 rfl) ?_
  refine mx_get (v := .int (G_8 d1 7)) (ci := 4) (C := RX4) (T := TX4) (N := 10) X Z hd1.i (hd1.c _) rfl inlX4 7 (by decide) wd_12_3 rfl dX4_copyFrom_58 ?_
  obtain ⟨G_9, e_G_9, hT⟩ := mx_nm hT
  refine mx_put (ci := 4) (C := RX4) (T := TX4) (N := 10) X Z hc.i (hc.c _) rfl inlX4 tyX4 tyX4_ok nmX4 7 (by decide) wd_12_3 rfl rfl rfl (by show 7 < 10; decide) ((hc.c _).trans (congrArg (fun z => Sum.inr (4, z)) (sp_Tr_7 _ _ _))) dX4_copyFrom_61 (fun H locs Z => ?_)
  rw [e_G_9] at Z
  refine lv_aload_n hx hb dX4_copyFrom_64 rfl (lv_at hl 0 rfl) ?_
  refine lv_aload_n hx hb dX4_copyFrom_65 rfl (lv_at hl 1 rfl) ?_
  refine mx_get (v := .int (G_9 d1 8)) (ci := 4) (C := RX4) (T := TX4) (N := 10) X Z hd1.i (hd1.c _) rfl inlX4 8 (by decide) wd_12_4 rfl dX4_copyFrom_66 ?_
  obtain ⟨G_10, e_G_10, hT⟩ := mx_nm hT
  refine mx_put (ci := 4) (C := RX4) (T := TX4) (N := 10) X Z hc.i (hc.c _) rfl inlX4 tyX4 tyX4_ok nmX4 8 (by decide) wd_12_4 rfl rfl rfl (by show 8 < 10; decide) ((hc.c _).trans (congrArg (fun z => Sum.inr (4, z)) (sp_Tr_8 _ _ _))) dX4_copyFrom_69 (fun H locs Z => ?_)
  rw [e_G_10] at Z
  cases hT
  exact W.vret hx hb hr (fun t ht hW => mx_end Z t ht _) Z.2.2.2 dX4_copyFrom_72
/-! PeatRailway$Train.fullLoad -/
def x4_fullLoad (c : Nat) (G : mM) : Option Int32 :=
  some ((G c 0) * (G c 1))
theorem hd4_fullLoad : yX4_fullLoad.cls = RX4 ∧ yX4_fullLoad.cls ≠ "java/lang/invoke/MethodHandle" ∧ yX4_fullLoad.cls ≠ "java/lang/invoke/VarHandle" ∧ (parseMethodDescriptor yX4_fullLoad.desc).map (fun d => d.parameters.length) = some 0 := by decide +kernel
set_option maxHeartbeats 4000000 in
set_option maxRecDepth 100000 in
theorem c4_fullLoad (l : Launch) (E : mE) (hJ : mJ E) {c : Nat} (hc : mTr E c) (G : mM) (q : Int32) (hT : x4_fullLoad c G = some q) : mMet l E yX4_fullLoad cX4_fullLoad 1 (some .int) 0 0 [.ref (mad E (c))] G (some (.int q)) G := by
  refine Met.ofW (cc := cX4_fullLoad) (maxL := 1) (ret := (some .int)) (by decide) rfl ?_
  intro p e s m args below meth cd s₁ B hml hv
  obtain ⟨rfl, hP, hK, hS⟩ := hv
  have X := mx_entry (own := RX4) B hml hK hJ hS rfl
  have hx := X.1
  have hb := X.2.1
  have hown := X.2.2.2.1
  have hts := X.2.2.2.2.1
  have hr := B.returns
  have hlocks := B.notSynchronized
  have hR : 0 ≤ (headSpec (mWs yX4_fullLoad cX4_fullLoad 1 (some .int)) ({ frames := 0, cells := 0, slots := 0, locals := 0 })).room.frames ∧ 0 ≤ (headSpec (mWs yX4_fullLoad cX4_fullLoad 1 (some .int)) ({ frames := 0, cells := 0, slots := 0, locals := 0 })).room.locals := ⟨Nat.le_refl _, Nat.le_refl _⟩
  have Z : mZ E s.heap s.heap [] G := ⟨hP, va_S.rf⟩
  have hl := lv_entry ([.ref (mad E (c))]) (n := 1) (Nat.le_of_ble_eq_true rfl)
  rw [lg_entry_eq]
  generalize (lg_sl ([.ref (mad E (c))]) ++ List.replicate (1 - (lg_sl ([.ref (mad E (c))])).length) Slot.unset).toArray = ls at hl ⊢
  have hl : lv_has ls 1 [(0, .ref (mad E (c)))] := hl
  unfold x4_fullLoad at hT
  refine lv_aload_n hx hb dX4_fullLoad_0 rfl (lv_at hl 0 rfl) ?_
  refine mx_get (v := .int (G c 0)) (ci := 4) (C := RX4) (T := TX4) (N := 10) X Z hc.i (hc.c _) rfl inlX4 0 (by decide) wd_11_20 rfl dX4_fullLoad_1 ?_
  refine lv_aload_n hx hb dX4_fullLoad_4 rfl (lv_at hl 0 rfl) ?_
  refine mx_get (v := .int (G c 1)) (ci := 4) (C := RX4) (T := TX4) (N := 10) X Z hc.i (hc.c _) rfl inlX4 1 (by decide) wd_11_21 rfl dX4_fullLoad_5 ?_
  refine lv_imul hx hb dX4_fullLoad_8 ?_
  cases hT
  exact W.iret hx hb hr (fun t ht hW => mx_end Z t ht _) Z.2.2.2 dX4_fullLoad_9
/-! PeatRailway$Train.weight -/
def x4_weight (c : Nat) (G : mM) : Option Int32 :=
  some ((((4 : Int32)) + (((2 : Int32)) * (G c 0))) + (G c 2))
theorem hd4_weight : yX4_weight.cls = RX4 ∧ yX4_weight.cls ≠ "java/lang/invoke/MethodHandle" ∧ yX4_weight.cls ≠ "java/lang/invoke/VarHandle" ∧ (parseMethodDescriptor yX4_weight.desc).map (fun d => d.parameters.length) = some 0 := by decide +kernel
set_option maxHeartbeats 4000000 in
set_option maxRecDepth 100000 in
theorem c4_weight (l : Launch) (E : mE) (hJ : mJ E) {c : Nat} (hc : mTr E c) (G : mM) (q : Int32) (hT : x4_weight c G = some q) : mMet l E yX4_weight cX4_weight 1 (some .int) 0 0 [.ref (mad E (c))] G (some (.int q)) G := by
  refine Met.ofW (cc := cX4_weight) (maxL := 1) (ret := (some .int)) (by decide) rfl ?_
  intro p e s m args below meth cd s₁ B hml hv
  obtain ⟨rfl, hP, hK, hS⟩ := hv
  have X := mx_entry (own := RX4) B hml hK hJ hS rfl
  have hx := X.1
  have hb := X.2.1
  have hown := X.2.2.2.1
  have hts := X.2.2.2.2.1
  have hr := B.returns
  have hlocks := B.notSynchronized
  have hR : 0 ≤ (headSpec (mWs yX4_weight cX4_weight 1 (some .int)) ({ frames := 0, cells := 0, slots := 0, locals := 0 })).room.frames ∧ 0 ≤ (headSpec (mWs yX4_weight cX4_weight 1 (some .int)) ({ frames := 0, cells := 0, slots := 0, locals := 0 })).room.locals := ⟨Nat.le_refl _, Nat.le_refl _⟩
  have Z : mZ E s.heap s.heap [] G := ⟨hP, va_S.rf⟩
  have hl := lv_entry ([.ref (mad E (c))]) (n := 1) (Nat.le_of_ble_eq_true rfl)
  rw [lg_entry_eq]
  generalize (lg_sl ([.ref (mad E (c))]) ++ List.replicate (1 - (lg_sl ([.ref (mad E (c))])).length) Slot.unset).toArray = ls at hl ⊢
  have hl : lv_has ls 1 [(0, .ref (mad E (c)))] := hl
  unfold x4_weight at hT
  refine lv_iconst (v := (4 : Int32)) hx hb dX4_weight_0 (by decide) ?_
  refine lv_iconst (v := (2 : Int32)) hx hb dX4_weight_1 (by decide) ?_
  refine lv_aload_n hx hb dX4_weight_2 rfl (lv_at hl 0 rfl) ?_
  refine mx_get (v := .int (G c 0)) (ci := 4) (C := RX4) (T := TX4) (N := 10) X Z hc.i (hc.c _) rfl inlX4 0 (by decide) wd_11_20 rfl dX4_weight_3 ?_
  refine lv_imul hx hb dX4_weight_6 ?_
  refine lv_iadd hx hb dX4_weight_7 ?_
  refine lv_aload_n hx hb dX4_weight_8 rfl (lv_at hl 0 rfl) ?_
  refine mx_get (v := .int (G c 2)) (ci := 4) (C := RX4) (T := TX4) (N := 10) X Z hc.i (hc.c _) rfl inlX4 2 (by decide) wd_11_22 rfl dX4_weight_9 ?_
  refine lv_iadd hx hb dX4_weight_12 ?_
  cases hT
  exact W.iret hx hb hr (fun t ht hW => mx_end Z t ht _) Z.2.2.2 dX4_weight_13
/-! PeatRailway$State.segmentAt -/
def x3_segmentAt (c : Nat) (x1 : Int32) (G : mM) : Option (Option Nat) :=
  if x1 < 0 then
    some (none)
  else
    if (G c 3) ≤ x1 then
      some (none)
    else
      if x1 < ((12 : Int32)) then
        mCk (mIn x1 12) <|
        some (some (c + 4 + x1.toNatClampNeg))
      else
        some (none)
theorem hd3_segmentAt : yX3_segmentAt.cls = RX3 ∧ yX3_segmentAt.cls ≠ "java/lang/invoke/MethodHandle" ∧ yX3_segmentAt.cls ≠ "java/lang/invoke/VarHandle" ∧ (parseMethodDescriptor yX3_segmentAt.desc).map (fun d => d.parameters.length) = some 1 := by decide +kernel
set_option maxHeartbeats 4000000 in
set_option maxRecDepth 100000 in
theorem c3_segmentAt (l : Launch) (E : mE) (hJ : mJ E) {c : Nat} (hc : mSt E c) (x1 : Int32) (G : mM) (q : (Option Nat)) (hT : x3_segmentAt c x1 G = some q) : mMet l E yX3_segmentAt cX3_segmentAt 2 (some (.object "PeatRailway$Segment")) 0 0 [.ref (mad E (c)), .int (x1)] G (some (va_re (mad E) q)) G := by
  refine Met.ofW (cc := cX3_segmentAt) (maxL := 2) (ret := (some (.object "PeatRailway$Segment"))) (by decide) rfl ?_
  intro p e s m args below meth cd s₁ B hml hv
  obtain ⟨rfl, hP, hK, hS⟩ := hv
  have X := mx_entry (own := RX3) B hml hK hJ hS rfl
  have hx := X.1
  have hb := X.2.1
  have hown := X.2.2.2.1
  have hts := X.2.2.2.2.1
  have hr := B.returns
  have hlocks := B.notSynchronized
  have hR : 0 ≤ (headSpec (mWs yX3_segmentAt cX3_segmentAt 2 (some (.object "PeatRailway$Segment"))) ({ frames := 0, cells := 0, slots := 0, locals := 0 })).room.frames ∧ 0 ≤ (headSpec (mWs yX3_segmentAt cX3_segmentAt 2 (some (.object "PeatRailway$Segment"))) ({ frames := 0, cells := 0, slots := 0, locals := 0 })).room.locals := ⟨Nat.le_refl _, Nat.le_refl _⟩
  have Z : mZ E s.heap s.heap [] G := ⟨hP, va_S.rf⟩
  have hl := lv_entry ([.ref (mad E (c)), .int (x1)]) (n := 2) (Nat.le_of_ble_eq_true rfl)
  rw [lg_entry_eq]
  generalize (lg_sl ([.ref (mad E (c)), .int (x1)]) ++ List.replicate (2 - (lg_sl ([.ref (mad E (c)), .int (x1)])).length) Slot.unset).toArray = ls at hl ⊢
  have hl : lv_has ls 2 [(0, .ref (mad E (c))), (1, .int (x1))] := hl
  unfold x3_segmentAt at hT
  refine lv_iload_n hx hb dX3_segmentAt_0 rfl (lv_at hl 1 rfl) ?_
  refine lv_if_lt (tgt := 21) hx hb dX3_segmentAt_1 (by decide) (fun h_1 => ?_) (fun h_1 => ?_)
  · replace hT := mx_t hT h_1
    refine lv_null hx hb dX3_segmentAt_21 ?_
    cases hT
    exact W.aret hx hb hr (Or.inl ⟨_, rfl⟩) (Or.inl rfl) (fun t ht hW => mx_end Z t ht _) Z.2.2.2 dX3_segmentAt_22
  · replace hT := mx_f hT h_1
    refine lv_iload_n hx hb dX3_segmentAt_4 rfl (lv_at hl 1 rfl) ?_
    refine lv_aload_n hx hb dX3_segmentAt_5 rfl (lv_at hl 0 rfl) ?_
    refine mx_get (v := .int (G c 3)) (ci := 3) (C := RX3) (T := TX3) (N := 11) X Z hc.i (hc.c _) rfl inlX3 3 (by decide) wd_5_18 rfl dX3_segmentAt_6 ?_
    refine lv_icmp_ge (tgt := 21) hx hb dX3_segmentAt_9 (by decide) (fun h_2 => ?_) (fun h_2 => ?_)
    · replace hT := mx_t hT h_2
      refine lv_null hx hb dX3_segmentAt_21 ?_
      cases hT
      exact W.aret hx hb hr (Or.inl ⟨_, rfl⟩) (Or.inl rfl) (fun t ht hW => mx_end Z t ht _) Z.2.2.2 dX3_segmentAt_22
    · replace hT := mx_f hT h_2
      refine lv_iload_n hx hb dX3_segmentAt_12 rfl (lv_at hl 1 rfl) ?_
      refine lv_aload_n hx hb dX3_segmentAt_13 rfl (lv_at hl 0 rfl) ?_
      refine mx_get (v := .ref (mad E ((c + 1)))) (ci := 3) (C := RX3) (T := TX3) (N := 11) X Z hc.i (hc.c _) rfl inlX3 0 (by decide) wd_4_19 rfl dX3_segmentAt_14 ?_
      refine mx_alen (t := 2) (v := (12 : Int32)) X Z hc.segs.1 (hc.segs.2 _) rfl rfl dX3_segmentAt_17 ?_
      refine lv_icmp_lt (tgt := 23) hx hb dX3_segmentAt_18 (by decide) (fun h_3 => ?_) (fun h_3 => ?_)
      · replace hT := mx_t hT h_3
        refine lv_aload_n hx hb dX3_segmentAt_23 rfl (lv_at hl 0 rfl) ?_
        refine mx_get (v := .ref (mad E ((c + 1)))) (ci := 3) (C := RX3) (T := TX3) (N := 11) X Z hc.i (hc.c _) rfl inlX3 0 (by decide) wd_4_19 rfl dX3_segmentAt_24 ?_
        refine lv_iload_n hx hb dX3_segmentAt_27 rfl (lv_at hl 1 rfl) ?_
        obtain ⟨h_4, hT⟩ := mx_chk hT
        refine mx_aald (C := "PeatRailway$Segment") X Z hc.segs rfl h_4 dX3_segmentAt_28 ?_
        refine mx_tops (s2 := [.ref (mad E (c + 4 + x1.toNatClampNeg))]) rfl ?_
        cases hT
        exact W.aret hx hb hr (Or.inl ⟨_, rfl⟩) (Or.inr ⟨_, rfl⟩) (fun t ht hW => mx_end Z t ht _) Z.2.2.2 dX3_segmentAt_29
      · replace hT := mx_f hT h_3
        refine lv_null hx hb dX3_segmentAt_21 ?_
        cases hT
        exact W.aret hx hb hr (Or.inl ⟨_, rfl⟩) (Or.inl rfl) (fun t ht hW => mx_end Z t ht _) Z.2.2.2 dX3_segmentAt_22
theorem c3_segmentAt_k (E : mE) {c : Nat} (hc : mSt E c) (x1 : Int32) (G : mM) (q : Option Nat) (hT : x3_segmentAt c x1 G = some q) : ∀ o, q = some o → mSg E o := by
  unfold x3_segmentAt at hT
  intro o ho
  subst ho
  simp only [mCk] at hT
  repeat' (split at hT)
  all_goals first
    | (cases hT; done)
    | (cases hT; exact hc.seg (mx_lit (by assumption)))
/-! PeatRailway$State.trainAt -/
def x3_trainAt (c : Nat) (x1 : Int32) (G : mM) : Option (Option Nat) :=
  if x1 < 0 then
    some (none)
  else
    if (G c 4) ≤ x1 then
      some (none)
    else
      if x1 < ((4 : Int32)) then
        mCk (mIn x1 4) <|
        some (some (c + 16 + x1.toNatClampNeg))
      else
        some (none)
theorem hd3_trainAt : yX3_trainAt.cls = RX3 ∧ yX3_trainAt.cls ≠ "java/lang/invoke/MethodHandle" ∧ yX3_trainAt.cls ≠ "java/lang/invoke/VarHandle" ∧ (parseMethodDescriptor yX3_trainAt.desc).map (fun d => d.parameters.length) = some 1 := by decide +kernel
set_option maxHeartbeats 4000000 in
set_option maxRecDepth 100000 in
theorem c3_trainAt (l : Launch) (E : mE) (hJ : mJ E) {c : Nat} (hc : mSt E c) (x1 : Int32) (G : mM) (q : (Option Nat)) (hT : x3_trainAt c x1 G = some q) : mMet l E yX3_trainAt cX3_trainAt 2 (some (.object "PeatRailway$Train")) 0 0 [.ref (mad E (c)), .int (x1)] G (some (va_re (mad E) q)) G := by
  refine Met.ofW (cc := cX3_trainAt) (maxL := 2) (ret := (some (.object "PeatRailway$Train"))) (by decide) rfl ?_
  intro p e s m args below meth cd s₁ B hml hv
  obtain ⟨rfl, hP, hK, hS⟩ := hv
  have X := mx_entry (own := RX3) B hml hK hJ hS rfl
  have hx := X.1
  have hb := X.2.1
  have hown := X.2.2.2.1
  have hts := X.2.2.2.2.1
  have hr := B.returns
  have hlocks := B.notSynchronized
  have hR : 0 ≤ (headSpec (mWs yX3_trainAt cX3_trainAt 2 (some (.object "PeatRailway$Train"))) ({ frames := 0, cells := 0, slots := 0, locals := 0 })).room.frames ∧ 0 ≤ (headSpec (mWs yX3_trainAt cX3_trainAt 2 (some (.object "PeatRailway$Train"))) ({ frames := 0, cells := 0, slots := 0, locals := 0 })).room.locals := ⟨Nat.le_refl _, Nat.le_refl _⟩
  have Z : mZ E s.heap s.heap [] G := ⟨hP, va_S.rf⟩
  have hl := lv_entry ([.ref (mad E (c)), .int (x1)]) (n := 2) (Nat.le_of_ble_eq_true rfl)
  rw [lg_entry_eq]
  generalize (lg_sl ([.ref (mad E (c)), .int (x1)]) ++ List.replicate (2 - (lg_sl ([.ref (mad E (c)), .int (x1)])).length) Slot.unset).toArray = ls at hl ⊢
  have hl : lv_has ls 2 [(0, .ref (mad E (c))), (1, .int (x1))] := hl
  unfold x3_trainAt at hT
  refine lv_iload_n hx hb dX3_trainAt_0 rfl (lv_at hl 1 rfl) ?_
  refine lv_if_lt (tgt := 21) hx hb dX3_trainAt_1 (by decide) (fun h_1 => ?_) (fun h_1 => ?_)
  · replace hT := mx_t hT h_1
    refine lv_null hx hb dX3_trainAt_21 ?_
    cases hT
    exact W.aret hx hb hr (Or.inl ⟨_, rfl⟩) (Or.inl rfl) (fun t ht hW => mx_end Z t ht _) Z.2.2.2 dX3_trainAt_22
  · replace hT := mx_f hT h_1
    refine lv_iload_n hx hb dX3_trainAt_4 rfl (lv_at hl 1 rfl) ?_
    refine lv_aload_n hx hb dX3_trainAt_5 rfl (lv_at hl 0 rfl) ?_
    refine mx_get (v := .int (G c 4)) (ci := 3) (C := RX3) (T := TX3) (N := 11) X Z hc.i (hc.c _) rfl inlX3 4 (by decide) wd_11_4 rfl dX3_trainAt_6 ?_
    refine lv_icmp_ge (tgt := 21) hx hb dX3_trainAt_9 (by decide) (fun h_2 => ?_) (fun h_2 => ?_)
    · replace hT := mx_t hT h_2
      refine lv_null hx hb dX3_trainAt_21 ?_
      cases hT
      exact W.aret hx hb hr (Or.inl ⟨_, rfl⟩) (Or.inl rfl) (fun t ht hW => mx_end Z t ht _) Z.2.2.2 dX3_trainAt_22
    · replace hT := mx_f hT h_2
      refine lv_iload_n hx hb dX3_trainAt_12 rfl (lv_at hl 1 rfl) ?_
      refine lv_aload_n hx hb dX3_trainAt_13 rfl (lv_at hl 0 rfl) ?_
      refine mx_get (v := .ref (mad E ((c + 2)))) (ci := 3) (C := RX3) (T := TX3) (N := 11) X Z hc.i (hc.c _) rfl inlX3 1 (by decide) wd_4_23 rfl dX3_trainAt_14 ?_
      refine mx_alen (t := 4) (v := (4 : Int32)) X Z hc.trs.1 (hc.trs.2 _) rfl rfl dX3_trainAt_17 ?_
      refine lv_icmp_lt (tgt := 23) hx hb dX3_trainAt_18 (by decide) (fun h_3 => ?_) (fun h_3 => ?_)
      · replace hT := mx_t hT h_3
        refine lv_aload_n hx hb dX3_trainAt_23 rfl (lv_at hl 0 rfl) ?_
        refine mx_get (v := .ref (mad E ((c + 2)))) (ci := 3) (C := RX3) (T := TX3) (N := 11) X Z hc.i (hc.c _) rfl inlX3 1 (by decide) wd_4_23 rfl dX3_trainAt_24 ?_
        refine lv_iload_n hx hb dX3_trainAt_27 rfl (lv_at hl 1 rfl) ?_
        obtain ⟨h_4, hT⟩ := mx_chk hT
        refine mx_aald (C := "PeatRailway$Train") X Z hc.trs rfl h_4 dX3_trainAt_28 ?_
        refine mx_tops (s2 := [.ref (mad E (c + 16 + x1.toNatClampNeg))]) rfl ?_
        cases hT
        exact W.aret hx hb hr (Or.inl ⟨_, rfl⟩) (Or.inr ⟨_, rfl⟩) (fun t ht hW => mx_end Z t ht _) Z.2.2.2 dX3_trainAt_29
      · replace hT := mx_f hT h_3
        refine lv_null hx hb dX3_trainAt_21 ?_
        cases hT
        exact W.aret hx hb hr (Or.inl ⟨_, rfl⟩) (Or.inl rfl) (fun t ht hW => mx_end Z t ht _) Z.2.2.2 dX3_trainAt_22
theorem c3_trainAt_k (E : mE) {c : Nat} (hc : mSt E c) (x1 : Int32) (G : mM) (q : Option Nat) (hT : x3_trainAt c x1 G = some q) : ∀ o, q = some o → mTr E o := by
  unfold x3_trainAt at hT
  intro o ho
  subst ho
  simp only [mCk] at hT
  repeat' (split at hT)
  all_goals first
    | (cases hT; done)
    | (cases hT; exact hc.tr (mx_lit (by assumption)))
/-! PeatRailway$State.beginTrack -/
def x3_beginTrack (c : Nat) (G : mM) : Option mM :=
  mNm (up2 G c 3 ((0 : Int32))) fun G_1 =>
  some (G_1)
theorem hd3_beginTrack : yX3_beginTrack.cls = RX3 ∧ yX3_beginTrack.cls ≠ "java/lang/invoke/MethodHandle" ∧ yX3_beginTrack.cls ≠ "java/lang/invoke/VarHandle" ∧ (parseMethodDescriptor yX3_beginTrack.desc).map (fun d => d.parameters.length) = some 0 := by decide +kernel
set_option maxHeartbeats 4000000 in
set_option maxRecDepth 100000 in
theorem c3_beginTrack (l : Launch) (E : mE) (hJ : mJ E) {c : Nat} (hc : mSt E c) (G : mM) (q : mM) (hT : x3_beginTrack c G = some q) : mMet l E yX3_beginTrack cX3_beginTrack 1 none 0 0 [.ref (mad E (c))] G (none) q := by
  refine Met.ofW (cc := cX3_beginTrack) (maxL := 1) (ret := none) (by decide) rfl ?_
  intro p e s m args below meth cd s₁ B hml hv
  obtain ⟨rfl, hP, hK, hS⟩ := hv
  have X := mx_entry (own := RX3) B hml hK hJ hS rfl
  have hx := X.1
  have hb := X.2.1
  have hown := X.2.2.2.1
  have hts := X.2.2.2.2.1
  have hr := B.returns
  have hlocks := B.notSynchronized
  have hR : 0 ≤ (headSpec (mWs yX3_beginTrack cX3_beginTrack 1 none) ({ frames := 0, cells := 0, slots := 0, locals := 0 })).room.frames ∧ 0 ≤ (headSpec (mWs yX3_beginTrack cX3_beginTrack 1 none) ({ frames := 0, cells := 0, slots := 0, locals := 0 })).room.locals := ⟨Nat.le_refl _, Nat.le_refl _⟩
  have Z : mZ E s.heap s.heap [] G := ⟨hP, va_S.rf⟩
  have hl := lv_entry ([.ref (mad E (c))]) (n := 1) (Nat.le_of_ble_eq_true rfl)
  rw [lg_entry_eq]
  generalize (lg_sl ([.ref (mad E (c))]) ++ List.replicate (1 - (lg_sl ([.ref (mad E (c))])).length) Slot.unset).toArray = ls at hl ⊢
  have hl : lv_has ls 1 [(0, .ref (mad E (c)))] := hl
  unfold x3_beginTrack at hT
  refine lv_aload_n hx hb dX3_beginTrack_0 rfl (lv_at hl 0 rfl) ?_
  refine lv_iconst (v := (0 : Int32)) hx hb dX3_beginTrack_1 (by decide) ?_
  obtain ⟨G_1, e_G_1, hT⟩ := mx_nm hT
  refine mx_put (ci := 3) (C := RX3) (T := TX3) (N := 11) X Z hc.i (hc.c _) rfl inlX3 tyX3 tyX3_ok nmX3 3 (by decide) wd_5_18 rfl rfl rfl (by show 3 < 11; decide) ((hc.c _).trans (congrArg (fun z => Sum.inr (3, z)) (sp_St_3 (mad E) _ _ _))) dX3_beginTrack_2 (fun H locs Z => ?_)
  rw [e_G_1] at Z
  cases hT
  exact W.vret hx hb hr (fun t ht hW => mx_end Z t ht _) Z.2.2.2 dX3_beginTrack_5
/-! PeatRailway$State.trainsIn -/
def x3_trainsIn_L4 (y0 : Nat) (y1 : Int32) : Nat → Int32 → Int32 → mM → Option (Int32)
  | 0, _, _, _ => none
  | n + 1, w2, w3, G =>
    if ((4 : Int32)) ≤ w3 then
      some (w2)
    else
      (x3_trainAt y0 w3 G).bind fun q_2 =>
      mOpt q_2 (
        mNm (w3 + (1 : Int32)) fun v_5 =>
        x3_trainsIn_L4 y0 y1 n w2 v_5 G) fun o_3 =>
        if (G o_3 3) = y1 then
          mNm (w2 + (1 : Int32)) fun v_8 =>
          mNm (w3 + (1 : Int32)) fun v_9 =>
          x3_trainsIn_L4 y0 y1 n v_8 v_9 G
        else
          mNm (w3 + (1 : Int32)) fun v_7 =>
          x3_trainsIn_L4 y0 y1 n w2 v_7 G
def x3_trainsIn (c : Nat) (x1 : Int32) (G : mM) : Option Int32 :=
  (x3_trainsIn_L4 c x1 mFu ((0 : Int32)) ((0 : Int32)) G).bind fun q_10 =>
  some (q_10)
theorem hd3_trainsIn : yX3_trainsIn.cls = RX3 ∧ yX3_trainsIn.cls ≠ "java/lang/invoke/MethodHandle" ∧ yX3_trainsIn.cls ≠ "java/lang/invoke/VarHandle" ∧ (parseMethodDescriptor yX3_trainsIn.desc).map (fun d => d.parameters.length) = some 1 := by decide +kernel
set_option maxHeartbeats 4000000 in
set_option maxRecDepth 100000 in
theorem k3_trainsIn_4 {p : Program} {l : Launch} {e : Env} {R : Room} {s : State} {m : MethodId} {args : Array Value} {below : List Frame} {meth : Method} {cd : Code} {Q : State → Prop} {E : mE} (X : mX p s m args cd cX3_trainsIn 5 RX3 E) (hR : 1 ≤ R.frames ∧ 21 ≤ R.locals) (hJ : mJ E) {y0 : Nat} (hy0 : mSt E y0) (y1 : Int32) : ∀ (n : Nat) (w2 : Int32) (w3 : Int32) (G : mM) (H : Heap) (locs : List Loc) (ls : Array Slot) (r : Int32), x3_trainsIn_L4 y0 y1 n w2 w3 G = some r → mZ E s.heap H locs G → lv_has ls 5 [(0, .ref (mad E (y0))), (1, .int (y1)), (2, .int (w2)), (3, .int (w3))] → (∀ (H : Heap) (locs : List Loc) (ls : Array Slot), mZ E s.heap H locs G → lv_has ls 5 [(0, .ref (mad E (y0))), (1, .int (y1)), (2, .int (r))] → W p l e R s m args below meth cd H locs 0 0 Q (F0 m 39 ls [])) → W p l e R s m args below meth cd H locs 0 0 Q (F0 m 4 ls []) := by
  have hx := X.1
  have hb := X.2.1
  have hown := X.2.2.2.1
  have hts := X.2.2.2.2.1
  intro n
  induction n with
  | zero =>
    intro w2 w3 G H locs ls r hT
    rw [x3_trainsIn_L4] at hT
    cases hT
  | succ n ih =>
    intro w2 w3 G H locs ls r hT Z hl k0
    rw [x3_trainsIn_L4] at hT
    refine lv_iload_n hx hb dX3_trainsIn_4 rfl (lv_at hl 3 rfl) ?_
    refine lv_iconst (v := (4 : Int32)) hx hb dX3_trainsIn_5 (by decide) ?_
    refine lv_icmp_ge (tgt := 39) hx hb dX3_trainsIn_6 (by decide) (fun h_1 => ?_) (fun h_1 => ?_)
    · replace hT := mx_t hT h_1
      cases hT
      exact k0 _ _ _ Z (lv_sub hl [0, 1, 2] rfl)
    · replace hT := mx_f hT h_1
      refine lv_aload_n hx hb dX3_trainsIn_9 rfl (lv_at hl 0 rfl) ?_
      refine lv_iload_n hx hb dX3_trainsIn_10 rfl (lv_at hl 3 rfl) ?_
      obtain ⟨q_2, h_q_2, hT⟩ := mx_bind hT
      refine mx_callV (As := [.int (w3)]) (rest := []) (st1 := [va_re (mad E) q_2]) (C := RX3) (T := TX3) (N := 11) (ci := 3) X Z hl.1 (c3_trainAt l E hJ hy0 _ _ _ h_q_2) wd_12_14 wd_12_15 wd_12_16 wd_1_17 wd_12_17 hd3_trainAt ⟨Nat.le_trans (by decide) hR.1, Nat.le_trans (by decide) hR.2⟩ ⟨Nat.zero_le _, Nat.zero_le _⟩ hy0.i (hy0.c _) rfl (by decide) rfl rfl dX3_trainsIn_11 (fun H locs Z => ?_)
      have hk_4 := c3_trainAt_k E hy0 _ _ _ h_q_2
      rcases q_2 with _ | o_3
      · replace hT := mx_on hT
        refine mx_tops (s2 := [.null]) rfl ?_
        refine lv_astoreN (lv' := [(4, .null), (0, .ref (mad E (y0))), (1, .int (y1)), (2, .int (w2)), (3, .int (w3))]) hx hb dX3_trainsIn_14 hl (by decide) rfl (fun ls hl => ?_)
        refine lv_aloadN hx hb dX3_trainsIn_16 (lv_at hl 0 rfl) ?_
        refine lv_ifnullN (tgt := 33) hx hb dX3_trainsIn_18 (by decide) ?_
        obtain ⟨v_5, e_v_5, hT⟩ := mx_nm hT
        refine lv_iinc (v := v_5) (lv' := [(3, .int (v_5)), (4, .null), (0, .ref (mad E (y0))), (1, .int (y1)), (2, .int (w2))]) hx hb dX3_trainsIn_33 hl (k := 4) rfl (by rw [← e_v_5]; rfl) (by decide) rfl (fun ls hl => ?_)
        refine lv_goto (tgt := 4) hx hb dX3_trainsIn_36 (by decide) ?_
        exact ih _ _ _ _ _ _ _ hT Z (lv_sub hl [2, 3, 4, 0] rfl) k0
      · replace hT := mx_os hT
        refine mx_tops (s2 := [.ref (mad E o_3)]) rfl ?_
        refine lv_astore (lv' := [(4, .ref (mad E (o_3))), (0, .ref (mad E (y0))), (1, .int (y1)), (2, .int (w2)), (3, .int (w3))]) hx hb dX3_trainsIn_14 hl (by decide) rfl (fun ls hl => ?_)
        refine lv_aload hx hb dX3_trainsIn_16 (lv_at hl 0 rfl) ?_
        refine lv_ifnull hx hb dX3_trainsIn_18 ?_
        refine lv_aload hx hb dX3_trainsIn_21 (lv_at hl 0 rfl) ?_
        refine mx_get (v := .int (G o_3 3)) (ci := 4) (C := RX4) (T := TX4) (N := 10) X Z ((hk_4 o_3 rfl)).i (((hk_4 o_3 rfl)).c _) rfl inlX4 3 (by decide) wd_18_10 rfl dX3_trainsIn_23 ?_
        refine lv_iload_n hx hb dX3_trainsIn_26 rfl (lv_at hl 2 rfl) ?_
        refine lv_icmp_ne (tgt := 33) hx hb dX3_trainsIn_27 (by decide) (fun h_6 => ?_) (fun h_6 => ?_)
        · replace hT := mx_f hT h_6
          obtain ⟨v_7, e_v_7, hT⟩ := mx_nm hT
          refine lv_iinc (v := v_7) (lv' := [(3, .int (v_7)), (4, .ref (mad E (o_3))), (0, .ref (mad E (y0))), (1, .int (y1)), (2, .int (w2))]) hx hb dX3_trainsIn_33 hl (k := 4) rfl (by rw [← e_v_7]; rfl) (by decide) rfl (fun ls hl => ?_)
          refine lv_goto (tgt := 4) hx hb dX3_trainsIn_36 (by decide) ?_
          exact ih _ _ _ _ _ _ _ hT Z (lv_sub hl [2, 3, 4, 0] rfl) k0
        · replace hT := mx_t hT h_6
          obtain ⟨v_8, e_v_8, hT⟩ := mx_nm hT
          refine lv_iinc (v := v_8) (lv' := [(2, .int (v_8)), (4, .ref (mad E (o_3))), (0, .ref (mad E (y0))), (1, .int (y1)), (3, .int (w3))]) hx hb dX3_trainsIn_30 hl (k := 3) rfl (by rw [← e_v_8]; rfl) (by decide) rfl (fun ls hl => ?_)
          obtain ⟨v_9, e_v_9, hT⟩ := mx_nm hT
          refine lv_iinc (v := v_9) (lv' := [(3, .int (v_9)), (2, .int (v_8)), (4, .ref (mad E (o_3))), (0, .ref (mad E (y0))), (1, .int (y1))]) hx hb dX3_trainsIn_33 hl (k := 4) rfl (by rw [← e_v_9]; rfl) (by decide) rfl (fun ls hl => ?_)
          refine lv_goto (tgt := 4) hx hb dX3_trainsIn_36 (by decide) ?_
          exact ih _ _ _ _ _ _ _ hT Z (lv_sub hl [3, 4, 1, 0] rfl) k0
set_option maxHeartbeats 4000000 in
set_option maxRecDepth 100000 in
theorem c3_trainsIn (l : Launch) (E : mE) (hJ : mJ E) {c : Nat} (hc : mSt E c) (x1 : Int32) (G : mM) (q : Int32) (hT : x3_trainsIn c x1 G = some q) : mMet l E yX3_trainsIn cX3_trainsIn 5 (some .int) 1 21 [.ref (mad E (c)), .int (x1)] G (some (.int q)) G := by
  refine Met.ofW (cc := cX3_trainsIn) (maxL := 5) (ret := (some .int)) (by decide) rfl ?_
  intro p e s m args below meth cd s₁ B hml hv
  obtain ⟨rfl, hP, hK, hS⟩ := hv
  have X := mx_entry (own := RX3) B hml hK hJ hS rfl
  have hx := X.1
  have hb := X.2.1
  have hown := X.2.2.2.1
  have hts := X.2.2.2.2.1
  have hr := B.returns
  have hlocks := B.notSynchronized
  have hR : 1 ≤ (headSpec (mWs yX3_trainsIn cX3_trainsIn 5 (some .int)) ({ frames := 1, cells := 0, slots := 0, locals := 21 })).room.frames ∧ 21 ≤ (headSpec (mWs yX3_trainsIn cX3_trainsIn 5 (some .int)) ({ frames := 1, cells := 0, slots := 0, locals := 21 })).room.locals := ⟨Nat.le_refl _, Nat.le_refl _⟩
  have Z : mZ E s.heap s.heap [] G := ⟨hP, va_S.rf⟩
  have hl := lv_entry ([.ref (mad E (c)), .int (x1)]) (n := 5) (Nat.le_of_ble_eq_true rfl)
  rw [lg_entry_eq]
  generalize (lg_sl ([.ref (mad E (c)), .int (x1)]) ++ List.replicate (5 - (lg_sl ([.ref (mad E (c)), .int (x1)])).length) Slot.unset).toArray = ls at hl ⊢
  have hl : lv_has ls 5 [(0, .ref (mad E (c))), (1, .int (x1))] := hl
  unfold x3_trainsIn at hT
  refine lv_iconst (v := (0 : Int32)) hx hb dX3_trainsIn_0 (by decide) ?_
  refine lv_istore_n (lv' := [(2, .int ((0 : Int32))), (0, .ref (mad E (c))), (1, .int (x1))]) hx hb dX3_trainsIn_1 rfl hl (by decide) rfl (fun ls hl => ?_)
  refine lv_iconst (v := (0 : Int32)) hx hb dX3_trainsIn_2 (by decide) ?_
  refine lv_istore_n (lv' := [(3, .int ((0 : Int32))), (2, .int ((0 : Int32))), (0, .ref (mad E (c))), (1, .int (x1))]) hx hb dX3_trainsIn_3 rfl hl (by decide) rfl (fun ls hl => ?_)
  obtain ⟨q_10, h_q_10, hT⟩ := mx_bind hT
  refine k3_trainsIn_4 X hR hJ hc _ _ _ _ _ _ _ _ _ h_q_10 Z (lv_sub (l' := [(0, .ref (mad E (c))), (1, .int (x1)), (2, .int ((0 : Int32))), (3, .int ((0 : Int32)))]) hl [2, 3, 1, 0] rfl) (fun H locs ls Z hl => ?_)
  · refine lv_iload_n hx hb dX3_trainsIn_39 rfl (lv_at hl 2 rfl) ?_
    cases hT
    exact W.iret hx hb hr (fun t ht hW => mx_end Z t ht _) Z.2.2.2 dX3_trainsIn_40
end
