-- ===== PART A: goes FIRST, ahead of the names: the tables' words, and 'selects' of the private methods out of them =====
/-- a private method of a class that the tables say can be made, by its rows of tables_1 -/
def lw_okq (q : MethodName × Nat) : Prop := (q.1.cls ≠ "java/lang/invoke/MethodHandle" ∧ q.1.cls ≠ "java/lang/invoke/VarHandle") ∧ Cond.instantiable q.1.cls q.2 ∈ tables_1 ∧ Cond.privateMethod q.1 ∈ tables_1 ∧ Cond.instanceMethod q.1 ∈ tables_1
theorem lw_p0 : lw_okq (⟨"PeatRailway$History", "dropOldest", "()V"⟩, 2) := ⟨⟨by decide +kernel, by decide +kernel⟩, List.mem_of_getElem? (i := 273) (by decide +kernel), List.mem_of_getElem? (i := 343) (by decide +kernel), List.mem_of_getElem? (i := 344) (by decide +kernel)⟩
theorem lw_p1 : lw_okq (⟨"PeatRailway$State", "isToUnload", "(LPeatRailway$Train;)Z"⟩, 11) := ⟨⟨by decide +kernel, by decide +kernel⟩, List.mem_of_getElem? (i := 88) (by decide +kernel), List.mem_of_getElem? (i := 432) (by decide +kernel), List.mem_of_getElem? (i := 433) (by decide +kernel)⟩
theorem lw_p2 : lw_okq (⟨"PeatRailway$State", "isToLoad", "(LPeatRailway$Train;)Z"⟩, 11) := ⟨⟨by decide +kernel, by decide +kernel⟩, List.mem_of_getElem? (i := 88) (by decide +kernel), List.mem_of_getElem? (i := 436) (by decide +kernel), List.mem_of_getElem? (i := 437) (by decide +kernel)⟩
theorem lw_p3 : lw_okq (⟨"PeatRailway$State", "placeBeyond", "(LPeatRailway$Train;)I"⟩, 11) := ⟨⟨by decide +kernel, by decide +kernel⟩, List.mem_of_getElem? (i := 88) (by decide +kernel), List.mem_of_getElem? (i := 444) (by decide +kernel), List.mem_of_getElem? (i := 445) (by decide +kernel)⟩
theorem lw_p4 : lw_okq (⟨"PeatRailway$State", "reasonAhead", "(LPeatRailway$Train;I)I"⟩, 11) := ⟨⟨by decide +kernel, by decide +kernel⟩, List.mem_of_getElem? (i := 88) (by decide +kernel), List.mem_of_getElem? (i := 449) (by decide +kernel), List.mem_of_getElem? (i := 450) (by decide +kernel)⟩
theorem lw_p5 : lw_okq (⟨"PeatRailway$State", "goesFirst", "(LPeatRailway$Train;)Z"⟩, 11) := ⟨⟨by decide +kernel, by decide +kernel⟩, List.mem_of_getElem? (i := 88) (by decide +kernel), List.mem_of_getElem? (i := 515) (by decide +kernel), List.mem_of_getElem? (i := 516) (by decide +kernel)⟩
theorem lw_p6 : lw_okq (⟨"PeatRailway$State", "takeTurn", "(LPeatRailway$Train;)V"⟩, 11) := ⟨⟨by decide +kernel, by decide +kernel⟩, List.mem_of_getElem? (i := 88) (by decide +kernel), List.mem_of_getElem? (i := 519) (by decide +kernel), List.mem_of_getElem? (i := 520) (by decide +kernel)⟩
theorem lw_p7 : lw_okq (⟨"PeatRailway$State", "unloadTrain", "(LPeatRailway$Train;)V"⟩, 11) := ⟨⟨by decide +kernel, by decide +kernel⟩, List.mem_of_getElem? (i := 88) (by decide +kernel), List.mem_of_getElem? (i := 524) (by decide +kernel), List.mem_of_getElem? (i := 525) (by decide +kernel)⟩
theorem lw_p8 : lw_okq (⟨"PeatRailway$State", "loadTrain", "(LPeatRailway$Train;)V"⟩, 11) := ⟨⟨by decide +kernel, by decide +kernel⟩, List.mem_of_getElem? (i := 88) (by decide +kernel), List.mem_of_getElem? (i := 528) (by decide +kernel), List.mem_of_getElem? (i := 529) (by decide +kernel)⟩
theorem lw_p9 : lw_okq (⟨"PeatRailway$State", "moveTrain", "(LPeatRailway$Train;)V"⟩, 11) := ⟨⟨by decide +kernel, by decide +kernel⟩, List.mem_of_getElem? (i := 88) (by decide +kernel), List.mem_of_getElem? (i := 532) (by decide +kernel), List.mem_of_getElem? (i := 533) (by decide +kernel)⟩
theorem lw_p10 : lw_okq (⟨"PeatRailway$State", "settle", "()V"⟩, 11) := ⟨⟨by decide +kernel, by decide +kernel⟩, List.mem_of_getElem? (i := 88) (by decide +kernel), List.mem_of_getElem? (i := 536) (by decide +kernel), List.mem_of_getElem? (i := 537) (by decide +kernel)⟩
theorem lw_p11 : lw_okq (⟨"PeatRailway", "foreseen", "(I)I"⟩, 6) := ⟨⟨by decide +kernel, by decide +kernel⟩, List.mem_of_getElem? (i := 13) (by decide +kernel), List.mem_of_getElem? (i := 548) (by decide +kernel), List.mem_of_getElem? (i := 549) (by decide +kernel)⟩
def lw_privs_1 : List (MethodName × Nat) := [(⟨"PeatRailway$History", "dropOldest", "()V"⟩, 2), (⟨"PeatRailway$State", "isToUnload", "(LPeatRailway$Train;)Z"⟩, 11), (⟨"PeatRailway$State", "isToLoad", "(LPeatRailway$Train;)Z"⟩, 11), (⟨"PeatRailway$State", "placeBeyond", "(LPeatRailway$Train;)I"⟩, 11), (⟨"PeatRailway$State", "reasonAhead", "(LPeatRailway$Train;I)I"⟩, 11), (⟨"PeatRailway$State", "goesFirst", "(LPeatRailway$Train;)Z"⟩, 11), (⟨"PeatRailway$State", "takeTurn", "(LPeatRailway$Train;)V"⟩, 11), (⟨"PeatRailway$State", "unloadTrain", "(LPeatRailway$Train;)V"⟩, 11), (⟨"PeatRailway$State", "loadTrain", "(LPeatRailway$Train;)V"⟩, 11), (⟨"PeatRailway$State", "moveTrain", "(LPeatRailway$Train;)V"⟩, 11), (⟨"PeatRailway$State", "settle", "()V"⟩, 11), (⟨"PeatRailway", "foreseen", "(I)I"⟩, 6)]
theorem lw_r1 : ∀ q ∈ lw_privs_1, lw_okq q := List.forall_mem_cons.mpr ⟨lw_p0, List.forall_mem_cons.mpr ⟨lw_p1, List.forall_mem_cons.mpr ⟨lw_p2, List.forall_mem_cons.mpr ⟨lw_p3, List.forall_mem_cons.mpr ⟨lw_p4, List.forall_mem_cons.mpr ⟨lw_p5, List.forall_mem_cons.mpr ⟨lw_p6, List.forall_mem_cons.mpr ⟨lw_p7, List.forall_mem_cons.mpr ⟨lw_p8, List.forall_mem_cons.mpr ⟨lw_p9, List.forall_mem_cons.mpr ⟨lw_p10, List.forall_mem_cons.mpr ⟨lw_p11, fun _ h => absurd h List.not_mem_nil⟩⟩⟩⟩⟩⟩⟩⟩⟩⟩⟩⟩
def lw_privs : List (MethodName × Nat) := lw_privs_1
def lw_tbl : List Cond := k2_sels lw_privs ++ tables_1
theorem lw_privs_ok : ∀ q ∈ lw_privs, lw_okq q := lw_r1
/-- the streams that the claim lets the run draw from -/
abbrev lw_cs : List Choice := [Jvm.Choice.named "NaN.bits"]
theorem lw_bits : nanBits ∈ lw_cs := by first | decide | exact List.mem_cons_self | simp [lw_cs, nanBits]
theorem goodIn_r {big : List Cond} (ws : List Cond) (ps : List Nat) (hp : ws = ps.filterMap (fun i => big[i]?)) (h : ws.all goodWord = true) : GoodIn big ws := by
  intro w hw
  have h1 := List.all_eq_true.mp h w hw
  rw [hp] at hw
  obtain ⟨i, -, hi⟩ := List.mem_filterMap.mp hw
  have hm : w ∈ big := by first | exact List.mem_of_getElem? hi | exact List.getElem?_mem hi
  exact ⟨hm, good_of_word h1⟩
theorem goodIn_app {big a b : List Cond} (ha : GoodIn big a) (hb : GoodIn big b) : GoodIn big (a ++ b) := fun w h => (List.mem_append.mp h).elim (ha w) (hb w)
theorem goodIn_ca {big a b : List Cond} {c : Cond} (ha : GoodIn big (c :: a)) (hb : GoodIn big b) : GoodIn big (c :: (a ++ b)) := fun w h => (List.mem_cons.mp h).elim (fun e => ha w (List.mem_cons.mpr (Or.inl e))) (fun h => (List.mem_append.mp h).elim (fun h => ha w (List.mem_cons.mpr (Or.inr h))) (hb w))
theorem goodIn_sub {big ws : List Cond} (hm : ∀ w ∈ ws, w ∈ big) (h : ws.all goodWord = true) : GoodIn big ws := fun w hw => ⟨hm w hw, good_of_word (List.all_eq_true.mp h w hw)⟩
def RX0 : String := "PeatRailway$History"
def TX0 : u_T := fun k => match k with
  | 0 => ("PeatRailway$History", "states", "[LPeatRailway$State;", true)
  | _ => ("PeatRailway$History", "size", "I", false)
def tyX0 : Nat → FieldType := fun k => match k with
  | 0 => .array (.object "PeatRailway$State")
  | _ => .int
abbrev wsX00 : List Cond := u_ws RX0 TX0 2
theorem nmX0 : ∀ a, a < 2 → ∀ b, b < 2 → a ≠ b → (TX0 a).2.1 ≠ (TX0 b).2.1 := by decide +kernel
theorem tyX0_ok : ∀ k, k < 2 → parseFieldDescriptor (TX0 k).2.2.1 = some (tyX0 k) := by decide +kernel
abbrev cX0_init : ByteArray := prog_2_method_1_code
def yX0_init : MethodName := ⟨RX0, "<init>", "()V"⟩
abbrev cX0_size : ByteArray := prog_2_method_2_code
def yX0_size : MethodName := ⟨RX0, "size", "()I"⟩
abbrev cX0_remember : ByteArray := prog_2_method_3_code
def yX0_remember : MethodName := ⟨RX0, "remember", "(LPeatRailway$State;)V"⟩
abbrev cX0_restore : ByteArray := prog_2_method_4_code
def yX0_restore : MethodName := ⟨RX0, "restore", "(LPeatRailway$State;)V"⟩
abbrev cX0_dropOldest : ByteArray := prog_2_method_5_code
def yX0_dropOldest : MethodName := ⟨RX0, "dropOldest", "()V"⟩
def RX1 : String := "PeatRailway$InputText"
def TX1 : u_T := fun k => match k with
  | 0 => ("PeatRailway$InputText", "signs", "[C", true)
  | _ => ("PeatRailway$InputText", "length", "I", false)
def tyX1 : Nat → FieldType := fun k => match k with
  | 0 => .array .char
  | _ => .int
abbrev wsX10 : List Cond := u_ws RX1 TX1 2
theorem nmX1 : ∀ a, a < 2 → ∀ b, b < 2 → a ≠ b → (TX1 a).2.1 ≠ (TX1 b).2.1 := by decide +kernel
theorem tyX1_ok : ∀ k, k < 2 → parseFieldDescriptor (TX1 k).2.2.1 = some (tyX1 k) := by decide +kernel
abbrev cX1_init : ByteArray := prog_3_method_1_code
def yX1_init : MethodName := ⟨RX1, "<init>", "()V"⟩
abbrev cX1_length : ByteArray := prog_3_method_2_code
def yX1_length : MethodName := ⟨RX1, "length", "()I"⟩
abbrev cX1_isFull : ByteArray := prog_3_method_3_code
def yX1_isFull : MethodName := ⟨RX1, "isFull", "()Z"⟩
abbrev cX1_codeAt : ByteArray := prog_3_method_4_code
def yX1_codeAt : MethodName := ⟨RX1, "codeAt", "(I)I"⟩
abbrev cX1_append : ByteArray := prog_3_method_5_code
def yX1_append : MethodName := ⟨RX1, "append", "(C)V"⟩
abbrev cX1_wipe : ByteArray := prog_3_method_6_code
def yX1_wipe : MethodName := ⟨RX1, "wipe", "()V"⟩
abbrev cX1_firstFault : ByteArray := prog_3_method_7_code
def yX1_firstFault : MethodName := ⟨RX1, "firstFault", "()I"⟩
abbrev cX1_layOnto : ByteArray := prog_3_method_8_code
def yX1_layOnto : MethodName := ⟨RX1, "layOnto", "(LPeatRailway$State;)V"⟩
abbrev cX1_isDigit : ByteArray := prog_3_method_9_code
def yX1_isDigit : MethodName := ⟨RX1, "isDigit", "(I)Z"⟩
def RX2 : String := "PeatRailway$Segment"
def TX2 : u_T := fun k => match k with
  | 0 => ("PeatRailway$Segment", "softness", "I", false)
  | 1 => ("PeatRailway$Segment", "room", "I", false)
  | 2 => ("PeatRailway$Segment", "sinking", "I", false)
  | 3 => ("PeatRailway$Segment", "passingAbove", "I", false)
  | 4 => ("PeatRailway$Segment", "passingBelow", "I", false)
  | _ => ("PeatRailway$Segment", "burden", "I", false)
def tyX2 : Nat → FieldType := fun k => match k with
  | 0 => .int
  | 1 => .int
  | 2 => .int
  | 3 => .int
  | 4 => .int
  | _ => .int
abbrev wsX20 : List Cond := u_ws RX2 TX2 6
theorem nmX2 : ∀ a, a < 6 → ∀ b, b < 6 → a ≠ b → (TX2 a).2.1 ≠ (TX2 b).2.1 := by decide +kernel
theorem tyX2_ok : ∀ k, k < 6 → parseFieldDescriptor (TX2 k).2.2.1 = some (tyX2 k) := by decide +kernel
abbrev cX2_init : ByteArray := prog_4_method_1_code
def yX2_init : MethodName := ⟨RX2, "<init>", "()V"⟩
abbrev cX2_layDown : ByteArray := prog_4_method_2_code
def yX2_layDown : MethodName := ⟨RX2, "layDown", "(I)V"⟩
abbrev cX2_copyFrom : ByteArray := prog_4_method_3_code
def yX2_copyFrom : MethodName := ⟨RX2, "copyFrom", "(LPeatRailway$Segment;)V"⟩
abbrev cX2_isPassingPlace : ByteArray := prog_4_method_4_code
def yX2_isPassingPlace : MethodName := ⟨RX2, "isPassingPlace", "()Z"⟩
abbrev cX2_ticksToRise : ByteArray := prog_4_method_5_code
def yX2_ticksToRise : MethodName := ⟨RX2, "ticksToRise", "(II)I"⟩
abbrev cX2_settle : ByteArray := prog_4_method_6_code
def yX2_settle : MethodName := ⟨RX2, "settle", "(I)V"⟩
def RX3 : String := "PeatRailway$State"
def TX3 : u_T := fun k => match k with
  | 0 => ("PeatRailway$State", "segments", "[LPeatRailway$Segment;", true)
  | 1 => ("PeatRailway$State", "trains", "[LPeatRailway$Train;", true)
  | 2 => ("PeatRailway$State", "settings", "[I", true)
  | 3 => ("PeatRailway$State", "segmentCount", "I", false)
  | 4 => ("PeatRailway$State", "trainCount", "I", false)
  | 5 => ("PeatRailway$State", "stock", "I", false)
  | 6 => ("PeatRailway$State", "dug", "I", false)
  | 7 => ("PeatRailway$State", "delivered", "I", false)
  | 8 => ("PeatRailway$State", "lost", "I", false)
  | 9 => ("PeatRailway$State", "clock", "I", false)
  | _ => ("PeatRailway$State", "peak", "I", false)
def tyX3 : Nat → FieldType := fun k => match k with
  | 0 => .array (.object "PeatRailway$Segment")
  | 1 => .array (.object "PeatRailway$Train")
  | 2 => .array .int
  | 3 => .int
  | 4 => .int
  | 5 => .int
  | 6 => .int
  | 7 => .int
  | 8 => .int
  | 9 => .int
  | _ => .int
abbrev wsX30 : List Cond := u_ws RX3 TX3 11
theorem nmX3 : ∀ a, a < 11 → ∀ b, b < 11 → a ≠ b → (TX3 a).2.1 ≠ (TX3 b).2.1 := by decide +kernel
theorem tyX3_ok : ∀ k, k < 11 → parseFieldDescriptor (TX3 k).2.2.1 = some (tyX3 k) := by decide +kernel
abbrev cX3_init : ByteArray := prog_5_method_1_code
def yX3_init : MethodName := ⟨RX3, "<init>", "()V"⟩
abbrev cX3_copyFrom : ByteArray := prog_5_method_2_code
def yX3_copyFrom : MethodName := ⟨RX3, "copyFrom", "(LPeatRailway$State;)V"⟩
abbrev cX3_segmentAt : ByteArray := prog_5_method_3_code
def yX3_segmentAt : MethodName := ⟨RX3, "segmentAt", "(I)LPeatRailway$Segment;"⟩
abbrev cX3_trainAt : ByteArray := prog_5_method_4_code
def yX3_trainAt : MethodName := ⟨RX3, "trainAt", "(I)LPeatRailway$Train;"⟩
abbrev cX3_beginTrack : ByteArray := prog_5_method_5_code
def yX3_beginTrack : MethodName := ⟨RX3, "beginTrack", "()V"⟩
abbrev cX3_appendSegment : ByteArray := prog_5_method_6_code
def yX3_appendSegment : MethodName := ⟨RX3, "appendSegment", "(I)V"⟩
abbrev cX3_widenLatestSegment : ByteArray := prog_5_method_7_code
def yX3_widenLatestSegment : MethodName := ⟨RX3, "widenLatestSegment", "()V"⟩
abbrev cX3_endTrack : ByteArray := prog_5_method_8_code
def yX3_endTrack : MethodName := ⟨RX3, "endTrack", "()V"⟩
abbrev cX3_bringTrain : ByteArray := prog_5_method_9_code
def yX3_bringTrain : MethodName := ⟨RX3, "bringTrain", "(II)I"⟩
abbrev cX3_loseTrain : ByteArray := prog_5_method_10_code
def yX3_loseTrain : MethodName := ⟨RX3, "loseTrain", "(I)V"⟩
abbrev cX3_loseAllTrains : ByteArray := prog_5_method_11_code
def yX3_loseAllTrains : MethodName := ⟨RX3, "loseAllTrains", "()V"⟩
abbrev cX3_pass : ByteArray := prog_5_method_12_code
def yX3_pass : MethodName := ⟨RX3, "pass", "(I)I"⟩
abbrev cX3_tick : ByteArray := prog_5_method_13_code
def yX3_tick : MethodName := ⟨RX3, "tick", "()V"⟩
abbrev cX3_goesFirst : ByteArray := prog_5_method_14_code
def yX3_goesFirst : MethodName := ⟨RX3, "goesFirst", "(LPeatRailway$Train;)Z"⟩
abbrev cX3_takeTurn : ByteArray := prog_5_method_15_code
def yX3_takeTurn : MethodName := ⟨RX3, "takeTurn", "(LPeatRailway$Train;)V"⟩
abbrev cX3_isToUnload : ByteArray := prog_5_method_16_code
def yX3_isToUnload : MethodName := ⟨RX3, "isToUnload", "(LPeatRailway$Train;)Z"⟩
abbrev cX3_isToLoad : ByteArray := prog_5_method_17_code
def yX3_isToLoad : MethodName := ⟨RX3, "isToLoad", "(LPeatRailway$Train;)Z"⟩
abbrev cX3_unloadTrain : ByteArray := prog_5_method_18_code
def yX3_unloadTrain : MethodName := ⟨RX3, "unloadTrain", "(LPeatRailway$Train;)V"⟩
abbrev cX3_loadTrain : ByteArray := prog_5_method_19_code
def yX3_loadTrain : MethodName := ⟨RX3, "loadTrain", "(LPeatRailway$Train;)V"⟩
abbrev cX3_moveTrain : ByteArray := prog_5_method_20_code
def yX3_moveTrain : MethodName := ⟨RX3, "moveTrain", "(LPeatRailway$Train;)V"⟩
abbrev cX3_placeBeyond : ByteArray := prog_5_method_21_code
def yX3_placeBeyond : MethodName := ⟨RX3, "placeBeyond", "(LPeatRailway$Train;)I"⟩
abbrev cX3_reasonToWait : ByteArray := prog_5_method_22_code
def yX3_reasonToWait : MethodName := ⟨RX3, "reasonToWait", "(LPeatRailway$Train;)I"⟩
abbrev cX3_reasonAhead : ByteArray := prog_5_method_23_code
def yX3_reasonAhead : MethodName := ⟨RX3, "reasonAhead", "(LPeatRailway$Train;I)I"⟩
abbrev cX3_isBetween : ByteArray := prog_5_method_24_code
def yX3_isBetween : MethodName := ⟨RX3, "isBetween", "(III)Z"⟩
abbrev cX3_settle : ByteArray := prog_5_method_25_code
def yX3_settle : MethodName := ⟨RX3, "settle", "()V"⟩
abbrev cX3_trainsIn : ByteArray := prog_5_method_26_code
def yX3_trainsIn : MethodName := ⟨RX3, "trainsIn", "(I)I"⟩
abbrev cX3_weightIn : ByteArray := prog_5_method_27_code
def yX3_weightIn : MethodName := ⟨RX3, "weightIn", "(I)I"⟩
abbrev cX3_peatInTrains : ByteArray := prog_5_method_28_code
def yX3_peatInTrains : MethodName := ⟨RX3, "peatInTrains", "()I"⟩
abbrev cX3_waitsOfAll : ByteArray := prog_5_method_29_code
def yX3_waitsOfAll : MethodName := ⟨RX3, "waitsOfAll", "()I"⟩
abbrev cX3_greatestSinking : ByteArray := prog_5_method_30_code
def yX3_greatestSinking : MethodName := ⟨RX3, "greatestSinking", "()I"⟩
abbrev cX3_sumOfSinkings : ByteArray := prog_5_method_31_code
def yX3_sumOfSinkings : MethodName := ⟨RX3, "sumOfSinkings", "()I"⟩
abbrev cX3_sunkSegments : ByteArray := prog_5_method_32_code
def yX3_sunkSegments : MethodName := ⟨RX3, "sunkSegments", "()I"⟩
def RX4 : String := "PeatRailway$Train"
def TX4 : u_T := fun k => match k with
  | 0 => ("PeatRailway$Train", "wagons", "I", false)
  | 1 => ("PeatRailway$Train", "load", "I", false)
  | 2 => ("PeatRailway$Train", "peat", "I", false)
  | 3 => ("PeatRailway$Train", "place", "I", false)
  | 4 => ("PeatRailway$Train", "up", "Z", false)
  | 5 => ("PeatRailway$Train", "rest", "I", false)
  | 6 => ("PeatRailway$Train", "reason", "I", false)
  | 7 => ("PeatRailway$Train", "waits", "I", false)
  | 8 => ("PeatRailway$Train", "unloads", "I", false)
  | _ => ("PeatRailway$Train", "early", "Z", false)
def tyX4 : Nat → FieldType := fun k => match k with
  | 0 => .int
  | 1 => .int
  | 2 => .int
  | 3 => .int
  | 4 => .boolean
  | 5 => .int
  | 6 => .int
  | 7 => .int
  | 8 => .int
  | _ => .boolean
abbrev wsX40 : List Cond := u_ws RX4 TX4 10
theorem nmX4 : ∀ a, a < 10 → ∀ b, b < 10 → a ≠ b → (TX4 a).2.1 ≠ (TX4 b).2.1 := by decide +kernel
theorem tyX4_ok : ∀ k, k < 10 → parseFieldDescriptor (TX4 k).2.2.1 = some (tyX4 k) := by decide +kernel
abbrev cX4_init : ByteArray := prog_6_method_1_code
def yX4_init : MethodName := ⟨RX4, "<init>", "()V"⟩
abbrev cX4_start : ByteArray := prog_6_method_2_code
def yX4_start : MethodName := ⟨RX4, "start", "(II)V"⟩
abbrev cX4_copyFrom : ByteArray := prog_6_method_3_code
def yX4_copyFrom : MethodName := ⟨RX4, "copyFrom", "(LPeatRailway$Train;)V"⟩
abbrev cX4_fullLoad : ByteArray := prog_6_method_4_code
def yX4_fullLoad : MethodName := ⟨RX4, "fullLoad", "()I"⟩
abbrev cX4_weight : ByteArray := prog_6_method_5_code
def yX4_weight : MethodName := ⟨RX4, "weight", "()I"⟩
def RX5 : String := "PeatRailway"
def TX5 : u_T := fun k => match k with
  | 0 => ("PeatRailway", "text", "LPeatRailway$InputText;", true)
  | 1 => ("PeatRailway", "now", "LPeatRailway$State;", true)
  | 2 => ("PeatRailway", "trial", "LPeatRailway$State;", true)
  | 3 => ("PeatRailway", "history", "LPeatRailway$History;", true)
  | 4 => ("PeatRailway", "images", "[LPeatRailway$State;", true)
  | _ => ("PeatRailway", "keptImages", "I", false)
def tyX5 : Nat → FieldType := fun k => match k with
  | 0 => .object "PeatRailway$InputText"
  | 1 => .object "PeatRailway$State"
  | 2 => .object "PeatRailway$State"
  | 3 => .object "PeatRailway$History"
  | 4 => .array (.object "PeatRailway$State")
  | _ => .int
abbrev wsX50 : List Cond := u_ws RX5 TX5 6
theorem nmX5 : ∀ a, a < 6 → ∀ b, b < 6 → a ≠ b → (TX5 a).2.1 ≠ (TX5 b).2.1 := by decide +kernel
theorem tyX5_ok : ∀ k, k < 6 → parseFieldDescriptor (TX5 k).2.2.1 = some (tyX5 k) := by decide +kernel
abbrev cX5_init : ByteArray := prog_1_method_1_code
def yX5_init : MethodName := ⟨RX5, "<init>", "()V"⟩
abbrev cX5_type : ByteArray := prog_1_method_2_code
def yX5_type : MethodName := ⟨RX5, "type", "(I)I"⟩
abbrev cX5_clear : ByteArray := prog_1_method_3_code
def yX5_clear : MethodName := ⟨RX5, "clear", "()I"⟩
abbrev cX5_fault : ByteArray := prog_1_method_4_code
def yX5_fault : MethodName := ⟨RX5, "fault", "()I"⟩
abbrev cX5_layTrack : ByteArray := prog_1_method_5_code
def yX5_layTrack : MethodName := ⟨RX5, "layTrack", "()I"⟩
abbrev cX5_set : ByteArray := prog_1_method_6_code
def yX5_set : MethodName := ⟨RX5, "set", "(II)I"⟩
abbrev cX5_dig : ByteArray := prog_1_method_7_code
def yX5_dig : MethodName := ⟨RX5, "dig", "(I)I"⟩
abbrev cX5_addTrain : ByteArray := prog_1_method_8_code
def yX5_addTrain : MethodName := ⟨RX5, "addTrain", "(II)I"⟩
abbrev cX5_dropTrain : ByteArray := prog_1_method_9_code
def yX5_dropTrain : MethodName := ⟨RX5, "dropTrain", "(I)I"⟩
abbrev cX5_setLoad : ByteArray := prog_1_method_10_code
def yX5_setLoad : MethodName := ⟨RX5, "setLoad", "(II)I"⟩
abbrev cX5_run : ByteArray := prog_1_method_11_code
def yX5_run : MethodName := ⟨RX5, "run", "(I)I"⟩
abbrev cX5_undo : ByteArray := prog_1_method_12_code
def yX5_undo : MethodName := ⟨RX5, "undo", "()I"⟩
abbrev cX5_back : ByteArray := prog_1_method_14_code
def yX5_back : MethodName := ⟨RX5, "back", "(I)I"⟩
abbrev cX5_segment : ByteArray := prog_1_method_15_code
def yX5_segment : MethodName := ⟨RX5, "segment", "(II)I"⟩
abbrev cX5_train : ByteArray := prog_1_method_16_code
def yX5_train : MethodName := ⟨RX5, "train", "(II)I"⟩
abbrev cX5_why : ByteArray := prog_1_method_17_code
def yX5_why : MethodName := ⟨RX5, "why", "(I)I"⟩
abbrev cX5_account : ByteArray := prog_1_method_18_code
def yX5_account : MethodName := ⟨RX5, "account", "(I)I"⟩
abbrev cX5_count : ByteArray := prog_1_method_19_code
def yX5_count : MethodName := ⟨RX5, "count", "(I)I"⟩
abbrev cX5_setting : ByteArray := prog_1_method_20_code
def yX5_setting : MethodName := ⟨RX5, "setting", "(I)I"⟩
abbrev cX5_ifRun : ByteArray := prog_1_method_21_code
def yX5_ifRun : MethodName := ⟨RX5, "ifRun", "(II)I"⟩
abbrev cX5_ticksFor : ByteArray := prog_1_method_22_code
def yX5_ticksFor : MethodName := ⟨RX5, "ticksFor", "(I)I"⟩
abbrev cX5_bestRule : ByteArray := prog_1_method_23_code
def yX5_bestRule : MethodName := ⟨RX5, "bestRule", "(I)I"⟩
abbrev cX5_bestLoad : ByteArray := prog_1_method_24_code
def yX5_bestLoad : MethodName := ⟨RX5, "bestLoad", "(II)I"⟩
abbrev cX5_meanSinking : ByteArray := prog_1_method_25_code
def yX5_meanSinking : MethodName := ⟨RX5, "meanSinking", "()D"⟩
abbrev cX5_isSetting : ByteArray := prog_1_method_27_code
def yX5_isSetting : MethodName := ⟨RX5, "isSetting", "(I)Z"⟩
abbrev cX5_isLoad : ByteArray := prog_1_method_28_code
def yX5_isLoad : MethodName := ⟨RX5, "isLoad", "(I)Z"⟩
abbrev cX5_isRun : ByteArray := prog_1_method_29_code
def yX5_isRun : MethodName := ⟨RX5, "isRun", "(I)Z"⟩
abbrev cX5_isImage : ByteArray := prog_1_method_30_code
def yX5_isImage : MethodName := ⟨RX5, "isImage", "(I)Z"⟩
abbrev cX5_foreseen : ByteArray := prog_1_method_31_code
def yX5_foreseen : MethodName := ⟨RX5, "foreseen", "(I)I"⟩
def RX6 : String := "PeatRailwayModel"
def TX6 : u_T := fun k => match k with
  | _ => ("", "", "", false)
def tyX6 : Nat → FieldType := fun k => match k with
  | _ => .int
abbrev wsX60 : List Cond := u_ws RX6 TX6 0
theorem nmX6 : ∀ a, a < 0 → ∀ b, b < 0 → a ≠ b → (TX6 a).2.1 ≠ (TX6 b).2.1 := by decide +kernel
theorem tyX6_ok : ∀ k, k < 0 → parseFieldDescriptor (TX6 k).2.2.1 = some (tyX6 k) := by decide +kernel
def RJ9 : String := "java/lang/Math"
def TJ9 : u_T := fun k => match k with
  | _ => ("", "", "", false)
def tyJ9 : Nat → FieldType := fun k => match k with
  | _ => .int
abbrev wsJ90 : List Cond := u_ws RJ9 TJ9 0
theorem nmJ9 : ∀ a, a < 0 → ∀ b, b < 0 → a ≠ b → (TJ9 a).2.1 ≠ (TJ9 b).2.1 := by decide +kernel
theorem tyJ9_ok : ∀ k, k < 0 → parseFieldDescriptor (TJ9 k).2.2.1 = some (tyJ9 k) := by decide +kernel
abbrev cJ9_max_7cf53 : ByteArray := prog_9_method_65_code
def yJ9_max_7cf53 : MethodName := ⟨RJ9, "max", "(II)I"⟩
abbrev cJ9_min_7cf53 : ByteArray := prog_9_method_69_code
def yJ9_min_7cf53 : MethodName := ⟨RJ9, "min", "(II)I"⟩
def RJ0 : String := "java/lang/String"
def TJ0 : u_T := fun k => match k with
  | _ => ("", "", "", false)
def tyJ0 : Nat → FieldType := fun k => match k with
  | _ => .int
abbrev wsJ00 : List Cond := u_ws RJ0 TJ0 0
theorem nmJ0 : ∀ a, a < 0 → ∀ b, b < 0 → a ≠ b → (TJ0 a).2.1 ≠ (TJ0 b).2.1 := by decide +kernel
theorem tyJ0_ok : ∀ k, k < 0 → parseFieldDescriptor (TJ0 k).2.2.1 = some (tyJ0 k) := by decide +kernel
abbrev cJ0_length_8abf5 : ByteArray := prog_10_method_54_code
def yJ0_length_8abf5 : MethodName := ⟨RJ0, "length", "()I"⟩
abbrev cJ0_charAt_5068e : ByteArray := prog_10_method_56_code
def yJ0_charAt_5068e : MethodName := ⟨RJ0, "charAt", "(I)C"⟩
abbrev cJ0_coder_7d493 : ByteArray := prog_10_method_152_code
def yJ0_coder_7d493 : MethodName := ⟨RJ0, "coder", "()B"⟩
abbrev cJ0_isLatin1_aae02 : ByteArray := prog_10_method_154_code
def yJ0_isLatin1_aae02 : MethodName := ⟨RJ0, "isLatin1", "()Z"⟩
abbrev cJ0_checkIndex_df160 : ByteArray := prog_10_method_155_code
def yJ0_checkIndex_df160 : MethodName := ⟨RJ0, "checkIndex", "(II)V"⟩
def RJ1 : String := "java/lang/StringLatin1"
def TJ1 : u_T := fun k => match k with
  | _ => ("", "", "", false)
def tyJ1 : Nat → FieldType := fun k => match k with
  | _ => .int
abbrev wsJ10 : List Cond := u_ws RJ1 TJ1 0
theorem nmJ1 : ∀ a, a < 0 → ∀ b, b < 0 → a ≠ b → (TJ1 a).2.1 ≠ (TJ1 b).2.1 := by decide +kernel
theorem tyJ1_ok : ∀ k, k < 0 → parseFieldDescriptor (TJ1 k).2.2.1 = some (tyJ1 k) := by decide +kernel
abbrev cJ1_charAt_3b067 : ByteArray := prog_11_method_2_code
def yJ1_charAt_3b067 : MethodName := ⟨RJ1, "charAt", "([BI)C"⟩
def RJ2 : String := "java/lang/StringUTF16"
def TJ2 : u_T := fun k => match k with
  | _ => ("", "", "", false)
def tyJ2 : Nat → FieldType := fun k => match k with
  | _ => .int
abbrev wsJ20 : List Cond := u_ws RJ2 TJ2 0
theorem nmJ2 : ∀ a, a < 0 → ∀ b, b < 0 → a ≠ b → (TJ2 a).2.1 ≠ (TJ2 b).2.1 := by decide +kernel
theorem tyJ2_ok : ∀ k, k < 0 → parseFieldDescriptor (TJ2 k).2.2.1 = some (tyJ2 k) := by decide +kernel
abbrev cJ2_getChar_3b067 : ByteArray := prog_12_method_5_code
def yJ2_getChar_3b067 : MethodName := ⟨RJ2, "getChar", "([BI)C"⟩
abbrev cJ2_length_9d52b : ByteArray := prog_12_method_6_code
def yJ2_length_9d52b : MethodName := ⟨RJ2, "length", "([B)I"⟩
abbrev cJ2_charAt_3b067 : ByteArray := prog_12_method_83_code
def yJ2_charAt_3b067 : MethodName := ⟨RJ2, "charAt", "([BI)C"⟩
abbrev cJ2_checkIndex_2214a : ByteArray := prog_12_method_91_code
def yJ2_checkIndex_2214a : MethodName := ⟨RJ2, "checkIndex", "(I[B)V"⟩
def RJ3 : String := "jdk/internal/util/Preconditions"
def TJ3 : u_T := fun k => match k with
  | _ => ("", "", "", false)
def tyJ3 : Nat → FieldType := fun k => match k with
  | _ => .int
abbrev wsJ30 : List Cond := u_ws RJ3 TJ3 0
theorem nmJ3 : ∀ a, a < 0 → ∀ b, b < 0 → a ≠ b → (TJ3 a).2.1 ≠ (TJ3 b).2.1 := by decide +kernel
theorem tyJ3_ok : ∀ k, k < 0 → parseFieldDescriptor (TJ3 k).2.2.1 = some (tyJ3 k) := by decide +kernel
abbrev cJ3_checkIndex_8e157 : ByteArray := prog_13_method_11_code
def yJ3_checkIndex_8e157 : MethodName := ⟨RJ3, "checkIndex", "(IILjava/util/function/BiFunction;)I"⟩
def RL : String := "PeatRailwayLaw"
abbrev cL_cell : ByteArray := method_2_code
def yL_cell : MethodName := ⟨RL, "cell", "([II)I"⟩
abbrev cL_at : ByteArray := method_3_code
def yL_at : MethodName := ⟨RL, "at", "(II)I"⟩
abbrev cL_passing : ByteArray := method_4_code
def yL_passing : MethodName := ⟨RL, "passing", "(I[I[I)Z"⟩
abbrev cL_room : ByteArray := method_5_code
def yL_room : MethodName := ⟨RL, "room", "(I[I[I)I"⟩
abbrev cL_there : ByteArray := method_6_code
def yL_there : MethodName := ⟨RL, "there", "(I[I[I)I"⟩
abbrev cL_weight : ByteArray := method_7_code
def yL_weight : MethodName := ⟨RL, "weight", "(I[I)I"⟩
abbrev cL_many : ByteArray := method_8_code
def yL_many : MethodName := ⟨RL, "many", "(I[I[I)I"⟩
abbrev cL_why : ByteArray := method_9_code
def yL_why : MethodName := ⟨RL, "why", "(I[I[I[I)I"⟩
abbrev cL_turn : ByteArray := method_10_code
def yL_turn : MethodName := ⟨RL, "turn", "(I[I[I[I)V"⟩
abbrev cL_tick : ByteArray := method_11_code
def yL_tick : MethodName := ⟨RL, "tick", "([I[I[I)V"⟩
abbrev cL_sunk : ByteArray := method_12_code
def yL_sunk : MethodName := ⟨RL, "sunk", "([I[I)I"⟩
abbrev cL_sum : ByteArray := method_13_code
def yL_sum : MethodName := ⟨RL, "sum", "(I[I[I)I"⟩
abbrev cL_told : ByteArray := method_14_code
def yL_told : MethodName := ⟨RL, "told", "(LPeatRailway;[I[I[I)Z"⟩
abbrev cL_copy : ByteArray := method_15_code
def yL_copy : MethodName := ⟨RL, "copy", "([I[I)V"⟩
abbrev cL_ahead : ByteArray := method_16_code
def yL_ahead : MethodName := ⟨RL, "ahead", "(LPeatRailway;I[I[I[I)Z"⟩
abbrev cL_lay : ByteArray := method_17_code
def yL_lay : MethodName := ⟨RL, "lay", "(LPeatRailway;II[I[I[I)Z"⟩
abbrev cL_again : ByteArray := method_18_code
def yL_again : MethodName := ⟨RL, "again", "(LPeatRailway;I[I)Z"⟩
abbrev cL_act : ByteArray := method_19_code
def yL_act : MethodName := ⟨RL, "act", "(LPeatRailway;III[I[I[I)Z"⟩
abbrev cL_law : ByteArray := code
def yL_law : MethodName := ⟨RL, "law", "([I)Z"⟩
def wsJ0_coder_7d493 : List Cond := .code yJ0_coder_7d493 cJ0_coder_7d493 1 (some .byte) :: ([.fieldLink RJ0 38 "java/lang/String" "COMPACT_STRINGS" "Z", .fieldLink RJ0 15 "java/lang/String" "coder" "B"])
def wsJ0_length_8abf5 : List Cond := .code yJ0_length_8abf5 cJ0_length_8abf5 1 (some .int) :: ([.fieldLink RJ0 9 "java/lang/String" "value" "[B", .methodLink RJ0 335 yJ0_coder_7d493, .instanceMethod yJ0_coder_7d493, .selects RJ0 yJ0_coder_7d493 yJ0_coder_7d493, .initialized RJ0, .code yJ0_coder_7d493 cJ0_coder_7d493 1 (some .byte), .fieldLink RJ0 38 "java/lang/String" "COMPACT_STRINGS" "Z", .fieldLink RJ0 15 "java/lang/String" "coder" "B"])
def wsJ0_isLatin1_aae02 : List Cond := .code yJ0_isLatin1_aae02 cJ0_isLatin1_aae02 1 (some .boolean) :: ([.fieldLink RJ0 38 "java/lang/String" "COMPACT_STRINGS" "Z", .fieldLink RJ0 15 "java/lang/String" "coder" "B"])
def wsJ3_checkIndex_8e157 : List Cond := .code yJ3_checkIndex_8e157 cJ3_checkIndex_8e157 3 (some .int) :: ([])
def wsJ0_checkIndex_df160 : List Cond := .code yJ0_checkIndex_df160 cJ0_checkIndex_df160 2 none :: ([.fieldLink RJ0 1053 "jdk/internal/util/Preconditions" "SIOOBE_FORMATTER" "Ljava/util/function/BiFunction;", .methodLink RJ0 1059 yJ3_checkIndex_8e157, .static yJ3_checkIndex_8e157, .initialized RJ3, .code yJ3_checkIndex_8e157 cJ3_checkIndex_8e157 3 (some .int)])
def wsJ1_charAt_3b067 : List Cond := .code yJ1_charAt_3b067 cJ1_charAt_3b067 2 (some .char) :: ([.methodLink RJ1 9 yJ0_checkIndex_df160, .static yJ0_checkIndex_df160, .initialized RJ0, .code yJ0_checkIndex_df160 cJ0_checkIndex_df160 2 none, .fieldLink RJ0 1053 "jdk/internal/util/Preconditions" "SIOOBE_FORMATTER" "Ljava/util/function/BiFunction;", .methodLink RJ0 1059 yJ3_checkIndex_8e157, .static yJ3_checkIndex_8e157, .initialized RJ3, .code yJ3_checkIndex_8e157 cJ3_checkIndex_8e157 3 (some .int)])
def wsJ2_length_9d52b : List Cond := .code yJ2_length_9d52b cJ2_length_9d52b 1 (some .int) :: ([])
def wsJ2_checkIndex_2214a : List Cond := .code yJ2_checkIndex_2214a cJ2_checkIndex_2214a 2 none :: ([.methodLink RJ2 48 yJ2_length_9d52b, .static yJ2_length_9d52b, .initialized RJ2, .code yJ2_length_9d52b cJ2_length_9d52b 1 (some .int), .methodLink RJ2 414 yJ0_checkIndex_df160, .static yJ0_checkIndex_df160, .initialized RJ0, .code yJ0_checkIndex_df160 cJ0_checkIndex_df160 2 none, .fieldLink RJ0 1053 "jdk/internal/util/Preconditions" "SIOOBE_FORMATTER" "Ljava/util/function/BiFunction;", .methodLink RJ0 1059 yJ3_checkIndex_8e157, .static yJ3_checkIndex_8e157, .initialized RJ3, .code yJ3_checkIndex_8e157 cJ3_checkIndex_8e157 3 (some .int)])
def wsJ2_getChar_3b067 : List Cond := .code yJ2_getChar_3b067 cJ2_getChar_3b067 2 (some .char) :: ([.fieldLink RJ2 44 "java/lang/StringUTF16" "$assertionsDisabled" "Z", .fieldLink RJ2 59 "java/lang/StringUTF16" "HI_BYTE_SHIFT" "I", .fieldLink RJ2 63 "java/lang/StringUTF16" "LO_BYTE_SHIFT" "I", .methodLink RJ2 48 yJ2_length_9d52b, .static yJ2_length_9d52b, .initialized RJ2, .code yJ2_length_9d52b cJ2_length_9d52b 1 (some .int)])
def wsJ2_charAt_3b067 : List Cond := .code yJ2_charAt_3b067 cJ2_charAt_3b067 2 (some .char) :: ([.methodLink RJ2 67 yJ2_checkIndex_2214a, .static yJ2_checkIndex_2214a, .initialized RJ2, .code yJ2_checkIndex_2214a cJ2_checkIndex_2214a 2 none, .methodLink RJ2 48 yJ2_length_9d52b, .static yJ2_length_9d52b, .code yJ2_length_9d52b cJ2_length_9d52b 1 (some .int), .methodLink RJ2 414 yJ0_checkIndex_df160, .static yJ0_checkIndex_df160, .initialized RJ0, .code yJ0_checkIndex_df160 cJ0_checkIndex_df160 2 none, .fieldLink RJ0 1053 "jdk/internal/util/Preconditions" "SIOOBE_FORMATTER" "Ljava/util/function/BiFunction;", .methodLink RJ0 1059 yJ3_checkIndex_8e157, .static yJ3_checkIndex_8e157, .initialized RJ3, .code yJ3_checkIndex_8e157 cJ3_checkIndex_8e157 3 (some .int), .methodLink RJ2 71 yJ2_getChar_3b067, .static yJ2_getChar_3b067, .code yJ2_getChar_3b067 cJ2_getChar_3b067 2 (some .char), .fieldLink RJ2 44 "java/lang/StringUTF16" "$assertionsDisabled" "Z", .fieldLink RJ2 59 "java/lang/StringUTF16" "HI_BYTE_SHIFT" "I", .fieldLink RJ2 63 "java/lang/StringUTF16" "LO_BYTE_SHIFT" "I"])
def wsJ0_charAt_5068e_r1 : List Cond := [Cond.fieldLink RJ0 9 "java/lang/String" "value" "[B", Cond.methodLink RJ0 492 yJ0_isLatin1_aae02, Cond.instanceMethod yJ0_isLatin1_aae02, Cond.selects RJ0 yJ0_isLatin1_aae02 yJ0_isLatin1_aae02, Cond.initialized RJ0, Cond.code yJ0_isLatin1_aae02 cJ0_isLatin1_aae02 1 (some .boolean), Cond.fieldLink RJ0 38 "java/lang/String" "COMPACT_STRINGS" "Z", Cond.fieldLink RJ0 15 "java/lang/String" "coder" "B", Cond.methodLink RJ0 495 yJ1_charAt_3b067, Cond.static yJ1_charAt_3b067, Cond.initialized RJ1, Cond.code yJ1_charAt_3b067 cJ1_charAt_3b067 2 (some .char), Cond.methodLink RJ1 9 yJ0_checkIndex_df160, Cond.static yJ0_checkIndex_df160, Cond.code yJ0_checkIndex_df160 cJ0_checkIndex_df160 2 none, Cond.fieldLink RJ0 1053 "jdk/internal/util/Preconditions" "SIOOBE_FORMATTER" "Ljava/util/function/BiFunction;", Cond.methodLink RJ0 1059 yJ3_checkIndex_8e157, Cond.static yJ3_checkIndex_8e157, Cond.initialized RJ3, Cond.code yJ3_checkIndex_8e157 cJ3_checkIndex_8e157 3 (some .int), Cond.methodLink RJ0 498 yJ2_charAt_3b067, Cond.static yJ2_charAt_3b067, Cond.initialized RJ2, Cond.code yJ2_charAt_3b067 cJ2_charAt_3b067 2 (some .char)]
def wsJ0_charAt_5068e_r2 : List Cond := [Cond.methodLink RJ2 67 yJ2_checkIndex_2214a, Cond.static yJ2_checkIndex_2214a, Cond.code yJ2_checkIndex_2214a cJ2_checkIndex_2214a 2 none, Cond.methodLink RJ2 48 yJ2_length_9d52b, Cond.static yJ2_length_9d52b, Cond.code yJ2_length_9d52b cJ2_length_9d52b 1 (some .int), Cond.methodLink RJ2 414 yJ0_checkIndex_df160, Cond.methodLink RJ2 71 yJ2_getChar_3b067, Cond.static yJ2_getChar_3b067, Cond.code yJ2_getChar_3b067 cJ2_getChar_3b067 2 (some .char), Cond.fieldLink RJ2 44 "java/lang/StringUTF16" "$assertionsDisabled" "Z", Cond.fieldLink RJ2 59 "java/lang/StringUTF16" "HI_BYTE_SHIFT" "I", Cond.fieldLink RJ2 63 "java/lang/StringUTF16" "LO_BYTE_SHIFT" "I"]
def wsJ0_charAt_5068e : List Cond := .code yJ0_charAt_5068e cJ0_charAt_5068e 2 (some .char) :: ((wsJ0_charAt_5068e_r1 ++ wsJ0_charAt_5068e_r2))
def wsJ9_max_7cf53 : List Cond := .code yJ9_max_7cf53 cJ9_max_7cf53 2 (some .int) :: ([])
def wsJ9_min_7cf53 : List Cond := .code yJ9_min_7cf53 cJ9_min_7cf53 2 (some .int) :: ([])
def wsL_cell : List Cond := .code yL_cell cL_cell 2 (some .int) :: ([.constant RL 7 (625341585)])
def wsL_at : List Cond := .code yL_at cL_at 2 (some .int) :: ([])
def wsL_passing : List Cond := .code yL_passing cL_passing 3 (some .boolean) :: ([])
def wsL_room : List Cond := .code yL_room cL_room 3 (some .int) :: ([.methodLink RL 8 yL_passing, .static yL_passing, .initialized RL, .code yL_passing cL_passing 3 (some .boolean)])
def wsL_weight : List Cond := .code yL_weight cL_weight 2 (some .int) :: ([])
def wsL_there : List Cond := .code yL_there cL_there 5 (some .int) :: ([.methodLink RL 14 yL_weight, .static yL_weight, .initialized RL, .code yL_weight cL_weight 2 (some .int)])
def wsL_many : List Cond := .code yL_many cL_many 3 (some .int) :: ([.methodLink RL 18 yL_there, .static yL_there, .initialized RL, .code yL_there cL_there 5 (some .int), .methodLink RL 14 yL_weight, .static yL_weight, .code yL_weight cL_weight 2 (some .int)])
def wsL_why : List Cond := .code yL_why cL_why 13 (some .int) :: ([.methodLink RL 22 yL_many, .static yL_many, .initialized RL, .code yL_many cL_many 3 (some .int), .methodLink RL 18 yL_there, .static yL_there, .code yL_there cL_there 5 (some .int), .methodLink RL 14 yL_weight, .static yL_weight, .code yL_weight cL_weight 2 (some .int), .methodLink RL 25 yL_room, .static yL_room, .code yL_room cL_room 3 (some .int), .methodLink RL 8 yL_passing, .static yL_passing, .code yL_passing cL_passing 3 (some .boolean)])
def wsL_turn : List Cond := .code yL_turn cL_turn 7 none :: ([.methodLink RL 28 yL_why, .static yL_why, .initialized RL, .code yL_why cL_why 13 (some .int), .methodLink RL 22 yL_many, .static yL_many, .code yL_many cL_many 3 (some .int), .methodLink RL 18 yL_there, .static yL_there, .code yL_there cL_there 5 (some .int), .methodLink RL 14 yL_weight, .static yL_weight, .code yL_weight cL_weight 2 (some .int), .methodLink RL 25 yL_room, .static yL_room, .code yL_room cL_room 3 (some .int), .methodLink RL 8 yL_passing, .static yL_passing, .code yL_passing cL_passing 3 (some .boolean)])
def wsL_tick : List Cond := .code yL_tick cL_tick 6 none :: ([.methodLink RL 32 yL_turn, .static yL_turn, .initialized RL, .code yL_turn cL_turn 7 none, .methodLink RL 28 yL_why, .static yL_why, .code yL_why cL_why 13 (some .int), .methodLink RL 22 yL_many, .static yL_many, .code yL_many cL_many 3 (some .int), .methodLink RL 18 yL_there, .static yL_there, .code yL_there cL_there 5 (some .int), .methodLink RL 14 yL_weight, .static yL_weight, .code yL_weight cL_weight 2 (some .int), .methodLink RL 25 yL_room, .static yL_room, .code yL_room cL_room 3 (some .int), .methodLink RL 8 yL_passing, .static yL_passing, .code yL_passing cL_passing 3 (some .boolean)])
def wsL_sunk : List Cond := .code yL_sunk cL_sunk 4 (some .int) :: ([])
def wsL_sum : List Cond := .code yL_sum cL_sum 5 (some .int) :: ([])
def wsL_told_r1 : List Cond := [Cond.methodLink RL 36 yX5_segment, Cond.instanceMethod yX5_segment, Cond.selects RX5 yX5_segment yX5_segment, Cond.initialized RX5, Cond.code yX5_segment cX5_segment 4 (some .int), Cond.fieldLink RX5 42 "PeatRailway" "now" "LPeatRailway$State;", Cond.fieldLink RX5 153 "PeatRailway$Segment" "softness" "I", Cond.fieldLink RX5 161 "PeatRailway$Segment" "sinking" "I", Cond.fieldLink RX5 170 "PeatRailway$Segment" "room" "I", Cond.fieldLink RX5 89 "PeatRailway$State" "settings" "[I", Cond.methodLink RX5 149 yX3_segmentAt, Cond.instanceMethod yX3_segmentAt, Cond.selects RX3 yX3_segmentAt yX3_segmentAt, Cond.initialized RX3, Cond.code yX3_segmentAt cX3_segmentAt 2 (some (.object "PeatRailway$Segment")), Cond.fieldLink RX3 32 "PeatRailway$State" "segmentCount" "I", Cond.fieldLink RX3 11 "PeatRailway$State" "segments" "[LPeatRailway$Segment;", Cond.methodLink RX5 158 yX2_isPassingPlace, Cond.instanceMethod yX2_isPassingPlace, Cond.selects RX2 yX2_isPassingPlace yX2_isPassingPlace, Cond.initialized RX2, Cond.code yX2_isPassingPlace cX2_isPassingPlace 1 (some .boolean), Cond.fieldLink RX2 15 "PeatRailway$Segment" "room" "I", Cond.methodLink RX5 164 yX3_trainsIn]
def wsL_told_r2 : List Cond := [Cond.instanceMethod yX3_trainsIn, Cond.selects RX3 yX3_trainsIn yX3_trainsIn, Cond.code yX3_trainsIn cX3_trainsIn 5 (some .int), Cond.fieldLink RX3 148 "PeatRailway$Train" "place" "I", Cond.methodLink RX3 82 yX3_trainAt, Cond.instanceMethod yX3_trainAt, Cond.selects RX3 yX3_trainAt yX3_trainAt, Cond.code yX3_trainAt cX3_trainAt 2 (some (.object "PeatRailway$Train")), Cond.fieldLink RX3 40 "PeatRailway$State" "trainCount" "I", Cond.fieldLink RX3 20 "PeatRailway$State" "trains" "[LPeatRailway$Train;", Cond.methodLink RX5 167 yX3_weightIn, Cond.instanceMethod yX3_weightIn, Cond.selects RX3 yX3_weightIn yX3_weightIn, Cond.code yX3_weightIn cX3_weightIn 5 (some .int), Cond.methodLink RX3 181 yX4_weight, Cond.instanceMethod yX4_weight, Cond.selects RX4 yX4_weight yX4_weight, Cond.initialized RX4, Cond.code yX4_weight cX4_weight 1 (some .int), Cond.fieldLink RX4 9 "PeatRailway$Train" "wagons" "I", Cond.fieldLink RX4 18 "PeatRailway$Train" "peat" "I", Cond.methodLink RX5 173 yX2_ticksToRise, Cond.instanceMethod yX2_ticksToRise, Cond.selects RX2 yX2_ticksToRise yX2_ticksToRise]
def wsL_told_r3 : List Cond := [Cond.code yX2_ticksToRise cX2_ticksToRise 3 (some .int), Cond.fieldLink RX2 18 "PeatRailway$Segment" "sinking" "I", Cond.methodLink RL 8 yL_passing, Cond.static yL_passing, Cond.initialized RL, Cond.code yL_passing cL_passing 3 (some .boolean), Cond.methodLink RL 22 yL_many, Cond.static yL_many, Cond.code yL_many cL_many 3 (some .int), Cond.methodLink RL 18 yL_there, Cond.static yL_there, Cond.code yL_there cL_there 5 (some .int), Cond.methodLink RL 14 yL_weight, Cond.static yL_weight, Cond.code yL_weight cL_weight 2 (some .int), Cond.methodLink RL 25 yL_room, Cond.static yL_room, Cond.code yL_room cL_room 3 (some .int), Cond.methodLink RL 42 yX5_train, Cond.instanceMethod yX5_train, Cond.selects RX5 yX5_train yX5_train, Cond.code yX5_train cX5_train 4 (some .int), Cond.fieldLink RX5 176 "PeatRailway$Train" "wagons" "I", Cond.fieldLink RX5 121 "PeatRailway$Train" "load" "I"]
def wsL_told_r4 : List Cond := [Cond.fieldLink RX5 112 "PeatRailway$Train" "peat" "I", Cond.fieldLink RX5 179 "PeatRailway$Train" "place" "I", Cond.fieldLink RX5 182 "PeatRailway$Train" "up" "Z", Cond.fieldLink RX5 186 "PeatRailway$Train" "rest" "I", Cond.fieldLink RX5 189 "PeatRailway$Train" "reason" "I", Cond.fieldLink RX5 192 "PeatRailway$Train" "waits" "I", Cond.fieldLink RX5 195 "PeatRailway$Train" "unloads" "I", Cond.methodLink RX5 108 yX3_trainAt, Cond.methodLink RX5 198 yX4_weight, Cond.methodLink RL 45 yX5_why, Cond.instanceMethod yX5_why, Cond.selects RX5 yX5_why yX5_why, Cond.code yX5_why cX5_why 3 (some .int), Cond.methodLink RX5 201 yX3_reasonToWait, Cond.instanceMethod yX3_reasonToWait, Cond.selects RX3 yX3_reasonToWait yX3_reasonToWait, Cond.code yX3_reasonToWait cX3_reasonToWait 5 (some .int), Cond.fieldLink RX3 46 "PeatRailway$State" "stock" "I", Cond.fieldLink RX3 163 "PeatRailway$Segment" "sinking" "I", Cond.fieldLink RX3 25 "PeatRailway$State" "settings" "[I", Cond.fieldLink RX3 69 "PeatRailway$Segment" "room" "I", Cond.fieldLink RX3 117 "PeatRailway$Train" "up" "Z", Cond.fieldLink RX3 79 "PeatRailway$Segment" "passingAbove" "I", Cond.fieldLink RX3 72 "PeatRailway$Segment" "passingBelow" "I"]
def wsL_told_r5 : List Cond := [Cond.methodLink RX3 133 yX3_isToUnload, Cond.instanceMethod yX3_isToUnload, Cond.selects RX3 yX3_isToUnload yX3_isToUnload, Cond.code yX3_isToUnload cX3_isToUnload 2 (some .boolean), Cond.methodLink RX3 139 yX3_isToLoad, Cond.instanceMethod yX3_isToLoad, Cond.selects RX3 yX3_isToLoad yX3_isToLoad, Cond.code yX3_isToLoad cX3_isToLoad 2 (some .boolean), Cond.methodLink RX3 157 yX4_fullLoad, Cond.instanceMethod yX4_fullLoad, Cond.selects RX4 yX4_fullLoad yX4_fullLoad, Cond.code yX4_fullLoad cX4_fullLoad 1 (some .int), Cond.fieldLink RX4 15 "PeatRailway$Train" "load" "I", Cond.methodLink RX3 160 yX3_placeBeyond, Cond.instanceMethod yX3_placeBeyond, Cond.selects RX3 yX3_placeBeyond yX3_placeBeyond, Cond.code yX3_placeBeyond cX3_placeBeyond 2 (some .int), Cond.methodLink RX3 61 yX3_segmentAt, Cond.methodLink RX3 166 yX3_trainsIn, Cond.methodLink RX3 75 yX2_isPassingPlace, Cond.methodLink RX3 170 yX3_reasonAhead, Cond.instanceMethod yX3_reasonAhead, Cond.selects RX3 yX3_reasonAhead yX3_reasonAhead, Cond.code yX3_reasonAhead cX3_reasonAhead 6 (some .int)]
def wsL_told_r6 : List Cond := [Cond.methodLink RX3 174 yX3_isBetween, Cond.static yX3_isBetween, Cond.code yX3_isBetween cX3_isBetween 3 (some .boolean), Cond.methodLink RL 28 yL_why, Cond.static yL_why, Cond.code yL_why cL_why 13 (some .int), Cond.methodLink RL 48 yX5_setting, Cond.instanceMethod yX5_setting, Cond.selects RX5 yX5_setting yX5_setting, Cond.code yX5_setting cX5_setting 2 (some .int), Cond.methodLink RX5 78 yX5_isSetting, Cond.static yX5_isSetting, Cond.code yX5_isSetting cX5_isSetting 1 (some .boolean), Cond.methodLink RL 51 yX5_account, Cond.instanceMethod yX5_account, Cond.selects RX5 yX5_account yX5_account, Cond.code yX5_account cX5_account 2 (some .int), Cond.fieldLink RX5 95 "PeatRailway$State" "dug" "I", Cond.fieldLink RX5 92 "PeatRailway$State" "stock" "I", Cond.fieldLink RX5 208 "PeatRailway$State" "delivered" "I", Cond.fieldLink RX5 211 "PeatRailway$State" "lost" "I", Cond.methodLink RX5 205 yX3_peatInTrains, Cond.instanceMethod yX3_peatInTrains, Cond.selects RX3 yX3_peatInTrains yX3_peatInTrains]
def wsL_told_r7 : List Cond := [Cond.code yX3_peatInTrains cX3_peatInTrains 4 (some .int), Cond.fieldLink RX3 90 "PeatRailway$Train" "peat" "I", Cond.methodLink RL 54 yL_sum, Cond.static yL_sum, Cond.code yL_sum cL_sum 5 (some .int), Cond.methodLink RL 57 yX5_count, Cond.instanceMethod yX5_count, Cond.selects RX5 yX5_count yX5_count, Cond.code yX5_count cX5_count 2 (some .int), Cond.fieldLink RX5 74 "PeatRailway$State" "segmentCount" "I", Cond.fieldLink RX5 101 "PeatRailway$State" "trainCount" "I", Cond.fieldLink RX5 146 "PeatRailway$State" "clock" "I", Cond.fieldLink RX5 52 "PeatRailway" "history" "LPeatRailway$History;", Cond.fieldLink RX5 143 "PeatRailway" "keptImages" "I", Cond.methodLink RX5 214 yX3_greatestSinking, Cond.instanceMethod yX3_greatestSinking, Cond.selects RX3 yX3_greatestSinking yX3_greatestSinking, Cond.code yX3_greatestSinking cX3_greatestSinking 4 (some .int), Cond.methodLink RX3 186 Lib.Math.max.name, Cond.static Lib.Math.max.name, Cond.initialized "java/lang/Math", Cond.code Lib.Math.max.name Lib.Math.max.code 2 (some .int), Cond.methodLink RX5 217 yX3_waitsOfAll, Cond.instanceMethod yX3_waitsOfAll]
def wsL_told_r8 : List Cond := [Cond.selects RX3 yX3_waitsOfAll yX3_waitsOfAll, Cond.code yX3_waitsOfAll cX3_waitsOfAll 4 (some .int), Cond.fieldLink RX3 130 "PeatRailway$Train" "waits" "I", Cond.methodLink RX5 131 yX0_size, Cond.instanceMethod yX0_size, Cond.selects RX0 yX0_size yX0_size, Cond.initialized RX0, Cond.code yX0_size cX0_size 1 (some .int), Cond.fieldLink RX0 18 "PeatRailway$History" "size" "I", Cond.methodLink RX5 220 yX3_sunkSegments, Cond.instanceMethod yX3_sunkSegments, Cond.selects RX3 yX3_sunkSegments yX3_sunkSegments, Cond.code yX3_sunkSegments cX3_sunkSegments 4 (some .int), Cond.methodLink RL 60 yL_sunk, Cond.static yL_sunk, Cond.code yL_sunk cL_sunk 4 (some .int), Cond.methodLink RL 64 yX5_meanSinking, Cond.instanceMethod yX5_meanSinking, Cond.selects RX5 yX5_meanSinking yX5_meanSinking, Cond.code yX5_meanSinking cX5_meanSinking 1 (some .double), Cond.methodLink RX5 229 yX3_sumOfSinkings, Cond.instanceMethod yX3_sumOfSinkings, Cond.selects RX3 yX3_sumOfSinkings yX3_sumOfSinkings, Cond.code yX3_sumOfSinkings cX3_sumOfSinkings 4 (some .int)]
def wsL_told : List Cond := .code yL_told cL_told 9 (some .boolean) :: ((wsL_told_r1 ++ (wsL_told_r2 ++ (wsL_told_r3 ++ (wsL_told_r4 ++ (wsL_told_r5 ++ (wsL_told_r6 ++ (wsL_told_r7 ++ wsL_told_r8))))))) ++ wsX50 ++ wsX20 ++ wsX30 ++ wsX40 ++ wsX00)
def wsL_copy : List Cond := .code yL_copy cL_copy 3 none :: ([])
def wsL_ahead_r1 : List Cond := [Cond.arrayClass .int, Cond.methodLink RL 68 yL_at, Cond.static yL_at, Cond.initialized RL, Cond.code yL_at cL_at 2 (some .int), Cond.methodLink RL 71 yL_copy, Cond.static yL_copy, Cond.code yL_copy cL_copy 3 none, Cond.methodLink RL 75 yL_tick, Cond.static yL_tick, Cond.code yL_tick cL_tick 6 none, Cond.methodLink RL 32 yL_turn, Cond.static yL_turn, Cond.code yL_turn cL_turn 7 none, Cond.methodLink RL 28 yL_why, Cond.static yL_why, Cond.code yL_why cL_why 13 (some .int), Cond.methodLink RL 22 yL_many, Cond.static yL_many, Cond.code yL_many cL_many 3 (some .int), Cond.methodLink RL 18 yL_there, Cond.static yL_there, Cond.code yL_there cL_there 5 (some .int), Cond.methodLink RL 14 yL_weight]
def wsL_ahead_r2 : List Cond := [Cond.static yL_weight, Cond.code yL_weight cL_weight 2 (some .int), Cond.methodLink RL 25 yL_room, Cond.static yL_room, Cond.code yL_room cL_room 3 (some .int), Cond.methodLink RL 8 yL_passing, Cond.static yL_passing, Cond.code yL_passing cL_passing 3 (some .boolean), Cond.methodLink RL 60 yL_sunk, Cond.static yL_sunk, Cond.code yL_sunk cL_sunk 4 (some .int), Cond.methodLink RL 79 yX5_ifRun, Cond.instanceMethod yX5_ifRun, Cond.selects RX5 yX5_ifRun yX5_ifRun, Cond.initialized RX5, Cond.code yX5_ifRun cX5_ifRun 3 (some .int), Cond.fieldLink RX5 46 "PeatRailway" "trial" "LPeatRailway$State;", Cond.fieldLink RX5 42 "PeatRailway" "now" "LPeatRailway$State;", Cond.methodLink RX5 124 yX5_isRun, Cond.static yX5_isRun, Cond.code yX5_isRun cX5_isRun 1 (some .boolean), Cond.methodLink RX5 140 yX3_copyFrom, Cond.instanceMethod yX3_copyFrom, Cond.selects RX3 yX3_copyFrom yX3_copyFrom]
def wsL_ahead_r3 : List Cond := [Cond.initialized RX3, Cond.code yX3_copyFrom cX3_copyFrom 3 none, Cond.fieldLink RX3 32 "PeatRailway$State" "segmentCount" "I", Cond.fieldLink RX3 11 "PeatRailway$State" "segments" "[LPeatRailway$Segment;", Cond.fieldLink RX3 40 "PeatRailway$State" "trainCount" "I", Cond.fieldLink RX3 20 "PeatRailway$State" "trains" "[LPeatRailway$Train;", Cond.fieldLink RX3 25 "PeatRailway$State" "settings" "[I", Cond.fieldLink RX3 46 "PeatRailway$State" "stock" "I", Cond.fieldLink RX3 49 "PeatRailway$State" "dug" "I", Cond.fieldLink RX3 52 "PeatRailway$State" "delivered" "I", Cond.fieldLink RX3 55 "PeatRailway$State" "lost" "I", Cond.fieldLink RX3 58 "PeatRailway$State" "clock" "I", Cond.methodLink RX3 36 yX2_copyFrom, Cond.instanceMethod yX2_copyFrom, Cond.selects RX2 yX2_copyFrom yX2_copyFrom, Cond.initialized RX2, Cond.code yX2_copyFrom cX2_copyFrom 2 none, Cond.fieldLink RX2 9 "PeatRailway$Segment" "softness" "I", Cond.fieldLink RX2 15 "PeatRailway$Segment" "room" "I", Cond.fieldLink RX2 18 "PeatRailway$Segment" "sinking" "I", Cond.fieldLink RX2 21 "PeatRailway$Segment" "passingAbove" "I", Cond.fieldLink RX2 24 "PeatRailway$Segment" "passingBelow" "I", Cond.methodLink RX3 43 yX4_copyFrom, Cond.instanceMethod yX4_copyFrom]
def wsL_ahead_r4 : List Cond := [Cond.selects RX4 yX4_copyFrom yX4_copyFrom, Cond.initialized RX4, Cond.code yX4_copyFrom cX4_copyFrom 2 none, Cond.fieldLink RX4 9 "PeatRailway$Train" "wagons" "I", Cond.fieldLink RX4 15 "PeatRailway$Train" "load" "I", Cond.fieldLink RX4 18 "PeatRailway$Train" "peat" "I", Cond.fieldLink RX4 21 "PeatRailway$Train" "place" "I", Cond.fieldLink RX4 24 "PeatRailway$Train" "up" "Z", Cond.fieldLink RX4 28 "PeatRailway$Train" "rest" "I", Cond.fieldLink RX4 31 "PeatRailway$Train" "reason" "I", Cond.fieldLink RX4 34 "PeatRailway$Train" "waits" "I", Cond.fieldLink RX4 37 "PeatRailway$Train" "unloads" "I", Cond.methodLink RX5 127 yX3_pass, Cond.instanceMethod yX3_pass, Cond.selects RX3 yX3_pass yX3_pass, Cond.code yX3_pass cX3_pass 4 (some .int), Cond.fieldLink RX3 97 "PeatRailway$State" "peak" "I", Cond.methodLink RX3 100 yX3_tick, Cond.instanceMethod yX3_tick, Cond.selects RX3 yX3_tick yX3_tick, Cond.code yX3_tick cX3_tick 4 none, Cond.fieldLink RX3 107 "PeatRailway$Train" "early" "Z", Cond.methodLink RX3 82 yX3_trainAt, Cond.instanceMethod yX3_trainAt]
def wsL_ahead_r5 : List Cond := [Cond.selects RX3 yX3_trainAt yX3_trainAt, Cond.code yX3_trainAt cX3_trainAt 2 (some (.object "PeatRailway$Train")), Cond.methodLink RX3 103 yX3_goesFirst, Cond.instanceMethod yX3_goesFirst, Cond.selects RX3 yX3_goesFirst yX3_goesFirst, Cond.code yX3_goesFirst cX3_goesFirst 3 (some .boolean), Cond.fieldLink RX3 117 "PeatRailway$Train" "up" "Z", Cond.methodLink RX3 111 yX3_takeTurn, Cond.instanceMethod yX3_takeTurn, Cond.selects RX3 yX3_takeTurn yX3_takeTurn, Cond.code yX3_takeTurn cX3_takeTurn 2 none, Cond.fieldLink RX3 120 "PeatRailway$Train" "rest" "I", Cond.fieldLink RX3 123 "PeatRailway$Train" "reason" "I", Cond.fieldLink RX3 130 "PeatRailway$Train" "waits" "I", Cond.methodLink RX3 126 yX3_reasonToWait, Cond.instanceMethod yX3_reasonToWait, Cond.selects RX3 yX3_reasonToWait yX3_reasonToWait, Cond.code yX3_reasonToWait cX3_reasonToWait 5 (some .int), Cond.fieldLink RX3 148 "PeatRailway$Train" "place" "I", Cond.fieldLink RX3 163 "PeatRailway$Segment" "sinking" "I", Cond.fieldLink RX3 69 "PeatRailway$Segment" "room" "I", Cond.fieldLink RX3 79 "PeatRailway$Segment" "passingAbove" "I", Cond.fieldLink RX3 72 "PeatRailway$Segment" "passingBelow" "I", Cond.methodLink RX3 133 yX3_isToUnload]
def wsL_ahead_r6 : List Cond := [Cond.instanceMethod yX3_isToUnload, Cond.selects RX3 yX3_isToUnload yX3_isToUnload, Cond.code yX3_isToUnload cX3_isToUnload 2 (some .boolean), Cond.methodLink RX3 139 yX3_isToLoad, Cond.instanceMethod yX3_isToLoad, Cond.selects RX3 yX3_isToLoad yX3_isToLoad, Cond.code yX3_isToLoad cX3_isToLoad 2 (some .boolean), Cond.methodLink RX3 157 yX4_fullLoad, Cond.instanceMethod yX4_fullLoad, Cond.selects RX4 yX4_fullLoad yX4_fullLoad, Cond.code yX4_fullLoad cX4_fullLoad 1 (some .int), Cond.methodLink RX3 160 yX3_placeBeyond, Cond.instanceMethod yX3_placeBeyond, Cond.selects RX3 yX3_placeBeyond yX3_placeBeyond, Cond.code yX3_placeBeyond cX3_placeBeyond 2 (some .int), Cond.methodLink RX3 61 yX3_segmentAt, Cond.instanceMethod yX3_segmentAt, Cond.selects RX3 yX3_segmentAt yX3_segmentAt, Cond.code yX3_segmentAt cX3_segmentAt 2 (some (.object "PeatRailway$Segment")), Cond.methodLink RX3 166 yX3_trainsIn, Cond.instanceMethod yX3_trainsIn, Cond.selects RX3 yX3_trainsIn yX3_trainsIn, Cond.code yX3_trainsIn cX3_trainsIn 5 (some .int), Cond.methodLink RX3 75 yX2_isPassingPlace]
def wsL_ahead_r7 : List Cond := [Cond.instanceMethod yX2_isPassingPlace, Cond.selects RX2 yX2_isPassingPlace yX2_isPassingPlace, Cond.code yX2_isPassingPlace cX2_isPassingPlace 1 (some .boolean), Cond.methodLink RX3 170 yX3_reasonAhead, Cond.instanceMethod yX3_reasonAhead, Cond.selects RX3 yX3_reasonAhead yX3_reasonAhead, Cond.code yX3_reasonAhead cX3_reasonAhead 6 (some .int), Cond.methodLink RX3 174 yX3_isBetween, Cond.static yX3_isBetween, Cond.code yX3_isBetween cX3_isBetween 3 (some .boolean), Cond.methodLink RX3 136 yX3_unloadTrain, Cond.instanceMethod yX3_unloadTrain, Cond.selects RX3 yX3_unloadTrain yX3_unloadTrain, Cond.code yX3_unloadTrain cX3_unloadTrain 2 none, Cond.fieldLink RX3 90 "PeatRailway$Train" "peat" "I", Cond.fieldLink RX3 151 "PeatRailway$Train" "wagons" "I", Cond.fieldLink RX3 154 "PeatRailway$Train" "unloads" "I", Cond.methodLink RX3 142 yX3_loadTrain, Cond.instanceMethod yX3_loadTrain, Cond.selects RX3 yX3_loadTrain yX3_loadTrain, Cond.code yX3_loadTrain cX3_loadTrain 2 none, Cond.methodLink RX3 145 yX3_moveTrain, Cond.instanceMethod yX3_moveTrain, Cond.selects RX3 yX3_moveTrain yX3_moveTrain]
def wsL_ahead_r8 : List Cond := [Cond.code yX3_moveTrain cX3_moveTrain 3 none, Cond.methodLink RX3 114 yX3_settle, Cond.instanceMethod yX3_settle, Cond.selects RX3 yX3_settle yX3_settle, Cond.code yX3_settle cX3_settle 4 none, Cond.fieldLink RX3 178 "PeatRailway$Segment" "burden" "I", Cond.methodLink RX3 186 Lib.Math.max.name, Cond.static Lib.Math.max.name, Cond.initialized "java/lang/Math", Cond.code Lib.Math.max.name Lib.Math.max.code 2 (some .int), Cond.methodLink RX3 181 yX4_weight, Cond.instanceMethod yX4_weight, Cond.selects RX4 yX4_weight yX4_weight, Cond.code yX4_weight cX4_weight 1 (some .int), Cond.methodLink RX3 184 yX2_settle, Cond.instanceMethod yX2_settle, Cond.selects RX2 yX2_settle yX2_settle, Cond.code yX2_settle cX2_settle 2 none, Cond.fieldLink RX2 27 "PeatRailway$Segment" "burden" "I", Cond.methodLink RX2 30 Lib.Math.max.name, Cond.methodLink RX2 36 Lib.Math.min.name, Cond.static Lib.Math.min.name, Cond.code Lib.Math.min.name Lib.Math.min.code 2 (some .int), Cond.methodLink RX5 223 yX5_foreseen]
def wsL_ahead_r9 : List Cond := [Cond.instanceMethod yX5_foreseen, Cond.selects RX5 yX5_foreseen yX5_foreseen, Cond.code yX5_foreseen cX5_foreseen 2 (some .int), Cond.fieldLink RX5 208 "PeatRailway$State" "delivered" "I", Cond.fieldLink RX5 265 "PeatRailway$State" "peak" "I", Cond.methodLink RX5 214 yX3_greatestSinking, Cond.instanceMethod yX3_greatestSinking, Cond.selects RX3 yX3_greatestSinking yX3_greatestSinking, Cond.code yX3_greatestSinking cX3_greatestSinking 4 (some .int), Cond.methodLink RX5 217 yX3_waitsOfAll, Cond.instanceMethod yX3_waitsOfAll, Cond.selects RX3 yX3_waitsOfAll yX3_waitsOfAll, Cond.code yX3_waitsOfAll cX3_waitsOfAll 4 (some .int), Cond.methodLink RL 54 yL_sum, Cond.static yL_sum, Cond.code yL_sum cL_sum 5 (some .int), Cond.methodLink RL 82 yX5_ticksFor, Cond.instanceMethod yX5_ticksFor, Cond.selects RX5 yX5_ticksFor yX5_ticksFor, Cond.code yX5_ticksFor cX5_ticksFor 3 (some .int), Cond.methodLink RX5 226 yX3_tick, Cond.methodLink RL 85 yX5_bestRule, Cond.instanceMethod yX5_bestRule, Cond.selects RX5 yX5_bestRule yX5_bestRule]
def wsL_ahead_r10 : List Cond := [Cond.code yX5_bestRule cX5_bestRule 6 (some .int), Cond.fieldLink RX5 82 "PeatRailway" "LEAST_VALUE" "[I", Cond.fieldLink RX5 86 "PeatRailway" "MOST_VALUE" "[I", Cond.fieldLink RX5 89 "PeatRailway$State" "settings" "[I", Cond.methodLink RL 88 yX5_bestLoad, Cond.instanceMethod yX5_bestLoad, Cond.selects RX5 yX5_bestLoad yX5_bestLoad, Cond.code yX5_bestLoad cX5_bestLoad 8 (some .int), Cond.fieldLink RX5 121 "PeatRailway$Train" "load" "I", Cond.methodLink RX5 108 yX3_trainAt]
def wsL_ahead : List Cond := .code yL_ahead cL_ahead 15 (some .boolean) :: ((wsL_ahead_r1 ++ (wsL_ahead_r2 ++ (wsL_ahead_r3 ++ (wsL_ahead_r4 ++ (wsL_ahead_r5 ++ (wsL_ahead_r6 ++ (wsL_ahead_r7 ++ (wsL_ahead_r8 ++ (wsL_ahead_r9 ++ wsL_ahead_r10))))))))) ++ wsX50 ++ wsX30 ++ wsX20 ++ wsX40)
def wsL_again_r1 : List Cond := [Cond.methodLink RL 91 yX5_clear, Cond.instanceMethod yX5_clear, Cond.selects RX5 yX5_clear yX5_clear, Cond.initialized RX5, Cond.code yX5_clear cX5_clear 2 (some .int), Cond.fieldLink RX5 38 "PeatRailway" "text" "LPeatRailway$InputText;", Cond.methodLink RX5 64 yX1_length, Cond.instanceMethod yX1_length, Cond.selects RX1 yX1_length yX1_length, Cond.initialized RX1, Cond.code yX1_length cX1_length 1 (some .int), Cond.fieldLink RX1 15 "PeatRailway$InputText" "length" "I", Cond.methodLink RX5 35 yX1_wipe, Cond.instanceMethod yX1_wipe, Cond.selects RX1 yX1_wipe yX1_wipe, Cond.code yX1_wipe cX1_wipe 1 none, Cond.methodLink RL 98 yX5_type, Cond.instanceMethod yX5_type, Cond.selects RX5 yX5_type yX5_type, Cond.code yX5_type cX5_type 2 (some .int), Cond.methodLink RX5 60 yX1_isFull, Cond.instanceMethod yX1_isFull, Cond.selects RX1 yX1_isFull yX1_isFull, Cond.code yX1_isFull cX1_isFull 1 (some .boolean)]
def wsL_again_r2 : List Cond := [Cond.fieldLink RX1 9 "PeatRailway$InputText" "signs" "[C", Cond.methodLink RX5 24 yX1_append, Cond.instanceMethod yX1_append, Cond.selects RX1 yX1_append yX1_append, Cond.code yX1_append cX1_append 2 none]
def wsL_again : List Cond := .code yL_again cL_again 4 (some .boolean) :: ((wsL_again_r1 ++ wsL_again_r2) ++ wsX50 ++ wsX10)
def wsL_lay_r1 : List Cond := [Cond.methodLink RL 68 yL_at, Cond.static yL_at, Cond.initialized RL, Cond.code yL_at cL_at 2 (some .int), Cond.methodLink RL 91 yX5_clear, Cond.instanceMethod yX5_clear, Cond.selects RX5 yX5_clear yX5_clear, Cond.initialized RX5, Cond.code yX5_clear cX5_clear 2 (some .int), Cond.fieldLink RX5 38 "PeatRailway" "text" "LPeatRailway$InputText;", Cond.methodLink RX5 64 yX1_length, Cond.instanceMethod yX1_length, Cond.selects RX1 yX1_length yX1_length, Cond.initialized RX1, Cond.code yX1_length cX1_length 1 (some .int), Cond.fieldLink RX1 15 "PeatRailway$InputText" "length" "I", Cond.methodLink RX5 35 yX1_wipe, Cond.instanceMethod yX1_wipe, Cond.selects RX1 yX1_wipe yX1_wipe, Cond.code yX1_wipe cX1_wipe 1 none, Cond.methodLink RL 54 yL_sum, Cond.static yL_sum, Cond.code yL_sum cL_sum 5 (some .int), Cond.methodLink RL 95 yX5_fault]
def wsL_lay_r2 : List Cond := [Cond.instanceMethod yX5_fault, Cond.selects RX5 yX5_fault yX5_fault, Cond.code yX5_fault cX5_fault 1 (some .int), Cond.methodLink RX5 65 yX1_firstFault, Cond.instanceMethod yX1_firstFault, Cond.selects RX1 yX1_firstFault yX1_firstFault, Cond.code yX1_firstFault cX1_firstFault 5 (some .int), Cond.methodLink RX1 19 yX1_codeAt, Cond.instanceMethod yX1_codeAt, Cond.selects RX1 yX1_codeAt yX1_codeAt, Cond.code yX1_codeAt cX1_codeAt 2 (some .int), Cond.fieldLink RX1 9 "PeatRailway$InputText" "signs" "[C", Cond.methodLink RX1 23 yX1_isDigit, Cond.static yX1_isDigit, Cond.code yX1_isDigit cX1_isDigit 1 (some .boolean), Cond.methodLink RL 98 yX5_type, Cond.instanceMethod yX5_type, Cond.selects RX5 yX5_type yX5_type, Cond.code yX5_type cX5_type 2 (some .int), Cond.methodLink RX5 60 yX1_isFull, Cond.instanceMethod yX1_isFull, Cond.selects RX1 yX1_isFull yX1_isFull, Cond.code yX1_isFull cX1_isFull 1 (some .boolean), Cond.methodLink RX5 24 yX1_append]
def wsL_lay_r3 : List Cond := [Cond.instanceMethod yX1_append, Cond.selects RX1 yX1_append yX1_append, Cond.code yX1_append cX1_append 2 none, Cond.methodLink RL 101 yL_again, Cond.static yL_again, Cond.code yL_again cL_again 4 (some .boolean), Cond.methodLink RL 105 yX5_layTrack, Cond.instanceMethod yX5_layTrack, Cond.selects RX5 yX5_layTrack yX5_layTrack, Cond.code yX5_layTrack cX5_layTrack 1 (some .int), Cond.fieldLink RX5 52 "PeatRailway" "history" "LPeatRailway$History;", Cond.fieldLink RX5 42 "PeatRailway" "now" "LPeatRailway$State;", Cond.fieldLink RX5 74 "PeatRailway$State" "segmentCount" "I", Cond.methodLink RX5 68 yX0_remember, Cond.instanceMethod yX0_remember, Cond.selects RX0 yX0_remember yX0_remember, Cond.initialized RX0, Cond.code yX0_remember cX0_remember 2 none, Cond.fieldLink RX0 18 "PeatRailway$History" "size" "I", Cond.fieldLink RX0 11 "PeatRailway$History" "states" "[LPeatRailway$State;", Cond.methodLink RX0 22 yX0_dropOldest, Cond.instanceMethod yX0_dropOldest, Cond.selects RX0 yX0_dropOldest yX0_dropOldest, Cond.code yX0_dropOldest cX0_dropOldest 3 none]
def wsL_lay_r4 : List Cond := [Cond.methodLink RX0 25 yX3_copyFrom, Cond.instanceMethod yX3_copyFrom, Cond.selects RX3 yX3_copyFrom yX3_copyFrom, Cond.initialized RX3, Cond.code yX3_copyFrom cX3_copyFrom 3 none, Cond.fieldLink RX3 32 "PeatRailway$State" "segmentCount" "I", Cond.fieldLink RX3 11 "PeatRailway$State" "segments" "[LPeatRailway$Segment;", Cond.fieldLink RX3 40 "PeatRailway$State" "trainCount" "I", Cond.fieldLink RX3 20 "PeatRailway$State" "trains" "[LPeatRailway$Train;", Cond.fieldLink RX3 25 "PeatRailway$State" "settings" "[I", Cond.fieldLink RX3 46 "PeatRailway$State" "stock" "I", Cond.fieldLink RX3 49 "PeatRailway$State" "dug" "I", Cond.fieldLink RX3 52 "PeatRailway$State" "delivered" "I", Cond.fieldLink RX3 55 "PeatRailway$State" "lost" "I", Cond.fieldLink RX3 58 "PeatRailway$State" "clock" "I", Cond.methodLink RX3 36 yX2_copyFrom, Cond.instanceMethod yX2_copyFrom, Cond.selects RX2 yX2_copyFrom yX2_copyFrom, Cond.initialized RX2, Cond.code yX2_copyFrom cX2_copyFrom 2 none, Cond.fieldLink RX2 9 "PeatRailway$Segment" "softness" "I", Cond.fieldLink RX2 15 "PeatRailway$Segment" "room" "I", Cond.fieldLink RX2 18 "PeatRailway$Segment" "sinking" "I", Cond.fieldLink RX2 21 "PeatRailway$Segment" "passingAbove" "I"]
def wsL_lay_r5 : List Cond := [Cond.fieldLink RX2 24 "PeatRailway$Segment" "passingBelow" "I", Cond.methodLink RX3 43 yX4_copyFrom, Cond.instanceMethod yX4_copyFrom, Cond.selects RX4 yX4_copyFrom yX4_copyFrom, Cond.initialized RX4, Cond.code yX4_copyFrom cX4_copyFrom 2 none, Cond.fieldLink RX4 9 "PeatRailway$Train" "wagons" "I", Cond.fieldLink RX4 15 "PeatRailway$Train" "load" "I", Cond.fieldLink RX4 18 "PeatRailway$Train" "peat" "I", Cond.fieldLink RX4 21 "PeatRailway$Train" "place" "I", Cond.fieldLink RX4 24 "PeatRailway$Train" "up" "Z", Cond.fieldLink RX4 28 "PeatRailway$Train" "rest" "I", Cond.fieldLink RX4 31 "PeatRailway$Train" "reason" "I", Cond.fieldLink RX4 34 "PeatRailway$Train" "waits" "I", Cond.fieldLink RX4 37 "PeatRailway$Train" "unloads" "I", Cond.methodLink RX5 71 yX3_loseAllTrains, Cond.instanceMethod yX3_loseAllTrains, Cond.selects RX3 yX3_loseAllTrains yX3_loseAllTrains, Cond.code yX3_loseAllTrains cX3_loseAllTrains 1 none, Cond.methodLink RX3 93 yX3_peatInTrains, Cond.instanceMethod yX3_peatInTrains, Cond.selects RX3 yX3_peatInTrains yX3_peatInTrains, Cond.code yX3_peatInTrains cX3_peatInTrains 4 (some .int), Cond.fieldLink RX3 90 "PeatRailway$Train" "peat" "I"]
def wsL_lay_r6 : List Cond := [Cond.methodLink RX3 82 yX3_trainAt, Cond.instanceMethod yX3_trainAt, Cond.selects RX3 yX3_trainAt yX3_trainAt, Cond.code yX3_trainAt cX3_trainAt 2 (some (.object "PeatRailway$Train")), Cond.methodLink RX5 31 yX1_layOnto, Cond.instanceMethod yX1_layOnto, Cond.selects RX1 yX1_layOnto yX1_layOnto, Cond.code yX1_layOnto cX1_layOnto 4 none, Cond.methodLink RX1 27 yX3_beginTrack, Cond.instanceMethod yX3_beginTrack, Cond.selects RX3 yX3_beginTrack yX3_beginTrack, Cond.code yX3_beginTrack cX3_beginTrack 1 none, Cond.methodLink RX1 32 yX3_appendSegment, Cond.instanceMethod yX3_appendSegment, Cond.selects RX3 yX3_appendSegment yX3_appendSegment, Cond.code yX3_appendSegment cX3_appendSegment 3 none, Cond.methodLink RX3 61 yX3_segmentAt, Cond.instanceMethod yX3_segmentAt, Cond.selects RX3 yX3_segmentAt yX3_segmentAt, Cond.code yX3_segmentAt cX3_segmentAt 2 (some (.object "PeatRailway$Segment")), Cond.methodLink RX3 65 yX2_layDown, Cond.instanceMethod yX2_layDown, Cond.selects RX2 yX2_layDown yX2_layDown, Cond.code yX2_layDown cX2_layDown 2 none]
def wsL_lay_r7 : List Cond := [Cond.methodLink RX1 36 yX3_widenLatestSegment, Cond.instanceMethod yX3_widenLatestSegment, Cond.selects RX3 yX3_widenLatestSegment yX3_widenLatestSegment, Cond.code yX3_widenLatestSegment cX3_widenLatestSegment 2 none, Cond.fieldLink RX3 69 "PeatRailway$Segment" "room" "I", Cond.methodLink RX1 39 yX3_endTrack, Cond.instanceMethod yX3_endTrack, Cond.selects RX3 yX3_endTrack yX3_endTrack, Cond.code yX3_endTrack cX3_endTrack 6 none, Cond.fieldLink RX3 72 "PeatRailway$Segment" "passingBelow" "I", Cond.fieldLink RX3 79 "PeatRailway$Segment" "passingAbove" "I", Cond.methodLink RX3 75 yX2_isPassingPlace, Cond.instanceMethod yX2_isPassingPlace, Cond.selects RX2 yX2_isPassingPlace yX2_isPassingPlace, Cond.code yX2_isPassingPlace cX2_isPassingPlace 1 (some .boolean)]
def wsL_lay : List Cond := .code yL_lay cL_lay 9 (some .boolean) :: ((wsL_lay_r1 ++ (wsL_lay_r2 ++ (wsL_lay_r3 ++ (wsL_lay_r4 ++ (wsL_lay_r5 ++ (wsL_lay_r6 ++ wsL_lay_r7)))))) ++ wsX50 ++ wsX10 ++ wsX30 ++ wsX00 ++ wsX20 ++ wsX40)
def wsL_act_r1 : List Cond := [Cond.methodLink RL 68 yL_at, Cond.static yL_at, Cond.initialized RL, Cond.code yL_at cL_at 2 (some .int), Cond.methodLink RL 75 yL_tick, Cond.static yL_tick, Cond.code yL_tick cL_tick 6 none, Cond.methodLink RL 32 yL_turn, Cond.static yL_turn, Cond.code yL_turn cL_turn 7 none, Cond.methodLink RL 28 yL_why, Cond.static yL_why, Cond.code yL_why cL_why 13 (some .int), Cond.methodLink RL 22 yL_many, Cond.static yL_many, Cond.code yL_many cL_many 3 (some .int), Cond.methodLink RL 18 yL_there, Cond.static yL_there, Cond.code yL_there cL_there 5 (some .int), Cond.methodLink RL 14 yL_weight, Cond.static yL_weight, Cond.code yL_weight cL_weight 2 (some .int), Cond.methodLink RL 25 yL_room, Cond.static yL_room]
def wsL_act_r2 : List Cond := [Cond.code yL_room cL_room 3 (some .int), Cond.methodLink RL 8 yL_passing, Cond.static yL_passing, Cond.code yL_passing cL_passing 3 (some .boolean), Cond.methodLink RL 108 yX5_run, Cond.instanceMethod yX5_run, Cond.selects RX5 yX5_run yX5_run, Cond.initialized RX5, Cond.code yX5_run cX5_run 2 (some .int), Cond.fieldLink RX5 52 "PeatRailway" "history" "LPeatRailway$History;", Cond.fieldLink RX5 42 "PeatRailway" "now" "LPeatRailway$State;", Cond.methodLink RX5 124 yX5_isRun, Cond.static yX5_isRun, Cond.code yX5_isRun cX5_isRun 1 (some .boolean), Cond.methodLink RX5 68 yX0_remember, Cond.instanceMethod yX0_remember, Cond.selects RX0 yX0_remember yX0_remember, Cond.initialized RX0, Cond.code yX0_remember cX0_remember 2 none, Cond.fieldLink RX0 18 "PeatRailway$History" "size" "I", Cond.fieldLink RX0 11 "PeatRailway$History" "states" "[LPeatRailway$State;", Cond.methodLink RX0 22 yX0_dropOldest, Cond.instanceMethod yX0_dropOldest, Cond.selects RX0 yX0_dropOldest yX0_dropOldest]
def wsL_act_r3 : List Cond := [Cond.code yX0_dropOldest cX0_dropOldest 3 none, Cond.methodLink RX0 25 yX3_copyFrom, Cond.instanceMethod yX3_copyFrom, Cond.selects RX3 yX3_copyFrom yX3_copyFrom, Cond.initialized RX3, Cond.code yX3_copyFrom cX3_copyFrom 3 none, Cond.fieldLink RX3 32 "PeatRailway$State" "segmentCount" "I", Cond.fieldLink RX3 11 "PeatRailway$State" "segments" "[LPeatRailway$Segment;", Cond.fieldLink RX3 40 "PeatRailway$State" "trainCount" "I", Cond.fieldLink RX3 20 "PeatRailway$State" "trains" "[LPeatRailway$Train;", Cond.fieldLink RX3 25 "PeatRailway$State" "settings" "[I", Cond.fieldLink RX3 46 "PeatRailway$State" "stock" "I", Cond.fieldLink RX3 49 "PeatRailway$State" "dug" "I", Cond.fieldLink RX3 52 "PeatRailway$State" "delivered" "I", Cond.fieldLink RX3 55 "PeatRailway$State" "lost" "I", Cond.fieldLink RX3 58 "PeatRailway$State" "clock" "I", Cond.methodLink RX3 36 yX2_copyFrom, Cond.instanceMethod yX2_copyFrom, Cond.selects RX2 yX2_copyFrom yX2_copyFrom, Cond.initialized RX2, Cond.code yX2_copyFrom cX2_copyFrom 2 none, Cond.fieldLink RX2 9 "PeatRailway$Segment" "softness" "I", Cond.fieldLink RX2 15 "PeatRailway$Segment" "room" "I", Cond.fieldLink RX2 18 "PeatRailway$Segment" "sinking" "I"]
def wsL_act_r4 : List Cond := [Cond.fieldLink RX2 21 "PeatRailway$Segment" "passingAbove" "I", Cond.fieldLink RX2 24 "PeatRailway$Segment" "passingBelow" "I", Cond.methodLink RX3 43 yX4_copyFrom, Cond.instanceMethod yX4_copyFrom, Cond.selects RX4 yX4_copyFrom yX4_copyFrom, Cond.initialized RX4, Cond.code yX4_copyFrom cX4_copyFrom 2 none, Cond.fieldLink RX4 9 "PeatRailway$Train" "wagons" "I", Cond.fieldLink RX4 15 "PeatRailway$Train" "load" "I", Cond.fieldLink RX4 18 "PeatRailway$Train" "peat" "I", Cond.fieldLink RX4 21 "PeatRailway$Train" "place" "I", Cond.fieldLink RX4 24 "PeatRailway$Train" "up" "Z", Cond.fieldLink RX4 28 "PeatRailway$Train" "rest" "I", Cond.fieldLink RX4 31 "PeatRailway$Train" "reason" "I", Cond.fieldLink RX4 34 "PeatRailway$Train" "waits" "I", Cond.fieldLink RX4 37 "PeatRailway$Train" "unloads" "I", Cond.methodLink RX5 127 yX3_pass, Cond.instanceMethod yX3_pass, Cond.selects RX3 yX3_pass yX3_pass, Cond.code yX3_pass cX3_pass 4 (some .int), Cond.fieldLink RX3 97 "PeatRailway$State" "peak" "I", Cond.methodLink RX3 100 yX3_tick, Cond.instanceMethod yX3_tick, Cond.selects RX3 yX3_tick yX3_tick]
def wsL_act_r5 : List Cond := [Cond.code yX3_tick cX3_tick 4 none, Cond.fieldLink RX3 107 "PeatRailway$Train" "early" "Z", Cond.methodLink RX3 82 yX3_trainAt, Cond.instanceMethod yX3_trainAt, Cond.selects RX3 yX3_trainAt yX3_trainAt, Cond.code yX3_trainAt cX3_trainAt 2 (some (.object "PeatRailway$Train")), Cond.methodLink RX3 103 yX3_goesFirst, Cond.instanceMethod yX3_goesFirst, Cond.selects RX3 yX3_goesFirst yX3_goesFirst, Cond.code yX3_goesFirst cX3_goesFirst 3 (some .boolean), Cond.fieldLink RX3 117 "PeatRailway$Train" "up" "Z", Cond.methodLink RX3 111 yX3_takeTurn, Cond.instanceMethod yX3_takeTurn, Cond.selects RX3 yX3_takeTurn yX3_takeTurn, Cond.code yX3_takeTurn cX3_takeTurn 2 none, Cond.fieldLink RX3 120 "PeatRailway$Train" "rest" "I", Cond.fieldLink RX3 123 "PeatRailway$Train" "reason" "I", Cond.fieldLink RX3 130 "PeatRailway$Train" "waits" "I", Cond.methodLink RX3 126 yX3_reasonToWait, Cond.instanceMethod yX3_reasonToWait, Cond.selects RX3 yX3_reasonToWait yX3_reasonToWait, Cond.code yX3_reasonToWait cX3_reasonToWait 5 (some .int), Cond.fieldLink RX3 148 "PeatRailway$Train" "place" "I", Cond.fieldLink RX3 163 "PeatRailway$Segment" "sinking" "I"]
def wsL_act_r6 : List Cond := [Cond.fieldLink RX3 69 "PeatRailway$Segment" "room" "I", Cond.fieldLink RX3 79 "PeatRailway$Segment" "passingAbove" "I", Cond.fieldLink RX3 72 "PeatRailway$Segment" "passingBelow" "I", Cond.methodLink RX3 133 yX3_isToUnload, Cond.instanceMethod yX3_isToUnload, Cond.selects RX3 yX3_isToUnload yX3_isToUnload, Cond.code yX3_isToUnload cX3_isToUnload 2 (some .boolean), Cond.methodLink RX3 139 yX3_isToLoad, Cond.instanceMethod yX3_isToLoad, Cond.selects RX3 yX3_isToLoad yX3_isToLoad, Cond.code yX3_isToLoad cX3_isToLoad 2 (some .boolean), Cond.methodLink RX3 157 yX4_fullLoad, Cond.instanceMethod yX4_fullLoad, Cond.selects RX4 yX4_fullLoad yX4_fullLoad, Cond.code yX4_fullLoad cX4_fullLoad 1 (some .int), Cond.methodLink RX3 160 yX3_placeBeyond, Cond.instanceMethod yX3_placeBeyond, Cond.selects RX3 yX3_placeBeyond yX3_placeBeyond, Cond.code yX3_placeBeyond cX3_placeBeyond 2 (some .int), Cond.methodLink RX3 61 yX3_segmentAt, Cond.instanceMethod yX3_segmentAt, Cond.selects RX3 yX3_segmentAt yX3_segmentAt, Cond.code yX3_segmentAt cX3_segmentAt 2 (some (.object "PeatRailway$Segment")), Cond.methodLink RX3 166 yX3_trainsIn]
def wsL_act_r7 : List Cond := [Cond.instanceMethod yX3_trainsIn, Cond.selects RX3 yX3_trainsIn yX3_trainsIn, Cond.code yX3_trainsIn cX3_trainsIn 5 (some .int), Cond.methodLink RX3 75 yX2_isPassingPlace, Cond.instanceMethod yX2_isPassingPlace, Cond.selects RX2 yX2_isPassingPlace yX2_isPassingPlace, Cond.code yX2_isPassingPlace cX2_isPassingPlace 1 (some .boolean), Cond.methodLink RX3 170 yX3_reasonAhead, Cond.instanceMethod yX3_reasonAhead, Cond.selects RX3 yX3_reasonAhead yX3_reasonAhead, Cond.code yX3_reasonAhead cX3_reasonAhead 6 (some .int), Cond.methodLink RX3 174 yX3_isBetween, Cond.static yX3_isBetween, Cond.code yX3_isBetween cX3_isBetween 3 (some .boolean), Cond.methodLink RX3 136 yX3_unloadTrain, Cond.instanceMethod yX3_unloadTrain, Cond.selects RX3 yX3_unloadTrain yX3_unloadTrain, Cond.code yX3_unloadTrain cX3_unloadTrain 2 none, Cond.fieldLink RX3 90 "PeatRailway$Train" "peat" "I", Cond.fieldLink RX3 151 "PeatRailway$Train" "wagons" "I", Cond.fieldLink RX3 154 "PeatRailway$Train" "unloads" "I", Cond.methodLink RX3 142 yX3_loadTrain, Cond.instanceMethod yX3_loadTrain, Cond.selects RX3 yX3_loadTrain yX3_loadTrain]
def wsL_act_r8 : List Cond := [Cond.code yX3_loadTrain cX3_loadTrain 2 none, Cond.methodLink RX3 145 yX3_moveTrain, Cond.instanceMethod yX3_moveTrain, Cond.selects RX3 yX3_moveTrain yX3_moveTrain, Cond.code yX3_moveTrain cX3_moveTrain 3 none, Cond.methodLink RX3 114 yX3_settle, Cond.instanceMethod yX3_settle, Cond.selects RX3 yX3_settle yX3_settle, Cond.code yX3_settle cX3_settle 4 none, Cond.fieldLink RX3 178 "PeatRailway$Segment" "burden" "I", Cond.methodLink RX3 186 Lib.Math.max.name, Cond.static Lib.Math.max.name, Cond.initialized "java/lang/Math", Cond.code Lib.Math.max.name Lib.Math.max.code 2 (some .int), Cond.methodLink RX3 181 yX4_weight, Cond.instanceMethod yX4_weight, Cond.selects RX4 yX4_weight yX4_weight, Cond.code yX4_weight cX4_weight 1 (some .int), Cond.methodLink RX3 184 yX2_settle, Cond.instanceMethod yX2_settle, Cond.selects RX2 yX2_settle yX2_settle, Cond.code yX2_settle cX2_settle 2 none, Cond.fieldLink RX2 27 "PeatRailway$Segment" "burden" "I", Cond.methodLink RX2 30 Lib.Math.max.name]
def wsL_act_r9 : List Cond := [Cond.methodLink RX2 36 Lib.Math.min.name, Cond.static Lib.Math.min.name, Cond.code Lib.Math.min.name Lib.Math.min.code 2 (some .int), Cond.methodLink RL 111 yX5_dig, Cond.instanceMethod yX5_dig, Cond.selects RX5 yX5_dig yX5_dig, Cond.code yX5_dig cX5_dig 2 (some .int), Cond.fieldLink RX5 92 "PeatRailway$State" "stock" "I", Cond.fieldLink RX5 95 "PeatRailway$State" "dug" "I", Cond.methodLink RL 114 yX5_addTrain, Cond.instanceMethod yX5_addTrain, Cond.selects RX5 yX5_addTrain yX5_addTrain, Cond.code yX5_addTrain cX5_addTrain 3 (some .int), Cond.fieldLink RX5 101 "PeatRailway$State" "trainCount" "I", Cond.methodLink RX5 98 yX5_isLoad, Cond.static yX5_isLoad, Cond.code yX5_isLoad cX5_isLoad 1 (some .boolean), Cond.methodLink RX5 104 yX3_bringTrain, Cond.instanceMethod yX3_bringTrain, Cond.selects RX3 yX3_bringTrain yX3_bringTrain, Cond.code yX3_bringTrain cX3_bringTrain 4 (some .int), Cond.methodLink RX3 86 yX4_start, Cond.instanceMethod yX4_start, Cond.selects RX4 yX4_start yX4_start]
def wsL_act_r10 : List Cond := [Cond.code yX4_start cX4_start 3 none, Cond.methodLink RL 117 yX5_set, Cond.instanceMethod yX5_set, Cond.selects RX5 yX5_set yX5_set, Cond.code yX5_set cX5_set 4 (some .int), Cond.fieldLink RX5 82 "PeatRailway" "LEAST_VALUE" "[I", Cond.fieldLink RX5 86 "PeatRailway" "MOST_VALUE" "[I", Cond.fieldLink RX5 89 "PeatRailway$State" "settings" "[I", Cond.methodLink RX5 78 yX5_isSetting, Cond.static yX5_isSetting, Cond.code yX5_isSetting cX5_isSetting 1 (some .boolean), Cond.methodLink RL 120 yL_lay, Cond.static yL_lay, Cond.code yL_lay cL_lay 9 (some .boolean), Cond.methodLink RL 91 yX5_clear, Cond.instanceMethod yX5_clear, Cond.selects RX5 yX5_clear yX5_clear, Cond.code yX5_clear cX5_clear 2 (some .int), Cond.fieldLink RX5 38 "PeatRailway" "text" "LPeatRailway$InputText;", Cond.methodLink RX5 64 yX1_length, Cond.instanceMethod yX1_length, Cond.selects RX1 yX1_length yX1_length, Cond.initialized RX1, Cond.code yX1_length cX1_length 1 (some .int)]
def wsL_act_r11 : List Cond := [Cond.fieldLink RX1 15 "PeatRailway$InputText" "length" "I", Cond.methodLink RX5 35 yX1_wipe, Cond.instanceMethod yX1_wipe, Cond.selects RX1 yX1_wipe yX1_wipe, Cond.code yX1_wipe cX1_wipe 1 none, Cond.methodLink RL 54 yL_sum, Cond.static yL_sum, Cond.code yL_sum cL_sum 5 (some .int), Cond.methodLink RL 95 yX5_fault, Cond.instanceMethod yX5_fault, Cond.selects RX5 yX5_fault yX5_fault, Cond.code yX5_fault cX5_fault 1 (some .int), Cond.methodLink RX5 65 yX1_firstFault, Cond.instanceMethod yX1_firstFault, Cond.selects RX1 yX1_firstFault yX1_firstFault, Cond.code yX1_firstFault cX1_firstFault 5 (some .int), Cond.methodLink RX1 19 yX1_codeAt, Cond.instanceMethod yX1_codeAt, Cond.selects RX1 yX1_codeAt yX1_codeAt, Cond.code yX1_codeAt cX1_codeAt 2 (some .int), Cond.fieldLink RX1 9 "PeatRailway$InputText" "signs" "[C", Cond.methodLink RX1 23 yX1_isDigit, Cond.static yX1_isDigit, Cond.code yX1_isDigit cX1_isDigit 1 (some .boolean)]
def wsL_act_r12 : List Cond := [Cond.methodLink RL 98 yX5_type, Cond.instanceMethod yX5_type, Cond.selects RX5 yX5_type yX5_type, Cond.code yX5_type cX5_type 2 (some .int), Cond.methodLink RX5 60 yX1_isFull, Cond.instanceMethod yX1_isFull, Cond.selects RX1 yX1_isFull yX1_isFull, Cond.code yX1_isFull cX1_isFull 1 (some .boolean), Cond.methodLink RX5 24 yX1_append, Cond.instanceMethod yX1_append, Cond.selects RX1 yX1_append yX1_append, Cond.code yX1_append cX1_append 2 none, Cond.methodLink RL 101 yL_again, Cond.static yL_again, Cond.code yL_again cL_again 4 (some .boolean), Cond.methodLink RL 105 yX5_layTrack, Cond.instanceMethod yX5_layTrack, Cond.selects RX5 yX5_layTrack yX5_layTrack, Cond.code yX5_layTrack cX5_layTrack 1 (some .int), Cond.fieldLink RX5 74 "PeatRailway$State" "segmentCount" "I", Cond.methodLink RX5 71 yX3_loseAllTrains, Cond.instanceMethod yX3_loseAllTrains, Cond.selects RX3 yX3_loseAllTrains yX3_loseAllTrains, Cond.code yX3_loseAllTrains cX3_loseAllTrains 1 none]
def wsL_act_r13 : List Cond := [Cond.methodLink RX3 93 yX3_peatInTrains, Cond.instanceMethod yX3_peatInTrains, Cond.selects RX3 yX3_peatInTrains yX3_peatInTrains, Cond.code yX3_peatInTrains cX3_peatInTrains 4 (some .int), Cond.methodLink RX5 31 yX1_layOnto, Cond.instanceMethod yX1_layOnto, Cond.selects RX1 yX1_layOnto yX1_layOnto, Cond.code yX1_layOnto cX1_layOnto 4 none, Cond.methodLink RX1 27 yX3_beginTrack, Cond.instanceMethod yX3_beginTrack, Cond.selects RX3 yX3_beginTrack yX3_beginTrack, Cond.code yX3_beginTrack cX3_beginTrack 1 none, Cond.methodLink RX1 32 yX3_appendSegment, Cond.instanceMethod yX3_appendSegment, Cond.selects RX3 yX3_appendSegment yX3_appendSegment, Cond.code yX3_appendSegment cX3_appendSegment 3 none, Cond.methodLink RX3 65 yX2_layDown, Cond.instanceMethod yX2_layDown, Cond.selects RX2 yX2_layDown yX2_layDown, Cond.code yX2_layDown cX2_layDown 2 none, Cond.methodLink RX1 36 yX3_widenLatestSegment, Cond.instanceMethod yX3_widenLatestSegment, Cond.selects RX3 yX3_widenLatestSegment yX3_widenLatestSegment, Cond.code yX3_widenLatestSegment cX3_widenLatestSegment 2 none]
def wsL_act_r14 : List Cond := [Cond.methodLink RX1 39 yX3_endTrack, Cond.instanceMethod yX3_endTrack, Cond.selects RX3 yX3_endTrack yX3_endTrack, Cond.code yX3_endTrack cX3_endTrack 6 none, Cond.methodLink RL 124 yX5_dropTrain, Cond.instanceMethod yX5_dropTrain, Cond.selects RX5 yX5_dropTrain yX5_dropTrain, Cond.code yX5_dropTrain cX5_dropTrain 4 (some .int), Cond.fieldLink RX5 112 "PeatRailway$Train" "peat" "I", Cond.methodLink RX5 108 yX3_trainAt, Cond.methodLink RX5 117 yX3_loseTrain, Cond.instanceMethod yX3_loseTrain, Cond.selects RX3 yX3_loseTrain yX3_loseTrain, Cond.code yX3_loseTrain cX3_loseTrain 6 none, Cond.methodLink RL 127 yX5_setLoad, Cond.instanceMethod yX5_setLoad, Cond.selects RX5 yX5_setLoad yX5_setLoad, Cond.code yX5_setLoad cX5_setLoad 5 (some .int), Cond.fieldLink RX5 121 "PeatRailway$Train" "load" "I", Cond.methodLink RL 45 yX5_why, Cond.instanceMethod yX5_why, Cond.selects RX5 yX5_why yX5_why, Cond.code yX5_why cX5_why 3 (some .int), Cond.methodLink RX5 201 yX3_reasonToWait]
def wsL_act : List Cond := .code yL_act cL_act 10 (some .boolean) :: ((wsL_act_r1 ++ (wsL_act_r2 ++ (wsL_act_r3 ++ (wsL_act_r4 ++ (wsL_act_r5 ++ (wsL_act_r6 ++ (wsL_act_r7 ++ (wsL_act_r8 ++ (wsL_act_r9 ++ (wsL_act_r10 ++ (wsL_act_r11 ++ (wsL_act_r12 ++ (wsL_act_r13 ++ wsL_act_r14))))))))))))) ++ wsX50 ++ wsX00 ++ wsX30 ++ wsX20 ++ wsX40 ++ wsX10)
def wsL_law_r1 : List Cond := [Cond.classLink RL 37 RX5, Cond.instantiable RX5 6, Cond.initialized RX5, Cond.arrayClass .int, Cond.constant RL 145 (2147483647), Cond.methodLink RL 130 yX5_init, Cond.instanceMethod yX5_init, Cond.code yX5_init cX5_init 4 none, Cond.methodLink RX5 3 objectInit, Cond.instanceMethod objectInit, Cond.code objectInit ⟨#[0xb1]⟩ 1 none, Cond.classLink RX5 9 RX1, Cond.instantiable RX1 2, Cond.initialized RX1, Cond.classLink RX5 28 RX3, Cond.instantiable RX3 11, Cond.initialized RX3, Cond.fieldLink RX5 38 "PeatRailway" "text" "LPeatRailway$InputText;", Cond.fieldLink RX5 42 "PeatRailway" "now" "LPeatRailway$State;", Cond.fieldLink RX5 46 "PeatRailway" "trial" "LPeatRailway$State;", Cond.classLink RX5 49 RX0, Cond.instantiable RX0 2, Cond.initialized RX0, Cond.fieldLink RX5 52 "PeatRailway" "history" "LPeatRailway$History;"]
def wsL_law_r2 : List Cond := [Cond.fieldLink RX5 56 "PeatRailway" "images" "[LPeatRailway$State;", Cond.methodLink RX5 11 yX1_init, Cond.instanceMethod yX1_init, Cond.code yX1_init cX1_init 1 none, Cond.methodLink RX1 3 objectInit, Cond.arrayClass .char, Cond.fieldLink RX1 9 "PeatRailway$InputText" "signs" "[C", Cond.methodLink RX5 14 yJ0_length_8abf5, Cond.instanceMethod yJ0_length_8abf5, Cond.selects RJ0 yJ0_length_8abf5 yJ0_length_8abf5, Cond.initialized RJ0, Cond.code yJ0_length_8abf5 cJ0_length_8abf5 1 (some .int), Cond.fieldLink RJ0 9 "java/lang/String" "value" "[B", Cond.methodLink RJ0 335 yJ0_coder_7d493, Cond.instanceMethod yJ0_coder_7d493, Cond.selects RJ0 yJ0_coder_7d493 yJ0_coder_7d493, Cond.code yJ0_coder_7d493 cJ0_coder_7d493 1 (some .byte), Cond.fieldLink RJ0 38 "java/lang/String" "COMPACT_STRINGS" "Z", Cond.fieldLink RJ0 15 "java/lang/String" "coder" "B", Cond.methodLink RX5 20 yJ0_charAt_5068e, Cond.instanceMethod yJ0_charAt_5068e, Cond.selects RJ0 yJ0_charAt_5068e yJ0_charAt_5068e, Cond.code yJ0_charAt_5068e cJ0_charAt_5068e 2 (some .char), Cond.methodLink RJ0 492 yJ0_isLatin1_aae02]
def wsL_law_r3 : List Cond := [Cond.instanceMethod yJ0_isLatin1_aae02, Cond.selects RJ0 yJ0_isLatin1_aae02 yJ0_isLatin1_aae02, Cond.code yJ0_isLatin1_aae02 cJ0_isLatin1_aae02 1 (some .boolean), Cond.methodLink RJ0 495 yJ1_charAt_3b067, Cond.static yJ1_charAt_3b067, Cond.initialized RJ1, Cond.code yJ1_charAt_3b067 cJ1_charAt_3b067 2 (some .char), Cond.methodLink RJ1 9 yJ0_checkIndex_df160, Cond.static yJ0_checkIndex_df160, Cond.code yJ0_checkIndex_df160 cJ0_checkIndex_df160 2 none, Cond.fieldLink RJ0 1053 "jdk/internal/util/Preconditions" "SIOOBE_FORMATTER" "Ljava/util/function/BiFunction;", Cond.methodLink RJ0 1059 yJ3_checkIndex_8e157, Cond.static yJ3_checkIndex_8e157, Cond.initialized RJ3, Cond.code yJ3_checkIndex_8e157 cJ3_checkIndex_8e157 3 (some .int), Cond.methodLink RJ0 498 yJ2_charAt_3b067, Cond.static yJ2_charAt_3b067, Cond.initialized RJ2, Cond.code yJ2_charAt_3b067 cJ2_charAt_3b067 2 (some .char), Cond.methodLink RJ2 67 yJ2_checkIndex_2214a, Cond.static yJ2_checkIndex_2214a, Cond.code yJ2_checkIndex_2214a cJ2_checkIndex_2214a 2 none, Cond.methodLink RJ2 48 yJ2_length_9d52b, Cond.static yJ2_length_9d52b]
def wsL_law_r4 : List Cond := [Cond.code yJ2_length_9d52b cJ2_length_9d52b 1 (some .int), Cond.methodLink RJ2 414 yJ0_checkIndex_df160, Cond.methodLink RJ2 71 yJ2_getChar_3b067, Cond.static yJ2_getChar_3b067, Cond.code yJ2_getChar_3b067 cJ2_getChar_3b067 2 (some .char), Cond.fieldLink RJ2 44 "java/lang/StringUTF16" "$assertionsDisabled" "Z", Cond.fieldLink RJ2 59 "java/lang/StringUTF16" "HI_BYTE_SHIFT" "I", Cond.fieldLink RJ2 63 "java/lang/StringUTF16" "LO_BYTE_SHIFT" "I", Cond.methodLink RX5 24 yX1_append, Cond.instanceMethod yX1_append, Cond.selects RX1 yX1_append yX1_append, Cond.code yX1_append cX1_append 2 none, Cond.fieldLink RX1 15 "PeatRailway$InputText" "length" "I", Cond.methodLink RX5 30 yX3_init, Cond.instanceMethod yX3_init, Cond.code yX3_init cX3_init 2 none, Cond.methodLink RX3 3 objectInit, Cond.classLink RX3 9 RX2, Cond.fieldLink RX3 11 "PeatRailway$State" "segments" "[LPeatRailway$Segment;", Cond.instantiable RX2 6, Cond.initialized RX2, Cond.classLink RX3 18 RX4, Cond.fieldLink RX3 20 "PeatRailway$State" "trains" "[LPeatRailway$Train;", Cond.instantiable RX4 10]
def wsL_law_r5 : List Cond := [Cond.initialized RX4, Cond.fieldLink RX3 25 "PeatRailway$State" "settings" "[I", Cond.instanceMethod yX2_init, Cond.code yX2_init cX2_init 1 none, Cond.methodLink RX2 3 objectInit, Cond.instanceMethod yX4_init, Cond.code yX4_init cX4_init 1 none, Cond.methodLink RX4 3 objectInit, Cond.methodLink RX5 31 yX1_layOnto, Cond.instanceMethod yX1_layOnto, Cond.selects RX1 yX1_layOnto yX1_layOnto, Cond.code yX1_layOnto cX1_layOnto 4 none, Cond.methodLink RX1 27 yX3_beginTrack, Cond.instanceMethod yX3_beginTrack, Cond.selects RX3 yX3_beginTrack yX3_beginTrack, Cond.code yX3_beginTrack cX3_beginTrack 1 none, Cond.fieldLink RX3 32 "PeatRailway$State" "segmentCount" "I", Cond.methodLink RX1 19 yX1_codeAt, Cond.instanceMethod yX1_codeAt, Cond.selects RX1 yX1_codeAt yX1_codeAt, Cond.code yX1_codeAt cX1_codeAt 2 (some .int), Cond.methodLink RX1 23 yX1_isDigit, Cond.static yX1_isDigit, Cond.code yX1_isDigit cX1_isDigit 1 (some .boolean)]
def wsL_law_r6 : List Cond := [Cond.methodLink RX1 32 yX3_appendSegment, Cond.instanceMethod yX3_appendSegment, Cond.selects RX3 yX3_appendSegment yX3_appendSegment, Cond.code yX3_appendSegment cX3_appendSegment 3 none, Cond.methodLink RX3 61 yX3_segmentAt, Cond.instanceMethod yX3_segmentAt, Cond.selects RX3 yX3_segmentAt yX3_segmentAt, Cond.code yX3_segmentAt cX3_segmentAt 2 (some (.object "PeatRailway$Segment")), Cond.methodLink RX3 65 yX2_layDown, Cond.instanceMethod yX2_layDown, Cond.selects RX2 yX2_layDown yX2_layDown, Cond.code yX2_layDown cX2_layDown 2 none, Cond.fieldLink RX2 9 "PeatRailway$Segment" "softness" "I", Cond.fieldLink RX2 15 "PeatRailway$Segment" "room" "I", Cond.fieldLink RX2 18 "PeatRailway$Segment" "sinking" "I", Cond.methodLink RX1 36 yX3_widenLatestSegment, Cond.instanceMethod yX3_widenLatestSegment, Cond.selects RX3 yX3_widenLatestSegment yX3_widenLatestSegment, Cond.code yX3_widenLatestSegment cX3_widenLatestSegment 2 none, Cond.fieldLink RX3 69 "PeatRailway$Segment" "room" "I", Cond.methodLink RX1 39 yX3_endTrack, Cond.instanceMethod yX3_endTrack, Cond.selects RX3 yX3_endTrack yX3_endTrack, Cond.code yX3_endTrack cX3_endTrack 6 none]
def wsL_law_r7 : List Cond := [Cond.fieldLink RX3 72 "PeatRailway$Segment" "passingBelow" "I", Cond.fieldLink RX3 79 "PeatRailway$Segment" "passingAbove" "I", Cond.methodLink RX3 75 yX2_isPassingPlace, Cond.instanceMethod yX2_isPassingPlace, Cond.selects RX2 yX2_isPassingPlace yX2_isPassingPlace, Cond.code yX2_isPassingPlace cX2_isPassingPlace 1 (some .boolean), Cond.methodLink RX5 35 yX1_wipe, Cond.instanceMethod yX1_wipe, Cond.selects RX1 yX1_wipe yX1_wipe, Cond.code yX1_wipe cX1_wipe 1 none, Cond.methodLink RX5 51 yX0_init, Cond.instanceMethod yX0_init, Cond.code yX0_init cX0_init 2 none, Cond.methodLink RX0 3 objectInit, Cond.classLink RX0 9 RX3, Cond.fieldLink RX0 11 "PeatRailway$History" "states" "[LPeatRailway$State;", Cond.methodLink RX0 17 yX3_init, Cond.methodLink RL 131 yX5_undo, Cond.instanceMethod yX5_undo, Cond.selects RX5 yX5_undo yX5_undo, Cond.code yX5_undo cX5_undo 1 (some .int), Cond.methodLink RX5 131 yX0_size, Cond.instanceMethod yX0_size, Cond.selects RX0 yX0_size yX0_size]
def wsL_law_r8 : List Cond := [Cond.code yX0_size cX0_size 1 (some .int), Cond.fieldLink RX0 18 "PeatRailway$History" "size" "I", Cond.methodLink RX5 134 yX0_restore, Cond.instanceMethod yX0_restore, Cond.selects RX0 yX0_restore yX0_restore, Cond.code yX0_restore cX0_restore 2 none, Cond.methodLink RX0 25 yX3_copyFrom, Cond.instanceMethod yX3_copyFrom, Cond.selects RX3 yX3_copyFrom yX3_copyFrom, Cond.code yX3_copyFrom cX3_copyFrom 3 none, Cond.fieldLink RX3 40 "PeatRailway$State" "trainCount" "I", Cond.fieldLink RX3 46 "PeatRailway$State" "stock" "I", Cond.fieldLink RX3 49 "PeatRailway$State" "dug" "I", Cond.fieldLink RX3 52 "PeatRailway$State" "delivered" "I", Cond.fieldLink RX3 55 "PeatRailway$State" "lost" "I", Cond.fieldLink RX3 58 "PeatRailway$State" "clock" "I", Cond.methodLink RX3 36 yX2_copyFrom, Cond.instanceMethod yX2_copyFrom, Cond.selects RX2 yX2_copyFrom yX2_copyFrom, Cond.code yX2_copyFrom cX2_copyFrom 2 none, Cond.fieldLink RX2 21 "PeatRailway$Segment" "passingAbove" "I", Cond.fieldLink RX2 24 "PeatRailway$Segment" "passingBelow" "I", Cond.methodLink RX3 43 yX4_copyFrom, Cond.instanceMethod yX4_copyFrom]
def wsL_law_r9 : List Cond := [Cond.selects RX4 yX4_copyFrom yX4_copyFrom, Cond.code yX4_copyFrom cX4_copyFrom 2 none, Cond.fieldLink RX4 9 "PeatRailway$Train" "wagons" "I", Cond.fieldLink RX4 15 "PeatRailway$Train" "load" "I", Cond.fieldLink RX4 18 "PeatRailway$Train" "peat" "I", Cond.fieldLink RX4 21 "PeatRailway$Train" "place" "I", Cond.fieldLink RX4 24 "PeatRailway$Train" "up" "Z", Cond.fieldLink RX4 28 "PeatRailway$Train" "rest" "I", Cond.fieldLink RX4 31 "PeatRailway$Train" "reason" "I", Cond.fieldLink RX4 34 "PeatRailway$Train" "waits" "I", Cond.fieldLink RX4 37 "PeatRailway$Train" "unloads" "I", Cond.methodLink RL 134 yX5_back, Cond.instanceMethod yX5_back, Cond.selects RX5 yX5_back yX5_back, Cond.code yX5_back cX5_back 2 (some .int), Cond.fieldLink RX5 143 "PeatRailway" "keptImages" "I", Cond.fieldLink RX5 146 "PeatRailway$State" "clock" "I", Cond.methodLink RX5 137 yX5_isImage, Cond.static yX5_isImage, Cond.code yX5_isImage cX5_isImage 1 (some .boolean), Cond.methodLink RX5 68 yX0_remember, Cond.instanceMethod yX0_remember, Cond.selects RX0 yX0_remember yX0_remember, Cond.code yX0_remember cX0_remember 2 none]
def wsL_law_r10 : List Cond := [Cond.methodLink RX0 22 yX0_dropOldest, Cond.instanceMethod yX0_dropOldest, Cond.selects RX0 yX0_dropOldest yX0_dropOldest, Cond.code yX0_dropOldest cX0_dropOldest 3 none, Cond.methodLink RX5 140 yX3_copyFrom, Cond.methodLink RL 137 yL_told, Cond.static yL_told, Cond.initialized RL, Cond.code yL_told cL_told 9 (some .boolean), Cond.methodLink RL 36 yX5_segment, Cond.instanceMethod yX5_segment, Cond.selects RX5 yX5_segment yX5_segment, Cond.code yX5_segment cX5_segment 4 (some .int), Cond.fieldLink RX5 153 "PeatRailway$Segment" "softness" "I", Cond.fieldLink RX5 161 "PeatRailway$Segment" "sinking" "I", Cond.fieldLink RX5 170 "PeatRailway$Segment" "room" "I", Cond.fieldLink RX5 89 "PeatRailway$State" "settings" "[I", Cond.methodLink RX5 149 yX3_segmentAt, Cond.methodLink RX5 158 yX2_isPassingPlace, Cond.methodLink RX5 164 yX3_trainsIn, Cond.instanceMethod yX3_trainsIn, Cond.selects RX3 yX3_trainsIn yX3_trainsIn, Cond.code yX3_trainsIn cX3_trainsIn 5 (some .int), Cond.fieldLink RX3 148 "PeatRailway$Train" "place" "I"]
def wsL_law_r11 : List Cond := [Cond.methodLink RX3 82 yX3_trainAt, Cond.instanceMethod yX3_trainAt, Cond.selects RX3 yX3_trainAt yX3_trainAt, Cond.code yX3_trainAt cX3_trainAt 2 (some (.object "PeatRailway$Train")), Cond.methodLink RX5 167 yX3_weightIn, Cond.instanceMethod yX3_weightIn, Cond.selects RX3 yX3_weightIn yX3_weightIn, Cond.code yX3_weightIn cX3_weightIn 5 (some .int), Cond.methodLink RX3 181 yX4_weight, Cond.instanceMethod yX4_weight, Cond.selects RX4 yX4_weight yX4_weight, Cond.code yX4_weight cX4_weight 1 (some .int), Cond.methodLink RX5 173 yX2_ticksToRise, Cond.instanceMethod yX2_ticksToRise, Cond.selects RX2 yX2_ticksToRise yX2_ticksToRise, Cond.code yX2_ticksToRise cX2_ticksToRise 3 (some .int), Cond.methodLink RL 8 yL_passing, Cond.static yL_passing, Cond.code yL_passing cL_passing 3 (some .boolean), Cond.methodLink RL 22 yL_many, Cond.static yL_many, Cond.code yL_many cL_many 3 (some .int), Cond.methodLink RL 18 yL_there, Cond.static yL_there]
def wsL_law_r12 : List Cond := [Cond.code yL_there cL_there 5 (some .int), Cond.methodLink RL 14 yL_weight, Cond.static yL_weight, Cond.code yL_weight cL_weight 2 (some .int), Cond.methodLink RL 25 yL_room, Cond.static yL_room, Cond.code yL_room cL_room 3 (some .int), Cond.methodLink RL 42 yX5_train, Cond.instanceMethod yX5_train, Cond.selects RX5 yX5_train yX5_train, Cond.code yX5_train cX5_train 4 (some .int), Cond.fieldLink RX5 176 "PeatRailway$Train" "wagons" "I", Cond.fieldLink RX5 121 "PeatRailway$Train" "load" "I", Cond.fieldLink RX5 112 "PeatRailway$Train" "peat" "I", Cond.fieldLink RX5 179 "PeatRailway$Train" "place" "I", Cond.fieldLink RX5 182 "PeatRailway$Train" "up" "Z", Cond.fieldLink RX5 186 "PeatRailway$Train" "rest" "I", Cond.fieldLink RX5 189 "PeatRailway$Train" "reason" "I", Cond.fieldLink RX5 192 "PeatRailway$Train" "waits" "I", Cond.fieldLink RX5 195 "PeatRailway$Train" "unloads" "I", Cond.methodLink RX5 108 yX3_trainAt, Cond.methodLink RX5 198 yX4_weight, Cond.methodLink RL 45 yX5_why, Cond.instanceMethod yX5_why]
def wsL_law_r13 : List Cond := [Cond.selects RX5 yX5_why yX5_why, Cond.code yX5_why cX5_why 3 (some .int), Cond.methodLink RX5 201 yX3_reasonToWait, Cond.instanceMethod yX3_reasonToWait, Cond.selects RX3 yX3_reasonToWait yX3_reasonToWait, Cond.code yX3_reasonToWait cX3_reasonToWait 5 (some .int), Cond.fieldLink RX3 163 "PeatRailway$Segment" "sinking" "I", Cond.fieldLink RX3 117 "PeatRailway$Train" "up" "Z", Cond.methodLink RX3 133 yX3_isToUnload, Cond.instanceMethod yX3_isToUnload, Cond.selects RX3 yX3_isToUnload yX3_isToUnload, Cond.code yX3_isToUnload cX3_isToUnload 2 (some .boolean), Cond.methodLink RX3 139 yX3_isToLoad, Cond.instanceMethod yX3_isToLoad, Cond.selects RX3 yX3_isToLoad yX3_isToLoad, Cond.code yX3_isToLoad cX3_isToLoad 2 (some .boolean), Cond.methodLink RX3 157 yX4_fullLoad, Cond.instanceMethod yX4_fullLoad, Cond.selects RX4 yX4_fullLoad yX4_fullLoad, Cond.code yX4_fullLoad cX4_fullLoad 1 (some .int), Cond.methodLink RX3 160 yX3_placeBeyond, Cond.instanceMethod yX3_placeBeyond, Cond.selects RX3 yX3_placeBeyond yX3_placeBeyond, Cond.code yX3_placeBeyond cX3_placeBeyond 2 (some .int)]
def wsL_law_r14 : List Cond := [Cond.methodLink RX3 166 yX3_trainsIn, Cond.methodLink RX3 170 yX3_reasonAhead, Cond.instanceMethod yX3_reasonAhead, Cond.selects RX3 yX3_reasonAhead yX3_reasonAhead, Cond.code yX3_reasonAhead cX3_reasonAhead 6 (some .int), Cond.methodLink RX3 174 yX3_isBetween, Cond.static yX3_isBetween, Cond.code yX3_isBetween cX3_isBetween 3 (some .boolean), Cond.methodLink RL 28 yL_why, Cond.static yL_why, Cond.code yL_why cL_why 13 (some .int), Cond.methodLink RL 48 yX5_setting, Cond.instanceMethod yX5_setting, Cond.selects RX5 yX5_setting yX5_setting, Cond.code yX5_setting cX5_setting 2 (some .int), Cond.methodLink RX5 78 yX5_isSetting, Cond.static yX5_isSetting, Cond.code yX5_isSetting cX5_isSetting 1 (some .boolean), Cond.methodLink RL 51 yX5_account, Cond.instanceMethod yX5_account, Cond.selects RX5 yX5_account yX5_account, Cond.code yX5_account cX5_account 2 (some .int), Cond.fieldLink RX5 95 "PeatRailway$State" "dug" "I", Cond.fieldLink RX5 92 "PeatRailway$State" "stock" "I"]
def wsL_law_r15 : List Cond := [Cond.fieldLink RX5 208 "PeatRailway$State" "delivered" "I", Cond.fieldLink RX5 211 "PeatRailway$State" "lost" "I", Cond.methodLink RX5 205 yX3_peatInTrains, Cond.instanceMethod yX3_peatInTrains, Cond.selects RX3 yX3_peatInTrains yX3_peatInTrains, Cond.code yX3_peatInTrains cX3_peatInTrains 4 (some .int), Cond.fieldLink RX3 90 "PeatRailway$Train" "peat" "I", Cond.methodLink RL 54 yL_sum, Cond.static yL_sum, Cond.code yL_sum cL_sum 5 (some .int), Cond.methodLink RL 57 yX5_count, Cond.instanceMethod yX5_count, Cond.selects RX5 yX5_count yX5_count, Cond.code yX5_count cX5_count 2 (some .int), Cond.fieldLink RX5 74 "PeatRailway$State" "segmentCount" "I", Cond.fieldLink RX5 101 "PeatRailway$State" "trainCount" "I", Cond.methodLink RX5 214 yX3_greatestSinking, Cond.instanceMethod yX3_greatestSinking, Cond.selects RX3 yX3_greatestSinking yX3_greatestSinking, Cond.code yX3_greatestSinking cX3_greatestSinking 4 (some .int), Cond.methodLink RX3 186 Lib.Math.max.name, Cond.static Lib.Math.max.name, Cond.initialized "java/lang/Math", Cond.code Lib.Math.max.name Lib.Math.max.code 2 (some .int)]
def wsL_law_r16 : List Cond := [Cond.methodLink RX5 217 yX3_waitsOfAll, Cond.instanceMethod yX3_waitsOfAll, Cond.selects RX3 yX3_waitsOfAll yX3_waitsOfAll, Cond.code yX3_waitsOfAll cX3_waitsOfAll 4 (some .int), Cond.fieldLink RX3 130 "PeatRailway$Train" "waits" "I", Cond.methodLink RX5 220 yX3_sunkSegments, Cond.instanceMethod yX3_sunkSegments, Cond.selects RX3 yX3_sunkSegments yX3_sunkSegments, Cond.code yX3_sunkSegments cX3_sunkSegments 4 (some .int), Cond.methodLink RL 60 yL_sunk, Cond.static yL_sunk, Cond.code yL_sunk cL_sunk 4 (some .int), Cond.methodLink RL 64 yX5_meanSinking, Cond.instanceMethod yX5_meanSinking, Cond.selects RX5 yX5_meanSinking yX5_meanSinking, Cond.code yX5_meanSinking cX5_meanSinking 1 (some .double), Cond.methodLink RX5 229 yX3_sumOfSinkings, Cond.instanceMethod yX3_sumOfSinkings, Cond.selects RX3 yX3_sumOfSinkings yX3_sumOfSinkings, Cond.code yX3_sumOfSinkings cX3_sumOfSinkings 4 (some .int), Cond.methodLink RL 141 yL_cell, Cond.static yL_cell, Cond.code yL_cell cL_cell 2 (some .int), Cond.constant RL 7 (625341585)]
def wsL_law_r17 : List Cond := [Cond.methodLink RL 71 yL_copy, Cond.static yL_copy, Cond.code yL_copy cL_copy 3 none, Cond.methodLink RL 68 yL_at, Cond.static yL_at, Cond.code yL_at cL_at 2 (some .int), Cond.methodLink RL 146 yL_act, Cond.static yL_act, Cond.code yL_act cL_act 10 (some .boolean), Cond.methodLink RL 75 yL_tick, Cond.static yL_tick, Cond.code yL_tick cL_tick 6 none, Cond.methodLink RL 32 yL_turn, Cond.static yL_turn, Cond.code yL_turn cL_turn 7 none, Cond.methodLink RL 108 yX5_run, Cond.instanceMethod yX5_run, Cond.selects RX5 yX5_run yX5_run, Cond.code yX5_run cX5_run 2 (some .int), Cond.methodLink RX5 124 yX5_isRun, Cond.static yX5_isRun, Cond.code yX5_isRun cX5_isRun 1 (some .boolean), Cond.methodLink RX5 127 yX3_pass, Cond.instanceMethod yX3_pass]
def wsL_law_r18 : List Cond := [Cond.selects RX3 yX3_pass yX3_pass, Cond.code yX3_pass cX3_pass 4 (some .int), Cond.fieldLink RX3 97 "PeatRailway$State" "peak" "I", Cond.methodLink RX3 100 yX3_tick, Cond.instanceMethod yX3_tick, Cond.selects RX3 yX3_tick yX3_tick, Cond.code yX3_tick cX3_tick 4 none, Cond.fieldLink RX3 107 "PeatRailway$Train" "early" "Z", Cond.methodLink RX3 103 yX3_goesFirst, Cond.instanceMethod yX3_goesFirst, Cond.selects RX3 yX3_goesFirst yX3_goesFirst, Cond.code yX3_goesFirst cX3_goesFirst 3 (some .boolean), Cond.methodLink RX3 111 yX3_takeTurn, Cond.instanceMethod yX3_takeTurn, Cond.selects RX3 yX3_takeTurn yX3_takeTurn, Cond.code yX3_takeTurn cX3_takeTurn 2 none, Cond.fieldLink RX3 120 "PeatRailway$Train" "rest" "I", Cond.fieldLink RX3 123 "PeatRailway$Train" "reason" "I", Cond.methodLink RX3 126 yX3_reasonToWait, Cond.methodLink RX3 136 yX3_unloadTrain, Cond.instanceMethod yX3_unloadTrain, Cond.selects RX3 yX3_unloadTrain yX3_unloadTrain, Cond.code yX3_unloadTrain cX3_unloadTrain 2 none, Cond.fieldLink RX3 151 "PeatRailway$Train" "wagons" "I"]
def wsL_law_r19 : List Cond := [Cond.fieldLink RX3 154 "PeatRailway$Train" "unloads" "I", Cond.methodLink RX3 142 yX3_loadTrain, Cond.instanceMethod yX3_loadTrain, Cond.selects RX3 yX3_loadTrain yX3_loadTrain, Cond.code yX3_loadTrain cX3_loadTrain 2 none, Cond.methodLink RX3 145 yX3_moveTrain, Cond.instanceMethod yX3_moveTrain, Cond.selects RX3 yX3_moveTrain yX3_moveTrain, Cond.code yX3_moveTrain cX3_moveTrain 3 none, Cond.methodLink RX3 114 yX3_settle, Cond.instanceMethod yX3_settle, Cond.selects RX3 yX3_settle yX3_settle, Cond.code yX3_settle cX3_settle 4 none, Cond.fieldLink RX3 178 "PeatRailway$Segment" "burden" "I", Cond.methodLink RX3 184 yX2_settle, Cond.instanceMethod yX2_settle, Cond.selects RX2 yX2_settle yX2_settle, Cond.code yX2_settle cX2_settle 2 none, Cond.fieldLink RX2 27 "PeatRailway$Segment" "burden" "I", Cond.methodLink RX2 30 Lib.Math.max.name, Cond.methodLink RX2 36 Lib.Math.min.name, Cond.static Lib.Math.min.name, Cond.code Lib.Math.min.name Lib.Math.min.code 2 (some .int), Cond.methodLink RL 111 yX5_dig]
def wsL_law_r20 : List Cond := [Cond.instanceMethod yX5_dig, Cond.selects RX5 yX5_dig yX5_dig, Cond.code yX5_dig cX5_dig 2 (some .int), Cond.methodLink RL 114 yX5_addTrain, Cond.instanceMethod yX5_addTrain, Cond.selects RX5 yX5_addTrain yX5_addTrain, Cond.code yX5_addTrain cX5_addTrain 3 (some .int), Cond.methodLink RX5 98 yX5_isLoad, Cond.static yX5_isLoad, Cond.code yX5_isLoad cX5_isLoad 1 (some .boolean), Cond.methodLink RX5 104 yX3_bringTrain, Cond.instanceMethod yX3_bringTrain, Cond.selects RX3 yX3_bringTrain yX3_bringTrain, Cond.code yX3_bringTrain cX3_bringTrain 4 (some .int), Cond.methodLink RX3 86 yX4_start, Cond.instanceMethod yX4_start, Cond.selects RX4 yX4_start yX4_start, Cond.code yX4_start cX4_start 3 none, Cond.methodLink RL 117 yX5_set, Cond.instanceMethod yX5_set, Cond.selects RX5 yX5_set yX5_set, Cond.code yX5_set cX5_set 4 (some .int), Cond.fieldLink RX5 82 "PeatRailway" "LEAST_VALUE" "[I", Cond.fieldLink RX5 86 "PeatRailway" "MOST_VALUE" "[I"]
def wsL_law_r21 : List Cond := [Cond.methodLink RL 120 yL_lay, Cond.static yL_lay, Cond.code yL_lay cL_lay 9 (some .boolean), Cond.methodLink RL 91 yX5_clear, Cond.instanceMethod yX5_clear, Cond.selects RX5 yX5_clear yX5_clear, Cond.code yX5_clear cX5_clear 2 (some .int), Cond.methodLink RX5 64 yX1_length, Cond.instanceMethod yX1_length, Cond.selects RX1 yX1_length yX1_length, Cond.code yX1_length cX1_length 1 (some .int), Cond.methodLink RL 95 yX5_fault, Cond.instanceMethod yX5_fault, Cond.selects RX5 yX5_fault yX5_fault, Cond.code yX5_fault cX5_fault 1 (some .int), Cond.methodLink RX5 65 yX1_firstFault, Cond.instanceMethod yX1_firstFault, Cond.selects RX1 yX1_firstFault yX1_firstFault, Cond.code yX1_firstFault cX1_firstFault 5 (some .int), Cond.methodLink RL 98 yX5_type, Cond.instanceMethod yX5_type, Cond.selects RX5 yX5_type yX5_type, Cond.code yX5_type cX5_type 2 (some .int), Cond.methodLink RX5 60 yX1_isFull]
def wsL_law_r22 : List Cond := [Cond.instanceMethod yX1_isFull, Cond.selects RX1 yX1_isFull yX1_isFull, Cond.code yX1_isFull cX1_isFull 1 (some .boolean), Cond.methodLink RL 101 yL_again, Cond.static yL_again, Cond.code yL_again cL_again 4 (some .boolean), Cond.methodLink RL 105 yX5_layTrack, Cond.instanceMethod yX5_layTrack, Cond.selects RX5 yX5_layTrack yX5_layTrack, Cond.code yX5_layTrack cX5_layTrack 1 (some .int), Cond.methodLink RX5 71 yX3_loseAllTrains, Cond.instanceMethod yX3_loseAllTrains, Cond.selects RX3 yX3_loseAllTrains yX3_loseAllTrains, Cond.code yX3_loseAllTrains cX3_loseAllTrains 1 none, Cond.methodLink RX3 93 yX3_peatInTrains, Cond.methodLink RL 124 yX5_dropTrain, Cond.instanceMethod yX5_dropTrain, Cond.selects RX5 yX5_dropTrain yX5_dropTrain, Cond.code yX5_dropTrain cX5_dropTrain 4 (some .int), Cond.methodLink RX5 117 yX3_loseTrain, Cond.instanceMethod yX3_loseTrain, Cond.selects RX3 yX3_loseTrain yX3_loseTrain, Cond.code yX3_loseTrain cX3_loseTrain 6 none, Cond.methodLink RL 127 yX5_setLoad]
def wsL_law_r23 : List Cond := [Cond.instanceMethod yX5_setLoad, Cond.selects RX5 yX5_setLoad yX5_setLoad, Cond.code yX5_setLoad cX5_setLoad 5 (some .int), Cond.methodLink RL 150 yL_ahead, Cond.static yL_ahead, Cond.code yL_ahead cL_ahead 15 (some .boolean), Cond.methodLink RL 79 yX5_ifRun, Cond.instanceMethod yX5_ifRun, Cond.selects RX5 yX5_ifRun yX5_ifRun, Cond.code yX5_ifRun cX5_ifRun 3 (some .int), Cond.methodLink RX5 223 yX5_foreseen, Cond.instanceMethod yX5_foreseen, Cond.selects RX5 yX5_foreseen yX5_foreseen, Cond.code yX5_foreseen cX5_foreseen 2 (some .int), Cond.fieldLink RX5 265 "PeatRailway$State" "peak" "I", Cond.methodLink RL 82 yX5_ticksFor, Cond.instanceMethod yX5_ticksFor, Cond.selects RX5 yX5_ticksFor yX5_ticksFor, Cond.code yX5_ticksFor cX5_ticksFor 3 (some .int), Cond.methodLink RX5 226 yX3_tick, Cond.methodLink RL 85 yX5_bestRule, Cond.instanceMethod yX5_bestRule, Cond.selects RX5 yX5_bestRule yX5_bestRule, Cond.code yX5_bestRule cX5_bestRule 6 (some .int)]
def wsL_law_r24 : List Cond := [Cond.methodLink RL 88 yX5_bestLoad, Cond.instanceMethod yX5_bestLoad, Cond.selects RX5 yX5_bestLoad yX5_bestLoad, Cond.code yX5_bestLoad cX5_bestLoad 8 (some .int)]
def wsL_law : List Cond := (wsL_law_r1 ++ (wsL_law_r2 ++ (wsL_law_r3 ++ (wsL_law_r4 ++ (wsL_law_r5 ++ (wsL_law_r6 ++ (wsL_law_r7 ++ (wsL_law_r8 ++ (wsL_law_r9 ++ (wsL_law_r10 ++ (wsL_law_r11 ++ (wsL_law_r12 ++ (wsL_law_r13 ++ (wsL_law_r14 ++ (wsL_law_r15 ++ (wsL_law_r16 ++ (wsL_law_r17 ++ (wsL_law_r18 ++ (wsL_law_r19 ++ (wsL_law_r20 ++ (wsL_law_r21 ++ (wsL_law_r22 ++ (wsL_law_r23 ++ wsL_law_r24))))))))))))))))))))))) ++ wsX50 ++ wsX10 ++ wsX30 ++ wsX00 ++ wsX20 ++ wsX40 ++ ([] : List Cond)
theorem inlX0 : ∀ w ∈ wsX00, w ∈ wsL_law := fun _ h => List.mem_append_left _ (List.mem_append_left _ (List.mem_append_left _ (List.mem_append_right _ h)))
theorem inlX1 : ∀ w ∈ wsX10, w ∈ wsL_law := fun _ h => List.mem_append_left _ (List.mem_append_left _ (List.mem_append_left _ (List.mem_append_left _ (List.mem_append_left _ (List.mem_append_right _ h)))))
theorem inlX2 : ∀ w ∈ wsX20, w ∈ wsL_law := fun _ h => List.mem_append_left _ (List.mem_append_left _ (List.mem_append_right _ h))
theorem inlX3 : ∀ w ∈ wsX30, w ∈ wsL_law := fun _ h => List.mem_append_left _ (List.mem_append_left _ (List.mem_append_left _ (List.mem_append_left _ (List.mem_append_right _ h))))
theorem inlX4 : ∀ w ∈ wsX40, w ∈ wsL_law := fun _ h => List.mem_append_left _ (List.mem_append_right _ h)
theorem inlX5 : ∀ w ∈ wsX50, w ∈ wsL_law := fun _ h => List.mem_append_left _ (List.mem_append_left _ (List.mem_append_left _ (List.mem_append_left _ (List.mem_append_left _ (List.mem_append_left _ (List.mem_append_right _ h))))))
abbrev vwCl : List vw_C := [(RX0, TX0, 2), (RX1, TX1, 2), (RX2, TX2, 6), (RX3, TX3, 11), (RX4, TX4, 10), (RX5, TX5, 6)]
