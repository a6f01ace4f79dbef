def RX0 : String := "OverlayFabric$Endpoint"
def TX0 : u_T := fun k => match k with
  | 0 => ("OverlayFabric$Endpoint", "number", "I", true)
  | 1 => ("OverlayFabric$Endpoint", "memory", "Ljava/util/ArrayList;", true)
  | 2 => ("OverlayFabric$Endpoint", "ways", "[I", true)
  | _ => ("OverlayFabric$Endpoint", "launched", "I", false)
def tyX0 : Nat → FieldType := fun k => match k with
  | 0 => .int
  | 1 => .object "java/util/ArrayList"
  | 2 => .array .int
  | _ => .int
abbrev wsX00 : List Cond := u_ws RX0 TX0 4
theorem nmX0 : ∀ a, a < 4 → ∀ b, b < 4 → a ≠ b → (TX0 a).2.1 ≠ (TX0 b).2.1 := by decide +kernel
theorem tyX0_ok : ∀ k, k < 4 → parseFieldDescriptor (TX0 k).2.2.1 = some (tyX0 k) := by decide +kernel
abbrev cX0_init : ByteArray := prog_2_method_1_code
def yX0_init : MethodName := ⟨RX0, "<init>", "(I)V"⟩
abbrev cX0_reset : ByteArray := prog_2_method_2_code
def yX0_reset : MethodName := ⟨RX0, "reset", "()V"⟩
abbrev cX0_chooseWay : ByteArray := prog_2_method_3_code
def yX0_chooseWay : MethodName := ⟨RX0, "chooseWay", "(II)V"⟩
abbrev cX0_wayTo : ByteArray := prog_2_method_4_code
def yX0_wayTo : MethodName := ⟨RX0, "wayTo", "(I)I"⟩
abbrev cX0_isFull : ByteArray := prog_2_method_5_code
def yX0_isFull : MethodName := ⟨RX0, "isFull", "()Z"⟩
abbrev cX0_knownAt : ByteArray := prog_2_method_6_code
def yX0_knownAt : MethodName := ⟨RX0, "knownAt", "(I)LOverlayFabric$Known;"⟩
abbrev cX0_find : ByteArray := prog_2_method_7_code
def yX0_find : MethodName := ⟨RX0, "find", "(IJ)I"⟩
abbrev cX0_whereIs : ByteArray := prog_2_method_8_code
def yX0_whereIs : MethodName := ⟨RX0, "whereIs", "(IJ)LOverlayFabric$Known;"⟩
abbrev cX0_oldest : ByteArray := prog_2_method_9_code
def yX0_oldest : MethodName := ⟨RX0, "oldest", "()I"⟩
abbrev cX0_drop : ByteArray := prog_2_method_10_code
def yX0_drop : MethodName := ⟨RX0, "drop", "(I)V"⟩
abbrev cX0_growOlder : ByteArray := prog_2_method_11_code
def yX0_growOlder : MethodName := ⟨RX0, "growOlder", "(I)I"⟩
abbrev cX0_forgetAll : ByteArray := prog_2_method_12_code
def yX0_forgetAll : MethodName := ⟨RX0, "forgetAll", "()I"⟩
def RX1 : String := "OverlayFabric$Known"
def TX1 : u_T := fun k => match k with
  | 0 => ("OverlayFabric$Known", "net", "I", true)
  | 1 => ("OverlayFabric$Known", "mac", "J", true)
  | 2 => ("OverlayFabric$Known", "endpoint", "I", true)
  | 3 => ("OverlayFabric$Known", "station", "I", true)
  | _ => ("OverlayFabric$Known", "age", "I", false)
def tyX1 : Nat → FieldType := fun k => match k with
  | 0 => .int
  | 1 => .long
  | 2 => .int
  | 3 => .int
  | _ => .int
abbrev wsX10 : List Cond := u_ws RX1 TX1 5
theorem nmX1 : ∀ a, a < 5 → ∀ b, b < 5 → a ≠ b → (TX1 a).2.1 ≠ (TX1 b).2.1 := by decide +kernel
theorem tyX1_ok : ∀ k, k < 5 → parseFieldDescriptor (TX1 k).2.2.1 = some (tyX1 k) := by decide +kernel
abbrev cX1_init : ByteArray := prog_3_method_1_code
def yX1_init : MethodName := ⟨RX1, "<init>", "(IJII)V"⟩
abbrev cX1_isAtPlaceOf : ByteArray := prog_3_method_2_code
def yX1_isAtPlaceOf : MethodName := ⟨RX1, "isAtPlaceOf", "(LOverlayFabric$Known;)Z"⟩
abbrev cX1_tell : ByteArray := prog_3_method_3_code
def yX1_tell : MethodName := ⟨RX1, "tell", "(I)J"⟩
def RX2 : String := "OverlayFabric$Packet"
def TX2 : u_T := fun k => match k with
  | 0 => ("OverlayFabric$Packet", "bytes", "LOverlayFabric$Row;", true)
  | _ => ("OverlayFabric$Packet", "target", "I", true)
def tyX2 : Nat → FieldType := fun k => match k with
  | 0 => .object "OverlayFabric$Row"
  | _ => .int
abbrev wsX20 : List Cond := u_ws RX2 TX2 2
theorem nmX2 : ∀ a, a < 2 → ∀ b, b < 2 → a ≠ b → (TX2 a).2.1 ≠ (TX2 b).2.1 := by decide +kernel
theorem tyX2_ok : ∀ k, k < 2 → parseFieldDescriptor (TX2 k).2.2.1 = some (tyX2 k) := by decide +kernel
abbrev cX2_init : ByteArray := prog_4_method_1_code
def yX2_init : MethodName := ⟨RX2, "<init>", "(LOverlayFabric$Row;I)V"⟩
def RX3 : String := "OverlayFabric$Row"
def TX3 : u_T := fun k => match k with
  | 0 => ("OverlayFabric$Row", "cells", "[I", true)
  | _ => ("OverlayFabric$Row", "used", "I", false)
def tyX3 : Nat → FieldType := fun k => match k with
  | 0 => .array .int
  | _ => .int
abbrev wsX30 : List Cond := u_ws RX3 TX3 2
theorem nmX3 : ∀ a, a < 2 → ∀ b, b < 2 → a ≠ b → (TX3 a).2.1 ≠ (TX3 b).2.1 := by decide +kernel
theorem tyX3_ok : ∀ k, k < 2 → parseFieldDescriptor (TX3 k).2.2.1 = some (tyX3 k) := by decide +kernel
abbrev cX3_init : ByteArray := prog_5_method_1_code
def yX3_init : MethodName := ⟨RX3, "<init>", "(I)V"⟩
abbrev cX3_holds : ByteArray := prog_5_method_2_code
def yX3_holds : MethodName := ⟨RX3, "holds", "(I)Z"⟩
abbrev cX3_at : ByteArray := prog_5_method_3_code
def yX3_at : MethodName := ⟨RX3, "at", "(I)I"⟩
abbrev cX3_clear : ByteArray := prog_5_method_4_code
def yX3_clear : MethodName := ⟨RX3, "clear", "()V"⟩
abbrev cX3_append : ByteArray := prog_5_method_5_code
def yX3_append : MethodName := ⟨RX3, "append", "(I)V"⟩
abbrev cX3_appendNumber : ByteArray := prog_5_method_6_code
def yX3_appendNumber : MethodName := ⟨RX3, "appendNumber", "(JI)V"⟩
abbrev cX3_appendRest : ByteArray := prog_5_method_7_code
def yX3_appendRest : MethodName := ⟨RX3, "appendRest", "(LOverlayFabric$Row;I)V"⟩
abbrev cX3_turn : ByteArray := prog_5_method_8_code
def yX3_turn : MethodName := ⟨RX3, "turn", "(II)V"⟩
abbrev cX3_putPair : ByteArray := prog_5_method_9_code
def yX3_putPair : MethodName := ⟨RX3, "putPair", "(II)V"⟩
abbrev cX3_number : ByteArray := prog_5_method_10_code
def yX3_number : MethodName := ⟨RX3, "number", "(II)J"⟩
abbrev cX3_pair : ByteArray := prog_5_method_11_code
def yX3_pair : MethodName := ⟨RX3, "pair", "(I)I"⟩
abbrev cX3_sum : ByteArray := prog_5_method_12_code
def yX3_sum : MethodName := ⟨RX3, "sum", "(II)I"⟩
def RX4 : String := "OverlayFabric$Station"
def TX4 : u_T := fun k => match k with
  | 0 => ("OverlayFabric$Station", "net", "I", true)
  | 1 => ("OverlayFabric$Station", "mac", "J", true)
  | 2 => ("OverlayFabric$Station", "frames", "[LOverlayFabric$Row;", true)
  | 3 => ("OverlayFabric$Station", "endpoint", "I", false)
  | _ => ("OverlayFabric$Station", "came", "I", false)
def tyX4 : Nat → FieldType := fun k => match k with
  | 0 => .int
  | 1 => .long
  | 2 => .array (.object "OverlayFabric$Row")
  | 3 => .int
  | _ => .int
abbrev wsX40 : List Cond := u_ws RX4 TX4 5
theorem nmX4 : ∀ a, a < 5 → ∀ b, b < 5 → a ≠ b → (TX4 a).2.1 ≠ (TX4 b).2.1 := by decide +kernel
theorem tyX4_ok : ∀ k, k < 5 → parseFieldDescriptor (TX4 k).2.2.1 = some (tyX4 k) := by decide +kernel
abbrev cX4_init : ByteArray := prog_6_method_1_code
def yX4_init : MethodName := ⟨RX4, "<init>", "(III)V"⟩
abbrev cX4_isThere : ByteArray := prog_6_method_2_code
def yX4_isThere : MethodName := ⟨RX4, "isThere", "(II)Z"⟩
abbrev cX4_take : ByteArray := prog_6_method_3_code
def yX4_take : MethodName := ⟨RX4, "take", "(LOverlayFabric$Row;)V"⟩
abbrev cX4_latestFrame : ByteArray := prog_6_method_4_code
def yX4_latestFrame : MethodName := ⟨RX4, "latestFrame", "(I)LOverlayFabric$Row;"⟩
def RX5 : String := "OverlayFabric$Wire"
def TX5 : u_T := fun k => match k with
  | _ => ("", "", "", false)
def tyX5 : Nat → FieldType := fun k => match k with
  | _ => .int
abbrev wsX50 : List Cond := u_ws RX5 TX5 0
theorem nmX5 : ∀ a, a < 0 → ∀ b, b < 0 → a ≠ b → (TX5 a).2.1 ≠ (TX5 b).2.1 := by decide +kernel
theorem tyX5_ok : ∀ k, k < 0 → parseFieldDescriptor (TX5 k).2.2.1 = some (tyX5 k) := by decide +kernel
abbrev cX5_frameOf : ByteArray := prog_7_method_2_code
def yX5_frameOf : MethodName := ⟨RX5, "frameOf", "(JJILOverlayFabric$Row;)LOverlayFabric$Row;"⟩
abbrev cX5_wrap : ByteArray := prog_7_method_3_code
def yX5_wrap : MethodName := ⟨RX5, "wrap", "(LOverlayFabric$Row;IIIII)LOverlayFabric$Row;"⟩
abbrev cX5_appendIp : ByteArray := prog_7_method_4_code
def yX5_appendIp : MethodName := ⟨RX5, "appendIp", "(LOverlayFabric$Row;IIIII)V"⟩
abbrev cX5_appendUdp : ByteArray := prog_7_method_5_code
def yX5_appendUdp : MethodName := ⟨RX5, "appendUdp", "(LOverlayFabric$Row;III)V"⟩
abbrev cX5_appendGre : ByteArray := prog_7_method_6_code
def yX5_appendGre : MethodName := ⟨RX5, "appendGre", "(LOverlayFabric$Row;ZII)V"⟩
abbrev cX5_mixOf : ByteArray := prog_7_method_7_code
def yX5_mixOf : MethodName := ⟨RX5, "mixOf", "(LOverlayFabric$Row;)I"⟩
abbrev cX5_faultOf : ByteArray := prog_7_method_8_code
def yX5_faultOf : MethodName := ⟨RX5, "faultOf", "(LOverlayFabric$Row;I)I"⟩
abbrev cX5_carriesFrame : ByteArray := prog_7_method_9_code
def yX5_carriesFrame : MethodName := ⟨RX5, "carriesFrame", "(LOverlayFabric$Row;)Z"⟩
abbrev cX5_isGoodUdp : ByteArray := prog_7_method_10_code
def yX5_isGoodUdp : MethodName := ⟨RX5, "isGoodUdp", "(LOverlayFabric$Row;)Z"⟩
abbrev cX5_isGoodGre : ByteArray := prog_7_method_11_code
def yX5_isGoodGre : MethodName := ⟨RX5, "isGoodGre", "(LOverlayFabric$Row;)Z"⟩
abbrev cX5_frameStart : ByteArray := prog_7_method_12_code
def yX5_frameStart : MethodName := ⟨RX5, "frameStart", "(LOverlayFabric$Row;)I"⟩
abbrev cX5_netOf : ByteArray := prog_7_method_13_code
def yX5_netOf : MethodName := ⟨RX5, "netOf", "(LOverlayFabric$Row;)I"⟩
abbrev cX5_senderOf : ByteArray := prog_7_method_14_code
def yX5_senderOf : MethodName := ⟨RX5, "senderOf", "(LOverlayFabric$Row;)I"⟩
abbrev cX5_macTo : ByteArray := prog_7_method_15_code
def yX5_macTo : MethodName := ⟨RX5, "macTo", "(LOverlayFabric$Row;)J"⟩
abbrev cX5_macFrom : ByteArray := prog_7_method_16_code
def yX5_macFrom : MethodName := ⟨RX5, "macFrom", "(LOverlayFabric$Row;)J"⟩
abbrev cX5_isGroup : ByteArray := prog_7_method_17_code
def yX5_isGroup : MethodName := ⟨RX5, "isGroup", "(J)Z"⟩
abbrev cX5_unwrap : ByteArray := prog_7_method_18_code
def yX5_unwrap : MethodName := ⟨RX5, "unwrap", "(LOverlayFabric$Row;)LOverlayFabric$Row;"⟩
def RX6 : String := "OverlayFabric"
def TX6 : u_T := fun k => match k with
  | 0 => ("OverlayFabric", "endpoints", "[LOverlayFabric$Endpoint;", true)
  | 1 => ("OverlayFabric", "stations", "Ljava/util/ArrayList;", true)
  | 2 => ("OverlayFabric", "flight", "Ljava/util/ArrayList;", true)
  | 3 => ("OverlayFabric", "tape", "LOverlayFabric$Row;", true)
  | 4 => ("OverlayFabric", "counters", "[I", true)
  | _ => ("OverlayFabric", "endpointsInUse", "I", false)
def tyX6 : Nat → FieldType := fun k => match k with
  | 0 => .array (.object "OverlayFabric$Endpoint")
  | 1 => .object "java/util/ArrayList"
  | 2 => .object "java/util/ArrayList"
  | 3 => .object "OverlayFabric$Row"
  | 4 => .array .int
  | _ => .int
abbrev wsX60 : List Cond := u_ws RX6 TX6 6
theorem nmX6 : ∀ a, a < 6 → ∀ b, b < 6 → a ≠ b → (TX6 a).2.1 ≠ (TX6 b).2.1 := by decide +kernel
theorem tyX6_ok : ∀ k, k < 6 → parseFieldDescriptor (TX6 k).2.2.1 = some (tyX6 k) := by decide +kernel
abbrev cX6_init : ByteArray := prog_1_method_1_code
def yX6_init : MethodName := ⟨RX6, "<init>", "()V"⟩
abbrev cX6_begin : ByteArray := prog_1_method_2_code
def yX6_begin : MethodName := ⟨RX6, "begin", "(I)Z"⟩
abbrev cX6_station : ByteArray := prog_1_method_3_code
def yX6_station : MethodName := ⟨RX6, "station", "(III)I"⟩
abbrev cX6_move : ByteArray := prog_1_method_4_code
def yX6_move : MethodName := ⟨RX6, "move", "(II)Z"⟩
abbrev cX6_way : ByteArray := prog_1_method_5_code
def yX6_way : MethodName := ⟨RX6, "way", "(III)Z"⟩
abbrev cX6_feed : ByteArray := prog_1_method_6_code
def yX6_feed : MethodName := ⟨RX6, "feed", "(I)Z"⟩
abbrev cX6_send : ByteArray := prog_1_method_7_code
def yX6_send : MethodName := ⟨RX6, "send", "(IJI)I"⟩
abbrev cX6_deliver : ByteArray := prog_1_method_8_code
def yX6_deliver : MethodName := ⟨RX6, "deliver", "(I)I"⟩
abbrev cX6_twice : ByteArray := prog_1_method_9_code
def yX6_twice : MethodName := ⟨RX6, "twice", "(I)I"⟩
abbrev cX6_lose : ByteArray := prog_1_method_10_code
def yX6_lose : MethodName := ⟨RX6, "lose", "(I)Z"⟩
abbrev cX6_inject : ByteArray := prog_1_method_11_code
def yX6_inject : MethodName := ⟨RX6, "inject", "(I)I"⟩
abbrev cX6_poke : ByteArray := prog_1_method_12_code
def yX6_poke : MethodName := ⟨RX6, "poke", "(III)Z"⟩
abbrev cX6_flying : ByteArray := prog_1_method_13_code
def yX6_flying : MethodName := ⟨RX6, "flying", "()I"⟩
abbrev cX6_packet : ByteArray := prog_1_method_14_code
def yX6_packet : MethodName := ⟨RX6, "packet", "(II)I"⟩
abbrev cX6_size : ByteArray := prog_1_method_15_code
def yX6_size : MethodName := ⟨RX6, "size", "(I)I"⟩
abbrev cX6_tick : ByteArray := prog_1_method_16_code
def yX6_tick : MethodName := ⟨RX6, "tick", "(I)I"⟩
abbrev cX6_forget : ByteArray := prog_1_method_17_code
def yX6_forget : MethodName := ⟨RX6, "forget", "(I)I"⟩
abbrev cX6_known : ByteArray := prog_1_method_18_code
def yX6_known : MethodName := ⟨RX6, "known", "(I)I"⟩
abbrev cX6_knows : ByteArray := prog_1_method_19_code
def yX6_knows : MethodName := ⟨RX6, "knows", "(III)J"⟩
abbrev cX6_got : ByteArray := prog_1_method_20_code
def yX6_got : MethodName := ⟨RX6, "got", "(I)I"⟩
abbrev cX6_frame : ByteArray := prog_1_method_21_code
def yX6_frame : MethodName := ⟨RX6, "frame", "(III)I"⟩
abbrev cX6_length : ByteArray := prog_1_method_22_code
def yX6_length : MethodName := ⟨RX6, "length", "(II)I"⟩
abbrev cX6_count : ByteArray := prog_1_method_23_code
def yX6_count : MethodName := ⟨RX6, "count", "(I)I"⟩
abbrev cX6_endpointAt : ByteArray := prog_1_method_24_code
def yX6_endpointAt : MethodName := ⟨RX6, "endpointAt", "(I)LOverlayFabric$Endpoint;"⟩
abbrev cX6_stationAt : ByteArray := prog_1_method_25_code
def yX6_stationAt : MethodName := ⟨RX6, "stationAt", "(I)LOverlayFabric$Station;"⟩
abbrev cX6_packetAt : ByteArray := prog_1_method_26_code
def yX6_packetAt : MethodName := ⟨RX6, "packetAt", "(I)LOverlayFabric$Packet;"⟩
abbrev cX6_frameAt : ByteArray := prog_1_method_27_code
def yX6_frameAt : MethodName := ⟨RX6, "frameAt", "(II)LOverlayFabric$Row;"⟩
abbrev cX6_tally : ByteArray := prog_1_method_28_code
def yX6_tally : MethodName := ⟨RX6, "tally", "(I)V"⟩
abbrev cX6_hasNet : ByteArray := prog_1_method_29_code
def yX6_hasNet : MethodName := ⟨RX6, "hasNet", "(II)Z"⟩
abbrev cX6_learn : ByteArray := prog_1_method_30_code
def yX6_learn : MethodName := ⟨RX6, "learn", "(LOverlayFabric$Endpoint;LOverlayFabric$Known;)V"⟩
abbrev cX6_comeToAll : ByteArray := prog_1_method_31_code
def yX6_comeToAll : MethodName := ⟨RX6, "comeToAll", "(LOverlayFabric$Row;III)V"⟩
abbrev cX6_comeToOne : ByteArray := prog_1_method_32_code
def yX6_comeToOne : MethodName := ⟨RX6, "comeToOne", "(LOverlayFabric$Row;II)V"⟩
abbrev cX6_launchToAll : ByteArray := prog_1_method_33_code
def yX6_launchToAll : MethodName := ⟨RX6, "launchToAll", "(LOverlayFabric$Row;LOverlayFabric$Endpoint;I)I"⟩
abbrev cX6_launch : ByteArray := prog_1_method_34_code
def yX6_launch : MethodName := ⟨RX6, "launch", "(LOverlayFabric$Row;ILOverlayFabric$Endpoint;I)V"⟩
abbrev cX6_arrive : ByteArray := prog_1_method_35_code
def yX6_arrive : MethodName := ⟨RX6, "arrive", "(LOverlayFabric$Row;LOverlayFabric$Endpoint;)I"⟩
abbrev cX6_misfitOf : ByteArray := prog_1_method_36_code
def yX6_misfitOf : MethodName := ⟨RX6, "misfitOf", "(LOverlayFabric$Row;I)I"⟩
abbrev cX6_letIn : ByteArray := prog_1_method_37_code
def yX6_letIn : MethodName := ⟨RX6, "letIn", "(LOverlayFabric$Row;LOverlayFabric$Endpoint;)I"⟩
def RX7 : String := "OverlayFabricModel"
def TX7 : u_T := fun k => match k with
  | 0 => ("OverlayFabricModel", "endpoints", "I", false)
  | 1 => ("OverlayFabricModel", "stations", "I", false)
  | 2 => ("OverlayFabricModel", "stationAt", "[I", true)
  | 3 => ("OverlayFabricModel", "stationNet", "[I", true)
  | 4 => ("OverlayFabricModel", "stationMac", "[I", true)
  | 5 => ("OverlayFabricModel", "got", "[I", true)
  | 6 => ("OverlayFabricModel", "frames", "[B", true)
  | 7 => ("OverlayFabricModel", "frameSize", "[I", true)
  | 8 => ("OverlayFabricModel", "ways", "[I", true)
  | 9 => ("OverlayFabricModel", "sent", "[I", true)
  | 10 => ("OverlayFabricModel", "knownCount", "[I", true)
  | 11 => ("OverlayFabricModel", "knownNet", "[I", true)
  | 12 => ("OverlayFabricModel", "knownMac", "[J", true)
  | 13 => ("OverlayFabricModel", "knownPlace", "[I", true)
  | 14 => ("OverlayFabricModel", "knownAge", "[J", true)
  | 15 => ("OverlayFabricModel", "tape", "[B", true)
  | 16 => ("OverlayFabricModel", "tapeSize", "I", false)
  | 17 => ("OverlayFabricModel", "flight", "[B", true)
  | 18 => ("OverlayFabricModel", "flightSize", "[I", true)
  | 19 => ("OverlayFabricModel", "flightTo", "[I", true)
  | 20 => ("OverlayFabricModel", "flying", "I", false)
  | 21 => ("OverlayFabricModel", "counts", "[I", true)
  | 22 => ("OverlayFabricModel", "packet", "[B", true)
  | 23 => ("OverlayFabricModel", "packetSize", "I", false)
  | 24 => ("OverlayFabricModel", "frame", "[B", true)
  | _ => ("OverlayFabricModel", "size", "I", false)
def tyX7 : Nat → FieldType := fun k => match k with
  | 0 => .int
  | 1 => .int
  | 2 => .array .int
  | 3 => .array .int
  | 4 => .array .int
  | 5 => .array .int
  | 6 => .array .byte
  | 7 => .array .int
  | 8 => .array .int
  | 9 => .array .int
  | 10 => .array .int
  | 11 => .array .int
  | 12 => .array .long
  | 13 => .array .int
  | 14 => .array .long
  | 15 => .array .byte
  | 16 => .int
  | 17 => .array .byte
  | 18 => .array .int
  | 19 => .array .int
  | 20 => .int
  | 21 => .array .int
  | 22 => .array .byte
  | 23 => .int
  | 24 => .array .byte
  | _ => .int
abbrev wsX70 : List Cond := u_ws RX7 TX7 26
theorem nmX7 : ∀ a, a < 26 → ∀ b, b < 26 → a ≠ b → (TX7 a).2.1 ≠ (TX7 b).2.1 := by decide +kernel
theorem tyX7_ok : ∀ k, k < 26 → parseFieldDescriptor (TX7 k).2.2.1 = some (tyX7 k) := by decide +kernel
abbrev cX7_init : ByteArray := prog_9_method_1_code
def yX7_init : MethodName := ⟨RX7, "<init>", "()V"⟩
abbrev cX7_begin : ByteArray := prog_9_method_3_code
def yX7_begin : MethodName := ⟨RX7, "begin", "(I)Z"⟩
abbrev cX7_isEndpoint : ByteArray := prog_9_method_4_code
def yX7_isEndpoint : MethodName := ⟨RX7, "isEndpoint", "(I)Z"⟩
abbrev cX7_isStation : ByteArray := prog_9_method_5_code
def yX7_isStation : MethodName := ⟨RX7, "isStation", "(I)Z"⟩
abbrev cX7_station : ByteArray := prog_9_method_6_code
def yX7_station : MethodName := ⟨RX7, "station", "(III)I"⟩
abbrev cX7_move : ByteArray := prog_9_method_7_code
def yX7_move : MethodName := ⟨RX7, "move", "(II)Z"⟩
abbrev cX7_way : ByteArray := prog_9_method_8_code
def yX7_way : MethodName := ⟨RX7, "way", "(III)Z"⟩
abbrev cX7_feed : ByteArray := prog_9_method_9_code
def yX7_feed : MethodName := ⟨RX7, "feed", "(I)Z"⟩
abbrev cX7_has : ByteArray := prog_9_method_10_code
def yX7_has : MethodName := ⟨RX7, "has", "(II)Z"⟩
abbrev cX7_find : ByteArray := prog_9_method_11_code
def yX7_find : MethodName := ⟨RX7, "find", "(IIJ)I"⟩
abbrev cX7_remove : ByteArray := prog_9_method_12_code
def yX7_remove : MethodName := ⟨RX7, "remove", "(II)V"⟩
abbrev cX7_learn : ByteArray := prog_9_method_13_code
def yX7_learn : MethodName := ⟨RX7, "learn", "(IIJI)V"⟩
abbrev cX7_macAt : ByteArray := prog_9_method_14_code
def yX7_macAt : MethodName := ⟨RX7, "macAt", "([BI)J"⟩
abbrev cX7_comesTo : ByteArray := prog_9_method_15_code
def yX7_comesTo : MethodName := ⟨RX7, "comesTo", "(I)V"⟩
abbrev cX7_comesToAll : ByteArray := prog_9_method_16_code
def yX7_comesToAll : MethodName := ⟨RX7, "comesToAll", "(III)V"⟩
abbrev cX7_sum : ByteArray := prog_9_method_17_code
def yX7_sum : MethodName := ⟨RX7, "sum", "([BII)I"⟩
abbrev cX7_put : ByteArray := prog_9_method_18_code
def yX7_put : MethodName := ⟨RX7, "put", "(II)V"⟩
abbrev cX7_set : ByteArray := prog_9_method_19_code
def yX7_set : MethodName := ⟨RX7, "set", "(II)V"⟩
abbrev cX7_goes : ByteArray := prog_9_method_20_code
def yX7_goes : MethodName := ⟨RX7, "goes", "(III)V"⟩
abbrev cX7_drop : ByteArray := prog_9_method_21_code
def yX7_drop : MethodName := ⟨RX7, "drop", "(I)V"⟩
abbrev cX7_send : ByteArray := prog_9_method_22_code
def yX7_send : MethodName := ⟨RX7, "send", "(IJI)I"⟩
abbrev cX7_numberAt : ByteArray := prog_9_method_23_code
def yX7_numberAt : MethodName := ⟨RX7, "numberAt", "(II)I"⟩
abbrev cX7_netPlace : ByteArray := prog_9_method_24_code
def yX7_netPlace : MethodName := ⟨RX7, "netPlace", "()I"⟩
abbrev cX7_comes : ByteArray := prog_9_method_25_code
def yX7_comes : MethodName := ⟨RX7, "comes", "(I)I"⟩
abbrev cX7_look : ByteArray := prog_9_method_26_code
def yX7_look : MethodName := ⟨RX7, "look", "(I)I"⟩
abbrev cX7_isPacket : ByteArray := prog_9_method_27_code
def yX7_isPacket : MethodName := ⟨RX7, "isPacket", "(I)Z"⟩
abbrev cX7_take : ByteArray := prog_9_method_28_code
def yX7_take : MethodName := ⟨RX7, "take", "(IZ)I"⟩
abbrev cX7_deliver : ByteArray := prog_9_method_29_code
def yX7_deliver : MethodName := ⟨RX7, "deliver", "(I)I"⟩
abbrev cX7_twice : ByteArray := prog_9_method_30_code
def yX7_twice : MethodName := ⟨RX7, "twice", "(I)I"⟩
abbrev cX7_lose : ByteArray := prog_9_method_31_code
def yX7_lose : MethodName := ⟨RX7, "lose", "(I)Z"⟩
abbrev cX7_inject : ByteArray := prog_9_method_32_code
def yX7_inject : MethodName := ⟨RX7, "inject", "(I)I"⟩
abbrev cX7_poke : ByteArray := prog_9_method_33_code
def yX7_poke : MethodName := ⟨RX7, "poke", "(III)Z"⟩
abbrev cX7_flying : ByteArray := prog_9_method_34_code
def yX7_flying : MethodName := ⟨RX7, "flying", "()I"⟩
abbrev cX7_packet : ByteArray := prog_9_method_35_code
def yX7_packet : MethodName := ⟨RX7, "packet", "(II)I"⟩
abbrev cX7_size : ByteArray := prog_9_method_36_code
def yX7_size : MethodName := ⟨RX7, "size", "(I)I"⟩
abbrev cX7_tick : ByteArray := prog_9_method_37_code
def yX7_tick : MethodName := ⟨RX7, "tick", "(I)I"⟩
abbrev cX7_forget : ByteArray := prog_9_method_38_code
def yX7_forget : MethodName := ⟨RX7, "forget", "(I)I"⟩
abbrev cX7_known : ByteArray := prog_9_method_39_code
def yX7_known : MethodName := ⟨RX7, "known", "(I)I"⟩
abbrev cX7_knows : ByteArray := prog_9_method_40_code
def yX7_knows : MethodName := ⟨RX7, "knows", "(III)J"⟩
abbrev cX7_got : ByteArray := prog_9_method_41_code
def yX7_got : MethodName := ⟨RX7, "got", "(I)I"⟩
abbrev cX7_isFrame : ByteArray := prog_9_method_42_code
def yX7_isFrame : MethodName := ⟨RX7, "isFrame", "(II)Z"⟩
abbrev cX7_frame : ByteArray := prog_9_method_43_code
def yX7_frame : MethodName := ⟨RX7, "frame", "(III)I"⟩
abbrev cX7_length : ByteArray := prog_9_method_44_code
def yX7_length : MethodName := ⟨RX7, "length", "(II)I"⟩
abbrev cX7_count : ByteArray := prog_9_method_45_code
def yX7_count : MethodName := ⟨RX7, "count", "(I)I"⟩
def RJx145de : String := "java/io/Serializable"
def TJx145de : u_T := fun k => match k with
  | _ => ("", "", "", false)
def tyJx145de : Nat → FieldType := fun k => match k with
  | _ => .int
abbrev wsJx145de0 : List Cond := u_ws RJx145de TJx145de 0
theorem nmJx145de : ∀ a, a < 0 → ∀ b, b < 0 → a ≠ b → (TJx145de a).2.1 ≠ (TJx145de b).2.1 := by decide +kernel
theorem tyJx145de_ok : ∀ k, k < 0 → parseFieldDescriptor (TJx145de k).2.2.1 = some (tyJx145de k) := by decide +kernel
def RJx8e188 : String := "java/lang/Cloneable"
def TJx8e188 : u_T := fun k => match k with
  | _ => ("", "", "", false)
def tyJx8e188 : Nat → FieldType := fun k => match k with
  | _ => .int
abbrev wsJx8e1880 : List Cond := u_ws RJx8e188 TJx8e188 0
theorem nmJx8e188 : ∀ a, a < 0 → ∀ b, b < 0 → a ≠ b → (TJx8e188 a).2.1 ≠ (TJx8e188 b).2.1 := by decide +kernel
theorem tyJx8e188_ok : ∀ k, k < 0 → parseFieldDescriptor (TJx8e188 k).2.2.1 = some (tyJx8e188 k) := by decide +kernel
def RJxab1ab : String := "java/lang/Iterable"
def TJxab1ab : u_T := fun k => match k with
  | _ => ("", "", "", false)
def tyJxab1ab : Nat → FieldType := fun k => match k with
  | _ => .int
abbrev wsJxab1ab0 : List Cond := u_ws RJxab1ab TJxab1ab 0
theorem nmJxab1ab : ∀ a, a < 0 → ∀ b, b < 0 → a ≠ b → (TJxab1ab a).2.1 ≠ (TJxab1ab b).2.1 := by decide +kernel
theorem tyJxab1ab_ok : ∀ k, k < 0 → parseFieldDescriptor (TJxab1ab k).2.2.1 = some (tyJxab1ab k) := by decide +kernel
def RJ9 : String := "java/lang/Math"
def TJ9 : u_T := fun k => match k with
  | _ => ("", "", "", false)
def tyJ9 : Nat → FieldType := fun k => match k with
  | _ => .int
abbrev wsJ90 : List Cond := u_ws RJ9 TJ9 0
theorem nmJ9 : ∀ a, a < 0 → ∀ b, b < 0 → a ≠ b → (TJ9 a).2.1 ≠ (TJ9 b).2.1 := by decide +kernel
theorem tyJ9_ok : ∀ k, k < 0 → parseFieldDescriptor (TJ9 k).2.2.1 = some (tyJ9 k) := by decide +kernel
abbrev cJ9_max_7cf53 : ByteArray := prog_13_method_65_code
def yJ9_max_7cf53 : MethodName := ⟨RJ9, "max", "(II)I"⟩
abbrev cJ9_min_7cf53 : ByteArray := prog_13_method_69_code
def yJ9_min_7cf53 : MethodName := ⟨RJ9, "min", "(II)I"⟩
def RJ10 : String := "java/lang/System"
def TJ10 : u_T := fun k => match k with
  | _ => ("", "", "", false)
def tyJ10 : Nat → FieldType := fun k => match k with
  | _ => .int
abbrev wsJ100 : List Cond := u_ws RJ10 TJ10 0
theorem nmJ10 : ∀ a, a < 0 → ∀ b, b < 0 → a ≠ b → (TJ10 a).2.1 ≠ (TJ10 b).2.1 := by decide +kernel
theorem tyJ10_ok : ∀ k, k < 0 → parseFieldDescriptor (TJ10 k).2.2.1 = some (tyJ10 k) := by decide +kernel
def RJxa1e45 : String := "java/util/AbstractCollection"
def TJxa1e45 : u_T := fun k => match k with
  | _ => ("", "", "", false)
def tyJxa1e45 : Nat → FieldType := fun k => match k with
  | _ => .int
abbrev wsJxa1e450 : List Cond := u_ws RJxa1e45 TJxa1e45 0
theorem nmJxa1e45 : ∀ a, a < 0 → ∀ b, b < 0 → a ≠ b → (TJxa1e45 a).2.1 ≠ (TJxa1e45 b).2.1 := by decide +kernel
theorem tyJxa1e45_ok : ∀ k, k < 0 → parseFieldDescriptor (TJxa1e45 k).2.2.1 = some (tyJxa1e45 k) := by decide +kernel
abbrev cJxa1e45_init_da8c8 : ByteArray := prog_15_method_1_code
def yJxa1e45_init_da8c8 : MethodName := ⟨RJxa1e45, "<init>", "()V"⟩
def RJxc12de : String := "java/util/AbstractList"
def TJxc12de : u_T := fun k => match k with
  | _ => ("", "", "", false)
def tyJxc12de : Nat → FieldType := fun k => match k with
  | _ => .int
abbrev wsJxc12de0 : List Cond := u_ws RJxc12de TJxc12de 0
theorem nmJxc12de : ∀ a, a < 0 → ∀ b, b < 0 → a ≠ b → (TJxc12de a).2.1 ≠ (TJxc12de b).2.1 := by decide +kernel
theorem tyJxc12de_ok : ∀ k, k < 0 → parseFieldDescriptor (TJxc12de k).2.2.1 = some (tyJxc12de k) := by decide +kernel
abbrev cJxc12de_init_da8c8 : ByteArray := prog_16_method_1_code
def yJxc12de_init_da8c8 : MethodName := ⟨RJxc12de, "<init>", "()V"⟩
def RJx4a65c : String := "java/util/ArrayList"
def TJx4a65c : u_T := fun k => match k with
  | 0 => ("java/util/AbstractList", "modCount", "I", false)
  | 1 => ("java/util/ArrayList", "elementData", "[Ljava/lang/Object;", false)
  | _ => ("java/util/ArrayList", "size", "I", false)
def tyJx4a65c : Nat → FieldType := fun k => match k with
  | 0 => .int
  | 1 => .array (.object "java/lang/Object")
  | _ => .int
abbrev wsJx4a65c0 : List Cond := u_ws RJx4a65c TJx4a65c 3
theorem nmJx4a65c : ∀ a, a < 3 → ∀ b, b < 3 → a ≠ b → (TJx4a65c a).2.1 ≠ (TJx4a65c b).2.1 := by decide +kernel
theorem tyJx4a65c_ok : ∀ k, k < 3 → parseFieldDescriptor (TJx4a65c k).2.2.1 = some (tyJx4a65c k) := by decide +kernel
abbrev cJx4a65c_init_da8c8 : ByteArray := prog_17_method_2_code
def yJx4a65c_init_da8c8 : MethodName := ⟨RJx4a65c, "<init>", "()V"⟩
abbrev cJx4a65c_grow_92f84 : ByteArray := prog_17_method_6_code
def yJx4a65c_grow_92f84 : MethodName := ⟨RJx4a65c, "grow", "(I)[Ljava/lang/Object;"⟩
abbrev cJx4a65c_grow_d5877 : ByteArray := prog_17_method_7_code
def yJx4a65c_grow_d5877 : MethodName := ⟨RJx4a65c, "grow", "()[Ljava/lang/Object;"⟩
abbrev cJx4a65c_size_8abf5 : ByteArray := prog_17_method_8_code
def yJx4a65c_size_8abf5 : MethodName := ⟨RJx4a65c, "size", "()I"⟩
abbrev cJx4a65c_elementData_915e3 : ByteArray := prog_17_method_18_code
def yJx4a65c_elementData_915e3 : MethodName := ⟨RJx4a65c, "elementData", "(I)Ljava/lang/Object;"⟩
abbrev cJx4a65c_get_915e3 : ByteArray := prog_17_method_20_code
def yJx4a65c_get_915e3 : MethodName := ⟨RJx4a65c, "get", "(I)Ljava/lang/Object;"⟩
abbrev cJx4a65c_add_72be8 : ByteArray := prog_17_method_24_code
def yJx4a65c_add_72be8 : MethodName := ⟨RJx4a65c, "add", "(Ljava/lang/Object;[Ljava/lang/Object;I)V"⟩
abbrev cJx4a65c_add_9ea2d : ByteArray := prog_17_method_25_code
def yJx4a65c_add_9ea2d : MethodName := ⟨RJx4a65c, "add", "(Ljava/lang/Object;)Z"⟩
abbrev cJx4a65c_remove_915e3 : ByteArray := prog_17_method_29_code
def yJx4a65c_remove_915e3 : MethodName := ⟨RJx4a65c, "remove", "(I)Ljava/lang/Object;"⟩
abbrev cJx4a65c_fastRemove_b59b0 : ByteArray := prog_17_method_39_code
def yJx4a65c_fastRemove_b59b0 : MethodName := ⟨RJx4a65c, "fastRemove", "([Ljava/lang/Object;I)V"⟩
abbrev cJx4a65c_clear_da8c8 : ByteArray := prog_17_method_40_code
def yJx4a65c_clear_da8c8 : MethodName := ⟨RJx4a65c, "clear", "()V"⟩
def RJ7 : String := "java/util/Arrays"
def TJ7 : u_T := fun k => match k with
  | _ => ("", "", "", false)
def tyJ7 : Nat → FieldType := fun k => match k with
  | _ => .int
abbrev wsJ70 : List Cond := u_ws RJ7 TJ7 0
theorem nmJ7 : ∀ a, a < 0 → ∀ b, b < 0 → a ≠ b → (TJ7 a).2.1 ≠ (TJ7 b).2.1 := by decide +kernel
theorem tyJ7_ok : ∀ k, k < 0 → parseFieldDescriptor (TJ7 k).2.2.1 = some (tyJ7 k) := by decide +kernel
abbrev cJ7_copyOf_1904c : ByteArray := prog_18_method_119_code
def yJ7_copyOf_1904c : MethodName := ⟨RJ7, "copyOf", "([Ljava/lang/Object;I)[Ljava/lang/Object;"⟩
abbrev cJ7_copyOf_6403c : ByteArray := prog_18_method_120_code
def yJ7_copyOf_6403c : MethodName := ⟨RJ7, "copyOf", "([Ljava/lang/Object;ILjava/lang/Class;)[Ljava/lang/Object;"⟩
def RJx5ef63 : String := "java/util/Collection"
def TJx5ef63 : u_T := fun k => match k with
  | _ => ("", "", "", false)
def tyJx5ef63 : Nat → FieldType := fun k => match k with
  | _ => .int
abbrev wsJx5ef630 : List Cond := u_ws RJx5ef63 TJx5ef63 0
theorem nmJx5ef63 : ∀ a, a < 0 → ∀ b, b < 0 → a ≠ b → (TJx5ef63 a).2.1 ≠ (TJx5ef63 b).2.1 := by decide +kernel
theorem tyJx5ef63_ok : ∀ k, k < 0 → parseFieldDescriptor (TJx5ef63 k).2.2.1 = some (tyJx5ef63 k) := by decide +kernel
def RJxbd725 : String := "java/util/List"
def TJxbd725 : u_T := fun k => match k with
  | _ => ("", "", "", false)
def tyJxbd725 : Nat → FieldType := fun k => match k with
  | _ => .int
abbrev wsJxbd7250 : List Cond := u_ws RJxbd725 TJxbd725 0
theorem nmJxbd725 : ∀ a, a < 0 → ∀ b, b < 0 → a ≠ b → (TJxbd725 a).2.1 ≠ (TJxbd725 b).2.1 := by decide +kernel
theorem tyJxbd725_ok : ∀ k, k < 0 → parseFieldDescriptor (TJxbd725 k).2.2.1 = some (tyJxbd725 k) := by decide +kernel
def RJ15 : String := "java/util/Objects"
def TJ15 : u_T := fun k => match k with
  | _ => ("", "", "", false)
def tyJ15 : Nat → FieldType := fun k => match k with
  | _ => .int
abbrev wsJ150 : List Cond := u_ws RJ15 TJ15 0
theorem nmJ15 : ∀ a, a < 0 → ∀ b, b < 0 → a ≠ b → (TJ15 a).2.1 ≠ (TJ15 b).2.1 := by decide +kernel
theorem tyJ15_ok : ∀ k, k < 0 → parseFieldDescriptor (TJ15 k).2.2.1 = some (tyJ15 k) := by decide +kernel
abbrev cJ15_checkIndex_7cf53 : ByteArray := prog_21_method_17_code
def yJ15_checkIndex_7cf53 : MethodName := ⟨RJ15, "checkIndex", "(II)I"⟩
def RJxf0a74 : String := "java/util/RandomAccess"
def TJxf0a74 : u_T := fun k => match k with
  | _ => ("", "", "", false)
def tyJxf0a74 : Nat → FieldType := fun k => match k with
  | _ => .int
abbrev wsJxf0a740 : List Cond := u_ws RJxf0a74 TJxf0a74 0
theorem nmJxf0a74 : ∀ a, a < 0 → ∀ b, b < 0 → a ≠ b → (TJxf0a74 a).2.1 ≠ (TJxf0a74 b).2.1 := by decide +kernel
theorem tyJxf0a74_ok : ∀ k, k < 0 → parseFieldDescriptor (TJxf0a74 k).2.2.1 = some (tyJxf0a74 k) := by decide +kernel
def RJxa66e6 : String := "java/util/SequencedCollection"
def TJxa66e6 : u_T := fun k => match k with
  | _ => ("", "", "", false)
def tyJxa66e6 : Nat → FieldType := fun k => match k with
  | _ => .int
abbrev wsJxa66e60 : List Cond := u_ws RJxa66e6 TJxa66e6 0
theorem nmJxa66e6 : ∀ a, a < 0 → ∀ b, b < 0 → a ≠ b → (TJxa66e6 a).2.1 ≠ (TJxa66e6 b).2.1 := by decide +kernel
theorem tyJxa66e6_ok : ∀ k, k < 0 → parseFieldDescriptor (TJxa66e6 k).2.2.1 = some (tyJxa66e6 k) := by decide +kernel
def RJ8 : String := "jdk/internal/util/ArraysSupport"
def TJ8 : u_T := fun k => match k with
  | _ => ("", "", "", false)
def tyJ8 : Nat → FieldType := fun k => match k with
  | _ => .int
abbrev wsJ80 : List Cond := u_ws RJ8 TJ8 0
theorem nmJ8 : ∀ a, a < 0 → ∀ b, b < 0 → a ≠ b → (TJ8 a).2.1 ≠ (TJ8 b).2.1 := by decide +kernel
theorem tyJ8_ok : ∀ k, k < 0 → parseFieldDescriptor (TJ8 k).2.2.1 = some (tyJ8 k) := by decide +kernel
abbrev cJ8_newLength_cabcc : ByteArray := prog_24_method_27_code
def yJ8_newLength_cabcc : MethodName := ⟨RJ8, "newLength", "(III)I"⟩
abbrev cJ8_hugeLength_7cf53 : ByteArray := prog_24_method_28_code
def yJ8_hugeLength_7cf53 : MethodName := ⟨RJ8, "hugeLength", "(II)I"⟩
def RJ3 : String := "jdk/internal/util/Preconditions"
def TJ3 : u_T := fun k => match k with
  | _ => ("", "", "", false)
def tyJ3 : Nat → FieldType := fun k => match k with
  | _ => .int
abbrev wsJ30 : List Cond := u_ws RJ3 TJ3 0
theorem nmJ3 : ∀ a, a < 0 → ∀ b, b < 0 → a ≠ b → (TJ3 a).2.1 ≠ (TJ3 b).2.1 := by decide +kernel
theorem tyJ3_ok : ∀ k, k < 0 → parseFieldDescriptor (TJ3 k).2.2.1 = some (tyJ3 k) := by decide +kernel
abbrev cJ3_checkIndex_8e157 : ByteArray := prog_25_method_11_code
def yJ3_checkIndex_8e157 : MethodName := ⟨RJ3, "checkIndex", "(IILjava/util/function/BiFunction;)I"⟩
def RL : String := "OverlayFabricLaw"
abbrev cL_law : ByteArray := code
def yL_law : MethodName := ⟨RL, "law", "([I)Z"⟩
abbrev vwCl : List vw_C := [(RJx4a65c, TJx4a65c, 3), (RX0, TX0, 4), (RX1, TX1, 5), (RX2, TX2, 2), (RX3, TX3, 2), (RX4, TX4, 5), (RX6, TX6, 6), (RX7, TX7, 26)]
