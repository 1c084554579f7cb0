-- ===== PART A: goes FIRST, ahead of the names: the tables' words, and 'selects' of the private methods out of them =====
/-- a private method of a class that the tables say can be made, by its rows of tables_1 -/
def lw_okq (q : MethodName × Nat) : Prop := (q.1.cls ≠ "java/lang/invoke/MethodHandle" ∧ q.1.cls ≠ "java/lang/invoke/VarHandle") ∧ Cond.instantiable q.1.cls q.2 ∈ tables_1 ∧ Cond.privateMethod q.1 ∈ tables_1 ∧ Cond.instanceMethod q.1 ∈ tables_1
theorem lw_p0 : lw_okq (⟨"MarketRings", "refuse", "(I)I"⟩, 13) := ⟨⟨by decide +kernel, by decide +kernel⟩, List.mem_of_getElem? (i := 16) (by decide +kernel), List.mem_of_getElem? (i := 415) (by decide +kernel), List.mem_of_getElem? (i := 416) (by decide +kernel)⟩
theorem lw_p1 : lw_okq (⟨"MarketRings", "rentTax", "(I)I"⟩, 13) := ⟨⟨by decide +kernel, by decide +kernel⟩, List.mem_of_getElem? (i := 16) (by decide +kernel), List.mem_of_getElem? (i := 427) (by decide +kernel), List.mem_of_getElem? (i := 428) (by decide +kernel)⟩
theorem lw_p2 : lw_okq (⟨"MarketRings", "isNoUse", "(I)Z"⟩, 13) := ⟨⟨by decide +kernel, by decide +kernel⟩, List.mem_of_getElem? (i := 16) (by decide +kernel), List.mem_of_getElem? (i := 434) (by decide +kernel), List.mem_of_getElem? (i := 435) (by decide +kernel)⟩
theorem lw_p3 : lw_okq (⟨"MarketRings$Ways", "search", "(II[I[II)V"⟩, 6) := ⟨⟨by decide +kernel, by decide +kernel⟩, List.mem_of_getElem? (i := 244) (by decide +kernel), List.mem_of_getElem? (i := 458) (by decide +kernel), List.mem_of_getElem? (i := 459) (by decide +kernel)⟩
theorem lw_p4 : lw_okq (⟨"MarketRings$Ways", "leastFrom", "(I[I[II)I"⟩, 6) := ⟨⟨by decide +kernel, by decide +kernel⟩, List.mem_of_getElem? (i := 244) (by decide +kernel), List.mem_of_getElem? (i := 463) (by decide +kernel), List.mem_of_getElem? (i := 464) (by decide +kernel)⟩
theorem lw_p5 : lw_okq (⟨"MarketRings", "refuseLong", "(I)J"⟩, 13) := ⟨⟨by decide +kernel, by decide +kernel⟩, List.mem_of_getElem? (i := 16) (by decide +kernel), List.mem_of_getElem? (i := 516) (by decide +kernel), List.mem_of_getElem? (i := 517) (by decide +kernel)⟩
theorem lw_p6 : lw_okq (⟨"MarketRings$Offers", "rentBy", "(II)J"⟩, 8) := ⟨⟨by decide +kernel, by decide +kernel⟩, List.mem_of_getElem? (i := 55) (by decide +kernel), List.mem_of_getElem? (i := 529) (by decide +kernel), List.mem_of_getElem? (i := 530) (by decide +kernel)⟩
theorem lw_p7 : lw_okq (⟨"MarketRings", "isNoMarket", "(I)Z"⟩, 13) := ⟨⟨by decide +kernel, by decide +kernel⟩, List.mem_of_getElem? (i := 16) (by decide +kernel), List.mem_of_getElem? (i := 539) (by decide +kernel), List.mem_of_getElem? (i := 540) (by decide +kernel)⟩
theorem lw_p8 : lw_okq (⟨"MarketRings$Trade", "runRound", "(LMarketRings$Offers;)Z"⟩, 4) := ⟨⟨by decide +kernel, by decide +kernel⟩, List.mem_of_getElem? (i := 304) (by decide +kernel), List.mem_of_getElem? (i := 558) (by decide +kernel), List.mem_of_getElem? (i := 559) (by decide +kernel)⟩
theorem lw_p9 : lw_okq (⟨"MarketRings$Trade", "leastPriceFor", "(LMarketRings$Offers;II)I"⟩, 4) := ⟨⟨by decide +kernel, by decide +kernel⟩, List.mem_of_getElem? (i := 304) (by decide +kernel), List.mem_of_getElem? (i := 567) (by decide +kernel), List.mem_of_getElem? (i := 568) (by decide +kernel)⟩
theorem lw_p10 : lw_okq (⟨"MarketRings$Trade", "comingAt", "(II)I"⟩, 4) := ⟨⟨by decide +kernel, by decide +kernel⟩, List.mem_of_getElem? (i := 304) (by decide +kernel), List.mem_of_getElem? (i := 585) (by decide +kernel), List.mem_of_getElem? (i := 586) (by decide +kernel)⟩
theorem lw_p11 : lw_okq (⟨"MarketRings$Offers", "isTakenBy", "(II)Z"⟩, 8) := ⟨⟨by decide +kernel, by decide +kernel⟩, List.mem_of_getElem? (i := 55) (by decide +kernel), List.mem_of_getElem? (i := 603) (by decide +kernel), List.mem_of_getElem? (i := 604) (by decide +kernel)⟩
theorem lw_p12 : lw_okq (⟨"MarketRings$Trade", "rentsAfterRound", "(LMarketRings$Offers;I)J"⟩, 4) := ⟨⟨by decide +kernel, by decide +kernel⟩, List.mem_of_getElem? (i := 304) (by decide +kernel), List.mem_of_getElem? (i := 626) (by decide +kernel), List.mem_of_getElem? (i := 627) (by decide +kernel)⟩
theorem lw_p13 : lw_okq (⟨"MarketRings$Land", "clearAway", "()V"⟩, 13) := ⟨⟨by decide +kernel, by decide +kernel⟩, List.mem_of_getElem? (i := 67) (by decide +kernel), List.mem_of_getElem? (i := 716) (by decide +kernel), List.mem_of_getElem? (i := 717) (by decide +kernel)⟩
def lw_privs_1 : List (MethodName × Nat) := [(⟨"MarketRings", "refuse", "(I)I"⟩, 13), (⟨"MarketRings", "rentTax", "(I)I"⟩, 13), (⟨"MarketRings", "isNoUse", "(I)Z"⟩, 13), (⟨"MarketRings$Ways", "search", "(II[I[II)V"⟩, 6), (⟨"MarketRings$Ways", "leastFrom", "(I[I[II)I"⟩, 6), (⟨"MarketRings", "refuseLong", "(I)J"⟩, 13), (⟨"MarketRings$Offers", "rentBy", "(II)J"⟩, 8), (⟨"MarketRings", "isNoMarket", "(I)Z"⟩, 13), (⟨"MarketRings$Trade", "runRound", "(LMarketRings$Offers;)Z"⟩, 4), (⟨"MarketRings$Trade", "leastPriceFor", "(LMarketRings$Offers;II)I"⟩, 4), (⟨"MarketRings$Trade", "comingAt", "(II)I"⟩, 4), (⟨"MarketRings$Offers", "isTakenBy", "(II)Z"⟩, 8), (⟨"MarketRings$Trade", "rentsAfterRound", "(LMarketRings$Offers;I)J"⟩, 4), (⟨"MarketRings$Land", "clearAway", "()V"⟩, 13)]
theorem lw_r1 : ∀ q ∈ lw_privs_1, lw_okq q := List.forall_mem_cons.mpr ⟨lw_p0, List.forall_mem_cons.mpr ⟨lw_p1, List.forall_mem_cons.mpr ⟨lw_p2, List.forall_mem_cons.mpr ⟨lw_p3, List.forall_mem_cons.mpr ⟨lw_p4, List.forall_mem_cons.mpr ⟨lw_p5, List.forall_mem_cons.mpr ⟨lw_p6, List.forall_mem_cons.mpr ⟨lw_p7, List.forall_mem_cons.mpr ⟨lw_p8, List.forall_mem_cons.mpr ⟨lw_p9, List.forall_mem_cons.mpr ⟨lw_p10, List.forall_mem_cons.mpr ⟨lw_p11, List.forall_mem_cons.mpr ⟨lw_p12, List.forall_mem_cons.mpr ⟨lw_p13, fun _ h => absurd h List.not_mem_nil⟩⟩⟩⟩⟩⟩⟩⟩⟩⟩⟩⟩⟩⟩
def lw_privs : List (MethodName × Nat) := lw_privs_1
def lw_tbl : List Cond := k2_sels lw_privs ++ tables_1
theorem lw_privs_ok : ∀ q ∈ lw_privs, lw_okq q := lw_r1
def RX0 : String := "MarketRings$Land"
def TX0 : u_T := fun k => match k with
  | 0 => ("MarketRings$Land", "wide", "I", false)
  | 1 => ("MarketRings$Land", "high", "I", false)
  | 2 => ("MarketRings$Land", "acres", "I", false)
  | 3 => ("MarketRings$Land", "roads", "I", false)
  | 4 => ("MarketRings$Land", "markets", "I", false)
  | 5 => ("MarketRings$Land", "told", "[I", true)
  | 6 => ("MarketRings$Land", "soils", "[I", true)
  | 7 => ("MarketRings$Land", "tolls", "[I", true)
  | 8 => ("MarketRings$Land", "owners", "[I", true)
  | 9 => ("MarketRings$Land", "idle", "[I", true)
  | 10 => ("MarketRings$Land", "links", "[I", true)
  | 11 => ("MarketRings$Land", "stalls", "[I", true)
  | _ => ("MarketRings$Land", "steps", "[I", true)
def tyX0 : Nat → FieldType := fun k => match k with
  | 0 => .int
  | 1 => .int
  | 2 => .int
  | 3 => .int
  | 4 => .int
  | 5 => .array .int
  | 6 => .array .int
  | 7 => .array .int
  | 8 => .array .int
  | 9 => .array .int
  | 10 => .array .int
  | 11 => .array .int
  | _ => .array .int
abbrev wsX00 : List Cond := u_ws RX0 TX0 13
theorem nmX0 : ∀ a, a < 13 → ∀ b, b < 13 → a ≠ b → (TX0 a).2.1 ≠ (TX0 b).2.1 := by decide +kernel
theorem tyX0_ok : ∀ k, k < 13 → parseFieldDescriptor (TX0 k).2.2.1 = some (tyX0 k) := by decide +kernel
abbrev cX0_init : ByteArray := prog_2_method_1_code
def yX0_init : MethodName := ⟨RX0, "<init>", "()V"⟩
abbrev cX0_layOut : ByteArray := prog_2_method_2_code
def yX0_layOut : MethodName := ⟨RX0, "layOut", "(LMarketRings$Tape;)V"⟩
abbrev cX0_clearAway : ByteArray := prog_2_method_3_code
def yX0_clearAway : MethodName := ⟨RX0, "clearAway", "()V"⟩
abbrev cX0_takeFrom : ByteArray := prog_2_method_4_code
def yX0_takeFrom : MethodName := ⟨RX0, "takeFrom", "(LMarketRings$Land;)V"⟩
abbrev cX0_placeOf : ByteArray := prog_2_method_5_code
def yX0_placeOf : MethodName := ⟨RX0, "placeOf", "(I)I"⟩
abbrev cX0_beside : ByteArray := prog_2_method_6_code
def yX0_beside : MethodName := ⟨RX0, "beside", "(II)I"⟩
abbrev cX0_sideTowards : ByteArray := prog_2_method_7_code
def yX0_sideTowards : MethodName := ⟨RX0, "sideTowards", "(II)I"⟩
abbrev cX0_roadAt : ByteArray := prog_2_method_8_code
def yX0_roadAt : MethodName := ⟨RX0, "roadAt", "(II)I"⟩
abbrev cX0_layRoad : ByteArray := prog_2_method_9_code
def yX0_layRoad : MethodName := ⟨RX0, "layRoad", "(III)V"⟩
abbrev cX0_marketOn : ByteArray := prog_2_method_10_code
def yX0_marketOn : MethodName := ⟨RX0, "marketOn", "(I)I"⟩
abbrev cX0_idleAcres : ByteArray := prog_2_method_11_code
def yX0_idleAcres : MethodName := ⟨RX0, "idleAcres", "()I"⟩
def RX1 : String := "MarketRings$Offers"
def TX1 : u_T := fun k => match k with
  | 0 => ("MarketRings$Offers", "world", "LMarketRings$World;", true)
  | 1 => ("MarketRings$Offers", "ways", "LMarketRings$Ways;", true)
  | 2 => ("MarketRings$Offers", "bids", "[J", true)
  | 3 => ("MarketRings$Offers", "takers", "[I", true)
  | 4 => ("MarketRings$Offers", "land", "LMarketRings$Land;", true)
  | 5 => ("MarketRings$Offers", "uses", "LMarketRings$Uses;", true)
  | 6 => ("MarketRings$Offers", "waysKnown", "Z", false)
  | _ => ("MarketRings$Offers", "bidsKnown", "Z", false)
def tyX1 : Nat → FieldType := fun k => match k with
  | 0 => .object "MarketRings$World"
  | 1 => .object "MarketRings$Ways"
  | 2 => .array .long
  | 3 => .array .int
  | 4 => .object "MarketRings$Land"
  | 5 => .object "MarketRings$Uses"
  | 6 => .boolean
  | _ => .boolean
abbrev wsX10 : List Cond := u_ws RX1 TX1 8
theorem nmX1 : ∀ a, a < 8 → ∀ b, b < 8 → a ≠ b → (TX1 a).2.1 ≠ (TX1 b).2.1 := by decide +kernel
theorem tyX1_ok : ∀ k, k < 8 → parseFieldDescriptor (TX1 k).2.2.1 = some (tyX1 k) := by decide +kernel
abbrev cX1_init : ByteArray := prog_3_method_1_code
def yX1_init : MethodName := ⟨RX1, "<init>", "()V"⟩
abbrev cX1_forgetWays : ByteArray := prog_3_method_2_code
def yX1_forgetWays : MethodName := ⟨RX1, "forgetWays", "()V"⟩
abbrev cX1_forgetBids : ByteArray := prog_3_method_3_code
def yX1_forgetBids : MethodName := ⟨RX1, "forgetBids", "()V"⟩
abbrev cX1_settle : ByteArray := prog_3_method_4_code
def yX1_settle : MethodName := ⟨RX1, "settle", "()V"⟩
abbrev cX1_reckonBids : ByteArray := prog_3_method_5_code
def yX1_reckonBids : MethodName := ⟨RX1, "reckonBids", "()V"⟩
abbrev cX1_reckonOffer : ByteArray := prog_3_method_6_code
def yX1_reckonOffer : MethodName := ⟨RX1, "reckonOffer", "(I)V"⟩
abbrev cX1_wayOf : ByteArray := prog_3_method_7_code
def yX1_wayOf : MethodName := ⟨RX1, "wayOf", "(II)I"⟩
abbrev cX1_takerOf : ByteArray := prog_3_method_8_code
def yX1_takerOf : MethodName := ⟨RX1, "takerOf", "(I)I"⟩
abbrev cX1_greatest : ByteArray := prog_3_method_9_code
def yX1_greatest : MethodName := ⟨RX1, "greatest", "(II)I"⟩
abbrev cX1_rentAt : ByteArray := prog_3_method_10_code
def yX1_rentAt : MethodName := ⟨RX1, "rentAt", "(I)J"⟩
abbrev cX1_rentBy : ByteArray := prog_3_method_11_code
def yX1_rentBy : MethodName := ⟨RX1, "rentBy", "(II)J"⟩
abbrev cX1_allRents : ByteArray := prog_3_method_12_code
def yX1_allRents : MethodName := ⟨RX1, "allRents", "()J"⟩
abbrev cX1_rentsOf : ByteArray := prog_3_method_13_code
def yX1_rentsOf : MethodName := ⟨RX1, "rentsOf", "(I)J"⟩
abbrev cX1_isTakenBy : ByteArray := prog_3_method_15_code
def yX1_isTakenBy : MethodName := ⟨RX1, "isTakenBy", "(II)Z"⟩
abbrev cX1_wasteAcres : ByteArray := prog_3_method_19_code
def yX1_wasteAcres : MethodName := ⟨RX1, "wasteAcres", "()I"⟩
abbrev cX1_fallingWaste : ByteArray := prog_3_method_20_code
def yX1_fallingWaste : MethodName := ⟨RX1, "fallingWaste", "(II)I"⟩
def RX2 : String := "MarketRings$Plans"
def TX2 : u_T := fun k => match k with
  | 0 => ("MarketRings$Plans", "number", "I", false)
  | 1 => ("MarketRings$Plans", "places", "[I", true)
  | 2 => ("MarketRings$Plans", "sides", "[I", true)
  | 3 => ("MarketRings$Plans", "kinds", "[I", true)
  | _ => ("MarketRings$Plans", "costs", "[I", true)
def tyX2 : Nat → FieldType := fun k => match k with
  | 0 => .int
  | 1 => .array .int
  | 2 => .array .int
  | 3 => .array .int
  | _ => .array .int
abbrev wsX20 : List Cond := u_ws RX2 TX2 5
theorem nmX2 : ∀ a, a < 5 → ∀ b, b < 5 → a ≠ b → (TX2 a).2.1 ≠ (TX2 b).2.1 := by decide +kernel
theorem tyX2_ok : ∀ k, k < 5 → parseFieldDescriptor (TX2 k).2.2.1 = some (tyX2 k) := by decide +kernel
abbrev cX2_init : ByteArray := prog_4_method_1_code
def yX2_init : MethodName := ⟨RX2, "<init>", "()V"⟩
abbrev cX2_takeFrom : ByteArray := prog_4_method_3_code
def yX2_takeFrom : MethodName := ⟨RX2, "takeFrom", "(LMarketRings$Plans;)V"⟩
def RX3 : String := "MarketRings$Rings"
def TX3 : u_T := fun k => match k with
  | 0 => ("MarketRings$Rings", "homes", "[J", true)
  | 1 => ("MarketRings$Rings", "slopes", "[J", true)
  | 2 => ("MarketRings$Rings", "cutsAbove", "[J", true)
  | 3 => ("MarketRings$Rings", "cutsBelow", "[J", true)
  | 4 => ("MarketRings$Rings", "cuts", "I", false)
  | 5 => ("MarketRings$Rings", "number", "I", false)
  | 6 => ("MarketRings$Rings", "takers", "[I", true)
  | 7 => ("MarketRings$Rings", "endsAbove", "[J", true)
  | _ => ("MarketRings$Rings", "endsBelow", "[J", true)
def tyX3 : Nat → FieldType := fun k => match k with
  | 0 => .array .long
  | 1 => .array .long
  | 2 => .array .long
  | 3 => .array .long
  | 4 => .int
  | 5 => .int
  | 6 => .array .int
  | 7 => .array .long
  | _ => .array .long
abbrev wsX30 : List Cond := u_ws RX3 TX3 9
theorem nmX3 : ∀ a, a < 9 → ∀ b, b < 9 → a ≠ b → (TX3 a).2.1 ≠ (TX3 b).2.1 := by decide +kernel
theorem tyX3_ok : ∀ k, k < 9 → parseFieldDescriptor (TX3 k).2.2.1 = some (tyX3 k) := by decide +kernel
abbrev cX3_init : ByteArray := prog_5_method_1_code
def yX3_init : MethodName := ⟨RX3, "<init>", "()V"⟩
def RX4 : String := "MarketRings$Row"
def TX4 : u_T := fun k => match k with
  | 0 => ("MarketRings$Row", "bytes", "[I", true)
  | _ => ("MarketRings$Row", "length", "I", false)
def tyX4 : Nat → FieldType := fun k => match k with
  | 0 => .array .int
  | _ => .int
abbrev wsX40 : List Cond := u_ws RX4 TX4 2
theorem nmX4 : ∀ a, a < 2 → ∀ b, b < 2 → a ≠ b → (TX4 a).2.1 ≠ (TX4 b).2.1 := by decide +kernel
theorem tyX4_ok : ∀ k, k < 2 → parseFieldDescriptor (TX4 k).2.2.1 = some (tyX4 k) := by decide +kernel
abbrev cX4_init : ByteArray := prog_6_method_1_code
def yX4_init : MethodName := ⟨RX4, "<init>", "()V"⟩
def RX5 : String := "MarketRings$Tape"
def TX5 : u_T := fun k => match k with
  | 0 => ("MarketRings$Tape", "bytes", "[I", true)
  | _ => ("MarketRings$Tape", "length", "I", false)
def tyX5 : Nat → FieldType := fun k => match k with
  | 0 => .array .int
  | _ => .int
abbrev wsX50 : List Cond := u_ws RX5 TX5 2
theorem nmX5 : ∀ a, a < 2 → ∀ b, b < 2 → a ≠ b → (TX5 a).2.1 ≠ (TX5 b).2.1 := by decide +kernel
theorem tyX5_ok : ∀ k, k < 2 → parseFieldDescriptor (TX5 k).2.2.1 = some (tyX5 k) := by decide +kernel
abbrev cX5_init : ByteArray := prog_7_method_1_code
def yX5_init : MethodName := ⟨RX5, "<init>", "()V"⟩
abbrev cX5_append : ByteArray := prog_7_method_2_code
def yX5_append : MethodName := ⟨RX5, "append", "(IJ)V"⟩
abbrev cX5_firstFault : ByteArray := prog_7_method_3_code
def yX5_firstFault : MethodName := ⟨RX5, "firstFault", "()I"⟩
abbrev cX5_isDigit : ByteArray := prog_7_method_4_code
def yX5_isDigit : MethodName := ⟨RX5, "isDigit", "(I)Z"⟩
def RX6 : String := "MarketRings$Trade"
def TX6 : u_T := fun k => match k with
  | 0 => ("MarketRings$Trade", "leastPrices", "[I", true)
  | 1 => ("MarketRings$Trade", "yields", "[I", true)
  | 2 => ("MarketRings$Trade", "savedPrices", "[I", true)
  | _ => ("MarketRings$Trade", "savedBids", "[J", true)
def tyX6 : Nat → FieldType := fun k => match k with
  | 0 => .array .int
  | 1 => .array .int
  | 2 => .array .int
  | _ => .array .long
abbrev wsX60 : List Cond := u_ws RX6 TX6 4
theorem nmX6 : ∀ a, a < 4 → ∀ b, b < 4 → a ≠ b → (TX6 a).2.1 ≠ (TX6 b).2.1 := by decide +kernel
theorem tyX6_ok : ∀ k, k < 4 → parseFieldDescriptor (TX6 k).2.2.1 = some (tyX6 k) := by decide +kernel
abbrev cX6_init : ByteArray := prog_8_method_1_code
def yX6_init : MethodName := ⟨RX6, "<init>", "()V"⟩
abbrev cX6_clearingPrice : ByteArray := prog_8_method_2_code
def yX6_clearingPrice : MethodName := ⟨RX6, "clearingPrice", "(LMarketRings$Offers;I)I"⟩
abbrev cX6_comingAt : ByteArray := prog_8_method_3_code
def yX6_comingAt : MethodName := ⟨RX6, "comingAt", "(II)I"⟩
abbrev cX6_leastPriceFor : ByteArray := prog_8_method_4_code
def yX6_leastPriceFor : MethodName := ⟨RX6, "leastPriceFor", "(LMarketRings$Offers;II)I"⟩
abbrev cX6_runRounds : ByteArray := prog_8_method_5_code
def yX6_runRounds : MethodName := ⟨RX6, "runRounds", "(LMarketRings$Offers;I)I"⟩
abbrev cX6_runRound : ByteArray := prog_8_method_6_code
def yX6_runRound : MethodName := ⟨RX6, "runRound", "(LMarketRings$Offers;)Z"⟩
abbrev cX6_bestToHold : ByteArray := prog_8_method_7_code
def yX6_bestToHold : MethodName := ⟨RX6, "bestToHold", "(LMarketRings$Offers;I)I"⟩
abbrev cX6_rentsAfterRound : ByteArray := prog_8_method_8_code
def yX6_rentsAfterRound : MethodName := ⟨RX6, "rentsAfterRound", "(LMarketRings$Offers;I)J"⟩
def RX7 : String := "MarketRings$Uses"
def TX7 : u_T := fun k => match k with
  | 0 => ("MarketRings$Uses", "number", "I", false)
  | 1 => ("MarketRings$Uses", "rentTax", "I", false)
  | 2 => ("MarketRings$Uses", "kinds", "[I", true)
  | 3 => ("MarketRings$Uses", "bases", "[I", true)
  | 4 => ("MarketRings$Uses", "mores", "[I", true)
  | 5 => ("MarketRings$Uses", "costs", "[I", true)
  | 6 => ("MarketRings$Uses", "fares", "[I", true)
  | 7 => ("MarketRings$Uses", "taxes", "[I", true)
  | 8 => ("MarketRings$Uses", "years", "[I", true)
  | 9 => ("MarketRings$Uses", "yearSums", "[I", true)
  | 10 => ("MarketRings$Uses", "prices", "[I", true)
  | 11 => ("MarketRings$Uses", "pieces", "[I", true)
  | 12 => ("MarketRings$Uses", "pieceMuch", "[I", true)
  | _ => ("MarketRings$Uses", "piecePrices", "[I", true)
def tyX7 : Nat → FieldType := fun k => match k with
  | 0 => .int
  | 1 => .int
  | 2 => .array .int
  | 3 => .array .int
  | 4 => .array .int
  | 5 => .array .int
  | 6 => .array .int
  | 7 => .array .int
  | 8 => .array .int
  | 9 => .array .int
  | 10 => .array .int
  | 11 => .array .int
  | 12 => .array .int
  | _ => .array .int
abbrev wsX70 : List Cond := u_ws RX7 TX7 14
theorem nmX7 : ∀ a, a < 14 → ∀ b, b < 14 → a ≠ b → (TX7 a).2.1 ≠ (TX7 b).2.1 := by decide +kernel
theorem tyX7_ok : ∀ k, k < 14 → parseFieldDescriptor (TX7 k).2.2.1 = some (tyX7 k) := by decide +kernel
abbrev cX7_init : ByteArray := prog_9_method_1_code
def yX7_init : MethodName := ⟨RX7, "<init>", "()V"⟩
abbrev cX7_append : ByteArray := prog_9_method_2_code
def yX7_append : MethodName := ⟨RX7, "append", "(IIIII)I"⟩
abbrev cX7_appendPiece : ByteArray := prog_9_method_3_code
def yX7_appendPiece : MethodName := ⟨RX7, "appendPiece", "(III)V"⟩
abbrev cX7_takeFrom : ByteArray := prog_9_method_4_code
def yX7_takeFrom : MethodName := ⟨RX7, "takeFrom", "(LMarketRings$Uses;)V"⟩
abbrev cX7_yieldOn : ByteArray := prog_9_method_5_code
def yX7_yieldOn : MethodName := ⟨RX7, "yieldOn", "(II)I"⟩
abbrev cX7_reckonedPrice : ByteArray := prog_9_method_6_code
def yX7_reckonedPrice : MethodName := ⟨RX7, "reckonedPrice", "(I)I"⟩
abbrev cX7_payAtHome : ByteArray := prog_9_method_7_code
def yX7_payAtHome : MethodName := ⟨RX7, "payAtHome", "(II)J"⟩
abbrev cX7_carriage : ByteArray := prog_9_method_8_code
def yX7_carriage : MethodName := ⟨RX7, "carriage", "(II)J"⟩
abbrev cX7_canGo : ByteArray := prog_9_method_9_code
def yX7_canGo : MethodName := ⟨RX7, "canGo", "(II)Z"⟩
abbrev cX7_boughtAt : ByteArray := prog_9_method_10_code
def yX7_boughtAt : MethodName := ⟨RX7, "boughtAt", "(II)I"⟩
def RX8 : String := "MarketRings$Ways"
def TX8 : u_T := fun k => match k with
  | 0 => ("MarketRings$Ways", "byRoad", "[I", true)
  | 1 => ("MarketRings$Ways", "onFoot", "[I", true)
  | 2 => ("MarketRings$Ways", "asked", "[I", true)
  | 3 => ("MarketRings$Ways", "next", "[I", true)
  | 4 => ("MarketRings$Ways", "roadFees", "[I", true)
  | _ => ("MarketRings$Ways", "footFees", "[I", true)
def tyX8 : Nat → FieldType := fun k => match k with
  | 0 => .array .int
  | 1 => .array .int
  | 2 => .array .int
  | 3 => .array .int
  | 4 => .array .int
  | _ => .array .int
abbrev wsX80 : List Cond := u_ws RX8 TX8 6
theorem nmX8 : ∀ a, a < 6 → ∀ b, b < 6 → a ≠ b → (TX8 a).2.1 ≠ (TX8 b).2.1 := by decide +kernel
theorem tyX8_ok : ∀ k, k < 6 → parseFieldDescriptor (TX8 k).2.2.1 = some (tyX8 k) := by decide +kernel
abbrev cX8_init : ByteArray := prog_10_method_1_code
def yX8_init : MethodName := ⟨RX8, "<init>", "()V"⟩
abbrev cX8_reckonFoot : ByteArray := prog_10_method_2_code
def yX8_reckonFoot : MethodName := ⟨RX8, "reckonFoot", "(LMarketRings$Land;)V"⟩
abbrev cX8_reckonRoads : ByteArray := prog_10_method_3_code
def yX8_reckonRoads : MethodName := ⟨RX8, "reckonRoads", "(LMarketRings$Land;)V"⟩
abbrev cX8_search : ByteArray := prog_10_method_5_code
def yX8_search : MethodName := ⟨RX8, "search", "(II[I[II)V"⟩
abbrev cX8_leastFrom : ByteArray := prog_10_method_6_code
def yX8_leastFrom : MethodName := ⟨RX8, "leastFrom", "(I[I[II)I"⟩
def RX9 : String := "MarketRings$Works"
def TX9 : u_T := fun k => match k with
  | _ => ("MarketRings$Works", "rentsBefore", "[J", true)
def tyX9 : Nat → FieldType := fun k => match k with
  | _ => .array .long
abbrev wsX90 : List Cond := u_ws RX9 TX9 1
theorem nmX9 : ∀ a, a < 1 → ∀ b, b < 1 → a ≠ b → (TX9 a).2.1 ≠ (TX9 b).2.1 := by decide +kernel
theorem tyX9_ok : ∀ k, k < 1 → parseFieldDescriptor (TX9 k).2.2.1 = some (tyX9 k) := by decide +kernel
abbrev cX9_init : ByteArray := prog_11_method_1_code
def yX9_init : MethodName := ⟨RX9, "<init>", "()V"⟩
def RX10 : String := "MarketRings$World"
def TX10 : u_T := fun k => match k with
  | 0 => ("MarketRings$World", "land", "LMarketRings$Land;", true)
  | 1 => ("MarketRings$World", "uses", "LMarketRings$Uses;", true)
  | _ => ("MarketRings$World", "plans", "LMarketRings$Plans;", true)
def tyX10 : Nat → FieldType := fun k => match k with
  | 0 => .object "MarketRings$Land"
  | 1 => .object "MarketRings$Uses"
  | _ => .object "MarketRings$Plans"
abbrev wsX100 : List Cond := u_ws RX10 TX10 3
theorem nmX10 : ∀ a, a < 3 → ∀ b, b < 3 → a ≠ b → (TX10 a).2.1 ≠ (TX10 b).2.1 := by decide +kernel
theorem tyX10_ok : ∀ k, k < 3 → parseFieldDescriptor (TX10 k).2.2.1 = some (tyX10 k) := by decide +kernel
abbrev cX10_init : ByteArray := prog_12_method_1_code
def yX10_init : MethodName := ⟨RX10, "<init>", "()V"⟩
abbrev cX10_takeFrom : ByteArray := prog_12_method_2_code
def yX10_takeFrom : MethodName := ⟨RX10, "takeFrom", "(LMarketRings$World;)V"⟩
def RX11 : String := "MarketRings"
def TX11 : u_T := fun k => match k with
  | 0 => ("MarketRings", "tape", "LMarketRings$Tape;", true)
  | 1 => ("MarketRings", "row", "LMarketRings$Row;", true)
  | 2 => ("MarketRings", "offers", "LMarketRings$Offers;", true)
  | 3 => ("MarketRings", "world", "LMarketRings$World;", true)
  | 4 => ("MarketRings", "land", "LMarketRings$Land;", true)
  | 5 => ("MarketRings", "uses", "LMarketRings$Uses;", true)
  | 6 => ("MarketRings", "plans", "LMarketRings$Plans;", true)
  | 7 => ("MarketRings", "kept", "LMarketRings$World;", true)
  | 8 => ("MarketRings", "isKept", "Z", false)
  | 9 => ("MarketRings", "trade", "LMarketRings$Trade;", true)
  | 10 => ("MarketRings", "works", "LMarketRings$Works;", true)
  | 11 => ("MarketRings", "rings", "LMarketRings$Rings;", true)
  | _ => ("MarketRings", "refusals", "[I", true)
def tyX11 : Nat → FieldType := fun k => match k with
  | 0 => .object "MarketRings$Tape"
  | 1 => .object "MarketRings$Row"
  | 2 => .object "MarketRings$Offers"
  | 3 => .object "MarketRings$World"
  | 4 => .object "MarketRings$Land"
  | 5 => .object "MarketRings$Uses"
  | 6 => .object "MarketRings$Plans"
  | 7 => .object "MarketRings$World"
  | 8 => .boolean
  | 9 => .object "MarketRings$Trade"
  | 10 => .object "MarketRings$Works"
  | 11 => .object "MarketRings$Rings"
  | _ => .array .int
abbrev wsX110 : List Cond := u_ws RX11 TX11 13
theorem nmX11 : ∀ a, a < 13 → ∀ b, b < 13 → a ≠ b → (TX11 a).2.1 ≠ (TX11 b).2.1 := by decide +kernel
theorem tyX11_ok : ∀ k, k < 13 → parseFieldDescriptor (TX11 k).2.2.1 = some (tyX11 k) := by decide +kernel
abbrev cX11_init : ByteArray := prog_1_method_1_code
def yX11_init : MethodName := ⟨RX11, "<init>", "()V"⟩
abbrev cX11_feed : ByteArray := prog_1_method_2_code
def yX11_feed : MethodName := ⟨RX11, "feed", "(IJ)I"⟩
abbrev cX11_read : ByteArray := prog_1_method_3_code
def yX11_read : MethodName := ⟨RX11, "read", "()I"⟩
abbrev cX11_acre : ByteArray := prog_1_method_4_code
def yX11_acre : MethodName := ⟨RX11, "acre", "(II)I"⟩
abbrev cX11_road : ByteArray := prog_1_method_5_code
def yX11_road : MethodName := ⟨RX11, "road", "(III)I"⟩
abbrev cX11_toll : ByteArray := prog_1_method_7_code
def yX11_toll : MethodName := ⟨RX11, "toll", "(II)I"⟩
abbrev cX11_market : ByteArray := prog_1_method_9_code
def yX11_market : MethodName := ⟨RX11, "market", "(I)I"⟩
abbrev cX11_use : ByteArray := prog_1_method_10_code
def yX11_use : MethodName := ⟨RX11, "use", "(IIIII)I"⟩
abbrev cX11_year : ByteArray := prog_1_method_11_code
def yX11_year : MethodName := ⟨RX11, "year", "(II)I"⟩
abbrev cX11_price : ByteArray := prog_1_method_12_code
def yX11_price : MethodName := ⟨RX11, "price", "(III)I"⟩
abbrev cX11_tax : ByteArray := prog_1_method_13_code
def yX11_tax : MethodName := ⟨RX11, "tax", "(II)I"⟩
abbrev cX11_rentTax : ByteArray := prog_1_method_14_code
def yX11_rentTax : MethodName := ⟨RX11, "rentTax", "(I)I"⟩
abbrev cX11_goes : ByteArray := prog_1_method_16_code
def yX11_goes : MethodName := ⟨RX11, "goes", "(II)I"⟩
abbrev cX11_rent : ByteArray := prog_1_method_17_code
def yX11_rent : MethodName := ⟨RX11, "rent", "(I)J"⟩
abbrev cX11_piece : ByteArray := prog_1_method_19_code
def yX11_piece : MethodName := ⟨RX11, "piece", "(IIII)I"⟩
abbrev cX11_rounds : ByteArray := prog_1_method_22_code
def yX11_rounds : MethodName := ⟨RX11, "rounds", "(I)I"⟩
abbrev cX11_falls : ByteArray := prog_1_method_33_code
def yX11_falls : MethodName := ⟨RX11, "falls", "(II)I"⟩
abbrev cX11_own : ByteArray := prog_1_method_34_code
def yX11_own : MethodName := ⟨RX11, "own", "(II)I"⟩
abbrev cX11_held : ByteArray := prog_1_method_35_code
def yX11_held : MethodName := ⟨RX11, "held", "(IZ)I"⟩
abbrev cX11_hold : ByteArray := prog_1_method_36_code
def yX11_hold : MethodName := ⟨RX11, "hold", "(I)I"⟩
abbrev cX11_image : ByteArray := prog_1_method_39_code
def yX11_image : MethodName := ⟨RX11, "image", "()I"⟩
abbrev cX11_on : ByteArray := prog_1_method_40_code
def yX11_on : MethodName := ⟨RX11, "on", "()I"⟩
abbrev cX11_count : ByteArray := prog_1_method_41_code
def yX11_count : MethodName := ⟨RX11, "count", "(I)I"⟩
abbrev cX11_refuse : ByteArray := prog_1_method_42_code
def yX11_refuse : MethodName := ⟨RX11, "refuse", "(I)I"⟩
abbrev cX11_refuseLong : ByteArray := prog_1_method_43_code
def yX11_refuseLong : MethodName := ⟨RX11, "refuseLong", "(I)J"⟩
abbrev cX11_unfit : ByteArray := prog_1_method_44_code
def yX11_unfit : MethodName := ⟨RX11, "unfit", "(III)I"⟩
abbrev cX11_isNoUse : ByteArray := prog_1_method_45_code
def yX11_isNoUse : MethodName := ⟨RX11, "isNoUse", "(I)Z"⟩
abbrev cX11_isNoMarket : ByteArray := prog_1_method_46_code
def yX11_isNoMarket : MethodName := ⟨RX11, "isNoMarket", "(I)Z"⟩
abbrev cX11_offerOf : ByteArray := prog_1_method_47_code
def yX11_offerOf : MethodName := ⟨RX11, "offerOf", "(II)I"⟩
def RX12 : String := "MarketRingsModel"
def TX12 : u_T := fun k => match k with
  | _ => ("", "", "", false)
def tyX12 : Nat → FieldType := fun k => match k with
  | _ => .int
abbrev wsX120 : List Cond := u_ws RX12 TX12 0
theorem nmX12 : ∀ a, a < 0 → ∀ b, b < 0 → a ≠ b → (TX12 a).2.1 ≠ (TX12 b).2.1 := by decide +kernel
theorem tyX12_ok : ∀ k, k < 0 → parseFieldDescriptor (TX12 k).2.2.1 = some (tyX12 k) := by decide +kernel
def RJ9 : String := "java/lang/Math"
def TJ9 : u_T := fun k => match k with
  | _ => ("", "", "", false)
def tyJ9 : Nat → FieldType := fun k => match k with
  | _ => .int
abbrev wsJ90 : List Cond := u_ws RJ9 TJ9 0
theorem nmJ9 : ∀ a, a < 0 → ∀ b, b < 0 → a ≠ b → (TJ9 a).2.1 ≠ (TJ9 b).2.1 := by decide +kernel
theorem tyJ9_ok : ∀ k, k < 0 → parseFieldDescriptor (TJ9 k).2.2.1 = some (tyJ9 k) := by decide +kernel
abbrev cJ9_floorDiv_f86c9 : ByteArray := prog_15_method_49_code
def yJ9_floorDiv_f86c9 : MethodName := ⟨RJ9, "floorDiv", "(JJ)J"⟩
abbrev cJ9_max_f86c9 : ByteArray := prog_15_method_66_code
def yJ9_max_f86c9 : MethodName := ⟨RJ9, "max", "(JJ)J"⟩
abbrev cJ9_min_f86c9 : ByteArray := prog_15_method_70_code
def yJ9_min_f86c9 : MethodName := ⟨RJ9, "min", "(JJ)J"⟩
def RJ10 : String := "java/lang/System"
def TJ10 : u_T := fun k => match k with
  | _ => ("", "", "", false)
def tyJ10 : Nat → FieldType := fun k => match k with
  | _ => .int
abbrev wsJ100 : List Cond := u_ws RJ10 TJ10 0
theorem nmJ10 : ∀ a, a < 0 → ∀ b, b < 0 → a ≠ b → (TJ10 a).2.1 ≠ (TJ10 b).2.1 := by decide +kernel
theorem tyJ10_ok : ∀ k, k < 0 → parseFieldDescriptor (TJ10 k).2.2.1 = some (tyJ10 k) := by decide +kernel
def RL : String := "MarketRingsLaw"
abbrev cL_cell : ByteArray := method_2_code
def yL_cell : MethodName := ⟨RL, "cell", "([II)I"⟩
abbrev cL_pick : ByteArray := method_3_code
def yL_pick : MethodName := ⟨RL, "pick", "(II)I"⟩
abbrev cL_cellOf : ByteArray := method_4_code
def yL_cellOf : MethodName := ⟨RL, "cellOf", "(II)I"⟩
abbrev cL_land : ByteArray := method_5_code
def yL_land : MethodName := ⟨RL, "land", "(LMarketRings;[I)I"⟩
abbrev cL_law : ByteArray := code
def yL_law : MethodName := ⟨RL, "law", "([I)Z"⟩
abbrev vwCl : List vw_C := [(RX0, TX0, 13), (RX1, TX1, 8), (RX2, TX2, 5), (RX3, TX3, 9), (RX4, TX4, 2), (RX5, TX5, 2), (RX6, TX6, 4), (RX7, TX7, 14), (RX8, TX8, 6), (RX9, TX9, 1), (RX10, TX10, 3), (RX11, TX11, 13)]
