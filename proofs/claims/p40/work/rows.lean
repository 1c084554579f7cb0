section
-- ===== PART A: goes FIRST, ahead of the names: the tables' words, and 'selects' of the private methods out of them =====
/-- a private method of a class that the tables say can be made, by its rows of tables_1 -/
def lw_okq (q : MethodName × Nat) : Prop := (q.1.cls ≠ "java/lang/invoke/MethodHandle" ∧ q.1.cls ≠ "java/lang/invoke/VarHandle") ∧ Cond.instantiable q.1.cls q.2 ∈ tables_1 ∧ Cond.privateMethod q.1 ∈ tables_1 ∧ Cond.instanceMethod q.1 ∈ tables_1
theorem lw_p0 : lw_okq (⟨"MarketRings", "refuse", "(I)I"⟩, 13) := ⟨⟨by decide +kernel, by decide +kernel⟩, List.mem_of_getElem? (i := 16) (by decide +kernel), List.mem_of_getElem? (i := 415) (by decide +kernel), List.mem_of_getElem? (i := 416) (by decide +kernel)⟩
theorem lw_p1 : lw_okq (⟨"MarketRings", "rentTax", "(I)I"⟩, 13) := ⟨⟨by decide +kernel, by decide +kernel⟩, List.mem_of_getElem? (i := 16) (by decide +kernel), List.mem_of_getElem? (i := 427) (by decide +kernel), List.mem_of_getElem? (i := 428) (by decide +kernel)⟩
theorem lw_p2 : lw_okq (⟨"MarketRings", "isNoUse", "(I)Z"⟩, 13) := ⟨⟨by decide +kernel, by decide +kernel⟩, List.mem_of_getElem? (i := 16) (by decide +kernel), List.mem_of_getElem? (i := 434) (by decide +kernel), List.mem_of_getElem? (i := 435) (by decide +kernel)⟩
theorem lw_p3 : lw_okq (⟨"MarketRings$Ways", "search", "(II[I[II)V"⟩, 6) := ⟨⟨by decide +kernel, by decide +kernel⟩, List.mem_of_getElem? (i := 244) (by decide +kernel), List.mem_of_getElem? (i := 458) (by decide +kernel), List.mem_of_getElem? (i := 459) (by decide +kernel)⟩
theorem lw_p4 : lw_okq (⟨"MarketRings$Ways", "leastFrom", "(I[I[II)I"⟩, 6) := ⟨⟨by decide +kernel, by decide +kernel⟩, List.mem_of_getElem? (i := 244) (by decide +kernel), List.mem_of_getElem? (i := 463) (by decide +kernel), List.mem_of_getElem? (i := 464) (by decide +kernel)⟩
theorem lw_p5 : lw_okq (⟨"MarketRings", "refuseLong", "(I)J"⟩, 13) := ⟨⟨by decide +kernel, by decide +kernel⟩, List.mem_of_getElem? (i := 16) (by decide +kernel), List.mem_of_getElem? (i := 516) (by decide +kernel), List.mem_of_getElem? (i := 517) (by decide +kernel)⟩
theorem lw_p6 : lw_okq (⟨"MarketRings$Offers", "rentBy", "(II)J"⟩, 8) := ⟨⟨by decide +kernel, by decide +kernel⟩, List.mem_of_getElem? (i := 55) (by decide +kernel), List.mem_of_getElem? (i := 529) (by decide +kernel), List.mem_of_getElem? (i := 530) (by decide +kernel)⟩
theorem lw_p7 : lw_okq (⟨"MarketRings", "isNoMarket", "(I)Z"⟩, 13) := ⟨⟨by decide +kernel, by decide +kernel⟩, List.mem_of_getElem? (i := 16) (by decide +kernel), List.mem_of_getElem? (i := 539) (by decide +kernel), List.mem_of_getElem? (i := 540) (by decide +kernel)⟩
theorem lw_p8 : lw_okq (⟨"MarketRings$Trade", "runRound", "(LMarketRings$Offers;)Z"⟩, 4) := ⟨⟨by decide +kernel, by decide +kernel⟩, List.mem_of_getElem? (i := 304) (by decide +kernel), List.mem_of_getElem? (i := 558) (by decide +kernel), List.mem_of_getElem? (i := 559) (by decide +kernel)⟩
theorem lw_p9 : lw_okq (⟨"MarketRings$Trade", "leastPriceFor", "(LMarketRings$Offers;II)I"⟩, 4) := ⟨⟨by decide +kernel, by decide +kernel⟩, List.mem_of_getElem? (i := 304) (by decide +kernel), List.mem_of_getElem? (i := 567) (by decide +kernel), List.mem_of_getElem? (i := 568) (by decide +kernel)⟩
theorem lw_p10 : lw_okq (⟨"MarketRings$Trade", "comingAt", "(II)I"⟩, 4) := ⟨⟨by decide +kernel, by decide +kernel⟩, List.mem_of_getElem? (i := 304) (by decide +kernel), List.mem_of_getElem? (i := 585) (by decide +kernel), List.mem_of_getElem? (i := 586) (by decide +kernel)⟩
theorem lw_p11 : lw_okq (⟨"MarketRings$Offers", "isTakenBy", "(II)Z"⟩, 8) := ⟨⟨by decide +kernel, by decide +kernel⟩, List.mem_of_getElem? (i := 55) (by decide +kernel), List.mem_of_getElem? (i := 603) (by decide +kernel), List.mem_of_getElem? (i := 604) (by decide +kernel)⟩
theorem lw_p12 : lw_okq (⟨"MarketRings$Trade", "rentsAfterRound", "(LMarketRings$Offers;I)J"⟩, 4) := ⟨⟨by decide +kernel, by decide +kernel⟩, List.mem_of_getElem? (i := 304) (by decide +kernel), List.mem_of_getElem? (i := 626) (by decide +kernel), List.mem_of_getElem? (i := 627) (by decide +kernel)⟩
theorem lw_p13 : lw_okq (⟨"MarketRings$Land", "clearAway", "()V"⟩, 13) := ⟨⟨by decide +kernel, by decide +kernel⟩, List.mem_of_getElem? (i := 67) (by decide +kernel), List.mem_of_getElem? (i := 716) (by decide +kernel), List.mem_of_getElem? (i := 717) (by decide +kernel)⟩
def lw_privs_1 : List (MethodName × Nat) := [(⟨"MarketRings", "refuse", "(I)I"⟩, 13), (⟨"MarketRings", "rentTax", "(I)I"⟩, 13), (⟨"MarketRings", "isNoUse", "(I)Z"⟩, 13), (⟨"MarketRings$Ways", "search", "(II[I[II)V"⟩, 6), (⟨"MarketRings$Ways", "leastFrom", "(I[I[II)I"⟩, 6), (⟨"MarketRings", "refuseLong", "(I)J"⟩, 13), (⟨"MarketRings$Offers", "rentBy", "(II)J"⟩, 8), (⟨"MarketRings", "isNoMarket", "(I)Z"⟩, 13), (⟨"MarketRings$Trade", "runRound", "(LMarketRings$Offers;)Z"⟩, 4), (⟨"MarketRings$Trade", "leastPriceFor", "(LMarketRings$Offers;II)I"⟩, 4), (⟨"MarketRings$Trade", "comingAt", "(II)I"⟩, 4), (⟨"MarketRings$Offers", "isTakenBy", "(II)Z"⟩, 8), (⟨"MarketRings$Trade", "rentsAfterRound", "(LMarketRings$Offers;I)J"⟩, 4), (⟨"MarketRings$Land", "clearAway", "()V"⟩, 13)]
theorem lw_r1 : ∀ q ∈ lw_privs_1, lw_okq q := List.forall_mem_cons.mpr ⟨lw_p0, List.forall_mem_cons.mpr ⟨lw_p1, List.forall_mem_cons.mpr ⟨lw_p2, List.forall_mem_cons.mpr ⟨lw_p3, List.forall_mem_cons.mpr ⟨lw_p4, List.forall_mem_cons.mpr ⟨lw_p5, List.forall_mem_cons.mpr ⟨lw_p6, List.forall_mem_cons.mpr ⟨lw_p7, List.forall_mem_cons.mpr ⟨lw_p8, List.forall_mem_cons.mpr ⟨lw_p9, List.forall_mem_cons.mpr ⟨lw_p10, List.forall_mem_cons.mpr ⟨lw_p11, List.forall_mem_cons.mpr ⟨lw_p12, List.forall_mem_cons.mpr ⟨lw_p13, fun _ h => absurd h List.not_mem_nil⟩⟩⟩⟩⟩⟩⟩⟩⟩⟩⟩⟩⟩⟩
def lw_privs : List (MethodName × Nat) := lw_privs_1
def lw_tbl : List Cond := k2_sels lw_privs ++ tables_1
theorem lw_privs_ok : ∀ q ∈ lw_privs, lw_okq q := lw_r1
def RX0 : String := "MarketRings$Land"
def TX0 : u_T := fun k => match k with
  | 0 => ("MarketRings$Land", "wide", "I", false)
  | 1 => ("MarketRings$Land", "high", "I", false)
  | 2 => ("MarketRings$Land", "acres", "I", false)
  | 3 => ("MarketRings$Land", "roads", "I", false)
  | 4 => ("MarketRings$Land", "markets", "I", false)
  | 5 => ("MarketRings$Land", "told", "[I", true)
  | 6 => ("MarketRings$Land", "soils", "[I", true)
  | 7 => ("MarketRings$Land", "tolls", "[I", true)
  | 8 => ("MarketRings$Land", "owners", "[I", true)
  | 9 => ("MarketRings$Land", "idle", "[I", true)
  | 10 => ("MarketRings$Land", "links", "[I", true)
  | 11 => ("MarketRings$Land", "stalls", "[I", true)
  | _ => ("MarketRings$Land", "steps", "[I", true)
def tyX0 : Nat → FieldType := fun k => match k with
  | 0 => .int
  | 1 => .int
  | 2 => .int
  | 3 => .int
  | 4 => .int
  | 5 => .array .int
  | 6 => .array .int
  | 7 => .array .int
  | 8 => .array .int
  | 9 => .array .int
  | 10 => .array .int
  | 11 => .array .int
  | _ => .array .int
abbrev wsX00 : List Cond := u_ws RX0 TX0 13
theorem nmX0 : ∀ a, a < 13 → ∀ b, b < 13 → a ≠ b → (TX0 a).2.1 ≠ (TX0 b).2.1 := by decide +kernel
theorem tyX0_ok : ∀ k, k < 13 → parseFieldDescriptor (TX0 k).2.2.1 = some (tyX0 k) := by decide +kernel
abbrev cX0_init : ByteArray := prog_2_method_1_code
def yX0_init : MethodName := ⟨RX0, "<init>", "()V"⟩
abbrev cX0_layOut : ByteArray := prog_2_method_2_code
def yX0_layOut : MethodName := ⟨RX0, "layOut", "(LMarketRings$Tape;)V"⟩
abbrev cX0_clearAway : ByteArray := prog_2_method_3_code
def yX0_clearAway : MethodName := ⟨RX0, "clearAway", "()V"⟩
abbrev cX0_takeFrom : ByteArray := prog_2_method_4_code
def yX0_takeFrom : MethodName := ⟨RX0, "takeFrom", "(LMarketRings$Land;)V"⟩
abbrev cX0_placeOf : ByteArray := prog_2_method_5_code
def yX0_placeOf : MethodName := ⟨RX0, "placeOf", "(I)I"⟩
abbrev cX0_beside : ByteArray := prog_2_method_6_code
def yX0_beside : MethodName := ⟨RX0, "beside", "(II)I"⟩
abbrev cX0_sideTowards : ByteArray := prog_2_method_7_code
def yX0_sideTowards : MethodName := ⟨RX0, "sideTowards", "(II)I"⟩
abbrev cX0_roadAt : ByteArray := prog_2_method_8_code
def yX0_roadAt : MethodName := ⟨RX0, "roadAt", "(II)I"⟩
abbrev cX0_layRoad : ByteArray := prog_2_method_9_code
def yX0_layRoad : MethodName := ⟨RX0, "layRoad", "(III)V"⟩
abbrev cX0_marketOn : ByteArray := prog_2_method_10_code
def yX0_marketOn : MethodName := ⟨RX0, "marketOn", "(I)I"⟩
abbrev cX0_idleAcres : ByteArray := prog_2_method_11_code
def yX0_idleAcres : MethodName := ⟨RX0, "idleAcres", "()I"⟩
def RX1 : String := "MarketRings$Offers"
def TX1 : u_T := fun k => match k with
  | 0 => ("MarketRings$Offers", "world", "LMarketRings$World;", true)
  | 1 => ("MarketRings$Offers", "ways", "LMarketRings$Ways;", true)
  | 2 => ("MarketRings$Offers", "bids", "[J", true)
  | 3 => ("MarketRings$Offers", "takers", "[I", true)
  | 4 => ("MarketRings$Offers", "land", "LMarketRings$Land;", true)
  | 5 => ("MarketRings$Offers", "uses", "LMarketRings$Uses;", true)
  | 6 => ("MarketRings$Offers", "waysKnown", "Z", false)
  | _ => ("MarketRings$Offers", "bidsKnown", "Z", false)
def tyX1 : Nat → FieldType := fun k => match k with
  | 0 => .object "MarketRings$World"
  | 1 => .object "MarketRings$Ways"
  | 2 => .array .long
  | 3 => .array .int
  | 4 => .object "MarketRings$Land"
  | 5 => .object "MarketRings$Uses"
  | 6 => .boolean
  | _ => .boolean
abbrev wsX10 : List Cond := u_ws RX1 TX1 8
theorem nmX1 : ∀ a, a < 8 → ∀ b, b < 8 → a ≠ b → (TX1 a).2.1 ≠ (TX1 b).2.1 := by decide +kernel
theorem tyX1_ok : ∀ k, k < 8 → parseFieldDescriptor (TX1 k).2.2.1 = some (tyX1 k) := by decide +kernel
abbrev cX1_init : ByteArray := prog_3_method_1_code
def yX1_init : MethodName := ⟨RX1, "<init>", "()V"⟩
abbrev cX1_forgetWays : ByteArray := prog_3_method_2_code
def yX1_forgetWays : MethodName := ⟨RX1, "forgetWays", "()V"⟩
abbrev cX1_forgetBids : ByteArray := prog_3_method_3_code
def yX1_forgetBids : MethodName := ⟨RX1, "forgetBids", "()V"⟩
abbrev cX1_settle : ByteArray := prog_3_method_4_code
def yX1_settle : MethodName := ⟨RX1, "settle", "()V"⟩
abbrev cX1_reckonBids : ByteArray := prog_3_method_5_code
def yX1_reckonBids : MethodName := ⟨RX1, "reckonBids", "()V"⟩
abbrev cX1_reckonOffer : ByteArray := prog_3_method_6_code
def yX1_reckonOffer : MethodName := ⟨RX1, "reckonOffer", "(I)V"⟩
abbrev cX1_wayOf : ByteArray := prog_3_method_7_code
def yX1_wayOf : MethodName := ⟨RX1, "wayOf", "(II)I"⟩
abbrev cX1_takerOf : ByteArray := prog_3_method_8_code
def yX1_takerOf : MethodName := ⟨RX1, "takerOf", "(I)I"⟩
abbrev cX1_greatest : ByteArray := prog_3_method_9_code
def yX1_greatest : MethodName := ⟨RX1, "greatest", "(II)I"⟩
abbrev cX1_rentAt : ByteArray := prog_3_method_10_code
def yX1_rentAt : MethodName := ⟨RX1, "rentAt", "(I)J"⟩
abbrev cX1_rentBy : ByteArray := prog_3_method_11_code
def yX1_rentBy : MethodName := ⟨RX1, "rentBy", "(II)J"⟩
abbrev cX1_allRents : ByteArray := prog_3_method_12_code
def yX1_allRents : MethodName := ⟨RX1, "allRents", "()J"⟩
abbrev cX1_rentsOf : ByteArray := prog_3_method_13_code
def yX1_rentsOf : MethodName := ⟨RX1, "rentsOf", "(I)J"⟩
abbrev cX1_isTakenBy : ByteArray := prog_3_method_15_code
def yX1_isTakenBy : MethodName := ⟨RX1, "isTakenBy", "(II)Z"⟩
abbrev cX1_wasteAcres : ByteArray := prog_3_method_19_code
def yX1_wasteAcres : MethodName := ⟨RX1, "wasteAcres", "()I"⟩
abbrev cX1_fallingWaste : ByteArray := prog_3_method_20_code
def yX1_fallingWaste : MethodName := ⟨RX1, "fallingWaste", "(II)I"⟩
def RX2 : String := "MarketRings$Plans"
def TX2 : u_T := fun k => match k with
  | 0 => ("MarketRings$Plans", "number", "I", false)
  | 1 => ("MarketRings$Plans", "places", "[I", true)
  | 2 => ("MarketRings$Plans", "sides", "[I", true)
  | 3 => ("MarketRings$Plans", "kinds", "[I", true)
  | _ => ("MarketRings$Plans", "costs", "[I", true)
def tyX2 : Nat → FieldType := fun k => match k with
  | 0 => .int
  | 1 => .array .int
  | 2 => .array .int
  | 3 => .array .int
  | _ => .array .int
abbrev wsX20 : List Cond := u_ws RX2 TX2 5
theorem nmX2 : ∀ a, a < 5 → ∀ b, b < 5 → a ≠ b → (TX2 a).2.1 ≠ (TX2 b).2.1 := by decide +kernel
theorem tyX2_ok : ∀ k, k < 5 → parseFieldDescriptor (TX2 k).2.2.1 = some (tyX2 k) := by decide +kernel
abbrev cX2_init : ByteArray := prog_4_method_1_code
def yX2_init : MethodName := ⟨RX2, "<init>", "()V"⟩
abbrev cX2_takeFrom : ByteArray := prog_4_method_3_code
def yX2_takeFrom : MethodName := ⟨RX2, "takeFrom", "(LMarketRings$Plans;)V"⟩
def RX3 : String := "MarketRings$Rings"
def TX3 : u_T := fun k => match k with
  | 0 => ("MarketRings$Rings", "homes", "[J", true)
  | 1 => ("MarketRings$Rings", "slopes", "[J", true)
  | 2 => ("MarketRings$Rings", "cutsAbove", "[J", true)
  | 3 => ("MarketRings$Rings", "cutsBelow", "[J", true)
  | 4 => ("MarketRings$Rings", "cuts", "I", false)
  | 5 => ("MarketRings$Rings", "number", "I", false)
  | 6 => ("MarketRings$Rings", "takers", "[I", true)
  | 7 => ("MarketRings$Rings", "endsAbove", "[J", true)
  | _ => ("MarketRings$Rings", "endsBelow", "[J", true)
def tyX3 : Nat → FieldType := fun k => match k with
  | 0 => .array .long
  | 1 => .array .long
  | 2 => .array .long
  | 3 => .array .long
  | 4 => .int
  | 5 => .int
  | 6 => .array .int
  | 7 => .array .long
  | _ => .array .long
abbrev wsX30 : List Cond := u_ws RX3 TX3 9
theorem nmX3 : ∀ a, a < 9 → ∀ b, b < 9 → a ≠ b → (TX3 a).2.1 ≠ (TX3 b).2.1 := by decide +kernel
theorem tyX3_ok : ∀ k, k < 9 → parseFieldDescriptor (TX3 k).2.2.1 = some (tyX3 k) := by decide +kernel
abbrev cX3_init : ByteArray := prog_5_method_1_code
def yX3_init : MethodName := ⟨RX3, "<init>", "()V"⟩
def RX4 : String := "MarketRings$Row"
def TX4 : u_T := fun k => match k with
  | 0 => ("MarketRings$Row", "bytes", "[I", true)
  | _ => ("MarketRings$Row", "length", "I", false)
def tyX4 : Nat → FieldType := fun k => match k with
  | 0 => .array .int
  | _ => .int
abbrev wsX40 : List Cond := u_ws RX4 TX4 2
theorem nmX4 : ∀ a, a < 2 → ∀ b, b < 2 → a ≠ b → (TX4 a).2.1 ≠ (TX4 b).2.1 := by decide +kernel
theorem tyX4_ok : ∀ k, k < 2 → parseFieldDescriptor (TX4 k).2.2.1 = some (tyX4 k) := by decide +kernel
abbrev cX4_init : ByteArray := prog_6_method_1_code
def yX4_init : MethodName := ⟨RX4, "<init>", "()V"⟩
def RX5 : String := "MarketRings$Tape"
def TX5 : u_T := fun k => match k with
  | 0 => ("MarketRings$Tape", "bytes", "[I", true)
  | _ => ("MarketRings$Tape", "length", "I", false)
def tyX5 : Nat → FieldType := fun k => match k with
  | 0 => .array .int
  | _ => .int
abbrev wsX50 : List Cond := u_ws RX5 TX5 2
theorem nmX5 : ∀ a, a < 2 → ∀ b, b < 2 → a ≠ b → (TX5 a).2.1 ≠ (TX5 b).2.1 := by decide +kernel
theorem tyX5_ok : ∀ k, k < 2 → parseFieldDescriptor (TX5 k).2.2.1 = some (tyX5 k) := by decide +kernel
abbrev cX5_init : ByteArray := prog_7_method_1_code
def yX5_init : MethodName := ⟨RX5, "<init>", "()V"⟩
abbrev cX5_append : ByteArray := prog_7_method_2_code
def yX5_append : MethodName := ⟨RX5, "append", "(IJ)V"⟩
abbrev cX5_firstFault : ByteArray := prog_7_method_3_code
def yX5_firstFault : MethodName := ⟨RX5, "firstFault", "()I"⟩
abbrev cX5_isDigit : ByteArray := prog_7_method_4_code
def yX5_isDigit : MethodName := ⟨RX5, "isDigit", "(I)Z"⟩
def RX6 : String := "MarketRings$Trade"
def TX6 : u_T := fun k => match k with
  | 0 => ("MarketRings$Trade", "leastPrices", "[I", true)
  | 1 => ("MarketRings$Trade", "yields", "[I", true)
  | 2 => ("MarketRings$Trade", "savedPrices", "[I", true)
  | _ => ("MarketRings$Trade", "savedBids", "[J", true)
def tyX6 : Nat → FieldType := fun k => match k with
  | 0 => .array .int
  | 1 => .array .int
  | 2 => .array .int
  | _ => .array .long
abbrev wsX60 : List Cond := u_ws RX6 TX6 4
theorem nmX6 : ∀ a, a < 4 → ∀ b, b < 4 → a ≠ b → (TX6 a).2.1 ≠ (TX6 b).2.1 := by decide +kernel
theorem tyX6_ok : ∀ k, k < 4 → parseFieldDescriptor (TX6 k).2.2.1 = some (tyX6 k) := by decide +kernel
abbrev cX6_init : ByteArray := prog_8_method_1_code
def yX6_init : MethodName := ⟨RX6, "<init>", "()V"⟩
abbrev cX6_clearingPrice : ByteArray := prog_8_method_2_code
def yX6_clearingPrice : MethodName := ⟨RX6, "clearingPrice", "(LMarketRings$Offers;I)I"⟩
abbrev cX6_comingAt : ByteArray := prog_8_method_3_code
def yX6_comingAt : MethodName := ⟨RX6, "comingAt", "(II)I"⟩
abbrev cX6_leastPriceFor : ByteArray := prog_8_method_4_code
def yX6_leastPriceFor : MethodName := ⟨RX6, "leastPriceFor", "(LMarketRings$Offers;II)I"⟩
abbrev cX6_runRounds : ByteArray := prog_8_method_5_code
def yX6_runRounds : MethodName := ⟨RX6, "runRounds", "(LMarketRings$Offers;I)I"⟩
abbrev cX6_runRound : ByteArray := prog_8_method_6_code
def yX6_runRound : MethodName := ⟨RX6, "runRound", "(LMarketRings$Offers;)Z"⟩
abbrev cX6_bestToHold : ByteArray := prog_8_method_7_code
def yX6_bestToHold : MethodName := ⟨RX6, "bestToHold", "(LMarketRings$Offers;I)I"⟩
abbrev cX6_rentsAfterRound : ByteArray := prog_8_method_8_code
def yX6_rentsAfterRound : MethodName := ⟨RX6, "rentsAfterRound", "(LMarketRings$Offers;I)J"⟩
def RX7 : String := "MarketRings$Uses"
def TX7 : u_T := fun k => match k with
  | 0 => ("MarketRings$Uses", "number", "I", false)
  | 1 => ("MarketRings$Uses", "rentTax", "I", false)
  | 2 => ("MarketRings$Uses", "kinds", "[I", true)
  | 3 => ("MarketRings$Uses", "bases", "[I", true)
  | 4 => ("MarketRings$Uses", "mores", "[I", true)
  | 5 => ("MarketRings$Uses", "costs", "[I", true)
  | 6 => ("MarketRings$Uses", "fares", "[I", true)
  | 7 => ("MarketRings$Uses", "taxes", "[I", true)
  | 8 => ("MarketRings$Uses", "years", "[I", true)
  | 9 => ("MarketRings$Uses", "yearSums", "[I", true)
  | 10 => ("MarketRings$Uses", "prices", "[I", true)
  | 11 => ("MarketRings$Uses", "pieces", "[I", true)
  | 12 => ("MarketRings$Uses", "pieceMuch", "[I", true)
  | _ => ("MarketRings$Uses", "piecePrices", "[I", true)
def tyX7 : Nat → FieldType := fun k => match k with
  | 0 => .int
  | 1 => .int
  | 2 => .array .int
  | 3 => .array .int
  | 4 => .array .int
  | 5 => .array .int
  | 6 => .array .int
  | 7 => .array .int
  | 8 => .array .int
  | 9 => .array .int
  | 10 => .array .int
  | 11 => .array .int
  | 12 => .array .int
  | _ => .array .int
abbrev wsX70 : List Cond := u_ws RX7 TX7 14
theorem nmX7 : ∀ a, a < 14 → ∀ b, b < 14 → a ≠ b → (TX7 a).2.1 ≠ (TX7 b).2.1 := by decide +kernel
theorem tyX7_ok : ∀ k, k < 14 → parseFieldDescriptor (TX7 k).2.2.1 = some (tyX7 k) := by decide +kernel
abbrev cX7_init : ByteArray := prog_9_method_1_code
def yX7_init : MethodName := ⟨RX7, "<init>", "()V"⟩
abbrev cX7_append : ByteArray := prog_9_method_2_code
def yX7_append : MethodName := ⟨RX7, "append", "(IIIII)I"⟩
abbrev cX7_appendPiece : ByteArray := prog_9_method_3_code
def yX7_appendPiece : MethodName := ⟨RX7, "appendPiece", "(III)V"⟩
abbrev cX7_takeFrom : ByteArray := prog_9_method_4_code
def yX7_takeFrom : MethodName := ⟨RX7, "takeFrom", "(LMarketRings$Uses;)V"⟩
abbrev cX7_yieldOn : ByteArray := prog_9_method_5_code
def yX7_yieldOn : MethodName := ⟨RX7, "yieldOn", "(II)I"⟩
abbrev cX7_reckonedPrice : ByteArray := prog_9_method_6_code
def yX7_reckonedPrice : MethodName := ⟨RX7, "reckonedPrice", "(I)I"⟩
abbrev cX7_payAtHome : ByteArray := prog_9_method_7_code
def yX7_payAtHome : MethodName := ⟨RX7, "payAtHome", "(II)J"⟩
abbrev cX7_carriage : ByteArray := prog_9_method_8_code
def yX7_carriage : MethodName := ⟨RX7, "carriage", "(II)J"⟩
abbrev cX7_canGo : ByteArray := prog_9_method_9_code
def yX7_canGo : MethodName := ⟨RX7, "canGo", "(II)Z"⟩
abbrev cX7_boughtAt : ByteArray := prog_9_method_10_code
def yX7_boughtAt : MethodName := ⟨RX7, "boughtAt", "(II)I"⟩
def RX8 : String := "MarketRings$Ways"
def TX8 : u_T := fun k => match k with
  | 0 => ("MarketRings$Ways", "byRoad", "[I", true)
  | 1 => ("MarketRings$Ways", "onFoot", "[I", true)
  | 2 => ("MarketRings$Ways", "asked", "[I", true)
  | 3 => ("MarketRings$Ways", "next", "[I", true)
  | 4 => ("MarketRings$Ways", "roadFees", "[I", true)
  | _ => ("MarketRings$Ways", "footFees", "[I", true)
def tyX8 : Nat → FieldType := fun k => match k with
  | 0 => .array .int
  | 1 => .array .int
  | 2 => .array .int
  | 3 => .array .int
  | 4 => .array .int
  | _ => .array .int
abbrev wsX80 : List Cond := u_ws RX8 TX8 6
theorem nmX8 : ∀ a, a < 6 → ∀ b, b < 6 → a ≠ b → (TX8 a).2.1 ≠ (TX8 b).2.1 := by decide +kernel
theorem tyX8_ok : ∀ k, k < 6 → parseFieldDescriptor (TX8 k).2.2.1 = some (tyX8 k) := by decide +kernel
abbrev cX8_init : ByteArray := prog_10_method_1_code
def yX8_init : MethodName := ⟨RX8, "<init>", "()V"⟩
abbrev cX8_reckonFoot : ByteArray := prog_10_method_2_code
def yX8_reckonFoot : MethodName := ⟨RX8, "reckonFoot", "(LMarketRings$Land;)V"⟩
abbrev cX8_reckonRoads : ByteArray := prog_10_method_3_code
def yX8_reckonRoads : MethodName := ⟨RX8, "reckonRoads", "(LMarketRings$Land;)V"⟩
abbrev cX8_search : ByteArray := prog_10_method_5_code
def yX8_search : MethodName := ⟨RX8, "search", "(II[I[II)V"⟩
abbrev cX8_leastFrom : ByteArray := prog_10_method_6_code
def yX8_leastFrom : MethodName := ⟨RX8, "leastFrom", "(I[I[II)I"⟩
def RX9 : String := "MarketRings$Works"
def TX9 : u_T := fun k => match k with
  | _ => ("MarketRings$Works", "rentsBefore", "[J", true)
def tyX9 : Nat → FieldType := fun k => match k with
  | _ => .array .long
abbrev wsX90 : List Cond := u_ws RX9 TX9 1
theorem nmX9 : ∀ a, a < 1 → ∀ b, b < 1 → a ≠ b → (TX9 a).2.1 ≠ (TX9 b).2.1 := by decide +kernel
theorem tyX9_ok : ∀ k, k < 1 → parseFieldDescriptor (TX9 k).2.2.1 = some (tyX9 k) := by decide +kernel
abbrev cX9_init : ByteArray := prog_11_method_1_code
def yX9_init : MethodName := ⟨RX9, "<init>", "()V"⟩
def RX10 : String := "MarketRings$World"
def TX10 : u_T := fun k => match k with
  | 0 => ("MarketRings$World", "land", "LMarketRings$Land;", true)
  | 1 => ("MarketRings$World", "uses", "LMarketRings$Uses;", true)
  | _ => ("MarketRings$World", "plans", "LMarketRings$Plans;", true)
def tyX10 : Nat → FieldType := fun k => match k with
  | 0 => .object "MarketRings$Land"
  | 1 => .object "MarketRings$Uses"
  | _ => .object "MarketRings$Plans"
abbrev wsX100 : List Cond := u_ws RX10 TX10 3
theorem nmX10 : ∀ a, a < 3 → ∀ b, b < 3 → a ≠ b → (TX10 a).2.1 ≠ (TX10 b).2.1 := by decide +kernel
theorem tyX10_ok : ∀ k, k < 3 → parseFieldDescriptor (TX10 k).2.2.1 = some (tyX10 k) := by decide +kernel
abbrev cX10_init : ByteArray := prog_12_method_1_code
def yX10_init : MethodName := ⟨RX10, "<init>", "()V"⟩
abbrev cX10_takeFrom : ByteArray := prog_12_method_2_code
def yX10_takeFrom : MethodName := ⟨RX10, "takeFrom", "(LMarketRings$World;)V"⟩
def RX11 : String := "MarketRings"
def TX11 : u_T := fun k => match k with
  | 0 => ("MarketRings", "tape", "LMarketRings$Tape;", true)
  | 1 => ("MarketRings", "row", "LMarketRings$Row;", true)
  | 2 => ("MarketRings", "offers", "LMarketRings$Offers;", true)
  | 3 => ("MarketRings", "world", "LMarketRings$World;", true)
  | 4 => ("MarketRings", "land", "LMarketRings$Land;", true)
  | 5 => ("MarketRings", "uses", "LMarketRings$Uses;", true)
  | 6 => ("MarketRings", "plans", "LMarketRings$Plans;", true)
  | 7 => ("MarketRings", "kept", "LMarketRings$World;", true)
  | 8 => ("MarketRings", "isKept", "Z", false)
  | 9 => ("MarketRings", "trade", "LMarketRings$Trade;", true)
  | 10 => ("MarketRings", "works", "LMarketRings$Works;", true)
  | 11 => ("MarketRings", "rings", "LMarketRings$Rings;", true)
  | _ => ("MarketRings", "refusals", "[I", true)
def tyX11 : Nat → FieldType := fun k => match k with
  | 0 => .object "MarketRings$Tape"
  | 1 => .object "MarketRings$Row"
  | 2 => .object "MarketRings$Offers"
  | 3 => .object "MarketRings$World"
  | 4 => .object "MarketRings$Land"
  | 5 => .object "MarketRings$Uses"
  | 6 => .object "MarketRings$Plans"
  | 7 => .object "MarketRings$World"
  | 8 => .boolean
  | 9 => .object "MarketRings$Trade"
  | 10 => .object "MarketRings$Works"
  | 11 => .object "MarketRings$Rings"
  | _ => .array .int
abbrev wsX110 : List Cond := u_ws RX11 TX11 13
theorem nmX11 : ∀ a, a < 13 → ∀ b, b < 13 → a ≠ b → (TX11 a).2.1 ≠ (TX11 b).2.1 := by decide +kernel
theorem tyX11_ok : ∀ k, k < 13 → parseFieldDescriptor (TX11 k).2.2.1 = some (tyX11 k) := by decide +kernel
abbrev cX11_init : ByteArray := prog_1_method_1_code
def yX11_init : MethodName := ⟨RX11, "<init>", "()V"⟩
abbrev cX11_feed : ByteArray := prog_1_method_2_code
def yX11_feed : MethodName := ⟨RX11, "feed", "(IJ)I"⟩
abbrev cX11_read : ByteArray := prog_1_method_3_code
def yX11_read : MethodName := ⟨RX11, "read", "()I"⟩
abbrev cX11_acre : ByteArray := prog_1_method_4_code
def yX11_acre : MethodName := ⟨RX11, "acre", "(II)I"⟩
abbrev cX11_road : ByteArray := prog_1_method_5_code
def yX11_road : MethodName := ⟨RX11, "road", "(III)I"⟩
abbrev cX11_toll : ByteArray := prog_1_method_7_code
def yX11_toll : MethodName := ⟨RX11, "toll", "(II)I"⟩
abbrev cX11_market : ByteArray := prog_1_method_9_code
def yX11_market : MethodName := ⟨RX11, "market", "(I)I"⟩
abbrev cX11_use : ByteArray := prog_1_method_10_code
def yX11_use : MethodName := ⟨RX11, "use", "(IIIII)I"⟩
abbrev cX11_year : ByteArray := prog_1_method_11_code
def yX11_year : MethodName := ⟨RX11, "year", "(II)I"⟩
abbrev cX11_price : ByteArray := prog_1_method_12_code
def yX11_price : MethodName := ⟨RX11, "price", "(III)I"⟩
abbrev cX11_tax : ByteArray := prog_1_method_13_code
def yX11_tax : MethodName := ⟨RX11, "tax", "(II)I"⟩
abbrev cX11_rentTax : ByteArray := prog_1_method_14_code
def yX11_rentTax : MethodName := ⟨RX11, "rentTax", "(I)I"⟩
abbrev cX11_goes : ByteArray := prog_1_method_16_code
def yX11_goes : MethodName := ⟨RX11, "goes", "(II)I"⟩
abbrev cX11_rent : ByteArray := prog_1_method_17_code
def yX11_rent : MethodName := ⟨RX11, "rent", "(I)J"⟩
abbrev cX11_piece : ByteArray := prog_1_method_19_code
def yX11_piece : MethodName := ⟨RX11, "piece", "(IIII)I"⟩
abbrev cX11_rounds : ByteArray := prog_1_method_22_code
def yX11_rounds : MethodName := ⟨RX11, "rounds", "(I)I"⟩
abbrev cX11_falls : ByteArray := prog_1_method_33_code
def yX11_falls : MethodName := ⟨RX11, "falls", "(II)I"⟩
abbrev cX11_own : ByteArray := prog_1_method_34_code
def yX11_own : MethodName := ⟨RX11, "own", "(II)I"⟩
abbrev cX11_held : ByteArray := prog_1_method_35_code
def yX11_held : MethodName := ⟨RX11, "held", "(IZ)I"⟩
abbrev cX11_hold : ByteArray := prog_1_method_36_code
def yX11_hold : MethodName := ⟨RX11, "hold", "(I)I"⟩
abbrev cX11_image : ByteArray := prog_1_method_39_code
def yX11_image : MethodName := ⟨RX11, "image", "()I"⟩
abbrev cX11_on : ByteArray := prog_1_method_40_code
def yX11_on : MethodName := ⟨RX11, "on", "()I"⟩
abbrev cX11_count : ByteArray := prog_1_method_41_code
def yX11_count : MethodName := ⟨RX11, "count", "(I)I"⟩
abbrev cX11_refuse : ByteArray := prog_1_method_42_code
def yX11_refuse : MethodName := ⟨RX11, "refuse", "(I)I"⟩
abbrev cX11_refuseLong : ByteArray := prog_1_method_43_code
def yX11_refuseLong : MethodName := ⟨RX11, "refuseLong", "(I)J"⟩
abbrev cX11_unfit : ByteArray := prog_1_method_44_code
def yX11_unfit : MethodName := ⟨RX11, "unfit", "(III)I"⟩
abbrev cX11_isNoUse : ByteArray := prog_1_method_45_code
def yX11_isNoUse : MethodName := ⟨RX11, "isNoUse", "(I)Z"⟩
abbrev cX11_isNoMarket : ByteArray := prog_1_method_46_code
def yX11_isNoMarket : MethodName := ⟨RX11, "isNoMarket", "(I)Z"⟩
abbrev cX11_offerOf : ByteArray := prog_1_method_47_code
def yX11_offerOf : MethodName := ⟨RX11, "offerOf", "(II)I"⟩
def RX12 : String := "MarketRingsModel"
def TX12 : u_T := fun k => match k with
  | _ => ("", "", "", false)
def tyX12 : Nat → FieldType := fun k => match k with
  | _ => .int
abbrev wsX120 : List Cond := u_ws RX12 TX12 0
theorem nmX12 : ∀ a, a < 0 → ∀ b, b < 0 → a ≠ b → (TX12 a).2.1 ≠ (TX12 b).2.1 := by decide +kernel
theorem tyX12_ok : ∀ k, k < 0 → parseFieldDescriptor (TX12 k).2.2.1 = some (tyX12 k) := by decide +kernel
def RJ9 : String := "java/lang/Math"
def TJ9 : u_T := fun k => match k with
  | _ => ("", "", "", false)
def tyJ9 : Nat → FieldType := fun k => match k with
  | _ => .int
abbrev wsJ90 : List Cond := u_ws RJ9 TJ9 0
theorem nmJ9 : ∀ a, a < 0 → ∀ b, b < 0 → a ≠ b → (TJ9 a).2.1 ≠ (TJ9 b).2.1 := by decide +kernel
theorem tyJ9_ok : ∀ k, k < 0 → parseFieldDescriptor (TJ9 k).2.2.1 = some (tyJ9 k) := by decide +kernel
abbrev cJ9_floorDiv_f86c9 : ByteArray := prog_15_method_49_code
def yJ9_floorDiv_f86c9 : MethodName := ⟨RJ9, "floorDiv", "(JJ)J"⟩
abbrev cJ9_max_f86c9 : ByteArray := prog_15_method_66_code
def yJ9_max_f86c9 : MethodName := ⟨RJ9, "max", "(JJ)J"⟩
abbrev cJ9_min_f86c9 : ByteArray := prog_15_method_70_code
def yJ9_min_f86c9 : MethodName := ⟨RJ9, "min", "(JJ)J"⟩
def RJ10 : String := "java/lang/System"
def TJ10 : u_T := fun k => match k with
  | _ => ("", "", "", false)
def tyJ10 : Nat → FieldType := fun k => match k with
  | _ => .int
abbrev wsJ100 : List Cond := u_ws RJ10 TJ10 0
theorem nmJ10 : ∀ a, a < 0 → ∀ b, b < 0 → a ≠ b → (TJ10 a).2.1 ≠ (TJ10 b).2.1 := by decide +kernel
theorem tyJ10_ok : ∀ k, k < 0 → parseFieldDescriptor (TJ10 k).2.2.1 = some (tyJ10 k) := by decide +kernel
def RL : String := "MarketRingsLaw"
abbrev cL_cell : ByteArray := method_2_code
def yL_cell : MethodName := ⟨RL, "cell", "([II)I"⟩
abbrev cL_pick : ByteArray := method_3_code
def yL_pick : MethodName := ⟨RL, "pick", "(II)I"⟩
abbrev cL_cellOf : ByteArray := method_4_code
def yL_cellOf : MethodName := ⟨RL, "cellOf", "(II)I"⟩
abbrev cL_land : ByteArray := method_5_code
def yL_land : MethodName := ⟨RL, "land", "(LMarketRings;[I)I"⟩
abbrev cL_law : ByteArray := code
def yL_law : MethodName := ⟨RL, "law", "([I)Z"⟩
abbrev vwCl : List vw_C := [(RX0, TX0, 13), (RX1, TX1, 8), (RX2, TX2, 5), (RX3, TX3, 9), (RX4, TX4, 2), (RX5, TX5, 2), (RX6, TX6, 4), (RX7, TX7, 14), (RX8, TX8, 6), (RX9, TX9, 1), (RX10, TX10, 3), (RX11, TX11, 13)]
end
section
/-! A SMALL MACHINE OVER NUMBERS: ints and longs are numbers of Int (a guard asks that they stay in their range), cells have numbers (0: the script), a heap is a function.
What a piece of code must show is a proposition, reckoned by recursion over the code (mv_body: one instruction; mv_vc: up to a cut, a call, an end). -/
/-- a value: an int, a long, a cell's number -/
abbrev mv_V : Type := Int ⊕ (Int ⊕ Nat)
/-- what the cells hold: cell, slot -/
abbrev mv_Mem : Type := Nat → Nat → Int
/-- how many cells there are, how many slots; each cell's tag (class, or 100 ints, 101 longs, 102 booleans), length, references -/
abbrev mv_SH : Type := Nat × Nat × (Nat → Nat) × (Nat → Nat) × (Nat → Nat → Nat)
abbrev mv_L : Type := List (Nat × mv_V)
/-- an instruction: its place, its length, its kind, three numbers, a constant, a list of places -/
abbrev mv_E : Type := Nat × Nat × Instr × Nat × Nat × Nat × Int × List Nat
abbrev mv_R32 (x : Int) : Prop := -2147483648 ≤ x ∧ x ≤ 2147483647
abbrev mv_R64 (x : Int) : Prop := -9223372036854775808 ≤ x ∧ x ≤ 9223372036854775807
def mv_up (M : mv_Mem) (a j : Nat) (v : Int) : mv_Mem := fun k i => if k = a ∧ i = j then v else M k i
def mv_cp (M : mv_Mem) (src sp dst dp n : Nat) : mv_Mem := fun k i => if k = dst ∧ dp ≤ i ∧ i < dp + n then M src (sp + (i - dp)) else M k i
def mv_lg (a : Nat) : mv_L → Option mv_V
  | [] => none
  | q :: r => if q.1 = a then some q.2 else mv_lg a r
def mv_isL : mv_V → Bool
  | .inr (.inl _) => true
  | _ => false
def mv_st1 (a : Nat) (v : mv_V) (L : mv_L) : mv_L := (a, v) :: L.filter (fun q => !(q.1 == a) && !(q.1 + 1 == a && mv_isL q.2))
def mv_st2 (a : Nat) (x : Int) (L : mv_L) : mv_L := (a, .inr (.inl x)) :: L.filter (fun q => !(q.1 == a) && (!(q.1 == a + 1) && !(q.1 + 1 == a && mv_isL q.2)))
def mv_stw (st : List mv_V) : Nat := (st.map fun v => if mv_isL v then 2 else 1).sum
def mv_and (x y : Int) : Int := (Int32.ofInt x &&& Int32.ofInt y).toInt
def mv_xor (x y : Int) : Int := (Int32.ofInt x ^^^ Int32.ofInt y).toInt
def mv_shl (x y : Int) : Int := (Int32.ofInt x <<< (Int32.ofInt y &&& 31)).toInt
def mv_shr (x y : Int) : Int := (Int32.ofInt x >>> (Int32.ofInt y &&& 31)).toInt
def mv_land (x y : Int) : Int := (Int64.ofInt x &&& Int64.ofInt y).toInt
def mv_lor (x y : Int) : Int := (Int64.ofInt x ||| Int64.ofInt y).toInt
def mv_lxor (x y : Int) : Int := (Int64.ofInt x ^^^ Int64.ofInt y).toInt
def mv_lshl (x y : Int) : Int := (Int64.ofInt x <<< ((Int32.ofInt y).toInt64 &&& 63)).toInt
def mv_lshr (x y : Int) : Int := (Int64.ofInt x >>> ((Int32.ofInt y).toInt64 &&& 63)).toInt
def mv_lushr (x y : Int) : Int := ((Int64.ofInt x).toUInt64 >>> (((Int32.ofInt y).toInt64).toUInt64 &&& Int64.toUInt64 63)).toInt64.toInt
def mv_cmp (x y : Int) : Int := if y < x then 1 else if x = y then 0 else -1
/-- a number, a long, a cell on top of the stack -/
def mv_pi (st : List mv_V) (k : Int → List mv_V → Prop) : Prop := match st with
  | .inl x :: r => k x r
  | _ => False
def mv_pl (st : List mv_V) (k : Int → List mv_V → Prop) : Prop := match st with
  | .inr (.inl x) :: r => k x r
  | _ => False
def mv_pr (st : List mv_V) (k : Nat → List mv_V → Prop) : Prop := match st with
  | .inr (.inr x) :: r => k x r
  | _ => False
def mv_sw (jump : Nat → Prop) (x : Int) (d : Nat) : Int → List Nat → Prop
  | _, [] => jump d
  | lo, t :: ts => if x = lo then jump t else mv_sw jump x d (lo + 1) ts
def mv_cd (c : Jvm.ClassFile.Cond) (x y : Int) (A B : Prop) : Prop := match c with
  | .eq => if x = y then A else B
  | .ne => if x = y then B else A
  | .lt => if x < y then A else B
  | .ge => if y ≤ x then A else B
  | .gt => if y < x then A else B
  | .le => if x ≤ y then A else B
def mv_nwA (sh : mv_SH) (a : Nat) (n : Nat) : mv_SH := (sh.1 + 1, sh.2.1 + n, (fun k => if k = sh.1 + 1 then a else sh.2.2.1 k), (fun k => if k = sh.1 + 1 then n else sh.2.2.2.1 k), sh.2.2.2.2)
def mv_nwO (sh : mv_SH) (a : Nat) (n : Nat) : mv_SH := (sh.1 + 1, sh.2.1 + n, (fun k => if k = sh.1 + 1 then a else sh.2.2.1 k), sh.2.2.2.1, (fun k f => if k = sh.1 + 1 then 0 else sh.2.2.2.2 k f))
def mv_nwM (sh : mv_SH) (M : mv_Mem) : mv_Mem := fun k i => if k = sh.1 + 1 then 0 else M k i
def mv_rf (sh : mv_SH) (k b j : Nat) : mv_SH := (sh.1, sh.2.1, sh.2.2.1, sh.2.2.2.1, (fun k' f => if k' = k ∧ f = b then j else sh.2.2.2.2 k' f))
/-- what is asked of a call's end: the cells are as they were; an int, a long, nothing is answered -/
def mv_qi (sh : mv_SH) (F : Int → mv_Mem → Prop) : Option mv_V → mv_SH → mv_Mem → Prop := fun r sh' M' => sh' = sh ∧ ∃ x, r = some (.inl x) ∧ F x M'
def mv_ql (sh : mv_SH) (F : Int → mv_Mem → Prop) : Option mv_V → mv_SH → mv_Mem → Prop := fun r sh' M' => sh' = sh ∧ ∃ x, r = some (.inr (.inl x)) ∧ F x M'
def mv_qv (sh : mv_SH) (F : mv_Mem → Prop) : Option mv_V → mv_SH → mv_Mem → Prop := fun r sh' M' => sh' = sh ∧ r = none ∧ F M'
theorem mv_qi_i {sh : mv_SH} {F : Int → mv_Mem → Prop} {x : Int} {M : mv_Mem} (h : F x M) : mv_qi sh F (some (.inl x)) sh M := ⟨rfl, x, rfl, h⟩
theorem mv_ql_i {sh : mv_SH} {F : Int → mv_Mem → Prop} {x : Int} {M : mv_Mem} (h : F x M) : mv_ql sh F (some (.inr (.inl x))) sh M := ⟨rfl, x, rfl, h⟩
theorem mv_qv_i {sh : mv_SH} {F : mv_Mem → Prop} {M : mv_Mem} (h : F M) : mv_qv sh F none sh M := ⟨rfl, rfl, h⟩
/-- one instruction: call, next, jump, post: what is to hold of a call, of the next instruction, behind a jump, at the end -/
def mv_body (call : Nat → List mv_V → mv_SH → mv_Mem → (Option mv_V → mv_SH → mv_Mem → Prop) → Prop)
    (next : mv_L → List mv_V → mv_SH → mv_Mem → Prop) (jump : Nat → mv_L → List mv_V → mv_SH → mv_Mem → Prop)
    (post : Option mv_V → mv_SH → mv_Mem → Prop) (n0 s0 mc ms : Nat) (ni : Instr) (a b c : Nat) (v : Int) (ts : List Nat) (L : mv_L) (st : List mv_V) (sh : mv_SH) (M : mv_Mem) : Prop :=
  match ni with
  | .iconst _ => next L (.inl v :: st) sh M
  | .lconst _ => next L (.inr (.inl v) :: st) sh M
  | .iload _ => (match mv_lg a L with
    | some (.inl x) => next L (.inl x :: st) sh M
    | _ => False)
  | .lload _ => (match mv_lg a L with
    | some (.inr (.inl x)) => next L (.inr (.inl x) :: st) sh M
    | _ => False)
  | .aload _ => (match mv_lg a L with
    | some (.inr (.inr x)) => next L (.inr (.inr x) :: st) sh M
    | _ => False)
  | .istore _ => mv_pi st fun x r => next (mv_st1 a (.inl x) L) r sh M
  | .lstore _ => mv_pl st fun x r => next (mv_st2 a x L) r sh M
  | .astore _ => mv_pr st fun x r => next (mv_st1 a (.inr (.inr x)) L) r sh M
  | .iinc _ _ => (match mv_lg a L with
    | some (.inl x) => mv_R32 (x + v) ∧ next (mv_st1 a (.inl (x + v)) L) st sh M
    | _ => False)
  | .iadd => mv_pi st fun y r => mv_pi r fun x r => mv_R32 (x + y) ∧ next L (.inl (x + y) :: r) sh M
  | .isub => mv_pi st fun y r => mv_pi r fun x r => mv_R32 (x - y) ∧ next L (.inl (x - y) :: r) sh M
  | .imul => mv_pi st fun y r => mv_pi r fun x r => mv_R32 (x * y) ∧ next L (.inl (x * y) :: r) sh M
  | .idiv => mv_pi st fun y r => mv_pi r fun x r => (¬ y = 0 ∧ mv_R32 (x.tdiv y)) ∧ next L (.inl (x.tdiv y) :: r) sh M
  | .irem => mv_pi st fun y r => mv_pi r fun x r => ¬ y = 0 ∧ next L (.inl (x.tmod y) :: r) sh M
  | .ineg => mv_pi st fun x r => mv_R32 (-x) ∧ next L (.inl (-x) :: r) sh M
  | .iand => mv_pi st fun y r => mv_pi r fun x r => next L (.inl (mv_and x y) :: r) sh M
  | .ixor => mv_pi st fun y r => mv_pi r fun x r => next L (.inl (mv_xor x y) :: r) sh M
  | .ishl => mv_pi st fun y r => mv_pi r fun x r => next L (.inl (mv_shl x y) :: r) sh M
  | .ishr => mv_pi st fun y r => mv_pi r fun x r => next L (.inl (mv_shr x y) :: r) sh M
  | .ladd => mv_pl st fun y r => mv_pl r fun x r => mv_R64 (x + y) ∧ next L (.inr (.inl (x + y)) :: r) sh M
  | .lsub => mv_pl st fun y r => mv_pl r fun x r => mv_R64 (x - y) ∧ next L (.inr (.inl (x - y)) :: r) sh M
  | .lmul => mv_pl st fun y r => mv_pl r fun x r => mv_R64 (x * y) ∧ next L (.inr (.inl (x * y)) :: r) sh M
  | .ldiv => mv_pl st fun y r => mv_pl r fun x r => (¬ y = 0 ∧ mv_R64 (x.tdiv y)) ∧ next L (.inr (.inl (x.tdiv y)) :: r) sh M
  | .lrem => mv_pl st fun y r => mv_pl r fun x r => ¬ y = 0 ∧ next L (.inr (.inl (x.tmod y)) :: r) sh M
  | .lneg => mv_pl st fun x r => mv_R64 (-x) ∧ next L (.inr (.inl (-x)) :: r) sh M
  | .land => mv_pl st fun y r => mv_pl r fun x r => next L (.inr (.inl (mv_land x y)) :: r) sh M
  | .lor => mv_pl st fun y r => mv_pl r fun x r => next L (.inr (.inl (mv_lor x y)) :: r) sh M
  | .lxor => mv_pl st fun y r => mv_pl r fun x r => next L (.inr (.inl (mv_lxor x y)) :: r) sh M
  | .lshl => mv_pi st fun y r => mv_pl r fun x r => next L (.inr (.inl (mv_lshl x y)) :: r) sh M
  | .lshr => mv_pi st fun y r => mv_pl r fun x r => next L (.inr (.inl (mv_lshr x y)) :: r) sh M
  | .lushr => mv_pi st fun y r => mv_pl r fun x r => next L (.inr (.inl (mv_lushr x y)) :: r) sh M
  | .i2l => mv_pi st fun x r => next L (.inr (.inl x) :: r) sh M
  | .l2i => mv_pl st fun x r => mv_R32 x ∧ next L (.inl x :: r) sh M
  | .lcmp => mv_pl st fun y r => mv_pl r fun x r => next L (.inl (mv_cmp x y) :: r) sh M
  | .dup => (match st with
    | x :: r => if mv_isL x = false then next L (x :: x :: r) sh M else False
    | _ => False)
  | .dup2 => (match st with
    | y :: x :: r => if mv_isL x = false ∧ mv_isL y = false then next L (y :: x :: y :: x :: r) sh M else False
    | _ => False)
  | .pop => (match st with
    | x :: r => if mv_isL x = false then next L r sh M else False
    | _ => False)
  | .goto _ => jump a L st sh M
  | .ifCond k _ => mv_pi st fun x r => mv_cd k x 0 (jump a L r sh M) (next L r sh M)
  | .if_icmp k _ => mv_pi st fun y r => mv_pi r fun x r => mv_cd k x y (jump a L r sh M) (next L r sh M)
  | .tableswitch _ _ _ _ => mv_pi st fun x r => mv_sw (fun t => jump t L r sh M) x a v ts
  | .getfield _ => mv_pr st fun k r => if 1 ≤ k ∧ k ≤ sh.1 ∧ sh.2.2.1 k = a then
      (if c = 2 then (if 1 ≤ sh.2.2.2.2 k b then next L (.inr (.inr (sh.2.2.2.2 k b)) :: r) sh M else False) else next L (.inl (M k b) :: r) sh M) else False
  | .putfield _ => if c = 2 then (mv_pr st fun j r => mv_pr r fun k r => if 1 ≤ k ∧ k ≤ sh.1 ∧ sh.2.2.1 k = a ∧ 1 ≤ j ∧ j ≤ sh.1 then next L r (mv_rf sh k b j) M else False)
      else mv_pi st fun x r => mv_pr r fun k r => if 1 ≤ k ∧ k ≤ sh.1 ∧ sh.2.2.1 k = a then (if c = 1 then (x = 0 ∨ x = 1) ∧ next L r sh (mv_up M k b x) else next L r sh (mv_up M k b x)) else False
  | .iaload => mv_pi st fun i r => mv_pr r fun k r => if k ≤ sh.1 ∧ sh.2.2.1 k = 100 then (0 ≤ i ∧ i < (sh.2.2.2.1 k : Int)) ∧ next L (.inl (M k i.toNat) :: r) sh M else False
  | .laload => mv_pi st fun i r => mv_pr r fun k r => if 1 ≤ k ∧ k ≤ sh.1 ∧ sh.2.2.1 k = 101 then (0 ≤ i ∧ i < (sh.2.2.2.1 k : Int)) ∧ next L (.inr (.inl (M k i.toNat)) :: r) sh M else False
  | .baload => mv_pi st fun i r => mv_pr r fun k r => if 1 ≤ k ∧ k ≤ sh.1 ∧ sh.2.2.1 k = 102 then (0 ≤ i ∧ i < (sh.2.2.2.1 k : Int)) ∧ next L (.inl (M k i.toNat) :: r) sh M else False
  | .iastore => mv_pi st fun x r => mv_pi r fun i r => mv_pr r fun k r => if 1 ≤ k ∧ k ≤ sh.1 ∧ sh.2.2.1 k = 100 then (0 ≤ i ∧ i < (sh.2.2.2.1 k : Int)) ∧ next L r sh (mv_up M k i.toNat x) else False
  | .lastore => mv_pl st fun x r => mv_pi r fun i r => mv_pr r fun k r => if 1 ≤ k ∧ k ≤ sh.1 ∧ sh.2.2.1 k = 101 then (0 ≤ i ∧ i < (sh.2.2.2.1 k : Int)) ∧ next L r sh (mv_up M k i.toNat x) else False
  | .bastore => mv_pi st fun x r => mv_pi r fun i r => mv_pr r fun k r => if 1 ≤ k ∧ k ≤ sh.1 ∧ sh.2.2.1 k = 102 then ((0 ≤ i ∧ i < (sh.2.2.2.1 k : Int)) ∧ (x = 0 ∨ x = 1)) ∧ next L r sh (mv_up M k i.toNat x) else False
  | .arraylength => mv_pr st fun k r => if k ≤ sh.1 ∧ sh.2.2.1 k = 100 then next L (.inl (sh.2.2.2.1 k : Int) :: r) sh M else False
  | .newarray _ => mv_pi st fun n r => if 0 ≤ n ∧ n ≤ 100000 ∧ sh.1 + 1 ≤ n0 + mc ∧ sh.2.1 + n.toNat ≤ s0 + ms then next L (.inr (.inr (sh.1 + 1)) :: r) (mv_nwA sh a n.toNat) (mv_nwM sh M) else False
  | .new _ => if sh.1 + 1 ≤ n0 + mc ∧ sh.2.1 + b ≤ s0 + ms then next L (.inr (.inr (sh.1 + 1)) :: st) (mv_nwO sh a b) (mv_nwM sh M) else False
  | .invokespecial _ => if c = 1 then (mv_pr st fun _ r => if mv_stw r ≤ 8 then next L r sh M else False)
      else (match (st.take b).reverse with
        | .inr (.inr k) :: As => if mv_stw (st.drop b) ≤ 8 ∧ b ≤ st.length ∧ sh.1 + (c - 2) ≤ n0 + mc ∧ sh.2.1 + v.toNat ≤ s0 + ms then call a (.inr (.inr k) :: As) sh M (fun r sh' M' => next L (r.toList ++ st.drop b) sh' M') else False
        | _ => False)
  | .invokevirtual _ => (match (st.take b).reverse with
        | .inr (.inr k) :: As => if (1 ≤ k ∧ k ≤ sh.1 ∧ sh.2.2.1 k = c) ∧ mv_stw (st.drop b) ≤ 8 ∧ b ≤ st.length then (if v = 1 then call a (.inr (.inr k) :: As) sh M (mv_qi sh fun x M' => next L (.inl x :: st.drop b) sh M') else if v = 2 then call a (.inr (.inr k) :: As) sh M (mv_ql sh fun x M' => next L (.inr (.inl x) :: st.drop b) sh M') else call a (.inr (.inr k) :: As) sh M (mv_qv sh fun M' => next L (st.drop b) sh M')) else False
        | _ => False)
  | .invokestatic _ => if c = 1 then (if mv_stw (st.drop b) ≤ 8 ∧ b ≤ st.length then (if v = 1 then call a (st.take b).reverse sh M (mv_qi sh fun x M' => next L (.inl x :: st.drop b) sh M') else if v = 2 then call a (st.take b).reverse sh M (mv_ql sh fun x M' => next L (.inr (.inl x) :: st.drop b) sh M') else call a (st.take b).reverse sh M (mv_qv sh fun M' => next L (st.drop b) sh M')) else False)
      else mv_pi st fun n r => mv_pi r fun dp r => mv_pr r fun d r => mv_pi r fun sp r => mv_pr r fun s r =>
        if (1 ≤ s ∧ s ≤ sh.1 ∧ sh.2.2.1 s = c) ∧ (1 ≤ d ∧ d ≤ sh.1 ∧ sh.2.2.1 d = c) ∧ mv_stw r ≤ 8 then (0 ≤ sp ∧ 0 ≤ dp ∧ 0 ≤ n ∧ sp + n ≤ (sh.2.2.2.1 s : Int) ∧ dp + n ≤ (sh.2.2.2.1 d : Int)) ∧ next L r sh (mv_cp M s sp.toNat d dp.toNat n.toNat) else False
  | .ireturn => (match st with
    | [.inl x] => if 150 ≤ mc ∨ (sh.1 = n0 + mc ∧ sh.2.1 = s0 + ms) then (if a = 1 then (x = 0 ∨ x = 1) ∧ post (some (.inl x)) sh M else post (some (.inl x)) sh M) else False
    | _ => False)
  | .lreturn => (match st with
    | [.inr (.inl x)] => if sh.1 = n0 + mc ∧ sh.2.1 = s0 + ms then post (some (.inr (.inl x))) sh M else False
    | _ => False)
  | .return_ => (match st with
    | [] => if sh.1 = n0 + mc ∧ sh.2.1 = s0 + ms then post none sh M else False
    | _ => False)
  | _ => False
/-- a method: its name, code, locals, answer, class; its instructions; its room: frames, cells, slots, words of locals -/
abbrev mv_T : Type := MethodName × ByteArray × Nat × Option FieldType × String × List mv_E × Nat × Nat × Nat × Nat
def mt_y (r : mv_T) : MethodName := r.1
def mt_cc (r : mv_T) : ByteArray := r.2.1
def mt_nL (r : mv_T) : Nat := r.2.2.1
def mt_ret (r : mv_T) : Option FieldType := r.2.2.2.1
def mt_own (r : mv_T) : String := r.2.2.2.2.1
def mt_code (r : mv_T) : List mv_E := r.2.2.2.2.2.1
def mt_fr (r : mv_T) : Nat := r.2.2.2.2.2.2.1
def mt_mc (r : mv_T) : Nat := r.2.2.2.2.2.2.2.1
def mt_ms (r : mv_T) : Nat := r.2.2.2.2.2.2.2.2.1
def mt_lo (r : mv_T) : Nat := r.2.2.2.2.2.2.2.2.2
def mt_rm (r : mv_T) : Room := { frames := mt_fr r, cells := mt_mc r, slots := mt_ms r, locals := mt_lo r }
/-- the code from a place on -/
def mv_at (pc : Nat) : List mv_E → List mv_E
  | [] => []
  | e :: r => if e.1 = pc then e :: r else mv_at pc r
/-- the locals at a method's entry -/
def mv_en (i : Nat) : List mv_V → mv_L
  | [] => []
  | v :: r => (i, v) :: mv_en (i + if mv_isL v then 2 else 1) r
def mv_pk (ks : List Nat) (L : mv_L) : mv_L := ks.filterMap (fun a => (mv_lg a L).map fun v => (a, v))
def mv_cut (pc : Nat) : List (Nat × List Nat) → Option (List Nat)
  | [] => none
  | q :: r => if q.1 = pc then some q.2 else mv_cut pc r
end
section
/-! THE CODE of all methods for the small machine (by program: wip/p40/gen.py) -/
def mc_X0_init : List mv_E := [
  (0, 1, .aload 0, 0, 0, 0, 0, []), (1, 3, .invokespecial 0, 0, 0, 1, 0, [85, 35, 36]), (4, 1, .aload 0, 0, 0, 0, 0, []), (5, 1, .iconst 0, 0, 0, 0, 1, []), (6, 3, .putfield 0, 0, 0, 0, 0, [86]), (9, 1, .aload 0, 0, 0, 0, 0, []),
  (10, 1, .iconst 0, 0, 0, 0, 1, []), (11, 3, .putfield 0, 0, 1, 0, 0, [89]), (14, 1, .aload 0, 0, 0, 0, 0, []), (15, 1, .iconst 0, 0, 0, 0, 1, []), (16, 3, .putfield 0, 0, 2, 0, 0, [91]), (19, 1, .aload 0, 0, 0, 0, 0, []),
  (20, 1, .iconst 0, 0, 0, 0, 0, []), (21, 3, .putfield 0, 0, 3, 0, 0, [96]), (24, 1, .aload 0, 0, 0, 0, 0, []), (25, 1, .iconst 0, 0, 0, 0, 0, []), (26, 3, .putfield 0, 0, 4, 0, 0, [98]), (29, 1, .aload 0, 0, 0, 0, 0, []),
  (30, 2, .iconst 0, 0, 0, 0, 48, []), (32, 2, .newarray .int, 100, 0, 0, 0, [53]), (34, 3, .putfield 0, 0, 5, 2, 0, [103]), (37, 1, .aload 0, 0, 0, 0, 0, []), (38, 2, .iconst 0, 0, 0, 0, 48, []), (40, 2, .newarray .int, 100, 0, 0, 0, [53]),
  (42, 3, .putfield 0, 0, 6, 2, 0, [104]), (45, 1, .aload 0, 0, 0, 0, 0, []), (46, 2, .iconst 0, 0, 0, 0, 48, []), (48, 2, .newarray .int, 100, 0, 0, 0, [53]), (50, 3, .putfield 0, 0, 7, 2, 0, [108]), (53, 1, .aload 0, 0, 0, 0, 0, []),
  (54, 2, .iconst 0, 0, 0, 0, 48, []), (56, 2, .newarray .int, 100, 0, 0, 0, [53]), (58, 3, .putfield 0, 0, 8, 2, 0, [111]), (61, 1, .aload 0, 0, 0, 0, 0, []), (62, 2, .iconst 0, 0, 0, 0, 48, []), (64, 2, .newarray .int, 100, 0, 0, 0, [53]),
  (66, 3, .putfield 0, 0, 9, 2, 0, [115]), (69, 1, .aload 0, 0, 0, 0, 0, []), (70, 3, .iconst 0, 0, 0, 0, 192, []), (73, 2, .newarray .int, 100, 0, 0, 0, [53]), (75, 3, .putfield 0, 0, 10, 2, 0, [119]), (78, 1, .aload 0, 0, 0, 0, 0, []),
  (79, 1, .iconst 0, 0, 0, 0, 3, []), (80, 2, .newarray .int, 100, 0, 0, 0, [53]), (82, 3, .putfield 0, 0, 11, 2, 0, [121]), (85, 1, .aload 0, 0, 0, 0, 0, []), (86, 1, .iconst 0, 0, 0, 0, 4, []), (87, 2, .newarray .int, 100, 0, 0, 0, [53]),
  (89, 1, .dup, 0, 0, 0, 0, []), (90, 1, .iconst 0, 0, 0, 0, 0, []), (91, 2, .iconst 0, 0, 0, 0, 10, []), (93, 1, .iastore, 0, 0, 0, 0, []), (94, 1, .dup, 0, 0, 0, 0, []), (95, 1, .iconst 0, 0, 0, 0, 1, []),
  (96, 2, .iconst 0, 0, 0, 0, 6, []), (98, 1, .iastore, 0, 0, 0, 0, []), (99, 1, .dup, 0, 0, 0, 0, []), (100, 1, .iconst 0, 0, 0, 0, 2, []), (101, 1, .iconst 0, 0, 0, 0, 3, []), (102, 1, .iastore, 0, 0, 0, 0, []),
  (103, 1, .dup, 0, 0, 0, 0, []), (104, 1, .iconst 0, 0, 0, 0, 3, []), (105, 1, .iconst 0, 0, 0, 0, 2, []), (106, 1, .iastore, 0, 0, 0, 0, []), (107, 3, .putfield 0, 0, 12, 2, 0, [124]), (110, 1, .iconst 0, 0, 0, 0, 0, []),
  (111, 1, .istore 0, 1, 0, 0, 0, []), (112, 1, .iload 0, 1, 0, 0, 0, []), (113, 2, .iconst 0, 0, 0, 0, 48, []), (115, 3, .if_icmp .ge 0, 131, 0, 0, 0, []), (118, 1, .aload 0, 0, 0, 0, 0, []), (119, 3, .getfield 0, 0, 8, 2, 0, [111]),
  (122, 1, .iload 0, 1, 0, 0, 0, []), (123, 1, .iconst 0, 0, 0, 0, (-1), []), (124, 1, .iastore, 0, 0, 0, 0, []), (125, 3, .iinc 0 0, 1, 0, 0, 1, []), (128, 3, .goto 0, 112, 0, 0, 0, []), (131, 1, .return_, 0, 0, 0, 0, [])
  ]
def mc_X0_layOut : List mv_E := [
  (0, 1, .aload 0, 0, 0, 0, 0, []), (1, 3, .invokevirtual 0, 2, 1, 0, 0, [729, 731, 13, 20]), (4, 1, .iconst 0, 0, 0, 0, 0, []), (5, 1, .istore 0, 2, 0, 0, 0, []), (6, 1, .iconst 0, 0, 0, 0, 0, []), (7, 1, .istore 0, 3, 0, 0, 0, []),
  (8, 1, .iconst 0, 0, 0, 0, 0, []), (9, 2, .istore 0, 4, 0, 0, 0, []), (11, 2, .iload 0, 4, 0, 0, 0, []), (13, 1, .aload 0, 1, 0, 0, 0, []), (14, 3, .getfield 0, 5, 1, 0, 0, [46]), (17, 3, .if_icmp .ge 0, 102, 0, 0, 0, []),
  (20, 1, .aload 0, 1, 0, 0, 0, []), (21, 3, .getfield 0, 5, 0, 2, 0, [44]), (24, 2, .iload 0, 4, 0, 0, 0, []), (26, 1, .iaload, 0, 0, 0, 0, []), (27, 2, .iconst 0, 0, 0, 0, 47, []), (29, 3, .if_icmp .ne 0, 40, 0, 0, 0, []),
  (32, 1, .iconst 0, 0, 0, 0, 0, []), (33, 1, .istore 0, 2, 0, 0, 0, []), (34, 3, .iinc 0 0, 3, 0, 0, 1, []), (37, 3, .goto 0, 96, 0, 0, 0, []), (40, 1, .aload 0, 0, 0, 0, 0, []), (41, 3, .getfield 0, 0, 2, 0, 0, [91]),
  (44, 2, .iconst 0, 0, 0, 0, 48, []), (46, 3, .if_icmp .ge 0, 96, 0, 0, 0, []), (49, 1, .aload 0, 0, 0, 0, 0, []), (50, 3, .getfield 0, 0, 6, 2, 0, [104]), (53, 1, .aload 0, 0, 0, 0, 0, []), (54, 3, .getfield 0, 0, 2, 0, 0, [91]),
  (57, 1, .aload 0, 1, 0, 0, 0, []), (58, 3, .getfield 0, 5, 0, 2, 0, [44]), (61, 2, .iload 0, 4, 0, 0, 0, []), (63, 1, .iaload, 0, 0, 0, 0, []), (64, 2, .iconst 0, 0, 0, 0, 48, []), (66, 1, .isub, 0, 0, 0, 0, []),
  (67, 1, .iastore, 0, 0, 0, 0, []), (68, 1, .aload 0, 0, 0, 0, 0, []), (69, 3, .getfield 0, 0, 5, 2, 0, [103]), (72, 1, .aload 0, 0, 0, 0, 0, []), (73, 3, .getfield 0, 0, 2, 0, 0, [91]), (76, 2, .iconst 0, 0, 0, 0, 10, []),
  (78, 1, .iload 0, 2, 0, 0, 0, []), (79, 1, .imul, 0, 0, 0, 0, []), (80, 1, .iload 0, 3, 0, 0, 0, []), (81, 1, .iadd, 0, 0, 0, 0, []), (82, 1, .iastore, 0, 0, 0, 0, []), (83, 1, .aload 0, 0, 0, 0, 0, []),
  (84, 1, .dup, 0, 0, 0, 0, []), (85, 3, .getfield 0, 0, 2, 0, 0, [91]), (88, 1, .iconst 0, 0, 0, 0, 1, []), (89, 1, .iadd, 0, 0, 0, 0, []), (90, 3, .putfield 0, 0, 2, 0, 0, [91]), (93, 3, .iinc 0 0, 2, 0, 0, 1, []),
  (96, 3, .iinc 0 0, 4, 0, 0, 1, []), (99, 3, .goto 0, 11, 0, 0, 0, []), (102, 1, .aload 0, 0, 0, 0, 0, []), (103, 1, .iload 0, 2, 0, 0, 0, []), (104, 3, .putfield 0, 0, 0, 0, 0, [86]), (107, 1, .aload 0, 0, 0, 0, 0, []),
  (108, 1, .iload 0, 3, 0, 0, 0, []), (109, 1, .iconst 0, 0, 0, 0, 1, []), (110, 1, .iadd, 0, 0, 0, 0, []), (111, 3, .putfield 0, 0, 1, 0, 0, [89]), (114, 1, .return_, 0, 0, 0, 0, [])
  ]
def mc_X0_clearAway : List mv_E := [
  (0, 1, .aload 0, 0, 0, 0, 0, []), (1, 1, .iconst 0, 0, 0, 0, 0, []), (2, 3, .putfield 0, 0, 2, 0, 0, [91]), (5, 1, .aload 0, 0, 0, 0, 0, []), (6, 1, .iconst 0, 0, 0, 0, 0, []), (7, 3, .putfield 0, 0, 3, 0, 0, [96]),
  (10, 1, .aload 0, 0, 0, 0, 0, []), (11, 1, .iconst 0, 0, 0, 0, 0, []), (12, 3, .putfield 0, 0, 4, 0, 0, [98]), (15, 1, .iconst 0, 0, 0, 0, 0, []), (16, 1, .istore 0, 1, 0, 0, 0, []), (17, 1, .iload 0, 1, 0, 0, 0, []),
  (18, 2, .iconst 0, 0, 0, 0, 48, []), (20, 3, .if_icmp .ge 0, 50, 0, 0, 0, []), (23, 1, .aload 0, 0, 0, 0, 0, []), (24, 3, .getfield 0, 0, 7, 2, 0, [108]), (27, 1, .iload 0, 1, 0, 0, 0, []), (28, 1, .iconst 0, 0, 0, 0, 0, []),
  (29, 1, .iastore, 0, 0, 0, 0, []), (30, 1, .aload 0, 0, 0, 0, 0, []), (31, 3, .getfield 0, 0, 8, 2, 0, [111]), (34, 1, .iload 0, 1, 0, 0, 0, []), (35, 1, .iconst 0, 0, 0, 0, (-1), []), (36, 1, .iastore, 0, 0, 0, 0, []),
  (37, 1, .aload 0, 0, 0, 0, 0, []), (38, 3, .getfield 0, 0, 9, 2, 0, [115]), (41, 1, .iload 0, 1, 0, 0, 0, []), (42, 1, .iconst 0, 0, 0, 0, 0, []), (43, 1, .iastore, 0, 0, 0, 0, []), (44, 3, .iinc 0 0, 1, 0, 0, 1, []),
  (47, 3, .goto 0, 17, 0, 0, 0, []), (50, 1, .iconst 0, 0, 0, 0, 0, []), (51, 1, .istore 0, 1, 0, 0, 0, []), (52, 1, .iload 0, 1, 0, 0, 0, []), (53, 3, .iconst 0, 0, 0, 0, 192, []), (56, 3, .if_icmp .ge 0, 72, 0, 0, 0, []),
  (59, 1, .aload 0, 0, 0, 0, 0, []), (60, 3, .getfield 0, 0, 10, 2, 0, [119]), (63, 1, .iload 0, 1, 0, 0, 0, []), (64, 1, .iconst 0, 0, 0, 0, 0, []), (65, 1, .iastore, 0, 0, 0, 0, []), (66, 3, .iinc 0 0, 1, 0, 0, 1, []),
  (69, 3, .goto 0, 52, 0, 0, 0, []), (72, 1, .return_, 0, 0, 0, 0, [])
  ]
def mc_X0_takeFrom : List mv_E := [
  (0, 1, .aload 0, 0, 0, 0, 0, []), (1, 1, .aload 0, 1, 0, 0, 0, []), (2, 3, .getfield 0, 0, 0, 0, 0, [86]), (5, 3, .putfield 0, 0, 0, 0, 0, [86]), (8, 1, .aload 0, 0, 0, 0, 0, []), (9, 1, .aload 0, 1, 0, 0, 0, []),
  (10, 3, .getfield 0, 0, 1, 0, 0, [89]), (13, 3, .putfield 0, 0, 1, 0, 0, [89]), (16, 1, .aload 0, 0, 0, 0, 0, []), (17, 1, .aload 0, 1, 0, 0, 0, []), (18, 3, .getfield 0, 0, 2, 0, 0, [91]), (21, 3, .putfield 0, 0, 2, 0, 0, [91]),
  (24, 1, .aload 0, 0, 0, 0, 0, []), (25, 1, .aload 0, 1, 0, 0, 0, []), (26, 3, .getfield 0, 0, 3, 0, 0, [96]), (29, 3, .putfield 0, 0, 3, 0, 0, [96]), (32, 1, .aload 0, 0, 0, 0, 0, []), (33, 1, .aload 0, 1, 0, 0, 0, []),
  (34, 3, .getfield 0, 0, 4, 0, 0, [98]), (37, 3, .putfield 0, 0, 4, 0, 0, [98]), (40, 1, .aload 0, 1, 0, 0, 0, []), (41, 3, .getfield 0, 0, 5, 2, 0, [103]), (44, 1, .iconst 0, 0, 0, 0, 0, []), (45, 1, .aload 0, 0, 0, 0, 0, []),
  (46, 3, .getfield 0, 0, 5, 2, 0, [103]), (49, 1, .iconst 0, 0, 0, 0, 0, []), (50, 2, .iconst 0, 0, 0, 0, 48, []), (52, 3, .invokestatic 0, 0, 0, 100, 0, [660, 638, 637, 27]), (55, 1, .aload 0, 1, 0, 0, 0, []), (56, 3, .getfield 0, 0, 6, 2, 0, [104]),
  (59, 1, .iconst 0, 0, 0, 0, 0, []), (60, 1, .aload 0, 0, 0, 0, 0, []), (61, 3, .getfield 0, 0, 6, 2, 0, [104]), (64, 1, .iconst 0, 0, 0, 0, 0, []), (65, 2, .iconst 0, 0, 0, 0, 48, []), (67, 3, .invokestatic 0, 0, 0, 100, 0, [660, 638, 637, 27]),
  (70, 1, .aload 0, 1, 0, 0, 0, []), (71, 3, .getfield 0, 0, 7, 2, 0, [108]), (74, 1, .iconst 0, 0, 0, 0, 0, []), (75, 1, .aload 0, 0, 0, 0, 0, []), (76, 3, .getfield 0, 0, 7, 2, 0, [108]), (79, 1, .iconst 0, 0, 0, 0, 0, []),
  (80, 2, .iconst 0, 0, 0, 0, 48, []), (82, 3, .invokestatic 0, 0, 0, 100, 0, [660, 638, 637, 27]), (85, 1, .aload 0, 1, 0, 0, 0, []), (86, 3, .getfield 0, 0, 8, 2, 0, [111]), (89, 1, .iconst 0, 0, 0, 0, 0, []), (90, 1, .aload 0, 0, 0, 0, 0, []),
  (91, 3, .getfield 0, 0, 8, 2, 0, [111]), (94, 1, .iconst 0, 0, 0, 0, 0, []), (95, 2, .iconst 0, 0, 0, 0, 48, []), (97, 3, .invokestatic 0, 0, 0, 100, 0, [660, 638, 637, 27]), (100, 1, .aload 0, 1, 0, 0, 0, []), (101, 3, .getfield 0, 0, 9, 2, 0, [115]),
  (104, 1, .iconst 0, 0, 0, 0, 0, []), (105, 1, .aload 0, 0, 0, 0, 0, []), (106, 3, .getfield 0, 0, 9, 2, 0, [115]), (109, 1, .iconst 0, 0, 0, 0, 0, []), (110, 2, .iconst 0, 0, 0, 0, 48, []), (112, 3, .invokestatic 0, 0, 0, 100, 0, [660, 638, 637, 27]),
  (115, 1, .aload 0, 1, 0, 0, 0, []), (116, 3, .getfield 0, 0, 10, 2, 0, [119]), (119, 1, .iconst 0, 0, 0, 0, 0, []), (120, 1, .aload 0, 0, 0, 0, 0, []), (121, 3, .getfield 0, 0, 10, 2, 0, [119]), (124, 1, .iconst 0, 0, 0, 0, 0, []),
  (125, 3, .iconst 0, 0, 0, 0, 192, []), (128, 3, .invokestatic 0, 0, 0, 100, 0, [660, 638, 637, 27]), (131, 1, .aload 0, 1, 0, 0, 0, []), (132, 3, .getfield 0, 0, 11, 2, 0, [121]), (135, 1, .iconst 0, 0, 0, 0, 0, []), (136, 1, .aload 0, 0, 0, 0, 0, []),
  (137, 3, .getfield 0, 0, 11, 2, 0, [121]), (140, 1, .iconst 0, 0, 0, 0, 0, []), (141, 1, .iconst 0, 0, 0, 0, 3, []), (142, 3, .invokestatic 0, 0, 0, 100, 0, [660, 638, 637, 27]), (145, 1, .aload 0, 1, 0, 0, 0, []), (146, 3, .getfield 0, 0, 12, 2, 0, [124]),
  (149, 1, .iconst 0, 0, 0, 0, 0, []), (150, 1, .aload 0, 0, 0, 0, 0, []), (151, 3, .getfield 0, 0, 12, 2, 0, [124]), (154, 1, .iconst 0, 0, 0, 0, 0, []), (155, 1, .iconst 0, 0, 0, 0, 4, []), (156, 3, .invokestatic 0, 0, 0, 100, 0, [660, 638, 637, 27]),
  (159, 1, .return_, 0, 0, 0, 0, [])
  ]
def mc_X0_placeOf : List mv_E := [
  (0, 1, .iload 0, 1, 0, 0, 0, []), (1, 3, .ifCond .lt 0, 26, 0, 0, 0, []), (4, 1, .iload 0, 1, 0, 0, 0, []), (5, 2, .iconst 0, 0, 0, 0, 10, []), (7, 1, .idiv, 0, 0, 0, 0, []), (8, 1, .aload 0, 0, 0, 0, 0, []),
  (9, 3, .getfield 0, 0, 0, 0, 0, [86]), (12, 3, .if_icmp .ge 0, 26, 0, 0, 0, []), (15, 1, .iload 0, 1, 0, 0, 0, []), (16, 2, .iconst 0, 0, 0, 0, 10, []), (18, 1, .irem, 0, 0, 0, 0, []), (19, 1, .aload 0, 0, 0, 0, 0, []),
  (20, 3, .getfield 0, 0, 1, 0, 0, [89]), (23, 3, .if_icmp .lt 0, 28, 0, 0, 0, []), (26, 1, .iconst 0, 0, 0, 0, (-1), []), (27, 1, .ireturn, 0, 0, 0, 0, []), (28, 1, .iload 0, 1, 0, 0, 0, []), (29, 2, .iconst 0, 0, 0, 0, 10, []),
  (31, 1, .irem, 0, 0, 0, 0, []), (32, 1, .aload 0, 0, 0, 0, 0, []), (33, 3, .getfield 0, 0, 0, 0, 0, [86]), (36, 1, .imul, 0, 0, 0, 0, []), (37, 1, .iload 0, 1, 0, 0, 0, []), (38, 2, .iconst 0, 0, 0, 0, 10, []),
  (40, 1, .idiv, 0, 0, 0, 0, []), (41, 1, .iadd, 0, 0, 0, 0, []), (42, 1, .ireturn, 0, 0, 0, 0, [])
  ]
def mc_X0_beside : List mv_E := [
  (0, 1, .aload 0, 0, 0, 0, 0, []), (1, 3, .getfield 0, 0, 5, 2, 0, [103]), (4, 1, .iload 0, 1, 0, 0, 0, []), (5, 1, .iaload, 0, 0, 0, 0, []), (6, 2, .iconst 0, 0, 0, 0, 10, []), (8, 1, .idiv, 0, 0, 0, 0, []),
  (9, 1, .istore 0, 3, 0, 0, 0, []), (10, 1, .aload 0, 0, 0, 0, 0, []), (11, 3, .getfield 0, 0, 5, 2, 0, [103]), (14, 1, .iload 0, 1, 0, 0, 0, []), (15, 1, .iaload, 0, 0, 0, 0, []), (16, 2, .iconst 0, 0, 0, 0, 10, []),
  (18, 1, .irem, 0, 0, 0, 0, []), (19, 2, .istore 0, 4, 0, 0, 0, []), (21, 1, .iload 0, 2, 0, 0, 0, []), (22, 26, .tableswitch 0 0 0 #[], 100, 0, 0, 0, [48, 66, 78]), (48, 1, .iload 0, 3, 0, 0, 0, []), (49, 1, .iconst 0, 0, 0, 0, 1, []),
  (50, 1, .iadd, 0, 0, 0, 0, []), (51, 1, .aload 0, 0, 0, 0, 0, []), (52, 3, .getfield 0, 0, 0, 0, 0, [86]), (55, 3, .if_icmp .ge 0, 64, 0, 0, 0, []), (58, 1, .iload 0, 1, 0, 0, 0, []), (59, 1, .iconst 0, 0, 0, 0, 1, []),
  (60, 1, .iadd, 0, 0, 0, 0, []), (61, 3, .goto 0, 65, 0, 0, 0, []), (64, 1, .iconst 0, 0, 0, 0, (-1), []), (65, 1, .ireturn, 0, 0, 0, 0, []), (66, 1, .iload 0, 3, 0, 0, 0, []), (67, 3, .ifCond .le 0, 76, 0, 0, 0, []),
  (70, 1, .iload 0, 1, 0, 0, 0, []), (71, 1, .iconst 0, 0, 0, 0, 1, []), (72, 1, .isub, 0, 0, 0, 0, []), (73, 3, .goto 0, 77, 0, 0, 0, []), (76, 1, .iconst 0, 0, 0, 0, (-1), []), (77, 1, .ireturn, 0, 0, 0, 0, []),
  (78, 2, .iload 0, 4, 0, 0, 0, []), (80, 1, .iconst 0, 0, 0, 0, 1, []), (81, 1, .iadd, 0, 0, 0, 0, []), (82, 1, .aload 0, 0, 0, 0, 0, []), (83, 3, .getfield 0, 0, 1, 0, 0, [89]), (86, 3, .if_icmp .ge 0, 98, 0, 0, 0, []),
  (89, 1, .iload 0, 1, 0, 0, 0, []), (90, 1, .aload 0, 0, 0, 0, 0, []), (91, 3, .getfield 0, 0, 0, 0, 0, [86]), (94, 1, .iadd, 0, 0, 0, 0, []), (95, 3, .goto 0, 99, 0, 0, 0, []), (98, 1, .iconst 0, 0, 0, 0, (-1), []),
  (99, 1, .ireturn, 0, 0, 0, 0, []), (100, 2, .iload 0, 4, 0, 0, 0, []), (102, 3, .ifCond .le 0, 114, 0, 0, 0, []), (105, 1, .iload 0, 1, 0, 0, 0, []), (106, 1, .aload 0, 0, 0, 0, 0, []), (107, 3, .getfield 0, 0, 0, 0, 0, [86]),
  (110, 1, .isub, 0, 0, 0, 0, []), (111, 3, .goto 0, 115, 0, 0, 0, []), (114, 1, .iconst 0, 0, 0, 0, (-1), []), (115, 1, .ireturn, 0, 0, 0, 0, [])
  ]
def mc_X0_sideTowards : List mv_E := [
  (0, 1, .iload 0, 1, 0, 0, 0, []), (1, 1, .iconst 0, 0, 0, 0, (-1), []), (2, 3, .if_icmp .eq 0, 10, 0, 0, 0, []), (5, 1, .iload 0, 2, 0, 0, 0, []), (6, 1, .iconst 0, 0, 0, 0, (-1), []), (7, 3, .if_icmp .ne 0, 12, 0, 0, 0, []),
  (10, 1, .iconst 0, 0, 0, 0, (-1), []), (11, 1, .ireturn, 0, 0, 0, 0, []), (12, 1, .iconst 0, 0, 0, 0, 0, []), (13, 1, .istore 0, 3, 0, 0, 0, []), (14, 1, .iload 0, 3, 0, 0, 0, []), (15, 1, .iconst 0, 0, 0, 0, 4, []),
  (16, 3, .if_icmp .ge 0, 37, 0, 0, 0, []), (19, 1, .aload 0, 0, 0, 0, 0, []), (20, 1, .iload 0, 1, 0, 0, 0, []), (21, 1, .iload 0, 3, 0, 0, 0, []), (22, 3, .invokevirtual 0, 5, 3, 0, 1, [741, 468, 469, 20]), (25, 1, .iload 0, 2, 0, 0, 0, []),
  (26, 3, .if_icmp .ne 0, 31, 0, 0, 0, []), (29, 1, .iload 0, 3, 0, 0, 0, []), (30, 1, .ireturn, 0, 0, 0, 0, []), (31, 3, .iinc 0 0, 3, 0, 0, 1, []), (34, 3, .goto 0, 14, 0, 0, 0, []), (37, 1, .iconst 0, 0, 0, 0, (-1), []),
  (38, 1, .ireturn, 0, 0, 0, 0, [])
  ]
def mc_X0_roadAt : List mv_E := [
  (0, 1, .aload 0, 0, 0, 0, 0, []), (1, 3, .getfield 0, 0, 10, 2, 0, [119]), (4, 1, .iload 0, 1, 0, 0, 0, []), (5, 1, .iconst 0, 0, 0, 0, 4, []), (6, 1, .imul, 0, 0, 0, 0, []), (7, 1, .iload 0, 2, 0, 0, 0, []),
  (8, 1, .iadd, 0, 0, 0, 0, []), (9, 1, .iaload, 0, 0, 0, 0, []), (10, 1, .istore 0, 3, 0, 0, 0, []), (11, 1, .iload 0, 3, 0, 0, 0, []), (12, 1, .iconst 0, 0, 0, 0, 4, []), (13, 3, .if_icmp .ne 0, 20, 0, 0, 0, []),
  (16, 1, .iconst 0, 0, 0, 0, 3, []), (17, 3, .goto 0, 21, 0, 0, 0, []), (20, 1, .iload 0, 3, 0, 0, 0, []), (21, 1, .ireturn, 0, 0, 0, 0, [])
  ]
def mc_X0_layRoad : List mv_E := [
  (0, 1, .aload 0, 0, 0, 0, 0, []), (1, 1, .iload 0, 1, 0, 0, 0, []), (2, 1, .iload 0, 2, 0, 0, 0, []), (3, 3, .invokevirtual 0, 5, 3, 0, 1, [741, 468, 469, 20]), (6, 2, .istore 0, 4, 0, 0, 0, []), (8, 2, .iload 0, 4, 0, 0, 0, []),
  (10, 1, .iconst 0, 0, 0, 0, (-1), []), (11, 3, .if_icmp .eq 0, 48, 0, 0, 0, []), (14, 1, .aload 0, 0, 0, 0, 0, []), (15, 3, .getfield 0, 0, 10, 2, 0, [119]), (18, 1, .iload 0, 1, 0, 0, 0, []), (19, 1, .iconst 0, 0, 0, 0, 4, []),
  (20, 1, .imul, 0, 0, 0, 0, []), (21, 1, .iload 0, 2, 0, 0, 0, []), (22, 1, .iadd, 0, 0, 0, 0, []), (23, 1, .iload 0, 3, 0, 0, 0, []), (24, 1, .iastore, 0, 0, 0, 0, []), (25, 1, .aload 0, 0, 0, 0, 0, []),
  (26, 3, .getfield 0, 0, 10, 2, 0, [119]), (29, 2, .iload 0, 4, 0, 0, 0, []), (31, 1, .iconst 0, 0, 0, 0, 4, []), (32, 1, .imul, 0, 0, 0, 0, []), (33, 1, .iload 0, 2, 0, 0, 0, []), (34, 1, .iconst 0, 0, 0, 0, 1, []),
  (35, 1, .ixor, 0, 0, 0, 0, []), (36, 1, .iadd, 0, 0, 0, 0, []), (37, 1, .iload 0, 3, 0, 0, 0, []), (38, 1, .iconst 0, 0, 0, 0, 3, []), (39, 3, .if_icmp .ne 0, 46, 0, 0, 0, []), (42, 1, .iconst 0, 0, 0, 0, 4, []),
  (43, 3, .goto 0, 47, 0, 0, 0, []), (46, 1, .iload 0, 3, 0, 0, 0, []), (47, 1, .iastore, 0, 0, 0, 0, []), (48, 1, .return_, 0, 0, 0, 0, [])
  ]
def mc_X0_marketOn : List mv_E := [
  (0, 1, .iconst 0, 0, 0, 0, 0, []), (1, 1, .istore 0, 2, 0, 0, 0, []), (2, 1, .iload 0, 2, 0, 0, 0, []), (3, 1, .aload 0, 0, 0, 0, 0, []), (4, 3, .getfield 0, 0, 4, 0, 0, [98]), (7, 3, .if_icmp .ge 0, 28, 0, 0, 0, []),
  (10, 1, .aload 0, 0, 0, 0, 0, []), (11, 3, .getfield 0, 0, 11, 2, 0, [121]), (14, 1, .iload 0, 2, 0, 0, 0, []), (15, 1, .iaload, 0, 0, 0, 0, []), (16, 1, .iload 0, 1, 0, 0, 0, []), (17, 3, .if_icmp .ne 0, 22, 0, 0, 0, []),
  (20, 1, .iload 0, 2, 0, 0, 0, []), (21, 1, .ireturn, 0, 0, 0, 0, []), (22, 3, .iinc 0 0, 2, 0, 0, 1, []), (25, 3, .goto 0, 2, 0, 0, 0, []), (28, 2, .iconst 0, 0, 0, 0, (-9), []), (30, 1, .ireturn, 0, 0, 0, 0, [])
  ]
def mc_X0_idleAcres : List mv_E := [
  (0, 1, .iconst 0, 0, 0, 0, 0, []), (1, 1, .istore 0, 1, 0, 0, 0, []), (2, 1, .iconst 0, 0, 0, 0, 0, []), (3, 1, .istore 0, 2, 0, 0, 0, []), (4, 1, .iload 0, 2, 0, 0, 0, []), (5, 1, .aload 0, 0, 0, 0, 0, []),
  (6, 3, .getfield 0, 0, 2, 0, 0, [91]), (9, 3, .if_icmp .ge 0, 27, 0, 0, 0, []), (12, 1, .iload 0, 1, 0, 0, 0, []), (13, 1, .aload 0, 0, 0, 0, 0, []), (14, 3, .getfield 0, 0, 9, 2, 0, [115]), (17, 1, .iload 0, 2, 0, 0, 0, []),
  (18, 1, .iaload, 0, 0, 0, 0, []), (19, 1, .iadd, 0, 0, 0, 0, []), (20, 1, .istore 0, 1, 0, 0, 0, []), (21, 3, .iinc 0 0, 2, 0, 0, 1, []), (24, 3, .goto 0, 4, 0, 0, 0, []), (27, 1, .iload 0, 1, 0, 0, 0, []),
  (28, 1, .ireturn, 0, 0, 0, 0, [])
  ]
def mc_X1_init : List mv_E := [
  (0, 1, .aload 0, 0, 0, 0, 0, []), (1, 3, .invokespecial 0, 0, 0, 1, 0, [73, 35, 36]), (4, 1, .aload 0, 0, 0, 0, 0, []), (5, 3, .new 0, 10, 3, 0, 0, [74, 75, 19]), (8, 1, .dup, 0, 0, 0, 0, []), (9, 3, .invokespecial 0, 83, 1, 29, 803, [76, 77, 19]),
  (12, 3, .putfield 0, 1, 0, 2, 0, [284]), (15, 1, .aload 0, 0, 0, 0, 0, []), (16, 3, .new 0, 8, 6, 0, 0, [257, 258, 23]), (19, 1, .dup, 0, 0, 0, 0, []), (20, 3, .invokespecial 0, 67, 1, 8, 912, [259, 260, 23]), (23, 3, .putfield 0, 1, 1, 2, 0, [287]),
  (26, 1, .aload 0, 0, 0, 0, 0, []), (27, 3, .iconst 0, 0, 0, 0, 864, []), (30, 2, .newarray .long, 101, 0, 0, 0, [314]), (32, 3, .putfield 0, 1, 2, 2, 0, [288]), (35, 1, .aload 0, 0, 0, 0, 0, []), (36, 2, .iconst 0, 0, 0, 0, 48, []),
  (38, 2, .newarray .int, 100, 0, 0, 0, [53]), (40, 3, .putfield 0, 1, 3, 2, 0, [290]), (43, 1, .aload 0, 0, 0, 0, 0, []), (44, 1, .aload 0, 0, 0, 0, 0, []), (45, 3, .getfield 0, 1, 0, 2, 0, [284]), (48, 3, .getfield 0, 10, 0, 2, 0, [241]),
  (51, 3, .putfield 0, 1, 4, 2, 0, [293]), (54, 1, .aload 0, 0, 0, 0, 0, []), (55, 1, .aload 0, 0, 0, 0, 0, []), (56, 3, .getfield 0, 1, 0, 2, 0, [284]), (59, 3, .getfield 0, 10, 1, 2, 0, [245]), (62, 3, .putfield 0, 1, 5, 2, 0, [294]),
  (65, 1, .aload 0, 0, 0, 0, 0, []), (66, 1, .iconst 0, 0, 0, 0, 0, []), (67, 3, .putfield 0, 1, 6, 1, 0, [295]), (70, 1, .aload 0, 0, 0, 0, 0, []), (71, 1, .iconst 0, 0, 0, 0, 0, []), (72, 3, .putfield 0, 1, 7, 1, 0, [296]),
  (75, 1, .return_, 0, 0, 0, 0, [])
  ]
def mc_X1_forgetWays : List mv_E := [
  (0, 1, .aload 0, 0, 0, 0, 0, []), (1, 1, .iconst 0, 0, 0, 0, 0, []), (2, 3, .putfield 0, 1, 6, 1, 0, [295]), (5, 1, .aload 0, 0, 0, 0, 0, []), (6, 1, .iconst 0, 0, 0, 0, 0, []), (7, 3, .putfield 0, 1, 7, 1, 0, [296]),
  (10, 1, .return_, 0, 0, 0, 0, [])
  ]
def mc_X1_forgetBids : List mv_E := [
  (0, 1, .aload 0, 0, 0, 0, 0, []), (1, 1, .iconst 0, 0, 0, 0, 0, []), (2, 3, .putfield 0, 1, 7, 1, 0, [296]), (5, 1, .return_, 0, 0, 0, 0, [])
  ]
def mc_X1_settle : List mv_E := [
  (0, 1, .aload 0, 0, 0, 0, 0, []), (1, 3, .getfield 0, 1, 6, 1, 0, [295]), (4, 3, .ifCond .ne 0, 34, 0, 0, 0, []), (7, 1, .aload 0, 0, 0, 0, 0, []), (8, 3, .getfield 0, 1, 1, 2, 0, [287]), (11, 1, .aload 0, 0, 0, 0, 0, []),
  (12, 3, .getfield 0, 1, 4, 2, 0, [293]), (15, 3, .invokevirtual 0, 68, 2, 8, 0, [463, 464, 465, 23]), (18, 1, .aload 0, 0, 0, 0, 0, []), (19, 3, .getfield 0, 1, 1, 2, 0, [287]), (22, 1, .aload 0, 0, 0, 0, 0, []), (23, 3, .getfield 0, 1, 4, 2, 0, [293]),
  (26, 3, .invokevirtual 0, 69, 2, 8, 0, [480, 481, 482, 23]), (29, 1, .aload 0, 0, 0, 0, 0, []), (30, 1, .iconst 0, 0, 0, 0, 1, []), (31, 3, .putfield 0, 1, 6, 1, 0, [295]), (34, 1, .aload 0, 0, 0, 0, 0, []), (35, 3, .getfield 0, 1, 7, 1, 0, [296]),
  (38, 3, .ifCond .ne 0, 50, 0, 0, 0, []), (41, 1, .aload 0, 0, 0, 0, 0, []), (42, 3, .invokevirtual 0, 15, 1, 1, 0, [484, 485, 486, 18]), (45, 1, .aload 0, 0, 0, 0, 0, []), (46, 1, .iconst 0, 0, 0, 0, 1, []), (47, 3, .putfield 0, 1, 7, 1, 0, [296]),
  (50, 1, .return_, 0, 0, 0, 0, [])
  ]
def mc_X1_reckonBids : List mv_E := [
  (0, 1, .iconst 0, 0, 0, 0, 0, []), (1, 1, .istore 0, 1, 0, 0, 0, []), (2, 1, .iload 0, 1, 0, 0, 0, []), (3, 1, .aload 0, 0, 0, 0, 0, []), (4, 3, .getfield 0, 1, 5, 2, 0, [294]), (7, 3, .getfield 0, 7, 0, 0, 0, [160]),
  (10, 1, .iconst 0, 0, 0, 0, 3, []), (11, 1, .imul, 0, 0, 0, 0, []), (12, 3, .if_icmp .ge 0, 39, 0, 0, 0, []), (15, 1, .iload 0, 1, 0, 0, 0, []), (16, 1, .iconst 0, 0, 0, 0, 3, []), (17, 1, .irem, 0, 0, 0, 0, []),
  (18, 1, .aload 0, 0, 0, 0, 0, []), (19, 3, .getfield 0, 1, 4, 2, 0, [293]), (22, 3, .getfield 0, 0, 4, 0, 0, [100]), (25, 3, .if_icmp .ge 0, 33, 0, 0, 0, []), (28, 1, .aload 0, 0, 0, 0, 0, []), (29, 1, .iload 0, 1, 0, 0, 0, []),
  (30, 3, .invokevirtual 0, 16, 2, 1, 0, [488, 489, 490, 18]), (33, 3, .iinc 0 0, 1, 0, 0, 1, []), (36, 3, .goto 0, 2, 0, 0, 0, []), (39, 1, .iconst 0, 0, 0, 0, 0, []), (40, 1, .istore 0, 1, 0, 0, 0, []), (41, 1, .iload 0, 1, 0, 0, 0, []),
  (42, 1, .aload 0, 0, 0, 0, 0, []), (43, 3, .getfield 0, 1, 4, 2, 0, [293]), (46, 3, .getfield 0, 0, 2, 0, 0, [95]), (49, 3, .if_icmp .ge 0, 69, 0, 0, 0, []), (52, 1, .aload 0, 0, 0, 0, 0, []), (53, 3, .getfield 0, 1, 3, 2, 0, [290]),
  (56, 1, .iload 0, 1, 0, 0, 0, []), (57, 1, .aload 0, 0, 0, 0, 0, []), (58, 1, .iload 0, 1, 0, 0, 0, []), (59, 3, .invokevirtual 0, 18, 2, 1, 1, [517, 518, 519, 18]), (62, 1, .iastore, 0, 0, 0, 0, []), (63, 3, .iinc 0 0, 1, 0, 0, 1, []),
  (66, 3, .goto 0, 41, 0, 0, 0, []), (69, 1, .return_, 0, 0, 0, 0, [])
  ]
def mc_X1_reckonOffer : List mv_E := [
  (0, 1, .iload 0, 1, 0, 0, 0, []), (1, 1, .iconst 0, 0, 0, 0, 3, []), (2, 1, .idiv, 0, 0, 0, 0, []), (3, 1, .istore 0, 2, 0, 0, 0, []), (4, 1, .iconst 0, 0, 0, 0, 0, []), (5, 1, .istore 0, 3, 0, 0, 0, []),
  (6, 1, .iload 0, 3, 0, 0, 0, []), (7, 1, .aload 0, 0, 0, 0, 0, []), (8, 3, .getfield 0, 1, 4, 2, 0, [293]), (11, 3, .getfield 0, 0, 2, 0, 0, [95]), (14, 3, .if_icmp .ge 0, 98, 0, 0, 0, []), (17, 1, .aload 0, 0, 0, 0, 0, []),
  (18, 1, .iload 0, 1, 0, 0, 0, []), (19, 1, .iload 0, 3, 0, 0, 0, []), (20, 3, .invokevirtual 0, 17, 3, 1, 1, [492, 493, 494, 18]), (23, 2, .istore 0, 4, 0, 0, 0, []), (25, 1, .lconst 0, 0, 0, 0, 0, []), (26, 2, .lstore 0, 5, 0, 0, 0, []),
  (28, 1, .aload 0, 0, 0, 0, 0, []), (29, 3, .getfield 0, 1, 5, 2, 0, [294]), (32, 1, .iload 0, 2, 0, 0, 0, []), (33, 2, .iload 0, 4, 0, 0, 0, []), (35, 3, .invokevirtual 0, 65, 3, 7, 1, [496, 497, 498, 21]), (38, 3, .ifCond .eq 0, 79, 0, 0, 0, []),
  (41, 1, .aload 0, 0, 0, 0, 0, []), (42, 3, .getfield 0, 1, 4, 2, 0, [293]), (45, 3, .getfield 0, 0, 6, 2, 0, [107]), (48, 1, .iload 0, 3, 0, 0, 0, []), (49, 1, .iaload, 0, 0, 0, 0, []), (50, 2, .istore 0, 7, 0, 0, 0, []),
  (52, 1, .aload 0, 0, 0, 0, 0, []), (53, 3, .getfield 0, 1, 5, 2, 0, [294]), (56, 1, .iload 0, 1, 0, 0, 0, []), (57, 2, .iload 0, 7, 0, 0, 0, []), (59, 3, .invokevirtual 0, 63, 3, 7, 2, [500, 501, 502, 21]), (62, 1, .aload 0, 0, 0, 0, 0, []),
  (63, 3, .getfield 0, 1, 5, 2, 0, [294]), (66, 1, .iload 0, 2, 0, 0, 0, []), (67, 2, .iload 0, 7, 0, 0, 0, []), (69, 3, .invokevirtual 0, 64, 3, 7, 2, [513, 514, 515, 21]), (72, 2, .iload 0, 4, 0, 0, 0, []), (74, 1, .i2l, 0, 0, 0, 0, []),
  (75, 1, .lmul, 0, 0, 0, 0, []), (76, 1, .lsub, 0, 0, 0, 0, []), (77, 2, .lstore 0, 5, 0, 0, 0, []), (79, 1, .aload 0, 0, 0, 0, 0, []), (80, 3, .getfield 0, 1, 2, 2, 0, [288]), (83, 1, .iload 0, 1, 0, 0, 0, []),
  (84, 2, .iconst 0, 0, 0, 0, 48, []), (86, 1, .imul, 0, 0, 0, 0, []), (87, 1, .iload 0, 3, 0, 0, 0, []), (88, 1, .iadd, 0, 0, 0, 0, []), (89, 2, .lload 0, 5, 0, 0, 0, []), (91, 1, .lastore, 0, 0, 0, 0, []),
  (92, 3, .iinc 0 0, 3, 0, 0, 1, []), (95, 3, .goto 0, 6, 0, 0, 0, []), (98, 1, .return_, 0, 0, 0, 0, [])
  ]
def mc_X1_wayOf : List mv_E := [
  (0, 1, .iload 0, 1, 0, 0, 0, []), (1, 1, .iconst 0, 0, 0, 0, 3, []), (2, 1, .irem, 0, 0, 0, 0, []), (3, 2, .iconst 0, 0, 0, 0, 48, []), (5, 1, .imul, 0, 0, 0, 0, []), (6, 1, .iload 0, 2, 0, 0, 0, []),
  (7, 1, .iadd, 0, 0, 0, 0, []), (8, 1, .istore 0, 3, 0, 0, 0, []), (9, 1, .aload 0, 0, 0, 0, 0, []), (10, 3, .getfield 0, 1, 5, 2, 0, [294]), (13, 3, .getfield 0, 7, 2, 2, 0, [167]), (16, 1, .iload 0, 1, 0, 0, 0, []),
  (17, 1, .iconst 0, 0, 0, 0, 3, []), (18, 1, .idiv, 0, 0, 0, 0, []), (19, 1, .iaload, 0, 0, 0, 0, []), (20, 1, .iconst 0, 0, 0, 0, 1, []), (21, 3, .if_icmp .ne 0, 36, 0, 0, 0, []), (24, 1, .aload 0, 0, 0, 0, 0, []),
  (25, 3, .getfield 0, 1, 1, 2, 0, [287]), (28, 3, .getfield 0, 8, 1, 2, 0, [266]), (31, 1, .iload 0, 3, 0, 0, 0, []), (32, 1, .iaload, 0, 0, 0, 0, []), (33, 3, .goto 0, 45, 0, 0, 0, []), (36, 1, .aload 0, 0, 0, 0, 0, []),
  (37, 3, .getfield 0, 1, 1, 2, 0, [287]), (40, 3, .getfield 0, 8, 0, 2, 0, [264]), (43, 1, .iload 0, 3, 0, 0, 0, []), (44, 1, .iaload, 0, 0, 0, 0, []), (45, 1, .ireturn, 0, 0, 0, 0, [])
  ]
def mc_X1_takerOf : List mv_E := [
  (0, 1, .aload 0, 0, 0, 0, 0, []), (1, 3, .getfield 0, 1, 4, 2, 0, [293]), (4, 3, .getfield 0, 0, 9, 2, 0, [118]), (7, 1, .iload 0, 1, 0, 0, 0, []), (8, 1, .iaload, 0, 0, 0, 0, []), (9, 3, .ifCond .ne 0, 21, 0, 0, 0, []),
  (12, 1, .aload 0, 0, 0, 0, 0, []), (13, 1, .iload 0, 1, 0, 0, 0, []), (14, 1, .iconst 0, 0, 0, 0, (-1), []), (15, 3, .invokevirtual 0, 19, 3, 1, 1, [521, 522, 523, 18]), (18, 3, .goto 0, 22, 0, 0, 0, []), (21, 1, .iconst 0, 0, 0, 0, (-1), []),
  (22, 1, .ireturn, 0, 0, 0, 0, [])
  ]
def mc_X1_greatest : List mv_E := [
  (0, 1, .iconst 0, 0, 0, 0, (-1), []), (1, 1, .istore 0, 3, 0, 0, 0, []), (2, 1, .lconst 0, 0, 0, 0, 0, []), (3, 2, .lstore 0, 4, 0, 0, 0, []), (5, 1, .iconst 0, 0, 0, 0, 0, []), (6, 2, .istore 0, 6, 0, 0, 0, []),
  (8, 2, .iload 0, 6, 0, 0, 0, []), (10, 1, .aload 0, 0, 0, 0, 0, []), (11, 3, .getfield 0, 1, 5, 2, 0, [294]), (14, 3, .getfield 0, 7, 0, 0, 0, [160]), (17, 1, .iconst 0, 0, 0, 0, 3, []), (18, 1, .imul, 0, 0, 0, 0, []),
  (19, 3, .if_icmp .ge 0, 77, 0, 0, 0, []), (22, 1, .aload 0, 0, 0, 0, 0, []), (23, 3, .getfield 0, 1, 2, 2, 0, [288]), (26, 2, .iload 0, 6, 0, 0, 0, []), (28, 2, .iconst 0, 0, 0, 0, 48, []), (30, 1, .imul, 0, 0, 0, 0, []),
  (31, 1, .iload 0, 1, 0, 0, 0, []), (32, 1, .iadd, 0, 0, 0, 0, []), (33, 1, .laload, 0, 0, 0, 0, []), (34, 2, .lstore 0, 7, 0, 0, 0, []), (36, 2, .lload 0, 7, 0, 0, 0, []), (38, 2, .lload 0, 4, 0, 0, 0, []),
  (40, 1, .lcmp, 0, 0, 0, 0, []), (41, 3, .ifCond .le 0, 71, 0, 0, 0, []), (44, 2, .iload 0, 6, 0, 0, 0, []), (46, 1, .iload 0, 2, 0, 0, 0, []), (47, 3, .if_icmp .eq 0, 71, 0, 0, 0, []), (50, 2, .iload 0, 6, 0, 0, 0, []),
  (52, 1, .iconst 0, 0, 0, 0, 3, []), (53, 1, .irem, 0, 0, 0, 0, []), (54, 1, .aload 0, 0, 0, 0, 0, []), (55, 3, .getfield 0, 1, 4, 2, 0, [293]), (58, 3, .getfield 0, 0, 4, 0, 0, [100]), (61, 3, .if_icmp .ge 0, 71, 0, 0, 0, []),
  (64, 2, .lload 0, 7, 0, 0, 0, []), (66, 2, .lstore 0, 4, 0, 0, 0, []), (68, 2, .iload 0, 6, 0, 0, 0, []), (70, 1, .istore 0, 3, 0, 0, 0, []), (71, 3, .iinc 0 0, 6, 0, 0, 1, []), (74, 3, .goto 0, 8, 0, 0, 0, []),
  (77, 1, .iload 0, 3, 0, 0, 0, []), (78, 1, .ireturn, 0, 0, 0, 0, [])
  ]
def mc_X1_rentAt : List mv_E := [
  (0, 1, .aload 0, 0, 0, 0, 0, []), (1, 1, .aload 0, 0, 0, 0, 0, []), (2, 3, .getfield 0, 1, 3, 2, 0, [290]), (5, 1, .iload 0, 1, 0, 0, 0, []), (6, 1, .iaload, 0, 0, 0, 0, []), (7, 1, .iload 0, 1, 0, 0, 0, []),
  (8, 3, .invokevirtual 0, 21, 3, 1, 2, [542, 544, 6, 18]), (11, 1, .lreturn, 0, 0, 0, 0, [])
  ]
def mc_X1_rentBy : List mv_E := [
  (0, 1, .iload 0, 1, 0, 0, 0, []), (1, 1, .iconst 0, 0, 0, 0, (-1), []), (2, 3, .if_icmp .ne 0, 7, 0, 0, 0, []), (5, 1, .lconst 0, 0, 0, 0, 0, []), (6, 1, .lreturn, 0, 0, 0, 0, []), (7, 1, .aload 0, 0, 0, 0, 0, []),
  (8, 3, .getfield 0, 1, 2, 2, 0, [288]), (11, 1, .iload 0, 1, 0, 0, 0, []), (12, 2, .iconst 0, 0, 0, 0, 48, []), (14, 1, .imul, 0, 0, 0, 0, []), (15, 1, .iload 0, 2, 0, 0, 0, []), (16, 1, .iadd, 0, 0, 0, 0, []),
  (17, 1, .laload, 0, 0, 0, 0, []), (18, 1, .lstore 0, 3, 0, 0, 0, []), (19, 1, .lload 0, 3, 0, 0, 0, []), (20, 1, .lload 0, 3, 0, 0, 0, []), (21, 1, .aload 0, 0, 0, 0, 0, []), (22, 3, .getfield 0, 1, 5, 2, 0, [294]),
  (25, 3, .getfield 0, 7, 1, 0, 0, [164]), (28, 1, .i2l, 0, 0, 0, 0, []), (29, 1, .lmul, 0, 0, 0, 0, []), (30, 3, .lconst 0, 0, 0, 0, 100, [546]), (33, 1, .ldiv, 0, 0, 0, 0, []), (34, 1, .lsub, 0, 0, 0, 0, []),
  (35, 1, .lreturn, 0, 0, 0, 0, [])
  ]
def mc_X1_allRents : List mv_E := [
  (0, 1, .lconst 0, 0, 0, 0, 0, []), (1, 1, .lstore 0, 1, 0, 0, 0, []), (2, 1, .iconst 0, 0, 0, 0, 0, []), (3, 1, .istore 0, 3, 0, 0, 0, []), (4, 1, .iload 0, 3, 0, 0, 0, []), (5, 1, .aload 0, 0, 0, 0, 0, []),
  (6, 3, .getfield 0, 1, 4, 2, 0, [293]), (9, 3, .getfield 0, 0, 2, 0, 0, [95]), (12, 3, .if_icmp .ge 0, 29, 0, 0, 0, []), (15, 1, .lload 0, 1, 0, 0, 0, []), (16, 1, .aload 0, 0, 0, 0, 0, []), (17, 1, .iload 0, 3, 0, 0, 0, []),
  (18, 3, .invokevirtual 0, 20, 2, 1, 2, [538, 539, 540, 18]), (21, 1, .ladd, 0, 0, 0, 0, []), (22, 1, .lstore 0, 1, 0, 0, 0, []), (23, 3, .iinc 0 0, 3, 0, 0, 1, []), (26, 3, .goto 0, 4, 0, 0, 0, []), (29, 1, .lload 0, 1, 0, 0, 0, []),
  (30, 1, .lreturn, 0, 0, 0, 0, [])
  ]
def mc_X1_rentsOf : List mv_E := [
  (0, 1, .lconst 0, 0, 0, 0, 0, []), (1, 1, .lstore 0, 2, 0, 0, 0, []), (2, 1, .iconst 0, 0, 0, 0, 0, []), (3, 2, .istore 0, 4, 0, 0, 0, []), (5, 2, .iload 0, 4, 0, 0, 0, []), (7, 1, .aload 0, 0, 0, 0, 0, []),
  (8, 3, .getfield 0, 1, 4, 2, 0, [293]), (11, 3, .getfield 0, 0, 2, 0, 0, [95]), (14, 3, .if_icmp .ge 0, 52, 0, 0, 0, []), (17, 1, .aload 0, 0, 0, 0, 0, []), (18, 3, .getfield 0, 1, 4, 2, 0, [293]), (21, 3, .getfield 0, 0, 8, 2, 0, [114]),
  (24, 2, .iload 0, 4, 0, 0, 0, []), (26, 1, .iaload, 0, 0, 0, 0, []), (27, 1, .iload 0, 1, 0, 0, 0, []), (28, 3, .if_icmp .ne 0, 46, 0, 0, 0, []), (31, 1, .lload 0, 2, 0, 0, 0, []), (32, 1, .aload 0, 0, 0, 0, 0, []),
  (33, 1, .aload 0, 0, 0, 0, 0, []), (34, 2, .iload 0, 4, 0, 0, 0, []), (36, 3, .invokevirtual 0, 18, 2, 1, 1, [517, 518, 519, 18]), (39, 2, .iload 0, 4, 0, 0, 0, []), (41, 3, .invokevirtual 0, 21, 3, 1, 2, [542, 544, 6, 18]), (44, 1, .ladd, 0, 0, 0, 0, []),
  (45, 1, .lstore 0, 2, 0, 0, 0, []), (46, 3, .iinc 0 0, 4, 0, 0, 1, []), (49, 3, .goto 0, 5, 0, 0, 0, []), (52, 1, .lload 0, 2, 0, 0, 0, []), (53, 1, .lreturn, 0, 0, 0, 0, [])
  ]
def mc_X1_isTakenBy : List mv_E := [
  (0, 1, .aload 0, 0, 0, 0, 0, []), (1, 3, .getfield 0, 1, 3, 2, 0, [290]), (4, 1, .iload 0, 2, 0, 0, 0, []), (5, 1, .iaload, 0, 0, 0, 0, []), (6, 1, .iconst 0, 0, 0, 0, (-1), []), (7, 3, .if_icmp .eq 0, 26, 0, 0, 0, []),
  (10, 1, .aload 0, 0, 0, 0, 0, []), (11, 3, .getfield 0, 1, 3, 2, 0, [290]), (14, 1, .iload 0, 2, 0, 0, 0, []), (15, 1, .iaload, 0, 0, 0, 0, []), (16, 1, .iconst 0, 0, 0, 0, 3, []), (17, 1, .idiv, 0, 0, 0, 0, []),
  (18, 1, .iload 0, 1, 0, 0, 0, []), (19, 3, .if_icmp .ne 0, 26, 0, 0, 0, []), (22, 1, .iconst 0, 0, 0, 0, 1, []), (23, 3, .goto 0, 27, 0, 0, 0, []), (26, 1, .iconst 0, 0, 0, 0, 0, []), (27, 1, .ireturn, 1, 0, 0, 0, [])
  ]
def mc_X1_wasteAcres : List mv_E := [
  (0, 1, .iconst 0, 0, 0, 0, 0, []), (1, 1, .istore 0, 1, 0, 0, 0, []), (2, 1, .iconst 0, 0, 0, 0, 0, []), (3, 1, .istore 0, 2, 0, 0, 0, []), (4, 1, .iload 0, 2, 0, 0, 0, []), (5, 1, .aload 0, 0, 0, 0, 0, []),
  (6, 3, .getfield 0, 1, 4, 2, 0, [293]), (9, 3, .getfield 0, 0, 2, 0, 0, [95]), (12, 3, .if_icmp .ge 0, 39, 0, 0, 0, []), (15, 1, .iload 0, 1, 0, 0, 0, []), (16, 1, .aload 0, 0, 0, 0, 0, []), (17, 3, .getfield 0, 1, 3, 2, 0, [290]),
  (20, 1, .iload 0, 2, 0, 0, 0, []), (21, 1, .iaload, 0, 0, 0, 0, []), (22, 1, .iconst 0, 0, 0, 0, (-1), []), (23, 3, .if_icmp .ne 0, 30, 0, 0, 0, []), (26, 1, .iconst 0, 0, 0, 0, 1, []), (27, 3, .goto 0, 31, 0, 0, 0, []),
  (30, 1, .iconst 0, 0, 0, 0, 0, []), (31, 1, .iadd, 0, 0, 0, 0, []), (32, 1, .istore 0, 1, 0, 0, 0, []), (33, 3, .iinc 0 0, 2, 0, 0, 1, []), (36, 3, .goto 0, 4, 0, 0, 0, []), (39, 1, .iload 0, 1, 0, 0, 0, []),
  (40, 1, .ireturn, 0, 0, 0, 0, [])
  ]
def mc_X1_fallingWaste : List mv_E := [
  (0, 1, .aload 0, 0, 0, 0, 0, []), (1, 3, .getfield 0, 1, 5, 2, 0, [294]), (4, 3, .getfield 0, 7, 7, 2, 0, [175]), (7, 1, .iload 0, 1, 0, 0, 0, []), (8, 1, .iaload, 0, 0, 0, 0, []), (9, 1, .istore 0, 3, 0, 0, 0, []),
  (10, 1, .aload 0, 0, 0, 0, 0, []), (11, 3, .getfield 0, 1, 5, 2, 0, [294]), (14, 3, .getfield 0, 7, 7, 2, 0, [175]), (17, 1, .iload 0, 1, 0, 0, 0, []), (18, 1, .iload 0, 2, 0, 0, 0, []), (19, 1, .iastore, 0, 0, 0, 0, []),
  (20, 1, .iconst 0, 0, 0, 0, 0, []), (21, 2, .istore 0, 4, 0, 0, 0, []), (23, 2, .iload 0, 4, 0, 0, 0, []), (25, 1, .aload 0, 0, 0, 0, 0, []), (26, 3, .getfield 0, 1, 4, 2, 0, [293]), (29, 3, .getfield 0, 0, 4, 0, 0, [100]),
  (32, 3, .if_icmp .ge 0, 51, 0, 0, 0, []), (35, 1, .aload 0, 0, 0, 0, 0, []), (36, 1, .iload 0, 1, 0, 0, 0, []), (37, 2, .iload 0, 4, 0, 0, 0, []), (39, 3, .invokestatic 0, 131, 2, 1, 1, [615, 557, 15]), (42, 3, .invokevirtual 0, 16, 2, 1, 0, [488, 489, 490, 18]),
  (45, 3, .iinc 0 0, 4, 0, 0, 1, []), (48, 3, .goto 0, 23, 0, 0, 0, []), (51, 1, .iconst 0, 0, 0, 0, 0, []), (52, 2, .istore 0, 4, 0, 0, 0, []), (54, 1, .iconst 0, 0, 0, 0, 0, []), (55, 2, .istore 0, 5, 0, 0, 0, []),
  (57, 2, .iload 0, 5, 0, 0, 0, []), (59, 1, .aload 0, 0, 0, 0, 0, []), (60, 3, .getfield 0, 1, 4, 2, 0, [293]), (63, 3, .getfield 0, 0, 2, 0, 0, [95]), (66, 3, .if_icmp .ge 0, 98, 0, 0, 0, []), (69, 1, .aload 0, 0, 0, 0, 0, []),
  (70, 1, .iload 0, 1, 0, 0, 0, []), (71, 2, .iload 0, 5, 0, 0, 0, []), (73, 3, .invokevirtual 0, 25, 3, 1, 1, [616, 618, 11, 18]), (76, 3, .ifCond .eq 0, 92, 0, 0, 0, []), (79, 1, .aload 0, 0, 0, 0, 0, []), (80, 2, .iload 0, 5, 0, 0, 0, []),
  (82, 3, .invokevirtual 0, 18, 2, 1, 1, [517, 518, 519, 18]), (85, 1, .iconst 0, 0, 0, 0, (-1), []), (86, 3, .if_icmp .ne 0, 92, 0, 0, 0, []), (89, 3, .iinc 0 0, 4, 0, 0, 1, []), (92, 3, .iinc 0 0, 5, 0, 0, 1, []), (95, 3, .goto 0, 57, 0, 0, 0, []),
  (98, 1, .aload 0, 0, 0, 0, 0, []), (99, 3, .getfield 0, 1, 5, 2, 0, [294]), (102, 3, .getfield 0, 7, 7, 2, 0, [175]), (105, 1, .iload 0, 1, 0, 0, 0, []), (106, 1, .iload 0, 3, 0, 0, 0, []), (107, 1, .iastore, 0, 0, 0, 0, []),
  (108, 1, .aload 0, 0, 0, 0, 0, []), (109, 1, .iconst 0, 0, 0, 0, 0, []), (110, 3, .putfield 0, 1, 7, 1, 0, [296]), (113, 2, .iload 0, 4, 0, 0, 0, []), (115, 1, .ireturn, 0, 0, 0, 0, [])
  ]
def mc_X2_init : List mv_E := [
  (0, 1, .aload 0, 0, 0, 0, 0, []), (1, 3, .invokespecial 0, 0, 0, 1, 0, [222, 35, 36]), (4, 1, .aload 0, 0, 0, 0, 0, []), (5, 1, .iconst 0, 0, 0, 0, 0, []), (6, 3, .putfield 0, 2, 0, 0, 0, [223]), (9, 1, .aload 0, 0, 0, 0, 0, []),
  (10, 2, .iconst 0, 0, 0, 0, 8, []), (12, 2, .newarray .int, 100, 0, 0, 0, [53]), (14, 3, .putfield 0, 2, 1, 2, 0, [225]), (17, 1, .aload 0, 0, 0, 0, 0, []), (18, 2, .iconst 0, 0, 0, 0, 8, []), (20, 2, .newarray .int, 100, 0, 0, 0, [53]),
  (22, 3, .putfield 0, 2, 2, 2, 0, [226]), (25, 1, .aload 0, 0, 0, 0, 0, []), (26, 2, .iconst 0, 0, 0, 0, 8, []), (28, 2, .newarray .int, 100, 0, 0, 0, [53]), (30, 3, .putfield 0, 2, 3, 2, 0, [227]), (33, 1, .aload 0, 0, 0, 0, 0, []),
  (34, 2, .iconst 0, 0, 0, 0, 8, []), (36, 2, .newarray .int, 100, 0, 0, 0, [53]), (38, 3, .putfield 0, 2, 4, 2, 0, [228]), (41, 1, .return_, 0, 0, 0, 0, [])
  ]
def mc_X2_takeFrom : List mv_E := [
  (0, 1, .aload 0, 0, 0, 0, 0, []), (1, 1, .aload 0, 1, 0, 0, 0, []), (2, 3, .getfield 0, 2, 0, 0, 0, [223]), (5, 3, .putfield 0, 2, 0, 0, 0, [223]), (8, 1, .aload 0, 1, 0, 0, 0, []), (9, 3, .getfield 0, 2, 1, 2, 0, [225]),
  (12, 1, .iconst 0, 0, 0, 0, 0, []), (13, 1, .aload 0, 0, 0, 0, 0, []), (14, 3, .getfield 0, 2, 1, 2, 0, [225]), (17, 1, .iconst 0, 0, 0, 0, 0, []), (18, 2, .iconst 0, 0, 0, 0, 8, []), (20, 3, .invokestatic 0, 0, 0, 100, 0, [670, 638, 637, 27]),
  (23, 1, .aload 0, 1, 0, 0, 0, []), (24, 3, .getfield 0, 2, 2, 2, 0, [226]), (27, 1, .iconst 0, 0, 0, 0, 0, []), (28, 1, .aload 0, 0, 0, 0, 0, []), (29, 3, .getfield 0, 2, 2, 2, 0, [226]), (32, 1, .iconst 0, 0, 0, 0, 0, []),
  (33, 2, .iconst 0, 0, 0, 0, 8, []), (35, 3, .invokestatic 0, 0, 0, 100, 0, [670, 638, 637, 27]), (38, 1, .aload 0, 1, 0, 0, 0, []), (39, 3, .getfield 0, 2, 3, 2, 0, [227]), (42, 1, .iconst 0, 0, 0, 0, 0, []), (43, 1, .aload 0, 0, 0, 0, 0, []),
  (44, 3, .getfield 0, 2, 3, 2, 0, [227]), (47, 1, .iconst 0, 0, 0, 0, 0, []), (48, 2, .iconst 0, 0, 0, 0, 8, []), (50, 3, .invokestatic 0, 0, 0, 100, 0, [670, 638, 637, 27]), (53, 1, .aload 0, 1, 0, 0, 0, []), (54, 3, .getfield 0, 2, 4, 2, 0, [228]),
  (57, 1, .iconst 0, 0, 0, 0, 0, []), (58, 1, .aload 0, 0, 0, 0, 0, []), (59, 3, .getfield 0, 2, 4, 2, 0, [228]), (62, 1, .iconst 0, 0, 0, 0, 0, []), (63, 2, .iconst 0, 0, 0, 0, 8, []), (65, 3, .invokestatic 0, 0, 0, 100, 0, [670, 638, 637, 27]),
  (68, 1, .return_, 0, 0, 0, 0, [])
  ]
def mc_X3_init : List mv_E := [
  (0, 1, .aload 0, 0, 0, 0, 0, []), (1, 3, .invokespecial 0, 0, 0, 1, 0, [351, 35, 36]), (4, 1, .aload 0, 0, 0, 0, 0, []), (5, 2, .iconst 0, 0, 0, 0, 6, []), (7, 2, .newarray .long, 101, 0, 0, 0, [314]), (9, 3, .putfield 0, 3, 0, 2, 0, [352]),
  (12, 1, .aload 0, 0, 0, 0, 0, []), (13, 2, .iconst 0, 0, 0, 0, 6, []), (15, 2, .newarray .long, 101, 0, 0, 0, [314]), (17, 3, .putfield 0, 3, 1, 2, 0, [353]), (20, 1, .aload 0, 0, 0, 0, 0, []), (21, 2, .iconst 0, 0, 0, 0, 23, []),
  (23, 2, .newarray .long, 101, 0, 0, 0, [314]), (25, 3, .putfield 0, 3, 2, 2, 0, [354]), (28, 1, .aload 0, 0, 0, 0, 0, []), (29, 2, .iconst 0, 0, 0, 0, 23, []), (31, 2, .newarray .long, 101, 0, 0, 0, [314]), (33, 3, .putfield 0, 3, 3, 2, 0, [355]),
  (36, 1, .aload 0, 0, 0, 0, 0, []), (37, 1, .iconst 0, 0, 0, 0, 0, []), (38, 3, .putfield 0, 3, 4, 0, 0, [356]), (41, 1, .aload 0, 0, 0, 0, 0, []), (42, 1, .iconst 0, 0, 0, 0, 0, []), (43, 3, .putfield 0, 3, 5, 0, 0, [357]),
  (46, 1, .aload 0, 0, 0, 0, 0, []), (47, 2, .iconst 0, 0, 0, 0, 23, []), (49, 2, .newarray .int, 100, 0, 0, 0, [53]), (51, 3, .putfield 0, 3, 6, 2, 0, [358]), (54, 1, .aload 0, 0, 0, 0, 0, []), (55, 2, .iconst 0, 0, 0, 0, 23, []),
  (57, 2, .newarray .long, 101, 0, 0, 0, [314]), (59, 3, .putfield 0, 3, 7, 2, 0, [359]), (62, 1, .aload 0, 0, 0, 0, 0, []), (63, 2, .iconst 0, 0, 0, 0, 23, []), (65, 2, .newarray .long, 101, 0, 0, 0, [314]), (67, 3, .putfield 0, 3, 8, 2, 0, [360]),
  (70, 1, .return_, 0, 0, 0, 0, [])
  ]
def mc_X4_init : List mv_E := [
  (0, 1, .aload 0, 0, 0, 0, 0, []), (1, 3, .invokespecial 0, 0, 0, 1, 0, [59, 35, 36]), (4, 1, .aload 0, 0, 0, 0, 0, []), (5, 2, .iconst 0, 0, 0, 0, 48, []), (7, 2, .newarray .int, 100, 0, 0, 0, [53]), (9, 3, .putfield 0, 4, 0, 2, 0, [60]),
  (12, 1, .aload 0, 0, 0, 0, 0, []), (13, 1, .iconst 0, 0, 0, 0, 0, []), (14, 3, .putfield 0, 4, 1, 0, 0, [61]), (17, 1, .return_, 0, 0, 0, 0, [])
  ]
def mc_X5_init : List mv_E := [
  (0, 1, .aload 0, 0, 0, 0, 0, []), (1, 3, .invokespecial 0, 0, 0, 1, 0, [42, 35, 36]), (4, 1, .aload 0, 0, 0, 0, 0, []), (5, 2, .iconst 0, 0, 0, 0, 60, []), (7, 2, .newarray .int, 100, 0, 0, 0, [53]), (9, 3, .putfield 0, 5, 0, 2, 0, [43]),
  (12, 1, .aload 0, 0, 0, 0, 0, []), (13, 1, .iconst 0, 0, 0, 0, 0, []), (14, 3, .putfield 0, 5, 1, 0, 0, [45]), (17, 1, .return_, 0, 0, 0, 0, [])
  ]
def mc_X5_append : List mv_E := [
  (0, 1, .lload 0, 2, 0, 0, 0, []), (1, 2, .lstore 0, 4, 0, 0, 0, []), (3, 1, .iconst 0, 0, 0, 0, 0, []), (4, 2, .istore 0, 6, 0, 0, 0, []), (6, 2, .iload 0, 6, 0, 0, 0, []), (8, 1, .iload 0, 1, 0, 0, 0, []),
  (9, 3, .if_icmp .ge 0, 60, 0, 0, 0, []), (12, 1, .aload 0, 0, 0, 0, 0, []), (13, 3, .getfield 0, 5, 1, 0, 0, [45]), (16, 2, .iconst 0, 0, 0, 0, 60, []), (18, 3, .if_icmp .ge 0, 60, 0, 0, 0, []), (21, 1, .aload 0, 0, 0, 0, 0, []),
  (22, 3, .getfield 0, 5, 0, 2, 0, [43]), (25, 1, .aload 0, 0, 0, 0, 0, []), (26, 3, .getfield 0, 5, 1, 0, 0, [45]), (29, 2, .lload 0, 4, 0, 0, 0, []), (31, 3, .lconst 0, 0, 0, 0, 255, [712]), (34, 1, .land, 0, 0, 0, 0, []),
  (35, 1, .l2i, 0, 0, 0, 0, []), (36, 1, .iastore, 0, 0, 0, 0, []), (37, 1, .aload 0, 0, 0, 0, 0, []), (38, 1, .dup, 0, 0, 0, 0, []), (39, 3, .getfield 0, 5, 1, 0, 0, [45]), (42, 1, .iconst 0, 0, 0, 0, 1, []),
  (43, 1, .iadd, 0, 0, 0, 0, []), (44, 3, .putfield 0, 5, 1, 0, 0, [45]), (47, 2, .lload 0, 4, 0, 0, 0, []), (49, 2, .iconst 0, 0, 0, 0, 8, []), (51, 1, .lushr, 0, 0, 0, 0, []), (52, 2, .lstore 0, 4, 0, 0, 0, []),
  (54, 3, .iinc 0 0, 6, 0, 0, 1, []), (57, 3, .goto 0, 6, 0, 0, 0, []), (60, 1, .return_, 0, 0, 0, 0, [])
  ]
def mc_X5_firstFault : List mv_E := [
  (0, 2, .iconst 0, 0, 0, 0, 8, []), (2, 1, .istore 0, 1, 0, 0, 0, []), (3, 1, .iconst 0, 0, 0, 0, 0, []), (4, 1, .istore 0, 2, 0, 0, 0, []), (5, 1, .iconst 0, 0, 0, 0, 0, []), (6, 1, .istore 0, 3, 0, 0, 0, []),
  (7, 1, .iconst 0, 0, 0, 0, 0, []), (8, 2, .istore 0, 4, 0, 0, 0, []), (10, 2, .iload 0, 4, 0, 0, 0, []), (12, 1, .aload 0, 0, 0, 0, 0, []), (13, 3, .getfield 0, 5, 1, 0, 0, [45]), (16, 3, .if_icmp .ge 0, 95, 0, 0, 0, []),
  (19, 1, .aload 0, 0, 0, 0, 0, []), (20, 3, .getfield 0, 5, 0, 2, 0, [43]), (23, 2, .iload 0, 4, 0, 0, 0, []), (25, 1, .iaload, 0, 0, 0, 0, []), (26, 2, .iconst 0, 0, 0, 0, 47, []), (28, 3, .if_icmp .ne 0, 65, 0, 0, 0, []),
  (31, 1, .iload 0, 3, 0, 0, 0, []), (32, 3, .ifCond .eq 0, 52, 0, 0, 0, []), (35, 1, .iload 0, 2, 0, 0, 0, []), (36, 3, .ifCond .le 0, 44, 0, 0, 0, []), (39, 1, .iload 0, 3, 0, 0, 0, []), (40, 1, .iload 0, 1, 0, 0, 0, []),
  (41, 3, .if_icmp .lt 0, 52, 0, 0, 0, []), (44, 1, .iload 0, 2, 0, 0, 0, []), (45, 1, .iconst 0, 0, 0, 0, 1, []), (46, 1, .iadd, 0, 0, 0, 0, []), (47, 2, .iconst 0, 0, 0, 0, 6, []), (49, 3, .if_icmp .ne 0, 55, 0, 0, 0, []),
  (52, 2, .iload 0, 4, 0, 0, 0, []), (54, 1, .ireturn, 0, 0, 0, 0, []), (55, 1, .iload 0, 3, 0, 0, 0, []), (56, 1, .istore 0, 1, 0, 0, 0, []), (57, 3, .iinc 0 0, 2, 0, 0, 1, []), (60, 1, .iconst 0, 0, 0, 0, 0, []),
  (61, 1, .istore 0, 3, 0, 0, 0, []), (62, 3, .goto 0, 89, 0, 0, 0, []), (65, 1, .aload 0, 0, 0, 0, 0, []), (66, 3, .getfield 0, 5, 0, 2, 0, [43]), (69, 2, .iload 0, 4, 0, 0, 0, []), (71, 1, .iaload, 0, 0, 0, 0, []),
  (72, 3, .invokestatic 0, 48, 1, 1, 1, [722, 723, 16]), (75, 3, .ifCond .eq 0, 83, 0, 0, 0, []), (78, 1, .iload 0, 3, 0, 0, 0, []), (79, 1, .iload 0, 1, 0, 0, 0, []), (80, 3, .if_icmp .ne 0, 86, 0, 0, 0, []), (83, 2, .iload 0, 4, 0, 0, 0, []),
  (85, 1, .ireturn, 0, 0, 0, 0, []), (86, 3, .iinc 0 0, 3, 0, 0, 1, []), (89, 3, .iinc 0 0, 4, 0, 0, 1, []), (92, 3, .goto 0, 10, 0, 0, 0, []), (95, 1, .iload 0, 3, 0, 0, 0, []), (96, 3, .ifCond .eq 0, 108, 0, 0, 0, []),
  (99, 1, .iload 0, 2, 0, 0, 0, []), (100, 3, .ifCond .le 0, 115, 0, 0, 0, []), (103, 1, .iload 0, 3, 0, 0, 0, []), (104, 1, .iload 0, 1, 0, 0, 0, []), (105, 3, .if_icmp .ge 0, 115, 0, 0, 0, []), (108, 1, .aload 0, 0, 0, 0, 0, []),
  (109, 3, .getfield 0, 5, 1, 0, 0, [45]), (112, 3, .goto 0, 116, 0, 0, 0, []), (115, 1, .iconst 0, 0, 0, 0, (-1), []), (116, 1, .ireturn, 0, 0, 0, 0, [])
  ]
def mc_X5_isDigit : List mv_E := [
  (0, 1, .iload 0, 0, 0, 0, 0, []), (1, 2, .iconst 0, 0, 0, 0, 48, []), (3, 3, .if_icmp .lt 0, 16, 0, 0, 0, []), (6, 1, .iload 0, 0, 0, 0, 0, []), (7, 2, .iconst 0, 0, 0, 0, 57, []), (9, 3, .if_icmp .gt 0, 16, 0, 0, 0, []),
  (12, 1, .iconst 0, 0, 0, 0, 1, []), (13, 3, .goto 0, 17, 0, 0, 0, []), (16, 1, .iconst 0, 0, 0, 0, 0, []), (17, 1, .ireturn, 1, 0, 0, 0, [])
  ]
def mc_X6_init : List mv_E := [
  (0, 1, .aload 0, 0, 0, 0, 0, []), (1, 3, .invokespecial 0, 0, 0, 1, 0, [322, 35, 36]), (4, 1, .aload 0, 0, 0, 0, 0, []), (5, 2, .iconst 0, 0, 0, 0, 48, []), (7, 2, .newarray .int, 100, 0, 0, 0, [53]), (9, 3, .putfield 0, 6, 0, 2, 0, [323]),
  (12, 1, .aload 0, 0, 0, 0, 0, []), (13, 2, .iconst 0, 0, 0, 0, 48, []), (15, 2, .newarray .int, 100, 0, 0, 0, [53]), (17, 3, .putfield 0, 6, 1, 2, 0, [324]), (20, 1, .aload 0, 0, 0, 0, 0, []), (21, 2, .iconst 0, 0, 0, 0, 18, []),
  (23, 2, .newarray .int, 100, 0, 0, 0, [53]), (25, 3, .putfield 0, 6, 2, 2, 0, [325]), (28, 1, .aload 0, 0, 0, 0, 0, []), (29, 3, .iconst 0, 0, 0, 0, 864, []), (32, 2, .newarray .long, 101, 0, 0, 0, [314]), (34, 3, .putfield 0, 6, 3, 2, 0, [326]),
  (37, 1, .return_, 0, 0, 0, 0, [])
  ]
def mc_X6_clearingPrice : List mv_E := [
  (0, 1, .aload 0, 1, 0, 0, 0, []), (1, 3, .getfield 0, 1, 0, 2, 0, [286]), (4, 3, .getfield 0, 10, 0, 2, 0, [243]), (7, 1, .astore 0, 3, 0, 0, 0, []), (8, 1, .aload 0, 1, 0, 0, 0, []), (9, 3, .getfield 0, 1, 0, 2, 0, [286]),
  (12, 3, .getfield 0, 10, 1, 2, 0, [247]), (15, 2, .astore 0, 4, 0, 0, 0, []), (17, 1, .iconst 0, 0, 0, 0, 0, []), (18, 2, .istore 0, 5, 0, 0, 0, []), (20, 2, .iload 0, 5, 0, 0, 0, []), (22, 1, .aload 0, 3, 0, 0, 0, []),
  (23, 3, .getfield 0, 0, 2, 0, 0, [93]), (26, 3, .if_icmp .ge 0, 72, 0, 0, 0, []), (29, 1, .aload 0, 0, 0, 0, 0, []), (30, 3, .getfield 0, 6, 1, 2, 0, [324]), (33, 2, .iload 0, 5, 0, 0, 0, []), (35, 2, .aload 0, 4, 0, 0, 0, []),
  (37, 1, .iload 0, 2, 0, 0, 0, []), (38, 1, .iconst 0, 0, 0, 0, 3, []), (39, 1, .idiv, 0, 0, 0, 0, []), (40, 1, .aload 0, 3, 0, 0, 0, []), (41, 3, .getfield 0, 0, 6, 2, 0, [105]), (44, 2, .iload 0, 5, 0, 0, 0, []),
  (46, 1, .iaload, 0, 0, 0, 0, []), (47, 3, .invokevirtual 0, 61, 3, 7, 1, [579, 505, 506, 21]), (50, 1, .iastore, 0, 0, 0, 0, []), (51, 1, .aload 0, 0, 0, 0, 0, []), (52, 3, .getfield 0, 6, 0, 2, 0, [323]), (55, 2, .iload 0, 5, 0, 0, 0, []),
  (57, 1, .aload 0, 0, 0, 0, 0, []), (58, 1, .aload 0, 1, 0, 0, 0, []), (59, 1, .iload 0, 2, 0, 0, 0, []), (60, 2, .iload 0, 5, 0, 0, 0, []), (62, 3, .invokevirtual 0, 52, 4, 6, 1, [580, 582, 9, 24]), (65, 1, .iastore, 0, 0, 0, 0, []),
  (66, 3, .iinc 0 0, 5, 0, 0, 1, []), (69, 3, .goto 0, 20, 0, 0, 0, []), (72, 1, .iconst 0, 0, 0, 0, (-1), []), (73, 2, .istore 0, 5, 0, 0, 0, []), (75, 3, .iconst 0, 0, 0, 0, 512, []), (78, 2, .istore 0, 6, 0, 0, 0, []),
  (80, 2, .iload 0, 6, 0, 0, 0, []), (82, 3, .ifCond .le 0, 134, 0, 0, 0, []), (85, 2, .iload 0, 5, 0, 0, 0, []), (87, 2, .iload 0, 6, 0, 0, 0, []), (89, 1, .iadd, 0, 0, 0, 0, []), (90, 2, .istore 0, 7, 0, 0, 0, []),
  (92, 2, .iload 0, 7, 0, 0, 0, []), (94, 3, .iconst 0, 0, 0, 0, 999, []), (97, 3, .if_icmp .gt 0, 125, 0, 0, 0, []), (100, 1, .aload 0, 0, 0, 0, 0, []), (101, 2, .iload 0, 7, 0, 0, 0, []), (103, 1, .aload 0, 3, 0, 0, 0, []),
  (104, 3, .getfield 0, 0, 2, 0, 0, [93]), (107, 3, .invokevirtual 0, 51, 3, 6, 1, [598, 600, 10, 24]), (110, 2, .aload 0, 4, 0, 0, 0, []), (112, 1, .iload 0, 2, 0, 0, 0, []), (113, 2, .iload 0, 7, 0, 0, 0, []), (115, 3, .invokevirtual 0, 66, 3, 7, 1, [602, 603, 604, 21]),
  (118, 3, .if_icmp .ge 0, 125, 0, 0, 0, []), (121, 2, .iload 0, 7, 0, 0, 0, []), (123, 2, .istore 0, 5, 0, 0, 0, []), (125, 2, .iload 0, 6, 0, 0, 0, []), (127, 1, .iconst 0, 0, 0, 0, 2, []), (128, 1, .idiv, 0, 0, 0, 0, []),
  (129, 2, .istore 0, 6, 0, 0, 0, []), (131, 3, .goto 0, 80, 0, 0, 0, []), (134, 2, .iload 0, 5, 0, 0, 0, []), (136, 3, .iconst 0, 0, 0, 0, 999, []), (139, 3, .if_icmp .ne 0, 147, 0, 0, 0, []), (142, 2, .iconst 0, 0, 0, 0, (-9), []),
  (144, 3, .goto 0, 151, 0, 0, 0, []), (147, 2, .iload 0, 5, 0, 0, 0, []), (149, 1, .iconst 0, 0, 0, 0, 1, []), (150, 1, .iadd, 0, 0, 0, 0, []), (151, 1, .ireturn, 0, 0, 0, 0, [])
  ]
def mc_X6_comingAt : List mv_E := [
  (0, 1, .iconst 0, 0, 0, 0, 0, []), (1, 1, .istore 0, 3, 0, 0, 0, []), (2, 1, .iconst 0, 0, 0, 0, 0, []), (3, 2, .istore 0, 4, 0, 0, 0, []), (5, 2, .iload 0, 4, 0, 0, 0, []), (7, 1, .iload 0, 2, 0, 0, 0, []),
  (8, 3, .if_icmp .ge 0, 38, 0, 0, 0, []), (11, 1, .aload 0, 0, 0, 0, 0, []), (12, 3, .getfield 0, 6, 0, 2, 0, [323]), (15, 2, .iload 0, 4, 0, 0, 0, []), (17, 1, .iaload, 0, 0, 0, 0, []), (18, 1, .iload 0, 1, 0, 0, 0, []),
  (19, 3, .if_icmp .gt 0, 32, 0, 0, 0, []), (22, 1, .iload 0, 3, 0, 0, 0, []), (23, 1, .aload 0, 0, 0, 0, 0, []), (24, 3, .getfield 0, 6, 1, 2, 0, [324]), (27, 2, .iload 0, 4, 0, 0, 0, []), (29, 1, .iaload, 0, 0, 0, 0, []),
  (30, 1, .iadd, 0, 0, 0, 0, []), (31, 1, .istore 0, 3, 0, 0, 0, []), (32, 3, .iinc 0 0, 4, 0, 0, 1, []), (35, 3, .goto 0, 5, 0, 0, 0, []), (38, 1, .iload 0, 3, 0, 0, 0, []), (39, 1, .ireturn, 0, 0, 0, 0, [])
  ]
def mc_X6_leastPriceFor : List mv_E := [
  (0, 1, .aload 0, 1, 0, 0, 0, []), (1, 3, .getfield 0, 1, 0, 2, 0, [286]), (4, 3, .getfield 0, 10, 1, 2, 0, [247]), (7, 2, .astore 0, 4, 0, 0, 0, []), (9, 1, .aload 0, 1, 0, 0, 0, []), (10, 1, .iload 0, 2, 0, 0, 0, []),
  (11, 1, .iload 0, 3, 0, 0, 0, []), (12, 3, .invokevirtual 0, 17, 3, 1, 1, [584, 493, 494, 18]), (15, 2, .istore 0, 5, 0, 0, 0, []), (17, 1, .aload 0, 1, 0, 0, 0, []), (18, 3, .getfield 0, 1, 0, 2, 0, [286]), (21, 3, .getfield 0, 10, 0, 2, 0, [243]),
  (24, 3, .getfield 0, 0, 9, 2, 0, [116]), (27, 1, .iload 0, 3, 0, 0, 0, []), (28, 1, .iaload, 0, 0, 0, 0, []), (29, 3, .ifCond .ne 0, 54, 0, 0, 0, []), (32, 1, .aload 0, 0, 0, 0, 0, []), (33, 3, .getfield 0, 6, 1, 2, 0, [324]),
  (36, 1, .iload 0, 3, 0, 0, 0, []), (37, 1, .iaload, 0, 0, 0, 0, []), (38, 3, .ifCond .le 0, 54, 0, 0, 0, []), (41, 2, .aload 0, 4, 0, 0, 0, []), (43, 1, .iload 0, 2, 0, 0, 0, []), (44, 1, .iconst 0, 0, 0, 0, 3, []),
  (45, 1, .idiv, 0, 0, 0, 0, []), (46, 2, .iload 0, 5, 0, 0, 0, []), (48, 3, .invokevirtual 0, 65, 3, 7, 1, [585, 497, 498, 21]), (51, 3, .ifCond .ne 0, 58, 0, 0, 0, []), (54, 3, .iconst 0, 0, 0, 0, 1000, []), (57, 1, .ireturn, 0, 0, 0, 0, []),
  (58, 1, .aload 0, 1, 0, 0, 0, []), (59, 1, .iload 0, 3, 0, 0, 0, []), (60, 1, .iload 0, 2, 0, 0, 0, []), (61, 3, .invokevirtual 0, 19, 3, 1, 1, [586, 522, 523, 18]), (64, 2, .istore 0, 6, 0, 0, 0, []), (66, 1, .lconst 0, 0, 0, 0, 1, []),
  (67, 2, .lstore 0, 7, 0, 0, 0, []), (69, 2, .iload 0, 6, 0, 0, 0, []), (71, 1, .iconst 0, 0, 0, 0, (-1), []), (72, 3, .if_icmp .eq 0, 102, 0, 0, 0, []), (75, 1, .aload 0, 1, 0, 0, 0, []), (76, 3, .getfield 0, 1, 2, 2, 0, [289]),
  (79, 2, .iload 0, 6, 0, 0, 0, []), (81, 2, .iconst 0, 0, 0, 0, 48, []), (83, 1, .imul, 0, 0, 0, 0, []), (84, 1, .iload 0, 3, 0, 0, 0, []), (85, 1, .iadd, 0, 0, 0, 0, []), (86, 1, .laload, 0, 0, 0, 0, []),
  (87, 2, .iload 0, 6, 0, 0, 0, []), (89, 1, .iload 0, 2, 0, 0, 0, []), (90, 3, .if_icmp .ge 0, 97, 0, 0, 0, []), (93, 1, .iconst 0, 0, 0, 0, 1, []), (94, 3, .goto 0, 98, 0, 0, 0, []), (97, 1, .iconst 0, 0, 0, 0, 0, []),
  (98, 1, .i2l, 0, 0, 0, 0, []), (99, 1, .ladd, 0, 0, 0, 0, []), (100, 2, .lstore 0, 7, 0, 0, 0, []), (102, 2, .lload 0, 7, 0, 0, 0, []), (104, 1, .aload 0, 1, 0, 0, 0, []), (105, 3, .getfield 0, 1, 2, 2, 0, [289]),
  (108, 1, .iload 0, 2, 0, 0, 0, []), (109, 2, .iconst 0, 0, 0, 0, 48, []), (111, 1, .imul, 0, 0, 0, 0, []), (112, 1, .iload 0, 3, 0, 0, 0, []), (113, 1, .iadd, 0, 0, 0, 0, []), (114, 1, .laload, 0, 0, 0, 0, []),
  (115, 1, .lsub, 0, 0, 0, 0, []), (116, 2, .lstore 0, 9, 0, 0, 0, []), (118, 2, .aload 0, 4, 0, 0, 0, []), (120, 3, .getfield 0, 7, 10, 2, 0, [181]), (123, 1, .iload 0, 2, 0, 0, 0, []), (124, 1, .iaload, 0, 0, 0, 0, []),
  (125, 1, .i2l, 0, 0, 0, 0, []), (126, 2, .lload 0, 9, 0, 0, 0, []), (128, 1, .lneg, 0, 0, 0, 0, []), (129, 3, .lconst 0, 0, 0, 0, 100, [587]), (132, 1, .aload 0, 0, 0, 0, 0, []), (133, 3, .getfield 0, 6, 1, 2, 0, [324]),
  (136, 1, .iload 0, 3, 0, 0, 0, []), (137, 1, .iaload, 0, 0, 0, 0, []), (138, 1, .i2l, 0, 0, 0, 0, []), (139, 1, .lmul, 0, 0, 0, 0, []), (140, 3, .invokestatic 0, 222, 2, 1, 2, [588, 589, 28]), (143, 1, .lsub, 0, 0, 0, 0, []),
  (144, 2, .lstore 0, 11, 0, 0, 0, []), (146, 1, .lconst 0, 0, 0, 0, 0, []), (147, 3, .lconst 0, 0, 0, 0, 1000, [591]), (150, 2, .lload 0, 11, 0, 0, 0, []), (152, 3, .invokestatic 0, 225, 2, 1, 2, [592, 593, 28]), (155, 3, .invokestatic 0, 224, 2, 1, 2, [595, 596, 28]),
  (158, 1, .l2i, 0, 0, 0, 0, []), (159, 1, .ireturn, 0, 0, 0, 0, [])
  ]
def mc_X6_runRounds : List mv_E := [
  (0, 1, .iconst 0, 0, 0, 0, 1, []), (1, 1, .istore 0, 3, 0, 0, 0, []), (2, 1, .iload 0, 3, 0, 0, 0, []), (3, 1, .iload 0, 2, 0, 0, 0, []), (4, 3, .if_icmp .gt 0, 23, 0, 0, 0, []), (7, 1, .aload 0, 0, 0, 0, 0, []),
  (8, 1, .aload 0, 1, 0, 0, 0, []), (9, 3, .invokevirtual 0, 54, 2, 6, 1, [571, 573, 8, 24]), (12, 3, .ifCond .ne 0, 17, 0, 0, 0, []), (15, 1, .iload 0, 3, 0, 0, 0, []), (16, 1, .ireturn, 0, 0, 0, 0, []), (17, 3, .iinc 0 0, 3, 0, 0, 1, []),
  (20, 3, .goto 0, 2, 0, 0, 0, []), (23, 1, .iload 0, 2, 0, 0, 0, []), (24, 1, .ireturn, 0, 0, 0, 0, [])
  ]
def mc_X6_runRound : List mv_E := [
  (0, 1, .aload 0, 1, 0, 0, 0, []), (1, 3, .getfield 0, 1, 0, 2, 0, [286]), (4, 3, .getfield 0, 10, 1, 2, 0, [247]), (7, 1, .astore 0, 2, 0, 0, 0, []), (8, 1, .iconst 0, 0, 0, 0, 0, []), (9, 1, .istore 0, 3, 0, 0, 0, []),
  (10, 1, .iconst 0, 0, 0, 0, 0, []), (11, 2, .istore 0, 4, 0, 0, 0, []), (13, 2, .iload 0, 4, 0, 0, 0, []), (15, 1, .aload 0, 2, 0, 0, 0, []), (16, 3, .getfield 0, 7, 0, 0, 0, [161]), (19, 1, .iconst 0, 0, 0, 0, 3, []),
  (20, 1, .imul, 0, 0, 0, 0, []), (21, 3, .if_icmp .ge 0, 102, 0, 0, 0, []), (24, 1, .aload 0, 2, 0, 0, 0, []), (25, 3, .getfield 0, 7, 11, 2, 0, [184]), (28, 2, .iload 0, 4, 0, 0, 0, []), (30, 1, .iaload, 0, 0, 0, 0, []),
  (31, 3, .ifCond .le 0, 96, 0, 0, 0, []), (34, 2, .iload 0, 4, 0, 0, 0, []), (36, 1, .iconst 0, 0, 0, 0, 3, []), (37, 1, .irem, 0, 0, 0, 0, []), (38, 1, .aload 0, 1, 0, 0, 0, []), (39, 3, .getfield 0, 1, 0, 2, 0, [286]),
  (42, 3, .getfield 0, 10, 0, 2, 0, [243]), (45, 3, .getfield 0, 0, 4, 0, 0, [101]), (48, 3, .if_icmp .ge 0, 96, 0, 0, 0, []), (51, 1, .aload 0, 0, 0, 0, 0, []), (52, 1, .aload 0, 1, 0, 0, 0, []), (53, 2, .iload 0, 4, 0, 0, 0, []),
  (55, 3, .invokevirtual 0, 50, 3, 6, 1, [575, 576, 577, 24]), (58, 2, .istore 0, 5, 0, 0, 0, []), (60, 2, .iload 0, 5, 0, 0, 0, []), (62, 2, .iconst 0, 0, 0, 0, (-9), []), (64, 3, .if_icmp .eq 0, 96, 0, 0, 0, []), (67, 2, .iload 0, 5, 0, 0, 0, []),
  (69, 1, .aload 0, 2, 0, 0, 0, []), (70, 3, .getfield 0, 7, 10, 2, 0, [181]), (73, 2, .iload 0, 4, 0, 0, 0, []), (75, 1, .iaload, 0, 0, 0, 0, []), (76, 3, .if_icmp .eq 0, 96, 0, 0, 0, []), (79, 1, .aload 0, 2, 0, 0, 0, []),
  (80, 3, .getfield 0, 7, 10, 2, 0, [181]), (83, 2, .iload 0, 4, 0, 0, 0, []), (85, 2, .iload 0, 5, 0, 0, 0, []), (87, 1, .iastore, 0, 0, 0, 0, []), (88, 1, .aload 0, 1, 0, 0, 0, []), (89, 2, .iload 0, 4, 0, 0, 0, []),
  (91, 3, .invokevirtual 0, 16, 2, 1, 0, [606, 489, 490, 18]), (94, 1, .iconst 0, 0, 0, 0, 1, []), (95, 1, .istore 0, 3, 0, 0, 0, []), (96, 3, .iinc 0 0, 4, 0, 0, 1, []), (99, 3, .goto 0, 13, 0, 0, 0, []), (102, 1, .iload 0, 3, 0, 0, 0, []),
  (103, 1, .ireturn, 1, 0, 0, 0, [])
  ]
def mc_X6_bestToHold : List mv_E := [
  (0, 1, .aload 0, 1, 0, 0, 0, []), (1, 3, .getfield 0, 1, 0, 2, 0, [286]), (4, 3, .getfield 0, 10, 0, 2, 0, [243]), (7, 1, .astore 0, 3, 0, 0, 0, []), (8, 1, .aload 0, 1, 0, 0, 0, []), (9, 3, .getfield 0, 1, 0, 2, 0, [286]),
  (12, 3, .getfield 0, 10, 1, 2, 0, [247]), (15, 3, .getfield 0, 7, 10, 2, 0, [181]), (18, 1, .iconst 0, 0, 0, 0, 0, []), (19, 1, .aload 0, 0, 0, 0, 0, []), (20, 3, .getfield 0, 6, 2, 2, 0, [325]), (23, 1, .iconst 0, 0, 0, 0, 0, []),
  (24, 2, .iconst 0, 0, 0, 0, 18, []), (26, 3, .invokestatic 0, 0, 0, 100, 0, [636, 638, 637, 27]), (29, 1, .aload 0, 1, 0, 0, 0, []), (30, 3, .getfield 0, 1, 2, 2, 0, [289]), (33, 1, .iconst 0, 0, 0, 0, 0, []), (34, 1, .aload 0, 0, 0, 0, 0, []),
  (35, 3, .getfield 0, 6, 3, 2, 0, [326]), (38, 1, .iconst 0, 0, 0, 0, 0, []), (39, 3, .iconst 0, 0, 0, 0, 864, []), (42, 3, .invokestatic 0, 0, 0, 101, 0, [636, 638, 637, 27]), (45, 1, .aload 0, 0, 0, 0, 0, []), (46, 1, .aload 0, 1, 0, 0, 0, []),
  (47, 1, .iload 0, 2, 0, 0, 0, []), (48, 3, .invokevirtual 0, 56, 3, 6, 2, [639, 641, 12, 24]), (51, 2, .lstore 0, 4, 0, 0, 0, []), (53, 2, .iconst 0, 0, 0, 0, (-9), []), (55, 2, .istore 0, 6, 0, 0, 0, []), (57, 1, .iconst 0, 0, 0, 0, 0, []),
  (58, 2, .istore 0, 7, 0, 0, 0, []), (60, 2, .iload 0, 7, 0, 0, 0, []), (62, 2, .iconst 0, 0, 0, 0, 10, []), (64, 1, .aload 0, 3, 0, 0, 0, []), (65, 3, .getfield 0, 0, 0, 0, 0, [87]), (68, 1, .imul, 0, 0, 0, 0, []),
  (69, 3, .if_icmp .ge 0, 154, 0, 0, 0, []), (72, 1, .aload 0, 3, 0, 0, 0, []), (73, 2, .iload 0, 7, 0, 0, 0, []), (75, 3, .invokevirtual 0, 4, 2, 0, 1, [647, 425, 426, 20]), (78, 2, .istore 0, 8, 0, 0, 0, []), (80, 2, .iload 0, 8, 0, 0, 0, []),
  (82, 1, .iconst 0, 0, 0, 0, (-1), []), (83, 3, .if_icmp .eq 0, 148, 0, 0, 0, []), (86, 1, .aload 0, 3, 0, 0, 0, []), (87, 3, .getfield 0, 0, 8, 2, 0, [113]), (90, 2, .iload 0, 8, 0, 0, 0, []), (92, 1, .iaload, 0, 0, 0, 0, []),
  (93, 1, .iload 0, 2, 0, 0, 0, []), (94, 3, .if_icmp .ne 0, 148, 0, 0, 0, []), (97, 1, .aload 0, 1, 0, 0, 0, []), (98, 3, .getfield 0, 1, 3, 2, 0, [291]), (101, 2, .iload 0, 8, 0, 0, 0, []), (103, 1, .iaload, 0, 0, 0, 0, []),
  (104, 1, .iconst 0, 0, 0, 0, (-1), []), (105, 3, .if_icmp .eq 0, 148, 0, 0, 0, []), (108, 1, .aload 0, 3, 0, 0, 0, []), (109, 3, .getfield 0, 0, 9, 2, 0, [116]), (112, 2, .iload 0, 8, 0, 0, 0, []), (114, 1, .iconst 0, 0, 0, 0, 1, []),
  (115, 1, .iastore, 0, 0, 0, 0, []), (116, 1, .aload 0, 0, 0, 0, 0, []), (117, 1, .aload 0, 1, 0, 0, 0, []), (118, 1, .iload 0, 2, 0, 0, 0, []), (119, 3, .invokevirtual 0, 56, 3, 6, 2, [639, 641, 12, 24]), (122, 2, .lstore 0, 9, 0, 0, 0, []),
  (124, 1, .aload 0, 3, 0, 0, 0, []), (125, 3, .getfield 0, 0, 9, 2, 0, [116]), (128, 2, .iload 0, 8, 0, 0, 0, []), (130, 1, .iconst 0, 0, 0, 0, 0, []), (131, 1, .iastore, 0, 0, 0, 0, []), (132, 2, .lload 0, 9, 0, 0, 0, []),
  (134, 2, .lload 0, 4, 0, 0, 0, []), (136, 1, .lcmp, 0, 0, 0, 0, []), (137, 3, .ifCond .le 0, 148, 0, 0, 0, []), (140, 2, .lload 0, 9, 0, 0, 0, []), (142, 2, .lstore 0, 4, 0, 0, 0, []), (144, 2, .iload 0, 7, 0, 0, 0, []),
  (146, 2, .istore 0, 6, 0, 0, 0, []), (148, 3, .iinc 0 0, 7, 0, 0, 1, []), (151, 3, .goto 0, 60, 0, 0, 0, []), (154, 2, .iload 0, 6, 0, 0, 0, []), (156, 1, .ireturn, 0, 0, 0, 0, [])
  ]
def mc_X6_rentsAfterRound : List mv_E := [
  (0, 1, .aload 0, 0, 0, 0, 0, []), (1, 1, .aload 0, 1, 0, 0, 0, []), (2, 3, .invokevirtual 0, 54, 2, 6, 1, [571, 573, 8, 24]), (5, 1, .pop, 0, 0, 0, 0, []), (6, 1, .aload 0, 1, 0, 0, 0, []), (7, 1, .iload 0, 2, 0, 0, 0, []),
  (8, 3, .invokevirtual 0, 23, 2, 1, 2, [643, 644, 645, 18]), (11, 1, .lstore 0, 3, 0, 0, 0, []), (12, 1, .aload 0, 0, 0, 0, 0, []), (13, 3, .getfield 0, 6, 2, 2, 0, [325]), (16, 1, .iconst 0, 0, 0, 0, 0, []), (17, 1, .aload 0, 1, 0, 0, 0, []),
  (18, 3, .getfield 0, 1, 0, 2, 0, [286]), (21, 3, .getfield 0, 10, 1, 2, 0, [247]), (24, 3, .getfield 0, 7, 10, 2, 0, [181]), (27, 1, .iconst 0, 0, 0, 0, 0, []), (28, 2, .iconst 0, 0, 0, 0, 18, []), (30, 3, .invokestatic 0, 0, 0, 100, 0, [636, 638, 637, 27]),
  (33, 1, .aload 0, 0, 0, 0, 0, []), (34, 3, .getfield 0, 6, 3, 2, 0, [326]), (37, 1, .iconst 0, 0, 0, 0, 0, []), (38, 1, .aload 0, 1, 0, 0, 0, []), (39, 3, .getfield 0, 1, 2, 2, 0, [289]), (42, 1, .iconst 0, 0, 0, 0, 0, []),
  (43, 3, .iconst 0, 0, 0, 0, 864, []), (46, 3, .invokestatic 0, 0, 0, 101, 0, [636, 638, 637, 27]), (49, 1, .lload 0, 3, 0, 0, 0, []), (50, 1, .lreturn, 0, 0, 0, 0, [])
  ]
def mc_X7_init : List mv_E := [
  (0, 1, .aload 0, 0, 0, 0, 0, []), (1, 3, .invokespecial 0, 0, 0, 1, 0, [158, 35, 36]), (4, 1, .aload 0, 0, 0, 0, 0, []), (5, 1, .iconst 0, 0, 0, 0, 0, []), (6, 3, .putfield 0, 7, 0, 0, 0, [159]), (9, 1, .aload 0, 0, 0, 0, 0, []),
  (10, 1, .iconst 0, 0, 0, 0, 0, []), (11, 3, .putfield 0, 7, 1, 0, 0, [163]), (14, 1, .aload 0, 0, 0, 0, 0, []), (15, 2, .iconst 0, 0, 0, 0, 6, []), (17, 2, .newarray .int, 100, 0, 0, 0, [53]), (19, 3, .putfield 0, 7, 2, 2, 0, [166]),
  (22, 1, .aload 0, 0, 0, 0, 0, []), (23, 2, .iconst 0, 0, 0, 0, 6, []), (25, 2, .newarray .int, 100, 0, 0, 0, [53]), (27, 3, .putfield 0, 7, 3, 2, 0, [169]), (30, 1, .aload 0, 0, 0, 0, 0, []), (31, 2, .iconst 0, 0, 0, 0, 6, []),
  (33, 2, .newarray .int, 100, 0, 0, 0, [53]), (35, 3, .putfield 0, 7, 4, 2, 0, [170]), (38, 1, .aload 0, 0, 0, 0, 0, []), (39, 2, .iconst 0, 0, 0, 0, 6, []), (41, 2, .newarray .int, 100, 0, 0, 0, [53]), (43, 3, .putfield 0, 7, 5, 2, 0, [171]),
  (46, 1, .aload 0, 0, 0, 0, 0, []), (47, 2, .iconst 0, 0, 0, 0, 6, []), (49, 2, .newarray .int, 100, 0, 0, 0, [53]), (51, 3, .putfield 0, 7, 6, 2, 0, [172]), (54, 1, .aload 0, 0, 0, 0, 0, []), (55, 2, .iconst 0, 0, 0, 0, 6, []),
  (57, 2, .newarray .int, 100, 0, 0, 0, [53]), (59, 3, .putfield 0, 7, 7, 2, 0, [173]), (62, 1, .aload 0, 0, 0, 0, 0, []), (63, 2, .iconst 0, 0, 0, 0, 6, []), (65, 2, .newarray .int, 100, 0, 0, 0, [53]), (67, 3, .putfield 0, 7, 8, 2, 0, [176]),
  (70, 1, .aload 0, 0, 0, 0, 0, []), (71, 2, .iconst 0, 0, 0, 0, 6, []), (73, 2, .newarray .int, 100, 0, 0, 0, [53]), (75, 3, .putfield 0, 7, 9, 2, 0, [178]), (78, 1, .aload 0, 0, 0, 0, 0, []), (79, 2, .iconst 0, 0, 0, 0, 18, []),
  (81, 2, .newarray .int, 100, 0, 0, 0, [53]), (83, 3, .putfield 0, 7, 10, 2, 0, [180]), (86, 1, .aload 0, 0, 0, 0, 0, []), (87, 2, .iconst 0, 0, 0, 0, 18, []), (89, 2, .newarray .int, 100, 0, 0, 0, [53]), (91, 3, .putfield 0, 7, 11, 2, 0, [183]),
  (94, 1, .aload 0, 0, 0, 0, 0, []), (95, 2, .iconst 0, 0, 0, 0, 108, []), (97, 2, .newarray .int, 100, 0, 0, 0, [53]), (99, 3, .putfield 0, 7, 12, 2, 0, [186]), (102, 1, .aload 0, 0, 0, 0, 0, []), (103, 2, .iconst 0, 0, 0, 0, 108, []),
  (105, 2, .newarray .int, 100, 0, 0, 0, [53]), (107, 3, .putfield 0, 7, 13, 2, 0, [187]), (110, 1, .return_, 0, 0, 0, 0, [])
  ]
def mc_X7_append : List mv_E := [
  (0, 1, .aload 0, 0, 0, 0, 0, []), (1, 3, .getfield 0, 7, 0, 0, 0, [159]), (4, 2, .istore 0, 6, 0, 0, 0, []), (6, 2, .iload 0, 6, 0, 0, 0, []), (8, 2, .iconst 0, 0, 0, 0, 6, []), (10, 3, .if_icmp .lt 0, 16, 0, 0, 0, []),
  (13, 2, .iconst 0, 0, 0, 0, (-9), []), (15, 1, .ireturn, 0, 0, 0, 0, []), (16, 1, .aload 0, 0, 0, 0, 0, []), (17, 3, .getfield 0, 7, 2, 2, 0, [166]), (20, 2, .iload 0, 6, 0, 0, 0, []), (22, 1, .iload 0, 1, 0, 0, 0, []),
  (23, 1, .iastore, 0, 0, 0, 0, []), (24, 1, .aload 0, 0, 0, 0, 0, []), (25, 3, .getfield 0, 7, 3, 2, 0, [169]), (28, 2, .iload 0, 6, 0, 0, 0, []), (30, 1, .iload 0, 2, 0, 0, 0, []), (31, 1, .iastore, 0, 0, 0, 0, []),
  (32, 1, .aload 0, 0, 0, 0, 0, []), (33, 3, .getfield 0, 7, 4, 2, 0, [170]), (36, 2, .iload 0, 6, 0, 0, 0, []), (38, 1, .iload 0, 3, 0, 0, 0, []), (39, 1, .iastore, 0, 0, 0, 0, []), (40, 1, .aload 0, 0, 0, 0, 0, []),
  (41, 3, .getfield 0, 7, 5, 2, 0, [171]), (44, 2, .iload 0, 6, 0, 0, 0, []), (46, 2, .iload 0, 4, 0, 0, 0, []), (48, 1, .iastore, 0, 0, 0, 0, []), (49, 1, .aload 0, 0, 0, 0, 0, []), (50, 3, .getfield 0, 7, 6, 2, 0, [172]),
  (53, 2, .iload 0, 6, 0, 0, 0, []), (55, 2, .iload 0, 5, 0, 0, 0, []), (57, 1, .iastore, 0, 0, 0, 0, []), (58, 1, .aload 0, 0, 0, 0, 0, []), (59, 2, .iload 0, 6, 0, 0, 0, []), (61, 1, .iconst 0, 0, 0, 0, 1, []),
  (62, 1, .iadd, 0, 0, 0, 0, []), (63, 3, .putfield 0, 7, 0, 0, 0, [159]), (66, 2, .iload 0, 6, 0, 0, 0, []), (68, 1, .ireturn, 0, 0, 0, 0, [])
  ]
def mc_X7_appendPiece : List mv_E := [
  (0, 1, .aload 0, 0, 0, 0, 0, []), (1, 3, .getfield 0, 7, 11, 2, 0, [183]), (4, 1, .iload 0, 1, 0, 0, 0, []), (5, 1, .iaload, 0, 0, 0, 0, []), (6, 2, .istore 0, 4, 0, 0, 0, []), (8, 2, .iload 0, 4, 0, 0, 0, []),
  (10, 2, .iconst 0, 0, 0, 0, 6, []), (12, 3, .if_icmp .ge 0, 51, 0, 0, 0, []), (15, 1, .aload 0, 0, 0, 0, 0, []), (16, 3, .getfield 0, 7, 12, 2, 0, [186]), (19, 1, .iload 0, 1, 0, 0, 0, []), (20, 2, .iconst 0, 0, 0, 0, 6, []),
  (22, 1, .imul, 0, 0, 0, 0, []), (23, 2, .iload 0, 4, 0, 0, 0, []), (25, 1, .iadd, 0, 0, 0, 0, []), (26, 1, .iload 0, 2, 0, 0, 0, []), (27, 1, .iastore, 0, 0, 0, 0, []), (28, 1, .aload 0, 0, 0, 0, 0, []),
  (29, 3, .getfield 0, 7, 13, 2, 0, [187]), (32, 1, .iload 0, 1, 0, 0, 0, []), (33, 2, .iconst 0, 0, 0, 0, 6, []), (35, 1, .imul, 0, 0, 0, 0, []), (36, 2, .iload 0, 4, 0, 0, 0, []), (38, 1, .iadd, 0, 0, 0, 0, []),
  (39, 1, .iload 0, 3, 0, 0, 0, []), (40, 1, .iastore, 0, 0, 0, 0, []), (41, 1, .aload 0, 0, 0, 0, 0, []), (42, 3, .getfield 0, 7, 11, 2, 0, [183]), (45, 1, .iload 0, 1, 0, 0, 0, []), (46, 2, .iload 0, 4, 0, 0, 0, []),
  (48, 1, .iconst 0, 0, 0, 0, 1, []), (49, 1, .iadd, 0, 0, 0, 0, []), (50, 1, .iastore, 0, 0, 0, 0, []), (51, 1, .return_, 0, 0, 0, 0, [])
  ]
def mc_X7_takeFrom : List mv_E := [
  (0, 1, .aload 0, 0, 0, 0, 0, []), (1, 1, .aload 0, 1, 0, 0, 0, []), (2, 3, .getfield 0, 7, 0, 0, 0, [159]), (5, 3, .putfield 0, 7, 0, 0, 0, [159]), (8, 1, .aload 0, 0, 0, 0, 0, []), (9, 1, .aload 0, 1, 0, 0, 0, []),
  (10, 3, .getfield 0, 7, 1, 0, 0, [163]), (13, 3, .putfield 0, 7, 1, 0, 0, [163]), (16, 1, .aload 0, 1, 0, 0, 0, []), (17, 3, .getfield 0, 7, 2, 2, 0, [166]), (20, 1, .iconst 0, 0, 0, 0, 0, []), (21, 1, .aload 0, 0, 0, 0, 0, []),
  (22, 3, .getfield 0, 7, 2, 2, 0, [166]), (25, 1, .iconst 0, 0, 0, 0, 0, []), (26, 2, .iconst 0, 0, 0, 0, 6, []), (28, 3, .invokestatic 0, 0, 0, 100, 0, [665, 638, 637, 27]), (31, 1, .aload 0, 1, 0, 0, 0, []), (32, 3, .getfield 0, 7, 3, 2, 0, [169]),
  (35, 1, .iconst 0, 0, 0, 0, 0, []), (36, 1, .aload 0, 0, 0, 0, 0, []), (37, 3, .getfield 0, 7, 3, 2, 0, [169]), (40, 1, .iconst 0, 0, 0, 0, 0, []), (41, 2, .iconst 0, 0, 0, 0, 6, []), (43, 3, .invokestatic 0, 0, 0, 100, 0, [665, 638, 637, 27]),
  (46, 1, .aload 0, 1, 0, 0, 0, []), (47, 3, .getfield 0, 7, 4, 2, 0, [170]), (50, 1, .iconst 0, 0, 0, 0, 0, []), (51, 1, .aload 0, 0, 0, 0, 0, []), (52, 3, .getfield 0, 7, 4, 2, 0, [170]), (55, 1, .iconst 0, 0, 0, 0, 0, []),
  (56, 2, .iconst 0, 0, 0, 0, 6, []), (58, 3, .invokestatic 0, 0, 0, 100, 0, [665, 638, 637, 27]), (61, 1, .aload 0, 1, 0, 0, 0, []), (62, 3, .getfield 0, 7, 5, 2, 0, [171]), (65, 1, .iconst 0, 0, 0, 0, 0, []), (66, 1, .aload 0, 0, 0, 0, 0, []),
  (67, 3, .getfield 0, 7, 5, 2, 0, [171]), (70, 1, .iconst 0, 0, 0, 0, 0, []), (71, 2, .iconst 0, 0, 0, 0, 6, []), (73, 3, .invokestatic 0, 0, 0, 100, 0, [665, 638, 637, 27]), (76, 1, .aload 0, 1, 0, 0, 0, []), (77, 3, .getfield 0, 7, 6, 2, 0, [172]),
  (80, 1, .iconst 0, 0, 0, 0, 0, []), (81, 1, .aload 0, 0, 0, 0, 0, []), (82, 3, .getfield 0, 7, 6, 2, 0, [172]), (85, 1, .iconst 0, 0, 0, 0, 0, []), (86, 2, .iconst 0, 0, 0, 0, 6, []), (88, 3, .invokestatic 0, 0, 0, 100, 0, [665, 638, 637, 27]),
  (91, 1, .aload 0, 1, 0, 0, 0, []), (92, 3, .getfield 0, 7, 7, 2, 0, [173]), (95, 1, .iconst 0, 0, 0, 0, 0, []), (96, 1, .aload 0, 0, 0, 0, 0, []), (97, 3, .getfield 0, 7, 7, 2, 0, [173]), (100, 1, .iconst 0, 0, 0, 0, 0, []),
  (101, 2, .iconst 0, 0, 0, 0, 6, []), (103, 3, .invokestatic 0, 0, 0, 100, 0, [665, 638, 637, 27]), (106, 1, .aload 0, 1, 0, 0, 0, []), (107, 3, .getfield 0, 7, 8, 2, 0, [176]), (110, 1, .iconst 0, 0, 0, 0, 0, []), (111, 1, .aload 0, 0, 0, 0, 0, []),
  (112, 3, .getfield 0, 7, 8, 2, 0, [176]), (115, 1, .iconst 0, 0, 0, 0, 0, []), (116, 2, .iconst 0, 0, 0, 0, 6, []), (118, 3, .invokestatic 0, 0, 0, 100, 0, [665, 638, 637, 27]), (121, 1, .aload 0, 1, 0, 0, 0, []), (122, 3, .getfield 0, 7, 9, 2, 0, [178]),
  (125, 1, .iconst 0, 0, 0, 0, 0, []), (126, 1, .aload 0, 0, 0, 0, 0, []), (127, 3, .getfield 0, 7, 9, 2, 0, [178]), (130, 1, .iconst 0, 0, 0, 0, 0, []), (131, 2, .iconst 0, 0, 0, 0, 6, []), (133, 3, .invokestatic 0, 0, 0, 100, 0, [665, 638, 637, 27]),
  (136, 1, .aload 0, 1, 0, 0, 0, []), (137, 3, .getfield 0, 7, 10, 2, 0, [180]), (140, 1, .iconst 0, 0, 0, 0, 0, []), (141, 1, .aload 0, 0, 0, 0, 0, []), (142, 3, .getfield 0, 7, 10, 2, 0, [180]), (145, 1, .iconst 0, 0, 0, 0, 0, []),
  (146, 2, .iconst 0, 0, 0, 0, 18, []), (148, 3, .invokestatic 0, 0, 0, 100, 0, [665, 638, 637, 27]), (151, 1, .aload 0, 1, 0, 0, 0, []), (152, 3, .getfield 0, 7, 11, 2, 0, [183]), (155, 1, .iconst 0, 0, 0, 0, 0, []), (156, 1, .aload 0, 0, 0, 0, 0, []),
  (157, 3, .getfield 0, 7, 11, 2, 0, [183]), (160, 1, .iconst 0, 0, 0, 0, 0, []), (161, 2, .iconst 0, 0, 0, 0, 18, []), (163, 3, .invokestatic 0, 0, 0, 100, 0, [665, 638, 637, 27]), (166, 1, .aload 0, 1, 0, 0, 0, []), (167, 3, .getfield 0, 7, 12, 2, 0, [186]),
  (170, 1, .iconst 0, 0, 0, 0, 0, []), (171, 1, .aload 0, 0, 0, 0, 0, []), (172, 3, .getfield 0, 7, 12, 2, 0, [186]), (175, 1, .iconst 0, 0, 0, 0, 0, []), (176, 2, .iconst 0, 0, 0, 0, 108, []), (178, 3, .invokestatic 0, 0, 0, 100, 0, [665, 638, 637, 27]),
  (181, 1, .aload 0, 1, 0, 0, 0, []), (182, 3, .getfield 0, 7, 13, 2, 0, [187]), (185, 1, .iconst 0, 0, 0, 0, 0, []), (186, 1, .aload 0, 0, 0, 0, 0, []), (187, 3, .getfield 0, 7, 13, 2, 0, [187]), (190, 1, .iconst 0, 0, 0, 0, 0, []),
  (191, 2, .iconst 0, 0, 0, 0, 108, []), (193, 3, .invokestatic 0, 0, 0, 100, 0, [665, 638, 637, 27]), (196, 1, .return_, 0, 0, 0, 0, [])
  ]
def mc_X7_yieldOn : List mv_E := [
  (0, 1, .aload 0, 0, 0, 0, 0, []), (1, 3, .getfield 0, 7, 2, 2, 0, [166]), (4, 1, .iload 0, 1, 0, 0, 0, []), (5, 1, .iaload, 0, 0, 0, 0, []), (6, 1, .iconst 0, 0, 0, 0, 4, []), (7, 3, .if_icmp .ne 0, 19, 0, 0, 0, []),
  (10, 1, .aload 0, 0, 0, 0, 0, []), (11, 3, .getfield 0, 7, 3, 2, 0, [169]), (14, 1, .iload 0, 1, 0, 0, 0, []), (15, 1, .iaload, 0, 0, 0, 0, []), (16, 3, .goto 0, 34, 0, 0, 0, []), (19, 1, .aload 0, 0, 0, 0, 0, []),
  (20, 3, .getfield 0, 7, 3, 2, 0, [169]), (23, 1, .iload 0, 1, 0, 0, 0, []), (24, 1, .iaload, 0, 0, 0, 0, []), (25, 1, .aload 0, 0, 0, 0, 0, []), (26, 3, .getfield 0, 7, 4, 2, 0, [170]), (29, 1, .iload 0, 1, 0, 0, 0, []),
  (30, 1, .iaload, 0, 0, 0, 0, []), (31, 1, .iload 0, 2, 0, 0, 0, []), (32, 1, .imul, 0, 0, 0, 0, []), (33, 1, .iadd, 0, 0, 0, 0, []), (34, 1, .ireturn, 0, 0, 0, 0, [])
  ]
def mc_X7_reckonedPrice : List mv_E := [
  (0, 1, .iload 0, 1, 0, 0, 0, []), (1, 1, .iconst 0, 0, 0, 0, 3, []), (2, 1, .idiv, 0, 0, 0, 0, []), (3, 1, .istore 0, 2, 0, 0, 0, []), (4, 1, .aload 0, 0, 0, 0, 0, []), (5, 3, .getfield 0, 7, 8, 2, 0, [176]),
  (8, 1, .iload 0, 2, 0, 0, 0, []), (9, 1, .iaload, 0, 0, 0, 0, []), (10, 1, .istore 0, 3, 0, 0, 0, []), (11, 1, .iload 0, 3, 0, 0, 0, []), (12, 3, .ifCond .ne 0, 24, 0, 0, 0, []), (15, 1, .aload 0, 0, 0, 0, 0, []),
  (16, 3, .getfield 0, 7, 10, 2, 0, [180]), (19, 1, .iload 0, 1, 0, 0, 0, []), (20, 1, .iaload, 0, 0, 0, 0, []), (21, 3, .goto 0, 39, 0, 0, 0, []), (24, 1, .aload 0, 0, 0, 0, 0, []), (25, 3, .getfield 0, 7, 10, 2, 0, [180]),
  (28, 1, .iload 0, 1, 0, 0, 0, []), (29, 1, .iaload, 0, 0, 0, 0, []), (30, 1, .aload 0, 0, 0, 0, 0, []), (31, 3, .getfield 0, 7, 9, 2, 0, [178]), (34, 1, .iload 0, 2, 0, 0, 0, []), (35, 1, .iaload, 0, 0, 0, 0, []),
  (36, 1, .iload 0, 3, 0, 0, 0, []), (37, 1, .idiv, 0, 0, 0, 0, []), (38, 1, .iadd, 0, 0, 0, 0, []), (39, 1, .ireturn, 0, 0, 0, 0, [])
  ]
def mc_X7_payAtHome : List mv_E := [
  (0, 1, .iload 0, 1, 0, 0, 0, []), (1, 1, .iconst 0, 0, 0, 0, 3, []), (2, 1, .idiv, 0, 0, 0, 0, []), (3, 1, .istore 0, 3, 0, 0, 0, []), (4, 1, .aload 0, 0, 0, 0, 0, []), (5, 1, .iload 0, 3, 0, 0, 0, []),
  (6, 1, .iload 0, 2, 0, 0, 0, []), (7, 3, .invokevirtual 0, 61, 3, 7, 1, [504, 505, 506, 21]), (10, 1, .i2l, 0, 0, 0, 0, []), (11, 1, .aload 0, 0, 0, 0, 0, []), (12, 1, .iload 0, 1, 0, 0, 0, []), (13, 3, .invokevirtual 0, 62, 2, 7, 1, [508, 509, 510, 21]),
  (16, 1, .i2l, 0, 0, 0, 0, []), (17, 1, .lmul, 0, 0, 0, 0, []), (18, 2, .lstore 0, 4, 0, 0, 0, []), (20, 3, .lconst 0, 0, 0, 0, 100, [512]), (23, 2, .lload 0, 4, 0, 0, 0, []), (25, 1, .aload 0, 0, 0, 0, 0, []),
  (26, 3, .getfield 0, 7, 5, 2, 0, [171]), (29, 1, .iload 0, 3, 0, 0, 0, []), (30, 1, .iaload, 0, 0, 0, 0, []), (31, 1, .i2l, 0, 0, 0, 0, []), (32, 1, .lsub, 0, 0, 0, 0, []), (33, 1, .aload 0, 0, 0, 0, 0, []),
  (34, 3, .getfield 0, 7, 7, 2, 0, [173]), (37, 1, .iload 0, 3, 0, 0, 0, []), (38, 1, .iaload, 0, 0, 0, 0, []), (39, 1, .i2l, 0, 0, 0, 0, []), (40, 1, .lsub, 0, 0, 0, 0, []), (41, 1, .lmul, 0, 0, 0, 0, []),
  (42, 1, .lreturn, 0, 0, 0, 0, [])
  ]
def mc_X7_carriage : List mv_E := [
  (0, 1, .aload 0, 0, 0, 0, 0, []), (1, 3, .getfield 0, 7, 2, 2, 0, [166]), (4, 1, .iload 0, 1, 0, 0, 0, []), (5, 1, .iaload, 0, 0, 0, 0, []), (6, 1, .iconst 0, 0, 0, 0, 1, []), (7, 3, .if_icmp .ne 0, 21, 0, 0, 0, []),
  (10, 1, .aload 0, 0, 0, 0, 0, []), (11, 3, .getfield 0, 7, 6, 2, 0, [172]), (14, 1, .iload 0, 1, 0, 0, 0, []), (15, 1, .iaload, 0, 0, 0, 0, []), (16, 1, .iconst 0, 0, 0, 0, 2, []), (17, 1, .idiv, 0, 0, 0, 0, []),
  (18, 3, .goto 0, 27, 0, 0, 0, []), (21, 1, .aload 0, 0, 0, 0, 0, []), (22, 3, .getfield 0, 7, 6, 2, 0, [172]), (25, 1, .iload 0, 1, 0, 0, 0, []), (26, 1, .iaload, 0, 0, 0, 0, []), (27, 1, .istore 0, 3, 0, 0, 0, []),
  (28, 1, .iload 0, 3, 0, 0, 0, []), (29, 1, .i2l, 0, 0, 0, 0, []), (30, 1, .aload 0, 0, 0, 0, 0, []), (31, 1, .iload 0, 1, 0, 0, 0, []), (32, 1, .iload 0, 2, 0, 0, 0, []), (33, 3, .invokevirtual 0, 61, 3, 7, 1, [504, 505, 506, 21]),
  (36, 1, .i2l, 0, 0, 0, 0, []), (37, 1, .lmul, 0, 0, 0, 0, []), (38, 1, .lreturn, 0, 0, 0, 0, [])
  ]
def mc_X7_canGo : List mv_E := [
  (0, 1, .aload 0, 0, 0, 0, 0, []), (1, 3, .getfield 0, 7, 2, 2, 0, [166]), (4, 1, .iload 0, 1, 0, 0, 0, []), (5, 1, .iaload, 0, 0, 0, 0, []), (6, 1, .iconst 0, 0, 0, 0, 5, []), (7, 3, .if_icmp .ne 0, 12, 0, 0, 0, []),
  (10, 1, .iconst 0, 0, 0, 0, 0, []), (11, 1, .ireturn, 1, 0, 0, 0, []), (12, 1, .aload 0, 0, 0, 0, 0, []), (13, 3, .getfield 0, 7, 2, 2, 0, [166]), (16, 1, .iload 0, 1, 0, 0, 0, []), (17, 1, .iaload, 0, 0, 0, 0, []),
  (18, 1, .iconst 0, 0, 0, 0, 2, []), (19, 3, .if_icmp .ne 0, 28, 0, 0, 0, []), (22, 1, .iload 0, 2, 0, 0, 0, []), (23, 2, .iconst 0, 0, 0, 0, 60, []), (25, 3, .if_icmp .gt 0, 32, 0, 0, 0, []), (28, 1, .iconst 0, 0, 0, 0, 1, []),
  (29, 3, .goto 0, 33, 0, 0, 0, []), (32, 1, .iconst 0, 0, 0, 0, 0, []), (33, 1, .ireturn, 1, 0, 0, 0, [])
  ]
def mc_X7_boughtAt : List mv_E := [
  (0, 1, .iconst 0, 0, 0, 0, 0, []), (1, 1, .istore 0, 3, 0, 0, 0, []), (2, 1, .iload 0, 1, 0, 0, 0, []), (3, 2, .iconst 0, 0, 0, 0, 6, []), (5, 1, .imul, 0, 0, 0, 0, []), (6, 2, .istore 0, 4, 0, 0, 0, []),
  (8, 2, .iload 0, 4, 0, 0, 0, []), (10, 1, .iload 0, 1, 0, 0, 0, []), (11, 2, .iconst 0, 0, 0, 0, 6, []), (13, 1, .imul, 0, 0, 0, 0, []), (14, 1, .aload 0, 0, 0, 0, 0, []), (15, 3, .getfield 0, 7, 11, 2, 0, [183]),
  (18, 1, .iload 0, 1, 0, 0, 0, []), (19, 1, .iaload, 0, 0, 0, 0, []), (20, 1, .iadd, 0, 0, 0, 0, []), (21, 3, .if_icmp .ge 0, 51, 0, 0, 0, []), (24, 1, .aload 0, 0, 0, 0, 0, []), (25, 3, .getfield 0, 7, 13, 2, 0, [187]),
  (28, 2, .iload 0, 4, 0, 0, 0, []), (30, 1, .iaload, 0, 0, 0, 0, []), (31, 1, .iload 0, 2, 0, 0, 0, []), (32, 3, .if_icmp .lt 0, 45, 0, 0, 0, []), (35, 1, .iload 0, 3, 0, 0, 0, []), (36, 1, .aload 0, 0, 0, 0, 0, []),
  (37, 3, .getfield 0, 7, 12, 2, 0, [186]), (40, 2, .iload 0, 4, 0, 0, 0, []), (42, 1, .iaload, 0, 0, 0, 0, []), (43, 1, .iadd, 0, 0, 0, 0, []), (44, 1, .istore 0, 3, 0, 0, 0, []), (45, 3, .iinc 0 0, 4, 0, 0, 1, []),
  (48, 3, .goto 0, 8, 0, 0, 0, []), (51, 1, .iload 0, 3, 0, 0, 0, []), (52, 1, .ireturn, 0, 0, 0, 0, [])
  ]
def mc_X8_init : List mv_E := [
  (0, 1, .aload 0, 0, 0, 0, 0, []), (1, 3, .invokespecial 0, 0, 0, 1, 0, [262, 35, 36]), (4, 1, .aload 0, 0, 0, 0, 0, []), (5, 3, .iconst 0, 0, 0, 0, 144, []), (8, 2, .newarray .int, 100, 0, 0, 0, [53]), (10, 3, .putfield 0, 8, 0, 2, 0, [263]),
  (13, 1, .aload 0, 0, 0, 0, 0, []), (14, 3, .iconst 0, 0, 0, 0, 144, []), (17, 2, .newarray .int, 100, 0, 0, 0, [53]), (19, 3, .putfield 0, 8, 1, 2, 0, [265]), (22, 1, .aload 0, 0, 0, 0, 0, []), (23, 2, .iconst 0, 0, 0, 0, 48, []),
  (25, 2, .newarray .int, 100, 0, 0, 0, [53]), (27, 3, .putfield 0, 8, 2, 2, 0, [267]), (30, 1, .aload 0, 0, 0, 0, 0, []), (31, 3, .iconst 0, 0, 0, 0, 192, []), (34, 2, .newarray .int, 100, 0, 0, 0, [53]), (36, 3, .putfield 0, 8, 3, 2, 0, [268]),
  (39, 1, .aload 0, 0, 0, 0, 0, []), (40, 3, .iconst 0, 0, 0, 0, 192, []), (43, 2, .newarray .int, 100, 0, 0, 0, [53]), (45, 3, .putfield 0, 8, 4, 2, 0, [269]), (48, 1, .aload 0, 0, 0, 0, 0, []), (49, 3, .iconst 0, 0, 0, 0, 192, []),
  (52, 2, .newarray .int, 100, 0, 0, 0, [53]), (54, 3, .putfield 0, 8, 5, 2, 0, [270]), (57, 1, .return_, 0, 0, 0, 0, [])
  ]
def mc_X8_reckonFoot : List mv_E := [
  (0, 1, .iconst 0, 0, 0, 0, 0, []), (1, 1, .istore 0, 2, 0, 0, 0, []), (2, 1, .iload 0, 2, 0, 0, 0, []), (3, 1, .aload 0, 1, 0, 0, 0, []), (4, 3, .getfield 0, 0, 2, 0, 0, [92]), (7, 3, .if_icmp .ge 0, 79, 0, 0, 0, []),
  (10, 1, .iconst 0, 0, 0, 0, 0, []), (11, 1, .istore 0, 3, 0, 0, 0, []), (12, 1, .iload 0, 3, 0, 0, 0, []), (13, 1, .iconst 0, 0, 0, 0, 4, []), (14, 3, .if_icmp .ge 0, 73, 0, 0, 0, []), (17, 1, .aload 0, 1, 0, 0, 0, []),
  (18, 1, .iload 0, 2, 0, 0, 0, []), (19, 1, .iload 0, 3, 0, 0, 0, []), (20, 3, .invokevirtual 0, 5, 3, 0, 1, [467, 468, 469, 20]), (23, 2, .istore 0, 4, 0, 0, 0, []), (25, 1, .aload 0, 0, 0, 0, 0, []), (26, 3, .getfield 0, 8, 3, 2, 0, [268]),
  (29, 1, .iload 0, 2, 0, 0, 0, []), (30, 1, .iconst 0, 0, 0, 0, 4, []), (31, 1, .imul, 0, 0, 0, 0, []), (32, 1, .iload 0, 3, 0, 0, 0, []), (33, 1, .iadd, 0, 0, 0, 0, []), (34, 2, .iload 0, 4, 0, 0, 0, []),
  (36, 1, .iastore, 0, 0, 0, 0, []), (37, 1, .aload 0, 0, 0, 0, 0, []), (38, 3, .getfield 0, 8, 5, 2, 0, [270]), (41, 1, .iload 0, 2, 0, 0, 0, []), (42, 1, .iconst 0, 0, 0, 0, 4, []), (43, 1, .imul, 0, 0, 0, 0, []),
  (44, 1, .iload 0, 3, 0, 0, 0, []), (45, 1, .iadd, 0, 0, 0, 0, []), (46, 2, .iload 0, 4, 0, 0, 0, []), (48, 1, .iconst 0, 0, 0, 0, (-1), []), (49, 3, .if_icmp .ne 0, 56, 0, 0, 0, []), (52, 1, .iconst 0, 0, 0, 0, 0, []),
  (53, 3, .goto 0, 66, 0, 0, 0, []), (56, 2, .iconst 0, 0, 0, 0, 10, []), (58, 1, .aload 0, 1, 0, 0, 0, []), (59, 3, .getfield 0, 0, 7, 2, 0, [109]), (62, 2, .iload 0, 4, 0, 0, 0, []), (64, 1, .iaload, 0, 0, 0, 0, []),
  (65, 1, .iadd, 0, 0, 0, 0, []), (66, 1, .iastore, 0, 0, 0, 0, []), (67, 3, .iinc 0 0, 3, 0, 0, 1, []), (70, 3, .goto 0, 12, 0, 0, 0, []), (73, 3, .iinc 0 0, 2, 0, 0, 1, []), (76, 3, .goto 0, 2, 0, 0, 0, []),
  (79, 1, .iconst 0, 0, 0, 0, 0, []), (80, 1, .istore 0, 2, 0, 0, 0, []), (81, 1, .iload 0, 2, 0, 0, 0, []), (82, 1, .aload 0, 1, 0, 0, 0, []), (83, 3, .getfield 0, 0, 4, 0, 0, [99]), (86, 3, .if_icmp .ge 0, 121, 0, 0, 0, []),
  (89, 1, .aload 0, 0, 0, 0, 0, []), (90, 1, .aload 0, 1, 0, 0, 0, []), (91, 3, .getfield 0, 0, 2, 0, 0, [92]), (94, 1, .aload 0, 1, 0, 0, 0, []), (95, 3, .getfield 0, 0, 11, 2, 0, [122]), (98, 1, .iload 0, 2, 0, 0, 0, []),
  (99, 1, .iaload, 0, 0, 0, 0, []), (100, 1, .aload 0, 0, 0, 0, 0, []), (101, 3, .getfield 0, 8, 5, 2, 0, [270]), (104, 1, .aload 0, 0, 0, 0, 0, []), (105, 3, .getfield 0, 8, 1, 2, 0, [265]), (108, 1, .iload 0, 2, 0, 0, 0, []),
  (109, 2, .iconst 0, 0, 0, 0, 48, []), (111, 1, .imul, 0, 0, 0, 0, []), (112, 3, .invokevirtual 0, 71, 6, 8, 0, [471, 473, 3, 23]), (115, 3, .iinc 0 0, 2, 0, 0, 1, []), (118, 3, .goto 0, 81, 0, 0, 0, []), (121, 1, .return_, 0, 0, 0, 0, [])
  ]
def mc_X8_reckonRoads : List mv_E := [
  (0, 1, .iconst 0, 0, 0, 0, 0, []), (1, 1, .istore 0, 2, 0, 0, 0, []), (2, 1, .iload 0, 2, 0, 0, 0, []), (3, 1, .aload 0, 1, 0, 0, 0, []), (4, 3, .getfield 0, 0, 2, 0, 0, [92]), (7, 1, .iconst 0, 0, 0, 0, 4, []),
  (8, 1, .imul, 0, 0, 0, 0, []), (9, 3, .if_icmp .ge 0, 76, 0, 0, 0, []), (12, 1, .aload 0, 0, 0, 0, 0, []), (13, 3, .getfield 0, 8, 3, 2, 0, [268]), (16, 1, .iload 0, 2, 0, 0, 0, []), (17, 1, .iaload, 0, 0, 0, 0, []),
  (18, 1, .istore 0, 3, 0, 0, 0, []), (19, 1, .aload 0, 1, 0, 0, 0, []), (20, 3, .getfield 0, 0, 10, 2, 0, [120]), (23, 1, .iload 0, 2, 0, 0, 0, []), (24, 1, .iaload, 0, 0, 0, 0, []), (25, 1, .iconst 0, 0, 0, 0, 4, []),
  (26, 3, .if_icmp .ne 0, 33, 0, 0, 0, []), (29, 1, .iconst 0, 0, 0, 0, 0, []), (30, 3, .goto 0, 39, 0, 0, 0, []), (33, 1, .aload 0, 1, 0, 0, 0, []), (34, 3, .getfield 0, 0, 10, 2, 0, [120]), (37, 1, .iload 0, 2, 0, 0, 0, []),
  (38, 1, .iaload, 0, 0, 0, 0, []), (39, 2, .istore 0, 4, 0, 0, 0, []), (41, 1, .aload 0, 0, 0, 0, 0, []), (42, 3, .getfield 0, 8, 4, 2, 0, [269]), (45, 1, .iload 0, 2, 0, 0, 0, []), (46, 1, .iload 0, 3, 0, 0, 0, []),
  (47, 1, .iconst 0, 0, 0, 0, (-1), []), (48, 3, .if_icmp .ne 0, 55, 0, 0, 0, []), (51, 1, .iconst 0, 0, 0, 0, 0, []), (52, 3, .goto 0, 69, 0, 0, 0, []), (55, 1, .aload 0, 1, 0, 0, 0, []), (56, 3, .getfield 0, 0, 12, 2, 0, [125]),
  (59, 2, .iload 0, 4, 0, 0, 0, []), (61, 1, .iaload, 0, 0, 0, 0, []), (62, 1, .aload 0, 1, 0, 0, 0, []), (63, 3, .getfield 0, 0, 7, 2, 0, [109]), (66, 1, .iload 0, 3, 0, 0, 0, []), (67, 1, .iaload, 0, 0, 0, 0, []),
  (68, 1, .iadd, 0, 0, 0, 0, []), (69, 1, .iastore, 0, 0, 0, 0, []), (70, 3, .iinc 0 0, 2, 0, 0, 1, []), (73, 3, .goto 0, 2, 0, 0, 0, []), (76, 1, .iconst 0, 0, 0, 0, 0, []), (77, 1, .istore 0, 2, 0, 0, 0, []),
  (78, 1, .iload 0, 2, 0, 0, 0, []), (79, 1, .aload 0, 1, 0, 0, 0, []), (80, 3, .getfield 0, 0, 4, 0, 0, [99]), (83, 3, .if_icmp .ge 0, 118, 0, 0, 0, []), (86, 1, .aload 0, 0, 0, 0, 0, []), (87, 1, .aload 0, 1, 0, 0, 0, []),
  (88, 3, .getfield 0, 0, 2, 0, 0, [92]), (91, 1, .aload 0, 1, 0, 0, 0, []), (92, 3, .getfield 0, 0, 11, 2, 0, [122]), (95, 1, .iload 0, 2, 0, 0, 0, []), (96, 1, .iaload, 0, 0, 0, 0, []), (97, 1, .aload 0, 0, 0, 0, 0, []),
  (98, 3, .getfield 0, 8, 4, 2, 0, [269]), (101, 1, .aload 0, 0, 0, 0, 0, []), (102, 3, .getfield 0, 8, 0, 2, 0, [263]), (105, 1, .iload 0, 2, 0, 0, 0, []), (106, 2, .iconst 0, 0, 0, 0, 48, []), (108, 1, .imul, 0, 0, 0, 0, []),
  (109, 3, .invokevirtual 0, 71, 6, 8, 0, [471, 473, 3, 23]), (112, 3, .iinc 0 0, 2, 0, 0, 1, []), (115, 3, .goto 0, 78, 0, 0, 0, []), (118, 1, .return_, 0, 0, 0, 0, [])
  ]
def mc_X8_search : List mv_E := [
  (0, 1, .iconst 0, 0, 0, 0, 0, []), (1, 2, .istore 0, 6, 0, 0, 0, []), (3, 2, .iload 0, 6, 0, 0, 0, []), (5, 1, .iload 0, 1, 0, 0, 0, []), (6, 3, .if_icmp .ge 0, 25, 0, 0, 0, []), (9, 2, .aload 0, 4, 0, 0, 0, []),
  (11, 2, .iload 0, 5, 0, 0, 0, []), (13, 2, .iload 0, 6, 0, 0, 0, []), (15, 1, .iadd, 0, 0, 0, 0, []), (16, 2, .iconst 0, 0, 0, 0, 268435456, [475]), (18, 1, .iastore, 0, 0, 0, 0, []), (19, 3, .iinc 0 0, 6, 0, 0, 1, []),
  (22, 3, .goto 0, 3, 0, 0, 0, []), (25, 2, .aload 0, 4, 0, 0, 0, []), (27, 2, .iload 0, 5, 0, 0, 0, []), (29, 1, .iload 0, 2, 0, 0, 0, []), (30, 1, .iadd, 0, 0, 0, 0, []), (31, 1, .iconst 0, 0, 0, 0, 0, []),
  (32, 1, .iastore, 0, 0, 0, 0, []), (33, 1, .iconst 0, 0, 0, 0, 1, []), (34, 2, .istore 0, 6, 0, 0, 0, []), (36, 1, .iconst 0, 0, 0, 0, 0, []), (37, 2, .istore 0, 7, 0, 0, 0, []), (39, 2, .iload 0, 7, 0, 0, 0, []),
  (41, 2, .iconst 0, 0, 0, 0, 48, []), (43, 3, .if_icmp .ge 0, 134, 0, 0, 0, []), (46, 2, .iload 0, 6, 0, 0, 0, []), (48, 3, .ifCond .eq 0, 134, 0, 0, 0, []), (51, 1, .iconst 0, 0, 0, 0, 0, []), (52, 2, .istore 0, 6, 0, 0, 0, []),
  (54, 1, .iconst 0, 0, 0, 0, 0, []), (55, 2, .istore 0, 8, 0, 0, 0, []), (57, 2, .iload 0, 8, 0, 0, 0, []), (59, 1, .iload 0, 1, 0, 0, 0, []), (60, 3, .if_icmp .ge 0, 128, 0, 0, 0, []), (63, 2, .iload 0, 7, 0, 0, 0, []),
  (65, 1, .iconst 0, 0, 0, 0, 1, []), (66, 1, .iand, 0, 0, 0, 0, []), (67, 3, .ifCond .ne 0, 75, 0, 0, 0, []), (70, 2, .iload 0, 8, 0, 0, 0, []), (72, 3, .goto 0, 81, 0, 0, 0, []), (75, 1, .iload 0, 1, 0, 0, 0, []),
  (76, 1, .iconst 0, 0, 0, 0, 1, []), (77, 1, .isub, 0, 0, 0, 0, []), (78, 2, .iload 0, 8, 0, 0, 0, []), (80, 1, .isub, 0, 0, 0, 0, []), (81, 2, .istore 0, 9, 0, 0, 0, []), (83, 1, .aload 0, 0, 0, 0, 0, []),
  (84, 2, .iload 0, 9, 0, 0, 0, []), (86, 1, .aload 0, 3, 0, 0, 0, []), (87, 2, .aload 0, 4, 0, 0, 0, []), (89, 2, .iload 0, 5, 0, 0, 0, []), (91, 3, .invokevirtual 0, 72, 5, 8, 1, [476, 478, 4, 23]), (94, 2, .istore 0, 10, 0, 0, 0, []),
  (96, 2, .iload 0, 10, 0, 0, 0, []), (98, 2, .aload 0, 4, 0, 0, 0, []), (100, 2, .iload 0, 5, 0, 0, 0, []), (102, 2, .iload 0, 9, 0, 0, 0, []), (104, 1, .iadd, 0, 0, 0, 0, []), (105, 1, .iaload, 0, 0, 0, 0, []),
  (106, 3, .if_icmp .ge 0, 122, 0, 0, 0, []), (109, 2, .aload 0, 4, 0, 0, 0, []), (111, 2, .iload 0, 5, 0, 0, 0, []), (113, 2, .iload 0, 9, 0, 0, 0, []), (115, 1, .iadd, 0, 0, 0, 0, []), (116, 2, .iload 0, 10, 0, 0, 0, []),
  (118, 1, .iastore, 0, 0, 0, 0, []), (119, 1, .iconst 0, 0, 0, 0, 1, []), (120, 2, .istore 0, 6, 0, 0, 0, []), (122, 3, .iinc 0 0, 8, 0, 0, 1, []), (125, 3, .goto 0, 57, 0, 0, 0, []), (128, 3, .iinc 0 0, 7, 0, 0, 1, []),
  (131, 3, .goto 0, 39, 0, 0, 0, []), (134, 1, .return_, 0, 0, 0, 0, [])
  ]
def mc_X8_leastFrom : List mv_E := [
  (0, 2, .iconst 0, 0, 0, 0, 268435456, [475]), (2, 2, .istore 0, 5, 0, 0, 0, []), (4, 1, .iload 0, 1, 0, 0, 0, []), (5, 1, .iconst 0, 0, 0, 0, 4, []), (6, 1, .imul, 0, 0, 0, 0, []), (7, 2, .istore 0, 6, 0, 0, 0, []),
  (9, 2, .iload 0, 6, 0, 0, 0, []), (11, 1, .iload 0, 1, 0, 0, 0, []), (12, 1, .iconst 0, 0, 0, 0, 4, []), (13, 1, .imul, 0, 0, 0, 0, []), (14, 1, .iconst 0, 0, 0, 0, 4, []), (15, 1, .iadd, 0, 0, 0, 0, []),
  (16, 3, .if_icmp .ge 0, 71, 0, 0, 0, []), (19, 1, .aload 0, 0, 0, 0, 0, []), (20, 3, .getfield 0, 8, 3, 2, 0, [268]), (23, 2, .iload 0, 6, 0, 0, 0, []), (25, 1, .iaload, 0, 0, 0, 0, []), (26, 2, .istore 0, 7, 0, 0, 0, []),
  (28, 2, .iload 0, 7, 0, 0, 0, []), (30, 1, .iconst 0, 0, 0, 0, (-1), []), (31, 3, .if_icmp .eq 0, 65, 0, 0, 0, []), (34, 1, .aload 0, 2, 0, 0, 0, []), (35, 2, .iload 0, 6, 0, 0, 0, []), (37, 1, .iaload, 0, 0, 0, 0, []),
  (38, 1, .aload 0, 3, 0, 0, 0, []), (39, 2, .iload 0, 4, 0, 0, 0, []), (41, 2, .iload 0, 7, 0, 0, 0, []), (43, 1, .iadd, 0, 0, 0, 0, []), (44, 1, .iaload, 0, 0, 0, 0, []), (45, 1, .iadd, 0, 0, 0, 0, []),
  (46, 2, .iload 0, 5, 0, 0, 0, []), (48, 3, .if_icmp .ge 0, 65, 0, 0, 0, []), (51, 1, .aload 0, 2, 0, 0, 0, []), (52, 2, .iload 0, 6, 0, 0, 0, []), (54, 1, .iaload, 0, 0, 0, 0, []), (55, 1, .aload 0, 3, 0, 0, 0, []),
  (56, 2, .iload 0, 4, 0, 0, 0, []), (58, 2, .iload 0, 7, 0, 0, 0, []), (60, 1, .iadd, 0, 0, 0, 0, []), (61, 1, .iaload, 0, 0, 0, 0, []), (62, 1, .iadd, 0, 0, 0, 0, []), (63, 2, .istore 0, 5, 0, 0, 0, []),
  (65, 3, .iinc 0 0, 6, 0, 0, 1, []), (68, 3, .goto 0, 9, 0, 0, 0, []), (71, 2, .iload 0, 5, 0, 0, 0, []), (73, 1, .ireturn, 0, 0, 0, 0, [])
  ]
def mc_X9_init : List mv_E := [
  (0, 1, .aload 0, 0, 0, 0, 0, []), (1, 3, .invokespecial 0, 0, 0, 1, 0, [341, 35, 36]), (4, 1, .aload 0, 0, 0, 0, 0, []), (5, 2, .iconst 0, 0, 0, 0, 48, []), (7, 2, .newarray .long, 101, 0, 0, 0, [314]), (9, 3, .putfield 0, 9, 0, 2, 0, [342]),
  (12, 1, .return_, 0, 0, 0, 0, [])
  ]
def mc_X10_init : List mv_E := [
  (0, 1, .aload 0, 0, 0, 0, 0, []), (1, 3, .invokespecial 0, 0, 0, 1, 0, [79, 35, 36]), (4, 1, .aload 0, 0, 0, 0, 0, []), (5, 3, .new 0, 0, 13, 0, 0, [80, 81, 20]), (8, 1, .dup, 0, 0, 0, 0, []), (9, 3, .invokespecial 0, 0, 1, 10, 439, [82, 83, 20]),
  (12, 3, .putfield 0, 10, 0, 2, 0, [240]), (15, 1, .aload 0, 0, 0, 0, 0, []), (16, 3, .new 0, 7, 14, 0, 0, [153, 154, 21]), (19, 1, .dup, 0, 0, 0, 0, []), (20, 3, .invokespecial 0, 57, 1, 14, 300, [155, 156, 21]), (23, 3, .putfield 0, 10, 1, 2, 0, [244]),
  (26, 1, .aload 0, 0, 0, 0, 0, []), (27, 3, .new 0, 2, 5, 0, 0, [217, 218, 22]), (30, 1, .dup, 0, 0, 0, 0, []), (31, 3, .invokespecial 0, 31, 1, 6, 32, [219, 220, 22]), (34, 3, .putfield 0, 10, 2, 2, 0, [248]), (37, 1, .return_, 0, 0, 0, 0, [])
  ]
def mc_X10_takeFrom : List mv_E := [
  (0, 1, .aload 0, 0, 0, 0, 0, []), (1, 3, .getfield 0, 10, 0, 2, 0, [240]), (4, 1, .aload 0, 1, 0, 0, 0, []), (5, 3, .getfield 0, 10, 0, 2, 0, [240]), (8, 3, .invokevirtual 0, 3, 2, 0, 0, [656, 657, 658, 20]), (11, 1, .aload 0, 0, 0, 0, 0, []),
  (12, 3, .getfield 0, 10, 1, 2, 0, [244]), (15, 1, .aload 0, 1, 0, 0, 0, []), (16, 3, .getfield 0, 10, 1, 2, 0, [244]), (19, 3, .invokevirtual 0, 60, 2, 7, 0, [661, 662, 663, 21]), (22, 1, .aload 0, 0, 0, 0, 0, []), (23, 3, .getfield 0, 10, 2, 2, 0, [248]),
  (26, 1, .aload 0, 1, 0, 0, 0, []), (27, 3, .getfield 0, 10, 2, 2, 0, [248]), (30, 3, .invokevirtual 0, 33, 2, 2, 0, [666, 667, 668, 22]), (33, 1, .return_, 0, 0, 0, 0, [])
  ]
def mc_X11_init : List mv_E := [
  (0, 1, .aload 0, 0, 0, 0, 0, []), (1, 3, .invokespecial 0, 0, 0, 1, 0, [34, 35, 36]), (4, 1, .aload 0, 0, 0, 0, 0, []), (5, 3, .new 0, 5, 2, 0, 0, [37, 38, 16]), (8, 1, .dup, 0, 0, 0, 0, []), (9, 3, .invokespecial 0, 45, 1, 3, 60, [39, 40, 16]),
  (12, 3, .putfield 0, 11, 0, 2, 0, [380]), (15, 1, .aload 0, 0, 0, 0, 0, []), (16, 3, .new 0, 4, 2, 0, 0, [54, 55, 17]), (19, 1, .dup, 0, 0, 0, 0, []), (20, 3, .invokespecial 0, 42, 1, 3, 48, [56, 57, 17]), (23, 3, .putfield 0, 11, 1, 2, 0, [381]),
  (26, 1, .aload 0, 0, 0, 0, 0, []), (27, 3, .new 0, 1, 8, 0, 0, [68, 69, 18]), (30, 1, .dup, 0, 0, 0, 0, []), (31, 3, .invokespecial 0, 11, 1, 39, 2636, [70, 71, 18]), (34, 3, .putfield 0, 11, 2, 2, 0, [382]), (37, 1, .aload 0, 0, 0, 0, 0, []),
  (38, 1, .aload 0, 0, 0, 0, 0, []), (39, 3, .getfield 0, 11, 2, 2, 0, [382]), (42, 3, .getfield 0, 1, 0, 2, 0, [285]), (45, 3, .putfield 0, 11, 3, 2, 0, [383]), (48, 1, .aload 0, 0, 0, 0, 0, []), (49, 1, .aload 0, 0, 0, 0, 0, []),
  (50, 3, .getfield 0, 11, 3, 2, 0, [383]), (53, 3, .getfield 0, 10, 0, 2, 0, [242]), (56, 3, .putfield 0, 11, 4, 2, 0, [384]), (59, 1, .aload 0, 0, 0, 0, 0, []), (60, 1, .aload 0, 0, 0, 0, 0, []), (61, 3, .getfield 0, 11, 3, 2, 0, [383]),
  (64, 3, .getfield 0, 10, 1, 2, 0, [246]), (67, 3, .putfield 0, 11, 5, 2, 0, [385]), (70, 1, .aload 0, 0, 0, 0, 0, []), (71, 1, .aload 0, 0, 0, 0, 0, []), (72, 3, .getfield 0, 11, 3, 2, 0, [383]), (75, 3, .getfield 0, 10, 2, 2, 0, [249]),
  (78, 3, .putfield 0, 11, 6, 2, 0, [386]), (81, 1, .aload 0, 0, 0, 0, 0, []), (82, 3, .new 0, 10, 3, 0, 0, [315, 75, 19]), (85, 1, .dup, 0, 0, 0, 0, []), (86, 3, .invokespecial 0, 83, 1, 29, 803, [316, 77, 19]), (89, 3, .putfield 0, 11, 7, 2, 0, [387]),
  (92, 1, .aload 0, 0, 0, 0, 0, []), (93, 1, .iconst 0, 0, 0, 0, 0, []), (94, 3, .putfield 0, 11, 8, 1, 0, [388]), (97, 1, .aload 0, 0, 0, 0, 0, []), (98, 3, .new 0, 6, 4, 0, 0, [317, 318, 24]), (101, 1, .dup, 0, 0, 0, 0, []),
  (102, 3, .invokespecial 0, 49, 1, 6, 978, [319, 320, 24]), (105, 3, .putfield 0, 11, 9, 2, 0, [389]), (108, 1, .aload 0, 0, 0, 0, 0, []), (109, 3, .new 0, 9, 1, 0, 0, [336, 337, 25]), (112, 1, .dup, 0, 0, 0, 0, []), (113, 3, .invokespecial 0, 73, 1, 3, 48, [338, 339, 25]),
  (116, 3, .putfield 0, 11, 10, 2, 0, [390]), (119, 1, .aload 0, 0, 0, 0, 0, []), (120, 3, .new 0, 3, 9, 0, 0, [346, 347, 26]), (123, 1, .dup, 0, 0, 0, 0, []), (124, 3, .invokespecial 0, 34, 1, 9, 127, [348, 349, 26]), (127, 3, .putfield 0, 11, 11, 2, 0, [391]),
  (130, 1, .aload 0, 0, 0, 0, 0, []), (131, 2, .iconst 0, 0, 0, 0, 7, []), (133, 2, .newarray .int, 100, 0, 0, 0, [53]), (135, 3, .putfield 0, 11, 12, 2, 0, [392]), (138, 1, .return_, 0, 0, 0, 0, [])
  ]
def mc_X11_feed : List mv_E := [
  (0, 1, .iload 0, 1, 0, 0, 0, []), (1, 1, .iconst 0, 0, 0, 0, 1, []), (2, 3, .if_icmp .ge 0, 12, 0, 0, 0, []), (5, 1, .aload 0, 0, 0, 0, 0, []), (6, 2, .iconst 0, 0, 0, 0, (-4), []), (8, 3, .invokevirtual 0, 126, 2, 11, 1, [428, 430, 0, 15]),
  (11, 1, .ireturn, 0, 0, 0, 0, []), (12, 1, .iload 0, 1, 0, 0, 0, []), (13, 2, .iconst 0, 0, 0, 0, 8, []), (15, 3, .if_icmp .gt 0, 32, 0, 0, 0, []), (18, 1, .aload 0, 0, 0, 0, 0, []), (19, 3, .getfield 0, 11, 0, 2, 0, [380]),
  (22, 3, .getfield 0, 5, 1, 0, 0, [47]), (25, 1, .iload 0, 1, 0, 0, 0, []), (26, 1, .iadd, 0, 0, 0, 0, []), (27, 2, .iconst 0, 0, 0, 0, 60, []), (29, 3, .if_icmp .le 0, 39, 0, 0, 0, []), (32, 1, .aload 0, 0, 0, 0, 0, []),
  (33, 2, .iconst 0, 0, 0, 0, (-6), []), (35, 3, .invokevirtual 0, 126, 2, 11, 1, [428, 430, 0, 15]), (38, 1, .ireturn, 0, 0, 0, 0, []), (39, 1, .aload 0, 0, 0, 0, 0, []), (40, 3, .getfield 0, 11, 0, 2, 0, [380]), (43, 1, .iload 0, 1, 0, 0, 0, []),
  (44, 1, .lload 0, 2, 0, 0, 0, []), (45, 3, .invokevirtual 0, 46, 3, 5, 0, [708, 709, 710, 16]), (48, 1, .aload 0, 0, 0, 0, 0, []), (49, 3, .getfield 0, 11, 0, 2, 0, [380]), (52, 3, .getfield 0, 5, 1, 0, 0, [47]), (55, 1, .ireturn, 0, 0, 0, 0, [])
  ]
def mc_X11_read : List mv_E := [
  (0, 1, .aload 0, 0, 0, 0, 0, []), (1, 3, .getfield 0, 11, 0, 2, 0, [380]), (4, 3, .invokevirtual 0, 47, 1, 5, 1, [718, 719, 720, 16]), (7, 1, .istore 0, 1, 0, 0, 0, []), (8, 1, .iload 0, 1, 0, 0, 0, []), (9, 1, .iconst 0, 0, 0, 0, (-1), []),
  (10, 3, .if_icmp .eq 0, 26, 0, 0, 0, []), (13, 1, .aload 0, 0, 0, 0, 0, []), (14, 3, .getfield 0, 11, 0, 2, 0, [380]), (17, 1, .iconst 0, 0, 0, 0, 0, []), (18, 3, .putfield 0, 5, 1, 0, 0, [47]), (21, 2, .iconst 0, 0, 0, 0, (-20), []),
  (23, 1, .iload 0, 1, 0, 0, 0, []), (24, 1, .isub, 0, 0, 0, 0, []), (25, 1, .ireturn, 0, 0, 0, 0, []), (26, 1, .aload 0, 0, 0, 0, 0, []), (27, 3, .getfield 0, 11, 4, 2, 0, [384]), (30, 1, .aload 0, 0, 0, 0, 0, []),
  (31, 3, .getfield 0, 11, 0, 2, 0, [380]), (34, 3, .invokevirtual 0, 1, 2, 0, 0, [725, 726, 727, 20]), (37, 1, .aload 0, 0, 0, 0, 0, []), (38, 3, .getfield 0, 11, 6, 2, 0, [386]), (41, 1, .iconst 0, 0, 0, 0, 0, []), (42, 3, .putfield 0, 2, 0, 0, 0, [224]),
  (45, 1, .aload 0, 0, 0, 0, 0, []), (46, 3, .getfield 0, 11, 0, 2, 0, [380]), (49, 1, .iconst 0, 0, 0, 0, 0, []), (50, 3, .putfield 0, 5, 1, 0, 0, [47]), (53, 1, .aload 0, 0, 0, 0, 0, []), (54, 3, .getfield 0, 11, 2, 2, 0, [382]),
  (57, 3, .invokevirtual 0, 12, 1, 1, 0, [675, 676, 677, 18]), (60, 1, .aload 0, 0, 0, 0, 0, []), (61, 3, .getfield 0, 11, 4, 2, 0, [384]), (64, 3, .getfield 0, 0, 2, 0, 0, [94]), (67, 1, .ireturn, 0, 0, 0, 0, [])
  ]
def mc_X11_acre : List mv_E := [
  (0, 1, .aload 0, 0, 0, 0, 0, []), (1, 3, .getfield 0, 11, 4, 2, 0, [384]), (4, 1, .iload 0, 1, 0, 0, 0, []), (5, 3, .invokevirtual 0, 4, 2, 0, 1, [424, 425, 426, 20]), (8, 1, .istore 0, 3, 0, 0, 0, []), (9, 1, .iload 0, 3, 0, 0, 0, []),
  (10, 1, .iconst 0, 0, 0, 0, (-1), []), (11, 3, .if_icmp .ne 0, 20, 0, 0, 0, []), (14, 1, .aload 0, 0, 0, 0, 0, []), (15, 1, .iconst 0, 0, 0, 0, (-1), []), (16, 3, .invokevirtual 0, 126, 2, 11, 1, [428, 430, 0, 15]), (19, 1, .ireturn, 0, 0, 0, 0, []),
  (20, 1, .iload 0, 2, 0, 0, 0, []), (21, 35, .tableswitch 0 0 0 #[], 122, 0, 0, 0, [56, 66, 76, 86, 113]), (56, 1, .aload 0, 0, 0, 0, 0, []), (57, 3, .getfield 0, 11, 4, 2, 0, [384]), (60, 3, .getfield 0, 0, 6, 2, 0, [106]), (63, 1, .iload 0, 3, 0, 0, 0, []),
  (64, 1, .iaload, 0, 0, 0, 0, []), (65, 1, .ireturn, 0, 0, 0, 0, []), (66, 1, .aload 0, 0, 0, 0, 0, []), (67, 3, .getfield 0, 11, 4, 2, 0, [384]), (70, 3, .getfield 0, 0, 7, 2, 0, [110]), (73, 1, .iload 0, 3, 0, 0, 0, []),
  (74, 1, .iaload, 0, 0, 0, 0, []), (75, 1, .ireturn, 0, 0, 0, 0, []), (76, 1, .aload 0, 0, 0, 0, 0, []), (77, 3, .getfield 0, 11, 4, 2, 0, [384]), (80, 3, .getfield 0, 0, 9, 2, 0, [117]), (83, 1, .iload 0, 3, 0, 0, 0, []),
  (84, 1, .iaload, 0, 0, 0, 0, []), (85, 1, .ireturn, 0, 0, 0, 0, []), (86, 1, .aload 0, 0, 0, 0, 0, []), (87, 3, .getfield 0, 11, 4, 2, 0, [384]), (90, 3, .getfield 0, 0, 8, 2, 0, [112]), (93, 1, .iload 0, 3, 0, 0, 0, []),
  (94, 1, .iaload, 0, 0, 0, 0, []), (95, 3, .ifCond .ge 0, 103, 0, 0, 0, []), (98, 2, .iconst 0, 0, 0, 0, (-9), []), (100, 3, .goto 0, 112, 0, 0, 0, []), (103, 1, .aload 0, 0, 0, 0, 0, []), (104, 3, .getfield 0, 11, 4, 2, 0, [384]),
  (107, 3, .getfield 0, 0, 8, 2, 0, [112]), (110, 1, .iload 0, 3, 0, 0, 0, []), (111, 1, .iaload, 0, 0, 0, 0, []), (112, 1, .ireturn, 0, 0, 0, 0, []), (113, 1, .aload 0, 0, 0, 0, 0, []), (114, 3, .getfield 0, 11, 4, 2, 0, [384]),
  (117, 1, .iload 0, 3, 0, 0, 0, []), (118, 3, .invokevirtual 0, 9, 2, 0, 1, [432, 433, 434, 20]), (121, 1, .ireturn, 0, 0, 0, 0, []), (122, 1, .aload 0, 0, 0, 0, 0, []), (123, 2, .iconst 0, 0, 0, 0, (-2), []), (125, 3, .invokevirtual 0, 126, 2, 11, 1, [428, 430, 0, 15]),
  (128, 1, .ireturn, 0, 0, 0, 0, [])
  ]
def mc_X11_road : List mv_E := [
  (0, 1, .aload 0, 0, 0, 0, 0, []), (1, 3, .getfield 0, 11, 4, 2, 0, [384]), (4, 1, .iload 0, 1, 0, 0, 0, []), (5, 3, .invokevirtual 0, 4, 2, 0, 1, [424, 425, 426, 20]), (8, 2, .istore 0, 4, 0, 0, 0, []), (10, 1, .aload 0, 0, 0, 0, 0, []),
  (11, 3, .getfield 0, 11, 4, 2, 0, [384]), (14, 2, .iload 0, 4, 0, 0, 0, []), (16, 1, .aload 0, 0, 0, 0, 0, []), (17, 3, .getfield 0, 11, 4, 2, 0, [384]), (20, 1, .iload 0, 2, 0, 0, 0, []), (21, 3, .invokevirtual 0, 4, 2, 0, 1, [424, 425, 426, 20]),
  (24, 3, .invokevirtual 0, 6, 3, 0, 1, [737, 738, 739, 20]), (27, 2, .istore 0, 5, 0, 0, 0, []), (29, 2, .iload 0, 5, 0, 0, 0, []), (31, 1, .iconst 0, 0, 0, 0, (-1), []), (32, 3, .if_icmp .ne 0, 41, 0, 0, 0, []), (35, 1, .aload 0, 0, 0, 0, 0, []),
  (36, 1, .iconst 0, 0, 0, 0, (-1), []), (37, 3, .invokevirtual 0, 126, 2, 11, 1, [428, 430, 0, 15]), (40, 1, .ireturn, 0, 0, 0, 0, []), (41, 1, .iload 0, 3, 0, 0, 0, []), (42, 3, .ifCond .lt 0, 50, 0, 0, 0, []), (45, 1, .iload 0, 3, 0, 0, 0, []),
  (46, 1, .iconst 0, 0, 0, 0, 3, []), (47, 3, .if_icmp .le 0, 57, 0, 0, 0, []), (50, 1, .aload 0, 0, 0, 0, 0, []), (51, 2, .iconst 0, 0, 0, 0, (-2), []), (53, 3, .invokevirtual 0, 126, 2, 11, 1, [428, 430, 0, 15]), (56, 1, .ireturn, 0, 0, 0, 0, []),
  (57, 1, .aload 0, 0, 0, 0, 0, []), (58, 3, .getfield 0, 11, 4, 2, 0, [384]), (61, 2, .iload 0, 4, 0, 0, 0, []), (63, 2, .iload 0, 5, 0, 0, 0, []), (65, 3, .invokevirtual 0, 7, 3, 0, 1, [742, 743, 744, 20]), (68, 2, .istore 0, 6, 0, 0, 0, []),
  (70, 2, .iload 0, 6, 0, 0, 0, []), (72, 3, .ifCond .ne 0, 98, 0, 0, 0, []), (75, 1, .iload 0, 3, 0, 0, 0, []), (76, 3, .ifCond .eq 0, 98, 0, 0, 0, []), (79, 1, .aload 0, 0, 0, 0, 0, []), (80, 3, .getfield 0, 11, 4, 2, 0, [384]),
  (83, 3, .getfield 0, 0, 3, 0, 0, [97]), (86, 2, .iconst 0, 0, 0, 0, 12, []), (88, 3, .if_icmp .lt 0, 98, 0, 0, 0, []), (91, 1, .aload 0, 0, 0, 0, 0, []), (92, 2, .iconst 0, 0, 0, 0, (-6), []), (94, 3, .invokevirtual 0, 126, 2, 11, 1, [428, 430, 0, 15]),
  (97, 1, .ireturn, 0, 0, 0, 0, []), (98, 1, .aload 0, 0, 0, 0, 0, []), (99, 3, .getfield 0, 11, 4, 2, 0, [384]), (102, 1, .dup, 0, 0, 0, 0, []), (103, 3, .getfield 0, 0, 3, 0, 0, [97]), (106, 1, .iload 0, 3, 0, 0, 0, []),
  (107, 3, .ifCond .ne 0, 114, 0, 0, 0, []), (110, 1, .iconst 0, 0, 0, 0, 0, []), (111, 3, .goto 0, 115, 0, 0, 0, []), (114, 1, .iconst 0, 0, 0, 0, 1, []), (115, 2, .iload 0, 6, 0, 0, 0, []), (117, 3, .ifCond .ne 0, 124, 0, 0, 0, []),
  (120, 1, .iconst 0, 0, 0, 0, 0, []), (121, 3, .goto 0, 125, 0, 0, 0, []), (124, 1, .iconst 0, 0, 0, 0, 1, []), (125, 1, .isub, 0, 0, 0, 0, []), (126, 1, .iadd, 0, 0, 0, 0, []), (127, 3, .putfield 0, 0, 3, 0, 0, [97]),
  (130, 1, .aload 0, 0, 0, 0, 0, []), (131, 3, .getfield 0, 11, 4, 2, 0, [384]), (134, 2, .iload 0, 4, 0, 0, 0, []), (136, 2, .iload 0, 5, 0, 0, 0, []), (138, 1, .iload 0, 3, 0, 0, 0, []), (139, 3, .invokevirtual 0, 8, 4, 0, 0, [746, 747, 748, 20]),
  (142, 1, .aload 0, 0, 0, 0, 0, []), (143, 3, .getfield 0, 11, 2, 2, 0, [382]), (146, 3, .invokevirtual 0, 12, 1, 1, 0, [675, 676, 677, 18]), (149, 2, .iload 0, 6, 0, 0, 0, []), (151, 1, .ireturn, 0, 0, 0, 0, [])
  ]
def mc_X11_toll : List mv_E := [
  (0, 1, .aload 0, 0, 0, 0, 0, []), (1, 3, .getfield 0, 11, 4, 2, 0, [384]), (4, 1, .iload 0, 1, 0, 0, 0, []), (5, 3, .invokevirtual 0, 4, 2, 0, 1, [424, 425, 426, 20]), (8, 1, .istore 0, 3, 0, 0, 0, []), (9, 1, .iload 0, 3, 0, 0, 0, []),
  (10, 1, .iconst 0, 0, 0, 0, (-1), []), (11, 3, .if_icmp .ne 0, 20, 0, 0, 0, []), (14, 1, .aload 0, 0, 0, 0, 0, []), (15, 1, .iconst 0, 0, 0, 0, (-1), []), (16, 3, .invokevirtual 0, 126, 2, 11, 1, [428, 430, 0, 15]), (19, 1, .ireturn, 0, 0, 0, 0, []),
  (20, 1, .iload 0, 2, 0, 0, 0, []), (21, 1, .iconst 0, 0, 0, 0, 0, []), (22, 2, .iconst 0, 0, 0, 0, 99, []), (24, 3, .invokestatic 0, 128, 3, 1, 1, [444, 445, 15]), (27, 2, .istore 0, 4, 0, 0, 0, []), (29, 2, .iload 0, 4, 0, 0, 0, []),
  (31, 3, .ifCond .eq 0, 41, 0, 0, 0, []), (34, 1, .aload 0, 0, 0, 0, 0, []), (35, 2, .iload 0, 4, 0, 0, 0, []), (37, 3, .invokevirtual 0, 126, 2, 11, 1, [428, 430, 0, 15]), (40, 1, .ireturn, 0, 0, 0, 0, []), (41, 1, .aload 0, 0, 0, 0, 0, []),
  (42, 3, .getfield 0, 11, 4, 2, 0, [384]), (45, 3, .getfield 0, 0, 7, 2, 0, [110]), (48, 1, .iload 0, 3, 0, 0, 0, []), (49, 1, .iaload, 0, 0, 0, 0, []), (50, 2, .istore 0, 5, 0, 0, 0, []), (52, 1, .aload 0, 0, 0, 0, 0, []),
  (53, 3, .getfield 0, 11, 4, 2, 0, [384]), (56, 3, .getfield 0, 0, 7, 2, 0, [110]), (59, 1, .iload 0, 3, 0, 0, 0, []), (60, 1, .iload 0, 2, 0, 0, 0, []), (61, 1, .iastore, 0, 0, 0, 0, []), (62, 1, .aload 0, 0, 0, 0, 0, []),
  (63, 3, .getfield 0, 11, 2, 2, 0, [382]), (66, 3, .invokevirtual 0, 12, 1, 1, 0, [675, 676, 677, 18]), (69, 2, .iload 0, 5, 0, 0, 0, []), (71, 1, .ireturn, 0, 0, 0, 0, [])
  ]
def mc_X11_market : List mv_E := [
  (0, 1, .aload 0, 0, 0, 0, 0, []), (1, 3, .getfield 0, 11, 4, 2, 0, [384]), (4, 1, .iload 0, 1, 0, 0, 0, []), (5, 3, .invokevirtual 0, 4, 2, 0, 1, [424, 425, 426, 20]), (8, 1, .istore 0, 2, 0, 0, 0, []), (9, 1, .iload 0, 2, 0, 0, 0, []),
  (10, 1, .iconst 0, 0, 0, 0, (-1), []), (11, 3, .if_icmp .ne 0, 20, 0, 0, 0, []), (14, 1, .aload 0, 0, 0, 0, 0, []), (15, 1, .iconst 0, 0, 0, 0, (-1), []), (16, 3, .invokevirtual 0, 126, 2, 11, 1, [428, 430, 0, 15]), (19, 1, .ireturn, 0, 0, 0, 0, []),
  (20, 1, .aload 0, 0, 0, 0, 0, []), (21, 3, .getfield 0, 11, 4, 2, 0, [384]), (24, 1, .iload 0, 2, 0, 0, 0, []), (25, 3, .invokevirtual 0, 9, 2, 0, 1, [432, 433, 434, 20]), (28, 2, .iconst 0, 0, 0, 0, (-9), []), (30, 3, .if_icmp .eq 0, 40, 0, 0, 0, []),
  (33, 1, .aload 0, 0, 0, 0, 0, []), (34, 2, .iconst 0, 0, 0, 0, (-3), []), (36, 3, .invokevirtual 0, 126, 2, 11, 1, [428, 430, 0, 15]), (39, 1, .ireturn, 0, 0, 0, 0, []), (40, 1, .aload 0, 0, 0, 0, 0, []), (41, 3, .getfield 0, 11, 4, 2, 0, [384]),
  (44, 3, .getfield 0, 0, 4, 0, 0, [102]), (47, 1, .iconst 0, 0, 0, 0, 3, []), (48, 3, .if_icmp .lt 0, 58, 0, 0, 0, []), (51, 1, .aload 0, 0, 0, 0, 0, []), (52, 2, .iconst 0, 0, 0, 0, (-6), []), (54, 3, .invokevirtual 0, 126, 2, 11, 1, [428, 430, 0, 15]),
  (57, 1, .ireturn, 0, 0, 0, 0, []), (58, 1, .aload 0, 0, 0, 0, 0, []), (59, 3, .getfield 0, 11, 4, 2, 0, [384]), (62, 3, .getfield 0, 0, 4, 0, 0, [102]), (65, 1, .istore 0, 3, 0, 0, 0, []), (66, 1, .aload 0, 0, 0, 0, 0, []),
  (67, 3, .getfield 0, 11, 4, 2, 0, [384]), (70, 3, .getfield 0, 0, 11, 2, 0, [123]), (73, 1, .iload 0, 3, 0, 0, 0, []), (74, 1, .iload 0, 2, 0, 0, 0, []), (75, 1, .iastore, 0, 0, 0, 0, []), (76, 1, .aload 0, 0, 0, 0, 0, []),
  (77, 3, .getfield 0, 11, 4, 2, 0, [384]), (80, 1, .iload 0, 3, 0, 0, 0, []), (81, 1, .iconst 0, 0, 0, 0, 1, []), (82, 1, .iadd, 0, 0, 0, 0, []), (83, 3, .putfield 0, 0, 4, 0, 0, [102]), (86, 1, .aload 0, 0, 0, 0, 0, []),
  (87, 3, .getfield 0, 11, 2, 2, 0, [382]), (90, 3, .invokevirtual 0, 12, 1, 1, 0, [675, 676, 677, 18]), (93, 1, .iload 0, 3, 0, 0, 0, []), (94, 1, .ireturn, 0, 0, 0, 0, [])
  ]
def mc_X11_use : List mv_E := [
  (0, 1, .iload 0, 1, 0, 0, 0, []), (1, 3, .ifCond .lt 0, 9, 0, 0, 0, []), (4, 1, .iload 0, 1, 0, 0, 0, []), (5, 1, .iconst 0, 0, 0, 0, 5, []), (6, 3, .if_icmp .le 0, 16, 0, 0, 0, []), (9, 1, .aload 0, 0, 0, 0, 0, []),
  (10, 2, .iconst 0, 0, 0, 0, (-2), []), (12, 3, .invokevirtual 0, 126, 2, 11, 1, [428, 430, 0, 15]), (15, 1, .ireturn, 0, 0, 0, 0, []), (16, 1, .iload 0, 2, 0, 0, 0, []), (17, 3, .ifCond .lt 0, 34, 0, 0, 0, []), (20, 1, .iload 0, 3, 0, 0, 0, []),
  (21, 3, .ifCond .lt 0, 34, 0, 0, 0, []), (24, 2, .iload 0, 4, 0, 0, 0, []), (26, 3, .ifCond .lt 0, 34, 0, 0, 0, []), (29, 2, .iload 0, 5, 0, 0, 0, []), (31, 3, .ifCond .ge 0, 41, 0, 0, 0, []), (34, 1, .aload 0, 0, 0, 0, 0, []),
  (35, 2, .iconst 0, 0, 0, 0, (-4), []), (37, 3, .invokevirtual 0, 126, 2, 11, 1, [428, 430, 0, 15]), (40, 1, .ireturn, 0, 0, 0, 0, []), (41, 1, .iload 0, 2, 0, 0, 0, []), (42, 2, .iconst 0, 0, 0, 0, 99, []), (44, 3, .if_icmp .gt 0, 80, 0, 0, 0, []),
  (47, 1, .iload 0, 3, 0, 0, 0, []), (48, 2, .iconst 0, 0, 0, 0, 99, []), (50, 3, .if_icmp .gt 0, 80, 0, 0, 0, []), (53, 2, .iload 0, 4, 0, 0, 0, []), (55, 3, .iconst 0, 0, 0, 0, 9999, []), (58, 3, .if_icmp .gt 0, 80, 0, 0, 0, []),
  (61, 2, .iload 0, 5, 0, 0, 0, []), (63, 2, .iconst 0, 0, 0, 0, 99, []), (65, 3, .if_icmp .gt 0, 80, 0, 0, 0, []), (68, 1, .aload 0, 0, 0, 0, 0, []), (69, 3, .getfield 0, 11, 5, 2, 0, [385]), (72, 3, .getfield 0, 7, 0, 0, 0, [162]),
  (75, 2, .iconst 0, 0, 0, 0, 6, []), (77, 3, .if_icmp .lt 0, 87, 0, 0, 0, []), (80, 1, .aload 0, 0, 0, 0, 0, []), (81, 2, .iconst 0, 0, 0, 0, (-6), []), (83, 3, .invokevirtual 0, 126, 2, 11, 1, [428, 430, 0, 15]), (86, 1, .ireturn, 0, 0, 0, 0, []),
  (87, 1, .aload 0, 0, 0, 0, 0, []), (88, 3, .getfield 0, 11, 5, 2, 0, [385]), (91, 1, .iload 0, 1, 0, 0, 0, []), (92, 1, .iload 0, 2, 0, 0, 0, []), (93, 1, .iload 0, 3, 0, 0, 0, []), (94, 2, .iload 0, 4, 0, 0, 0, []),
  (96, 2, .iload 0, 5, 0, 0, 0, []), (98, 3, .invokevirtual 0, 58, 6, 7, 1, [762, 763, 764, 21]), (101, 2, .istore 0, 6, 0, 0, 0, []), (103, 1, .aload 0, 0, 0, 0, 0, []), (104, 3, .getfield 0, 11, 2, 2, 0, [382]), (107, 3, .invokevirtual 0, 13, 1, 1, 0, [451, 452, 453, 18]),
  (110, 2, .iload 0, 6, 0, 0, 0, []), (112, 1, .ireturn, 0, 0, 0, 0, [])
  ]
def mc_X11_year : List mv_E := [
  (0, 1, .aload 0, 0, 0, 0, 0, []), (1, 1, .iload 0, 1, 0, 0, 0, []), (2, 3, .invokevirtual 0, 129, 2, 11, 1, [447, 449, 2, 15]), (5, 3, .ifCond .eq 0, 14, 0, 0, 0, []), (8, 1, .aload 0, 0, 0, 0, 0, []), (9, 1, .iconst 0, 0, 0, 0, (-1), []),
  (10, 3, .invokevirtual 0, 126, 2, 11, 1, [428, 430, 0, 15]), (13, 1, .ireturn, 0, 0, 0, 0, []), (14, 1, .aload 0, 0, 0, 0, 0, []), (15, 3, .getfield 0, 11, 5, 2, 0, [385]), (18, 3, .getfield 0, 7, 2, 2, 0, [168]), (21, 1, .iload 0, 1, 0, 0, 0, []),
  (22, 1, .iaload, 0, 0, 0, 0, []), (23, 1, .iconst 0, 0, 0, 0, 3, []), (24, 3, .if_icmp .eq 0, 34, 0, 0, 0, []), (27, 1, .aload 0, 0, 0, 0, 0, []), (28, 2, .iconst 0, 0, 0, 0, (-3), []), (30, 3, .invokevirtual 0, 126, 2, 11, 1, [428, 430, 0, 15]),
  (33, 1, .ireturn, 0, 0, 0, 0, []), (34, 1, .iload 0, 2, 0, 0, 0, []), (35, 2, .iconst 0, 0, 0, 0, (-99), []), (37, 3, .if_icmp .ge 0, 47, 0, 0, 0, []), (40, 1, .aload 0, 0, 0, 0, 0, []), (41, 2, .iconst 0, 0, 0, 0, (-4), []),
  (43, 3, .invokevirtual 0, 126, 2, 11, 1, [428, 430, 0, 15]), (46, 1, .ireturn, 0, 0, 0, 0, []), (47, 1, .iload 0, 2, 0, 0, 0, []), (48, 2, .iconst 0, 0, 0, 0, 99, []), (50, 3, .if_icmp .gt 0, 67, 0, 0, 0, []), (53, 1, .aload 0, 0, 0, 0, 0, []),
  (54, 3, .getfield 0, 11, 5, 2, 0, [385]), (57, 3, .getfield 0, 7, 8, 2, 0, [177]), (60, 1, .iload 0, 1, 0, 0, 0, []), (61, 1, .iaload, 0, 0, 0, 0, []), (62, 2, .iconst 0, 0, 0, 0, 6, []), (64, 3, .if_icmp .lt 0, 74, 0, 0, 0, []),
  (67, 1, .aload 0, 0, 0, 0, 0, []), (68, 2, .iconst 0, 0, 0, 0, (-6), []), (70, 3, .invokevirtual 0, 126, 2, 11, 1, [428, 430, 0, 15]), (73, 1, .ireturn, 0, 0, 0, 0, []), (74, 1, .aload 0, 0, 0, 0, 0, []), (75, 3, .getfield 0, 11, 5, 2, 0, [385]),
  (78, 3, .getfield 0, 7, 8, 2, 0, [177]), (81, 1, .iload 0, 1, 0, 0, 0, []), (82, 1, .dup2, 0, 0, 0, 0, []), (83, 1, .iaload, 0, 0, 0, 0, []), (84, 1, .iconst 0, 0, 0, 0, 1, []), (85, 1, .iadd, 0, 0, 0, 0, []),
  (86, 1, .iastore, 0, 0, 0, 0, []), (87, 1, .aload 0, 0, 0, 0, 0, []), (88, 3, .getfield 0, 11, 5, 2, 0, [385]), (91, 3, .getfield 0, 7, 9, 2, 0, [179]), (94, 1, .iload 0, 1, 0, 0, 0, []), (95, 1, .dup2, 0, 0, 0, 0, []),
  (96, 1, .iaload, 0, 0, 0, 0, []), (97, 1, .iload 0, 2, 0, 0, 0, []), (98, 1, .iadd, 0, 0, 0, 0, []), (99, 1, .iastore, 0, 0, 0, 0, []), (100, 1, .aload 0, 0, 0, 0, 0, []), (101, 3, .getfield 0, 11, 2, 2, 0, [382]),
  (104, 3, .invokevirtual 0, 13, 1, 1, 0, [451, 452, 453, 18]), (107, 1, .aload 0, 0, 0, 0, 0, []), (108, 3, .getfield 0, 11, 5, 2, 0, [385]), (111, 3, .getfield 0, 7, 8, 2, 0, [177]), (114, 1, .iload 0, 1, 0, 0, 0, []), (115, 1, .iaload, 0, 0, 0, 0, []),
  (116, 1, .ireturn, 0, 0, 0, 0, [])
  ]
def mc_X11_price : List mv_E := [
  (0, 1, .aload 0, 0, 0, 0, 0, []), (1, 1, .iload 0, 1, 0, 0, 0, []), (2, 3, .invokevirtual 0, 129, 2, 11, 1, [447, 449, 2, 15]), (5, 3, .ifCond .ne 0, 16, 0, 0, 0, []), (8, 1, .aload 0, 0, 0, 0, 0, []), (9, 1, .iload 0, 2, 0, 0, 0, []),
  (10, 3, .invokevirtual 0, 130, 2, 11, 1, [552, 554, 7, 15]), (13, 3, .ifCond .eq 0, 22, 0, 0, 0, []), (16, 1, .aload 0, 0, 0, 0, 0, []), (17, 1, .iconst 0, 0, 0, 0, (-1), []), (18, 3, .invokevirtual 0, 126, 2, 11, 1, [428, 430, 0, 15]), (21, 1, .ireturn, 0, 0, 0, 0, []),
  (22, 1, .iload 0, 3, 0, 0, 0, []), (23, 1, .iconst 0, 0, 0, 0, 0, []), (24, 3, .iconst 0, 0, 0, 0, 999, []), (27, 3, .invokestatic 0, 128, 3, 1, 1, [444, 445, 15]), (30, 2, .istore 0, 4, 0, 0, 0, []), (32, 2, .iload 0, 4, 0, 0, 0, []),
  (34, 3, .ifCond .eq 0, 44, 0, 0, 0, []), (37, 1, .aload 0, 0, 0, 0, 0, []), (38, 2, .iload 0, 4, 0, 0, 0, []), (40, 3, .invokevirtual 0, 126, 2, 11, 1, [428, 430, 0, 15]), (43, 1, .ireturn, 0, 0, 0, 0, []), (44, 1, .iload 0, 1, 0, 0, 0, []),
  (45, 1, .iload 0, 2, 0, 0, 0, []), (46, 3, .invokestatic 0, 131, 2, 1, 1, [556, 557, 15]), (49, 2, .istore 0, 5, 0, 0, 0, []), (51, 1, .aload 0, 0, 0, 0, 0, []), (52, 3, .getfield 0, 11, 5, 2, 0, [385]), (55, 3, .getfield 0, 7, 10, 2, 0, [182]),
  (58, 2, .iload 0, 5, 0, 0, 0, []), (60, 1, .iaload, 0, 0, 0, 0, []), (61, 2, .istore 0, 6, 0, 0, 0, []), (63, 1, .aload 0, 0, 0, 0, 0, []), (64, 3, .getfield 0, 11, 5, 2, 0, [385]), (67, 3, .getfield 0, 7, 10, 2, 0, [182]),
  (70, 2, .iload 0, 5, 0, 0, 0, []), (72, 1, .iload 0, 3, 0, 0, 0, []), (73, 1, .iastore, 0, 0, 0, 0, []), (74, 1, .aload 0, 0, 0, 0, 0, []), (75, 3, .getfield 0, 11, 2, 2, 0, [382]), (78, 3, .invokevirtual 0, 13, 1, 1, 0, [451, 452, 453, 18]),
  (81, 2, .iload 0, 6, 0, 0, 0, []), (83, 1, .ireturn, 0, 0, 0, 0, [])
  ]
def mc_X11_tax : List mv_E := [
  (0, 1, .iload 0, 1, 0, 0, 0, []), (1, 1, .iconst 0, 0, 0, 0, (-1), []), (2, 3, .if_icmp .ne 0, 11, 0, 0, 0, []), (5, 1, .aload 0, 0, 0, 0, 0, []), (6, 1, .iload 0, 2, 0, 0, 0, []), (7, 3, .invokevirtual 0, 98, 2, 11, 1, [440, 442, 1, 15]),
  (10, 1, .ireturn, 0, 0, 0, 0, []), (11, 1, .aload 0, 0, 0, 0, 0, []), (12, 1, .iload 0, 1, 0, 0, 0, []), (13, 3, .invokevirtual 0, 129, 2, 11, 1, [447, 449, 2, 15]), (16, 3, .ifCond .eq 0, 25, 0, 0, 0, []), (19, 1, .aload 0, 0, 0, 0, 0, []),
  (20, 1, .iconst 0, 0, 0, 0, (-1), []), (21, 3, .invokevirtual 0, 126, 2, 11, 1, [428, 430, 0, 15]), (24, 1, .ireturn, 0, 0, 0, 0, []), (25, 1, .iload 0, 2, 0, 0, 0, []), (26, 1, .iconst 0, 0, 0, 0, 0, []), (27, 3, .iconst 0, 0, 0, 0, 9999, []),
  (30, 3, .invokestatic 0, 128, 3, 1, 1, [444, 445, 15]), (33, 1, .istore 0, 3, 0, 0, 0, []), (34, 1, .iload 0, 3, 0, 0, 0, []), (35, 3, .ifCond .eq 0, 44, 0, 0, 0, []), (38, 1, .aload 0, 0, 0, 0, 0, []), (39, 1, .iload 0, 3, 0, 0, 0, []),
  (40, 3, .invokevirtual 0, 126, 2, 11, 1, [428, 430, 0, 15]), (43, 1, .ireturn, 0, 0, 0, 0, []), (44, 1, .aload 0, 0, 0, 0, 0, []), (45, 3, .getfield 0, 11, 5, 2, 0, [385]), (48, 3, .getfield 0, 7, 7, 2, 0, [174]), (51, 1, .iload 0, 1, 0, 0, 0, []),
  (52, 1, .iaload, 0, 0, 0, 0, []), (53, 2, .istore 0, 4, 0, 0, 0, []), (55, 1, .aload 0, 0, 0, 0, 0, []), (56, 3, .getfield 0, 11, 5, 2, 0, [385]), (59, 3, .getfield 0, 7, 7, 2, 0, [174]), (62, 1, .iload 0, 1, 0, 0, 0, []),
  (63, 1, .iload 0, 2, 0, 0, 0, []), (64, 1, .iastore, 0, 0, 0, 0, []), (65, 1, .aload 0, 0, 0, 0, 0, []), (66, 3, .getfield 0, 11, 2, 2, 0, [382]), (69, 3, .invokevirtual 0, 13, 1, 1, 0, [451, 452, 453, 18]), (72, 2, .iload 0, 4, 0, 0, 0, []),
  (74, 1, .ireturn, 0, 0, 0, 0, [])
  ]
def mc_X11_rentTax : List mv_E := [
  (0, 1, .iload 0, 1, 0, 0, 0, []), (1, 1, .iconst 0, 0, 0, 0, 0, []), (2, 2, .iconst 0, 0, 0, 0, 100, []), (4, 3, .invokestatic 0, 128, 3, 1, 1, [444, 445, 15]), (7, 1, .istore 0, 2, 0, 0, 0, []), (8, 1, .iload 0, 2, 0, 0, 0, []),
  (9, 3, .ifCond .eq 0, 18, 0, 0, 0, []), (12, 1, .aload 0, 0, 0, 0, 0, []), (13, 1, .iload 0, 2, 0, 0, 0, []), (14, 3, .invokevirtual 0, 126, 2, 11, 1, [428, 430, 0, 15]), (17, 1, .ireturn, 0, 0, 0, 0, []), (18, 1, .aload 0, 0, 0, 0, 0, []),
  (19, 3, .getfield 0, 11, 5, 2, 0, [385]), (22, 3, .getfield 0, 7, 1, 0, 0, [165]), (25, 1, .istore 0, 3, 0, 0, 0, []), (26, 1, .aload 0, 0, 0, 0, 0, []), (27, 3, .getfield 0, 11, 5, 2, 0, [385]), (30, 1, .iload 0, 1, 0, 0, 0, []),
  (31, 3, .putfield 0, 7, 1, 0, 0, [165]), (34, 1, .iload 0, 3, 0, 0, 0, []), (35, 1, .ireturn, 0, 0, 0, 0, [])
  ]
def mc_X11_goes : List mv_E := [
  (0, 1, .aload 0, 0, 0, 0, 0, []), (1, 3, .getfield 0, 11, 4, 2, 0, [384]), (4, 1, .iload 0, 1, 0, 0, 0, []), (5, 3, .invokevirtual 0, 4, 2, 0, 1, [424, 425, 426, 20]), (8, 1, .istore 0, 3, 0, 0, 0, []), (9, 1, .iload 0, 3, 0, 0, 0, []),
  (10, 1, .iconst 0, 0, 0, 0, (-1), []), (11, 3, .if_icmp .ne 0, 20, 0, 0, 0, []), (14, 1, .aload 0, 0, 0, 0, 0, []), (15, 1, .iconst 0, 0, 0, 0, (-1), []), (16, 3, .invokevirtual 0, 126, 2, 11, 1, [428, 430, 0, 15]), (19, 1, .ireturn, 0, 0, 0, 0, []),
  (20, 1, .iload 0, 2, 0, 0, 0, []), (21, 3, .ifCond .lt 0, 29, 0, 0, 0, []), (24, 1, .iload 0, 2, 0, 0, 0, []), (25, 1, .iconst 0, 0, 0, 0, 1, []), (26, 3, .if_icmp .le 0, 36, 0, 0, 0, []), (29, 1, .aload 0, 0, 0, 0, 0, []),
  (30, 2, .iconst 0, 0, 0, 0, (-2), []), (32, 3, .invokevirtual 0, 126, 2, 11, 1, [428, 430, 0, 15]), (35, 1, .ireturn, 0, 0, 0, 0, []), (36, 1, .aload 0, 0, 0, 0, 0, []), (37, 3, .getfield 0, 11, 2, 2, 0, [382]), (40, 3, .invokevirtual 0, 14, 1, 1, 0, [459, 460, 461, 18]),
  (43, 1, .aload 0, 0, 0, 0, 0, []), (44, 3, .getfield 0, 11, 2, 2, 0, [382]), (47, 3, .getfield 0, 1, 3, 2, 0, [292]), (50, 1, .iload 0, 3, 0, 0, 0, []), (51, 1, .iaload, 0, 0, 0, 0, []), (52, 2, .istore 0, 4, 0, 0, 0, []),
  (54, 2, .iload 0, 4, 0, 0, 0, []), (56, 1, .iconst 0, 0, 0, 0, (-1), []), (57, 3, .if_icmp .ne 0, 63, 0, 0, 0, []), (60, 2, .iconst 0, 0, 0, 0, (-9), []), (62, 1, .ireturn, 0, 0, 0, 0, []), (63, 1, .iload 0, 2, 0, 0, 0, []),
  (64, 3, .ifCond .ne 0, 74, 0, 0, 0, []), (67, 2, .iload 0, 4, 0, 0, 0, []), (69, 1, .iconst 0, 0, 0, 0, 3, []), (70, 1, .idiv, 0, 0, 0, 0, []), (71, 3, .goto 0, 78, 0, 0, 0, []), (74, 2, .iload 0, 4, 0, 0, 0, []),
  (76, 1, .iconst 0, 0, 0, 0, 3, []), (77, 1, .irem, 0, 0, 0, 0, []), (78, 1, .ireturn, 0, 0, 0, 0, [])
  ]
def mc_X11_rent : List mv_E := [
  (0, 1, .aload 0, 0, 0, 0, 0, []), (1, 3, .getfield 0, 11, 4, 2, 0, [384]), (4, 1, .iload 0, 1, 0, 0, 0, []), (5, 3, .invokevirtual 0, 4, 2, 0, 1, [424, 425, 426, 20]), (8, 1, .istore 0, 2, 0, 0, 0, []), (9, 1, .iload 0, 1, 0, 0, 0, []),
  (10, 1, .iconst 0, 0, 0, 0, (-1), []), (11, 3, .if_icmp .eq 0, 25, 0, 0, 0, []), (14, 1, .iload 0, 2, 0, 0, 0, []), (15, 1, .iconst 0, 0, 0, 0, (-1), []), (16, 3, .if_icmp .ne 0, 25, 0, 0, 0, []), (19, 1, .aload 0, 0, 0, 0, 0, []),
  (20, 1, .iconst 0, 0, 0, 0, (-1), []), (21, 3, .invokevirtual 0, 127, 2, 11, 2, [529, 531, 5, 15]), (24, 1, .lreturn, 0, 0, 0, 0, []), (25, 1, .aload 0, 0, 0, 0, 0, []), (26, 3, .getfield 0, 11, 2, 2, 0, [382]), (29, 3, .invokevirtual 0, 14, 1, 1, 0, [459, 460, 461, 18]),
  (32, 1, .iload 0, 1, 0, 0, 0, []), (33, 1, .iconst 0, 0, 0, 0, (-1), []), (34, 3, .if_icmp .ne 0, 47, 0, 0, 0, []), (37, 1, .aload 0, 0, 0, 0, 0, []), (38, 3, .getfield 0, 11, 2, 2, 0, [382]), (41, 3, .invokevirtual 0, 22, 1, 1, 2, [534, 535, 536, 18]),
  (44, 3, .goto 0, 55, 0, 0, 0, []), (47, 1, .aload 0, 0, 0, 0, 0, []), (48, 3, .getfield 0, 11, 2, 2, 0, [382]), (51, 1, .iload 0, 2, 0, 0, 0, []), (52, 3, .invokevirtual 0, 20, 2, 1, 2, [547, 539, 540, 18]), (55, 1, .lreturn, 0, 0, 0, 0, [])
  ]
def mc_X11_piece : List mv_E := [
  (0, 1, .aload 0, 0, 0, 0, 0, []), (1, 1, .iload 0, 1, 0, 0, 0, []), (2, 3, .invokevirtual 0, 129, 2, 11, 1, [447, 449, 2, 15]), (5, 3, .ifCond .ne 0, 16, 0, 0, 0, []), (8, 1, .aload 0, 0, 0, 0, 0, []), (9, 1, .iload 0, 2, 0, 0, 0, []),
  (10, 3, .invokevirtual 0, 130, 2, 11, 1, [552, 554, 7, 15]), (13, 3, .ifCond .eq 0, 22, 0, 0, 0, []), (16, 1, .aload 0, 0, 0, 0, 0, []), (17, 1, .iconst 0, 0, 0, 0, (-1), []), (18, 3, .invokevirtual 0, 126, 2, 11, 1, [428, 430, 0, 15]), (21, 1, .ireturn, 0, 0, 0, 0, []),
  (22, 1, .iload 0, 3, 0, 0, 0, []), (23, 3, .ifCond .lt 0, 31, 0, 0, 0, []), (26, 2, .iload 0, 4, 0, 0, 0, []), (28, 3, .ifCond .ge 0, 38, 0, 0, 0, []), (31, 1, .aload 0, 0, 0, 0, 0, []), (32, 2, .iconst 0, 0, 0, 0, (-4), []),
  (34, 3, .invokevirtual 0, 126, 2, 11, 1, [428, 430, 0, 15]), (37, 1, .ireturn, 0, 0, 0, 0, []), (38, 1, .iload 0, 1, 0, 0, 0, []), (39, 1, .iload 0, 2, 0, 0, 0, []), (40, 3, .invokestatic 0, 131, 2, 1, 1, [556, 557, 15]), (43, 2, .istore 0, 5, 0, 0, 0, []),
  (45, 1, .iload 0, 3, 0, 0, 0, []), (46, 3, .iconst 0, 0, 0, 0, 9999, []), (49, 3, .if_icmp .gt 0, 75, 0, 0, 0, []), (52, 2, .iload 0, 4, 0, 0, 0, []), (54, 3, .iconst 0, 0, 0, 0, 999, []), (57, 3, .if_icmp .gt 0, 75, 0, 0, 0, []),
  (60, 1, .aload 0, 0, 0, 0, 0, []), (61, 3, .getfield 0, 11, 5, 2, 0, [385]), (64, 3, .getfield 0, 7, 11, 2, 0, [185]), (67, 2, .iload 0, 5, 0, 0, 0, []), (69, 1, .iaload, 0, 0, 0, 0, []), (70, 2, .iconst 0, 0, 0, 0, 6, []),
  (72, 3, .if_icmp .lt 0, 82, 0, 0, 0, []), (75, 1, .aload 0, 0, 0, 0, 0, []), (76, 2, .iconst 0, 0, 0, 0, (-6), []), (78, 3, .invokevirtual 0, 126, 2, 11, 1, [428, 430, 0, 15]), (81, 1, .ireturn, 0, 0, 0, 0, []), (82, 1, .aload 0, 0, 0, 0, 0, []),
  (83, 3, .getfield 0, 11, 5, 2, 0, [385]), (86, 2, .iload 0, 5, 0, 0, 0, []), (88, 1, .iload 0, 3, 0, 0, 0, []), (89, 2, .iload 0, 4, 0, 0, 0, []), (91, 3, .invokevirtual 0, 59, 4, 7, 0, [559, 560, 561, 21]), (94, 1, .aload 0, 0, 0, 0, 0, []),
  (95, 3, .getfield 0, 11, 5, 2, 0, [385]), (98, 3, .getfield 0, 7, 11, 2, 0, [185]), (101, 2, .iload 0, 5, 0, 0, 0, []), (103, 1, .iaload, 0, 0, 0, 0, []), (104, 1, .ireturn, 0, 0, 0, 0, [])
  ]
def mc_X11_rounds : List mv_E := [
  (0, 1, .iload 0, 1, 0, 0, 0, []), (1, 1, .iconst 0, 0, 0, 0, 1, []), (2, 2, .iconst 0, 0, 0, 0, 20, []), (4, 3, .invokestatic 0, 128, 3, 1, 1, [444, 445, 15]), (7, 1, .istore 0, 2, 0, 0, 0, []), (8, 1, .iload 0, 2, 0, 0, 0, []),
  (9, 3, .ifCond .eq 0, 18, 0, 0, 0, []), (12, 1, .aload 0, 0, 0, 0, 0, []), (13, 1, .iload 0, 2, 0, 0, 0, []), (14, 3, .invokevirtual 0, 126, 2, 11, 1, [428, 430, 0, 15]), (17, 1, .ireturn, 0, 0, 0, 0, []), (18, 1, .aload 0, 0, 0, 0, 0, []),
  (19, 3, .getfield 0, 11, 2, 2, 0, [382]), (22, 3, .invokevirtual 0, 14, 1, 1, 0, [459, 460, 461, 18]), (25, 1, .aload 0, 0, 0, 0, 0, []), (26, 3, .getfield 0, 11, 9, 2, 0, [389]), (29, 1, .aload 0, 0, 0, 0, 0, []), (30, 3, .getfield 0, 11, 2, 2, 0, [382]),
  (33, 1, .iload 0, 1, 0, 0, 0, []), (34, 3, .invokevirtual 0, 53, 3, 6, 1, [567, 568, 569, 24]), (37, 1, .istore 0, 3, 0, 0, 0, []), (38, 1, .aload 0, 0, 0, 0, 0, []), (39, 3, .getfield 0, 11, 2, 2, 0, [382]), (42, 3, .invokevirtual 0, 13, 1, 1, 0, [451, 452, 453, 18]),
  (45, 1, .iload 0, 3, 0, 0, 0, []), (46, 1, .ireturn, 0, 0, 0, 0, [])
  ]
def mc_X11_falls : List mv_E := [
  (0, 1, .aload 0, 0, 0, 0, 0, []), (1, 1, .iload 0, 1, 0, 0, 0, []), (2, 3, .invokevirtual 0, 129, 2, 11, 1, [447, 449, 2, 15]), (5, 3, .ifCond .eq 0, 14, 0, 0, 0, []), (8, 1, .aload 0, 0, 0, 0, 0, []), (9, 1, .iconst 0, 0, 0, 0, (-1), []),
  (10, 3, .invokevirtual 0, 126, 2, 11, 1, [428, 430, 0, 15]), (13, 1, .ireturn, 0, 0, 0, 0, []), (14, 1, .iload 0, 2, 0, 0, 0, []), (15, 1, .iconst 0, 0, 0, 0, 0, []), (16, 3, .iconst 0, 0, 0, 0, 9999, []), (19, 3, .invokestatic 0, 128, 3, 1, 1, [444, 445, 15]),
  (22, 1, .istore 0, 3, 0, 0, 0, []), (23, 1, .iload 0, 3, 0, 0, 0, []), (24, 3, .ifCond .eq 0, 33, 0, 0, 0, []), (27, 1, .aload 0, 0, 0, 0, 0, []), (28, 1, .iload 0, 3, 0, 0, 0, []), (29, 3, .invokevirtual 0, 126, 2, 11, 1, [428, 430, 0, 15]),
  (32, 1, .ireturn, 0, 0, 0, 0, []), (33, 1, .aload 0, 0, 0, 0, 0, []), (34, 3, .getfield 0, 11, 2, 2, 0, [382]), (37, 3, .invokevirtual 0, 14, 1, 1, 0, [459, 460, 461, 18]), (40, 1, .aload 0, 0, 0, 0, 0, []), (41, 3, .getfield 0, 11, 2, 2, 0, [382]),
  (44, 1, .iload 0, 1, 0, 0, 0, []), (45, 1, .iload 0, 2, 0, 0, 0, []), (46, 3, .invokevirtual 0, 30, 3, 1, 1, [611, 612, 613, 18]), (49, 1, .ireturn, 0, 0, 0, 0, [])
  ]
def mc_X11_own : List mv_E := [
  (0, 1, .aload 0, 0, 0, 0, 0, []), (1, 3, .getfield 0, 11, 4, 2, 0, [384]), (4, 1, .iload 0, 1, 0, 0, 0, []), (5, 3, .invokevirtual 0, 4, 2, 0, 1, [424, 425, 426, 20]), (8, 1, .istore 0, 3, 0, 0, 0, []), (9, 1, .iload 0, 3, 0, 0, 0, []),
  (10, 1, .iconst 0, 0, 0, 0, (-1), []), (11, 3, .if_icmp .ne 0, 20, 0, 0, 0, []), (14, 1, .aload 0, 0, 0, 0, 0, []), (15, 1, .iconst 0, 0, 0, 0, (-1), []), (16, 3, .invokevirtual 0, 126, 2, 11, 1, [428, 430, 0, 15]), (19, 1, .ireturn, 0, 0, 0, 0, []),
  (20, 1, .iload 0, 2, 0, 0, 0, []), (21, 1, .iconst 0, 0, 0, 0, (-1), []), (22, 1, .iconst 0, 0, 0, 0, 3, []), (23, 3, .invokestatic 0, 128, 3, 1, 1, [444, 445, 15]), (26, 2, .istore 0, 4, 0, 0, 0, []), (28, 2, .iload 0, 4, 0, 0, 0, []),
  (30, 3, .ifCond .eq 0, 40, 0, 0, 0, []), (33, 1, .aload 0, 0, 0, 0, 0, []), (34, 2, .iload 0, 4, 0, 0, 0, []), (36, 3, .invokevirtual 0, 126, 2, 11, 1, [428, 430, 0, 15]), (39, 1, .ireturn, 0, 0, 0, 0, []), (40, 1, .aload 0, 0, 0, 0, 0, []),
  (41, 3, .getfield 0, 11, 4, 2, 0, [384]), (44, 3, .getfield 0, 0, 8, 2, 0, [112]), (47, 1, .iload 0, 3, 0, 0, 0, []), (48, 1, .iaload, 0, 0, 0, 0, []), (49, 1, .iload 0, 2, 0, 0, 0, []), (50, 3, .if_icmp .ne 0, 55, 0, 0, 0, []),
  (53, 1, .iconst 0, 0, 0, 0, 0, []), (54, 1, .ireturn, 0, 0, 0, 0, []), (55, 1, .aload 0, 0, 0, 0, 0, []), (56, 3, .getfield 0, 11, 4, 2, 0, [384]), (59, 3, .getfield 0, 0, 8, 2, 0, [112]), (62, 1, .iload 0, 3, 0, 0, 0, []),
  (63, 1, .iload 0, 2, 0, 0, 0, []), (64, 1, .iastore, 0, 0, 0, 0, []), (65, 1, .iconst 0, 0, 0, 0, 1, []), (66, 1, .ireturn, 0, 0, 0, 0, [])
  ]
def mc_X11_held : List mv_E := [
  (0, 1, .aload 0, 0, 0, 0, 0, []), (1, 3, .getfield 0, 11, 4, 2, 0, [384]), (4, 1, .iload 0, 1, 0, 0, 0, []), (5, 3, .invokevirtual 0, 4, 2, 0, 1, [424, 425, 426, 20]), (8, 1, .istore 0, 3, 0, 0, 0, []), (9, 1, .iload 0, 3, 0, 0, 0, []),
  (10, 1, .iconst 0, 0, 0, 0, (-1), []), (11, 3, .if_icmp .ne 0, 20, 0, 0, 0, []), (14, 1, .aload 0, 0, 0, 0, 0, []), (15, 1, .iconst 0, 0, 0, 0, (-1), []), (16, 3, .invokevirtual 0, 126, 2, 11, 1, [428, 430, 0, 15]), (19, 1, .ireturn, 0, 0, 0, 0, []),
  (20, 1, .iload 0, 2, 0, 0, 0, []), (21, 3, .ifCond .eq 0, 28, 0, 0, 0, []), (24, 1, .iconst 0, 0, 0, 0, 1, []), (25, 3, .goto 0, 29, 0, 0, 0, []), (28, 1, .iconst 0, 0, 0, 0, 0, []), (29, 2, .istore 0, 4, 0, 0, 0, []),
  (31, 1, .aload 0, 0, 0, 0, 0, []), (32, 3, .getfield 0, 11, 4, 2, 0, [384]), (35, 3, .getfield 0, 0, 9, 2, 0, [117]), (38, 1, .iload 0, 3, 0, 0, 0, []), (39, 1, .iaload, 0, 0, 0, 0, []), (40, 2, .iload 0, 4, 0, 0, 0, []),
  (42, 3, .if_icmp .ne 0, 47, 0, 0, 0, []), (45, 1, .iconst 0, 0, 0, 0, 0, []), (46, 1, .ireturn, 0, 0, 0, 0, []), (47, 1, .aload 0, 0, 0, 0, 0, []), (48, 3, .getfield 0, 11, 4, 2, 0, [384]), (51, 3, .getfield 0, 0, 9, 2, 0, [117]),
  (54, 1, .iload 0, 3, 0, 0, 0, []), (55, 2, .iload 0, 4, 0, 0, 0, []), (57, 1, .iastore, 0, 0, 0, 0, []), (58, 1, .aload 0, 0, 0, 0, 0, []), (59, 3, .getfield 0, 11, 2, 2, 0, [382]), (62, 3, .invokevirtual 0, 13, 1, 1, 0, [451, 452, 453, 18]),
  (65, 1, .iconst 0, 0, 0, 0, 1, []), (66, 1, .ireturn, 0, 0, 0, 0, [])
  ]
def mc_X11_hold : List mv_E := [
  (0, 1, .iload 0, 1, 0, 0, 0, []), (1, 1, .iconst 0, 0, 0, 0, 0, []), (2, 1, .iconst 0, 0, 0, 0, 3, []), (3, 3, .invokestatic 0, 128, 3, 1, 1, [444, 445, 15]), (6, 1, .istore 0, 2, 0, 0, 0, []), (7, 1, .iload 0, 2, 0, 0, 0, []),
  (8, 3, .ifCond .eq 0, 17, 0, 0, 0, []), (11, 1, .aload 0, 0, 0, 0, 0, []), (12, 1, .iload 0, 2, 0, 0, 0, []), (13, 3, .invokevirtual 0, 126, 2, 11, 1, [428, 430, 0, 15]), (16, 1, .ireturn, 0, 0, 0, 0, []), (17, 1, .aload 0, 0, 0, 0, 0, []),
  (18, 3, .getfield 0, 11, 2, 2, 0, [382]), (21, 3, .invokevirtual 0, 14, 1, 1, 0, [459, 460, 461, 18]), (24, 1, .aload 0, 0, 0, 0, 0, []), (25, 3, .getfield 0, 11, 9, 2, 0, [389]), (28, 1, .aload 0, 0, 0, 0, 0, []), (29, 3, .getfield 0, 11, 2, 2, 0, [382]),
  (32, 1, .iload 0, 1, 0, 0, 0, []), (33, 3, .invokevirtual 0, 55, 3, 6, 1, [632, 633, 634, 24]), (36, 1, .ireturn, 0, 0, 0, 0, [])
  ]
def mc_X11_image : List mv_E := [
  (0, 1, .aload 0, 0, 0, 0, 0, []), (1, 3, .getfield 0, 11, 7, 2, 0, [387]), (4, 1, .aload 0, 0, 0, 0, 0, []), (5, 3, .getfield 0, 11, 3, 2, 0, [383]), (8, 3, .invokevirtual 0, 84, 2, 10, 0, [652, 653, 654, 19]), (11, 1, .aload 0, 0, 0, 0, 0, []),
  (12, 1, .iconst 0, 0, 0, 0, 1, []), (13, 3, .putfield 0, 11, 8, 1, 0, [388]), (16, 1, .aload 0, 0, 0, 0, 0, []), (17, 3, .getfield 0, 11, 4, 2, 0, [384]), (20, 3, .getfield 0, 0, 2, 0, 0, [94]), (23, 1, .ireturn, 0, 0, 0, 0, [])
  ]
def mc_X11_on : List mv_E := [
  (0, 1, .aload 0, 0, 0, 0, 0, []), (1, 3, .getfield 0, 11, 8, 1, 0, [388]), (4, 3, .ifCond .ne 0, 14, 0, 0, 0, []), (7, 1, .aload 0, 0, 0, 0, 0, []), (8, 2, .iconst 0, 0, 0, 0, (-3), []), (10, 3, .invokevirtual 0, 126, 2, 11, 1, [428, 430, 0, 15]),
  (13, 1, .ireturn, 0, 0, 0, 0, []), (14, 1, .aload 0, 0, 0, 0, 0, []), (15, 3, .getfield 0, 11, 3, 2, 0, [383]), (18, 1, .aload 0, 0, 0, 0, 0, []), (19, 3, .getfield 0, 11, 7, 2, 0, [387]), (22, 3, .invokevirtual 0, 84, 2, 10, 0, [652, 653, 654, 19]),
  (25, 1, .aload 0, 0, 0, 0, 0, []), (26, 3, .getfield 0, 11, 2, 2, 0, [382]), (29, 3, .invokevirtual 0, 12, 1, 1, 0, [675, 676, 677, 18]), (32, 1, .aload 0, 0, 0, 0, 0, []), (33, 3, .getfield 0, 11, 4, 2, 0, [384]), (36, 3, .getfield 0, 0, 2, 0, 0, [94]),
  (39, 1, .ireturn, 0, 0, 0, 0, [])
  ]
def mc_X11_count : List mv_E := [
  (0, 1, .iload 0, 1, 0, 0, 0, []), (1, 55, .tableswitch 0 0 0 #[], 143, 0, 0, 0, [56, 64, 72, 80, 88, 96, 104, 119, 127, 135]), (56, 1, .aload 0, 0, 0, 0, 0, []), (57, 3, .getfield 0, 11, 4, 2, 0, [384]), (60, 3, .getfield 0, 0, 0, 0, 0, [88]), (63, 1, .ireturn, 0, 0, 0, 0, []),
  (64, 1, .aload 0, 0, 0, 0, 0, []), (65, 3, .getfield 0, 11, 4, 2, 0, [384]), (68, 3, .getfield 0, 0, 1, 0, 0, [90]), (71, 1, .ireturn, 0, 0, 0, 0, []), (72, 1, .aload 0, 0, 0, 0, 0, []), (73, 3, .getfield 0, 11, 4, 2, 0, [384]),
  (76, 3, .getfield 0, 0, 4, 0, 0, [102]), (79, 1, .ireturn, 0, 0, 0, 0, []), (80, 1, .aload 0, 0, 0, 0, 0, []), (81, 3, .getfield 0, 11, 5, 2, 0, [385]), (84, 3, .getfield 0, 7, 0, 0, 0, [162]), (87, 1, .ireturn, 0, 0, 0, 0, []),
  (88, 1, .aload 0, 0, 0, 0, 0, []), (89, 3, .getfield 0, 11, 4, 2, 0, [384]), (92, 3, .getfield 0, 0, 3, 0, 0, [97]), (95, 1, .ireturn, 0, 0, 0, 0, []), (96, 1, .aload 0, 0, 0, 0, 0, []), (97, 3, .getfield 0, 11, 6, 2, 0, [386]),
  (100, 3, .getfield 0, 2, 0, 0, 0, [224]), (103, 1, .ireturn, 0, 0, 0, 0, []), (104, 1, .aload 0, 0, 0, 0, 0, []), (105, 3, .getfield 0, 11, 2, 2, 0, [382]), (108, 3, .invokevirtual 0, 14, 1, 1, 0, [459, 460, 461, 18]), (111, 1, .aload 0, 0, 0, 0, 0, []),
  (112, 3, .getfield 0, 11, 2, 2, 0, [382]), (115, 3, .invokevirtual 0, 29, 1, 1, 1, [683, 684, 685, 18]), (118, 1, .ireturn, 0, 0, 0, 0, []), (119, 1, .aload 0, 0, 0, 0, 0, []), (120, 3, .getfield 0, 11, 4, 2, 0, [384]), (123, 3, .invokevirtual 0, 10, 1, 0, 1, [687, 688, 689, 20]),
  (126, 1, .ireturn, 0, 0, 0, 0, []), (127, 1, .aload 0, 0, 0, 0, 0, []), (128, 3, .getfield 0, 11, 0, 2, 0, [380]), (131, 3, .getfield 0, 5, 1, 0, 0, [47]), (134, 1, .ireturn, 0, 0, 0, 0, []), (135, 1, .aload 0, 0, 0, 0, 0, []),
  (136, 3, .getfield 0, 11, 1, 2, 0, [381]), (139, 3, .getfield 0, 4, 1, 0, 0, [62]), (142, 1, .ireturn, 0, 0, 0, 0, []), (143, 1, .iload 0, 1, 0, 0, 0, []), (144, 2, .iconst 0, 0, 0, 0, 11, []), (146, 3, .if_icmp .lt 0, 167, 0, 0, 0, []),
  (149, 1, .iload 0, 1, 0, 0, 0, []), (150, 2, .iconst 0, 0, 0, 0, 16, []), (152, 3, .if_icmp .gt 0, 167, 0, 0, 0, []), (155, 1, .aload 0, 0, 0, 0, 0, []), (156, 3, .getfield 0, 11, 12, 2, 0, [392]), (159, 1, .iload 0, 1, 0, 0, 0, []),
  (160, 2, .iconst 0, 0, 0, 0, 10, []), (162, 1, .isub, 0, 0, 0, 0, []), (163, 1, .iaload, 0, 0, 0, 0, []), (164, 3, .goto 0, 169, 0, 0, 0, []), (167, 2, .iconst 0, 0, 0, 0, (-9), []), (169, 1, .ireturn, 0, 0, 0, 0, [])
  ]
def mc_X11_refuse : List mv_E := [
  (0, 1, .iload 0, 1, 0, 0, 0, []), (1, 1, .iconst 0, 0, 0, 0, (-1), []), (2, 3, .if_icmp .gt 0, 22, 0, 0, 0, []), (5, 1, .iload 0, 1, 0, 0, 0, []), (6, 2, .iconst 0, 0, 0, 0, (-6), []), (8, 3, .if_icmp .lt 0, 22, 0, 0, 0, []),
  (11, 1, .aload 0, 0, 0, 0, 0, []), (12, 3, .getfield 0, 11, 12, 2, 0, [392]), (15, 1, .iload 0, 1, 0, 0, 0, []), (16, 1, .ineg, 0, 0, 0, 0, []), (17, 1, .dup2, 0, 0, 0, 0, []), (18, 1, .iaload, 0, 0, 0, 0, []),
  (19, 1, .iconst 0, 0, 0, 0, 1, []), (20, 1, .iadd, 0, 0, 0, 0, []), (21, 1, .iastore, 0, 0, 0, 0, []), (22, 1, .iload 0, 1, 0, 0, 0, []), (23, 1, .ireturn, 0, 0, 0, 0, [])
  ]
def mc_X11_refuseLong : List mv_E := [
  (0, 3, .lconst 0, 0, 0, 0, 4000000000000000000, [533]), (3, 1, .aload 0, 0, 0, 0, 0, []), (4, 1, .iload 0, 1, 0, 0, 0, []), (5, 3, .invokevirtual 0, 126, 2, 11, 1, [428, 430, 0, 15]), (8, 1, .i2l, 0, 0, 0, 0, []), (9, 1, .lsub, 0, 0, 0, 0, []),
  (10, 1, .lreturn, 0, 0, 0, 0, [])
  ]
def mc_X11_unfit : List mv_E := [
  (0, 1, .iload 0, 0, 0, 0, 0, []), (1, 1, .iload 0, 1, 0, 0, 0, []), (2, 3, .if_icmp .ge 0, 8, 0, 0, 0, []), (5, 2, .iconst 0, 0, 0, 0, (-4), []), (7, 1, .ireturn, 0, 0, 0, 0, []), (8, 1, .iload 0, 0, 0, 0, 0, []),
  (9, 1, .iload 0, 2, 0, 0, 0, []), (10, 3, .if_icmp .le 0, 18, 0, 0, 0, []), (13, 2, .iconst 0, 0, 0, 0, (-6), []), (15, 3, .goto 0, 19, 0, 0, 0, []), (18, 1, .iconst 0, 0, 0, 0, 0, []), (19, 1, .ireturn, 0, 0, 0, 0, [])
  ]
def mc_X11_isNoUse : List mv_E := [
  (0, 1, .iload 0, 1, 0, 0, 0, []), (1, 3, .ifCond .lt 0, 15, 0, 0, 0, []), (4, 1, .iload 0, 1, 0, 0, 0, []), (5, 1, .aload 0, 0, 0, 0, 0, []), (6, 3, .getfield 0, 11, 5, 2, 0, [385]), (9, 3, .getfield 0, 7, 0, 0, 0, [162]),
  (12, 3, .if_icmp .lt 0, 19, 0, 0, 0, []), (15, 1, .iconst 0, 0, 0, 0, 1, []), (16, 3, .goto 0, 20, 0, 0, 0, []), (19, 1, .iconst 0, 0, 0, 0, 0, []), (20, 1, .ireturn, 1, 0, 0, 0, [])
  ]
def mc_X11_isNoMarket : List mv_E := [
  (0, 1, .iload 0, 1, 0, 0, 0, []), (1, 3, .ifCond .lt 0, 15, 0, 0, 0, []), (4, 1, .iload 0, 1, 0, 0, 0, []), (5, 1, .aload 0, 0, 0, 0, 0, []), (6, 3, .getfield 0, 11, 4, 2, 0, [384]), (9, 3, .getfield 0, 0, 4, 0, 0, [102]),
  (12, 3, .if_icmp .lt 0, 19, 0, 0, 0, []), (15, 1, .iconst 0, 0, 0, 0, 1, []), (16, 3, .goto 0, 20, 0, 0, 0, []), (19, 1, .iconst 0, 0, 0, 0, 0, []), (20, 1, .ireturn, 1, 0, 0, 0, [])
  ]
def mc_X11_offerOf : List mv_E := [
  (0, 1, .iload 0, 0, 0, 0, 0, []), (1, 1, .iconst 0, 0, 0, 0, 3, []), (2, 1, .imul, 0, 0, 0, 0, []), (3, 1, .iload 0, 1, 0, 0, 0, []), (4, 1, .iadd, 0, 0, 0, 0, []), (5, 1, .ireturn, 0, 0, 0, 0, [])
  ]
def mc_J9_floorDiv_f86c9 : List mv_E := [
  (0, 1, .lload 0, 0, 0, 0, 0, []), (1, 1, .lload 0, 2, 0, 0, 0, []), (2, 1, .ldiv, 0, 0, 0, 0, []), (3, 2, .lstore 0, 4, 0, 0, 0, []), (5, 1, .lload 0, 0, 0, 0, 0, []), (6, 1, .lload 0, 2, 0, 0, 0, []),
  (7, 1, .lxor, 0, 0, 0, 0, []), (8, 1, .lconst 0, 0, 0, 0, 0, []), (9, 1, .lcmp, 0, 0, 0, 0, []), (10, 3, .ifCond .ge 0, 27, 0, 0, 0, []), (13, 2, .lload 0, 4, 0, 0, 0, []), (15, 1, .lload 0, 2, 0, 0, 0, []),
  (16, 1, .lmul, 0, 0, 0, 0, []), (17, 1, .lload 0, 0, 0, 0, 0, []), (18, 1, .lcmp, 0, 0, 0, 0, []), (19, 3, .ifCond .eq 0, 27, 0, 0, 0, []), (22, 2, .lload 0, 4, 0, 0, 0, []), (24, 1, .lconst 0, 0, 0, 0, 1, []),
  (25, 1, .lsub, 0, 0, 0, 0, []), (26, 1, .lreturn, 0, 0, 0, 0, []), (27, 2, .lload 0, 4, 0, 0, 0, []), (29, 1, .lreturn, 0, 0, 0, 0, [])
  ]
def mc_J9_max_f86c9 : List mv_E := [
  (0, 1, .lload 0, 0, 0, 0, 0, []), (1, 1, .lload 0, 2, 0, 0, 0, []), (2, 1, .lcmp, 0, 0, 0, 0, []), (3, 3, .ifCond .lt 0, 10, 0, 0, 0, []), (6, 1, .lload 0, 0, 0, 0, 0, []), (7, 3, .goto 0, 11, 0, 0, 0, []),
  (10, 1, .lload 0, 2, 0, 0, 0, []), (11, 1, .lreturn, 0, 0, 0, 0, [])
  ]
def mc_J9_min_f86c9 : List mv_E := [
  (0, 1, .lload 0, 0, 0, 0, 0, []), (1, 1, .lload 0, 2, 0, 0, 0, []), (2, 1, .lcmp, 0, 0, 0, 0, []), (3, 3, .ifCond .gt 0, 10, 0, 0, 0, []), (6, 1, .lload 0, 0, 0, 0, 0, []), (7, 3, .goto 0, 11, 0, 0, 0, []),
  (10, 1, .lload 0, 2, 0, 0, 0, []), (11, 1, .lreturn, 0, 0, 0, 0, [])
  ]
def mc_L_law : List mv_E := [
  (0, 3, .new 0, 11, 13, 0, 0, [29, 30, 15]), (3, 1, .dup, 0, 0, 0, 0, []), (4, 3, .invokespecial 0, 85, 1, 88, 4736, [31, 32, 15]), (7, 1, .astore 0, 1, 0, 0, 0, []), (8, 1, .aload 0, 1, 0, 0, 0, []), (9, 1, .aload 0, 0, 0, 0, 0, []),
  (10, 3, .invokestatic 0, 230, 2, 1, 1, [701, 702, 14]), (13, 1, .istore 0, 2, 0, 0, 0, []), (14, 1, .iload 0, 2, 0, 0, 0, []), (15, 1, .aload 0, 1, 0, 0, 0, []), (16, 1, .iconst 0, 0, 0, 0, 1, []), (17, 3, .invokevirtual 0, 125, 2, 11, 1, [679, 680, 681, 15]),
  (20, 1, .imul, 0, 0, 0, 0, []), (21, 1, .istore 0, 3, 0, 0, 0, []), (22, 1, .aload 0, 1, 0, 0, 0, []), (23, 1, .iconst 0, 0, 0, 0, 3, []), (24, 3, .invokevirtual 0, 125, 2, 11, 1, [679, 680, 681, 15]), (27, 2, .istore 0, 4, 0, 0, 0, []),
  (29, 1, .aload 0, 0, 0, 0, 0, []), (30, 2, .iconst 0, 0, 0, 0, 20, []), (32, 3, .invokestatic 0, 227, 2, 1, 1, [691, 692, 14]), (35, 1, .iconst 0, 0, 0, 0, 4, []), (36, 3, .invokestatic 0, 228, 2, 1, 1, [694, 695, 14]), (39, 2, .istore 0, 5, 0, 0, 0, []),
  (41, 2, .iconst 0, 0, 0, 0, 12, []), (43, 2, .newarray .int, 100, 0, 0, 0, [53]), (45, 2, .astore 0, 6, 0, 0, 0, []), (47, 1, .iconst 0, 0, 0, 0, 0, []), (48, 2, .istore 0, 7, 0, 0, 0, []), (50, 2, .iload 0, 7, 0, 0, 0, []),
  (52, 1, .iload 0, 3, 0, 0, 0, []), (53, 3, .if_icmp .ge 0, 140, 0, 0, 0, []), (56, 2, .aload 0, 6, 0, 0, 0, []), (58, 2, .iload 0, 7, 0, 0, 0, []), (60, 1, .aload 0, 0, 0, 0, 0, []), (61, 2, .iconst 0, 0, 0, 0, 21, []),
  (63, 3, .invokestatic 0, 227, 2, 1, 1, [691, 692, 14]), (66, 1, .iconst 0, 0, 0, 0, 2, []), (67, 2, .iload 0, 7, 0, 0, 0, []), (69, 1, .imul, 0, 0, 0, 0, []), (70, 1, .ishr, 0, 0, 0, 0, []), (71, 1, .iconst 0, 0, 0, 0, 4, []),
  (72, 3, .invokestatic 0, 228, 2, 1, 1, [694, 695, 14]), (75, 1, .iastore, 0, 0, 0, 0, []), (76, 1, .aload 0, 1, 0, 0, 0, []), (77, 2, .iload 0, 7, 0, 0, 0, []), (79, 1, .iload 0, 2, 0, 0, 0, []), (80, 3, .invokestatic 0, 229, 2, 1, 1, [698, 699, 14]),
  (83, 2, .aload 0, 6, 0, 0, 0, []), (85, 2, .iload 0, 7, 0, 0, 0, []), (87, 1, .iaload, 0, 0, 0, 0, []), (88, 3, .invokevirtual 0, 118, 3, 11, 1, [620, 621, 622, 15]), (91, 1, .iconst 0, 0, 0, 0, 1, []), (92, 3, .if_icmp .ne 0, 132, 0, 0, 0, []),
  (95, 1, .aload 0, 1, 0, 0, 0, []), (96, 2, .iload 0, 7, 0, 0, 0, []), (98, 1, .iload 0, 2, 0, 0, 0, []), (99, 3, .invokestatic 0, 229, 2, 1, 1, [698, 699, 14]), (102, 2, .aload 0, 6, 0, 0, 0, []), (104, 2, .iload 0, 7, 0, 0, 0, []),
  (106, 1, .iaload, 0, 0, 0, 0, []), (107, 3, .invokevirtual 0, 118, 3, 11, 1, [620, 621, 622, 15]), (110, 3, .ifCond .ne 0, 132, 0, 0, 0, []), (113, 1, .aload 0, 1, 0, 0, 0, []), (114, 2, .iload 0, 7, 0, 0, 0, []), (116, 1, .iload 0, 2, 0, 0, 0, []),
  (117, 3, .invokestatic 0, 229, 2, 1, 1, [698, 699, 14]), (120, 1, .iconst 0, 0, 0, 0, 3, []), (121, 3, .invokevirtual 0, 88, 3, 11, 1, [420, 421, 422, 15]), (124, 2, .aload 0, 6, 0, 0, 0, []), (126, 2, .iload 0, 7, 0, 0, 0, []), (128, 1, .iaload, 0, 0, 0, 0, []),
  (129, 3, .if_icmp .eq 0, 134, 0, 0, 0, []), (132, 1, .iconst 0, 0, 0, 0, 0, []), (133, 1, .ireturn, 1, 0, 0, 0, []), (134, 3, .iinc 0 0, 7, 0, 0, 1, []), (137, 3, .goto 0, 50, 0, 0, 0, []), (140, 1, .aload 0, 0, 0, 0, 0, []),
  (141, 2, .iconst 0, 0, 0, 0, 22, []), (143, 3, .invokestatic 0, 227, 2, 1, 1, [691, 692, 14]), (146, 1, .iconst 0, 0, 0, 0, 2, []), (147, 3, .invokestatic 0, 228, 2, 1, 1, [694, 695, 14]), (150, 3, .ifCond .ne 0, 187, 0, 0, 0, []), (153, 1, .aload 0, 1, 0, 0, 0, []),
  (154, 1, .iconst 0, 0, 0, 0, 0, []), (155, 1, .iconst 0, 0, 0, 0, 0, []), (156, 1, .aload 0, 0, 0, 0, 0, []), (157, 2, .iconst 0, 0, 0, 0, 22, []), (159, 3, .invokestatic 0, 227, 2, 1, 1, [691, 692, 14]), (162, 1, .iconst 0, 0, 0, 0, 1, []),
  (163, 1, .ishr, 0, 0, 0, 0, []), (164, 2, .iconst 0, 0, 0, 0, 60, []), (166, 3, .invokestatic 0, 228, 2, 1, 1, [694, 695, 14]), (169, 1, .aload 0, 0, 0, 0, 0, []), (170, 2, .iconst 0, 0, 0, 0, 22, []), (172, 3, .invokestatic 0, 227, 2, 1, 1, [691, 692, 14]),
  (175, 2, .iconst 0, 0, 0, 0, 8, []), (177, 1, .ishr, 0, 0, 0, 0, []), (178, 2, .iconst 0, 0, 0, 0, 40, []), (180, 3, .invokestatic 0, 228, 2, 1, 1, [694, 695, 14]), (183, 3, .invokevirtual 0, 103, 5, 11, 1, [548, 549, 550, 15]), (186, 1, .pop, 0, 0, 0, 0, []),
  (187, 1, .aload 0, 1, 0, 0, 0, []), (188, 3, .invokevirtual 0, 123, 1, 11, 1, [648, 649, 650, 15]), (191, 1, .iload 0, 3, 0, 0, 0, []), (192, 3, .if_icmp .eq 0, 197, 0, 0, 0, []), (195, 1, .iconst 0, 0, 0, 0, 0, []), (196, 1, .ireturn, 1, 0, 0, 0, []),
  (197, 3, .lconst 0, 0, 0, 0, (-1), [774]), (200, 2, .lstore 0, 7, 0, 0, 0, []), (202, 2, .iconst 0, 0, 0, 0, (-9), []), (204, 2, .istore 0, 9, 0, 0, 0, []), (206, 1, .iconst 0, 0, 0, 0, (-1), []), (207, 2, .istore 0, 10, 0, 0, 0, []),
  (209, 2, .iload 0, 10, 0, 0, 0, []), (211, 2, .iconst 0, 0, 0, 0, 80, []), (213, 3, .if_icmp .ge 0, 392, 0, 0, 0, []), (216, 2, .iload 0, 10, 0, 0, 0, []), (218, 3, .ifCond .lt 0, 246, 0, 0, 0, []), (221, 2, .iload 0, 10, 0, 0, 0, []),
  (223, 2, .iconst 0, 0, 0, 0, 10, []), (225, 1, .irem, 0, 0, 0, 0, []), (226, 1, .aload 0, 1, 0, 0, 0, []), (227, 1, .iconst 0, 0, 0, 0, 1, []), (228, 3, .invokevirtual 0, 125, 2, 11, 1, [679, 680, 681, 15]), (231, 3, .if_icmp .ge 0, 386, 0, 0, 0, []),
  (234, 2, .iload 0, 10, 0, 0, 0, []), (236, 2, .iconst 0, 0, 0, 0, 10, []), (238, 1, .idiv, 0, 0, 0, 0, []), (239, 1, .iload 0, 2, 0, 0, 0, []), (240, 3, .if_icmp .lt 0, 246, 0, 0, 0, []), (243, 3, .goto 0, 386, 0, 0, 0, []),
  (246, 2, .iload 0, 10, 0, 0, 0, []), (248, 3, .ifCond .lt 0, 276, 0, 0, 0, []), (251, 1, .aload 0, 1, 0, 0, 0, []), (252, 2, .iload 0, 10, 0, 0, 0, []), (254, 1, .iconst 0, 0, 0, 0, 3, []), (255, 3, .invokevirtual 0, 88, 3, 11, 1, [420, 421, 422, 15]),
  (258, 2, .iload 0, 5, 0, 0, 0, []), (260, 3, .if_icmp .ne 0, 386, 0, 0, 0, []), (263, 1, .aload 0, 1, 0, 0, 0, []), (264, 2, .iload 0, 10, 0, 0, 0, []), (266, 1, .iconst 0, 0, 0, 0, 0, []), (267, 3, .invokevirtual 0, 100, 3, 11, 1, [455, 456, 457, 15]),
  (270, 3, .ifCond .ge 0, 276, 0, 0, 0, []), (273, 3, .goto 0, 386, 0, 0, 0, []), (276, 2, .iload 0, 10, 0, 0, 0, []), (278, 3, .ifCond .lt 0, 289, 0, 0, 0, []), (281, 1, .aload 0, 1, 0, 0, 0, []), (282, 2, .iload 0, 10, 0, 0, 0, []),
  (284, 1, .iconst 0, 0, 0, 0, 1, []), (285, 3, .invokevirtual 0, 119, 3, 11, 1, [624, 625, 626, 15]), (288, 1, .pop, 0, 0, 0, 0, []), (289, 1, .aload 0, 1, 0, 0, 0, []), (290, 1, .iconst 0, 0, 0, 0, 1, []), (291, 3, .invokevirtual 0, 106, 2, 11, 1, [563, 564, 565, 15]),
  (294, 1, .pop, 0, 0, 0, 0, []), (295, 1, .lconst 0, 0, 0, 0, 0, []), (296, 2, .lstore 0, 11, 0, 0, 0, []), (298, 1, .iconst 0, 0, 0, 0, 0, []), (299, 2, .istore 0, 13, 0, 0, 0, []), (301, 2, .iload 0, 13, 0, 0, 0, []),
  (303, 1, .iload 0, 3, 0, 0, 0, []), (304, 3, .if_icmp .ge 0, 342, 0, 0, 0, []), (307, 2, .lload 0, 11, 0, 0, 0, []), (309, 2, .aload 0, 6, 0, 0, 0, []), (311, 2, .iload 0, 13, 0, 0, 0, []), (313, 1, .iaload, 0, 0, 0, 0, []),
  (314, 2, .iload 0, 5, 0, 0, 0, []), (316, 3, .if_icmp .ne 0, 332, 0, 0, 0, []), (319, 1, .aload 0, 1, 0, 0, 0, []), (320, 2, .iload 0, 13, 0, 0, 0, []), (322, 1, .iload 0, 2, 0, 0, 0, []), (323, 3, .invokestatic 0, 229, 2, 1, 1, [698, 699, 14]),
  (326, 3, .invokevirtual 0, 101, 2, 11, 2, [525, 526, 527, 15]), (329, 3, .goto 0, 333, 0, 0, 0, []), (332, 1, .lconst 0, 0, 0, 0, 0, []), (333, 1, .ladd, 0, 0, 0, 0, []), (334, 2, .lstore 0, 11, 0, 0, 0, []), (336, 3, .iinc 0 0, 13, 0, 0, 1, []),
  (339, 3, .goto 0, 301, 0, 0, 0, []), (342, 1, .aload 0, 1, 0, 0, 0, []), (343, 3, .invokevirtual 0, 124, 1, 11, 1, [671, 672, 673, 15]), (346, 1, .iload 0, 3, 0, 0, 0, []), (347, 3, .if_icmp .eq 0, 352, 0, 0, 0, []), (350, 1, .iconst 0, 0, 0, 0, 0, []),
  (351, 1, .ireturn, 1, 0, 0, 0, []), (352, 2, .iload 0, 10, 0, 0, 0, []), (354, 3, .ifCond .lt 0, 368, 0, 0, 0, []), (357, 2, .lload 0, 11, 0, 0, 0, []), (359, 2, .lload 0, 7, 0, 0, 0, []), (361, 1, .lcmp, 0, 0, 0, 0, []),
  (362, 3, .ifCond .gt 0, 368, 0, 0, 0, []), (365, 3, .goto 0, 386, 0, 0, 0, []), (368, 2, .lload 0, 11, 0, 0, 0, []), (370, 2, .lstore 0, 7, 0, 0, 0, []), (372, 2, .iload 0, 10, 0, 0, 0, []), (374, 3, .ifCond .ge 0, 382, 0, 0, 0, []),
  (377, 2, .iconst 0, 0, 0, 0, (-9), []), (379, 3, .goto 0, 384, 0, 0, 0, []), (382, 2, .iload 0, 10, 0, 0, 0, []), (384, 2, .istore 0, 9, 0, 0, 0, []), (386, 3, .iinc 0 0, 10, 0, 0, 1, []), (389, 3, .goto 0, 209, 0, 0, 0, []),
  (392, 1, .aload 0, 1, 0, 0, 0, []), (393, 1, .iconst 0, 0, 0, 0, (-1), []), (394, 3, .invokevirtual 0, 101, 2, 11, 2, [525, 526, 527, 15]), (397, 2, .lstore 0, 10, 0, 0, 0, []), (399, 1, .aload 0, 1, 0, 0, 0, []), (400, 2, .iload 0, 5, 0, 0, 0, []),
  (402, 3, .invokevirtual 0, 120, 2, 11, 1, [628, 629, 630, 15]), (405, 2, .iload 0, 9, 0, 0, 0, []), (407, 3, .if_icmp .ne 0, 450, 0, 0, 0, []), (410, 1, .aload 0, 1, 0, 0, 0, []), (411, 1, .iconst 0, 0, 0, 0, (-1), []), (412, 3, .invokevirtual 0, 101, 2, 11, 2, [525, 526, 527, 15]),
  (415, 2, .lload 0, 10, 0, 0, 0, []), (417, 1, .lcmp, 0, 0, 0, 0, []), (418, 3, .ifCond .ne 0, 450, 0, 0, 0, []), (421, 1, .aload 0, 1, 0, 0, 0, []), (422, 1, .iconst 0, 0, 0, 0, 4, []), (423, 3, .invokevirtual 0, 120, 2, 11, 1, [628, 629, 630, 15]),
  (426, 2, .iconst 0, 0, 0, 0, (-6), []), (428, 3, .if_icmp .ne 0, 450, 0, 0, 0, []), (431, 1, .aload 0, 1, 0, 0, 0, []), (432, 1, .iconst 0, 0, 0, 0, (-1), []), (433, 3, .invokevirtual 0, 120, 2, 11, 1, [628, 629, 630, 15]), (436, 2, .iconst 0, 0, 0, 0, (-4), []),
  (438, 3, .if_icmp .ne 0, 450, 0, 0, 0, []), (441, 1, .aload 0, 1, 0, 0, 0, []), (442, 2, .iconst 0, 0, 0, 0, 7, []), (444, 3, .invokevirtual 0, 125, 2, 11, 1, [679, 680, 681, 15]), (447, 3, .ifCond .eq 0, 452, 0, 0, 0, []), (450, 1, .iconst 0, 0, 0, 0, 0, []),
  (451, 1, .ireturn, 1, 0, 0, 0, []), (452, 1, .iconst 0, 0, 0, 0, 0, []), (453, 2, .istore 0, 12, 0, 0, 0, []), (455, 2, .iload 0, 12, 0, 0, 0, []), (457, 2, .iload 0, 4, 0, 0, 0, []), (459, 3, .if_icmp .ge 0, 612, 0, 0, 0, []),
  (462, 1, .aload 0, 0, 0, 0, 0, []), (463, 2, .iconst 0, 0, 0, 0, 23, []), (465, 2, .iload 0, 12, 0, 0, 0, []), (467, 1, .iadd, 0, 0, 0, 0, []), (468, 3, .invokestatic 0, 227, 2, 1, 1, [691, 692, 14]), (471, 3, .iconst 0, 0, 0, 0, 200, []),
  (474, 3, .invokestatic 0, 228, 2, 1, 1, [694, 695, 14]), (477, 2, .istore 0, 13, 0, 0, 0, []), (479, 2, .iconst 0, 0, 0, 0, 12, []), (481, 2, .newarray .int, 100, 0, 0, 0, [53]), (483, 2, .astore 0, 14, 0, 0, 0, []), (485, 1, .iconst 0, 0, 0, 0, 0, []),
  (486, 2, .istore 0, 15, 0, 0, 0, []), (488, 2, .iload 0, 15, 0, 0, 0, []), (490, 1, .iload 0, 3, 0, 0, 0, []), (491, 3, .if_icmp .ge 0, 516, 0, 0, 0, []), (494, 2, .aload 0, 14, 0, 0, 0, []), (496, 2, .iload 0, 15, 0, 0, 0, []),
  (498, 1, .aload 0, 1, 0, 0, 0, []), (499, 2, .iload 0, 15, 0, 0, 0, []), (501, 1, .iload 0, 2, 0, 0, 0, []), (502, 3, .invokestatic 0, 229, 2, 1, 1, [698, 699, 14]), (505, 1, .iconst 0, 0, 0, 0, 0, []), (506, 3, .invokevirtual 0, 100, 3, 11, 1, [455, 456, 457, 15]),
  (509, 1, .iastore, 0, 0, 0, 0, []), (510, 3, .iinc 0 0, 15, 0, 0, 1, []), (513, 3, .goto 0, 488, 0, 0, 0, []), (516, 1, .aload 0, 1, 0, 0, 0, []), (517, 2, .iload 0, 12, 0, 0, 0, []), (519, 2, .iload 0, 13, 0, 0, 0, []),
  (521, 3, .invokevirtual 0, 117, 3, 11, 1, [607, 608, 609, 15]), (524, 2, .istore 0, 15, 0, 0, 0, []), (526, 1, .aload 0, 1, 0, 0, 0, []), (527, 2, .iload 0, 12, 0, 0, 0, []), (529, 2, .iload 0, 13, 0, 0, 0, []), (531, 3, .invokevirtual 0, 97, 3, 11, 1, [436, 437, 438, 15]),
  (534, 2, .istore 0, 16, 0, 0, 0, []), (536, 1, .iconst 0, 0, 0, 0, 0, []), (537, 2, .istore 0, 17, 0, 0, 0, []), (539, 1, .iconst 0, 0, 0, 0, 0, []), (540, 2, .istore 0, 18, 0, 0, 0, []), (542, 2, .iload 0, 18, 0, 0, 0, []),
  (544, 1, .iload 0, 3, 0, 0, 0, []), (545, 3, .if_icmp .ge 0, 588, 0, 0, 0, []), (548, 2, .iload 0, 17, 0, 0, 0, []), (550, 2, .aload 0, 14, 0, 0, 0, []), (552, 2, .iload 0, 18, 0, 0, 0, []), (554, 1, .iaload, 0, 0, 0, 0, []),
  (555, 2, .iload 0, 12, 0, 0, 0, []), (557, 3, .if_icmp .ne 0, 578, 0, 0, 0, []), (560, 1, .aload 0, 1, 0, 0, 0, []), (561, 2, .iload 0, 18, 0, 0, 0, []), (563, 1, .iload 0, 2, 0, 0, 0, []), (564, 3, .invokestatic 0, 229, 2, 1, 1, [698, 699, 14]),
  (567, 1, .iconst 0, 0, 0, 0, 0, []), (568, 3, .invokevirtual 0, 100, 3, 11, 1, [455, 456, 457, 15]), (571, 3, .ifCond .ge 0, 578, 0, 0, 0, []), (574, 1, .iconst 0, 0, 0, 0, 1, []), (575, 3, .goto 0, 579, 0, 0, 0, []), (578, 1, .iconst 0, 0, 0, 0, 0, []),
  (579, 1, .iadd, 0, 0, 0, 0, []), (580, 2, .istore 0, 17, 0, 0, 0, []), (582, 3, .iinc 0 0, 18, 0, 0, 1, []), (585, 3, .goto 0, 542, 0, 0, 0, []), (588, 1, .aload 0, 1, 0, 0, 0, []), (589, 2, .iload 0, 12, 0, 0, 0, []),
  (591, 2, .iload 0, 16, 0, 0, 0, []), (593, 3, .invokevirtual 0, 97, 3, 11, 1, [436, 437, 438, 15]), (596, 1, .pop, 0, 0, 0, 0, []), (597, 2, .iload 0, 15, 0, 0, 0, []), (599, 2, .iload 0, 17, 0, 0, 0, []), (601, 3, .if_icmp .eq 0, 606, 0, 0, 0, []),
  (604, 1, .iconst 0, 0, 0, 0, 0, []), (605, 1, .ireturn, 1, 0, 0, 0, []), (606, 3, .iinc 0 0, 12, 0, 0, 1, []), (609, 3, .goto 0, 455, 0, 0, 0, []), (612, 1, .aload 0, 1, 0, 0, 0, []), (613, 3, .invokevirtual 0, 124, 1, 11, 1, [671, 672, 673, 15]),
  (616, 1, .iload 0, 3, 0, 0, 0, []), (617, 3, .if_icmp .ne 0, 693, 0, 0, 0, []), (620, 1, .aload 0, 1, 0, 0, 0, []), (621, 1, .iconst 0, 0, 0, 0, (-1), []), (622, 3, .invokevirtual 0, 101, 2, 11, 2, [525, 526, 527, 15]), (625, 2, .lload 0, 10, 0, 0, 0, []),
  (627, 1, .lcmp, 0, 0, 0, 0, []), (628, 3, .ifCond .ne 0, 693, 0, 0, 0, []), (631, 1, .aload 0, 1, 0, 0, 0, []), (632, 1, .iconst 0, 0, 0, 0, 0, []), (633, 1, .iconst 0, 0, 0, 0, (-1), []), (634, 3, .invokevirtual 0, 118, 3, 11, 1, [620, 621, 622, 15]),
  (637, 1, .iconst 0, 0, 0, 0, 1, []), (638, 3, .if_icmp .ne 0, 693, 0, 0, 0, []), (641, 1, .aload 0, 1, 0, 0, 0, []), (642, 1, .iconst 0, 0, 0, 0, 0, []), (643, 1, .iconst 0, 0, 0, 0, 3, []), (644, 3, .invokevirtual 0, 88, 3, 11, 1, [420, 421, 422, 15]),
  (647, 2, .iconst 0, 0, 0, 0, (-9), []), (649, 3, .if_icmp .ne 0, 693, 0, 0, 0, []), (652, 1, .aload 0, 1, 0, 0, 0, []), (653, 1, .iconst 0, 0, 0, 0, 0, []), (654, 1, .iconst 0, 0, 0, 0, 4, []), (655, 3, .invokevirtual 0, 118, 3, 11, 1, [620, 621, 622, 15]),
  (658, 2, .iconst 0, 0, 0, 0, (-6), []), (660, 3, .if_icmp .ne 0, 693, 0, 0, 0, []), (663, 1, .aload 0, 1, 0, 0, 0, []), (664, 2, .iconst 0, 0, 0, 0, 99, []), (666, 1, .iconst 0, 0, 0, 0, 0, []), (667, 3, .invokevirtual 0, 118, 3, 11, 1, [620, 621, 622, 15]),
  (670, 1, .iconst 0, 0, 0, 0, (-1), []), (671, 3, .if_icmp .ne 0, 693, 0, 0, 0, []), (674, 3, .new 0, 11, 13, 0, 0, [29, 30, 15]), (677, 1, .dup, 0, 0, 0, 0, []), (678, 3, .invokespecial 0, 85, 1, 88, 4736, [31, 32, 15]), (681, 3, .invokevirtual 0, 124, 1, 11, 1, [671, 672, 673, 15]),
  (684, 2, .iconst 0, 0, 0, 0, (-3), []), (686, 3, .if_icmp .ne 0, 693, 0, 0, 0, []), (689, 1, .iconst 0, 0, 0, 0, 1, []), (690, 3, .goto 0, 694, 0, 0, 0, []), (693, 1, .iconst 0, 0, 0, 0, 0, []), (694, 1, .ireturn, 1, 0, 0, 0, [])
  ]
def mc_L_cell : List mv_E := [
  (0, 1, .iload 0, 1, 0, 0, 0, []), (1, 1, .aload 0, 0, 0, 0, 0, []), (2, 1, .arraylength, 0, 0, 0, 0, []), (3, 3, .if_icmp .ge 0, 12, 0, 0, 0, []), (6, 1, .aload 0, 0, 0, 0, 0, []), (7, 1, .iload 0, 1, 0, 0, 0, []),
  (8, 1, .iaload, 0, 0, 0, 0, []), (9, 3, .goto 0, 20, 0, 0, 0, []), (12, 3, .iconst 0, 0, 0, 0, 7919, []), (15, 1, .iload 0, 1, 0, 0, 0, []), (16, 1, .imul, 0, 0, 0, 0, []), (17, 2, .iconst 0, 0, 0, 0, 12, []),
  (19, 1, .iadd, 0, 0, 0, 0, []), (20, 1, .ireturn, 0, 0, 0, 0, [])
  ]
def mc_L_pick : List mv_E := [
  (0, 1, .iload 0, 0, 0, 0, 0, []), (1, 2, .iconst 0, 0, 0, 0, 2147483647, [697]), (3, 1, .iand, 0, 0, 0, 0, []), (4, 1, .iload 0, 1, 0, 0, 0, []), (5, 1, .irem, 0, 0, 0, 0, []), (6, 1, .ireturn, 0, 0, 0, 0, [])
  ]
def mc_L_cellOf : List mv_E := [
  (0, 2, .iconst 0, 0, 0, 0, 10, []), (2, 1, .iload 0, 0, 0, 0, 0, []), (3, 1, .iload 0, 1, 0, 0, 0, []), (4, 1, .irem, 0, 0, 0, 0, []), (5, 1, .imul, 0, 0, 0, 0, []), (6, 1, .iload 0, 0, 0, 0, 0, []),
  (7, 1, .iload 0, 1, 0, 0, 0, []), (8, 1, .idiv, 0, 0, 0, 0, []), (9, 1, .iadd, 0, 0, 0, 0, []), (10, 1, .ireturn, 0, 0, 0, 0, [])
  ]
def mc_L_land : List mv_E := [
  (0, 1, .iconst 0, 0, 0, 0, 2, []), (1, 1, .aload 0, 1, 0, 0, 0, []), (2, 1, .iconst 0, 0, 0, 0, 0, []), (3, 3, .invokestatic 0, 227, 2, 1, 1, [691, 692, 14]), (6, 1, .iconst 0, 0, 0, 0, 3, []), (7, 3, .invokestatic 0, 228, 2, 1, 1, [694, 695, 14]),
  (10, 1, .iadd, 0, 0, 0, 0, []), (11, 1, .istore 0, 2, 0, 0, 0, []), (12, 1, .iconst 0, 0, 0, 0, 1, []), (13, 1, .aload 0, 1, 0, 0, 0, []), (14, 1, .iconst 0, 0, 0, 0, 0, []), (15, 3, .invokestatic 0, 227, 2, 1, 1, [691, 692, 14]),
  (18, 1, .iconst 0, 0, 0, 0, 2, []), (19, 1, .ishr, 0, 0, 0, 0, []), (20, 1, .iconst 0, 0, 0, 0, 3, []), (21, 3, .invokestatic 0, 228, 2, 1, 1, [694, 695, 14]), (24, 1, .iadd, 0, 0, 0, 0, []), (25, 1, .istore 0, 3, 0, 0, 0, []),
  (26, 1, .iconst 0, 0, 0, 0, 0, []), (27, 2, .istore 0, 4, 0, 0, 0, []), (29, 2, .iload 0, 4, 0, 0, 0, []), (31, 1, .iload 0, 3, 0, 0, 0, []), (32, 3, .if_icmp .ge 0, 102, 0, 0, 0, []), (35, 1, .iconst 0, 0, 0, 0, 0, []),
  (36, 2, .istore 0, 5, 0, 0, 0, []), (38, 2, .iload 0, 5, 0, 0, 0, []), (40, 1, .iload 0, 2, 0, 0, 0, []), (41, 3, .if_icmp .ge 0, 79, 0, 0, 0, []), (44, 1, .aload 0, 0, 0, 0, 0, []), (45, 1, .iconst 0, 0, 0, 0, 1, []),
  (46, 2, .iconst 0, 0, 0, 0, 48, []), (48, 1, .aload 0, 1, 0, 0, 0, []), (49, 1, .iconst 0, 0, 0, 0, 1, []), (50, 3, .invokestatic 0, 227, 2, 1, 1, [691, 692, 14]), (53, 1, .iconst 0, 0, 0, 0, 2, []), (54, 1, .iload 0, 2, 0, 0, 0, []),
  (55, 2, .iload 0, 4, 0, 0, 0, []), (57, 1, .imul, 0, 0, 0, 0, []), (58, 2, .iload 0, 5, 0, 0, 0, []), (60, 1, .iadd, 0, 0, 0, 0, []), (61, 1, .imul, 0, 0, 0, 0, []), (62, 1, .ishr, 0, 0, 0, 0, []),
  (63, 1, .iconst 0, 0, 0, 0, 4, []), (64, 3, .invokestatic 0, 228, 2, 1, 1, [694, 695, 14]), (67, 1, .iadd, 0, 0, 0, 0, []), (68, 1, .i2l, 0, 0, 0, 0, []), (69, 3, .invokevirtual 0, 86, 3, 11, 1, [704, 705, 706, 15]), (72, 1, .pop, 0, 0, 0, 0, []),
  (73, 3, .iinc 0 0, 5, 0, 0, 1, []), (76, 3, .goto 0, 38, 0, 0, 0, []), (79, 2, .iload 0, 4, 0, 0, 0, []), (81, 1, .iload 0, 3, 0, 0, 0, []), (82, 1, .iconst 0, 0, 0, 0, 1, []), (83, 1, .isub, 0, 0, 0, 0, []),
  (84, 3, .if_icmp .ge 0, 96, 0, 0, 0, []), (87, 1, .aload 0, 0, 0, 0, 0, []), (88, 1, .iconst 0, 0, 0, 0, 1, []), (89, 3, .lconst 0, 0, 0, 0, 47, [713]), (92, 3, .invokevirtual 0, 86, 3, 11, 1, [704, 705, 706, 15]), (95, 1, .pop, 0, 0, 0, 0, []),
  (96, 3, .iinc 0 0, 4, 0, 0, 1, []), (99, 3, .goto 0, 29, 0, 0, 0, []), (102, 1, .aload 0, 0, 0, 0, 0, []), (103, 3, .invokevirtual 0, 87, 1, 11, 1, [714, 715, 716, 15]), (106, 1, .pop, 0, 0, 0, 0, []), (107, 1, .iconst 0, 0, 0, 0, 0, []),
  (108, 2, .istore 0, 4, 0, 0, 0, []), (110, 2, .iload 0, 4, 0, 0, 0, []), (112, 1, .iconst 0, 0, 0, 0, 3, []), (113, 3, .if_icmp .ge 0, 204, 0, 0, 0, []), (116, 1, .aload 0, 1, 0, 0, 0, []), (117, 1, .iconst 0, 0, 0, 0, 2, []),
  (118, 2, .iload 0, 4, 0, 0, 0, []), (120, 1, .iadd, 0, 0, 0, 0, []), (121, 3, .invokestatic 0, 227, 2, 1, 1, [691, 692, 14]), (124, 2, .istore 0, 5, 0, 0, 0, []), (126, 1, .aload 0, 0, 0, 0, 0, []), (127, 2, .iload 0, 5, 0, 0, 0, []),
  (129, 1, .iload 0, 2, 0, 0, 0, []), (130, 1, .iload 0, 3, 0, 0, 0, []), (131, 1, .imul, 0, 0, 0, 0, []), (132, 3, .invokestatic 0, 228, 2, 1, 1, [694, 695, 14]), (135, 1, .iload 0, 2, 0, 0, 0, []), (136, 3, .invokestatic 0, 229, 2, 1, 1, [698, 699, 14]),
  (139, 2, .iload 0, 5, 0, 0, 0, []), (141, 1, .iload 0, 2, 0, 0, 0, []), (142, 1, .iload 0, 3, 0, 0, 0, []), (143, 1, .imul, 0, 0, 0, 0, []), (144, 3, .invokestatic 0, 228, 2, 1, 1, [694, 695, 14]), (147, 1, .iconst 0, 0, 0, 0, 1, []),
  (148, 1, .iadd, 0, 0, 0, 0, []), (149, 1, .iload 0, 2, 0, 0, 0, []), (150, 3, .invokestatic 0, 229, 2, 1, 1, [698, 699, 14]), (153, 1, .iconst 0, 0, 0, 0, 1, []), (154, 2, .iload 0, 5, 0, 0, 0, []), (156, 2, .iconst 0, 0, 0, 0, 6, []),
  (158, 1, .ishr, 0, 0, 0, 0, []), (159, 1, .iconst 0, 0, 0, 0, 3, []), (160, 3, .invokestatic 0, 228, 2, 1, 1, [694, 695, 14]), (163, 1, .iadd, 0, 0, 0, 0, []), (164, 3, .invokevirtual 0, 89, 4, 11, 1, [733, 734, 735, 15]), (167, 1, .pop, 0, 0, 0, 0, []),
  (168, 1, .aload 0, 0, 0, 0, 0, []), (169, 2, .iload 0, 5, 0, 0, 0, []), (171, 2, .iconst 0, 0, 0, 0, 9, []), (173, 1, .ishr, 0, 0, 0, 0, []), (174, 1, .iload 0, 2, 0, 0, 0, []), (175, 1, .iload 0, 3, 0, 0, 0, []),
  (176, 1, .imul, 0, 0, 0, 0, []), (177, 3, .invokestatic 0, 228, 2, 1, 1, [694, 695, 14]), (180, 1, .iload 0, 2, 0, 0, 0, []), (181, 3, .invokestatic 0, 229, 2, 1, 1, [698, 699, 14]), (184, 2, .iload 0, 5, 0, 0, 0, []), (186, 2, .iconst 0, 0, 0, 0, 14, []),
  (188, 1, .ishr, 0, 0, 0, 0, []), (189, 2, .iconst 0, 0, 0, 0, 20, []), (191, 3, .invokestatic 0, 228, 2, 1, 1, [694, 695, 14]), (194, 3, .invokevirtual 0, 91, 3, 11, 1, [750, 751, 752, 15]), (197, 1, .pop, 0, 0, 0, 0, []), (198, 3, .iinc 0 0, 4, 0, 0, 1, []),
  (201, 3, .goto 0, 110, 0, 0, 0, []), (204, 1, .aload 0, 0, 0, 0, 0, []), (205, 1, .iconst 0, 0, 0, 0, 0, []), (206, 3, .invokevirtual 0, 93, 2, 11, 1, [754, 755, 756, 15]), (209, 1, .pop, 0, 0, 0, 0, []), (210, 1, .aload 0, 1, 0, 0, 0, []),
  (211, 1, .iconst 0, 0, 0, 0, 5, []), (212, 3, .invokestatic 0, 227, 2, 1, 1, [691, 692, 14]), (215, 1, .iconst 0, 0, 0, 0, 2, []), (216, 3, .invokestatic 0, 228, 2, 1, 1, [694, 695, 14]), (219, 3, .ifCond .ne 0, 236, 0, 0, 0, []), (222, 1, .aload 0, 0, 0, 0, 0, []),
  (223, 1, .iload 0, 2, 0, 0, 0, []), (224, 1, .iload 0, 3, 0, 0, 0, []), (225, 1, .imul, 0, 0, 0, 0, []), (226, 1, .iconst 0, 0, 0, 0, 1, []), (227, 1, .isub, 0, 0, 0, 0, []), (228, 1, .iload 0, 2, 0, 0, 0, []),
  (229, 3, .invokestatic 0, 229, 2, 1, 1, [698, 699, 14]), (232, 3, .invokevirtual 0, 93, 2, 11, 1, [754, 755, 756, 15]), (235, 1, .pop, 0, 0, 0, 0, []), (236, 1, .iconst 0, 0, 0, 0, 1, []), (237, 1, .aload 0, 1, 0, 0, 0, []), (238, 2, .iconst 0, 0, 0, 0, 6, []),
  (240, 3, .invokestatic 0, 227, 2, 1, 1, [691, 692, 14]), (243, 1, .iconst 0, 0, 0, 0, 3, []), (244, 3, .invokestatic 0, 228, 2, 1, 1, [694, 695, 14]), (247, 1, .iadd, 0, 0, 0, 0, []), (248, 2, .istore 0, 4, 0, 0, 0, []), (250, 1, .iconst 0, 0, 0, 0, 0, []),
  (251, 2, .istore 0, 5, 0, 0, 0, []), (253, 2, .iload 0, 5, 0, 0, 0, []), (255, 2, .iload 0, 4, 0, 0, 0, []), (257, 3, .if_icmp .ge 0, 445, 0, 0, 0, []), (260, 1, .aload 0, 1, 0, 0, 0, []), (261, 2, .iconst 0, 0, 0, 0, 7, []),
  (263, 2, .iload 0, 5, 0, 0, 0, []), (265, 1, .iadd, 0, 0, 0, 0, []), (266, 3, .invokestatic 0, 227, 2, 1, 1, [691, 692, 14]), (269, 2, .istore 0, 6, 0, 0, 0, []), (271, 1, .aload 0, 0, 0, 0, 0, []), (272, 2, .iload 0, 6, 0, 0, 0, []),
  (274, 2, .iconst 0, 0, 0, 0, 6, []), (276, 3, .invokestatic 0, 228, 2, 1, 1, [694, 695, 14]), (279, 2, .iload 0, 6, 0, 0, 0, []), (281, 1, .iconst 0, 0, 0, 0, 3, []), (282, 1, .ishr, 0, 0, 0, 0, []), (283, 2, .iconst 0, 0, 0, 0, 12, []),
  (285, 3, .invokestatic 0, 228, 2, 1, 1, [694, 695, 14]), (288, 2, .iload 0, 6, 0, 0, 0, []), (290, 2, .iconst 0, 0, 0, 0, 7, []), (292, 1, .ishr, 0, 0, 0, 0, []), (293, 1, .iconst 0, 0, 0, 0, 4, []), (294, 3, .invokestatic 0, 228, 2, 1, 1, [694, 695, 14]),
  (297, 2, .iload 0, 6, 0, 0, 0, []), (299, 2, .iconst 0, 0, 0, 0, 9, []), (301, 1, .ishr, 0, 0, 0, 0, []), (302, 2, .iconst 0, 0, 0, 0, 120, []), (304, 3, .invokestatic 0, 228, 2, 1, 1, [694, 695, 14]), (307, 2, .iload 0, 6, 0, 0, 0, []),
  (309, 2, .iconst 0, 0, 0, 0, 16, []), (311, 1, .ishr, 0, 0, 0, 0, []), (312, 2, .iconst 0, 0, 0, 0, 9, []), (314, 3, .invokestatic 0, 228, 2, 1, 1, [694, 695, 14]), (317, 3, .invokevirtual 0, 94, 6, 11, 1, [758, 759, 760, 15]), (320, 1, .pop, 0, 0, 0, 0, []),
  (321, 2, .iload 0, 6, 0, 0, 0, []), (323, 2, .iconst 0, 0, 0, 0, 6, []), (325, 3, .invokestatic 0, 228, 2, 1, 1, [694, 695, 14]), (328, 1, .iconst 0, 0, 0, 0, 3, []), (329, 3, .if_icmp .ne 0, 352, 0, 0, 0, []), (332, 1, .aload 0, 0, 0, 0, 0, []),
  (333, 2, .iload 0, 5, 0, 0, 0, []), (335, 2, .iload 0, 6, 0, 0, 0, []), (337, 2, .iconst 0, 0, 0, 0, 20, []), (339, 1, .ishr, 0, 0, 0, 0, []), (340, 2, .iconst 0, 0, 0, 0, 40, []), (342, 3, .invokestatic 0, 228, 2, 1, 1, [694, 695, 14]),
  (345, 2, .iconst 0, 0, 0, 0, 20, []), (347, 1, .isub, 0, 0, 0, 0, []), (348, 3, .invokevirtual 0, 95, 3, 11, 1, [766, 767, 768, 15]), (351, 1, .pop, 0, 0, 0, 0, []), (352, 1, .iconst 0, 0, 0, 0, 0, []), (353, 2, .istore 0, 7, 0, 0, 0, []),
  (355, 2, .iload 0, 7, 0, 0, 0, []), (357, 1, .aload 0, 0, 0, 0, 0, []), (358, 1, .iconst 0, 0, 0, 0, 2, []), (359, 3, .invokevirtual 0, 125, 2, 11, 1, [679, 680, 681, 15]), (362, 3, .if_icmp .ge 0, 400, 0, 0, 0, []), (365, 1, .aload 0, 0, 0, 0, 0, []),
  (366, 2, .iload 0, 5, 0, 0, 0, []), (368, 2, .iload 0, 7, 0, 0, 0, []), (370, 1, .aload 0, 1, 0, 0, 0, []), (371, 2, .iconst 0, 0, 0, 0, 10, []), (373, 2, .iload 0, 5, 0, 0, 0, []), (375, 1, .iadd, 0, 0, 0, 0, []),
  (376, 3, .invokestatic 0, 227, 2, 1, 1, [691, 692, 14]), (379, 2, .iconst 0, 0, 0, 0, 8, []), (381, 2, .iload 0, 7, 0, 0, 0, []), (383, 1, .imul, 0, 0, 0, 0, []), (384, 1, .ishr, 0, 0, 0, 0, []), (385, 2, .iconst 0, 0, 0, 0, 40, []),
  (387, 3, .invokestatic 0, 228, 2, 1, 1, [694, 695, 14]), (390, 3, .invokevirtual 0, 96, 4, 11, 1, [770, 771, 772, 15]), (393, 1, .pop, 0, 0, 0, 0, []), (394, 3, .iinc 0 0, 7, 0, 0, 1, []), (397, 3, .goto 0, 355, 0, 0, 0, []), (400, 1, .aload 0, 1, 0, 0, 0, []),
  (401, 2, .iconst 0, 0, 0, 0, 13, []), (403, 3, .invokestatic 0, 227, 2, 1, 1, [691, 692, 14]), (406, 1, .iconst 0, 0, 0, 0, 3, []), (407, 3, .invokestatic 0, 228, 2, 1, 1, [694, 695, 14]), (410, 3, .ifCond .ne 0, 439, 0, 0, 0, []), (413, 1, .aload 0, 0, 0, 0, 0, []),
  (414, 2, .iload 0, 5, 0, 0, 0, []), (416, 1, .aload 0, 1, 0, 0, 0, []), (417, 2, .iconst 0, 0, 0, 0, 13, []), (419, 3, .invokestatic 0, 227, 2, 1, 1, [691, 692, 14]), (422, 1, .iconst 0, 0, 0, 0, 2, []), (423, 2, .iconst 0, 0, 0, 0, 6, []),
  (425, 2, .iload 0, 5, 0, 0, 0, []), (427, 1, .imul, 0, 0, 0, 0, []), (428, 1, .iadd, 0, 0, 0, 0, []), (429, 1, .ishr, 0, 0, 0, 0, []), (430, 2, .iconst 0, 0, 0, 0, 40, []), (432, 3, .invokestatic 0, 228, 2, 1, 1, [694, 695, 14]),
  (435, 3, .invokevirtual 0, 97, 3, 11, 1, [436, 437, 438, 15]), (438, 1, .pop, 0, 0, 0, 0, []), (439, 3, .iinc 0 0, 5, 0, 0, 1, []), (442, 3, .goto 0, 253, 0, 0, 0, []), (445, 1, .aload 0, 0, 0, 0, 0, []), (446, 1, .iconst 0, 0, 0, 0, (-1), []),
  (447, 1, .aload 0, 1, 0, 0, 0, []), (448, 2, .iconst 0, 0, 0, 0, 14, []), (450, 3, .invokestatic 0, 227, 2, 1, 1, [691, 692, 14]), (453, 1, .iconst 0, 0, 0, 0, 3, []), (454, 3, .invokestatic 0, 228, 2, 1, 1, [694, 695, 14]), (457, 3, .ifCond .ne 0, 476, 0, 0, 0, []),
  (460, 1, .aload 0, 1, 0, 0, 0, []), (461, 2, .iconst 0, 0, 0, 0, 14, []), (463, 3, .invokestatic 0, 227, 2, 1, 1, [691, 692, 14]), (466, 1, .iconst 0, 0, 0, 0, 2, []), (467, 1, .ishr, 0, 0, 0, 0, []), (468, 2, .iconst 0, 0, 0, 0, 60, []),
  (470, 3, .invokestatic 0, 228, 2, 1, 1, [694, 695, 14]), (473, 3, .goto 0, 477, 0, 0, 0, []), (476, 1, .iconst 0, 0, 0, 0, 0, []), (477, 3, .invokevirtual 0, 97, 3, 11, 1, [436, 437, 438, 15]), (480, 1, .pop, 0, 0, 0, 0, []), (481, 1, .iload 0, 2, 0, 0, 0, []),
  (482, 1, .ireturn, 0, 0, 0, 0, [])
  ]
def mr_X0_init : mv_T := (yX0_init, cX0_init, 2, none, RX0, mc_X0_init, 1, 8, 439, 20)
def mr_X0_layOut : mv_T := (yX0_layOut, cX0_layOut, 5, none, RX0, mc_X0_layOut, 1, 0, 0, 21)
def mr_X0_clearAway : mv_T := (yX0_clearAway, cX0_clearAway, 2, none, RX0, mc_X0_clearAway, 0, 0, 0, 0)
def mr_X0_takeFrom : mv_T := (yX0_takeFrom, cX0_takeFrom, 2, none, RX0, mc_X0_takeFrom, 1, 0, 0, 26)
def mr_X0_placeOf : mv_T := (yX0_placeOf, cX0_placeOf, 2, (some .int), RX0, mc_X0_placeOf, 0, 0, 0, 0)
def mr_X0_beside : mv_T := (yX0_beside, cX0_beside, 5, (some .int), RX0, mc_X0_beside, 0, 0, 0, 0)
def mr_X0_sideTowards : mv_T := (yX0_sideTowards, cX0_sideTowards, 4, (some .int), RX0, mc_X0_sideTowards, 1, 0, 0, 24)
def mr_X0_roadAt : mv_T := (yX0_roadAt, cX0_roadAt, 4, (some .int), RX0, mc_X0_roadAt, 0, 0, 0, 0)
def mr_X0_layRoad : mv_T := (yX0_layRoad, cX0_layRoad, 5, none, RX0, mc_X0_layRoad, 1, 0, 0, 24)
def mr_X0_marketOn : mv_T := (yX0_marketOn, cX0_marketOn, 3, (some .int), RX0, mc_X0_marketOn, 0, 0, 0, 0)
def mr_X0_idleAcres : mv_T := (yX0_idleAcres, cX0_idleAcres, 3, (some .int), RX0, mc_X0_idleAcres, 0, 0, 0, 0)
def mr_X1_init : mv_T := (yX1_init, cX1_init, 1, none, RX1, mc_X1_init, 3, 37, 2636, 61)
def mr_X1_forgetWays : mv_T := (yX1_forgetWays, cX1_forgetWays, 1, none, RX1, mc_X1_forgetWays, 0, 0, 0, 0)
def mr_X1_forgetBids : mv_T := (yX1_forgetBids, cX1_forgetBids, 1, none, RX1, mc_X1_forgetBids, 0, 0, 0, 0)
def mr_X1_settle : mv_T := (yX1_settle, cX1_settle, 1, none, RX1, mc_X1_settle, 4, 0, 0, 96)
def mr_X1_reckonBids : mv_T := (yX1_reckonBids, cX1_reckonBids, 2, none, RX1, mc_X1_reckonBids, 3, 0, 0, 75)
def mr_X1_reckonOffer : mv_T := (yX1_reckonOffer, cX1_reckonOffer, 8, none, RX1, mc_X1_reckonOffer, 2, 0, 0, 48)
def mr_X1_wayOf : mv_T := (yX1_wayOf, cX1_wayOf, 4, (some .int), RX1, mc_X1_wayOf, 0, 0, 0, 0)
def mr_X1_takerOf : mv_T := (yX1_takerOf, cX1_takerOf, 2, (some .int), RX1, mc_X1_takerOf, 1, 0, 0, 28)
def mr_X1_greatest : mv_T := (yX1_greatest, cX1_greatest, 9, (some .int), RX1, mc_X1_greatest, 0, 0, 0, 0)
def mr_X1_rentAt : mv_T := (yX1_rentAt, cX1_rentAt, 2, (some .long), RX1, mc_X1_rentAt, 1, 0, 0, 24)
def mr_X1_rentBy : mv_T := (yX1_rentBy, cX1_rentBy, 5, (some .long), RX1, mc_X1_rentBy, 0, 0, 0, 0)
def mr_X1_allRents : mv_T := (yX1_allRents, cX1_allRents, 4, (some .long), RX1, mc_X1_allRents, 2, 0, 0, 45)
def mr_X1_rentsOf : mv_T := (yX1_rentsOf, cX1_rentsOf, 5, (some .long), RX1, mc_X1_rentsOf, 2, 0, 0, 49)
def mr_X1_isTakenBy : mv_T := (yX1_isTakenBy, cX1_isTakenBy, 3, (some .boolean), RX1, mc_X1_isTakenBy, 0, 0, 0, 0)
def mr_X1_wasteAcres : mv_T := (yX1_wasteAcres, cX1_wasteAcres, 3, (some .int), RX1, mc_X1_wasteAcres, 0, 0, 0, 0)
def mr_X1_fallingWaste : mv_T := (yX1_fallingWaste, cX1_fallingWaste, 6, (some .int), RX1, mc_X1_fallingWaste, 3, 0, 0, 75)
def mr_X2_init : mv_T := (yX2_init, cX2_init, 1, none, RX2, mc_X2_init, 1, 4, 32, 20)
def mr_X2_takeFrom : mv_T := (yX2_takeFrom, cX2_takeFrom, 2, none, RX2, mc_X2_takeFrom, 1, 0, 0, 26)
def mr_X3_init : mv_T := (yX3_init, cX3_init, 1, none, RX3, mc_X3_init, 1, 7, 127, 20)
def mr_X4_init : mv_T := (yX4_init, cX4_init, 1, none, RX4, mc_X4_init, 1, 1, 48, 20)
def mr_X5_init : mv_T := (yX5_init, cX5_init, 1, none, RX5, mc_X5_init, 1, 1, 60, 20)
def mr_X5_append : mv_T := (yX5_append, cX5_append, 7, none, RX5, mc_X5_append, 0, 0, 0, 0)
def mr_X5_firstFault : mv_T := (yX5_firstFault, cX5_firstFault, 5, (some .int), RX5, mc_X5_firstFault, 1, 0, 0, 20)
def mr_X5_isDigit : mv_T := (yX5_isDigit, cX5_isDigit, 1, (some .boolean), RX5, mc_X5_isDigit, 0, 0, 0, 0)
def mr_X6_init : mv_T := (yX6_init, cX6_init, 1, none, RX6, mc_X6_init, 1, 4, 978, 20)
def mr_X6_clearingPrice : mv_T := (yX6_clearingPrice, cX6_clearingPrice, 8, (some .int), RX6, mc_X6_clearingPrice, 2, 0, 0, 60)
def mr_X6_comingAt : mv_T := (yX6_comingAt, cX6_comingAt, 5, (some .int), RX6, mc_X6_comingAt, 0, 0, 0, 0)
def mr_X6_leastPriceFor : mv_T := (yX6_leastPriceFor, cX6_leastPriceFor, 13, (some .int), RX6, mc_X6_leastPriceFor, 1, 0, 0, 28)
def mr_X6_runRounds : mv_T := (yX6_runRounds, cX6_runRounds, 4, (some .int), RX6, mc_X6_runRounds, 4, 0, 0, 112)
def mr_X6_runRound : mv_T := (yX6_runRound, cX6_runRound, 6, (some .boolean), RX6, mc_X6_runRound, 3, 0, 0, 87)
def mr_X6_bestToHold : mv_T := (yX6_bestToHold, cX6_bestToHold, 11, (some .int), RX6, mc_X6_bestToHold, 5, 0, 0, 136)
def mr_X6_rentsAfterRound : mv_T := (yX6_rentsAfterRound, cX6_rentsAfterRound, 5, (some .long), RX6, mc_X6_rentsAfterRound, 4, 0, 0, 112)
def mr_X7_init : mv_T := (yX7_init, cX7_init, 1, none, RX7, mc_X7_init, 1, 12, 300, 20)
def mr_X7_append : mv_T := (yX7_append, cX7_append, 7, (some .int), RX7, mc_X7_append, 0, 0, 0, 0)
def mr_X7_appendPiece : mv_T := (yX7_appendPiece, cX7_appendPiece, 5, none, RX7, mc_X7_appendPiece, 0, 0, 0, 0)
def mr_X7_takeFrom : mv_T := (yX7_takeFrom, cX7_takeFrom, 2, none, RX7, mc_X7_takeFrom, 1, 0, 0, 26)
def mr_X7_yieldOn : mv_T := (yX7_yieldOn, cX7_yieldOn, 3, (some .int), RX7, mc_X7_yieldOn, 0, 0, 0, 0)
def mr_X7_reckonedPrice : mv_T := (yX7_reckonedPrice, cX7_reckonedPrice, 4, (some .int), RX7, mc_X7_reckonedPrice, 0, 0, 0, 0)
def mr_X7_payAtHome : mv_T := (yX7_payAtHome, cX7_payAtHome, 6, (some .long), RX7, mc_X7_payAtHome, 1, 0, 0, 23)
def mr_X7_carriage : mv_T := (yX7_carriage, cX7_carriage, 4, (some .long), RX7, mc_X7_carriage, 1, 0, 0, 22)
def mr_X7_canGo : mv_T := (yX7_canGo, cX7_canGo, 3, (some .boolean), RX7, mc_X7_canGo, 0, 0, 0, 0)
def mr_X7_boughtAt : mv_T := (yX7_boughtAt, cX7_boughtAt, 5, (some .int), RX7, mc_X7_boughtAt, 0, 0, 0, 0)
def mr_X8_init : mv_T := (yX8_init, cX8_init, 1, none, RX8, mc_X8_init, 1, 6, 912, 20)
def mr_X8_reckonFoot : mv_T := (yX8_reckonFoot, cX8_reckonFoot, 5, none, RX8, mc_X8_reckonFoot, 2, 0, 0, 57)
def mr_X8_reckonRoads : mv_T := (yX8_reckonRoads, cX8_reckonRoads, 5, none, RX8, mc_X8_reckonRoads, 2, 0, 0, 57)
def mr_X8_search : mv_T := (yX8_search, cX8_search, 11, none, RX8, mc_X8_search, 1, 0, 0, 27)
def mr_X8_leastFrom : mv_T := (yX8_leastFrom, cX8_leastFrom, 8, (some .int), RX8, mc_X8_leastFrom, 0, 0, 0, 0)
def mr_X9_init : mv_T := (yX9_init, cX9_init, 1, none, RX9, mc_X9_init, 1, 1, 48, 20)
def mr_X10_init : mv_T := (yX10_init, cX10_init, 1, none, RX10, mc_X10_init, 2, 27, 803, 41)
def mr_X10_takeFrom : mv_T := (yX10_takeFrom, cX10_takeFrom, 2, none, RX10, mc_X10_takeFrom, 2, 0, 0, 47)
def mr_X11_init : mv_T := (yX11_init, cX11_init, 1, none, RX11, mc_X11_init, 4, 86, 4736, 81)
def mr_X11_feed : mv_T := (yX11_feed, cX11_feed, 4, (some .int), RX11, mc_X11_feed, 1, 0, 0, 26)
def mr_X11_read : mv_T := (yX11_read, cX11_read, 2, (some .int), RX11, mc_X11_read, 2, 0, 0, 45)
def mr_X11_acre : mv_T := (yX11_acre, cX11_acre, 4, (some .int), RX11, mc_X11_acre, 1, 0, 0, 22)
def mr_X11_road : mv_T := (yX11_road, cX11_road, 7, (some .int), RX11, mc_X11_road, 2, 0, 0, 48)
def mr_X11_toll : mv_T := (yX11_toll, cX11_toll, 6, (some .int), RX11, mc_X11_toll, 1, 0, 0, 22)
def mr_X11_market : mv_T := (yX11_market, cX11_market, 4, (some .int), RX11, mc_X11_market, 1, 0, 0, 22)
def mr_X11_use : mv_T := (yX11_use, cX11_use, 7, (some .int), RX11, mc_X11_use, 1, 0, 0, 26)
def mr_X11_year : mv_T := (yX11_year, cX11_year, 3, (some .int), RX11, mc_X11_year, 1, 0, 0, 21)
def mr_X11_price : mv_T := (yX11_price, cX11_price, 7, (some .int), RX11, mc_X11_price, 1, 0, 0, 22)
def mr_X11_tax : mv_T := (yX11_tax, cX11_tax, 5, (some .int), RX11, mc_X11_tax, 2, 0, 0, 45)
def mr_X11_rentTax : mv_T := (yX11_rentTax, cX11_rentTax, 4, (some .int), RX11, mc_X11_rentTax, 1, 0, 0, 22)
def mr_X11_goes : mv_T := (yX11_goes, cX11_goes, 5, (some .int), RX11, mc_X11_goes, 5, 0, 0, 116)
def mr_X11_rent : mv_T := (yX11_rent, cX11_rent, 3, (some .long), RX11, mc_X11_rent, 5, 0, 0, 116)
def mr_X11_piece : mv_T := (yX11_piece, cX11_piece, 6, (some .int), RX11, mc_X11_piece, 1, 0, 0, 24)
def mr_X11_rounds : mv_T := (yX11_rounds, cX11_rounds, 4, (some .int), RX11, mc_X11_rounds, 5, 0, 0, 135)
def mr_X11_falls : mv_T := (yX11_falls, cX11_falls, 4, (some .int), RX11, mc_X11_falls, 5, 0, 0, 116)
def mr_X11_own : mv_T := (yX11_own, cX11_own, 5, (some .int), RX11, mc_X11_own, 1, 0, 0, 22)
def mr_X11_held : mv_T := (yX11_held, cX11_held, 5, (some .int), RX11, mc_X11_held, 1, 0, 0, 21)
def mr_X11_hold : mv_T := (yX11_hold, cX11_hold, 3, (some .int), RX11, mc_X11_hold, 6, 0, 0, 166)
def mr_X11_image : mv_T := (yX11_image, cX11_image, 1, (some .int), RX11, mc_X11_image, 3, 0, 0, 68)
def mr_X11_on : mv_T := (yX11_on, cX11_on, 1, (some .int), RX11, mc_X11_on, 3, 0, 0, 68)
def mr_X11_count : mv_T := (yX11_count, cX11_count, 2, (some .int), RX11, mc_X11_count, 5, 0, 0, 116)
def mr_X11_refuse : mv_T := (yX11_refuse, cX11_refuse, 2, (some .int), RX11, mc_X11_refuse, 0, 0, 0, 0)
def mr_X11_refuseLong : mv_T := (yX11_refuseLong, cX11_refuseLong, 2, (some .long), RX11, mc_X11_refuseLong, 1, 0, 0, 21)
def mr_X11_unfit : mv_T := (yX11_unfit, cX11_unfit, 3, (some .int), RX11, mc_X11_unfit, 0, 0, 0, 0)
def mr_X11_isNoUse : mv_T := (yX11_isNoUse, cX11_isNoUse, 2, (some .boolean), RX11, mc_X11_isNoUse, 0, 0, 0, 0)
def mr_X11_isNoMarket : mv_T := (yX11_isNoMarket, cX11_isNoMarket, 2, (some .boolean), RX11, mc_X11_isNoMarket, 0, 0, 0, 0)
def mr_X11_offerOf : mv_T := (yX11_offerOf, cX11_offerOf, 2, (some .int), RX11, mc_X11_offerOf, 0, 0, 0, 0)
def mr_J9_floorDiv_f86c9 : mv_T := (yJ9_floorDiv_f86c9, cJ9_floorDiv_f86c9, 6, (some .long), RJ9, mc_J9_floorDiv_f86c9, 0, 0, 0, 0)
def mr_J9_max_f86c9 : mv_T := (yJ9_max_f86c9, cJ9_max_f86c9, 4, (some .long), RJ9, mc_J9_max_f86c9, 0, 0, 0, 0)
def mr_J9_min_f86c9 : mv_T := (yJ9_min_f86c9, cJ9_min_f86c9, 4, (some .long), RJ9, mc_J9_min_f86c9, 0, 0, 0, 0)
def mr_L_law : mv_T := (yL_law, cL_law, 19, (some .boolean), RL, mc_L_law, 7, 200, 10000, 188)
def mr_L_cell : mv_T := (yL_cell, cL_cell, 2, (some .int), RL, mc_L_cell, 0, 0, 0, 0)
def mr_L_pick : mv_T := (yL_pick, cL_pick, 2, (some .int), RL, mc_L_pick, 0, 0, 0, 0)
def mr_L_cellOf : mv_T := (yL_cellOf, cL_cellOf, 2, (some .int), RL, mc_L_cellOf, 0, 0, 0, 0)
def mr_L_land : mv_T := (yL_land, cL_land, 8, (some .int), RL, mc_L_land, 6, 0, 0, 137)
def mv_TT : List mv_T := [
  mr_X0_init, mr_X0_layOut, mr_X0_clearAway, mr_X0_takeFrom, mr_X0_placeOf, mr_X0_beside, mr_X0_sideTowards, mr_X0_roadAt,
  mr_X0_layRoad, mr_X0_marketOn, mr_X0_idleAcres, mr_X1_init, mr_X1_forgetWays, mr_X1_forgetBids, mr_X1_settle, mr_X1_reckonBids,
  mr_X1_reckonOffer, mr_X1_wayOf, mr_X1_takerOf, mr_X1_greatest, mr_X1_rentAt, mr_X1_rentBy, mr_X1_allRents, mr_X1_rentsOf,
  mr_L_law, mr_X1_isTakenBy, mr_L_law, mr_L_law, mr_L_law, mr_X1_wasteAcres, mr_X1_fallingWaste, mr_X2_init,
  mr_L_law, mr_X2_takeFrom, mr_X3_init, mr_L_law, mr_L_law, mr_L_law, mr_L_law, mr_L_law,
  mr_L_law, mr_L_law, mr_X4_init, mr_L_law, mr_L_law, mr_X5_init, mr_X5_append, mr_X5_firstFault,
  mr_X5_isDigit, mr_X6_init, mr_X6_clearingPrice, mr_X6_comingAt, mr_X6_leastPriceFor, mr_X6_runRounds, mr_X6_runRound, mr_X6_bestToHold,
  mr_X6_rentsAfterRound, mr_X7_init, mr_X7_append, mr_X7_appendPiece, mr_X7_takeFrom, mr_X7_yieldOn, mr_X7_reckonedPrice, mr_X7_payAtHome,
  mr_X7_carriage, mr_X7_canGo, mr_X7_boughtAt, mr_X8_init, mr_X8_reckonFoot, mr_X8_reckonRoads, mr_L_law, mr_X8_search,
  mr_X8_leastFrom, mr_X9_init, mr_L_law, mr_L_law, mr_L_law, mr_L_law, mr_L_law, mr_L_law,
  mr_L_law, mr_L_law, mr_L_law, mr_X10_init, mr_X10_takeFrom, mr_X11_init, mr_X11_feed, mr_X11_read,
  mr_X11_acre, mr_X11_road, mr_L_law, mr_X11_toll, mr_L_law, mr_X11_market, mr_X11_use, mr_X11_year,
  mr_X11_price, mr_X11_tax, mr_X11_rentTax, mr_L_law, mr_X11_goes, mr_X11_rent, mr_L_law, mr_X11_piece,
  mr_L_law, mr_L_law, mr_X11_rounds, mr_L_law, mr_L_law, mr_L_law, mr_L_law, mr_L_law,
  mr_L_law, mr_L_law, mr_L_law, mr_L_law, mr_L_law, mr_X11_falls, mr_X11_own, mr_X11_held,
  mr_X11_hold, mr_L_law, mr_L_law, mr_X11_image, mr_X11_on, mr_X11_count, mr_X11_refuse, mr_X11_refuseLong,
  mr_X11_unfit, mr_X11_isNoUse, mr_X11_isNoMarket, mr_X11_offerOf, mr_L_law, mr_L_law, mr_L_law, mr_L_law,
  mr_L_law, mr_L_law, mr_L_law, mr_L_law, mr_L_law, mr_L_law, mr_L_law, mr_L_law,
  mr_L_law, mr_L_law, mr_L_law, mr_L_law, mr_L_law, mr_L_law, mr_L_law, mr_L_law,
  mr_L_law, mr_L_law, mr_L_law, mr_L_law, mr_L_law, mr_L_law, mr_L_law, mr_L_law,
  mr_L_law, mr_L_law, mr_L_law, mr_L_law, mr_L_law, mr_L_law, mr_L_law, mr_L_law,
  mr_L_law, mr_L_law, mr_L_law, mr_L_law, mr_L_law, mr_L_law, mr_L_law, mr_L_law,
  mr_L_law, mr_L_law, mr_L_law, mr_L_law, mr_L_law, mr_L_law, mr_L_law, mr_L_law,
  mr_L_law, mr_L_law, mr_L_law, mr_L_law, mr_L_law, mr_L_law, mr_L_law, mr_L_law,
  mr_L_law, mr_L_law, mr_L_law, mr_L_law, mr_L_law, mr_L_law, mr_L_law, mr_L_law,
  mr_L_law, mr_L_law, mr_L_law, mr_L_law, mr_L_law, mr_L_law, mr_L_law, mr_L_law,
  mr_L_law, mr_L_law, mr_L_law, mr_L_law, mr_L_law, mr_L_law, mr_L_law, mr_L_law,
  mr_L_law, mr_L_law, mr_L_law, mr_L_law, mr_L_law, mr_L_law, mr_J9_floorDiv_f86c9, mr_L_law,
  mr_J9_max_f86c9, mr_J9_min_f86c9, mr_L_law, mr_L_cell, mr_L_pick, mr_L_cellOf, mr_L_land
  ]
def mv_r (i : Nat) : mv_T := mv_TT.getD i mr_L_law
end
section
/-! WHAT A PROGRAM DECIDES OF THE CODE LISTS: that they are the methods' bytes, and that the tables have the words which they need -/
def mv_gd : Jvm.Cond → Bool
  | .methodLinkNest _ _ _ _ => true
  | w => goodWord w
def mv_tbl : List Jvm.Cond := lw_tbl.filter mv_gd
def mv_hw (ts : List Nat) (k : Nat) (w : Jvm.Cond) : Bool := decide ((ts[k]?).bind (fun i => lw_tbl[i]?) = some w) && mv_gd w
theorem mv_hw_mem {ts : List Nat} {k : Nat} {w : Jvm.Cond} (h : mv_hw ts k w = true) : w ∈ mv_tbl := by
  unfold mv_hw at h
  simp only [Bool.and_eq_true, decide_eq_true_eq] at h
  obtain ⟨h1, h2⟩ := h
  cases ht : ts[k]? with
  | none => rw [ht] at h1; cases h1
  | some i =>
    rw [ht] at h1
    exact List.mem_filter.mpr ⟨List.mem_of_getElem? h1, h2⟩
def mv_tys : List (Nat → FieldType) := [tyX0, tyX1, tyX2, tyX3, tyX4, tyX5, tyX6, tyX7, tyX8, tyX9, tyX10, tyX11]
def mv_ty (ci k : Nat) : FieldType := (mv_tys.getD ci tyX0) k
def mv_kd (ci k : Nat) : Nat := match mv_ty ci k with
  | .int => 0
  | .boolean => 1
  | .object _ => 2
  | .array _ => 2
  | _ => 3
def mv_nf (ci : Nat) : Nat := ((vwCl[ci]?).map (fun q => q.2.2)).getD 0
def mv_tg (ty : ArrayType) : Nat := match ty with
  | .int => 100
  | .long => 101
  | .boolean => 102
  | _ => 0
/-- a link of a call: plain, or to a nest mate's private method -/
def mv_lk (ts : List Nat) (own : String) (idx : Nat) (y : MethodName) : Bool :=
  mv_hw ts 0 (.methodLink own idx y) || (match ((ts[0]?).bind (fun i => lw_tbl[i]?) : Option Jvm.Cond) with
    | some (.methodLinkNest o j z _) => decide (o = own) && (decide (j = idx) && decide (z = y))
    | _ => false)
def mv_cl (r q : mv_T) (n : Nat) : Bool :=
  decide ((mt_y q).cls ≠ "java/lang/invoke/MethodHandle" ∧ (mt_y q).cls ≠ "java/lang/invoke/VarHandle") && (decide ((parseMethodDescriptor (mt_y q).desc).map (fun d => d.parameters.length) = some n) &&
    (Nat.ble (mt_fr q + 1) (mt_fr r) && (Nat.ble (8 + (mt_nL q + 11) + mt_lo q) (mt_lo r) && Nat.blt (mt_mc q) 150)))
def mv_fl (r : mv_T) (idx a b c : Nat) (ts : List Nat) : Bool := match vwCl[a]? with
  | some (_, T, N) => Nat.blt b N && (mv_hw ts 0 (.fieldLink (mt_own r) idx (T b).1 (T b).2.1 (T b).2.2.1) && decide (c = mv_kd a b))
  | none => false
def mv_fit (r : mv_T) (pc ln : Nat) (ni : Instr) (a b c : Nat) (v : Int) (ts : List Nat) (i : Instr) : Bool := match ni with
  | .iconst _ => decide (mv_R32 v) && (match i with
    | .iconst n => decide (ln = 1) && decide (Int32.ofInt n = Int32.ofInt v)
    | .bipush n => decide (ln = 2) && decide ((Int8.ofInt n).toInt32 = Int32.ofInt v)
    | .sipush n => decide (ln = 3) && decide ((Int16.ofInt n).toInt32 = Int32.ofInt v)
    | .ldc idx => decide (ln = 2) && mv_hw ts 0 (.constant (mt_own r) idx (Int32.ofInt v))
    | .ldc_w idx => decide (ln = 3) && mv_hw ts 0 (.constant (mt_own r) idx (Int32.ofInt v))
    | _ => false)
  | .lconst _ => decide (mv_R64 v) && (match i with
    | .lconst n => decide (ln = 1) && decide (Int64.ofNat (n : Nat) = Int64.ofInt v)
    | .ldc2_w idx => decide (ln = 3) && mv_hw ts 0 (.constantLong (mt_own r) idx (Int64.ofInt v))
    | _ => false)
  | .iload _ => (match i with
    | .iload_n k => decide (ln = 1) && decide ((k : Nat) = a)
    | .iload k => decide (ln = 2) && decide (k = a)
    | _ => false)
  | .lload _ => (match i with
    | .lload_n k => decide (ln = 1) && decide ((k : Nat) = a)
    | .lload k => decide (ln = 2) && decide (k = a)
    | _ => false)
  | .aload _ => (match i with
    | .aload_n k => decide (ln = 1) && decide ((k : Nat) = a)
    | .aload k => decide (ln = 2) && decide (k = a)
    | _ => false)
  | .istore _ => Nat.blt a (mt_nL r) && (match i with
    | .istore_n k => decide (ln = 1) && decide ((k : Nat) = a)
    | .istore k => decide (ln = 2) && decide (k = a)
    | _ => false)
  | .lstore _ => Nat.blt (a + 1) (mt_nL r) && (match i with
    | .lstore_n k => decide (ln = 1) && decide ((k : Nat) = a)
    | .lstore k => decide (ln = 2) && decide (k = a)
    | _ => false)
  | .astore _ => Nat.blt a (mt_nL r) && (match i with
    | .astore_n k => decide (ln = 1) && decide ((k : Nat) = a)
    | .astore k => decide (ln = 2) && decide (k = a)
    | _ => false)
  | .iinc _ _ => Nat.blt a (mt_nL r) && (match i with
    | .iinc k n => decide (ln = 3) && (decide (k = a) && decide (Int32.ofInt n = Int32.ofInt v))
    | _ => false)
  | .goto _ => (match i with
    | .goto off => decide (ln = 3) && decide ((pc : Int) + off = (a : Int))
    | _ => false)
  | .ifCond k _ => (match i with
    | .ifCond k' off => decide (ln = 3) && (decide (k' = k) && decide ((pc : Int) + off = (a : Int)))
    | _ => false)
  | .if_icmp k _ => (match i with
    | .if_icmp k' off => decide (ln = 3) && (decide (k' = k) && decide ((pc : Int) + off = (a : Int)))
    | _ => false)
  | .tableswitch _ _ _ _ => decide (mv_R32 v) && (match i with
    | .tableswitch d lo hi offs => decide ((pc : Int) + d = (a : Int)) && (decide (lo = v) && (decide (hi + 1 = v + (ts.length : Int)) && decide (offs.toList = ts.map (fun t : Nat => (t : Int) - (pc : Int)))))
    | _ => false)
  | .getfield _ => (match i with
    | .getfield idx => decide (ln = 3) && mv_fl r idx a b c ts
    | _ => false)
  | .putfield _ => (match i with
    | .putfield idx => decide (ln = 3) && (mv_fl r idx a b c ts && (match vwCl[a]? with
      | some (_, T, _) => !(T b).2.2.2 || (decide ((mt_y r).name = "<init>") && decide ((T b).1 = mt_own r))
      | none => false))
    | _ => false)
  | .newarray ty => (match i with
    | .newarray ty' => decide (ln = 2) && (decide (ty' = ty) && (mv_hw ts 0 (.arrayClass (newarray.typeOf ty)) && (decide (a = mv_tg ty) && Nat.ble 100 a)))
    | _ => false)
  | .new _ => (match i with
    | .new idx => decide (ln = 3) && (match vwCl[a]? with
      | some (C, _, N) => decide (N = b) && (mv_hw ts 0 (.classLink (mt_own r) idx C) && (mv_hw ts 1 (.instantiable C N) && mv_hw ts 2 (.initialized C)))
      | none => false)
    | _ => false)
  | .invokespecial _ => (match i with
    | .invokespecial idx => decide (ln = 3) && (if c = 1 then mv_hw ts 0 (.methodLink (mt_own r) idx objectInit) && (mv_hw ts 1 (.instanceMethod objectInit) && (mv_hw ts 2 (.code objectInit ⟨#[0xb1]⟩ 1 none) && (Nat.ble 1 (mt_fr r) && Nat.ble 20 (mt_lo r))))
      else mv_lk ts (mt_own r) idx (mt_y (mv_r a)) && (mv_hw ts 1 (.instanceMethod (mt_y (mv_r a))) && (mv_hw ts 2 (.initialized (mt_y (mv_r a)).cls) && (decide ((mt_y (mv_r a)).name = "<init>") && (decide (mt_ret (mv_r a) = none) &&
        (decide (c = 2 + mt_mc (mv_r a)) && (decide (v = (mt_ms (mv_r a) : Int)) && (Nat.ble 1 b && mv_cl r (mv_r a) (b - 1)))))))))
    | _ => false)
  | .invokevirtual _ => (match i with
    | .invokevirtual idx => decide (ln = 3) && (mv_hw ts 0 (.methodLink (mt_own r) idx (mt_y (mv_r a))) && (mv_hw ts 1 (.instanceMethod (mt_y (mv_r a))) && (mv_hw ts 2 (.selects (mt_y (mv_r a)).cls (mt_y (mv_r a)) (mt_y (mv_r a))) &&
        (mv_hw ts 3 (.initialized (mt_y (mv_r a)).cls) && (decide ((vwCl[c]?).map (fun q => q.1) = some (mt_y (mv_r a)).cls) && (decide (mt_mc (mv_r a) = 0 ∧ mt_ms (mv_r a) = 0) && (Nat.ble 1 b && mv_cl r (mv_r a) (b - 1))))))))
    | _ => false)
  | .invokestatic _ => (match i with
    | .invokestatic idx => decide (ln = 3) && (if c = 1 then mv_lk ts (mt_own r) idx (mt_y (mv_r a)) && (mv_hw ts 1 (.static (mt_y (mv_r a))) && (mv_hw ts 2 (.initialized (mt_y (mv_r a)).cls) && (decide (mt_mc (mv_r a) = 0 ∧ mt_ms (mv_r a) = 0) && mv_cl r (mv_r a) b)))
      else mv_hw ts 0 (.methodLink (mt_own r) idx arraycopyName) && (mv_hw ts 1 (.native arraycopyName) && (mv_hw ts 2 (.static arraycopyName) && (mv_hw ts 3 (.initialized "java/lang/System") && (decide (c = 100 ∨ c = 101) && (Nat.ble 1 (mt_fr r) && Nat.ble 26 (mt_lo r)))))))
    | _ => false)
  | .ireturn => decide (ln = 1) && (decide (i = .ireturn) && (if a = 1 then decide (mt_ret r = some .boolean) else decide (mt_ret r = some .int)))
  | .lreturn => decide (ln = 1) && (decide (i = .lreturn) && decide (mt_ret r = some .long))
  | .return_ => decide (ln = 1) && (decide (i = .return_) && decide (mt_ret r = none))
  | _ => decide (ln = 1) && decide (i = ni)
def mv_okE (r : mv_T) (e : mv_E) : Bool := match e with
  | (pc, ln, ni, a, b, c, v, ts) => (match decode (mt_cc r) pc with
    | .ok (i, n) => decide (n = ln) && mv_fit r pc ln ni a b c v ts i
    | .error _ => false)
def mv_ch : List mv_E → Bool
  | e :: e' :: r => decide (e.1 + e.2.1 = e'.1) && mv_ch (e' :: r)
  | _ => true
def mv_okM (i : Nat) : Bool := (mt_code (mv_r i)).all (mv_okE (mv_r i)) && mv_ch (mt_code (mv_r i))
/-- the word of a method's own code stands at this place of the tables -/
def mv_okC (i p : Nat) : Bool := plainFor (mt_y (mv_r i)) && (decide (mt_own (mv_r i) = (mt_y (mv_r i)).cls) && mv_hw [p] 0 (.code (mt_y (mv_r i)) (mt_cc (mv_r i)) (mt_nL (mv_r i)) (mt_ret (mv_r i))))
end
section
/-! THE CODE LISTS ARE THE BYTES (by program: wip/p40/chkgen.py) -/
theorem ok_0 : mv_okM 0 = true := by decide +kernel
theorem oc_0 : mv_okC 0 84 = true := by decide +kernel
theorem ok_1 : mv_okM 1 = true := by decide +kernel
theorem oc_1 : mv_okC 1 728 = true := by decide +kernel
theorem ok_2 : mv_okM 2 = true := by decide +kernel
theorem oc_2 : mv_okC 2 732 = true := by decide +kernel
theorem ok_3 : mv_okM 3 = true := by decide +kernel
theorem oc_3 : mv_okC 3 659 = true := by decide +kernel
theorem ok_4 : mv_okM 4 = true := by decide +kernel
theorem oc_4 : mv_okC 4 427 = true := by decide +kernel
theorem ok_5 : mv_okM 5 = true := by decide +kernel
theorem oc_5 : mv_okC 5 470 = true := by decide +kernel
theorem ok_6 : mv_okM 6 = true := by decide +kernel
theorem oc_6 : mv_okC 6 740 = true := by decide +kernel
theorem ok_7 : mv_okM 7 = true := by decide +kernel
theorem oc_7 : mv_okC 7 745 = true := by decide +kernel
theorem ok_8 : mv_okM 8 = true := by decide +kernel
theorem oc_8 : mv_okC 8 749 = true := by decide +kernel
theorem ok_9 : mv_okM 9 = true := by decide +kernel
theorem oc_9 : mv_okC 9 435 = true := by decide +kernel
theorem ok_10 : mv_okM 10 = true := by decide +kernel
theorem oc_10 : mv_okC 10 690 = true := by decide +kernel
theorem ok_11 : mv_okM 11 = true := by decide +kernel
theorem oc_11 : mv_okC 11 72 = true := by decide +kernel
theorem ok_12 : mv_okM 12 = true := by decide +kernel
theorem oc_12 : mv_okC 12 678 = true := by decide +kernel
theorem ok_13 : mv_okM 13 = true := by decide +kernel
theorem oc_13 : mv_okC 13 454 = true := by decide +kernel
theorem ok_14 : mv_okM 14 = true := by decide +kernel
theorem oc_14 : mv_okC 14 462 = true := by decide +kernel
theorem ok_15 : mv_okM 15 = true := by decide +kernel
theorem oc_15 : mv_okC 15 487 = true := by decide +kernel
theorem ok_16 : mv_okM 16 = true := by decide +kernel
theorem oc_16 : mv_okC 16 491 = true := by decide +kernel
theorem ok_17 : mv_okM 17 = true := by decide +kernel
theorem oc_17 : mv_okC 17 495 = true := by decide +kernel
theorem ok_18 : mv_okM 18 = true := by decide +kernel
theorem oc_18 : mv_okC 18 520 = true := by decide +kernel
theorem ok_19 : mv_okM 19 = true := by decide +kernel
theorem oc_19 : mv_okC 19 524 = true := by decide +kernel
end
section
/-! THE CODE LISTS ARE THE BYTES (by program: wip/p40/chkgen.py) -/
theorem ok_20 : mv_okM 20 = true := by decide +kernel
theorem oc_20 : mv_okC 20 541 = true := by decide +kernel
theorem ok_21 : mv_okM 21 = true := by decide +kernel
theorem oc_21 : mv_okC 21 545 = true := by decide +kernel
theorem ok_22 : mv_okM 22 = true := by decide +kernel
theorem oc_22 : mv_okC 22 537 = true := by decide +kernel
theorem ok_23 : mv_okM 23 = true := by decide +kernel
theorem oc_23 : mv_okC 23 646 = true := by decide +kernel
theorem ok_25 : mv_okM 25 = true := by decide +kernel
theorem oc_25 : mv_okC 25 619 = true := by decide +kernel
theorem ok_29 : mv_okM 29 = true := by decide +kernel
theorem oc_29 : mv_okC 29 686 = true := by decide +kernel
theorem ok_30 : mv_okM 30 = true := by decide +kernel
theorem oc_30 : mv_okC 30 614 = true := by decide +kernel
theorem ok_31 : mv_okM 31 = true := by decide +kernel
theorem oc_31 : mv_okC 31 221 = true := by decide +kernel
theorem ok_33 : mv_okM 33 = true := by decide +kernel
theorem oc_33 : mv_okC 33 669 = true := by decide +kernel
theorem ok_34 : mv_okM 34 = true := by decide +kernel
theorem oc_34 : mv_okC 34 350 = true := by decide +kernel
theorem ok_42 : mv_okM 42 = true := by decide +kernel
theorem oc_42 : mv_okC 42 58 = true := by decide +kernel
theorem ok_45 : mv_okM 45 = true := by decide +kernel
theorem oc_45 : mv_okC 45 41 = true := by decide +kernel
theorem ok_46 : mv_okM 46 = true := by decide +kernel
theorem oc_46 : mv_okC 46 711 = true := by decide +kernel
theorem ok_47 : mv_okM 47 = true := by decide +kernel
theorem oc_47 : mv_okC 47 721 = true := by decide +kernel
theorem ok_48 : mv_okM 48 = true := by decide +kernel
theorem oc_48 : mv_okC 48 724 = true := by decide +kernel
theorem ok_49 : mv_okM 49 = true := by decide +kernel
theorem oc_49 : mv_okC 49 321 = true := by decide +kernel
theorem ok_50 : mv_okM 50 = true := by decide +kernel
theorem oc_50 : mv_okC 50 578 = true := by decide +kernel
theorem ok_51 : mv_okM 51 = true := by decide +kernel
theorem oc_51 : mv_okC 51 601 = true := by decide +kernel
theorem ok_52 : mv_okM 52 = true := by decide +kernel
theorem oc_52 : mv_okC 52 583 = true := by decide +kernel
theorem ok_53 : mv_okM 53 = true := by decide +kernel
theorem oc_53 : mv_okC 53 570 = true := by decide +kernel
end
section
/-! THE CODE LISTS ARE THE BYTES (by program: wip/p40/chkgen.py) -/
theorem ok_54 : mv_okM 54 = true := by decide +kernel
theorem oc_54 : mv_okC 54 574 = true := by decide +kernel
theorem ok_55 : mv_okM 55 = true := by decide +kernel
theorem oc_55 : mv_okC 55 635 = true := by decide +kernel
theorem ok_56 : mv_okM 56 = true := by decide +kernel
theorem oc_56 : mv_okC 56 642 = true := by decide +kernel
theorem ok_57 : mv_okM 57 = true := by decide +kernel
theorem oc_57 : mv_okC 57 157 = true := by decide +kernel
theorem ok_58 : mv_okM 58 = true := by decide +kernel
theorem oc_58 : mv_okC 58 765 = true := by decide +kernel
theorem ok_59 : mv_okM 59 = true := by decide +kernel
theorem oc_59 : mv_okC 59 562 = true := by decide +kernel
theorem ok_60 : mv_okM 60 = true := by decide +kernel
theorem oc_60 : mv_okC 60 664 = true := by decide +kernel
theorem ok_61 : mv_okM 61 = true := by decide +kernel
theorem oc_61 : mv_okC 61 507 = true := by decide +kernel
theorem ok_62 : mv_okM 62 = true := by decide +kernel
theorem oc_62 : mv_okC 62 511 = true := by decide +kernel
theorem ok_63 : mv_okM 63 = true := by decide +kernel
theorem oc_63 : mv_okC 63 503 = true := by decide +kernel
theorem ok_64 : mv_okM 64 = true := by decide +kernel
theorem oc_64 : mv_okC 64 516 = true := by decide +kernel
theorem ok_65 : mv_okM 65 = true := by decide +kernel
theorem oc_65 : mv_okC 65 499 = true := by decide +kernel
theorem ok_66 : mv_okM 66 = true := by decide +kernel
theorem oc_66 : mv_okC 66 605 = true := by decide +kernel
theorem ok_67 : mv_okM 67 = true := by decide +kernel
theorem oc_67 : mv_okC 67 261 = true := by decide +kernel
theorem ok_68 : mv_okM 68 = true := by decide +kernel
theorem oc_68 : mv_okC 68 466 = true := by decide +kernel
theorem ok_69 : mv_okM 69 = true := by decide +kernel
theorem oc_69 : mv_okC 69 483 = true := by decide +kernel
theorem ok_71 : mv_okM 71 = true := by decide +kernel
theorem oc_71 : mv_okC 71 474 = true := by decide +kernel
theorem ok_72 : mv_okM 72 = true := by decide +kernel
theorem oc_72 : mv_okC 72 479 = true := by decide +kernel
theorem ok_73 : mv_okM 73 = true := by decide +kernel
theorem oc_73 : mv_okC 73 340 = true := by decide +kernel
theorem ok_83 : mv_okM 83 = true := by decide +kernel
theorem oc_83 : mv_okC 83 78 = true := by decide +kernel
end
section
/-! THE CODE LISTS ARE THE BYTES (by program: wip/p40/chkgen.py) -/
theorem ok_84 : mv_okM 84 = true := by decide +kernel
theorem oc_84 : mv_okC 84 655 = true := by decide +kernel
theorem ok_85 : mv_okM 85 = true := by decide +kernel
theorem oc_85 : mv_okC 85 33 = true := by decide +kernel
theorem ok_86 : mv_okM 86 = true := by decide +kernel
theorem oc_86 : mv_okC 86 707 = true := by decide +kernel
theorem ok_87 : mv_okM 87 = true := by decide +kernel
theorem oc_87 : mv_okC 87 717 = true := by decide +kernel
theorem ok_88 : mv_okM 88 = true := by decide +kernel
theorem oc_88 : mv_okC 88 423 = true := by decide +kernel
theorem ok_89 : mv_okM 89 = true := by decide +kernel
theorem oc_89 : mv_okC 89 736 = true := by decide +kernel
theorem ok_91 : mv_okM 91 = true := by decide +kernel
theorem oc_91 : mv_okC 91 753 = true := by decide +kernel
theorem ok_93 : mv_okM 93 = true := by decide +kernel
theorem oc_93 : mv_okC 93 757 = true := by decide +kernel
theorem ok_94 : mv_okM 94 = true := by decide +kernel
theorem oc_94 : mv_okC 94 761 = true := by decide +kernel
theorem ok_95 : mv_okM 95 = true := by decide +kernel
theorem oc_95 : mv_okC 95 769 = true := by decide +kernel
theorem ok_96 : mv_okM 96 = true := by decide +kernel
theorem oc_96 : mv_okC 96 773 = true := by decide +kernel
theorem ok_97 : mv_okM 97 = true := by decide +kernel
theorem oc_97 : mv_okC 97 439 = true := by decide +kernel
theorem ok_98 : mv_okM 98 = true := by decide +kernel
theorem oc_98 : mv_okC 98 443 = true := by decide +kernel
theorem ok_100 : mv_okM 100 = true := by decide +kernel
theorem oc_100 : mv_okC 100 458 = true := by decide +kernel
theorem ok_101 : mv_okM 101 = true := by decide +kernel
theorem oc_101 : mv_okC 101 528 = true := by decide +kernel
theorem ok_103 : mv_okM 103 = true := by decide +kernel
theorem oc_103 : mv_okC 103 551 = true := by decide +kernel
theorem ok_106 : mv_okM 106 = true := by decide +kernel
theorem oc_106 : mv_okC 106 566 = true := by decide +kernel
theorem ok_117 : mv_okM 117 = true := by decide +kernel
theorem oc_117 : mv_okC 117 610 = true := by decide +kernel
theorem ok_118 : mv_okM 118 = true := by decide +kernel
theorem oc_118 : mv_okC 118 623 = true := by decide +kernel
theorem ok_119 : mv_okM 119 = true := by decide +kernel
theorem oc_119 : mv_okC 119 627 = true := by decide +kernel
end
section
/-! THE CODE LISTS ARE THE BYTES (by program: wip/p40/chkgen.py) -/
theorem ok_120 : mv_okM 120 = true := by decide +kernel
theorem oc_120 : mv_okC 120 631 = true := by decide +kernel
theorem ok_123 : mv_okM 123 = true := by decide +kernel
theorem oc_123 : mv_okC 123 651 = true := by decide +kernel
theorem ok_124 : mv_okM 124 = true := by decide +kernel
theorem oc_124 : mv_okC 124 674 = true := by decide +kernel
theorem ok_125 : mv_okM 125 = true := by decide +kernel
theorem oc_125 : mv_okC 125 682 = true := by decide +kernel
theorem ok_126 : mv_okM 126 = true := by decide +kernel
theorem oc_126 : mv_okC 126 431 = true := by decide +kernel
theorem ok_127 : mv_okM 127 = true := by decide +kernel
theorem oc_127 : mv_okC 127 532 = true := by decide +kernel
theorem ok_128 : mv_okM 128 = true := by decide +kernel
theorem oc_128 : mv_okC 128 446 = true := by decide +kernel
theorem ok_129 : mv_okM 129 = true := by decide +kernel
theorem oc_129 : mv_okC 129 450 = true := by decide +kernel
theorem ok_130 : mv_okM 130 = true := by decide +kernel
theorem oc_130 : mv_okC 130 555 = true := by decide +kernel
theorem ok_131 : mv_okM 131 = true := by decide +kernel
theorem oc_131 : mv_okC 131 558 = true := by decide +kernel
theorem ok_222 : mv_okM 222 = true := by decide +kernel
theorem oc_222 : mv_okC 222 590 = true := by decide +kernel
theorem ok_224 : mv_okM 224 = true := by decide +kernel
theorem oc_224 : mv_okC 224 597 = true := by decide +kernel
theorem ok_225 : mv_okM 225 = true := by decide +kernel
theorem oc_225 : mv_okC 225 594 = true := by decide +kernel
theorem ok_227 : mv_okM 227 = true := by decide +kernel
theorem oc_227 : mv_okC 227 693 = true := by decide +kernel
theorem ok_228 : mv_okM 228 = true := by decide +kernel
theorem oc_228 : mv_okC 228 696 = true := by decide +kernel
theorem ok_229 : mv_okM 229 = true := by decide +kernel
theorem oc_229 : mv_okC 229 700 = true := by decide +kernel
theorem ok_230 : mv_okM 230 = true := by decide +kernel
theorem oc_230 : mv_okC 230 703 = true := by decide +kernel
end
section
/-! THE SMALL MACHINE STANDS FOR THE MACHINE (by program: wip/p40/simgen.py) -/
/-- launch; the script's address; where each cell lies (those that come, behind each other at the heap's end); class ids and slots; the classes of int[], long[], boolean[]; the script -/
abbrev mv_G : Type := Launch × Nat × (Nat → Nat) × (Nat → ClassId) × (Nat → Nat → Nat) × ClassId × ClassId × ClassId × Nat × (Nat → Int)
def mg_l (G : mv_G) : Launch := G.1
def mg_b (G : mv_G) : Nat := G.2.1
def mg_a (G : mv_G) : Nat → Nat := G.2.2.1
def mg_D (G : mv_G) : va_G := (G.2.2.2.1, G.2.2.2.2.1)
def mg_I (G : mv_G) : ClassId := G.2.2.2.2.2.1
def mg_J (G : mv_G) : ClassId := G.2.2.2.2.2.2.1
def mg_Z (G : mv_G) : ClassId := G.2.2.2.2.2.2.2.1
def mg_L (G : mv_G) : Nat := G.2.2.2.2.2.2.2.2.1
def mg_X (G : mv_G) : Nat → Int := G.2.2.2.2.2.2.2.2.2
def mg_A (G : mv_G) : Nat → Prop := fun q => ∃ k, 1 ≤ k ∧ q = mg_a G k
/-- the cells behind the n-th come at the heap's end, that is at z -/
def mv_hp (G : mv_G) (n z : Nat) : Prop := ∀ j, mg_a G (n + 1 + j) = z + j
def mv_bo (G : mv_G) (z : Nat) : Prop := mg_b G < z ∧ ¬ mg_A G (mg_b G)
def mg_ty (G : mv_G) : List (ClassId × FieldType) := [(mg_I G, .int), (mg_J G, .long), (mg_Z G, .boolean)]
def mv_ad (G : mv_G) (k : Nat) : Nat := if k = 0 then mg_b G else mg_a G k
def mv_ct (G : mv_G) : mv_V → Value
  | .inl x => .int (Int32.ofInt x)
  | .inr (.inl x) => .long (Int64.ofInt x)
  | .inr (.inr k) => .ref (mv_ad G k)
def mv_ov : mv_V → Prop
  | .inl x => mv_R32 x
  | .inr (.inl x) => mv_R64 x
  | .inr (.inr _) => True
def mv_fv (G : mv_G) (sh : mv_SH) (M : mv_Mem) (ci k f : Nat) : Value := if mv_kd ci f = 2 then (if sh.2.2.2.2 k f = 0 then .null else .ref (mv_ad G (sh.2.2.2.2 k f))) else .int (Int32.ofInt (M k f))
def mv_ce (G : mv_G) (sh : mv_SH) (M : mv_Mem) (k : Nat) : va_E :=
  if sh.2.2.1 k = 100 then .inl (mg_I G, sh.2.2.2.1 k, .inl (fun i => Int32.ofInt (M k i)))
  else if sh.2.2.1 k = 101 then .inl (mg_J G, sh.2.2.2.1 k, .inr (.inl (fun i => Int64.ofInt (M k i))))
  else if sh.2.2.1 k = 102 then .inl (mg_Z G, sh.2.2.2.1 k, .inl (fun i => Int32.ofInt (M k i)))
  else .inr (sh.2.2.1 k, (List.range (mv_nf (sh.2.2.1 k))).map (mv_fv G sh M (sh.2.2.1 k) k))
def mv_ws (G : mv_G) (sh : mv_SH) (M : mv_Mem) : va_W := (List.range sh.1).map (fun j => (mg_a G (j + 1), mv_ce G sh M (j + 1)))
def mv_Nm (G : mv_G) (sh : mv_SH) (M : mv_Mem) : Prop :=
  (sh.2.2.1 0 = 100 ∧ sh.2.2.2.1 0 = mg_L G ∧ ∀ i, M 0 i = mg_X G i) ∧ (∀ k i, mv_R64 (M k i) ∧ (sh.2.2.1 k ≠ 101 → mv_R32 (M k i))) ∧ ∀ k, sh.2.2.2.1 k ≤ 100000
def mv_Wd (G : mv_G) (sh : mv_SH) (M : mv_Mem) (H : Heap) : Prop :=
  va_P (mg_D G) vwCl (mv_ws G sh M) H ∧ va_D (mg_A G) (mv_ws G sh M) ∧ mv_Nm G sh M
/-- what a method's end says -/
def mv_Po (G : mv_G) (mc n1 s1 : Nat) (post : Option mv_V → mv_SH → mv_Mem → Prop) : Array Value → State → Outcome → State → Prop := fun _ st o t =>
  (∃ (r : Option mv_V) (sh : mv_SH) (M : mv_Mem), o = .returned (r.map (mv_ct G)) ∧ (∀ x, r = some x → mv_ov x) ∧ post r sh M ∧ (150 ≤ mc ∨ (sh.1 = n1 ∧ sh.2.1 = s1)) ∧ mv_Wd G sh M t.heap) ∧ va_F (mg_A G) st t
def mv_Pc (G : mv_G) (as : List mv_V) (sh : mv_SH) (M : mv_Mem) : Array Value → State → Prop :=
  va_Pc (as.map (mv_ct G)) (fun U => mv_hp G sh.1 U.heap.size ∧ mv_Wd G sh M U.heap ∧ va_K (mg_D G) vwCl (mg_ty G) U ∧ va_X (mg_b G) (mg_L G) (fun j => Int32.ofInt (mg_X G j)) U U.heap ∧ mv_bo G U.heap.size ∧ ∀ x ∈ as, mv_ov x)
def mv_wl (q : mv_T) : List Jvm.Cond := .code (mt_y q) (mt_cc q) (mt_nL q) (mt_ret q) :: mv_tbl
/-- a call of method c with these arguments in this world ends, with an answer and a world of which 'post' holds -/
def mv_Wp (G : mv_G) (c : Nat) (as : List mv_V) (sh : mv_SH) (M : mv_Mem) (post : Option mv_V → mv_SH → mv_Mem → Prop) : Prop :=
  Jvm.Cond.code (mt_y (mv_r c)) (mt_cc (mv_r c)) (mt_nL (mv_r c)) (mt_ret (mv_r c)) ∈ mv_tbl ∧ 
  Met (mg_l G) (mt_y (mv_r c)) (mv_wl (mv_r c)) (mt_rm (mv_r c)) (mv_Pc G as sh M) (mv_Po G (mt_mc (mv_r c)) (sh.1 + mt_mc (mv_r c)) (sh.2.1 + mt_ms (mv_r c)) post) (mt_mc (mv_r c)) (mt_ms (mv_r c)) (mg_A G)
def mv_Cx (G : mv_G) (mi n0 : Nat) (p : Program) (s : State) (m : MethodId) (args : Array Value) (meth : Method) (c : Code) : Prop :=
  p.tables.exec = Jvm.exec ∧ c.code = mt_cc (mv_r mi) ∧ c.maxLocals = mt_nL (mv_r mi) ∧ s.vm.findClass (mt_own (mv_r mi)) = some m.cls ∧ (∀ w ∈ mv_tbl, w.before args s = true) ∧ meth.sig.returnType = mt_ret (mv_r mi) ∧ meth.locks = false ∧
  meth.name = (mt_y (mv_r mi)).name ∧ mv_hp G n0 s.heap.size ∧ va_X (mg_b G) (mg_L G) (fun j => Int32.ofInt (mg_X G j)) s s.heap ∧ mv_bo G s.heap.size ∧ va_K (mg_D G) vwCl (mg_ty G) s
/-- from the place pc of method mi on, with these locals and this stack, in this world: the method ends, with an answer and a world of which 'post' holds -/
def mv_Run (G : mv_G) (mi n0 s0 pc : Nat) (L : mv_L) (st : List mv_V) (sh : mv_SH) (M : mv_Mem) (post : Option mv_V → mv_SH → mv_Mem → Prop) : Prop :=
  ∀ (p : Program) (e : Env) (s : State) (m : MethodId) (args : Array Value) (below : List Frame) (meth : Method) (c : Code) (H : Heap) (locs : List Loc) (ls : Array Slot),
    mv_Cx G mi n0 p s m args meth c → lv_has ls (mt_nL (mv_r mi)) (L.map (fun q => (q.1, mv_ct G q.2))) → (∀ q ∈ L, mv_ov q.2) → (∀ x ∈ st, mv_ov x) → mv_Wd G sh M H → va_S (mg_A G) s.heap H locs →
    (n0 ≤ sh.1 ∧ sh.1 ≤ n0 + mt_mc (mv_r mi)) → (s0 ≤ sh.2.1 ∧ sh.2.1 ≤ s0 + mt_ms (mv_r mi)) →
    W p (mg_l G) e (mt_rm (mv_r mi)) s m args below meth c H locs (sh.1 - n0) (sh.2.1 - s0) (MQ below (mv_Po G (mt_mc (mv_r mi)) (n0 + mt_mc (mv_r mi)) (s0 + mt_ms (mv_r mi)) post) args s (mt_mc (mv_r mi)) (mt_ms (mv_r mi)) (mg_A G)) (F0 m pc ls (st.map (mv_ct G)))
/-- what is to be shown from a place on, up to the next cuts -/
def mv_vc (G : mv_G) (mi n0 s0 : Nat) (cuts : List (Nat × List Nat)) (post : Option mv_V → mv_SH → mv_Mem → Prop) : Nat → Bool → List mv_E → mv_L → List mv_V → mv_SH → mv_Mem → Prop
  | 0, _, _, _, _, _, _ => False
  | _ + 1, _, [], _, _, _, _ => False
  | n + 1, f, e :: r, L, st, sh, M => match (if f = true then none else mv_cut e.1 cuts) with
    | some ks => mv_Run G mi n0 s0 e.1 (mv_pk ks L) st sh M post
    | none => mv_body (mv_Wp G) (mv_vc G mi n0 s0 cuts post n false r) (fun t => mv_vc G mi n0 s0 cuts post n false (mv_at t (mt_code (mv_r mi)))) post n0 s0 (mt_mc (mv_r mi)) (mt_ms (mv_r mi)) e.2.2.1 e.2.2.2.1 e.2.2.2.2.1 e.2.2.2.2.2.1 e.2.2.2.2.2.2.1 e.2.2.2.2.2.2.2 L st sh M
/-! numbers -/
theorem mv_i32 {x : Int} (h : mv_R32 x) : (Int32.ofInt x).toInt = x := Int32.toInt_ofInt_of_le (by omega) (by omega)
theorem mv_i64 {x : Int} (h : mv_R64 x) : (Int64.ofInt x).toInt = x := Int64.toInt_ofInt_of_le (by omega) (by omega)
theorem mv_r32 (x : Int32) : mv_R32 x.toInt := by
  have h1 := Int32.le_toInt x
  have h2 := Int32.toInt_lt x
  constructor <;> omega
theorem mv_r64 (x : Int64) : mv_R64 x.toInt := by
  have h1 := Int64.le_toInt x
  have h2 := Int64.toInt_lt x
  constructor <;> omega
theorem mv_e32 {x y : Int} (h : mv_R32 x) (h' : mv_R32 y) : Int32.ofInt x = Int32.ofInt y ↔ x = y := by
  rw [← Int32.toInt_inj, mv_i32 h, mv_i32 h']
theorem mv_l32 {x y : Int} (h : mv_R32 x) (h' : mv_R32 y) : Int32.ofInt x < Int32.ofInt y ↔ x < y := by
  rw [Int32.lt_iff_toInt_lt, mv_i32 h, mv_i32 h']
theorem mv_le32 {x y : Int} (h : mv_R32 x) (h' : mv_R32 y) : Int32.ofInt x ≤ Int32.ofInt y ↔ x ≤ y := by
  rw [Int32.le_iff_toInt_le, mv_i32 h, mv_i32 h']
theorem mv_e64 {x y : Int} (h : mv_R64 x) (h' : mv_R64 y) : Int64.ofInt x = Int64.ofInt y ↔ x = y := by
  rw [← Int64.toInt_inj, mv_i64 h, mv_i64 h']
theorem mv_l64 {x y : Int} (h : mv_R64 x) (h' : mv_R64 y) : Int64.ofInt x < Int64.ofInt y ↔ x < y := by
  rw [Int64.lt_iff_toInt_lt, mv_i64 h, mv_i64 h']
theorem mv_z32 : mv_R32 0 := by constructor <;> omega
theorem mv_z64 : mv_R64 0 := by constructor <;> omega
theorem mv_clamp {i : Int} (h : mv_R32 i) : (Int32.ofInt i).toNatClampNeg = i.toNat := by
  show (Int32.ofInt i).toInt.toNat = i.toNat
  rw [mv_i32 h]
theorem mv_vin {i : Int} {n : Nat} (h : mv_R32 i) (h0 : 0 ≤ i ∧ i < (n : Int)) : vp_in (Int32.ofInt i) n := by
  rw [vp_in_iff, mv_i32 h]
  exact h0
theorem mv_tmR {x y lo : Int} (h : -lo ≤ x ∧ x ≤ lo) : -lo ≤ x.tmod y ∧ x.tmod y ≤ lo := by
  have h1 : (x.tmod y).natAbs ≤ x.natAbs := by
    rw [Int.natAbs_tmod]
    exact Nat.mod_le _ _
  omega
/-! the stack, the locals -/
theorem mv_pi_s {st : List mv_V} {k : Int → List mv_V → Prop} (h : mv_pi st k) : ∃ x r, st = .inl x :: r ∧ k x r := by
  unfold mv_pi at h
  split at h
  · exact ⟨_, _, rfl, h⟩
  · exact h.elim
theorem mv_pl_s {st : List mv_V} {k : Int → List mv_V → Prop} (h : mv_pl st k) : ∃ x r, st = .inr (.inl x) :: r ∧ k x r := by
  unfold mv_pl at h
  split at h
  · exact ⟨_, _, rfl, h⟩
  · exact h.elim
theorem mv_pr_s {st : List mv_V} {k : Nat → List mv_V → Prop} (h : mv_pr st k) : ∃ x r, st = .inr (.inr x) :: r ∧ k x r := by
  unfold mv_pr at h
  split at h
  · exact ⟨_, _, rfl, h⟩
  · exact h.elim
theorem mv_lg_mem {a : Nat} {v : mv_V} : ∀ {L : mv_L}, mv_lg a L = some v → (a, v) ∈ L
  | [], h => by cases h
  | q :: r, h => by
    unfold mv_lg at h
    split at h
    · rename_i hq
      cases h
      subst hq
      exact List.mem_cons_self
    · exact List.mem_cons_of_mem _ (mv_lg_mem h)
theorem mv_lg_at {G : mv_G} {a nL : Nat} {v : mv_V} {L : mv_L} {ls : Array Slot} (hl : lv_has ls nL (L.map (fun q => (q.1, mv_ct G q.2)))) (h : mv_lg a L = some v) : ls[a]? = some (.val (mv_ct G v)) :=
  hl.2.2 (a, mv_ct G v) (List.mem_map.mpr ⟨(a, v), mv_lg_mem h, rfl⟩)
theorem mv_lg_pos {G : mv_G} {a : Nat} {v : mv_V} {L : mv_L} (h : mv_lg a L = some v) : ∃ k : Nat, (L.map (fun q => (q.1, mv_ct G q.2)))[k]? = some (a, mv_ct G v) := by
  obtain ⟨k, hk⟩ := List.getElem?_of_mem (mv_lg_mem h)
  exact ⟨k, by rw [List.getElem?_map, hk]; rfl⟩
theorem mv_cat_e (G : mv_G) (v : mv_V) : ((mv_ct G v).category == 2) = mv_isL v := by
  obtain x | x | x := v <;> rfl
theorem mv_st1_m (G : mv_G) (a : Nat) (v : mv_V) (L : mv_L) : (a, mv_ct G v) :: (L.map (fun q => (q.1, mv_ct G q.2))).filter (fun q => !(q.1 == a) && !(q.1 + 1 == a && q.2.category == 2)) = (mv_st1 a v L).map (fun q => (q.1, mv_ct G q.2)) := by
  unfold mv_st1
  rw [List.map_cons, List.filter_map]
  congr 3
  funext q
  show (!(q.1 == a) && !(q.1 + 1 == a && (mv_ct G q.2).category == 2)) = _
  rw [mv_cat_e]
theorem mv_st2_m (G : mv_G) (a : Nat) (x : Int) (L : mv_L) : (a, mv_ct G (.inr (.inl x))) :: (L.map (fun q => (q.1, mv_ct G q.2))).filter (fun q => !(q.1 == a) && (!(q.1 == a + 1) && !(q.1 + 1 == a && q.2.category == 2))) = (mv_st2 a x L).map (fun q => (q.1, mv_ct G q.2)) := by
  unfold mv_st2
  rw [List.map_cons, List.filter_map]
  congr 3
  funext q
  show (!(q.1 == a) && (!(q.1 == a + 1) && !(q.1 + 1 == a && (mv_ct G q.2).category == 2))) = _
  rw [mv_cat_e]
theorem mv_st1_o {a : Nat} {v : mv_V} {L : mv_L} (hL : ∀ q ∈ L, mv_ov q.2) (hv : mv_ov v) : ∀ q ∈ mv_st1 a v L, mv_ov q.2 := by
  intro q hq
  rcases List.mem_cons.mp hq with rfl | hq
  · exact hv
  · exact hL q (List.mem_filter.mp hq).1
theorem mv_st2_o {a : Nat} {x : Int} {L : mv_L} (hL : ∀ q ∈ L, mv_ov q.2) (hv : mv_R64 x) : ∀ q ∈ mv_st2 a x L, mv_ov q.2 := by
  intro q hq
  rcases List.mem_cons.mp hq with rfl | hq
  · exact hv
  · exact hL q (List.mem_filter.mp hq).1
theorem mv_lg_o {a : Nat} {v : mv_V} {L : mv_L} (hL : ∀ q ∈ L, mv_ov q.2) (h : mv_lg a L = some v) : mv_ov v := hL _ (mv_lg_mem h)
theorem mv_stw_e (G : mv_G) (st : List mv_V) : ((st.map (mv_ct G)).map fun v => v.category).sum = mv_stw st := by
  unfold mv_stw
  rw [List.map_map]
  congr 1
  apply List.map_congr_left
  intro v _
  obtain x | x | x := v <;> rfl
/-! the world -/
theorem mv_ws_get {G : mv_G} {sh : mv_SH} {M : mv_Mem} {k : Nat} (h1 : 1 ≤ k) (h2 : k ≤ sh.1) : (mv_ws G sh M)[k - 1]? = some (mv_ad G k, mv_ce G sh M k) := by
  unfold mv_ws mv_ad
  rw [List.getElem?_map, List.getElem?_range (by omega), if_neg (by omega)]
  show some (_, mv_ce G sh M (k - 1 + 1)) = _
  rw [show k - 1 + 1 = k by omega]
theorem mv_ws_set {G : mv_G} {sh sh' : mv_SH} {M M' : mv_Mem} {k : Nat} {e : va_E} (h1 : 1 ≤ k) (h2 : k ≤ sh.1) (hs : sh'.1 = sh.1) (he : mv_ce G sh' M' k = e) (ho : ∀ j, j ≠ k → mv_ce G sh' M' j = mv_ce G sh M j) : (mv_ws G sh M).set (k - 1) (mv_ad G k, e) = mv_ws G sh' M' := by
  apply List.ext_getElem?
  intro j
  unfold mv_ws mv_ad
  rw [List.getElem?_set, hs, List.getElem?_map, List.length_map, List.length_range, if_neg (show ¬ k = 0 by omega)]
  by_cases hj : k - 1 = j
  · subst hj
    rw [if_pos rfl, if_pos (by omega), List.getElem?_map, List.getElem?_range (by omega)]
    show _ = some (_, mv_ce G sh' M' (k - 1 + 1))
    rw [show k - 1 + 1 = k by omega, he]
  · rw [if_neg hj, List.getElem?_map]
    by_cases hl : j < sh.1
    · rw [List.getElem?_range hl]
      show some (mg_a G (j + 1), mv_ce G sh M (j + 1)) = some (mg_a G (j + 1), mv_ce G sh' M' (j + 1))
      rw [ho (j + 1) (by omega)]
    · rw [List.getElem?_eq_none (by simp; omega)]
      rfl
theorem mv_ws_push {G : mv_G} {sh sh' : mv_SH} {M M' : mv_Mem} {e : va_E} (hs : sh'.1 = sh.1 + 1) (he : mv_ce G sh' M' (sh.1 + 1) = e) (ho : ∀ j, j ≠ sh.1 + 1 → mv_ce G sh' M' j = mv_ce G sh M j) : mv_ws G sh M ++ [(mg_a G (sh.1 + 1), e)] = mv_ws G sh' M' := by
  unfold mv_ws
  rw [hs, List.range_succ, List.map_append, List.map_cons, List.map_nil, he]
  congr 1
  apply List.map_congr_left
  intro j hj
  have := List.mem_range.mp hj
  rw [ho (j + 1) (by omega)]
theorem mv_ce_c {G : mv_G} {sh sh' : mv_SH} {M M' : mv_Mem} {k : Nat} (h1 : sh'.2.2.1 k = sh.2.2.1 k) (h2 : sh'.2.2.2.1 k = sh.2.2.2.1 k) (h3 : ∀ f, sh'.2.2.2.2 k f = sh.2.2.2.2 k f) (h4 : ∀ i, M' k i = M k i) : mv_ce G sh' M' k = mv_ce G sh M k := by
  unfold mv_ce
  rw [h1, h2]
  have e1 : (fun i => Int32.ofInt (M' k i)) = (fun i => Int32.ofInt (M k i)) := funext fun i => by rw [h4 i]
  have e2 : (fun i => Int64.ofInt (M' k i)) = (fun i => Int64.ofInt (M k i)) := funext fun i => by rw [h4 i]
  have e3 : mv_fv G sh' M' (sh.2.2.1 k) k = mv_fv G sh M (sh.2.2.1 k) k := funext fun f => by unfold mv_fv; rw [h3 f, h4 f]
  rw [e1, e2, e3]
theorem mv_up_ne {M : mv_Mem} {a j k : Nat} {x : Int} (h : k ≠ a) (i : Nat) : mv_up M a j x k i = M k i := by
  unfold mv_up
  rw [if_neg (fun q => h q.1)]
theorem mv_up_f {M : mv_Mem} {a j : Nat} {x : Int} (g : Int → Int32) : (fun i => g (mv_up M a j x a i)) = upd (fun i => g (M a i)) j (g x) := by
  funext i
  unfold mv_up upd
  by_cases h : i = j
  · rw [if_pos ⟨rfl, h⟩, if_pos h]
  · rw [if_neg (fun q => h q.2), if_neg h]
theorem mv_up_fl {M : mv_Mem} {a j : Nat} {x : Int} (g : Int → Int64) : (fun i => g (mv_up M a j x a i)) = vp_updL (fun i => g (M a i)) j (g x) := by
  funext i
  unfold mv_up vp_updL
  by_cases h : i = j
  · rw [if_pos ⟨rfl, h⟩, if_pos h]
  · rw [if_neg (fun q => h q.2), if_neg h]
theorem mv_nm_up {G : mv_G} {sh : mv_SH} {M : mv_Mem} {k j : Nat} {x : Int} (h : mv_Nm G sh M) (hk : 1 ≤ k) (hx : mv_R64 x ∧ (sh.2.2.1 k ≠ 101 → mv_R32 x)) : mv_Nm G sh (mv_up M k j x) := by
  obtain ⟨⟨a1, a2, a3⟩, a4, a5⟩ := h
  refine ⟨⟨a1, a2, fun i => by rw [mv_up_ne (by omega)]; exact a3 i⟩, fun k' i => ?_, a5⟩
  unfold mv_up
  split
  · rename_i hq
    rw [hq.1]
    exact hx
  · exact a4 k' i
theorem mv_R6 {x : Int} (h : mv_R32 x) : mv_R64 x := by omega
theorem mv_sz {p : Program} {l : Launch} {e : Env} {R : Room} {s : State} {m : MethodId} {args : Array Value} {below : List Frame} {meth : Method} {c : Code} {H : Heap} {locs : List Loc} {cells slots : Nat} {Q : State → Prop} {g : JFrame}
    (k : H.size ≤ s.heap.size + cells → W p l e R s m args below meth c H locs cells slots Q g) : W p l e R s m args below meth c H locs cells slots Q g := fun T hT X => k (hT ▸ X.heapSize) T hT X
theorem mv_low {G : mv_G} {sh : mv_SH} {M : mv_Mem} {H H0 : Heap} {locs : List Loc} {n0 : Nat} (hW : mv_Wd G sh M H) (hS : va_S (mg_A G) H0 H locs) (h0 : mv_hp G n0 H0.size) (hn : n0 ≤ sh.1) : H0.size + (sh.1 - n0) ≤ H.size := by
  by_cases hz : sh.1 = n0
  · have := hS.1
    omega
  · have h := (hW.1 (sh.1 - 1) _ (mv_ws_get (k := sh.1) (by omega) (Nat.le_refl _))).lt
    have e : mv_ad G sh.1 = H0.size + (sh.1 - n0 - 1) := by
      unfold mv_ad
      rw [if_neg (by omega), ← h0 (sh.1 - n0 - 1), show n0 + 1 + (sh.1 - n0 - 1) = sh.1 by omega]
    have h' : mv_ad G sh.1 < H.size := h
    omega
theorem mv_hA {G : mv_G} {n z q : Nat} (h0 : mv_hp G n z) (h : z ≤ q) : mg_A G q := ⟨n + 1 + (q - z), by omega, by rw [h0]; omega⟩
theorem mw_0 : ∀ w ∈ u_ws RX0 TX0 13, w ∈ mv_tbl := by
  have h : (u_ws RX0 TX0 13).all (fun w => decide (w ∈ lw_tbl) && mv_gd w) = true := by decide +kernel
  intro w hw
  have h1 := List.all_eq_true.mp h w hw
  simp only [Bool.and_eq_true, decide_eq_true_eq] at h1
  exact List.mem_filter.mpr h1
theorem mw_1 : ∀ w ∈ u_ws RX1 TX1 8, w ∈ mv_tbl := by
  have h : (u_ws RX1 TX1 8).all (fun w => decide (w ∈ lw_tbl) && mv_gd w) = true := by decide +kernel
  intro w hw
  have h1 := List.all_eq_true.mp h w hw
  simp only [Bool.and_eq_true, decide_eq_true_eq] at h1
  exact List.mem_filter.mpr h1
theorem mw_2 : ∀ w ∈ u_ws RX2 TX2 5, w ∈ mv_tbl := by
  have h : (u_ws RX2 TX2 5).all (fun w => decide (w ∈ lw_tbl) && mv_gd w) = true := by decide +kernel
  intro w hw
  have h1 := List.all_eq_true.mp h w hw
  simp only [Bool.and_eq_true, decide_eq_true_eq] at h1
  exact List.mem_filter.mpr h1
theorem mw_3 : ∀ w ∈ u_ws RX3 TX3 9, w ∈ mv_tbl := by
  have h : (u_ws RX3 TX3 9).all (fun w => decide (w ∈ lw_tbl) && mv_gd w) = true := by decide +kernel
  intro w hw
  have h1 := List.all_eq_true.mp h w hw
  simp only [Bool.and_eq_true, decide_eq_true_eq] at h1
  exact List.mem_filter.mpr h1
theorem mw_4 : ∀ w ∈ u_ws RX4 TX4 2, w ∈ mv_tbl := by
  have h : (u_ws RX4 TX4 2).all (fun w => decide (w ∈ lw_tbl) && mv_gd w) = true := by decide +kernel
  intro w hw
  have h1 := List.all_eq_true.mp h w hw
  simp only [Bool.and_eq_true, decide_eq_true_eq] at h1
  exact List.mem_filter.mpr h1
theorem mw_5 : ∀ w ∈ u_ws RX5 TX5 2, w ∈ mv_tbl := by
  have h : (u_ws RX5 TX5 2).all (fun w => decide (w ∈ lw_tbl) && mv_gd w) = true := by decide +kernel
  intro w hw
  have h1 := List.all_eq_true.mp h w hw
  simp only [Bool.and_eq_true, decide_eq_true_eq] at h1
  exact List.mem_filter.mpr h1
theorem mw_6 : ∀ w ∈ u_ws RX6 TX6 4, w ∈ mv_tbl := by
  have h : (u_ws RX6 TX6 4).all (fun w => decide (w ∈ lw_tbl) && mv_gd w) = true := by decide +kernel
  intro w hw
  have h1 := List.all_eq_true.mp h w hw
  simp only [Bool.and_eq_true, decide_eq_true_eq] at h1
  exact List.mem_filter.mpr h1
theorem mw_7 : ∀ w ∈ u_ws RX7 TX7 14, w ∈ mv_tbl := by
  have h : (u_ws RX7 TX7 14).all (fun w => decide (w ∈ lw_tbl) && mv_gd w) = true := by decide +kernel
  intro w hw
  have h1 := List.all_eq_true.mp h w hw
  simp only [Bool.and_eq_true, decide_eq_true_eq] at h1
  exact List.mem_filter.mpr h1
theorem mw_8 : ∀ w ∈ u_ws RX8 TX8 6, w ∈ mv_tbl := by
  have h : (u_ws RX8 TX8 6).all (fun w => decide (w ∈ lw_tbl) && mv_gd w) = true := by decide +kernel
  intro w hw
  have h1 := List.all_eq_true.mp h w hw
  simp only [Bool.and_eq_true, decide_eq_true_eq] at h1
  exact List.mem_filter.mpr h1
theorem mw_9 : ∀ w ∈ u_ws RX9 TX9 1, w ∈ mv_tbl := by
  have h : (u_ws RX9 TX9 1).all (fun w => decide (w ∈ lw_tbl) && mv_gd w) = true := by decide +kernel
  intro w hw
  have h1 := List.all_eq_true.mp h w hw
  simp only [Bool.and_eq_true, decide_eq_true_eq] at h1
  exact List.mem_filter.mpr h1
theorem mw_10 : ∀ w ∈ u_ws RX10 TX10 3, w ∈ mv_tbl := by
  have h : (u_ws RX10 TX10 3).all (fun w => decide (w ∈ lw_tbl) && mv_gd w) = true := by decide +kernel
  intro w hw
  have h1 := List.all_eq_true.mp h w hw
  simp only [Bool.and_eq_true, decide_eq_true_eq] at h1
  exact List.mem_filter.mpr h1
theorem mw_11 : ∀ w ∈ u_ws RX11 TX11 13, w ∈ mv_tbl := by
  have h : (u_ws RX11 TX11 13).all (fun w => decide (w ∈ lw_tbl) && mv_gd w) = true := by decide +kernel
  intro w hw
  have h1 := List.all_eq_true.mp h w hw
  simp only [Bool.and_eq_true, decide_eq_true_eq] at h1
  exact List.mem_filter.mpr h1
/-- the class table's facts, by its places -/
theorem mv_cls {ci N : Nat} {C : String} {T : u_T} (h : vwCl[ci]? = some (C, T, N)) : (∀ w ∈ u_ws C T N, w ∈ mv_tbl) ∧ (∀ k, k < N → parseFieldDescriptor (T k).2.2.1 = some (mv_ty ci k)) ∧ (∀ a, a < N → ∀ b, b < N → a ≠ b → (T a).2.1 ≠ (T b).2.1) ∧ mv_nf ci = N ∧ ci < 100 := by
  have hl : ci < 12 := (List.getElem?_eq_some_iff.mp h).1
  match ci, hl, h with
  | 0, _, h => cases h; exact ⟨mw_0, tyX0_ok, nmX0, rfl, by omega⟩
  | 1, _, h => cases h; exact ⟨mw_1, tyX1_ok, nmX1, rfl, by omega⟩
  | 2, _, h => cases h; exact ⟨mw_2, tyX2_ok, nmX2, rfl, by omega⟩
  | 3, _, h => cases h; exact ⟨mw_3, tyX3_ok, nmX3, rfl, by omega⟩
  | 4, _, h => cases h; exact ⟨mw_4, tyX4_ok, nmX4, rfl, by omega⟩
  | 5, _, h => cases h; exact ⟨mw_5, tyX5_ok, nmX5, rfl, by omega⟩
  | 6, _, h => cases h; exact ⟨mw_6, tyX6_ok, nmX6, rfl, by omega⟩
  | 7, _, h => cases h; exact ⟨mw_7, tyX7_ok, nmX7, rfl, by omega⟩
  | 8, _, h => cases h; exact ⟨mw_8, tyX8_ok, nmX8, rfl, by omega⟩
  | 9, _, h => cases h; exact ⟨mw_9, tyX9_ok, nmX9, rfl, by omega⟩
  | 10, _, h => cases h; exact ⟨mw_10, tyX10_ok, nmX10, rfl, by omega⟩
  | 11, _, h => cases h; exact ⟨mw_11, tyX11_ok, nmX11, rfl, by omega⟩
  | n + 12, hl, _ => omega
end
section
theorem mv_if_s {c : Prop} [Decidable c] {A : Prop} (h : if c then A else False) : c ∧ A := by
  by_cases q : c
  · rw [if_pos q] at h; exact ⟨q, h⟩
  · rw [if_neg q] at h; exact h.elim
/-! ONE INSTRUCTION OF THE SMALL MACHINE, BY THE KIT'S ROW (by program: wip/whole/stepgen.py) -/
section MS
variable {G : mv_G} {mi n0 s0 : Nat} {post : Option mv_V → mv_SH → mv_Mem → Prop} {pc a b c : Nat} {v : Int} {ts : List Nat} {L : mv_L} {st : List mv_V} {sh : mv_SH} {M : mv_Mem}
variable {NX : mv_L → List mv_V → mv_SH → mv_Mem → Prop} {JP : Nat → mv_L → List mv_V → mv_SH → mv_Mem → Prop}
abbrev mv_RN (G : mv_G) (mi n0 s0 pc : Nat) (post : Option mv_V → mv_SH → mv_Mem → Prop) (NX : mv_L → List mv_V → mv_SH → mv_Mem → Prop) : Prop := ∀ L st sh M, NX L st sh M → mv_Run G mi n0 s0 pc L st sh M post
theorem ms_iadd (hd : decode (mt_cc (mv_r mi)) pc = .ok (.iadd, 1)) (hn : mv_RN G mi n0 s0 (pc + 1) post NX)
    (hb : mv_pi st fun y r => mv_pi r fun x r => mv_R32 (x + y) ∧ NX L (.inl (x + y) :: r) sh M) : mv_Run G mi n0 s0 pc L st sh M post := by
  obtain ⟨y, r, rfl, hb1⟩ := mv_pi_s hb
  obtain ⟨x, r, rfl, hb2⟩ := mv_pi_s hb1
  obtain ⟨hR, hb2⟩ := hb2
  intro p e s m args below meth cx H locs ls C hl hL hS hW hV hn0 hs0
  obtain ⟨hx, hcb, hml, hown, hts, hrt, hlk, hnm, hsz, hX, hbo, hK⟩ := id C
  have K := hn _ _ _ _ hb2 p e s m args below meth cx H locs ls C hl hL (List.forall_mem_cons.mpr ⟨hR, (List.forall_mem_cons.mp (List.forall_mem_cons.mp hS).2).2⟩) hW hV hn0 hs0
  refine lv_iadd hx hcb hd ?_
  rw [← Int32.ofInt_add]
  exact K
theorem ms_ladd (hd : decode (mt_cc (mv_r mi)) pc = .ok (.ladd, 1)) (hn : mv_RN G mi n0 s0 (pc + 1) post NX)
    (hb : mv_pl st fun y r => mv_pl r fun x r => mv_R64 (x + y) ∧ NX L (.inr (.inl (x + y)) :: r) sh M) : mv_Run G mi n0 s0 pc L st sh M post := by
  obtain ⟨y, r, rfl, hb1⟩ := mv_pl_s hb
  obtain ⟨x, r, rfl, hb2⟩ := mv_pl_s hb1
  obtain ⟨hR, hb2⟩ := hb2
  intro p e s m args below meth cx H locs ls C hl hL hS hW hV hn0 hs0
  obtain ⟨hx, hcb, hml, hown, hts, hrt, hlk, hnm, hsz, hX, hbo, hK⟩ := id C
  have K := hn _ _ _ _ hb2 p e s m args below meth cx H locs ls C hl hL (List.forall_mem_cons.mpr ⟨hR, (List.forall_mem_cons.mp (List.forall_mem_cons.mp hS).2).2⟩) hW hV hn0 hs0
  refine lv_ladd hx hcb hd ?_
  rw [← Int64.ofInt_add]
  exact K
theorem ms_isub (hd : decode (mt_cc (mv_r mi)) pc = .ok (.isub, 1)) (hn : mv_RN G mi n0 s0 (pc + 1) post NX)
    (hb : mv_pi st fun y r => mv_pi r fun x r => mv_R32 (x - y) ∧ NX L (.inl (x - y) :: r) sh M) : mv_Run G mi n0 s0 pc L st sh M post := by
  obtain ⟨y, r, rfl, hb1⟩ := mv_pi_s hb
  obtain ⟨x, r, rfl, hb2⟩ := mv_pi_s hb1
  obtain ⟨hR, hb2⟩ := hb2
  intro p e s m args below meth cx H locs ls C hl hL hS hW hV hn0 hs0
  obtain ⟨hx, hcb, hml, hown, hts, hrt, hlk, hnm, hsz, hX, hbo, hK⟩ := id C
  have K := hn _ _ _ _ hb2 p e s m args below meth cx H locs ls C hl hL (List.forall_mem_cons.mpr ⟨hR, (List.forall_mem_cons.mp (List.forall_mem_cons.mp hS).2).2⟩) hW hV hn0 hs0
  refine lv_isub hx hcb hd ?_
  rw [← Int32.ofInt_sub]
  exact K
theorem ms_lsub (hd : decode (mt_cc (mv_r mi)) pc = .ok (.lsub, 1)) (hn : mv_RN G mi n0 s0 (pc + 1) post NX)
    (hb : mv_pl st fun y r => mv_pl r fun x r => mv_R64 (x - y) ∧ NX L (.inr (.inl (x - y)) :: r) sh M) : mv_Run G mi n0 s0 pc L st sh M post := by
  obtain ⟨y, r, rfl, hb1⟩ := mv_pl_s hb
  obtain ⟨x, r, rfl, hb2⟩ := mv_pl_s hb1
  obtain ⟨hR, hb2⟩ := hb2
  intro p e s m args below meth cx H locs ls C hl hL hS hW hV hn0 hs0
  obtain ⟨hx, hcb, hml, hown, hts, hrt, hlk, hnm, hsz, hX, hbo, hK⟩ := id C
  have K := hn _ _ _ _ hb2 p e s m args below meth cx H locs ls C hl hL (List.forall_mem_cons.mpr ⟨hR, (List.forall_mem_cons.mp (List.forall_mem_cons.mp hS).2).2⟩) hW hV hn0 hs0
  refine lv_lsub hx hcb hd ?_
  rw [← Int64.ofInt_sub]
  exact K
theorem ms_imul (hd : decode (mt_cc (mv_r mi)) pc = .ok (.imul, 1)) (hn : mv_RN G mi n0 s0 (pc + 1) post NX)
    (hb : mv_pi st fun y r => mv_pi r fun x r => mv_R32 (x * y) ∧ NX L (.inl (x * y) :: r) sh M) : mv_Run G mi n0 s0 pc L st sh M post := by
  obtain ⟨y, r, rfl, hb1⟩ := mv_pi_s hb
  obtain ⟨x, r, rfl, hb2⟩ := mv_pi_s hb1
  obtain ⟨hR, hb2⟩ := hb2
  intro p e s m args below meth cx H locs ls C hl hL hS hW hV hn0 hs0
  obtain ⟨hx, hcb, hml, hown, hts, hrt, hlk, hnm, hsz, hX, hbo, hK⟩ := id C
  have K := hn _ _ _ _ hb2 p e s m args below meth cx H locs ls C hl hL (List.forall_mem_cons.mpr ⟨hR, (List.forall_mem_cons.mp (List.forall_mem_cons.mp hS).2).2⟩) hW hV hn0 hs0
  refine lv_imul hx hcb hd ?_
  rw [← Int32.ofInt_mul]
  exact K
theorem ms_lmul (hd : decode (mt_cc (mv_r mi)) pc = .ok (.lmul, 1)) (hn : mv_RN G mi n0 s0 (pc + 1) post NX)
    (hb : mv_pl st fun y r => mv_pl r fun x r => mv_R64 (x * y) ∧ NX L (.inr (.inl (x * y)) :: r) sh M) : mv_Run G mi n0 s0 pc L st sh M post := by
  obtain ⟨y, r, rfl, hb1⟩ := mv_pl_s hb
  obtain ⟨x, r, rfl, hb2⟩ := mv_pl_s hb1
  obtain ⟨hR, hb2⟩ := hb2
  intro p e s m args below meth cx H locs ls C hl hL hS hW hV hn0 hs0
  obtain ⟨hx, hcb, hml, hown, hts, hrt, hlk, hnm, hsz, hX, hbo, hK⟩ := id C
  have K := hn _ _ _ _ hb2 p e s m args below meth cx H locs ls C hl hL (List.forall_mem_cons.mpr ⟨hR, (List.forall_mem_cons.mp (List.forall_mem_cons.mp hS).2).2⟩) hW hV hn0 hs0
  refine lv_lmul hx hcb hd ?_
  rw [← Int64.ofInt_mul]
  exact K
theorem mv_dv32 {x y : Int} (hx : mv_R32 x) (hy : mv_R32 y) : Int32.ofInt x / Int32.ofInt y = Int32.ofInt (x.tdiv y) := by
  have e1 : Int32.minValue.toInt = -2147483648 := by decide
  have e2 : Int32.maxValue.toInt = 2147483648 - 1 := by decide
  exact (Int32.ofInt_tdiv (by omega) (by omega) (by omega) (by omega)).symm
theorem mv_md32 {x y : Int} (hx : mv_R32 x) (hy : mv_R32 y) : Int32.ofInt x - Int32.ofInt x / Int32.ofInt y * Int32.ofInt y = Int32.ofInt (x.tmod y) := by
  rw [mv_dv32 hx hy, ← Int32.ofInt_mul, ← Int32.ofInt_sub, Int.tmod_def, Int.mul_comm]
theorem mv_nz32 {y : Int} (hy : mv_R32 y) (h : ¬ y = 0) : ¬ Int32.ofInt y = 0 := by
  intro q
  exact h ((mv_e32 hy mv_z32).mp q)
theorem ms_idiv (hd : decode (mt_cc (mv_r mi)) pc = .ok (.idiv, 1)) (hn : mv_RN G mi n0 s0 (pc + 1) post NX)
    (hb : mv_pi st fun y r => mv_pi r fun x r => (¬ y = 0 ∧ mv_R32 (x.tdiv y)) ∧ NX L (.inl (x.tdiv y) :: r) sh M) : mv_Run G mi n0 s0 pc L st sh M post := by
  obtain ⟨y, r, rfl, hb1⟩ := mv_pi_s hb
  obtain ⟨x, r, rfl, hb2⟩ := mv_pi_s hb1
  obtain ⟨⟨hz, hR⟩, hb2⟩ := hb2
  intro p e s m args below meth cx H locs ls C hl hL hS hW hV hn0 hs0
  obtain ⟨hx, hcb, hml, hown, hts, hrt, hlk, hnm, hsz, hX, hbo, hK⟩ := id C
  have hy := (List.forall_mem_cons.mp hS).1
  have hx2 := (List.forall_mem_cons.mp (List.forall_mem_cons.mp hS).2).1
  have K := hn _ _ _ _ hb2 p e s m args below meth cx H locs ls C hl hL (List.forall_mem_cons.mpr ⟨hR, (List.forall_mem_cons.mp (List.forall_mem_cons.mp hS).2).2⟩) hW hV hn0 hs0
  refine lv_idiv hx hcb hd (mv_nz32 hy hz) ?_
  rw [mv_dv32 hx2 hy]
  exact K
theorem ms_irem (hd : decode (mt_cc (mv_r mi)) pc = .ok (.irem, 1)) (hn : mv_RN G mi n0 s0 (pc + 1) post NX)
    (hb : mv_pi st fun y r => mv_pi r fun x r => ¬ y = 0 ∧ NX L (.inl (x.tmod y) :: r) sh M) : mv_Run G mi n0 s0 pc L st sh M post := by
  obtain ⟨y, r, rfl, hb1⟩ := mv_pi_s hb
  obtain ⟨x, r, rfl, hb2⟩ := mv_pi_s hb1
  obtain ⟨hz, hb2⟩ := hb2
  intro p e s m args below meth cx H locs ls C hl hL hS hW hV hn0 hs0
  obtain ⟨hx, hcb, hml, hown, hts, hrt, hlk, hnm, hsz, hX, hbo, hK⟩ := id C
  have hy := (List.forall_mem_cons.mp hS).1
  have hx2 := (List.forall_mem_cons.mp (List.forall_mem_cons.mp hS).2).1
  have hR : mv_R32 (x.tmod y) := by
    have h0 : mv_R32 x := hx2
    have h1 : (x.tmod y).natAbs ≤ x.natAbs := by
      rw [Int.natAbs_tmod]
      exact Nat.mod_le _ _
    have h2 : 0 ≤ x → 0 ≤ x.tmod y := fun h => Int.tmod_nonneg y h
    have h3 : x.tmod y = -((-x).tmod y) := by rw [Int.neg_tmod, Int.neg_neg]
    have h4 : x ≤ 0 → 0 ≤ (-x).tmod y := fun h => Int.tmod_nonneg y (by omega)
    constructor <;> omega
  have K := hn _ _ _ _ hb2 p e s m args below meth cx H locs ls C hl hL (List.forall_mem_cons.mpr ⟨hR, (List.forall_mem_cons.mp (List.forall_mem_cons.mp hS).2).2⟩) hW hV hn0 hs0
  refine lv_irem hx hcb hd (mv_nz32 hy hz) ?_
  rw [mv_md32 hx2 hy]
  exact K
theorem ms_ineg (hd : decode (mt_cc (mv_r mi)) pc = .ok (.ineg, 1)) (hn : mv_RN G mi n0 s0 (pc + 1) post NX)
    (hb : mv_pi st fun x r => mv_R32 (-x) ∧ NX L (.inl (-x) :: r) sh M) : mv_Run G mi n0 s0 pc L st sh M post := by
  obtain ⟨x, r, rfl, hb1⟩ := mv_pi_s hb
  obtain ⟨hR, hb1⟩ := hb1
  intro p e s m args below meth cx H locs ls C hl hL hS hW hV hn0 hs0
  obtain ⟨hx, hcb, hml, hown, hts, hrt, hlk, hnm, hsz, hX, hbo, hK⟩ := id C
  have K := hn _ _ _ _ hb1 p e s m args below meth cx H locs ls C hl hL (List.forall_mem_cons.mpr ⟨hR, (List.forall_mem_cons.mp hS).2⟩) hW hV hn0 hs0
  refine lv_ineg hx hcb hd ?_
  rw [← Int32.ofInt_neg]
  exact K
theorem mv_dv64 {x y : Int} (hx : mv_R64 x) (hy : mv_R64 y) : Int64.ofInt x / Int64.ofInt y = Int64.ofInt (x.tdiv y) := by
  have e1 : Int64.minValue.toInt = -9223372036854775808 := by decide
  have e2 : Int64.maxValue.toInt = 9223372036854775808 - 1 := by decide
  exact (Int64.ofInt_tdiv (by omega) (by omega) (by omega) (by omega)).symm
theorem mv_md64 {x y : Int} (hx : mv_R64 x) (hy : mv_R64 y) : Int64.ofInt x - Int64.ofInt x / Int64.ofInt y * Int64.ofInt y = Int64.ofInt (x.tmod y) := by
  rw [mv_dv64 hx hy, ← Int64.ofInt_mul, ← Int64.ofInt_sub, Int.tmod_def, Int.mul_comm]
theorem mv_nz64 {y : Int} (hy : mv_R64 y) (h : ¬ y = 0) : ¬ Int64.ofInt y = 0 := by
  intro q
  exact h ((mv_e64 hy mv_z64).mp q)
theorem ms_ldiv (hd : decode (mt_cc (mv_r mi)) pc = .ok (.ldiv, 1)) (hn : mv_RN G mi n0 s0 (pc + 1) post NX)
    (hb : mv_pl st fun y r => mv_pl r fun x r => (¬ y = 0 ∧ mv_R64 (x.tdiv y)) ∧ NX L (.inr (.inl (x.tdiv y)) :: r) sh M) : mv_Run G mi n0 s0 pc L st sh M post := by
  obtain ⟨y, r, rfl, hb1⟩ := mv_pl_s hb
  obtain ⟨x, r, rfl, hb2⟩ := mv_pl_s hb1
  obtain ⟨⟨hz, hR⟩, hb2⟩ := hb2
  intro p e s m args below meth cx H locs ls C hl hL hS hW hV hn0 hs0
  obtain ⟨hx, hcb, hml, hown, hts, hrt, hlk, hnm, hsz, hX, hbo, hK⟩ := id C
  have hy := (List.forall_mem_cons.mp hS).1
  have hx2 := (List.forall_mem_cons.mp (List.forall_mem_cons.mp hS).2).1
  have K := hn _ _ _ _ hb2 p e s m args below meth cx H locs ls C hl hL (List.forall_mem_cons.mpr ⟨hR, (List.forall_mem_cons.mp (List.forall_mem_cons.mp hS).2).2⟩) hW hV hn0 hs0
  refine lv_ldiv hx hcb hd (mv_nz64 hy hz) ?_
  rw [mv_dv64 hx2 hy]
  exact K
theorem ms_lrem (hd : decode (mt_cc (mv_r mi)) pc = .ok (.lrem, 1)) (hn : mv_RN G mi n0 s0 (pc + 1) post NX)
    (hb : mv_pl st fun y r => mv_pl r fun x r => ¬ y = 0 ∧ NX L (.inr (.inl (x.tmod y)) :: r) sh M) : mv_Run G mi n0 s0 pc L st sh M post := by
  obtain ⟨y, r, rfl, hb1⟩ := mv_pl_s hb
  obtain ⟨x, r, rfl, hb2⟩ := mv_pl_s hb1
  obtain ⟨hz, hb2⟩ := hb2
  intro p e s m args below meth cx H locs ls C hl hL hS hW hV hn0 hs0
  obtain ⟨hx, hcb, hml, hown, hts, hrt, hlk, hnm, hsz, hX, hbo, hK⟩ := id C
  have hy := (List.forall_mem_cons.mp hS).1
  have hx2 := (List.forall_mem_cons.mp (List.forall_mem_cons.mp hS).2).1
  have hR : mv_R64 (x.tmod y) := by
    have h0 : mv_R64 x := hx2
    have h1 : (x.tmod y).natAbs ≤ x.natAbs := by
      rw [Int.natAbs_tmod]
      exact Nat.mod_le _ _
    have h2 : 0 ≤ x → 0 ≤ x.tmod y := fun h => Int.tmod_nonneg y h
    have h3 : x.tmod y = -((-x).tmod y) := by rw [Int.neg_tmod, Int.neg_neg]
    have h4 : x ≤ 0 → 0 ≤ (-x).tmod y := fun h => Int.tmod_nonneg y (by omega)
    constructor <;> omega
  have K := hn _ _ _ _ hb2 p e s m args below meth cx H locs ls C hl hL (List.forall_mem_cons.mpr ⟨hR, (List.forall_mem_cons.mp (List.forall_mem_cons.mp hS).2).2⟩) hW hV hn0 hs0
  refine lv_lrem hx hcb hd (mv_nz64 hy hz) ?_
  rw [mv_md64 hx2 hy]
  exact K
theorem ms_lneg (hd : decode (mt_cc (mv_r mi)) pc = .ok (.lneg, 1)) (hn : mv_RN G mi n0 s0 (pc + 1) post NX)
    (hb : mv_pl st fun x r => mv_R64 (-x) ∧ NX L (.inr (.inl (-x)) :: r) sh M) : mv_Run G mi n0 s0 pc L st sh M post := by
  obtain ⟨x, r, rfl, hb1⟩ := mv_pl_s hb
  obtain ⟨hR, hb1⟩ := hb1
  intro p e s m args below meth cx H locs ls C hl hL hS hW hV hn0 hs0
  obtain ⟨hx, hcb, hml, hown, hts, hrt, hlk, hnm, hsz, hX, hbo, hK⟩ := id C
  have K := hn _ _ _ _ hb1 p e s m args below meth cx H locs ls C hl hL (List.forall_mem_cons.mpr ⟨hR, (List.forall_mem_cons.mp hS).2⟩) hW hV hn0 hs0
  refine lv_lneg hx hcb hd ?_
  rw [← Int64.ofInt_neg]
  exact K
theorem ms_iand (hd : decode (mt_cc (mv_r mi)) pc = .ok (.iand, 1)) (hn : mv_RN G mi n0 s0 (pc + 1) post NX)
    (hb : mv_pi st fun y r => mv_pi r fun x r => NX L (.inl (mv_and x y) :: r) sh M) : mv_Run G mi n0 s0 pc L st sh M post := by
  obtain ⟨y, r, rfl, hb1⟩ := mv_pi_s hb
  obtain ⟨x, r, rfl, hb2⟩ := mv_pi_s hb1
  intro p e s m args below meth cx H locs ls C hl hL hS hW hV hn0 hs0
  obtain ⟨hx, hcb, hml, hown, hts, hrt, hlk, hnm, hsz, hX, hbo, hK⟩ := id C
  have K := hn _ _ _ _ hb2 p e s m args below meth cx H locs ls C hl hL (List.forall_mem_cons.mpr ⟨mv_r32 _, (List.forall_mem_cons.mp (List.forall_mem_cons.mp hS).2).2⟩) hW hV hn0 hs0
  refine lv_iand hx hcb hd ?_
  have E : mv_ct G (.inl (mv_and x y)) = .int _ := congrArg Value.int (Int32.ofInt_toInt _)
  rw [List.map_cons, E] at K
  exact K
theorem ms_ixor (hd : decode (mt_cc (mv_r mi)) pc = .ok (.ixor, 1)) (hn : mv_RN G mi n0 s0 (pc + 1) post NX)
    (hb : mv_pi st fun y r => mv_pi r fun x r => NX L (.inl (mv_xor x y) :: r) sh M) : mv_Run G mi n0 s0 pc L st sh M post := by
  obtain ⟨y, r, rfl, hb1⟩ := mv_pi_s hb
  obtain ⟨x, r, rfl, hb2⟩ := mv_pi_s hb1
  intro p e s m args below meth cx H locs ls C hl hL hS hW hV hn0 hs0
  obtain ⟨hx, hcb, hml, hown, hts, hrt, hlk, hnm, hsz, hX, hbo, hK⟩ := id C
  have K := hn _ _ _ _ hb2 p e s m args below meth cx H locs ls C hl hL (List.forall_mem_cons.mpr ⟨mv_r32 _, (List.forall_mem_cons.mp (List.forall_mem_cons.mp hS).2).2⟩) hW hV hn0 hs0
  refine lv_ixor hx hcb hd ?_
  have E : mv_ct G (.inl (mv_xor x y)) = .int _ := congrArg Value.int (Int32.ofInt_toInt _)
  rw [List.map_cons, E] at K
  exact K
theorem ms_ishl (hd : decode (mt_cc (mv_r mi)) pc = .ok (.ishl, 1)) (hn : mv_RN G mi n0 s0 (pc + 1) post NX)
    (hb : mv_pi st fun y r => mv_pi r fun x r => NX L (.inl (mv_shl x y) :: r) sh M) : mv_Run G mi n0 s0 pc L st sh M post := by
  obtain ⟨y, r, rfl, hb1⟩ := mv_pi_s hb
  obtain ⟨x, r, rfl, hb2⟩ := mv_pi_s hb1
  intro p e s m args below meth cx H locs ls C hl hL hS hW hV hn0 hs0
  obtain ⟨hx, hcb, hml, hown, hts, hrt, hlk, hnm, hsz, hX, hbo, hK⟩ := id C
  have K := hn _ _ _ _ hb2 p e s m args below meth cx H locs ls C hl hL (List.forall_mem_cons.mpr ⟨mv_r32 _, (List.forall_mem_cons.mp (List.forall_mem_cons.mp hS).2).2⟩) hW hV hn0 hs0
  refine lv_ishl hx hcb hd ?_
  have E : mv_ct G (.inl (mv_shl x y)) = .int _ := congrArg Value.int (Int32.ofInt_toInt _)
  rw [List.map_cons, E] at K
  exact K
theorem ms_ishr (hd : decode (mt_cc (mv_r mi)) pc = .ok (.ishr, 1)) (hn : mv_RN G mi n0 s0 (pc + 1) post NX)
    (hb : mv_pi st fun y r => mv_pi r fun x r => NX L (.inl (mv_shr x y) :: r) sh M) : mv_Run G mi n0 s0 pc L st sh M post := by
  obtain ⟨y, r, rfl, hb1⟩ := mv_pi_s hb
  obtain ⟨x, r, rfl, hb2⟩ := mv_pi_s hb1
  intro p e s m args below meth cx H locs ls C hl hL hS hW hV hn0 hs0
  obtain ⟨hx, hcb, hml, hown, hts, hrt, hlk, hnm, hsz, hX, hbo, hK⟩ := id C
  have K := hn _ _ _ _ hb2 p e s m args below meth cx H locs ls C hl hL (List.forall_mem_cons.mpr ⟨mv_r32 _, (List.forall_mem_cons.mp (List.forall_mem_cons.mp hS).2).2⟩) hW hV hn0 hs0
  refine lv_ishr hx hcb hd ?_
  have E : mv_ct G (.inl (mv_shr x y)) = .int _ := congrArg Value.int (Int32.ofInt_toInt _)
  rw [List.map_cons, E] at K
  exact K
theorem ms_land (hd : decode (mt_cc (mv_r mi)) pc = .ok (.land, 1)) (hn : mv_RN G mi n0 s0 (pc + 1) post NX)
    (hb : mv_pl st fun y r => mv_pl r fun x r => NX L (.inr (.inl (mv_land x y)) :: r) sh M) : mv_Run G mi n0 s0 pc L st sh M post := by
  obtain ⟨y, r, rfl, hb1⟩ := mv_pl_s hb
  obtain ⟨x, r, rfl, hb2⟩ := mv_pl_s hb1
  intro p e s m args below meth cx H locs ls C hl hL hS hW hV hn0 hs0
  obtain ⟨hx, hcb, hml, hown, hts, hrt, hlk, hnm, hsz, hX, hbo, hK⟩ := id C
  have K := hn _ _ _ _ hb2 p e s m args below meth cx H locs ls C hl hL (List.forall_mem_cons.mpr ⟨mv_r64 _, (List.forall_mem_cons.mp (List.forall_mem_cons.mp hS).2).2⟩) hW hV hn0 hs0
  refine lv_land hx hcb hd ?_
  have E : mv_ct G (.inr (.inl (mv_land x y))) = .long _ := congrArg Value.long (Int64.ofInt_toInt _)
  rw [List.map_cons, E] at K
  exact K
theorem ms_lor (hd : decode (mt_cc (mv_r mi)) pc = .ok (.lor, 1)) (hn : mv_RN G mi n0 s0 (pc + 1) post NX)
    (hb : mv_pl st fun y r => mv_pl r fun x r => NX L (.inr (.inl (mv_lor x y)) :: r) sh M) : mv_Run G mi n0 s0 pc L st sh M post := by
  obtain ⟨y, r, rfl, hb1⟩ := mv_pl_s hb
  obtain ⟨x, r, rfl, hb2⟩ := mv_pl_s hb1
  intro p e s m args below meth cx H locs ls C hl hL hS hW hV hn0 hs0
  obtain ⟨hx, hcb, hml, hown, hts, hrt, hlk, hnm, hsz, hX, hbo, hK⟩ := id C
  have K := hn _ _ _ _ hb2 p e s m args below meth cx H locs ls C hl hL (List.forall_mem_cons.mpr ⟨mv_r64 _, (List.forall_mem_cons.mp (List.forall_mem_cons.mp hS).2).2⟩) hW hV hn0 hs0
  refine lv_lor hx hcb hd ?_
  have E : mv_ct G (.inr (.inl (mv_lor x y))) = .long _ := congrArg Value.long (Int64.ofInt_toInt _)
  rw [List.map_cons, E] at K
  exact K
theorem ms_lxor (hd : decode (mt_cc (mv_r mi)) pc = .ok (.lxor, 1)) (hn : mv_RN G mi n0 s0 (pc + 1) post NX)
    (hb : mv_pl st fun y r => mv_pl r fun x r => NX L (.inr (.inl (mv_lxor x y)) :: r) sh M) : mv_Run G mi n0 s0 pc L st sh M post := by
  obtain ⟨y, r, rfl, hb1⟩ := mv_pl_s hb
  obtain ⟨x, r, rfl, hb2⟩ := mv_pl_s hb1
  intro p e s m args below meth cx H locs ls C hl hL hS hW hV hn0 hs0
  obtain ⟨hx, hcb, hml, hown, hts, hrt, hlk, hnm, hsz, hX, hbo, hK⟩ := id C
  have K := hn _ _ _ _ hb2 p e s m args below meth cx H locs ls C hl hL (List.forall_mem_cons.mpr ⟨mv_r64 _, (List.forall_mem_cons.mp (List.forall_mem_cons.mp hS).2).2⟩) hW hV hn0 hs0
  refine lv_lxor hx hcb hd ?_
  have E : mv_ct G (.inr (.inl (mv_lxor x y))) = .long _ := congrArg Value.long (Int64.ofInt_toInt _)
  rw [List.map_cons, E] at K
  exact K
theorem ms_lshl (hd : decode (mt_cc (mv_r mi)) pc = .ok (.lshl, 1)) (hn : mv_RN G mi n0 s0 (pc + 1) post NX)
    (hb : mv_pi st fun y r => mv_pl r fun x r => NX L (.inr (.inl (mv_lshl x y)) :: r) sh M) : mv_Run G mi n0 s0 pc L st sh M post := by
  obtain ⟨y, r, rfl, hb1⟩ := mv_pi_s hb
  obtain ⟨x, r, rfl, hb2⟩ := mv_pl_s hb1
  intro p e s m args below meth cx H locs ls C hl hL hS hW hV hn0 hs0
  obtain ⟨hx, hcb, hml, hown, hts, hrt, hlk, hnm, hsz, hX, hbo, hK⟩ := id C
  have K := hn _ _ _ _ hb2 p e s m args below meth cx H locs ls C hl hL (List.forall_mem_cons.mpr ⟨mv_r64 _, (List.forall_mem_cons.mp (List.forall_mem_cons.mp hS).2).2⟩) hW hV hn0 hs0
  refine lv_lshl hx hcb hd rfl ?_
  have E : mv_ct G (.inr (.inl (mv_lshl x y))) = .long _ := congrArg Value.long (Int64.ofInt_toInt _)
  rw [List.map_cons, E] at K
  exact K
theorem ms_lshr (hd : decode (mt_cc (mv_r mi)) pc = .ok (.lshr, 1)) (hn : mv_RN G mi n0 s0 (pc + 1) post NX)
    (hb : mv_pi st fun y r => mv_pl r fun x r => NX L (.inr (.inl (mv_lshr x y)) :: r) sh M) : mv_Run G mi n0 s0 pc L st sh M post := by
  obtain ⟨y, r, rfl, hb1⟩ := mv_pi_s hb
  obtain ⟨x, r, rfl, hb2⟩ := mv_pl_s hb1
  intro p e s m args below meth cx H locs ls C hl hL hS hW hV hn0 hs0
  obtain ⟨hx, hcb, hml, hown, hts, hrt, hlk, hnm, hsz, hX, hbo, hK⟩ := id C
  have K := hn _ _ _ _ hb2 p e s m args below meth cx H locs ls C hl hL (List.forall_mem_cons.mpr ⟨mv_r64 _, (List.forall_mem_cons.mp (List.forall_mem_cons.mp hS).2).2⟩) hW hV hn0 hs0
  refine lv_lshr hx hcb hd rfl ?_
  have E : mv_ct G (.inr (.inl (mv_lshr x y))) = .long _ := congrArg Value.long (Int64.ofInt_toInt _)
  rw [List.map_cons, E] at K
  exact K
theorem ms_lushr (hd : decode (mt_cc (mv_r mi)) pc = .ok (.lushr, 1)) (hn : mv_RN G mi n0 s0 (pc + 1) post NX)
    (hb : mv_pi st fun y r => mv_pl r fun x r => NX L (.inr (.inl (mv_lushr x y)) :: r) sh M) : mv_Run G mi n0 s0 pc L st sh M post := by
  obtain ⟨y, r, rfl, hb1⟩ := mv_pi_s hb
  obtain ⟨x, r, rfl, hb2⟩ := mv_pl_s hb1
  intro p e s m args below meth cx H locs ls C hl hL hS hW hV hn0 hs0
  obtain ⟨hx, hcb, hml, hown, hts, hrt, hlk, hnm, hsz, hX, hbo, hK⟩ := id C
  have K := hn _ _ _ _ hb2 p e s m args below meth cx H locs ls C hl hL (List.forall_mem_cons.mpr ⟨mv_r64 _, (List.forall_mem_cons.mp (List.forall_mem_cons.mp hS).2).2⟩) hW hV hn0 hs0
  refine lv_lushr hx hcb hd rfl ?_
  have E : mv_ct G (.inr (.inl (mv_lushr x y))) = .long _ := congrArg Value.long (Int64.ofInt_toInt _)
  rw [List.map_cons, E] at K
  exact K
theorem ms_i2l (hd : decode (mt_cc (mv_r mi)) pc = .ok (.i2l, 1)) (hn : mv_RN G mi n0 s0 (pc + 1) post NX)
    (hb : mv_pi st fun x r => NX L (.inr (.inl x) :: r) sh M) : mv_Run G mi n0 s0 pc L st sh M post := by
  obtain ⟨x, r, rfl, hb1⟩ := mv_pi_s hb
  intro p e s m args below meth cx H locs ls C hl hL hS hW hV hn0 hs0
  obtain ⟨hx, hcb, hml, hown, hts, hrt, hlk, hnm, hsz, hX, hbo, hK⟩ := id C
  have h0 : mv_R32 x := (List.forall_mem_cons.mp hS).1
  have K := hn _ _ _ _ hb1 p e s m args below meth cx H locs ls C hl hL (List.forall_mem_cons.mpr ⟨mv_R6 h0, (List.forall_mem_cons.mp hS).2⟩) hW hV hn0 hs0
  have e1 : Int32.minValue.toInt = -2147483648 := by decide
  have e2 : Int32.maxValue.toInt = 2147483647 := by decide
  exact lv_i2l hx hcb hd (Int32.toInt64_ofInt (by omega) (by omega)) K
theorem ms_l2i (hd : decode (mt_cc (mv_r mi)) pc = .ok (.l2i, 1)) (hn : mv_RN G mi n0 s0 (pc + 1) post NX)
    (hb : mv_pl st fun x r => mv_R32 x ∧ NX L (.inl x :: r) sh M) : mv_Run G mi n0 s0 pc L st sh M post := by
  obtain ⟨x, r, rfl, hb1⟩ := mv_pl_s hb
  obtain ⟨hR, hb1⟩ := hb1
  intro p e s m args below meth cx H locs ls C hl hL hS hW hV hn0 hs0
  obtain ⟨hx, hcb, hml, hown, hts, hrt, hlk, hnm, hsz, hX, hbo, hK⟩ := id C
  have K := hn _ _ _ _ hb1 p e s m args below meth cx H locs ls C hl hL (List.forall_mem_cons.mpr ⟨hR, (List.forall_mem_cons.mp hS).2⟩) hW hV hn0 hs0
  exact lv_l2i hx hcb hd Int64.toInt32_ofInt K
theorem mv_cmp_e {x y : Int} (hx : mv_R64 x) (hy : mv_R64 y) : lg_cmp (Int64.ofInt x) (Int64.ofInt y) = Int32.ofInt (mv_cmp x y) := by
  unfold lg_cmp mv_cmp
  by_cases h : y < x
  · rw [if_pos ((mv_l64 hy hx).mpr h), if_pos h]; rfl
  · rw [if_neg (fun q => h ((mv_l64 hy hx).mp q)), if_neg h]
    by_cases h2 : x = y
    · rw [if_pos ((mv_e64 hx hy).mpr h2), if_pos h2]; rfl
    · rw [if_neg (fun q => h2 ((mv_e64 hx hy).mp q)), if_neg h2]; rfl
theorem mv_cmp_r (x y : Int) : mv_R32 (mv_cmp x y) := by
  unfold mv_cmp
  split
  · constructor <;> omega
  · split <;> constructor <;> omega
theorem ms_lcmp (hd : decode (mt_cc (mv_r mi)) pc = .ok (.lcmp, 1)) (hn : mv_RN G mi n0 s0 (pc + 1) post NX)
    (hb : mv_pl st fun y r => mv_pl r fun x r => NX L (.inl (mv_cmp x y) :: r) sh M) : mv_Run G mi n0 s0 pc L st sh M post := by
  obtain ⟨y, r, rfl, hb1⟩ := mv_pl_s hb
  obtain ⟨x, r, rfl, hb2⟩ := mv_pl_s hb1
  intro p e s m args below meth cx H locs ls C hl hL hS hW hV hn0 hs0
  obtain ⟨hx, hcb, hml, hown, hts, hrt, hlk, hnm, hsz, hX, hbo, hK⟩ := id C
  have hy : mv_R64 y := (List.forall_mem_cons.mp hS).1
  have hx2 : mv_R64 x := (List.forall_mem_cons.mp (List.forall_mem_cons.mp hS).2).1
  have K := hn _ _ _ _ hb2 p e s m args below meth cx H locs ls C hl hL (List.forall_mem_cons.mpr ⟨mv_cmp_r x y, (List.forall_mem_cons.mp (List.forall_mem_cons.mp hS).2).2⟩) hW hV hn0 hs0
  refine W.lcmp hx hcb hd ?_
  rw [mv_cmp_e hx2 hy]
  exact K
theorem mv_c1 {x : mv_V} (h : mv_isL x = false) : (mv_ct G x).category = 1 := by
  obtain x | x | x := x
  · rfl
  · cases h
  · rfl
theorem ms_dup (hd : decode (mt_cc (mv_r mi)) pc = .ok (.dup, 1)) (hn : mv_RN G mi n0 s0 (pc + 1) post NX)
    (hb : match (generalizing := false) st with
      | x :: r => if mv_isL x = false then NX L (x :: x :: r) sh M else False
      | _ => False) : mv_Run G mi n0 s0 pc L st sh M post := by
  obtain _ | ⟨x, r⟩ := st
  · exact hb.elim
  · have hc := mv_if_s hb
    obtain ⟨hc, hb⟩ := hc
    intro p e s m args below meth cx H locs ls C hl hL hS hW hV hn0 hs0
    obtain ⟨hx, hcb, hml, hown, hts, hrt, hlk, hnm, hsz, hX, hbo, hK⟩ := id C
    have K := hn _ _ _ _ hb p e s m args below meth cx H locs ls C hl hL (List.forall_mem_cons.mpr ⟨(List.forall_mem_cons.mp hS).1, hS⟩) hW hV hn0 hs0
    exact lv_dup hx hcb hd (mv_c1 hc) K
theorem ms_pop (hd : decode (mt_cc (mv_r mi)) pc = .ok (.pop, 1)) (hn : mv_RN G mi n0 s0 (pc + 1) post NX)
    (hb : match (generalizing := false) st with
      | x :: r => if mv_isL x = false then NX L r sh M else False
      | _ => False) : mv_Run G mi n0 s0 pc L st sh M post := by
  obtain _ | ⟨x, r⟩ := st
  · exact hb.elim
  · have hc := mv_if_s hb
    obtain ⟨hc, hb⟩ := hc
    intro p e s m args below meth cx H locs ls C hl hL hS hW hV hn0 hs0
    obtain ⟨hx, hcb, hml, hown, hts, hrt, hlk, hnm, hsz, hX, hbo, hK⟩ := id C
    have K := hn _ _ _ _ hb p e s m args below meth cx H locs ls C hl hL (List.forall_mem_cons.mp hS).2 hW hV hn0 hs0
    exact lv_pop hx hcb hd (mv_c1 hc) K
theorem ms_dup2 (hd : decode (mt_cc (mv_r mi)) pc = .ok (.dup2, 1)) (hn : mv_RN G mi n0 s0 (pc + 1) post NX)
    (hb : match (generalizing := false) st with
      | y :: x :: r => if mv_isL x = false ∧ mv_isL y = false then NX L (y :: x :: y :: x :: r) sh M else False
      | _ => False) : mv_Run G mi n0 s0 pc L st sh M post := by
  obtain _ | ⟨y, _ | ⟨x, r⟩⟩ := st
  · exact hb.elim
  · exact hb.elim
  · have hc := mv_if_s hb
    obtain ⟨⟨hc, hc2⟩, hb⟩ := hc
    intro p e s m args below meth cx H locs ls C hl hL hS hW hV hn0 hs0
    obtain ⟨hx, hcb, hml, hown, hts, hrt, hlk, hnm, hsz, hX, hbo, hK⟩ := id C
    have h1 := (List.forall_mem_cons.mp hS).1
    have h2 := (List.forall_mem_cons.mp (List.forall_mem_cons.mp hS).2).1
    have K := hn _ _ _ _ hb p e s m args below meth cx H locs ls C hl hL (List.forall_mem_cons.mpr ⟨h1, List.forall_mem_cons.mpr ⟨h2, hS⟩⟩) hW hV hn0 hs0
    exact lv_dup2_11 hx hcb hd (mv_c1 hc2) (mv_c1 hc) K
theorem ms_iconst {i : Instr} {ln : Nat} (hd : decode (mt_cc (mv_r mi)) pc = .ok (i, ln)) (hf : mv_fit (mv_r mi) pc ln (.iconst 0) a b c v ts i = true) (hn : mv_RN G mi n0 s0 (pc + ln) post NX)
    (hb : NX L (.inl v :: st) sh M) : mv_Run G mi n0 s0 pc L st sh M post := by
  intro p e s m args below meth cx H locs ls C hl hL hS hW hV hn0 hs0
  obtain ⟨hx, hcb, hml, hown, hts, hrt, hlk, hnm, hsz, hX, hbo, hK⟩ := id C
  unfold mv_fit at hf
  dsimp only at hf
  rw [Bool.and_eq_true, decide_eq_true_eq] at hf
  obtain ⟨hR, hf⟩ := hf
  have K := hn _ _ _ _ hb p e s m args below meth cx H locs ls C hl hL (List.forall_mem_cons.mpr ⟨hR, hS⟩) hW hV hn0 hs0
  cases i with
  | iconst n =>
    simp only [Bool.and_eq_true, decide_eq_true_eq] at hf
    obtain ⟨rfl, h⟩ := hf
    exact lv_iconst hx hcb hd h K
  | bipush n =>
    simp only [Bool.and_eq_true, decide_eq_true_eq] at hf
    obtain ⟨rfl, h⟩ := hf
    exact lv_bipush hx hcb hd h K
  | sipush n =>
    simp only [Bool.and_eq_true, decide_eq_true_eq] at hf
    obtain ⟨rfl, h⟩ := hf
    exact lv_sipush hx hcb hd h K
  | ldc n =>
    simp only [Bool.and_eq_true, decide_eq_true_eq] at hf
    obtain ⟨rfl, h⟩ := hf
    exact lv_ldc hx hcb hown (hts _ (mv_hw_mem h)) hd K
  | ldc_w n =>
    simp only [Bool.and_eq_true, decide_eq_true_eq] at hf
    obtain ⟨rfl, h⟩ := hf
    exact lv_ldcw hx hcb hown (hts _ (mv_hw_mem h)) hd K
  | _ => cases hf
theorem ms_lconst {i : Instr} {ln : Nat} (hd : decode (mt_cc (mv_r mi)) pc = .ok (i, ln)) (hf : mv_fit (mv_r mi) pc ln (.lconst 0) a b c v ts i = true) (hn : mv_RN G mi n0 s0 (pc + ln) post NX)
    (hb : NX L (.inr (.inl v) :: st) sh M) : mv_Run G mi n0 s0 pc L st sh M post := by
  intro p e s m args below meth cx H locs ls C hl hL hS hW hV hn0 hs0
  obtain ⟨hx, hcb, hml, hown, hts, hrt, hlk, hnm, hsz, hX, hbo, hK⟩ := id C
  unfold mv_fit at hf
  dsimp only at hf
  rw [Bool.and_eq_true, decide_eq_true_eq] at hf
  obtain ⟨hR, hf⟩ := hf
  have K := hn _ _ _ _ hb p e s m args below meth cx H locs ls C hl hL (List.forall_mem_cons.mpr ⟨hR, hS⟩) hW hV hn0 hs0
  cases i with
  | lconst n =>
    simp only [Bool.and_eq_true, decide_eq_true_eq] at hf
    obtain ⟨rfl, h⟩ := hf
    exact lv_lconst hx hcb hd h K
  | ldc2_w n =>
    simp only [Bool.and_eq_true, decide_eq_true_eq] at hf
    obtain ⟨rfl, h⟩ := hf
    exact lv_ldc2 hx hcb hown (hts _ (mv_hw_mem h)) hd K
  | _ => cases hf
theorem ms_iload {i : Instr} {ln : Nat} (hd : decode (mt_cc (mv_r mi)) pc = .ok (i, ln)) (hf : mv_fit (mv_r mi) pc ln (.iload 0) a b c v ts i = true) (hn : mv_RN G mi n0 s0 (pc + ln) post NX)
    (hb : match mv_lg a L with
      | some (.inl x) => NX L (.inl x :: st) sh M
      | _ => False) : mv_Run G mi n0 s0 pc L st sh M post := by
  split at hb
  · rename_i x hg
    intro p e s m args below meth cx H locs ls C hl hL hS hW hV hn0 hs0
    obtain ⟨hx, hcb, hml, hown, hts, hrt, hlk, hnm, hsz, hX, hbo, hK⟩ := id C
    have K := hn _ _ _ _ hb p e s m args below meth cx H locs ls C hl hL (List.forall_mem_cons.mpr ⟨mv_lg_o hL hg, hS⟩) hW hV hn0 hs0
    have hg2 := mv_lg_at hl hg
    unfold mv_fit at hf
    dsimp only at hf
    cases i with
    | iload_n n =>
      simp only [Bool.and_eq_true, decide_eq_true_eq] at hf
      obtain ⟨rfl, h⟩ := hf
      exact lv_iload_n hx hcb hd h hg2 K
    | iload n =>
      simp only [Bool.and_eq_true, decide_eq_true_eq] at hf
      obtain ⟨rfl, rfl⟩ := hf
      exact lv_iload hx hcb hd hg2 K
    | _ => cases hf
  · exact hb.elim
theorem ms_lload {i : Instr} {ln : Nat} (hd : decode (mt_cc (mv_r mi)) pc = .ok (i, ln)) (hf : mv_fit (mv_r mi) pc ln (.lload 0) a b c v ts i = true) (hn : mv_RN G mi n0 s0 (pc + ln) post NX)
    (hb : match mv_lg a L with
      | some (.inr (.inl x)) => NX L (.inr (.inl x) :: st) sh M
      | _ => False) : mv_Run G mi n0 s0 pc L st sh M post := by
  split at hb
  · rename_i x hg
    intro p e s m args below meth cx H locs ls C hl hL hS hW hV hn0 hs0
    obtain ⟨hx, hcb, hml, hown, hts, hrt, hlk, hnm, hsz, hX, hbo, hK⟩ := id C
    have K := hn _ _ _ _ hb p e s m args below meth cx H locs ls C hl hL (List.forall_mem_cons.mpr ⟨mv_lg_o hL hg, hS⟩) hW hV hn0 hs0
    have hg2 := mv_lg_at hl hg
    unfold mv_fit at hf
    dsimp only at hf
    cases i with
    | lload_n n =>
      simp only [Bool.and_eq_true, decide_eq_true_eq] at hf
      obtain ⟨rfl, h⟩ := hf
      exact lv_lload_n hx hcb hd h hg2 K
    | lload n =>
      simp only [Bool.and_eq_true, decide_eq_true_eq] at hf
      obtain ⟨rfl, rfl⟩ := hf
      exact lv_lload hx hcb hd hg2 K
    | _ => cases hf
  · exact hb.elim
theorem ms_aload {i : Instr} {ln : Nat} (hd : decode (mt_cc (mv_r mi)) pc = .ok (i, ln)) (hf : mv_fit (mv_r mi) pc ln (.aload 0) a b c v ts i = true) (hn : mv_RN G mi n0 s0 (pc + ln) post NX)
    (hb : match mv_lg a L with
      | some (.inr (.inr x)) => NX L (.inr (.inr x) :: st) sh M
      | _ => False) : mv_Run G mi n0 s0 pc L st sh M post := by
  split at hb
  · rename_i x hg
    intro p e s m args below meth cx H locs ls C hl hL hS hW hV hn0 hs0
    obtain ⟨hx, hcb, hml, hown, hts, hrt, hlk, hnm, hsz, hX, hbo, hK⟩ := id C
    have K := hn _ _ _ _ hb p e s m args below meth cx H locs ls C hl hL (List.forall_mem_cons.mpr ⟨mv_lg_o hL hg, hS⟩) hW hV hn0 hs0
    have hg2 := mv_lg_at hl hg
    unfold mv_fit at hf
    dsimp only at hf
    cases i with
    | aload_n n =>
      simp only [Bool.and_eq_true, decide_eq_true_eq] at hf
      obtain ⟨rfl, h⟩ := hf
      exact lv_aload_n hx hcb hd h hg2 K
    | aload n =>
      simp only [Bool.and_eq_true, decide_eq_true_eq] at hf
      obtain ⟨rfl, rfl⟩ := hf
      exact lv_aload hx hcb hd hg2 K
    | _ => cases hf
  · exact hb.elim
theorem ms_istore {i : Instr} {ln : Nat} (hd : decode (mt_cc (mv_r mi)) pc = .ok (i, ln)) (hf : mv_fit (mv_r mi) pc ln (.istore 0) a b c v ts i = true) (hn : mv_RN G mi n0 s0 (pc + ln) post NX)
    (hb : mv_pi st fun x r => NX (mv_st1 a (.inl x) L) r sh M) : mv_Run G mi n0 s0 pc L st sh M post := by
  obtain ⟨x, r, rfl, hb1⟩ := mv_pi_s hb
  intro p e s m args below meth cx H locs ls C hl hL hS hW hV hn0 hs0
  obtain ⟨hx, hcb, hml, hown, hts, hrt, hlk, hnm, hsz, hX, hbo, hK⟩ := id C
  have hS2 := List.forall_mem_cons.mp hS
  unfold mv_fit at hf
  dsimp only at hf
  rw [Bool.and_eq_true] at hf
  obtain ⟨hlt, hf⟩ := hf
  have hlt : a < mt_nL (mv_r mi) := Nat.le_of_ble_eq_true hlt
  have K := fun (ls : Array Slot) hl => hn _ _ _ _ hb1 p e s m args below meth cx H locs ls C hl (mv_st1_o hL hS2.1) hS2.2 hW hV hn0 hs0
  cases i with
  | istore_n n =>
    simp only [Bool.and_eq_true, decide_eq_true_eq] at hf
    obtain ⟨rfl, h⟩ := hf
    exact lv_istore_n hx hcb hd h hl hlt (mv_st1_m G a (.inl x) L) K
  | istore n =>
    simp only [Bool.and_eq_true, decide_eq_true_eq] at hf
    obtain ⟨rfl, rfl⟩ := hf
    exact lv_istore hx hcb hd hl hlt (mv_st1_m G _ (.inl x) L) K
  | _ => cases hf
theorem ms_astore {i : Instr} {ln : Nat} (hd : decode (mt_cc (mv_r mi)) pc = .ok (i, ln)) (hf : mv_fit (mv_r mi) pc ln (.astore 0) a b c v ts i = true) (hn : mv_RN G mi n0 s0 (pc + ln) post NX)
    (hb : mv_pr st fun x r => NX (mv_st1 a (.inr (.inr x)) L) r sh M) : mv_Run G mi n0 s0 pc L st sh M post := by
  obtain ⟨x, r, rfl, hb1⟩ := mv_pr_s hb
  intro p e s m args below meth cx H locs ls C hl hL hS hW hV hn0 hs0
  obtain ⟨hx, hcb, hml, hown, hts, hrt, hlk, hnm, hsz, hX, hbo, hK⟩ := id C
  have hS2 := List.forall_mem_cons.mp hS
  unfold mv_fit at hf
  dsimp only at hf
  rw [Bool.and_eq_true] at hf
  obtain ⟨hlt, hf⟩ := hf
  have hlt : a < mt_nL (mv_r mi) := Nat.le_of_ble_eq_true hlt
  have K := fun (ls : Array Slot) hl => hn _ _ _ _ hb1 p e s m args below meth cx H locs ls C hl (mv_st1_o hL hS2.1) hS2.2 hW hV hn0 hs0
  cases i with
  | astore_n n =>
    simp only [Bool.and_eq_true, decide_eq_true_eq] at hf
    obtain ⟨rfl, h⟩ := hf
    exact lv_astore_n hx hcb hd h hl hlt (mv_st1_m G a (.inr (.inr x)) L) K
  | astore n =>
    simp only [Bool.and_eq_true, decide_eq_true_eq] at hf
    obtain ⟨rfl, rfl⟩ := hf
    exact lv_astore hx hcb hd hl hlt (mv_st1_m G _ (.inr (.inr x)) L) K
  | _ => cases hf
theorem ms_lstore {i : Instr} {ln : Nat} (hd : decode (mt_cc (mv_r mi)) pc = .ok (i, ln)) (hf : mv_fit (mv_r mi) pc ln (.lstore 0) a b c v ts i = true) (hn : mv_RN G mi n0 s0 (pc + ln) post NX)
    (hb : mv_pl st fun x r => NX (mv_st2 a x L) r sh M) : mv_Run G mi n0 s0 pc L st sh M post := by
  obtain ⟨x, r, rfl, hb1⟩ := mv_pl_s hb
  intro p e s m args below meth cx H locs ls C hl hL hS hW hV hn0 hs0
  obtain ⟨hx, hcb, hml, hown, hts, hrt, hlk, hnm, hsz, hX, hbo, hK⟩ := id C
  have hS2 := List.forall_mem_cons.mp hS
  unfold mv_fit at hf
  dsimp only at hf
  rw [Bool.and_eq_true] at hf
  obtain ⟨hlt, hf⟩ := hf
  have hlt : a + 1 < mt_nL (mv_r mi) := Nat.le_of_ble_eq_true hlt
  have K := fun (ls : Array Slot) hl => hn _ _ _ _ hb1 p e s m args below meth cx H locs ls C hl (mv_st2_o hL hS2.1) hS2.2 hW hV hn0 hs0
  cases i with
  | lstore_n n =>
    simp only [Bool.and_eq_true, decide_eq_true_eq] at hf
    obtain ⟨rfl, h⟩ := hf
    exact lv_lstore_n hx hcb hd h hl hlt (mv_st2_m G a x L) K
  | lstore n =>
    simp only [Bool.and_eq_true, decide_eq_true_eq] at hf
    obtain ⟨rfl, rfl⟩ := hf
    exact lv_lstore hx hcb hd hl hlt (mv_st2_m G _ x L) K
  | _ => cases hf
theorem ms_iinc {i : Instr} {ln : Nat} (hd : decode (mt_cc (mv_r mi)) pc = .ok (i, ln)) (hf : mv_fit (mv_r mi) pc ln (.iinc 0 0) a b c v ts i = true) (hn : mv_RN G mi n0 s0 (pc + ln) post NX)
    (hb : match mv_lg a L with
      | some (.inl x) => mv_R32 (x + v) ∧ NX (mv_st1 a (.inl (x + v)) L) st sh M
      | _ => False) : mv_Run G mi n0 s0 pc L st sh M post := by
  split at hb
  · rename_i x hg
    obtain ⟨hR, hb⟩ := hb
    intro p e s m args below meth cx H locs ls C hl hL hS hW hV hn0 hs0
    obtain ⟨hx, hcb, hml, hown, hts, hrt, hlk, hnm, hsz, hX, hbo, hK⟩ := id C
    unfold mv_fit at hf
    dsimp only at hf
    rw [Bool.and_eq_true] at hf
    obtain ⟨hlt, hf⟩ := hf
    have hlt : a < mt_nL (mv_r mi) := Nat.le_of_ble_eq_true hlt
    have K := fun (ls : Array Slot) hl => hn _ _ _ _ hb p e s m args below meth cx H locs ls C hl (mv_st1_o hL hR) hS hW hV hn0 hs0
    obtain ⟨k, hk⟩ := mv_lg_pos (G := G) hg
    cases i with
    | iinc n z =>
      simp only [Bool.and_eq_true, decide_eq_true_eq] at hf
      obtain ⟨rfl, rfl, h⟩ := hf
      exact lv_iinc hx hcb hd hl hk (v := Int32.ofInt (x + v)) (by rw [h, ← Int32.ofInt_add]) hlt (mv_st1_m G _ (.inl (x + v)) L) K
    | _ => cases hf
  · exact hb.elim
theorem ms_goto {i : Instr} {ln : Nat} (hd : decode (mt_cc (mv_r mi)) pc = .ok (i, ln)) (hf : mv_fit (mv_r mi) pc ln (.goto 0) a b c v ts i = true) (hj : mv_RN G mi n0 s0 a post NX)
    (hb : NX L st sh M) : mv_Run G mi n0 s0 pc L st sh M post := by
  intro p e s m args below meth cx H locs ls C hl hL hS hW hV hn0 hs0
  obtain ⟨hx, hcb, hml, hown, hts, hrt, hlk, hnm, hsz, hX, hbo, hK⟩ := id C
  have K := hj _ _ _ _ hb p e s m args below meth cx H locs ls C hl hL hS hW hV hn0 hs0
  unfold mv_fit at hf
  dsimp only at hf
  cases i with
  | goto off =>
    simp only [Bool.and_eq_true, decide_eq_true_eq] at hf
    obtain ⟨rfl, h⟩ := hf
    exact lv_goto hx hcb hd h K
  | _ => cases hf
theorem ms_if {i : Instr} {ln : Nat} {k : Jvm.ClassFile.Cond} (hd : decode (mt_cc (mv_r mi)) pc = .ok (i, ln)) (hf : mv_fit (mv_r mi) pc ln (.ifCond k 0) a b c v ts i = true) (hn : mv_RN G mi n0 s0 (pc + ln) post NX) (hj : mv_RN G mi n0 s0 a post (JP a))
    (hb : mv_pi st fun x r => mv_cd k x 0 (JP a L r sh M) (NX L r sh M)) : mv_Run G mi n0 s0 pc L st sh M post := by
  obtain ⟨x, r, rfl, hb1⟩ := mv_pi_s hb
  intro p e s m args below meth cx H locs ls C hl hL hS hW hV hn0 hs0
  obtain ⟨hx, hcb, hml, hown, hts, hrt, hlk, hnm, hsz, hX, hbo, hK⟩ := id C
  have hS2 := List.forall_mem_cons.mp hS
  have hxr : mv_R32 x := hS2.1
  have KN := fun hb1 => hn _ _ _ _ hb1 p e s m args below meth cx H locs ls C hl hL hS2.2 hW hV hn0 hs0
  have KJ := fun hb1 => hj _ _ _ _ hb1 p e s m args below meth cx H locs ls C hl hL hS2.2 hW hV hn0 hs0
  unfold mv_fit at hf
  dsimp only at hf
  cases i with
  | ifCond k' off =>
    simp only [Bool.and_eq_true, decide_eq_true_eq] at hf
    obtain ⟨rfl, rfl, h⟩ := hf
    cases k' with
    | eq => exact lv_if_eq hx hcb hd h (fun q => KJ (by dsimp only [mv_cd] at hb1; rw [if_pos ((mv_e32 hxr mv_z32).mp q)] at hb1; exact hb1)) (fun q => KN (by dsimp only [mv_cd] at hb1; rw [if_neg (fun z => q ((mv_e32 hxr mv_z32).mpr z))] at hb1; exact hb1))
    | ne => exact lv_if_ne hx hcb hd h (fun q => KJ (by dsimp only [mv_cd] at hb1; rw [if_neg (fun z => q ((mv_e32 hxr mv_z32).mpr z))] at hb1; exact hb1)) (fun q => KN (by dsimp only [mv_cd] at hb1; rw [if_pos ((mv_e32 hxr mv_z32).mp q)] at hb1; exact hb1))
    | lt => exact lv_if_lt hx hcb hd h (fun q => KJ (by dsimp only [mv_cd] at hb1; rw [if_pos ((mv_l32 hxr mv_z32).mp q)] at hb1; exact hb1)) (fun q => KN (by dsimp only [mv_cd] at hb1; rw [if_neg (fun z => q ((mv_l32 hxr mv_z32).mpr z))] at hb1; exact hb1))
    | ge => exact lv_if_ge hx hcb hd h (fun q => KJ (by dsimp only [mv_cd] at hb1; rw [if_pos ((mv_le32 mv_z32 hxr).mp q)] at hb1; exact hb1)) (fun q => KN (by dsimp only [mv_cd] at hb1; rw [if_neg (fun z => q ((mv_le32 mv_z32 hxr).mpr z))] at hb1; exact hb1))
    | gt => exact lv_if_gt hx hcb hd h (fun q => KJ (by dsimp only [mv_cd] at hb1; rw [if_pos ((mv_l32 mv_z32 hxr).mp q)] at hb1; exact hb1)) (fun q => KN (by dsimp only [mv_cd] at hb1; rw [if_neg (fun z => q ((mv_l32 mv_z32 hxr).mpr z))] at hb1; exact hb1))
    | le => exact lv_if_le hx hcb hd h (fun q => KJ (by dsimp only [mv_cd] at hb1; rw [if_pos ((mv_le32 hxr mv_z32).mp q)] at hb1; exact hb1)) (fun q => KN (by dsimp only [mv_cd] at hb1; rw [if_neg (fun z => q ((mv_le32 hxr mv_z32).mpr z))] at hb1; exact hb1))
  | _ => cases hf
theorem ms_icmp {i : Instr} {ln : Nat} {k : Jvm.ClassFile.Cond} (hd : decode (mt_cc (mv_r mi)) pc = .ok (i, ln)) (hf : mv_fit (mv_r mi) pc ln (.if_icmp k 0) a b c v ts i = true) (hn : mv_RN G mi n0 s0 (pc + ln) post NX) (hj : mv_RN G mi n0 s0 a post (JP a))
    (hb : mv_pi st fun y r => mv_pi r fun x r => mv_cd k x y (JP a L r sh M) (NX L r sh M)) : mv_Run G mi n0 s0 pc L st sh M post := by
  obtain ⟨y, r, rfl, hb1⟩ := mv_pi_s hb
  obtain ⟨x, r, rfl, hb2⟩ := mv_pi_s hb1
  intro p e s m args below meth cx H locs ls C hl hL hS hW hV hn0 hs0
  obtain ⟨hx, hcb, hml, hown, hts, hrt, hlk, hnm, hsz, hX, hbo, hK⟩ := id C
  have hS1 := List.forall_mem_cons.mp hS
  have hyr : mv_R32 y := hS1.1
  have hS2 := List.forall_mem_cons.mp hS1.2
  have hxr : mv_R32 x := hS2.1
  have KN := fun hb2 => hn _ _ _ _ hb2 p e s m args below meth cx H locs ls C hl hL hS2.2 hW hV hn0 hs0
  have KJ := fun hb2 => hj _ _ _ _ hb2 p e s m args below meth cx H locs ls C hl hL hS2.2 hW hV hn0 hs0
  unfold mv_fit at hf
  dsimp only at hf
  cases i with
  | if_icmp k' off =>
    simp only [Bool.and_eq_true, decide_eq_true_eq] at hf
    obtain ⟨rfl, rfl, h⟩ := hf
    cases k' with
    | eq => exact lv_icmp_eq hx hcb hd h (fun q => KJ (by dsimp only [mv_cd] at hb2; rw [if_pos ((mv_e32 hxr hyr).mp q)] at hb2; exact hb2)) (fun q => KN (by dsimp only [mv_cd] at hb2; rw [if_neg (fun z => q ((mv_e32 hxr hyr).mpr z))] at hb2; exact hb2))
    | ne => exact lv_icmp_ne hx hcb hd h (fun q => KJ (by dsimp only [mv_cd] at hb2; rw [if_neg (fun z => q ((mv_e32 hxr hyr).mpr z))] at hb2; exact hb2)) (fun q => KN (by dsimp only [mv_cd] at hb2; rw [if_pos ((mv_e32 hxr hyr).mp q)] at hb2; exact hb2))
    | lt => exact lv_icmp_lt hx hcb hd h (fun q => KJ (by dsimp only [mv_cd] at hb2; rw [if_pos ((mv_l32 hxr hyr).mp q)] at hb2; exact hb2)) (fun q => KN (by dsimp only [mv_cd] at hb2; rw [if_neg (fun z => q ((mv_l32 hxr hyr).mpr z))] at hb2; exact hb2))
    | ge => exact lv_icmp_ge hx hcb hd h (fun q => KJ (by dsimp only [mv_cd] at hb2; rw [if_pos ((mv_le32 hyr hxr).mp q)] at hb2; exact hb2)) (fun q => KN (by dsimp only [mv_cd] at hb2; rw [if_neg (fun z => q ((mv_le32 hyr hxr).mpr z))] at hb2; exact hb2))
    | gt => exact lv_icmp_gt hx hcb hd h (fun q => KJ (by dsimp only [mv_cd] at hb2; rw [if_pos ((mv_l32 hyr hxr).mp q)] at hb2; exact hb2)) (fun q => KN (by dsimp only [mv_cd] at hb2; rw [if_neg (fun z => q ((mv_l32 hyr hxr).mpr z))] at hb2; exact hb2))
    | le => exact lv_icmp_le hx hcb hd h (fun q => KJ (by dsimp only [mv_cd] at hb2; rw [if_pos ((mv_le32 hxr hyr).mp q)] at hb2; exact hb2)) (fun q => KN (by dsimp only [mv_cd] at hb2; rw [if_neg (fun z => q ((mv_le32 hxr hyr).mpr z))] at hb2; exact hb2))
  | _ => cases hf
end MS
end
section
/-! ONE INSTRUCTION OF THE SMALL MACHINE: fields, arrays, new cells, switches, ends -/
section MC
variable {G : mv_G} {mi n0 s0 : Nat} {post : Option mv_V → mv_SH → mv_Mem → Prop} {pc a b c : Nat} {v : Int} {ts : List Nat} {L : mv_L} {st : List mv_V} {sh : mv_SH} {M : mv_Mem}
variable {NX : mv_L → List mv_V → mv_SH → mv_Mem → Prop} {JP : Nat → mv_L → List mv_V → mv_SH → mv_Mem → Prop}
theorem mv_fl_s {r : mv_T} {idx : Nat} (h : mv_fl r idx a b c ts = true) : ∃ (C : String) (T : u_T) (N : Nat), vwCl[a]? = some (C, T, N) ∧ b < N ∧ Jvm.Cond.fieldLink (mt_own r) idx (T b).1 (T b).2.1 (T b).2.2.1 ∈ mv_tbl ∧ c = mv_kd a b := by
  unfold mv_fl at h
  split at h
  · rename_i C T N hC
    simp only [Bool.and_eq_true, decide_eq_true_eq] at h
    exact ⟨C, T, N, hC, Nat.le_of_ble_eq_true h.1, mv_hw_mem h.2.1, h.2.2⟩
  · cases h
theorem mv_ce_o {k : Nat} (h : sh.2.2.1 k = a) (ha : a < 100) : mv_ce G sh M k = .inr (a, (List.range (mv_nf a)).map (mv_fv G sh M a k)) := by
  unfold mv_ce
  rw [h, if_neg (by omega), if_neg (by omega), if_neg (by omega)]
theorem mv_ce_i {k : Nat} (h : sh.2.2.1 k = 100) : mv_ce G sh M k = .inl (mg_I G, sh.2.2.2.1 k, .inl (fun i => Int32.ofInt (M k i))) := by
  unfold mv_ce
  rw [if_pos h]
theorem mv_ce_j {k : Nat} (h : sh.2.2.1 k = 101) : mv_ce G sh M k = .inl (mg_J G, sh.2.2.2.1 k, .inr (.inl (fun i => Int64.ofInt (M k i)))) := by
  unfold mv_ce
  rw [if_neg (by omega), if_pos h]
theorem mv_ce_z {k : Nat} (h : sh.2.2.1 k = 102) : mv_ce G sh M k = .inl (mg_Z G, sh.2.2.2.1 k, .inl (fun i => Int32.ofInt (M k i))) := by
  unfold mv_ce
  rw [if_neg (by omega), if_neg (by omega), if_pos h]
theorem mv_set_map {N b : Nat} {g g' : Nat → Value} {v : Value} (h : g' b = v) (ho : ∀ j, j ≠ b → g' j = g j) : ((List.range N).map g).set b v = (List.range N).map g' := by
  apply List.ext_getElem?
  intro j
  rw [List.getElem?_set, List.length_map, List.length_range, List.getElem?_map, List.getElem?_map]
  by_cases hj : b = j
  · subst hj
    rw [if_pos rfl]
    by_cases hb : b < N
    · rw [if_pos hb, List.getElem?_range hb]
      show some v = some (g' b)
      rw [h]
    · rw [if_neg hb, List.getElem?_eq_none (by simp; omega)]
      rfl
  · rw [if_neg hj]
    by_cases hb : j < N
    · rw [List.getElem?_range hb]
      show some (g j) = some (g' j)
      rw [ho j (fun q => hj q.symm)]
    · rw [List.getElem?_eq_none (by simp; omega)]
      rfl
theorem ms_getfield {i : Instr} {ln : Nat} (hd : decode (mt_cc (mv_r mi)) pc = .ok (i, ln)) (hf : mv_fit (mv_r mi) pc ln (.getfield 0) a b c v ts i = true) (hn : mv_RN G mi n0 s0 (pc + ln) post NX)
    (hb : mv_pr st fun k r => if 1 ≤ k ∧ k ≤ sh.1 ∧ sh.2.2.1 k = a then
      (if c = 2 then (if 1 ≤ sh.2.2.2.2 k b then NX L (.inr (.inr (sh.2.2.2.2 k b)) :: r) sh M else False) else NX L (.inl (M k b) :: r) sh M) else False) : mv_Run G mi n0 s0 pc L st sh M post := by
  obtain ⟨k, r, rfl, hb1⟩ := mv_pr_s hb
  obtain ⟨⟨h1, h2, h3⟩, hb2⟩ := mv_if_s hb1
  intro p e s m args below meth cx H locs ls C hl hL hS hW hV hn0 hs0
  obtain ⟨hx, hcb, hml, hown, hts, hrt, hlk, hnm, hsz, hX, hbo, hK⟩ := id C
  have hS2 := List.forall_mem_cons.mp hS
  unfold mv_fit at hf
  dsimp only at hf
  cases i with
  | getfield idx =>
    simp only [Bool.and_eq_true, decide_eq_true_eq] at hf
    obtain ⟨rfl, hf⟩ := hf
    obtain ⟨C', T, N, hC, hbN, hlk2, hc⟩ := mv_fl_s hf
    obtain ⟨hin, hty, hnm2, hN, h100⟩ := mv_cls hC
    have he := mv_ws_get (G := G) (M := M) h1 h2
    rw [mv_ce_o h3 h100, hN] at he
    have hv0 : ((List.range N).map (mv_fv G sh M a k))[b]? = some (mv_fv G sh M a k b) := by rw [List.getElem?_map, List.getElem?_range hbN]; rfl
    by_cases h9 : c = 2
    · rw [if_pos h9] at hb2
      obtain ⟨hR, hb3⟩ := mv_if_s hb2
      have E : mv_fv G sh M a k b = mv_ct G (.inr (.inr (sh.2.2.2.2 k b))) := by
        unfold mv_fv
        rw [if_pos (hc.symm.trans h9), if_neg (by omega)]
        rfl
      rw [E] at hv0
      exact va_get hx hcb hts hin hown hK hW.1 (k - 1) he hC b hbN (hts _ hlk2) (fun _ h => h) hv0 hd (hn _ _ _ _ hb3 p e s m args below meth cx H locs ls C hl hL (List.forall_mem_cons.mpr ⟨trivial, hS2.2⟩) hW hV hn0 hs0)
    · rw [if_neg h9] at hb2
      have E : mv_fv G sh M a k b = mv_ct G (.inl (M k b)) := by
        unfold mv_fv
        rw [if_neg (fun q => h9 (hc.trans q))]
        rfl
      rw [E] at hv0
      exact va_get hx hcb hts hin hown hK hW.1 (k - 1) he hC b hbN (hts _ hlk2) (fun _ h => h) hv0 hd (hn _ _ _ _ hb2 p e s m args below meth cx H locs ls C hl hL (List.forall_mem_cons.mpr ⟨(hW.2.2.2.1 k b).2 (by omega), hS2.2⟩) hW hV hn0 hs0)
  | _ => cases hf
/-- a field is written: a final one in its class's constructor, another anywhere -/
theorem mv_put {p : Program} {l : Launch} {e : Env} {R : Room} {s : State} {m : MethodId} {args : Array Value} {below : List Frame} {meth : Method} {cx : Code} {H : Heap} {locs : List Loc} {cells slots : Nat} {Q : State → Prop} {ls : Array Slot} {rest : List Value}
    (C : mv_Cx G mi n0 p s m args meth cx) {idx N k : Nat} {C' : String} {T : u_T} {sh' : mv_SH} {M' : mv_Mem} {x : Value} (hC : vwCl[a]? = some (C', T, N)) (hbN : b < N) (hlk2 : Jvm.Cond.fieldLink (mt_own (mv_r mi)) idx (T b).1 (T b).2.1 (T b).2.2.1 ∈ mv_tbl)
    (hfin : (T b).2.2.2 = false ∨ ((mt_y (mv_r mi)).name = "<init>" ∧ (T b).1 = mt_own (mv_r mi))) (h1 : 1 ≤ k) (h2 : k ≤ sh.1) (h3 : sh.2.2.1 k = a) (hn : narrow (mv_ty a b) x = x) (hfit : fits (mv_ty a b) x = true) (hW : mv_Wd G sh M H) (hV : va_S (mg_A G) s.heap H locs)
    (hs : sh'.1 = sh.1) (ht : sh'.2.2.1 = sh.2.2.1) (hlen : sh'.2.2.2.1 = sh.2.2.2.1) (he1 : mv_fv G sh' M' a k b = x) (he2 : ∀ f, f ≠ b → mv_fv G sh' M' a k f = mv_fv G sh M a k f) (ho : ∀ j, j ≠ k → (∀ f, sh'.2.2.2.2 j f = sh.2.2.2.2 j f) ∧ ∀ f, M' j f = M j f) (hNm : mv_Nm G sh' M') (hd : decode (mt_cc (mv_r mi)) pc = .ok (.putfield idx, 3))
    (kk : ∀ H1 locs1, mv_Wd G sh' M' H1 → va_S (mg_A G) s.heap H1 locs1 → W p l e R s m args below meth cx H1 locs1 cells slots Q (F0 m (pc + 3) ls rest)) : W p l e R s m args below meth cx H locs cells slots Q (F0 m pc ls (x :: .ref (mv_ad G k) :: rest)) := by
  obtain ⟨hx, hcb, hml, hown, hts, hrt, hlk, hnm, hsz, hX, hbo, hK⟩ := C
  obtain ⟨hin, hty, hnm2, hN, h100⟩ := mv_cls hC
  have he := mv_ws_get (G := G) (M := M) h1 h2
  rw [mv_ce_o h3 h100, hN] at he
  have hset : (mv_ws G sh M).set (k - 1) (mv_ad G k, .inr (a, ((List.range N).map (mv_fv G sh M a k)).set b x)) = mv_ws G sh' M' := by
    refine mv_ws_set h1 h2 hs ?_ (fun j hj => ?_)
    · rw [mv_ce_o (by rw [ht]; exact h3) h100, hN, mv_set_map he1 he2]
    · exact mv_ce_c (by rw [ht]) (by rw [hlen]) (ho j hj).1 (ho j hj).2
  have hl2 : b < ((List.range N).map (mv_fv G sh M a k)).length := by rw [List.length_map, List.length_range]; exact hbN
  have kk' : ∀ (H1 : Heap) (locs1 : List Loc), va_P (mg_D G) vwCl ((mv_ws G sh M).set (k - 1) (mv_ad G k, .inr (a, ((List.range N).map (mv_fv G sh M a k)).set b x))) H1 → va_D (mg_A G) ((mv_ws G sh M).set (k - 1) (mv_ad G k, .inr (a, ((List.range N).map (mv_fv G sh M a k)).set b x))) → va_S (mg_A G) s.heap H1 locs1 → W p l e R s m args below meth cx H1 locs1 cells slots Q (F0 m (pc + 3) ls rest) := by
    rw [hset]
    exact fun H1 locs1 q1 q2 q3 => kk H1 locs1 ⟨q1, q2, hNm⟩ q3
  rcases hfin with hfin | ⟨hfin, hdecl⟩
  · exact va_put hx hcb hts hin (mv_ty a) hty hnm2 hown hK hW.1 hW.2.1 hV (k - 1) he hC b hbN (hts _ hlk2) (fun _ h => h) hfin (hty b hbN) hn hfit hl2 hd kk'
  · cases hfn : (T b).2.2.2 with
    | false => exact va_put hx hcb hts hin (mv_ty a) hty hnm2 hown hK hW.1 hW.2.1 hV (k - 1) he hC b hbN (hts _ hlk2) (fun _ h => h) hfn (hty b hbN) hn hfit hl2 hd kk'
    | true => exact va_putF hx hcb hts hin (mv_ty a) hty hnm2 hown hK hW.1 hW.2.1 hV (k - 1) he hC b hbN (hts _ hlk2) (fun _ h => h) hfn (hnm.trans hfin) hdecl (hty b hbN) hn hfit hl2 hd kk'
theorem mv_kd2 {r : Nat} (h : mv_kd a b = 2) : narrow (mv_ty a b) (.ref r) = .ref r ∧ fits (mv_ty a b) (.ref r) = true := by
  unfold mv_kd at h
  cases ht : mv_ty a b with
  | object n => exact ⟨rfl, rfl⟩
  | array t => exact ⟨rfl, rfl⟩
  | _ => rw [ht] at h; simp at h
theorem mv_kd0 {x : Int32} (h : mv_kd a b = 0) : narrow (mv_ty a b) (.int x) = .int x ∧ fits (mv_ty a b) (.int x) = true := by
  unfold mv_kd at h
  cases ht : mv_ty a b with
  | int => exact ⟨rfl, rfl⟩
  | _ => rw [ht] at h; simp at h
theorem mv_kd1 {x : Int} (h : mv_kd a b = 1) (hx : x = 0 ∨ x = 1) : narrow (mv_ty a b) (.int (Int32.ofInt x)) = .int (Int32.ofInt x) ∧ fits (mv_ty a b) (.int (Int32.ofInt x)) = true := by
  unfold mv_kd at h
  cases ht : mv_ty a b with
  | boolean => rcases hx with rfl | rfl <;> exact ⟨by decide, by decide⟩
  | _ => rw [ht] at h; simp at h
/-- of every field's kind: an int, a boolean, a reference -/
theorem mv_kds : (List.range 12).all (fun ci => (List.range (mv_nf ci)).all (fun k => Nat.ble (mv_kd ci k) 2)) = true := by decide +kernel
theorem mv_kd_le (ha : a < 12) (hb : b < mv_nf a) : mv_kd a b ≤ 2 := by
  have h := List.all_eq_true.mp mv_kds a (List.mem_range.mpr ha)
  exact Nat.le_of_ble_eq_true (List.all_eq_true.mp h b (List.mem_range.mpr hb))
theorem mv_rf_s {k j : Nat} : (mv_rf sh k b j).2.2.2.2 k b = j := by
  unfold mv_rf
  simp
theorem mv_rf_n {k j q f : Nat} (h : ¬ (q = k ∧ f = b)) : (mv_rf sh k b j).2.2.2.2 q f = sh.2.2.2.2 q f := by
  unfold mv_rf
  exact if_neg h
theorem mv_up_s {k j : Nat} {x : Int} : mv_up M k j x k j = x := by
  unfold mv_up
  exact if_pos ⟨rfl, rfl⟩
theorem mv_up_n {k j q f : Nat} {x : Int} (h : ¬ (q = k ∧ f = j)) : mv_up M k j x q f = M q f := by
  unfold mv_up
  exact if_neg h
theorem ms_putfield {i : Instr} {ln : Nat} (hd : decode (mt_cc (mv_r mi)) pc = .ok (i, ln)) (hf : mv_fit (mv_r mi) pc ln (.putfield 0) a b c v ts i = true) (hn : mv_RN G mi n0 s0 (pc + ln) post NX)
    (hb : if c = 2 then (mv_pr st fun j r => mv_pr r fun k r => if 1 ≤ k ∧ k ≤ sh.1 ∧ sh.2.2.1 k = a ∧ 1 ≤ j ∧ j ≤ sh.1 then NX L r (mv_rf sh k b j) M else False)
      else mv_pi st fun x r => mv_pr r fun k r => if 1 ≤ k ∧ k ≤ sh.1 ∧ sh.2.2.1 k = a then (if c = 1 then (x = 0 ∨ x = 1) ∧ NX L r sh (mv_up M k b x) else NX L r sh (mv_up M k b x)) else False) : mv_Run G mi n0 s0 pc L st sh M post := by
  unfold mv_fit at hf
  dsimp only at hf
  cases i with
  | putfield idx =>
    rw [Bool.and_eq_true, decide_eq_true_eq, Bool.and_eq_true] at hf
    obtain ⟨rfl, hf1, hf2⟩ := hf
    obtain ⟨C', T, N, hC, hbN, hlk2, hc⟩ := mv_fl_s hf1
    rw [hC] at hf2
    simp only [Bool.or_eq_true, Bool.not_eq_true', Bool.and_eq_true, decide_eq_true_eq] at hf2
    obtain ⟨hin, hty, hnm2, hN, h100⟩ := mv_cls hC
    by_cases h9 : c = 2
    · rw [if_pos h9] at hb
      obtain ⟨j, r, rfl, hb1⟩ := mv_pr_s hb
      obtain ⟨k, r, rfl, hb2⟩ := mv_pr_s hb1
      obtain ⟨⟨h1, h2, h3, h4, h5⟩, hb3⟩ := mv_if_s hb2
      intro p e s m args below meth cx H locs ls C hl hL hS hW hV hn0 hs0
      have hS2 := List.forall_mem_cons.mp (List.forall_mem_cons.mp hS).2
      have hk2 := mv_kd2 (r := mv_ad G j) (hc.symm.trans h9)
      refine mv_put (sh' := mv_rf sh k b j) (M' := M) C hC hbN hlk2 hf2 h1 h2 h3 hk2.1 hk2.2 hW hV rfl rfl rfl ?_ ?_ ?_ hW.2.2 hd (fun H1 locs1 q1 q2 => hn _ _ _ _ hb3 p e s m args below meth cx H1 locs1 ls C hl hL hS2.2 q1 q2 hn0 hs0)
      · unfold mv_fv
        rw [mv_rf_s, if_pos (hc.symm.trans h9), if_neg (by omega)]
        rfl
      · intro f hf
        unfold mv_fv
        rw [mv_rf_n (fun q => hf q.2)]
      · intro q hq
        exact ⟨fun f => mv_rf_n (fun z => hq z.1), fun _ => rfl⟩
    · rw [if_neg h9] at hb
      obtain ⟨x, r, rfl, hb1⟩ := mv_pi_s hb
      obtain ⟨k, r, rfl, hb2⟩ := mv_pr_s hb1
      obtain ⟨⟨h1, h2, h3⟩, hb3⟩ := mv_if_s hb2
      intro p e s m args below meth cx H locs ls C hl hL hS hW hV hn0 hs0
      have hS1 := List.forall_mem_cons.mp hS
      have hS2 := List.forall_mem_cons.mp hS1.2
      have hxr : mv_R32 x := hS1.1
      have hle := mv_kd_le (a := a) (b := b) (by have := (List.getElem?_eq_some_iff.mp hC).1; exact this) (by rw [hN]; exact hbN)
      have hkd : narrow (mv_ty a b) (.int (Int32.ofInt x)) = .int (Int32.ofInt x) ∧ fits (mv_ty a b) (.int (Int32.ofInt x)) = true := by
        by_cases h8 : c = 1
        · rw [if_pos h8] at hb3
          exact mv_kd1 (hc.symm.trans h8) hb3.1
        · exact mv_kd0 (by omega)
      have hb4 : NX L r sh (mv_up M k b x) := by
        by_cases h8 : c = 1
        · rw [if_pos h8] at hb3
          exact hb3.2
        · rw [if_neg h8] at hb3
          exact hb3
      refine mv_put (sh' := sh) (M' := mv_up M k b x) C hC hbN hlk2 hf2 h1 h2 h3 hkd.1 hkd.2 hW hV rfl rfl rfl ?_ ?_ ?_ (mv_nm_up hW.2.2 h1 ⟨mv_R6 hxr, fun _ => hxr⟩) hd (fun H1 locs1 q1 q2 => hn _ _ _ _ hb4 p e s m args below meth cx H1 locs1 ls C hl hL hS2.2 q1 q2 hn0 hs0)
      · unfold mv_fv
        rw [mv_up_s, if_neg (fun q => h9 (hc.trans q))]
        rfl
      · intro f hf
        unfold mv_fv
        rw [mv_up_n (fun q => hf q.2)]
      · intro q hq
        exact ⟨fun _ => rfl, fun f => mv_up_ne hq f⟩
  | _ => cases hf
theorem ms_iaload (hd : decode (mt_cc (mv_r mi)) pc = .ok (.iaload, 1)) (hn : mv_RN G mi n0 s0 (pc + 1) post NX)
    (hb : mv_pi st fun i r => mv_pr r fun k r => if k ≤ sh.1 ∧ sh.2.2.1 k = 100 then (0 ≤ i ∧ i < (sh.2.2.2.1 k : Int)) ∧ NX L (.inl (M k i.toNat) :: r) sh M else False) : mv_Run G mi n0 s0 pc L st sh M post := by
  obtain ⟨i, r, rfl, hb1⟩ := mv_pi_s hb
  obtain ⟨k, r, rfl, hb2⟩ := mv_pr_s hb1
  obtain ⟨⟨h2, h3⟩, hi, hb3⟩ := mv_if_s hb2
  intro p e s m args below meth cx H locs ls C hl hL hS hW hV hn0 hs0
  obtain ⟨hx, hcb, hml, hown, hts, hrt, hlk, hnm, hsz, hX, hbo, hK⟩ := id C
  have hS1 := List.forall_mem_cons.mp hS
  have hir : mv_R32 i := hS1.1
  have hS2 := List.forall_mem_cons.mp hS1.2
  have K := hn _ _ _ _ hb3 p e s m args below meth cx H locs ls C hl hL (List.forall_mem_cons.mpr ⟨(hW.2.2.2.1 k i.toNat).2 (by omega), hS2.2⟩) hW hV hn0 hs0
  by_cases h0 : k = 0
  · subst h0
    obtain ⟨⟨-, g2, g3⟩, -⟩ := hW.2.2
    rw [g2] at hi
    refine va_sld hx hcb hX hbo.1 hbo.2 hV (mv_vin hir hi) hd ?_
    rw [mv_clamp hir, ← g3]
    exact K
  · have he := mv_ws_get (G := G) (M := M) (show 1 ≤ k by omega) h2
    rw [mv_ce_i h3] at he
    refine va_iald hx hcb hK hW.1 (k - 1) 0 he rfl (mv_vin hir hi) hd ?_
    rw [mv_clamp hir]
    exact K
theorem mv_zn {x : Int} (h : x = 0 ∨ x = 1) : vp_nar .boolean (Int32.ofInt x) = Int32.ofInt x := by
  rcases h with rfl | rfl <;> decide
theorem ms_laload (hd : decode (mt_cc (mv_r mi)) pc = .ok (.laload, 1)) (hn : mv_RN G mi n0 s0 (pc + 1) post NX)
    (hb : mv_pi st fun i r => mv_pr r fun k r => if 1 ≤ k ∧ k ≤ sh.1 ∧ sh.2.2.1 k = 101 then (0 ≤ i ∧ i < (sh.2.2.2.1 k : Int)) ∧ NX L (.inr (.inl (M k i.toNat)) :: r) sh M else False) : mv_Run G mi n0 s0 pc L st sh M post := by
  obtain ⟨i, r, rfl, hb1⟩ := mv_pi_s hb
  obtain ⟨k, r, rfl, hb2⟩ := mv_pr_s hb1
  obtain ⟨⟨h1, h2, h3⟩, hi, hb3⟩ := mv_if_s hb2
  intro p e s m args below meth cx H locs ls C hl hL hS hW hV hn0 hs0
  obtain ⟨hx, hcb, hml, hown, hts, hrt, hlk, hnm, hsz, hX, hbo, hK⟩ := id C
  have hS1 := List.forall_mem_cons.mp hS
  have hir : mv_R32 i := hS1.1
  have hS2 := List.forall_mem_cons.mp hS1.2
  have K := hn _ _ _ _ hb3 p e s m args below meth cx H locs ls C hl hL (List.forall_mem_cons.mpr ⟨(hW.2.2.2.1 k i.toNat).1, hS2.2⟩) hW hV hn0 hs0
  have he := mv_ws_get (G := G) (M := M) h1 h2
  rw [mv_ce_j h3] at he
  refine va_lald hx hcb hK hW.1 (k - 1) 1 he rfl (mv_vin hir hi) hd ?_
  rw [mv_clamp hir]
  exact K
theorem ms_baload (hd : decode (mt_cc (mv_r mi)) pc = .ok (.baload, 1)) (hn : mv_RN G mi n0 s0 (pc + 1) post NX)
    (hb : mv_pi st fun i r => mv_pr r fun k r => if 1 ≤ k ∧ k ≤ sh.1 ∧ sh.2.2.1 k = 102 then (0 ≤ i ∧ i < (sh.2.2.2.1 k : Int)) ∧ NX L (.inl (M k i.toNat) :: r) sh M else False) : mv_Run G mi n0 s0 pc L st sh M post := by
  obtain ⟨i, r, rfl, hb1⟩ := mv_pi_s hb
  obtain ⟨k, r, rfl, hb2⟩ := mv_pr_s hb1
  obtain ⟨⟨h1, h2, h3⟩, hi, hb3⟩ := mv_if_s hb2
  intro p e s m args below meth cx H locs ls C hl hL hS hW hV hn0 hs0
  obtain ⟨hx, hcb, hml, hown, hts, hrt, hlk, hnm, hsz, hX, hbo, hK⟩ := id C
  have hS1 := List.forall_mem_cons.mp hS
  have hir : mv_R32 i := hS1.1
  have hS2 := List.forall_mem_cons.mp hS1.2
  have K := hn _ _ _ _ hb3 p e s m args below meth cx H locs ls C hl hL (List.forall_mem_cons.mpr ⟨(hW.2.2.2.1 k i.toNat).2 (by omega), hS2.2⟩) hW hV hn0 hs0
  have he := mv_ws_get (G := G) (M := M) h1 h2
  rw [mv_ce_z h3] at he
  refine va_zald hx hcb hK hW.1 (k - 1) 2 he rfl (mv_vin hir hi) hd ?_
  rw [mv_clamp hir]
  exact K
theorem ms_iastore (hd : decode (mt_cc (mv_r mi)) pc = .ok (.iastore, 1)) (hn : mv_RN G mi n0 s0 (pc + 1) post NX)
    (hb : mv_pi st fun x r => mv_pi r fun i r => mv_pr r fun k r => if 1 ≤ k ∧ k ≤ sh.1 ∧ sh.2.2.1 k = 100 then (0 ≤ i ∧ i < (sh.2.2.2.1 k : Int)) ∧ NX L r sh (mv_up M k i.toNat x) else False) : mv_Run G mi n0 s0 pc L st sh M post := by
  obtain ⟨x, r, rfl, hb1⟩ := mv_pi_s hb
  obtain ⟨i, r, rfl, hb2⟩ := mv_pi_s hb1
  obtain ⟨k, r, rfl, hb3⟩ := mv_pr_s hb2
  obtain ⟨⟨h1, h2, h3⟩, hi, hb4⟩ := mv_if_s hb3
  intro p e s m args below meth cx H locs ls C hl hL hS hW hV hn0 hs0
  obtain ⟨hx, hcb, hml, hown, hts, hrt, hlk, hnm, hsz, hX, hbo, hK⟩ := id C
  have hS0 := List.forall_mem_cons.mp hS
  have hxr : mv_R32 x := hS0.1
  have hS1 := List.forall_mem_cons.mp hS0.2
  have hir : mv_R32 i := hS1.1
  have hS2 := List.forall_mem_cons.mp hS1.2
  have he := mv_ws_get (G := G) (M := M) h1 h2
  rw [mv_ce_i h3] at he
  have hset := mv_ws_set (G := G) (M := M) (M' := mv_up M k i.toNat x) (sh' := sh) h1 h2 rfl rfl (fun j hj => mv_ce_c rfl rfl (fun _ => rfl) (fun q => mv_up_ne hj q))
  rw [mv_ce_i h3, mv_up_f Int32.ofInt] at hset
  refine va_iast hx hcb hK hW.1 hW.2.1 hV (k - 1) 0 he rfl (mv_vin hir hi) hd ?_
  rw [mv_clamp hir, hset]
  exact fun H1 locs1 q1 q2 q3 => hn _ _ _ _ hb4 p e s m args below meth cx H1 locs1 ls C hl hL hS2.2 ⟨q1, q2, mv_nm_up hW.2.2 h1 ⟨mv_R6 hxr, fun _ => hxr⟩⟩ q3 hn0 hs0
theorem ms_lastore (hd : decode (mt_cc (mv_r mi)) pc = .ok (.lastore, 1)) (hn : mv_RN G mi n0 s0 (pc + 1) post NX)
    (hb : mv_pl st fun x r => mv_pi r fun i r => mv_pr r fun k r => if 1 ≤ k ∧ k ≤ sh.1 ∧ sh.2.2.1 k = 101 then (0 ≤ i ∧ i < (sh.2.2.2.1 k : Int)) ∧ NX L r sh (mv_up M k i.toNat x) else False) : mv_Run G mi n0 s0 pc L st sh M post := by
  obtain ⟨x, r, rfl, hb1⟩ := mv_pl_s hb
  obtain ⟨i, r, rfl, hb2⟩ := mv_pi_s hb1
  obtain ⟨k, r, rfl, hb3⟩ := mv_pr_s hb2
  obtain ⟨⟨h1, h2, h3⟩, hi, hb4⟩ := mv_if_s hb3
  intro p e s m args below meth cx H locs ls C hl hL hS hW hV hn0 hs0
  obtain ⟨hx, hcb, hml, hown, hts, hrt, hlk, hnm, hsz, hX, hbo, hK⟩ := id C
  have hS0 := List.forall_mem_cons.mp hS
  have hxr : mv_R64 x := hS0.1
  have hS1 := List.forall_mem_cons.mp hS0.2
  have hir : mv_R32 i := hS1.1
  have hS2 := List.forall_mem_cons.mp hS1.2
  have he := mv_ws_get (G := G) (M := M) h1 h2
  rw [mv_ce_j h3] at he
  have hset := mv_ws_set (G := G) (M := M) (M' := mv_up M k i.toNat x) (sh' := sh) h1 h2 rfl rfl (fun j hj => mv_ce_c rfl rfl (fun _ => rfl) (fun q => mv_up_ne hj q))
  rw [mv_ce_j h3, mv_up_fl Int64.ofInt] at hset
  refine va_last hx hcb hK hW.1 hW.2.1 hV (k - 1) 1 he rfl (mv_vin hir hi) hd ?_
  rw [mv_clamp hir, hset]
  exact fun H1 locs1 q1 q2 q3 => hn _ _ _ _ hb4 p e s m args below meth cx H1 locs1 ls C hl hL hS2.2 ⟨q1, q2, mv_nm_up hW.2.2 h1 ⟨hxr, fun q => absurd h3 q⟩⟩ q3 hn0 hs0
theorem ms_bastore (hd : decode (mt_cc (mv_r mi)) pc = .ok (.bastore, 1)) (hn : mv_RN G mi n0 s0 (pc + 1) post NX)
    (hb : mv_pi st fun x r => mv_pi r fun i r => mv_pr r fun k r => if 1 ≤ k ∧ k ≤ sh.1 ∧ sh.2.2.1 k = 102 then ((0 ≤ i ∧ i < (sh.2.2.2.1 k : Int)) ∧ (x = 0 ∨ x = 1)) ∧ NX L r sh (mv_up M k i.toNat x) else False) : mv_Run G mi n0 s0 pc L st sh M post := by
  obtain ⟨x, r, rfl, hb1⟩ := mv_pi_s hb
  obtain ⟨i, r, rfl, hb2⟩ := mv_pi_s hb1
  obtain ⟨k, r, rfl, hb3⟩ := mv_pr_s hb2
  obtain ⟨⟨h1, h2, h3⟩, hi, hb4⟩ := mv_if_s hb3
  intro p e s m args below meth cx H locs ls C hl hL hS hW hV hn0 hs0
  obtain ⟨hx, hcb, hml, hown, hts, hrt, hlk, hnm, hsz, hX, hbo, hK⟩ := id C
  have hS0 := List.forall_mem_cons.mp hS
  have hxr : mv_R32 x := hS0.1
  have hS1 := List.forall_mem_cons.mp hS0.2
  have hir : mv_R32 i := hS1.1
  have hS2 := List.forall_mem_cons.mp hS1.2
  have he := mv_ws_get (G := G) (M := M) h1 h2
  rw [mv_ce_z h3] at he
  have hset := mv_ws_set (G := G) (M := M) (M' := mv_up M k i.toNat x) (sh' := sh) h1 h2 rfl rfl (fun j hj => mv_ce_c rfl rfl (fun _ => rfl) (fun q => mv_up_ne hj q))
  rw [mv_ce_z h3, mv_up_f Int32.ofInt] at hset
  refine va_zast hx hcb hK hW.1 hW.2.1 hV (k - 1) 2 he rfl (mv_vin hir hi.1) hd ?_
  rw [mv_clamp hir, mv_zn hi.2, hset]
  exact fun H1 locs1 q1 q2 q3 => hn _ _ _ _ hb4 p e s m args below meth cx H1 locs1 ls C hl hL hS2.2 ⟨q1, q2, mv_nm_up hW.2.2 h1 ⟨mv_R6 hxr, fun _ => hxr⟩⟩ q3 hn0 hs0
end MC
end
section
/-! ONE INSTRUCTION OF THE SMALL MACHINE: lengths, copies, new cells, switches, calls, ends -/
section MN
variable {G : mv_G} {mi n0 s0 : Nat} {post : Option mv_V → mv_SH → mv_Mem → Prop} {pc a b c : Nat} {v : Int} {ts : List Nat} {L : mv_L} {st : List mv_V} {sh : mv_SH} {M : mv_Mem}
variable {NX : mv_L → List mv_V → mv_SH → mv_Mem → Prop} {JP : Nat → mv_L → List mv_V → mv_SH → mv_Mem → Prop}
theorem ms_arraylength (hd : decode (mt_cc (mv_r mi)) pc = .ok (.arraylength, 1)) (hn : mv_RN G mi n0 s0 (pc + 1) post NX)
    (hb : mv_pr st fun k r => if k ≤ sh.1 ∧ sh.2.2.1 k = 100 then NX L (.inl (sh.2.2.2.1 k : Int) :: r) sh M else False) : mv_Run G mi n0 s0 pc L st sh M post := by
  obtain ⟨k, r, rfl, hb2⟩ := mv_pr_s hb
  obtain ⟨⟨h2, h3⟩, hb3⟩ := mv_if_s hb2
  intro p e s m args below meth cx H locs ls C hl hL hS hW hV hn0 hs0
  obtain ⟨hx, hcb, hml, hown, hts, hrt, hlk, hnm, hsz, hX, hbo, hK⟩ := id C
  have hS2 := List.forall_mem_cons.mp hS
  have hle := hW.2.2.2.2 k
  have hR : mv_R32 (sh.2.2.2.1 k : Int) := by constructor <;> omega
  have K := hn _ _ _ _ hb3 p e s m args below meth cx H locs ls C hl hL (List.forall_mem_cons.mpr ⟨hR, hS2.2⟩) hW hV hn0 hs0
  by_cases h0 : k = 0
  · subst h0
    obtain ⟨⟨-, g2, g3⟩, -⟩ := hW.2.2
    refine va_slen (b := mg_b G) hx hcb hX hbo.1 hbo.2 hV hd ?_
    rw [← Int32.ofInt_eq_ofNat, ← g2]
    exact K
  · have he := mv_ws_get (G := G) (M := M) (show 1 ≤ k by omega) h2
    rw [mv_ce_i h3] at he
    exact va_alen hx hcb hK hW.1 (k - 1) 0 he rfl (v := Int32.ofInt (sh.2.2.2.1 k : Int)) Int32.ofInt_eq_ofNat.symm hd K
theorem mv_cp_ne {src sp dst dp n k : Nat} (h : k ≠ dst) (i : Nat) : mv_cp M src sp dst dp n k i = M k i := by
  unfold mv_cp
  rw [if_neg (fun q => h q.1)]
theorem mv_cp_f {α : Type} {src sp dst dp n : Nat} (g : Int → α) : va_cpy (fun i => g (M src i)) (fun i => g (M dst i)) sp dp n = fun i => g (mv_cp M src sp dst dp n dst i) := by
  funext i
  unfold va_cpy mv_cp
  by_cases h : dp ≤ i ∧ i < dp + n
  · rw [if_pos h, if_pos ⟨rfl, h⟩]
  · rw [if_neg h, if_neg (fun q => h q.2)]
theorem mv_nm_cp {src sp dst dp n : Nat} (h : mv_Nm G sh M) (hk : 1 ≤ dst) (ht : sh.2.2.1 src = sh.2.2.1 dst) : mv_Nm G sh (mv_cp M src sp dst dp n) := by
  obtain ⟨⟨a1, a2, a3⟩, a4, a5⟩ := h
  refine ⟨⟨a1, a2, fun i => by rw [mv_cp_ne (by omega)]; exact a3 i⟩, fun k' i => ?_, a5⟩
  unfold mv_cp
  split
  · rename_i hq
    rw [hq.1, ← ht]
    exact a4 src _
  · exact a4 k' i
theorem ms_copy {i : Instr} {ln : Nat} (hd : decode (mt_cc (mv_r mi)) pc = .ok (i, ln)) (hf : mv_fit (mv_r mi) pc ln (.invokestatic 0) a b c v ts i = true) (hn : mv_RN G mi n0 s0 (pc + ln) post NX) (h9 : ¬ c = 1)
    (hb : mv_pi st fun n r => mv_pi r fun dp r => mv_pr r fun d r => mv_pi r fun sp r => mv_pr r fun s r =>
        if (1 ≤ s ∧ s ≤ sh.1 ∧ sh.2.2.1 s = c) ∧ (1 ≤ d ∧ d ≤ sh.1 ∧ sh.2.2.1 d = c) ∧ mv_stw r ≤ 8 then (0 ≤ sp ∧ 0 ≤ dp ∧ 0 ≤ n ∧ sp + n ≤ (sh.2.2.2.1 s : Int) ∧ dp + n ≤ (sh.2.2.2.1 d : Int)) ∧ NX L r sh (mv_cp M s sp.toNat d dp.toNat n.toNat) else False) : mv_Run G mi n0 s0 pc L st sh M post := by
  obtain ⟨n, r, rfl, hb1⟩ := mv_pi_s hb
  obtain ⟨dp, r, rfl, hb2⟩ := mv_pi_s hb1
  obtain ⟨d, r, rfl, hb3⟩ := mv_pr_s hb2
  obtain ⟨sp, r, rfl, hb4⟩ := mv_pi_s hb3
  obtain ⟨k, r, rfl, hb5⟩ := mv_pr_s hb4
  obtain ⟨⟨⟨k1, k2, k3⟩, ⟨d1, d2, d3⟩, hst⟩, ⟨hsp, hdp, hn1, hsl, hdl⟩, hb6⟩ := mv_if_s hb5
  intro p e s m args below meth cx H locs ls C hl hL hS hW hV hn0 hs0
  obtain ⟨hx, hcb, hml, hown, hts, hrt, hlk, hnm, hsz, hX, hbo, hK⟩ := id C
  have hS0 := List.forall_mem_cons.mp hS
  have hnr : mv_R32 n := hS0.1
  have hS1 := List.forall_mem_cons.mp hS0.2
  have hdr : mv_R32 dp := hS1.1
  have hS2 := List.forall_mem_cons.mp (List.forall_mem_cons.mp hS1.2).2
  have hsr : mv_R32 sp := hS2.1
  have hS3 := (List.forall_mem_cons.mp hS2.2).2
  unfold mv_fit at hf
  dsimp only at hf
  cases i with
  | invokestatic idx =>
    dsimp only at hf
    rw [if_neg h9] at hf
    simp only [Bool.and_eq_true, decide_eq_true_eq] at hf
    obtain ⟨rfl, w0, w1, w2, w3, hc, hfr, hlo⟩ := hf
    have hfr := Nat.le_of_ble_eq_true hfr
    have hlo := Nat.le_of_ble_eq_true hlo
    have hes := mv_ws_get (G := G) (M := M) k1 k2
    have hed := mv_ws_get (G := G) (M := M) d1 d2
    have hNm : mv_Nm G sh (mv_cp M k sp.toNat d dp.toNat n.toNat) := mv_nm_cp hW.2.2 d1 (k3.trans d3.symm)
    have hset := mv_ws_set (G := G) (M := M) (M' := mv_cp M k sp.toNat d dp.toNat n.toNat) (sh' := sh) d1 d2 rfl rfl (fun j hj => mv_ce_c rfl rfl (fun _ => rfl) (fun q => mv_cp_ne hj q))
    have hloc : ((r.map (mv_ct G)).map fun v => v.category).sum + (nativeFrameWords "java/lang/System" "arraycopy" 5 + 11) ≤ (mt_rm (mv_r mi)).locals := by
      rw [mv_stw_e]
      have e1 : nativeFrameWords "java/lang/System" "arraycopy" 5 = 7 := by decide +kernel
      rw [e1]
      show _ ≤ mt_lo (mv_r mi)
      omega
    have z0 : ∀ {x : Int}, mv_R32 x → 0 ≤ x → ¬ Int32.ofInt x < 0 := fun hr h q => by
      have := (mv_l32 hr mv_z32).mp q
      omega
    rcases hc with rfl | rfl
    · rw [mv_ce_i k3] at hes
      rw [mv_ce_i d3] at hed hset
      refine va_copyi hx hcb (hml.trans hl.1.symm) hown (hts _ (mv_hw_mem w0)) (hts _ (mv_hw_mem w1)) (hts _ (mv_hw_mem w2)) (hts _ (mv_hw_mem w3)) hK hW.1 hW.2.1 hV (k - 1) (d - 1) 0 0 hes hed rfl rfl rfl (sp := Int32.ofInt sp) (dp := Int32.ofInt dp) (n := Int32.ofInt n) (z0 hsr hsp) (z0 hdr hdp) (z0 hnr hn1) ?_ ?_ (fun _ _ => rfl) hfr hloc hd ?_
      · rw [mv_clamp hsr, mv_clamp hnr]; omega
      · rw [mv_clamp hdr, mv_clamp hnr]; omega
      · rw [mv_clamp hsr, mv_clamp hdr, mv_clamp hnr, mv_cp_f Int32.ofInt, hset]
        exact fun H1 locs1 q1 q2 q3 => hn _ _ _ _ hb6 p e s m args below meth cx H1 locs1 ls C hl hL hS3 ⟨q1, q2, hNm⟩ q3 hn0 hs0
    · rw [mv_ce_j k3] at hes
      rw [mv_ce_j d3] at hed hset
      refine va_copyl hx hcb (hml.trans hl.1.symm) hown (hts _ (mv_hw_mem w0)) (hts _ (mv_hw_mem w1)) (hts _ (mv_hw_mem w2)) (hts _ (mv_hw_mem w3)) hK hW.1 hW.2.1 hV (k - 1) (d - 1) 1 1 hes hed rfl rfl rfl (sp := Int32.ofInt sp) (dp := Int32.ofInt dp) (n := Int32.ofInt n) (z0 hsr hsp) (z0 hdr hdp) (z0 hnr hn1) ?_ ?_ (fun _ _ => rfl) hfr hloc hd ?_
      · rw [mv_clamp hsr, mv_clamp hnr]; omega
      · rw [mv_clamp hdr, mv_clamp hnr]; omega
      · rw [mv_clamp hsr, mv_clamp hdr, mv_clamp hnr, mv_cp_f Int64.ofInt, hset]
        exact fun H1 locs1 q1 q2 q3 => hn _ _ _ _ hb6 p e s m args below meth cx H1 locs1 ls C hl hL hS3 ⟨q1, q2, hNm⟩ q3 hn0 hs0
  | _ => cases hf
/-- where a new cell lies -/
theorem mv_new_at {e : va_E} {q z : Nat} {H1 : Heap} (hD : va_D (mg_A G) (mv_ws G sh M ++ [(q, e)])) (h0 : mv_hp G n0 z) (hn : n0 ≤ sh.1) (hq : q < H1.size) (hz : H1.size ≤ z + (sh.1 - n0) + 1) : q = mg_a G (sh.1 + 1) := by
  have hl : (mv_ws G sh M).length = sh.1 := by unfold mv_ws; rw [List.length_map, List.length_range]
  have hlast : (mv_ws G sh M ++ [(q, e)])[sh.1]? = some (q, e) := by
    rw [List.getElem?_append_right (by omega), hl, Nat.sub_self]
    rfl
  obtain ⟨k, hk1, hk⟩ : mg_A G q := hD.2 _ _ hlast
  rcases Nat.lt_or_ge sh.1 k with h | h
  · have e1 := h0 (k - n0 - 1)
    rw [show n0 + 1 + (k - n0 - 1) = k by omega] at e1
    rw [hk, show k = sh.1 + 1 by omega]
  · exfalso
    have hk0 := mv_ws_get (G := G) (sh := sh) (M := M) (k := k) hk1 h
    have he : mv_ad G k = q := by
      unfold mv_ad
      rw [if_neg (by omega)]
      exact hk.symm
    have hk2 : (mv_ws G sh M ++ [(q, e)])[k - 1]? = some (mv_ad G k, mv_ce G sh M k) := by
      rw [List.getElem?_append_left (by omega)]
      exact hk0
    have := hD.1 _ _ _ _ hk2 hlast he
    omega
theorem mv_new_ad : mv_ad G (sh.1 + 1) = mg_a G (sh.1 + 1) := by
  unfold mv_ad
  rw [if_neg (by omega)]
theorem mv_nmA {n : Nat} (h : mv_Nm G sh M) (ha : 100 ≤ a) (hn : n ≤ 100000) : mv_Nm G (mv_nwA sh a n) (mv_nwM sh M) := by
  obtain ⟨⟨a1, a2, a3⟩, a4, a5⟩ := h
  refine ⟨⟨?_, ?_, fun i => ?_⟩, fun k i => ?_, fun k => ?_⟩
  · show (if 0 = sh.1 + 1 then a else sh.2.2.1 0) = 100
    rw [if_neg (by omega)]; exact a1
  · show (if 0 = sh.1 + 1 then n else sh.2.2.2.1 0) = _
    rw [if_neg (by omega)]; exact a2
  · show (if 0 = sh.1 + 1 then 0 else M 0 i) = _
    rw [if_neg (by omega)]; exact a3 i
  · show mv_R64 (if k = sh.1 + 1 then 0 else M k i) ∧ ((if k = sh.1 + 1 then a else sh.2.2.1 k) ≠ 101 → mv_R32 (if k = sh.1 + 1 then 0 else M k i))
    by_cases hk : k = sh.1 + 1
    · rw [if_pos hk]; exact ⟨mv_z64, fun _ => mv_z32⟩
    · rw [if_neg hk, if_neg hk]; exact a4 k i
  · show (if k = sh.1 + 1 then n else sh.2.2.2.1 k) ≤ 100000
    split
    · exact hn
    · exact a5 k
theorem mv_nmO {n : Nat} (h : mv_Nm G sh M) : mv_Nm G (mv_nwO sh a n) (mv_nwM sh M) := by
  obtain ⟨⟨a1, a2, a3⟩, a4, a5⟩ := h
  refine ⟨⟨?_, a2, fun i => ?_⟩, fun k i => ?_, a5⟩
  · show (if 0 = sh.1 + 1 then a else sh.2.2.1 0) = 100
    rw [if_neg (by omega)]; exact a1
  · show (if 0 = sh.1 + 1 then 0 else M 0 i) = _
    rw [if_neg (by omega)]; exact a3 i
  · show mv_R64 (if k = sh.1 + 1 then 0 else M k i) ∧ ((if k = sh.1 + 1 then a else sh.2.2.1 k) ≠ 101 → mv_R32 (if k = sh.1 + 1 then 0 else M k i))
    by_cases hk : k = sh.1 + 1
    · rw [if_pos hk]; exact ⟨mv_z64, fun _ => mv_z32⟩
    · rw [if_neg hk, if_neg hk]; exact a4 k i
theorem mv_ceA {n k : Nat} (h : k ≠ sh.1 + 1) : mv_ce G (mv_nwA sh a n) (mv_nwM sh M) k = mv_ce G sh M k := by
  refine mv_ce_c ?_ ?_ (fun _ => rfl) (fun i => ?_)
  · exact if_neg h
  · exact if_neg h
  · exact if_neg h
theorem mv_ceO {n k : Nat} (h : k ≠ sh.1 + 1) : mv_ce G (mv_nwO sh a n) (mv_nwM sh M) k = mv_ce G sh M k := by
  refine mv_ce_c ?_ rfl (fun f => ?_) (fun i => ?_)
  · exact if_neg h
  · exact if_neg h
  · exact if_neg h
theorem mv_nwM_0 (i : Nat) : mv_nwM sh M (sh.1 + 1) i = 0 := if_pos rfl
theorem mv_tagA {n : Nat} : (mv_nwA sh a n).2.2.1 (sh.1 + 1) = a := if_pos rfl
theorem mv_lenA {n : Nat} : (mv_nwA sh a n).2.2.2.1 (sh.1 + 1) = n := if_pos rfl
theorem mv_tagO {n : Nat} : (mv_nwO sh a n).2.2.1 (sh.1 + 1) = a := if_pos rfl
theorem mv_refO {n f : Nat} : (mv_nwO sh a n).2.2.2.2 (sh.1 + 1) f = 0 := if_pos rfl
theorem ms_newarray_int {i : Instr} {ln : Nat} (hd : decode (mt_cc (mv_r mi)) pc = .ok (i, ln)) (hf : mv_fit (mv_r mi) pc ln (.newarray .int) a b c v ts i = true) (hn : mv_RN G mi n0 s0 (pc + ln) post NX)
    (hb : mv_pi st fun n r => if 0 ≤ n ∧ n ≤ 100000 ∧ sh.1 + 1 ≤ n0 + mt_mc (mv_r mi) ∧ sh.2.1 + n.toNat ≤ s0 + mt_ms (mv_r mi) then NX L (.inr (.inr (sh.1 + 1)) :: r) (mv_nwA sh a n.toNat) (mv_nwM sh M) else False) : mv_Run G mi n0 s0 pc L st sh M post := by
  obtain ⟨n, r, rfl, hb1⟩ := mv_pi_s hb
  obtain ⟨⟨g1, g2, g3, g4⟩, hb2⟩ := mv_if_s hb1
  intro p e s m args below meth cx H locs ls C hl hL hS hW hV hn0 hs0
  obtain ⟨hx, hcb, hml, hown, hts, hrt, hlk, hnm, hsz, hX, hbo, hK⟩ := id C
  have hS0 := List.forall_mem_cons.mp hS
  have hnr : mv_R32 n := hS0.1
  unfold mv_fit at hf
  dsimp only at hf
  cases i with
  | newarray ty' =>
    simp only [Bool.and_eq_true, decide_eq_true_eq] at hf
    obtain ⟨rfl, rfl, w0, ha, h100⟩ := hf
    have ha : a = 100 := ha
    subst ha
    have hAq : ∀ q, s.heap.size ≤ q → mg_A G q := fun q h => mv_hA hsz h
    refine va_newa hx hcb (atype := .int) (hts _ (mv_hw_mem w0)) rfl hK hW.1 hW.2.1 hV hAq (n := Int32.ofInt n) (N' := n.toNat) (a0 := (n.toNat, .inl fun _ => 0)) (fun cA => rfl) (fun q => by have := (mv_l32 hnr mv_z32).mp q; omega) (mv_clamp hnr) (Nat.le_trans (Nat.mul_le_mul (show n.toNat ≤ 100000 by omega) (show componentBytes .int ≤ 8 by decide)) (by omega)) (by show _ ≤ mt_mc (mv_r mi); omega) (by show _ ≤ mt_ms (mv_r mi); omega) hd (fun q cA H1 hK1 hP1 hD1 hS1 => ?_)
    refine mv_sz (fun hz => ?_)
    have hql : q < H1.size := by
      have h := hP1 sh.1 (q, .inl (cA, (n.toNat, .inl fun _ => 0))) (by
        have hlen : (mv_ws G sh M).length = sh.1 := by unfold mv_ws; rw [List.length_map, List.length_range]
        rw [List.getElem?_append_right (by omega), hlen, Nat.sub_self]
        rfl)
      exact h.lt
    have hq := mv_new_at hD1 hsz hn0.1 hql (by omega)
    subst hq
    have hcA : cA = mg_I G := by
      have h1 := (hK1.2 3 (cA, .int) rfl).2
      have h2 := (hK.2 0 (mg_I G, .int) rfl).2
      exact Option.some.inj (h1.symm.trans h2)
    subst hcA
    have he : mv_ce G (mv_nwA sh 100 n.toNat) (mv_nwM sh M) (sh.1 + 1) = .inl (mg_I G, (n.toNat, .inl fun _ => 0)) := by
      rw [mv_ce_i mv_tagA, mv_lenA]
      have e1 : (fun i => Int32.ofInt (mv_nwM sh M (sh.1 + 1) i)) = fun _ => 0 := funext fun i => by rw [mv_nwM_0]; rfl
      rw [e1]
    have hpush := mv_ws_push (G := G) (sh := sh) (sh' := mv_nwA sh 100 n.toNat) (M := M) (M' := mv_nwM sh M) rfl he (fun j hj => mv_ceA hj)
    rw [hpush] at hP1 hD1
    have K := hn _ _ _ _ hb2 p e s m args below meth cx H1 locs ls C hl hL (List.forall_mem_cons.mpr ⟨trivial, hS0.2⟩) ⟨hP1, hD1, mv_nmA hW.2.2 (by decide) (by omega)⟩ hS1 (show n0 ≤ sh.1 + 1 ∧ sh.1 + 1 ≤ _ by omega) (show s0 ≤ sh.2.1 + n.toNat ∧ sh.2.1 + n.toNat ≤ _ by omega)
    rw [List.map_cons, show mv_ct G (.inr (.inr (sh.1 + 1))) = .ref (mg_a G (sh.1 + 1)) from congrArg Value.ref mv_new_ad] at K
    exact W.cs (show sh.1 - n0 + 1 = sh.1 + 1 - n0 by omega) (show sh.2.1 - s0 + n.toNat = sh.2.1 + n.toNat - s0 by omega) K
  | _ => cases hf
theorem ms_newarray_long {i : Instr} {ln : Nat} (hd : decode (mt_cc (mv_r mi)) pc = .ok (i, ln)) (hf : mv_fit (mv_r mi) pc ln (.newarray .long) a b c v ts i = true) (hn : mv_RN G mi n0 s0 (pc + ln) post NX)
    (hb : mv_pi st fun n r => if 0 ≤ n ∧ n ≤ 100000 ∧ sh.1 + 1 ≤ n0 + mt_mc (mv_r mi) ∧ sh.2.1 + n.toNat ≤ s0 + mt_ms (mv_r mi) then NX L (.inr (.inr (sh.1 + 1)) :: r) (mv_nwA sh a n.toNat) (mv_nwM sh M) else False) : mv_Run G mi n0 s0 pc L st sh M post := by
  obtain ⟨n, r, rfl, hb1⟩ := mv_pi_s hb
  obtain ⟨⟨g1, g2, g3, g4⟩, hb2⟩ := mv_if_s hb1
  intro p e s m args below meth cx H locs ls C hl hL hS hW hV hn0 hs0
  obtain ⟨hx, hcb, hml, hown, hts, hrt, hlk, hnm, hsz, hX, hbo, hK⟩ := id C
  have hS0 := List.forall_mem_cons.mp hS
  have hnr : mv_R32 n := hS0.1
  unfold mv_fit at hf
  dsimp only at hf
  cases i with
  | newarray ty' =>
    simp only [Bool.and_eq_true, decide_eq_true_eq] at hf
    obtain ⟨rfl, rfl, w0, ha, h100⟩ := hf
    have ha : a = 101 := ha
    subst ha
    have hAq : ∀ q, s.heap.size ≤ q → mg_A G q := fun q h => mv_hA hsz h
    refine va_newa hx hcb (atype := .long) (hts _ (mv_hw_mem w0)) rfl hK hW.1 hW.2.1 hV hAq (n := Int32.ofInt n) (N' := n.toNat) (a0 := (n.toNat, .inr (.inl fun _ => 0))) (fun cA => rfl) (fun q => by have := (mv_l32 hnr mv_z32).mp q; omega) (mv_clamp hnr) (Nat.le_trans (Nat.mul_le_mul (show n.toNat ≤ 100000 by omega) (show componentBytes .long ≤ 8 by decide)) (by omega)) (by show _ ≤ mt_mc (mv_r mi); omega) (by show _ ≤ mt_ms (mv_r mi); omega) hd (fun q cA H1 hK1 hP1 hD1 hS1 => ?_)
    refine mv_sz (fun hz => ?_)
    have hql : q < H1.size := by
      have h := hP1 sh.1 (q, .inl (cA, (n.toNat, .inr (.inl fun _ => 0)))) (by
        have hlen : (mv_ws G sh M).length = sh.1 := by unfold mv_ws; rw [List.length_map, List.length_range]
        rw [List.getElem?_append_right (by omega), hlen, Nat.sub_self]
        rfl)
      exact h.lt
    have hq := mv_new_at hD1 hsz hn0.1 hql (by omega)
    subst hq
    have hcA : cA = mg_J G := by
      have h1 := (hK1.2 3 (cA, .long) rfl).2
      have h2 := (hK.2 1 (mg_J G, .long) rfl).2
      exact Option.some.inj (h1.symm.trans h2)
    subst hcA
    have he : mv_ce G (mv_nwA sh 101 n.toNat) (mv_nwM sh M) (sh.1 + 1) = .inl (mg_J G, (n.toNat, .inr (.inl fun _ => 0))) := by
      rw [mv_ce_j mv_tagA, mv_lenA]
      have e1 : (fun i => Int64.ofInt (mv_nwM sh M (sh.1 + 1) i)) = fun _ => 0 := funext fun i => by rw [mv_nwM_0]; rfl
      rw [e1]
    have hpush := mv_ws_push (G := G) (sh := sh) (sh' := mv_nwA sh 101 n.toNat) (M := M) (M' := mv_nwM sh M) rfl he (fun j hj => mv_ceA hj)
    rw [hpush] at hP1 hD1
    have K := hn _ _ _ _ hb2 p e s m args below meth cx H1 locs ls C hl hL (List.forall_mem_cons.mpr ⟨trivial, hS0.2⟩) ⟨hP1, hD1, mv_nmA hW.2.2 (by decide) (by omega)⟩ hS1 (show n0 ≤ sh.1 + 1 ∧ sh.1 + 1 ≤ _ by omega) (show s0 ≤ sh.2.1 + n.toNat ∧ sh.2.1 + n.toNat ≤ _ by omega)
    rw [List.map_cons, show mv_ct G (.inr (.inr (sh.1 + 1))) = .ref (mg_a G (sh.1 + 1)) from congrArg Value.ref mv_new_ad] at K
    exact W.cs (show sh.1 - n0 + 1 = sh.1 + 1 - n0 by omega) (show sh.2.1 - s0 + n.toNat = sh.2.1 + n.toNat - s0 by omega) K
  | _ => cases hf
theorem ms_newarray_boolean {i : Instr} {ln : Nat} (hd : decode (mt_cc (mv_r mi)) pc = .ok (i, ln)) (hf : mv_fit (mv_r mi) pc ln (.newarray .boolean) a b c v ts i = true) (hn : mv_RN G mi n0 s0 (pc + ln) post NX)
    (hb : mv_pi st fun n r => if 0 ≤ n ∧ n ≤ 100000 ∧ sh.1 + 1 ≤ n0 + mt_mc (mv_r mi) ∧ sh.2.1 + n.toNat ≤ s0 + mt_ms (mv_r mi) then NX L (.inr (.inr (sh.1 + 1)) :: r) (mv_nwA sh a n.toNat) (mv_nwM sh M) else False) : mv_Run G mi n0 s0 pc L st sh M post := by
  obtain ⟨n, r, rfl, hb1⟩ := mv_pi_s hb
  obtain ⟨⟨g1, g2, g3, g4⟩, hb2⟩ := mv_if_s hb1
  intro p e s m args below meth cx H locs ls C hl hL hS hW hV hn0 hs0
  obtain ⟨hx, hcb, hml, hown, hts, hrt, hlk, hnm, hsz, hX, hbo, hK⟩ := id C
  have hS0 := List.forall_mem_cons.mp hS
  have hnr : mv_R32 n := hS0.1
  unfold mv_fit at hf
  dsimp only at hf
  cases i with
  | newarray ty' =>
    simp only [Bool.and_eq_true, decide_eq_true_eq] at hf
    obtain ⟨rfl, rfl, w0, ha, h100⟩ := hf
    have ha : a = 102 := ha
    subst ha
    have hAq : ∀ q, s.heap.size ≤ q → mg_A G q := fun q h => mv_hA hsz h
    refine va_newa hx hcb (atype := .boolean) (hts _ (mv_hw_mem w0)) rfl hK hW.1 hW.2.1 hV hAq (n := Int32.ofInt n) (N' := n.toNat) (a0 := (n.toNat, .inl fun _ => 0)) (fun cA => rfl) (fun q => by have := (mv_l32 hnr mv_z32).mp q; omega) (mv_clamp hnr) (Nat.le_trans (Nat.mul_le_mul (show n.toNat ≤ 100000 by omega) (show componentBytes .boolean ≤ 8 by decide)) (by omega)) (by show _ ≤ mt_mc (mv_r mi); omega) (by show _ ≤ mt_ms (mv_r mi); omega) hd (fun q cA H1 hK1 hP1 hD1 hS1 => ?_)
    refine mv_sz (fun hz => ?_)
    have hql : q < H1.size := by
      have h := hP1 sh.1 (q, .inl (cA, (n.toNat, .inl fun _ => 0))) (by
        have hlen : (mv_ws G sh M).length = sh.1 := by unfold mv_ws; rw [List.length_map, List.length_range]
        rw [List.getElem?_append_right (by omega), hlen, Nat.sub_self]
        rfl)
      exact h.lt
    have hq := mv_new_at hD1 hsz hn0.1 hql (by omega)
    subst hq
    have hcA : cA = mg_Z G := by
      have h1 := (hK1.2 3 (cA, .boolean) rfl).2
      have h2 := (hK.2 2 (mg_Z G, .boolean) rfl).2
      exact Option.some.inj (h1.symm.trans h2)
    subst hcA
    have he : mv_ce G (mv_nwA sh 102 n.toNat) (mv_nwM sh M) (sh.1 + 1) = .inl (mg_Z G, (n.toNat, .inl fun _ => 0)) := by
      rw [mv_ce_z mv_tagA, mv_lenA]
      have e1 : (fun i => Int32.ofInt (mv_nwM sh M (sh.1 + 1) i)) = fun _ => 0 := funext fun i => by rw [mv_nwM_0]; rfl
      rw [e1]
    have hpush := mv_ws_push (G := G) (sh := sh) (sh' := mv_nwA sh 102 n.toNat) (M := M) (M' := mv_nwM sh M) rfl he (fun j hj => mv_ceA hj)
    rw [hpush] at hP1 hD1
    have K := hn _ _ _ _ hb2 p e s m args below meth cx H1 locs ls C hl hL (List.forall_mem_cons.mpr ⟨trivial, hS0.2⟩) ⟨hP1, hD1, mv_nmA hW.2.2 (by decide) (by omega)⟩ hS1 (show n0 ≤ sh.1 + 1 ∧ sh.1 + 1 ≤ _ by omega) (show s0 ≤ sh.2.1 + n.toNat ∧ sh.2.1 + n.toNat ≤ _ by omega)
    rw [List.map_cons, show mv_ct G (.inr (.inr (sh.1 + 1))) = .ref (mg_a G (sh.1 + 1)) from congrArg Value.ref mv_new_ad] at K
    exact W.cs (show sh.1 - n0 + 1 = sh.1 + 1 - n0 by omega) (show sh.2.1 - s0 + n.toNat = sh.2.1 + n.toNat - s0 by omega) K
  | _ => cases hf
theorem mv_df (ha : a < 12) (hb : b < mv_nf a) : defaultValue (mv_ty a b) = if mv_kd a b = 2 then .null else .int 0 := by
  have h := mv_kd_le ha hb
  unfold mv_kd at h ⊢
  cases ht : mv_ty a b with
  | int => rfl
  | boolean => rfl
  | object n => rfl
  | array t => rfl
  | _ => rw [ht] at h; simp at h
theorem ms_new {i : Instr} {ln : Nat} (hd : decode (mt_cc (mv_r mi)) pc = .ok (i, ln)) (hf : mv_fit (mv_r mi) pc ln (.new 0) a b c v ts i = true) (hn : mv_RN G mi n0 s0 (pc + ln) post NX)
    (hb : if sh.1 + 1 ≤ n0 + mt_mc (mv_r mi) ∧ sh.2.1 + b ≤ s0 + mt_ms (mv_r mi) then NX L (.inr (.inr (sh.1 + 1)) :: st) (mv_nwO sh a b) (mv_nwM sh M) else False) : mv_Run G mi n0 s0 pc L st sh M post := by
  obtain ⟨⟨g3, g4⟩, hb2⟩ := mv_if_s hb
  intro p e s m args below meth cx H locs ls C hl hL hS hW hV hn0 hs0
  obtain ⟨hx, hcb, hml, hown, hts, hrt, hlk, hnm, hsz, hX, hbo, hK⟩ := id C
  unfold mv_fit at hf
  dsimp only at hf
  cases i with
  | new idx =>
    rw [Bool.and_eq_true, decide_eq_true_eq] at hf
    obtain ⟨rfl, hf⟩ := hf
    split at hf
    · rename_i C' T N hC
      simp only [Bool.and_eq_true, decide_eq_true_eq] at hf
      obtain ⟨rfl, w0, w1, w2⟩ := hf
      obtain ⟨hin, hty, hnm2, hN, h100⟩ := mv_cls hC
      have ha13 : a < 12 := (List.getElem?_eq_some_iff.mp hC).1
      have hfs : ∀ j, j < N → defaultValue (mv_ty a j) = vp_V ((List.range N).map (mv_fv G (mv_nwO sh a N) (mv_nwM sh M) a (sh.1 + 1))) j := by
        intro j hj
        rw [mv_df ha13 (by rw [hN]; exact hj)]
        unfold vp_V
        rw [List.getD_eq_getElem?_getD, List.getElem?_map, List.getElem?_range hj]
        show _ = mv_fv G (mv_nwO sh a N) (mv_nwM sh M) a (sh.1 + 1) j
        unfold mv_fv
        rw [mv_refO, mv_nwM_0, if_pos rfl]
        rfl
      have hAq : ∀ q, s.heap.size ≤ q → mg_A G q := fun q h => mv_hA hsz h
      refine va_new hx hcb hts hin (mv_ty a) hty hown (hts _ (mv_hw_mem w0)) (hts _ (mv_hw_mem w1)) (hts _ (mv_hw_mem w2)) hK hW.1 hW.2.1 hV hAq hC hfs (by show _ ≤ mt_mc (mv_r mi); omega) (by show _ ≤ mt_ms (mv_r mi); omega) hd (fun q H1 hP1 hD1 hS1 => ?_)
      refine mv_sz (fun hz => ?_)
      have hql : q < H1.size := by
        have h := hP1 sh.1 (q, .inr (a, (List.range N).map (mv_fv G (mv_nwO sh a N) (mv_nwM sh M) a (sh.1 + 1)))) (by
          have hlen : (mv_ws G sh M).length = sh.1 := by unfold mv_ws; rw [List.length_map, List.length_range]
          rw [List.getElem?_append_right (by omega), hlen, Nat.sub_self]
          rfl)
        exact h.lt
      have hq := mv_new_at hD1 hsz hn0.1 hql (by omega)
      subst hq
      have he : mv_ce G (mv_nwO sh a N) (mv_nwM sh M) (sh.1 + 1) = .inr (a, (List.range N).map (mv_fv G (mv_nwO sh a N) (mv_nwM sh M) a (sh.1 + 1))) := by
        rw [mv_ce_o mv_tagO h100, hN]
      have hpush := mv_ws_push (G := G) (sh := sh) (sh' := mv_nwO sh a N) (M := M) (M' := mv_nwM sh M) rfl he (fun j hj => mv_ceO hj)
      rw [hpush] at hP1 hD1
      have K := hn _ _ _ _ hb2 p e s m args below meth cx H1 locs ls C hl hL (List.forall_mem_cons.mpr ⟨trivial, hS⟩) ⟨hP1, hD1, mv_nmO hW.2.2⟩ hS1 (show n0 ≤ sh.1 + 1 ∧ sh.1 + 1 ≤ _ by omega) (show s0 ≤ sh.2.1 + N ∧ sh.2.1 + N ≤ _ by omega)
      rw [List.map_cons, show mv_ct G (.inr (.inr (sh.1 + 1))) = .ref (mg_a G (sh.1 + 1)) from congrArg Value.ref mv_new_ad] at K
      exact W.cs (show sh.1 - n0 + 1 = sh.1 + 1 - n0 by omega) (show sh.2.1 - s0 + N = sh.2.1 + N - s0 by omega) K
    · cases hf
  | _ => cases hf
end MN
end
section
/-! THE SMALL MACHINE: calls, ends, switches; a whole method -/
section MR
variable {G : mv_G} {mi n0 s0 : Nat} {post : Option mv_V → mv_SH → mv_Mem → Prop} {pc a b c : Nat} {v : Int} {ts : List Nat} {L : mv_L} {st : List mv_V} {sh : mv_SH} {M : mv_Mem}
variable {NX : mv_L → List mv_V → mv_SH → mv_Mem → Prop} {JP : Nat → mv_L → List mv_V → mv_SH → mv_Mem → Prop}
theorem mv_pay {w : Jvm.Cond} {args : Array Value} {s : State} (hg : mv_gd w = true) (hw : w.before args s = true) (a' : Array Value) (U : State) (hW : s.WarmedH U.vm) : w.before a' U = true := by
  cases w <;> first | exact word_at hW (good_of_word hg) hw | exact va_Nw.use rfl (va_Nw.warmM hW (va_Nw.of rfl hw))
theorem mv_wl_ok {q : mv_T} {args : Array Value} {s : State} (hts : ∀ w ∈ mv_tbl, w.before args s = true) (hc : Jvm.Cond.code (mt_y q) (mt_cc q) (mt_nL q) (mt_ret q) ∈ mv_tbl) : ∀ w ∈ mv_wl q, ∀ (a' : Array Value) (U : State), s.WarmedH U.vm → w.before a' U = true := by
  intro w hw a' U hW
  have hm : w ∈ mv_tbl := by
    rcases List.mem_cons.mp hw with rfl | h
    · exact hc
    · exact h
  exact mv_pay (List.mem_filter.mp hm).2 (hts w hm) a' U hW
theorem mv_blind {as : List mv_V} : FrameBlind (mv_Pc G as sh M) := by
  intro x U g mk q
  obtain ⟨h1, h2, h3, h4, h5, h6, h7⟩ := q
  exact ⟨h1, h2, h3, va_K.moved (u := U) (U := U.calling g mk x) (Vm.Alike.refl U.vm) h4, va_X.moved (u := U) (U := U.calling g mk x) (Vm.Alike.refl U.vm) h5, h6, h7⟩
theorem mv_pre {p : Program} {s : State} {m : MethodId} {args : Array Value} {meth : Method} {cx : Code} {H : Heap} {locs : List Loc} {as : List mv_V} (C : mv_Cx G mi n0 p s m args meth cx) (hW : mv_Wd G sh M H) (hV : va_S (mg_A G) s.heap H locs) (hn : n0 ≤ sh.1) (hz : H.size ≤ s.heap.size + (sh.1 - n0)) (ha : ∀ x ∈ as, mv_ov x) :
    ∀ U : State, U.heap = H → s.WarmedH U.vm → mv_Pc G as sh M (as.map (mv_ct G)).toArray U := by
  obtain ⟨hx, hcb, hml, hown, hts, hrt, hlk, hnm, hsz, hX, hbo, hK⟩ := C
  intro U hU hWm
  have hlow := mv_low hW hV hsz hn
  have hX2 := va_X.moved hWm.alike (va_X.kept hX (hV.2.1 (mg_b G) hbo.1 hbo.2))
  refine ⟨rfl, fun j => ?_, by rw [hU]; exact hW, va_K.moved hWm.alike hK, by rw [hU]; exact hX2, ⟨?_, hbo.2⟩, ha⟩
  · rw [hU, show sh.1 + 1 + j = n0 + 1 + (sh.1 - n0 + j) by omega, hsz]
    omega
  · rw [hU]
    exact Nat.lt_of_lt_of_le hbo.1 hV.1
/-- behind a call -/
theorem mv_cont {p : Program} {l : Launch} {e : Env} {R : Room} {s : State} {m : MethodId} {args : Array Value} {below : List Frame} {meth : Method} {cx : Code} {H : Heap} {locs : List Loc} {cells slots k1 k2 k n1 s1 : Nat} (hk9 : k < 150) {Q : State → Prop} {ls : Array Slot} {rest st0 : List Value} {Φ : Option mv_V → mv_SH → mv_Mem → Prop} {x : Array Value}
    (hr : va_Run p l e R s m args below meth cx H locs cells slots k1 k2 (F0 m pc ls st0) rest (mv_Po G k n1 s1 Φ x) (mg_A G)) (hS : va_S (mg_A G) s.heap H locs)
    (kk : ∀ (r : Option mv_V) (sh' : mv_SH) (M' : mv_Mem) (H1 : Heap) (locs1 : List Loc), Φ r sh' M' → (∀ z, r = some z → mv_ov z) → sh'.1 = n1 → sh'.2.1 = s1 → mv_Wd G sh' M' H1 → va_S (mg_A G) s.heap H1 locs1 → W p l e R s m args below meth cx H1 locs1 (cells + k1) (slots + k2) Q (F0 m (pc + 3) ls ((r.map (mv_ct G)).toList ++ rest))) :
    W p l e R s m args below meth cx H locs cells slots Q (F0 m pc ls st0) := by
  intro T hT X
  obtain ⟨v, st₀, t, T', L, h0, X', hL, e1, e2, ⟨⟨r, sh', M', hv, hov, hΦ, h12, hW1⟩, hz, hk⟩, st⟩ := hr T hT X
  obtain ⟨h1, h2⟩ : sh'.1 = n1 ∧ sh'.2.1 = s1 := h12.elim (fun z => absurd z (by omega)) id
  cases hv
  rw [h0] at hz hk
  obtain ⟨t2, a1, b1⟩ := kk r sh' M' T'.heap (locs ++ L) hΦ hov h1 h2 (by rw [e1]; exact hW1)
    ⟨Nat.le_trans hS.1 (by rw [e1]; exact hz), fun q h1 h2 => by rw [e1, hk q (Nat.lt_of_lt_of_le h1 hS.1) h2]; exact hS.2.1 q h1 h2, fun q hq => by
      rcases List.mem_append.mp hq with h | h
      · exact hS.2.2 q h
      · exact hL q h⟩ T' rfl X'
  exact ⟨t2, st t2 a1, b1⟩
theorem mv_lk_s {own : String} {idx : Nat} {y : MethodName} (h : mv_lk ts own idx y = true) : Jvm.Cond.methodLink own idx y ∈ mv_tbl ∨ ∃ host, Jvm.Cond.methodLinkNest own idx y host ∈ mv_tbl := by
  unfold mv_lk at h
  rw [Bool.or_eq_true] at h
  rcases h with h | h
  · exact Or.inl (mv_hw_mem h)
  · split at h
    · rename_i o j z host heq
      simp only [Bool.and_eq_true, decide_eq_true_eq] at h
      obtain ⟨rfl, rfl, rfl⟩ := h
      refine Or.inr ⟨host, List.mem_filter.mpr ⟨?_, rfl⟩⟩
      cases ht : ts[0]? with
      | none => rw [ht] at heq; cases heq
      | some i => rw [ht] at heq; exact List.mem_of_getElem? heq
    · cases h
theorem mv_cl_s {r q : mv_T} {n : Nat} (h : mv_cl r q n = true) : ((mt_y q).cls ≠ "java/lang/invoke/MethodHandle" ∧ (mt_y q).cls ≠ "java/lang/invoke/VarHandle") ∧ (∀ sig, parseMethodDescriptor (mt_y q).desc = some sig → n = sig.parameters.length) ∧ mt_fr q + 1 ≤ mt_fr r ∧ 8 + (mt_nL q + 11) + mt_lo q ≤ mt_lo r := by
  unfold mv_cl at h
  simp only [Bool.and_eq_true, decide_eq_true_eq] at h
  obtain ⟨h1, h2, h3, h4, -⟩ := h
  refine ⟨h1, fun sig hs => ?_, Nat.le_of_ble_eq_true h3, Nat.le_of_ble_eq_true h4⟩
  rw [hs] at h2
  exact (Option.some.inj h2).symm
theorem mv_cl_k {r q : mv_T} {n : Nat} (h : mv_cl r q n = true) : mt_mc q < 150 := by
  unfold mv_cl at h
  simp only [Bool.and_eq_true] at h
  exact Nat.le_of_ble_eq_true h.2.2.2.2
theorem mv_tk {x : mv_V} {As : List mv_V} (h : (st.take b).reverse = x :: As) : st = As.reverse ++ x :: st.drop b := by
  have h1 : st.take b = (x :: As).reverse := by rw [← h, List.reverse_reverse]
  have h2 := List.take_append_drop b st
  rw [h1, List.reverse_cons, List.append_assoc] at h2
  exact h2.symm
theorem mv_tk0 : st = ((st.take b).reverse).reverse ++ st.drop b := by rw [List.reverse_reverse, List.take_append_drop]
theorem mv_rl (r : Option mv_V) (rest : List mv_V) : (r.map (mv_ct G)).toList ++ rest.map (mv_ct G) = (r.toList ++ rest).map (mv_ct G) := by cases r <;> rfl
theorem mv_rl_o {r : Option mv_V} {rest : List mv_V} (h : ∀ z, r = some z → mv_ov z) (hr : ∀ x ∈ rest, mv_ov x) : ∀ x ∈ r.toList ++ rest, mv_ov x := by
  intro x hx
  rcases List.mem_append.mp hx with h1 | h1
  · cases r with
    | none => cases h1
    | some z => rw [List.mem_singleton.mp h1]; exact h z rfl
  · exact hr x h1
theorem mv_lenA2 {x : mv_V} {As : List mv_V} (h : (st.take b).reverse = x :: As) (hl : b ≤ st.length) : As.length = b - 1 := by
  have := congrArg List.length h
  rw [List.length_reverse, List.length_take, List.length_cons] at this
  omega
/-- a weaker end -/
theorem mv_mono {as : List mv_V} {Φ Ψ : Option mv_V → mv_SH → mv_Mem → Prop} (h : mv_Wp G a as sh M Φ) (hi : ∀ r sh' M', Φ r sh' M' → Ψ r sh' M') : mv_Wp G a as sh M Ψ := by
  refine ⟨h.1, MetFree.mono h.2 (fun _ _ q => q) (fun _ _ _ _ _ q => q) (fun x st o t _ q => ?_)⟩
  obtain ⟨⟨⟨r, sh', M', e1, e2, e3, e4⟩, e5⟩, e6⟩ := q
  exact ⟨⟨⟨r, sh', M', e1, e2, hi _ _ _ e3, e4⟩, e5⟩, e6⟩
theorem mv_three {as rest : List mv_V} (h : if v = 1 then mv_Wp G a as sh M (mv_qi sh fun x M' => NX L (.inl x :: rest) sh M') else if v = 2 then mv_Wp G a as sh M (mv_ql sh fun x M' => NX L (.inr (.inl x) :: rest) sh M') else mv_Wp G a as sh M (mv_qv sh fun M' => NX L rest sh M')) :
    mv_Wp G a as sh M (fun r sh' M' => NX L (r.toList ++ rest) sh' M') := by
  split at h
  · exact mv_mono h (fun r sh' M' q => by obtain ⟨rfl, x, rfl, q⟩ := q; exact q)
  · split at h
    · exact mv_mono h (fun r sh' M' q => by obtain ⟨rfl, x, rfl, q⟩ := q; exact q)
    · exact mv_mono h (fun r sh' M' q => by obtain ⟨rfl, rfl, q⟩ := q; exact q)
theorem ms_virtual {i : Instr} {ln : Nat} (hd : decode (mt_cc (mv_r mi)) pc = .ok (i, ln)) (hf : mv_fit (mv_r mi) pc ln (.invokevirtual 0) a b c v ts i = true) (hn : mv_RN G mi n0 s0 (pc + ln) post NX)
    (hb : match (st.take b).reverse with
        | .inr (.inr k) :: As => if (1 ≤ k ∧ k ≤ sh.1 ∧ sh.2.2.1 k = c) ∧ mv_stw (st.drop b) ≤ 8 ∧ b ≤ st.length then (if v = 1 then mv_Wp G a (.inr (.inr k) :: As) sh M (mv_qi sh fun x M' => NX L (.inl x :: st.drop b) sh M') else if v = 2 then mv_Wp G a (.inr (.inr k) :: As) sh M (mv_ql sh fun x M' => NX L (.inr (.inl x) :: st.drop b) sh M') else mv_Wp G a (.inr (.inr k) :: As) sh M (mv_qv sh fun M' => NX L (st.drop b) sh M')) else False
        | _ => False) : mv_Run G mi n0 s0 pc L st sh M post := by
  split at hb
  · rename_i k As hst
    obtain ⟨⟨⟨h1, h2, h3⟩, h4, h5⟩, hb⟩ := mv_if_s hb
    obtain ⟨hcode, hM⟩ := mv_three hb
    intro p e s m args below meth cx H locs ls C hl hL hS hW hV hn0 hs0
    obtain ⟨hx, hcb, hml, hown, hts, hrt, hlk, hnm, hsz, hX, hbo, hK⟩ := id C
    have hst2 := mv_tk hst
    have hSa : ∀ x ∈ (.inr (.inr k) :: As : List mv_V), mv_ov x := fun x hx => hS x (by
      rw [hst2]
      rcases List.mem_cons.mp hx with rfl | h
      · exact List.mem_append_right _ List.mem_cons_self
      · exact List.mem_append_left _ (List.mem_reverse.mpr h))
    have hSr : ∀ x ∈ st.drop b, mv_ov x := fun x hx => hS x (List.mem_of_mem_drop hx)
    unfold mv_fit at hf
    dsimp only at hf
    cases i with
    | invokevirtual idx =>
      simp only [Bool.and_eq_true, decide_eq_true_eq] at hf
      obtain ⟨rfl, w0, w1, w2, w3, hcn, ⟨hmc, hms⟩, hb1, hcl⟩ := hf
      have hb1 := Nat.le_of_ble_eq_true hb1
      obtain ⟨hy, hlen, hfr, hlo⟩ := mv_cl_s hcl
      obtain ⟨q, hq, hqc⟩ := Option.map_eq_some_iff.mp hcn
      obtain ⟨C', T, N⟩ := q
      have hqc : C' = (mt_y (mv_r a)).cls := hqc
      obtain ⟨-, -, -, -, h100⟩ := mv_cls hq
      have he := mv_ws_get (G := G) (M := M) h1 h2
      rw [mv_ce_o h3 h100] at he
      rw [hmc, hms] at hM
      refine mv_sz (fun hz => ?_)
      have cw : CallW (mt_rm (mv_r mi)) s args (mt_own (mv_r mi)) (mt_y (mv_r a)).cls idx (mt_y (mv_r a)) (mt_cc (mv_r a)) (mt_nL (mv_r a)) (mt_ret (mv_r a)) (mv_wl (mv_r a)) (mt_rm (mv_r a)) 0 0 (b - 1) :=
        ⟨⟨hmc, hms, hfr, hlo, mv_wl_ok hts hcode, List.mem_cons_self, hts _ hcode, hts _ (mv_hw_mem w3), hy, hlen, hts _ (mv_hw_mem w0)⟩, hts _ (mv_hw_mem w1), hts _ (mv_hw_mem w2)⟩
      have hrecv := va_recv hK hW.1 hq he
      rw [hqc] at hrecv
      refine mv_cont (show 0 < 150 by omega) (va_runV (As := As.map (mv_ct G)) (rest := (st.drop b).map (mv_ct G)) ⟨hx, hcb, hml, hown, hts⟩ hM cw ⟨mv_blind, hrecv, mv_pre C hW hV hn0.1 hz hSa⟩ rfl (by rw [List.length_map]; exact mv_lenA2 hst h5) hl.1 ?_ (lv_room (by rw [mv_stw_e]; exact h4)) hd ⟨by show _ ≤ mt_mc (mv_r mi); omega, by show _ ≤ mt_ms (mv_r mi); omega⟩) hV (fun r sh' M' H1 locs1 hΦ hov g1 g2 hW1 hS1 => ?_)
      · have h := congrArg (List.map (mv_ct G)) hst2
        rw [List.map_append, List.map_reverse, List.map_cons] at h
        exact h
      · have K := hn _ _ _ _ hΦ p e s m args below meth cx H1 locs1 ls C hl hL (mv_rl_o hov hSr) hW1 hS1 (by omega) (by omega)
        rw [mv_rl]
        exact W.cs (by omega) (by omega) K
    | _ => cases hf
  · exact hb.elim
theorem ms_static {i : Instr} {ln : Nat} (hd : decode (mt_cc (mv_r mi)) pc = .ok (i, ln)) (hf : mv_fit (mv_r mi) pc ln (.invokestatic 0) a b c v ts i = true) (hn : mv_RN G mi n0 s0 (pc + ln) post NX) (h9 : c = 1)
    (hb : if mv_stw (st.drop b) ≤ 8 ∧ b ≤ st.length then (if v = 1 then mv_Wp G a (st.take b).reverse sh M (mv_qi sh fun x M' => NX L (.inl x :: st.drop b) sh M') else if v = 2 then mv_Wp G a (st.take b).reverse sh M (mv_ql sh fun x M' => NX L (.inr (.inl x) :: st.drop b) sh M') else mv_Wp G a (st.take b).reverse sh M (mv_qv sh fun M' => NX L (st.drop b) sh M')) else False) : mv_Run G mi n0 s0 pc L st sh M post := by
  obtain ⟨⟨h4, h5⟩, hb⟩ := mv_if_s hb
  obtain ⟨hcode, hM⟩ := mv_three hb
  intro p e s m args below meth cx H locs ls C hl hL hS hW hV hn0 hs0
  obtain ⟨hx, hcb, hml, hown, hts, hrt, hlk, hnm, hsz, hX, hbo, hK⟩ := id C
  have hSa : ∀ x ∈ (st.take b).reverse, mv_ov x := fun x hx => hS x (List.mem_of_mem_take (List.mem_reverse.mp hx))
  have hSr : ∀ x ∈ st.drop b, mv_ov x := fun x hx => hS x (List.mem_of_mem_drop hx)
  unfold mv_fit at hf
  dsimp only at hf
  cases i with
  | invokestatic idx =>
    dsimp only at hf
    rw [if_pos h9] at hf
    simp only [Bool.and_eq_true, decide_eq_true_eq] at hf
    obtain ⟨rfl, w0, w1, w2, ⟨hmc, hms⟩, hcl⟩ := hf
    obtain ⟨hy, hlen, hfr, hlo⟩ := mv_cl_s hcl
    rw [hmc, hms] at hM
    refine mv_sz (fun hz => ?_)
    have hlenA : (((st.take b).reverse).map (mv_ct G)).length = b := by rw [List.length_map, List.length_reverse, List.length_take]; omega
    have hstk : st.map (mv_ct G) = (((st.take b).reverse).map (mv_ct G)).reverse ++ (st.drop b).map (mv_ct G) := by
      rw [← List.map_reverse, ← List.map_append, ← mv_tk0]
    have kk : ∀ (r : Option mv_V) (sh' : mv_SH) (M' : mv_Mem) (H1 : Heap) (locs1 : List Loc), NX L (r.toList ++ st.drop b) sh' M' → (∀ z, r = some z → mv_ov z) → sh'.1 = sh.1 + 0 → sh'.2.1 = sh.2.1 + 0 → mv_Wd G sh' M' H1 → va_S (mg_A G) s.heap H1 locs1 → W p (mg_l G) e (mt_rm (mv_r mi)) s m args below meth cx H1 locs1 (sh.1 - n0 + 0) (sh.2.1 - s0 + 0) (MQ below (mv_Po G (mt_mc (mv_r mi)) (n0 + mt_mc (mv_r mi)) (s0 + mt_ms (mv_r mi)) post) args s (mt_mc (mv_r mi)) (mt_ms (mv_r mi)) (mg_A G)) (F0 m (pc + 3) ls ((r.map (mv_ct G)).toList ++ (st.drop b).map (mv_ct G))) := by
      intro r sh' M' H1 locs1 hΦ hov g1 g2 hW1 hS1
      have K := hn _ _ _ _ hΦ p e s m args below meth cx H1 locs1 ls C hl hL (mv_rl_o hov hSr) hW1 hS1 (by omega) (by omega)
      rw [mv_rl]
      exact W.cs (by omega) (by omega) K
    rcases mv_lk_s w0 with hw | ⟨host, hw⟩
    · have cw : CallB (mt_rm (mv_r mi)) s args (mt_own (mv_r mi)) idx (mt_y (mv_r a)) (mt_cc (mv_r a)) (mt_nL (mv_r a)) (mt_ret (mv_r a)) (mv_wl (mv_r a)) (mt_rm (mv_r a)) 0 0 b ∧ (Cond.static (mt_y (mv_r a))).before args s = true :=
        ⟨⟨hmc, hms, hfr, hlo, mv_wl_ok hts hcode, List.mem_cons_self, hts _ hcode, hts _ (mv_hw_mem w2), hy, hlen, hts _ hw⟩, hts _ (mv_hw_mem w1)⟩
      exact mv_cont (show 0 < 150 by omega) (va_runS (As := ((st.take b).reverse).map (mv_ct G)) (rest := (st.drop b).map (mv_ct G)) ⟨hx, hcb, hml, hown, hts⟩ hM cw ⟨mv_blind, mv_pre C hW hV hn0.1 hz hSa⟩ rfl hlenA hl.1 hstk (lv_room (by rw [mv_stw_e]; exact h4)) hd ⟨by show _ ≤ mt_mc (mv_r mi); omega, by show _ ≤ mt_ms (mv_r mi); omega⟩) hV kk
    · have cw : va_CN (mt_rm (mv_r mi)) s args (mt_own (mv_r mi)) idx (mt_y (mv_r a)) host (mt_cc (mv_r a)) (mt_nL (mv_r a)) (mt_ret (mv_r a)) (mv_wl (mv_r a)) (mt_rm (mv_r a)) 0 0 b ∧ (Cond.static (mt_y (mv_r a))).before args s = true ∧ True :=
        ⟨⟨⟨hmc, hms, hfr, hlo, mv_wl_ok hts hcode, List.mem_cons_self⟩, hts _ hcode, hts _ (mv_hw_mem w2), hy, hlen, hts _ hw⟩, hts _ (mv_hw_mem w1), trivial⟩
      exact mv_cont (show 0 < 150 by omega) (va_runSN (As := ((st.take b).reverse).map (mv_ct G)) (rest := (st.drop b).map (mv_ct G)) ⟨hx, hcb, hml, hown, hts⟩ hM cw ⟨mv_blind, mv_pre C hW hV hn0.1 hz hSa⟩ rfl hlenA hl.1 hstk (lv_room (by rw [mv_stw_e]; exact h4)) hd ⟨by show _ ≤ mt_mc (mv_r mi); omega, by show _ ≤ mt_ms (mv_r mi); omega⟩) hV kk
  | _ => cases hf
theorem ms_special {i : Instr} {ln : Nat} (hd : decode (mt_cc (mv_r mi)) pc = .ok (i, ln)) (hf : mv_fit (mv_r mi) pc ln (.invokespecial 0) a b c v ts i = true) (hn : mv_RN G mi n0 s0 (pc + ln) post NX) (h9 : ¬ c = 1)
    (hb : match (st.take b).reverse with
        | .inr (.inr k) :: As => if mv_stw (st.drop b) ≤ 8 ∧ b ≤ st.length ∧ sh.1 + (c - 2) ≤ n0 + mt_mc (mv_r mi) ∧ sh.2.1 + v.toNat ≤ s0 + mt_ms (mv_r mi) then mv_Wp G a (.inr (.inr k) :: As) sh M (fun r sh' M' => NX L (r.toList ++ st.drop b) sh' M') else False
        | _ => False) : mv_Run G mi n0 s0 pc L st sh M post := by
  split at hb
  · rename_i k As hst
    obtain ⟨⟨h4, h5, h6, h7⟩, hcode, hM⟩ := mv_if_s hb
    intro p e s m args below meth cx H locs ls C hl hL hS hW hV hn0 hs0
    obtain ⟨hx, hcb, hml, hown, hts, hrt, hlk, hnm, hsz, hX, hbo, hK⟩ := id C
    have hst2 := mv_tk hst
    have hSa : ∀ x ∈ (.inr (.inr k) :: As : List mv_V), mv_ov x := fun x hx => hS x (by
      rw [hst2]
      rcases List.mem_cons.mp hx with rfl | h
      · exact List.mem_append_right _ List.mem_cons_self
      · exact List.mem_append_left _ (List.mem_reverse.mpr h))
    have hSr : ∀ x ∈ st.drop b, mv_ov x := fun x hx => hS x (List.mem_of_mem_drop hx)
    unfold mv_fit at hf
    dsimp only at hf
    cases i with
    | invokespecial idx =>
      dsimp only at hf
      rw [if_neg h9] at hf
      simp only [Bool.and_eq_true, decide_eq_true_eq] at hf
      obtain ⟨rfl, w0, w1, w2, hin, hret, hc2, hv2, hb1, hcl⟩ := hf
      have hb1 := Nat.le_of_ble_eq_true hb1
      obtain ⟨hy, hlen, hfr, hlo⟩ := mv_cl_s hcl
      subst hc2
      subst hv2
      have h6 : sh.1 + mt_mc (mv_r a) ≤ n0 + mt_mc (mv_r mi) := by omega
      have h7 : sh.2.1 + mt_ms (mv_r a) ≤ s0 + mt_ms (mv_r mi) := by omega
      refine mv_sz (fun hz => ?_)
      have hlenA : (As.map (mv_ct G)).length = b - 1 := by rw [List.length_map]; exact mv_lenA2 hst h5
      have hstk : st.map (mv_ct G) = (As.map (mv_ct G)).reverse ++ .ref (mv_ad G k) :: (st.drop b).map (mv_ct G) := by
        have h := congrArg (List.map (mv_ct G)) hst2
        rw [List.map_append, List.map_reverse, List.map_cons] at h
        exact h
      have kk : ∀ (r : Option mv_V) (sh' : mv_SH) (M' : mv_Mem) (H1 : Heap) (locs1 : List Loc), NX L (r.toList ++ st.drop b) sh' M' → (∀ z, r = some z → mv_ov z) → sh'.1 = sh.1 + mt_mc (mv_r a) → sh'.2.1 = sh.2.1 + mt_ms (mv_r a) → mv_Wd G sh' M' H1 → va_S (mg_A G) s.heap H1 locs1 → W p (mg_l G) e (mt_rm (mv_r mi)) s m args below meth cx H1 locs1 (sh.1 - n0 + mt_mc (mv_r a)) (sh.2.1 - s0 + mt_ms (mv_r a)) (MQ below (mv_Po G (mt_mc (mv_r mi)) (n0 + mt_mc (mv_r mi)) (s0 + mt_ms (mv_r mi)) post) args s (mt_mc (mv_r mi)) (mt_ms (mv_r mi)) (mg_A G)) (F0 m (pc + 3) ls ((r.map (mv_ct G)).toList ++ (st.drop b).map (mv_ct G))) := by
        intro r sh' M' H1 locs1 hΦ hov g1 g2 hW1 hS1
        have K := hn _ _ _ _ hΦ p e s m args below meth cx H1 locs1 ls C hl hL (mv_rl_o hov hSr) hW1 hS1 (by omega) (by omega)
        rw [mv_rl]
        exact W.cs (by omega) (by omega) K
      rw [hret] at hcode
      have hwl : mv_wl (mv_r a) = Cond.code (mt_y (mv_r a)) (mt_cc (mv_r a)) (mt_nL (mv_r a)) none :: mv_tbl := by unfold mv_wl; rw [hret]
      have hwok : ∀ w ∈ mv_wl (mv_r a), ∀ (a' : Array Value) (U : State), s.WarmedH U.vm → w.before a' U = true := mv_wl_ok hts (by rw [hret]; exact hcode)
      rcases mv_lk_s w0 with hw | ⟨host, hw⟩
      · have cw : CallB (mt_rm (mv_r mi)) s args (mt_own (mv_r mi)) idx (mt_y (mv_r a)) (mt_cc (mv_r a)) (mt_nL (mv_r a)) none (mv_wl (mv_r a)) (mt_rm (mv_r a)) (mt_mc (mv_r a)) (mt_ms (mv_r a)) (b - 1) ∧ (mt_y (mv_r a)).name = "<init>" ∧ (Cond.instanceMethod (mt_y (mv_r a))).before args s = true :=
          ⟨⟨rfl, rfl, hfr, hlo, hwok, by rw [hwl]; exact List.mem_cons_self, hts _ hcode, hts _ (mv_hw_mem w2), hy, hlen, hts _ hw⟩, hin, hts _ (mv_hw_mem w1)⟩
        exact mv_cont (mv_cl_k hcl) (va_runI (As := As.map (mv_ct G)) (rest := (st.drop b).map (mv_ct G)) ⟨hx, hcb, hml, hown, hts⟩ hM cw ⟨mv_blind, mv_pre C hW hV hn0.1 hz hSa⟩ rfl hlenA hl.1 hstk (lv_room (by rw [mv_stw_e]; exact h4)) hd ⟨by show _ ≤ mt_mc (mv_r mi); omega, by show _ ≤ mt_ms (mv_r mi); omega⟩) hV kk
      · have cw : va_CN (mt_rm (mv_r mi)) s args (mt_own (mv_r mi)) idx (mt_y (mv_r a)) host (mt_cc (mv_r a)) (mt_nL (mv_r a)) none (mv_wl (mv_r a)) (mt_rm (mv_r a)) (mt_mc (mv_r a)) (mt_ms (mv_r a)) (b - 1) ∧ (mt_y (mv_r a)).name = "<init>" ∧ (Cond.instanceMethod (mt_y (mv_r a))).before args s = true :=
          ⟨⟨⟨rfl, rfl, hfr, hlo, hwok, by rw [hwl]; exact List.mem_cons_self⟩, hts _ hcode, hts _ (mv_hw_mem w2), hy, hlen, hts _ hw⟩, hin, hts _ (mv_hw_mem w1)⟩
        exact mv_cont (mv_cl_k hcl) (va_runIN (As := As.map (mv_ct G)) (rest := (st.drop b).map (mv_ct G)) ⟨hx, hcb, hml, hown, hts⟩ hM cw ⟨mv_blind, mv_pre C hW hV hn0.1 hz hSa⟩ rfl hlenA hl.1 hstk (lv_room (by rw [mv_stw_e]; exact h4)) hd ⟨by show _ ≤ mt_mc (mv_r mi); omega, by show _ ≤ mt_ms (mv_r mi); omega⟩) hV kk
    | _ => cases hf
  · exact hb.elim
theorem ms_objInit {i : Instr} {ln : Nat} (hd : decode (mt_cc (mv_r mi)) pc = .ok (i, ln)) (hf : mv_fit (mv_r mi) pc ln (.invokespecial 0) a b c v ts i = true) (hn : mv_RN G mi n0 s0 (pc + ln) post NX) (h9 : c = 1)
    (hb : mv_pr st fun _ r => if mv_stw r ≤ 8 then NX L r sh M else False) : mv_Run G mi n0 s0 pc L st sh M post := by
  obtain ⟨k, r, rfl, hb1⟩ := mv_pr_s hb
  obtain ⟨h4, hb2⟩ := mv_if_s hb1
  intro p e s m args below meth cx H locs ls C hl hL hS hW hV hn0 hs0
  obtain ⟨hx, hcb, hml, hown, hts, hrt, hlk, hnm, hsz, hX, hbo, hK⟩ := id C
  have hS2 := List.forall_mem_cons.mp hS
  unfold mv_fit at hf
  dsimp only at hf
  cases i with
  | invokespecial idx =>
    dsimp only at hf
    rw [if_pos h9] at hf
    simp only [Bool.and_eq_true, decide_eq_true_eq] at hf
    obtain ⟨rfl, w0, w1, w2, hfr, hlo⟩ := hf
    have hfr := Nat.le_of_ble_eq_true hfr
    have hlo := Nat.le_of_ble_eq_true hlo
    have K := hn _ _ _ _ hb2 p e s m args below meth cx H locs ls C hl hL hS2.2 hW hV hn0 hs0
    refine W.objInit (rest := r.map (mv_ct G)) hx hcb hown (hts _ (mv_hw_mem w0)) (hts _ (mv_hw_mem w1)) (hts _ (mv_hw_mem w2)) rfl (by rw [hml]; exact hl.1) rfl hd hfr ?_ K
    rw [mv_stw_e]
    show 2 * 0 + mv_stw r + 12 ≤ mt_lo (mv_r mi)
    omega
  | _ => cases hf
theorem ms_ireturn {i : Instr} {ln : Nat} (hd : decode (mt_cc (mv_r mi)) pc = .ok (i, ln)) (hf : mv_fit (mv_r mi) pc ln .ireturn a b c v ts i = true)
    (hb : match st with
      | [.inl x] => if 150 ≤ mt_mc (mv_r mi) ∨ (sh.1 = n0 + mt_mc (mv_r mi) ∧ sh.2.1 = s0 + mt_ms (mv_r mi)) then (if a = 1 then (x = 0 ∨ x = 1) ∧ post (some (.inl x)) sh M else post (some (.inl x)) sh M) else False
      | _ => False) : mv_Run G mi n0 s0 pc L st sh M post := by
  split at hb
  · rename_i x
    obtain ⟨h12, hb⟩ := mv_if_s hb
    intro p e s m args below meth cx H locs ls C hl hL hS hW hV hn0 hs0
    obtain ⟨hx, hcb, hml, hown, hts, hrt, hlk, hnm, hsz, hX, hbo, hK⟩ := id C
    have h : (decide (ln = 1) && (decide (i = .ireturn) && (if a = 1 then decide (mt_ret (mv_r mi) = some .boolean) else decide (mt_ret (mv_r mi) = some .int)))) = true := hf
    rw [Bool.and_eq_true, Bool.and_eq_true, decide_eq_true_eq, decide_eq_true_eq] at h
    obtain ⟨rfl, rfl, h⟩ := h
    refine W.widen (show sh.1 - n0 ≤ mt_mc (mv_r mi) by omega) (show sh.2.1 - s0 ≤ mt_ms (mv_r mi) by omega) ?_
    by_cases h9 : a = 1
    · rw [if_pos h9] at hb h
      have hret := hrt.trans (of_decide_eq_true h)
      exact W.zret (v := Int32.ofInt x) hx hcb hret (by rcases hb.1 with rfl | rfl <;> decide) (fun t ht _ => ⟨⟨some (.inl x), sh, M, rfl, fun z hz => by cases hz; exact hS _ List.mem_cons_self, hb.2, h12, by rw [ht]; exact hW⟩, hV.F ht⟩) hV.2.2 hd hlk
    · rw [if_neg h9] at hb h
      have hret := hrt.trans (of_decide_eq_true h)
      exact W.iret (v := Int32.ofInt x) hx hcb hret (fun t ht _ => ⟨⟨some (.inl x), sh, M, rfl, fun z hz => by cases hz; exact hS _ List.mem_cons_self, hb, h12, by rw [ht]; exact hW⟩, hV.F ht⟩) hV.2.2 hd hlk
  · exact hb.elim
theorem ms_lreturn {i : Instr} {ln : Nat} (hd : decode (mt_cc (mv_r mi)) pc = .ok (i, ln)) (hf : mv_fit (mv_r mi) pc ln .lreturn a b c v ts i = true)
    (hb : match st with
      | [.inr (.inl x)] => if sh.1 = n0 + mt_mc (mv_r mi) ∧ sh.2.1 = s0 + mt_ms (mv_r mi) then post (some (.inr (.inl x))) sh M else False
      | _ => False) : mv_Run G mi n0 s0 pc L st sh M post := by
  split at hb
  · rename_i x
    obtain ⟨⟨h1, h2⟩, hb⟩ := mv_if_s hb
    intro p e s m args below meth cx H locs ls C hl hL hS hW hV hn0 hs0
    obtain ⟨hx, hcb, hml, hown, hts, hrt, hlk, hnm, hsz, hX, hbo, hK⟩ := id C
    have h : (decide (ln = 1) && (decide (i = .lreturn) && decide (mt_ret (mv_r mi) = some .long))) = true := hf
    simp only [Bool.and_eq_true, decide_eq_true_eq] at h
    obtain ⟨rfl, rfl, h⟩ := h
    rw [show sh.1 - n0 = mt_mc (mv_r mi) by omega, show sh.2.1 - s0 = mt_ms (mv_r mi) by omega]
    exact W.lret (v := Int64.ofInt x) hx hcb (hrt.trans h) (fun t ht _ => ⟨⟨some (.inr (.inl x)), sh, M, rfl, fun z hz => by cases hz; exact hS _ List.mem_cons_self, hb, Or.inr ⟨h1, h2⟩, by rw [ht]; exact hW⟩, hV.F ht⟩) hV.2.2 hd hlk
  · exact hb.elim
theorem ms_return {i : Instr} {ln : Nat} (hd : decode (mt_cc (mv_r mi)) pc = .ok (i, ln)) (hf : mv_fit (mv_r mi) pc ln .return_ a b c v ts i = true)
    (hb : match st with
      | [] => if sh.1 = n0 + mt_mc (mv_r mi) ∧ sh.2.1 = s0 + mt_ms (mv_r mi) then post none sh M else False
      | _ => False) : mv_Run G mi n0 s0 pc L st sh M post := by
  split at hb
  · obtain ⟨⟨h1, h2⟩, hb⟩ := mv_if_s hb
    intro p e s m args below meth cx H locs ls C hl hL hS hW hV hn0 hs0
    obtain ⟨hx, hcb, hml, hown, hts, hrt, hlk, hnm, hsz, hX, hbo, hK⟩ := id C
    have h : (decide (ln = 1) && (decide (i = .return_) && decide (mt_ret (mv_r mi) = none))) = true := hf
    simp only [Bool.and_eq_true, decide_eq_true_eq] at h
    obtain ⟨rfl, rfl, h⟩ := h
    rw [show sh.1 - n0 = mt_mc (mv_r mi) by omega, show sh.2.1 - s0 = mt_ms (mv_r mi) by omega]
    exact W.vret hx hcb (hrt.trans h) (fun t ht _ => ⟨⟨none, sh, M, rfl, fun z hz => (by cases hz), hb, Or.inr ⟨h1, h2⟩, by rw [ht]; exact hW⟩, hV.F ht⟩) hV.2.2 hd hlk
  · exact hb.elim
theorem mv_sw_s {jump : Nat → Prop} {x : Int} {d : Nat} : ∀ {ts : List Nat} {lo : Int}, mv_sw jump x d lo ts → (∃ (j t : Nat), ts[j]? = some t ∧ x = lo + (j : Int) ∧ jump t) ∨ ((x < lo ∨ lo + (ts.length : Int) ≤ x) ∧ jump d)
  | [], lo, h => Or.inr ⟨by rw [List.length_nil]; omega, h⟩
  | t :: ts, lo, h => by
    unfold mv_sw at h
    split at h
    · exact Or.inl ⟨0, t, rfl, by omega, h⟩
    · rename_i hx
      rcases mv_sw_s h with ⟨j, t', h1, h2, h3⟩ | ⟨h1, h2⟩
      · exact Or.inl ⟨j + 1, t', by rw [List.getElem?_cons_succ]; exact h1, by omega, h3⟩
      · exact Or.inr ⟨by rw [List.length_cons]; omega, h2⟩
theorem ms_switch {i : Instr} {ln : Nat} (hd : decode (mt_cc (mv_r mi)) pc = .ok (i, ln)) (hf : mv_fit (mv_r mi) pc ln (.tableswitch 0 0 0 #[]) a b c v ts i = true) (hj : ∀ t, mv_RN G mi n0 s0 t post (JP t))
    (hb : mv_pi st fun x r => mv_sw (fun t => JP t L r sh M) x a v ts) : mv_Run G mi n0 s0 pc L st sh M post := by
  obtain ⟨x, r, rfl, hb1⟩ := mv_pi_s hb
  intro p e s m args below meth cx H locs ls C hl hL hS hW hV hn0 hs0
  obtain ⟨hx, hcb, hml, hown, hts, hrt, hlk, hnm, hsz, hX, hbo, hK⟩ := id C
  have hS2 := List.forall_mem_cons.mp hS
  have hxr : mv_R32 x := hS2.1
  unfold mv_fit at hf
  dsimp only at hf
  rw [Bool.and_eq_true] at hf
  obtain ⟨-, hf⟩ := hf
  cases i with
  | tableswitch d lo hi offs =>
    simp only [Bool.and_eq_true, decide_eq_true_eq] at hf
    obtain ⟨h1, rfl, h2, h3⟩ := hf
    rcases mv_sw_s hb1 with ⟨j, t, g1, g2, g3⟩ | ⟨g1, g2⟩
    · have hjl : j < ts.length := (List.getElem?_eq_some_iff.mp g1).1
      have ho : offs[((Int32.ofInt x).toInt - lo).toNat]? = some ((t : Int) - (pc : Int)) := by
        rw [mv_i32 hxr, ← Array.getElem?_toList, h3, List.getElem?_map, show (x - lo).toNat = j by omega, g1]
        rfl
      exact lv_tableIn hx hcb hd (by rw [mv_i32 hxr]; omega) (by rw [mv_i32 hxr]; omega) ho (by omega) (hj t _ _ _ _ g3 p e s m args below meth cx H locs ls C hl hL hS2.2 hW hV hn0 hs0)
    · exact lv_tableOut hx hcb hd (by rw [mv_i32 hxr]; omega) h1 (hj a _ _ _ _ g2 p e s m args below meth cx H locs ls C hl hL hS2.2 hW hV hn0 hs0)
  | _ => cases hf
end MR
end
section
/-! THE SMALL MACHINE: any instruction; a stretch of code; a method -/
section MB
variable {G : mv_G} {mi n0 s0 : Nat} {post : Option mv_V → mv_SH → mv_Mem → Prop} {pc a b c : Nat} {v : Int} {ts : List Nat} {L : mv_L} {st : List mv_V} {sh : mv_SH} {M : mv_Mem}
variable {NX : mv_L → List mv_V → mv_SH → mv_Mem → Prop} {JP : Nat → mv_L → List mv_V → mv_SH → mv_Mem → Prop}
set_option maxHeartbeats 4000000 in
theorem mv_body_ok {i ni : Instr} {ln : Nat} (hd : decode (mt_cc (mv_r mi)) pc = .ok (i, ln)) (hf : mv_fit (mv_r mi) pc ln ni a b c v ts i = true) (hn : mv_RN G mi n0 s0 (pc + ln) post NX) (hj : ∀ t, mv_RN G mi n0 s0 t post (JP t))
    (hb : mv_body (mv_Wp G) NX JP post n0 s0 (mt_mc (mv_r mi)) (mt_ms (mv_r mi)) ni a b c v ts L st sh M) : mv_Run G mi n0 s0 pc L st sh M post := by
  cases ni with
  | iadd =>
    have h : (decide (ln = 1) && decide (i = Instr.iadd)) = true := hf
    simp only [Bool.and_eq_true, decide_eq_true_eq] at h
    obtain ⟨rfl, rfl⟩ := h
    exact ms_iadd hd hn hb
  | isub =>
    have h : (decide (ln = 1) && decide (i = Instr.isub)) = true := hf
    simp only [Bool.and_eq_true, decide_eq_true_eq] at h
    obtain ⟨rfl, rfl⟩ := h
    exact ms_isub hd hn hb
  | imul =>
    have h : (decide (ln = 1) && decide (i = Instr.imul)) = true := hf
    simp only [Bool.and_eq_true, decide_eq_true_eq] at h
    obtain ⟨rfl, rfl⟩ := h
    exact ms_imul hd hn hb
  | idiv =>
    have h : (decide (ln = 1) && decide (i = Instr.idiv)) = true := hf
    simp only [Bool.and_eq_true, decide_eq_true_eq] at h
    obtain ⟨rfl, rfl⟩ := h
    exact ms_idiv hd hn hb
  | irem =>
    have h : (decide (ln = 1) && decide (i = Instr.irem)) = true := hf
    simp only [Bool.and_eq_true, decide_eq_true_eq] at h
    obtain ⟨rfl, rfl⟩ := h
    exact ms_irem hd hn hb
  | ineg =>
    have h : (decide (ln = 1) && decide (i = Instr.ineg)) = true := hf
    simp only [Bool.and_eq_true, decide_eq_true_eq] at h
    obtain ⟨rfl, rfl⟩ := h
    exact ms_ineg hd hn hb
  | iand =>
    have h : (decide (ln = 1) && decide (i = Instr.iand)) = true := hf
    simp only [Bool.and_eq_true, decide_eq_true_eq] at h
    obtain ⟨rfl, rfl⟩ := h
    exact ms_iand hd hn hb
  | ixor =>
    have h : (decide (ln = 1) && decide (i = Instr.ixor)) = true := hf
    simp only [Bool.and_eq_true, decide_eq_true_eq] at h
    obtain ⟨rfl, rfl⟩ := h
    exact ms_ixor hd hn hb
  | ishl =>
    have h : (decide (ln = 1) && decide (i = Instr.ishl)) = true := hf
    simp only [Bool.and_eq_true, decide_eq_true_eq] at h
    obtain ⟨rfl, rfl⟩ := h
    exact ms_ishl hd hn hb
  | ishr =>
    have h : (decide (ln = 1) && decide (i = Instr.ishr)) = true := hf
    simp only [Bool.and_eq_true, decide_eq_true_eq] at h
    obtain ⟨rfl, rfl⟩ := h
    exact ms_ishr hd hn hb
  | ladd =>
    have h : (decide (ln = 1) && decide (i = Instr.ladd)) = true := hf
    simp only [Bool.and_eq_true, decide_eq_true_eq] at h
    obtain ⟨rfl, rfl⟩ := h
    exact ms_ladd hd hn hb
  | lsub =>
    have h : (decide (ln = 1) && decide (i = Instr.lsub)) = true := hf
    simp only [Bool.and_eq_true, decide_eq_true_eq] at h
    obtain ⟨rfl, rfl⟩ := h
    exact ms_lsub hd hn hb
  | lmul =>
    have h : (decide (ln = 1) && decide (i = Instr.lmul)) = true := hf
    simp only [Bool.and_eq_true, decide_eq_true_eq] at h
    obtain ⟨rfl, rfl⟩ := h
    exact ms_lmul hd hn hb
  | ldiv =>
    have h : (decide (ln = 1) && decide (i = Instr.ldiv)) = true := hf
    simp only [Bool.and_eq_true, decide_eq_true_eq] at h
    obtain ⟨rfl, rfl⟩ := h
    exact ms_ldiv hd hn hb
  | lrem =>
    have h : (decide (ln = 1) && decide (i = Instr.lrem)) = true := hf
    simp only [Bool.and_eq_true, decide_eq_true_eq] at h
    obtain ⟨rfl, rfl⟩ := h
    exact ms_lrem hd hn hb
  | lneg =>
    have h : (decide (ln = 1) && decide (i = Instr.lneg)) = true := hf
    simp only [Bool.and_eq_true, decide_eq_true_eq] at h
    obtain ⟨rfl, rfl⟩ := h
    exact ms_lneg hd hn hb
  | land =>
    have h : (decide (ln = 1) && decide (i = Instr.land)) = true := hf
    simp only [Bool.and_eq_true, decide_eq_true_eq] at h
    obtain ⟨rfl, rfl⟩ := h
    exact ms_land hd hn hb
  | lor =>
    have h : (decide (ln = 1) && decide (i = Instr.lor)) = true := hf
    simp only [Bool.and_eq_true, decide_eq_true_eq] at h
    obtain ⟨rfl, rfl⟩ := h
    exact ms_lor hd hn hb
  | lxor =>
    have h : (decide (ln = 1) && decide (i = Instr.lxor)) = true := hf
    simp only [Bool.and_eq_true, decide_eq_true_eq] at h
    obtain ⟨rfl, rfl⟩ := h
    exact ms_lxor hd hn hb
  | lshl =>
    have h : (decide (ln = 1) && decide (i = Instr.lshl)) = true := hf
    simp only [Bool.and_eq_true, decide_eq_true_eq] at h
    obtain ⟨rfl, rfl⟩ := h
    exact ms_lshl hd hn hb
  | lshr =>
    have h : (decide (ln = 1) && decide (i = Instr.lshr)) = true := hf
    simp only [Bool.and_eq_true, decide_eq_true_eq] at h
    obtain ⟨rfl, rfl⟩ := h
    exact ms_lshr hd hn hb
  | lushr =>
    have h : (decide (ln = 1) && decide (i = Instr.lushr)) = true := hf
    simp only [Bool.and_eq_true, decide_eq_true_eq] at h
    obtain ⟨rfl, rfl⟩ := h
    exact ms_lushr hd hn hb
  | i2l =>
    have h : (decide (ln = 1) && decide (i = Instr.i2l)) = true := hf
    simp only [Bool.and_eq_true, decide_eq_true_eq] at h
    obtain ⟨rfl, rfl⟩ := h
    exact ms_i2l hd hn hb
  | l2i =>
    have h : (decide (ln = 1) && decide (i = Instr.l2i)) = true := hf
    simp only [Bool.and_eq_true, decide_eq_true_eq] at h
    obtain ⟨rfl, rfl⟩ := h
    exact ms_l2i hd hn hb
  | lcmp =>
    have h : (decide (ln = 1) && decide (i = Instr.lcmp)) = true := hf
    simp only [Bool.and_eq_true, decide_eq_true_eq] at h
    obtain ⟨rfl, rfl⟩ := h
    exact ms_lcmp hd hn hb
  | dup =>
    have h : (decide (ln = 1) && decide (i = Instr.dup)) = true := hf
    simp only [Bool.and_eq_true, decide_eq_true_eq] at h
    obtain ⟨rfl, rfl⟩ := h
    exact ms_dup hd hn hb
  | dup2 =>
    have h : (decide (ln = 1) && decide (i = Instr.dup2)) = true := hf
    simp only [Bool.and_eq_true, decide_eq_true_eq] at h
    obtain ⟨rfl, rfl⟩ := h
    exact ms_dup2 hd hn hb
  | pop =>
    have h : (decide (ln = 1) && decide (i = Instr.pop)) = true := hf
    simp only [Bool.and_eq_true, decide_eq_true_eq] at h
    obtain ⟨rfl, rfl⟩ := h
    exact ms_pop hd hn hb
  | iaload =>
    have h : (decide (ln = 1) && decide (i = Instr.iaload)) = true := hf
    simp only [Bool.and_eq_true, decide_eq_true_eq] at h
    obtain ⟨rfl, rfl⟩ := h
    exact ms_iaload hd hn hb
  | laload =>
    have h : (decide (ln = 1) && decide (i = Instr.laload)) = true := hf
    simp only [Bool.and_eq_true, decide_eq_true_eq] at h
    obtain ⟨rfl, rfl⟩ := h
    exact ms_laload hd hn hb
  | baload =>
    have h : (decide (ln = 1) && decide (i = Instr.baload)) = true := hf
    simp only [Bool.and_eq_true, decide_eq_true_eq] at h
    obtain ⟨rfl, rfl⟩ := h
    exact ms_baload hd hn hb
  | iastore =>
    have h : (decide (ln = 1) && decide (i = Instr.iastore)) = true := hf
    simp only [Bool.and_eq_true, decide_eq_true_eq] at h
    obtain ⟨rfl, rfl⟩ := h
    exact ms_iastore hd hn hb
  | lastore =>
    have h : (decide (ln = 1) && decide (i = Instr.lastore)) = true := hf
    simp only [Bool.and_eq_true, decide_eq_true_eq] at h
    obtain ⟨rfl, rfl⟩ := h
    exact ms_lastore hd hn hb
  | bastore =>
    have h : (decide (ln = 1) && decide (i = Instr.bastore)) = true := hf
    simp only [Bool.and_eq_true, decide_eq_true_eq] at h
    obtain ⟨rfl, rfl⟩ := h
    exact ms_bastore hd hn hb
  | arraylength =>
    have h : (decide (ln = 1) && decide (i = Instr.arraylength)) = true := hf
    simp only [Bool.and_eq_true, decide_eq_true_eq] at h
    obtain ⟨rfl, rfl⟩ := h
    exact ms_arraylength hd hn hb
  | iconst n => exact ms_iconst (a := a) (b := b) (c := c) (v := v) (ts := ts) hd hf hn hb
  | lconst n => exact ms_lconst (a := a) (b := b) (c := c) (v := v) (ts := ts) hd hf hn hb
  | iload n => exact ms_iload (a := a) (b := b) (c := c) (v := v) (ts := ts) hd hf hn hb
  | lload n => exact ms_lload (a := a) (b := b) (c := c) (v := v) (ts := ts) hd hf hn hb
  | aload n => exact ms_aload (a := a) (b := b) (c := c) (v := v) (ts := ts) hd hf hn hb
  | istore n => exact ms_istore (a := a) (b := b) (c := c) (v := v) (ts := ts) hd hf hn hb
  | lstore n => exact ms_lstore (a := a) (b := b) (c := c) (v := v) (ts := ts) hd hf hn hb
  | astore n => exact ms_astore (a := a) (b := b) (c := c) (v := v) (ts := ts) hd hf hn hb
  | iinc n k => exact ms_iinc (a := a) (b := b) (c := c) (v := v) (ts := ts) hd hf hn hb
  | goto n => exact ms_goto (a := a) (b := b) (c := c) (v := v) (ts := ts) hd hf (hj a) hb
  | ifCond k n => exact ms_if (JP := JP) (a := a) (b := b) (c := c) (v := v) (ts := ts) hd hf hn (hj a) hb
  | if_icmp k n => exact ms_icmp (JP := JP) (a := a) (b := b) (c := c) (v := v) (ts := ts) hd hf hn (hj a) hb
  | tableswitch d lo hi offs => exact ms_switch (a := a) (b := b) (c := c) (v := v) (ts := ts) hd hf hj hb
  | getfield n => exact ms_getfield (a := a) (b := b) (c := c) (v := v) (ts := ts) hd hf hn hb
  | putfield n => exact ms_putfield (a := a) (b := b) (c := c) (v := v) (ts := ts) hd hf hn hb
  | newarray ty =>
    cases ty with
    | int => exact ms_newarray_int (a := a) (b := b) (c := c) (v := v) (ts := ts) hd hf hn hb
    | long => exact ms_newarray_long (a := a) (b := b) (c := c) (v := v) (ts := ts) hd hf hn hb
    | boolean => exact ms_newarray_boolean (a := a) (b := b) (c := c) (v := v) (ts := ts) hd hf hn hb
    | _ =>
      exfalso
      unfold mv_fit at hf
      dsimp only at hf
      cases i with
      | newarray ty' =>
        simp only [Bool.and_eq_true, decide_eq_true_eq] at hf
        obtain ⟨-, -, -, h1, h2⟩ := hf
        have h3 := Nat.le_of_ble_eq_true h2
        have h4 : a = 0 := h1
        omega
      | _ => cases hf
  | new n => exact ms_new (a := a) (b := b) (c := c) (v := v) (ts := ts) hd hf hn hb
  | invokespecial n =>
    by_cases h9 : c = 1
    · have hb' : (if c = 1 then _ else _) := hb
      rw [if_pos h9] at hb'
      exact ms_objInit (a := a) (b := b) (c := c) (v := v) (ts := ts) hd hf hn h9 hb'
    · have hb' : (if c = 1 then _ else _) := hb
      rw [if_neg h9] at hb'
      exact ms_special (a := a) (b := b) (c := c) (v := v) (ts := ts) hd hf hn h9 hb'
  | invokevirtual n => exact ms_virtual (a := a) (b := b) (c := c) (v := v) (ts := ts) hd hf hn hb
  | invokestatic n =>
    by_cases h9 : c = 1
    · have hb' : (if c = 1 then _ else _) := hb
      rw [if_pos h9] at hb'
      exact ms_static (a := a) (b := b) (c := c) (v := v) (ts := ts) hd hf hn h9 hb'
    · have hb' : (if c = 1 then _ else _) := hb
      rw [if_neg h9] at hb'
      exact ms_copy (a := a) (b := b) (c := c) (v := v) (ts := ts) hd hf hn h9 hb'
  | ireturn => exact ms_ireturn (a := a) (b := b) (c := c) (v := v) (ts := ts) hd hf hb
  | lreturn => exact ms_lreturn (a := a) (b := b) (c := c) (v := v) (ts := ts) hd hf hb
  | return_ => exact ms_return (a := a) (b := b) (c := c) (v := v) (ts := ts) hd hf hb
  | _ => exact hb.elim
def mv_sx (mi : Nat) (s : List mv_E) : Prop := (∀ e ∈ s, mv_okE (mv_r mi) e = true) ∧ mv_ch s = true
theorem mv_okM_s (h : mv_okM mi = true) : mv_sx mi (mt_code (mv_r mi)) := by
  unfold mv_okM at h
  rw [Bool.and_eq_true] at h
  exact ⟨fun e he => List.all_eq_true.mp h.1 e he, h.2⟩
theorem mv_sx_tl {e : mv_E} {r : List mv_E} (h : mv_sx mi (e :: r)) : mv_sx mi r := by
  refine ⟨fun x hx => h.1 x (List.mem_cons_of_mem _ hx), ?_⟩
  have h2 := h.2
  cases r with
  | nil => rfl
  | cons e' r' =>
    unfold mv_ch at h2
    rw [Bool.and_eq_true] at h2
    exact h2.2
theorem mv_sx_ch {e e' : mv_E} {r : List mv_E} (h : mv_sx mi (e :: e' :: r)) : e.1 + e.2.1 = e'.1 := by
  have h2 := h.2
  unfold mv_ch at h2
  rw [Bool.and_eq_true, decide_eq_true_eq] at h2
  exact h2.1
theorem mv_at_s {t : Nat} : ∀ {s : List mv_E}, mv_sx mi s → mv_sx mi (mv_at t s)
  | [], h => h
  | e :: r, h => by
    unfold mv_at
    split
    · exact h
    · exact mv_at_s (mv_sx_tl h)
theorem mv_at_h {t : Nat} {e : mv_E} {r : List mv_E} : ∀ {s : List mv_E}, mv_at t s = e :: r → e.1 = t
  | [], h => by cases h
  | x :: s, h => by
    unfold mv_at at h
    split at h
    · rename_i hx
      cases h
      exact hx
    · exact mv_at_h h
theorem mv_run_pk {ks : List Nat} (h : mv_Run G mi n0 s0 pc (mv_pk ks L) st sh M post) : mv_Run G mi n0 s0 pc L st sh M post := by
  intro p e s m args below meth cx H locs ls C hl hL hS hW hV hn0 hs0
  have key : ∀ q ∈ mv_pk ks L, q ∈ L := by
    intro q hq
    obtain ⟨k, -, hk⟩ := List.mem_filterMap.mp hq
    obtain ⟨x, hx, rfl⟩ := Option.map_eq_some_iff.mp hk
    exact mv_lg_mem hx
  refine h p e s m args below meth cx H locs ls C ⟨hl.1, hl.2.1, fun q hq => ?_⟩ (fun q hq => hL q (key q hq)) hS hW hV hn0 hs0
  obtain ⟨x, hx, rfl⟩ := List.mem_map.mp hq
  exact hl.2.2 _ (List.mem_map.mpr ⟨x, key x hx, rfl⟩)
theorem mv_vc_nil {cuts : List (Nat × List Nat)} {n : Nat} {f : Bool} (h : mv_vc G mi n0 s0 cuts post n f [] L st sh M) : False := by
  cases n <;> exact h
theorem mv_vc_ok {cuts : List (Nat × List Nat)} (hok : mv_okM mi = true) : ∀ (n : Nat) (f : Bool) (e : mv_E) (r : List mv_E) (L : mv_L) (st : List mv_V) (sh : mv_SH) (M : mv_Mem), mv_sx mi (e :: r) → mv_vc G mi n0 s0 cuts post n f (e :: r) L st sh M → mv_Run G mi n0 s0 e.1 L st sh M post
  | 0, _, _, _, _, _, _, _, _, h => h.elim
  | n + 1, f, e, r, L, st, sh, M, hs, h => by
    unfold mv_vc at h
    split at h
    · exact mv_run_pk h
    · have h1 := hs.1 e List.mem_cons_self
      obtain ⟨pc, ln, ni, a, b, c, v, ts⟩ := e
      unfold mv_okE at h1
      dsimp only at h1
      split at h1
      · rename_i i k hd
        rw [Bool.and_eq_true, decide_eq_true_eq] at h1
        obtain ⟨rfl, hf⟩ := h1
        refine mv_body_ok hd hf (NX := mv_vc G mi n0 s0 cuts post n false r) (JP := fun t => mv_vc G mi n0 s0 cuts post n false (mv_at t (mt_code (mv_r mi)))) (fun L' st' sh' M' h' => ?_) (fun t L' st' sh' M' h' => ?_) h
        · cases r with
          | nil => exact (mv_vc_nil h').elim
          | cons e' r' =>
            have hc := mv_sx_ch hs
            have K := mv_vc_ok hok n false e' r' L' st' sh' M' (mv_sx_tl hs) h'
            rw [← hc] at K
            exact K
        · cases hat : mv_at t (mt_code (mv_r mi)) with
          | nil => rw [hat] at h'; exact (mv_vc_nil h').elim
          | cons e' r' =>
            rw [hat] at h'
            have hc := mv_at_h hat
            have K := mv_vc_ok hok n false e' r' L' st' sh' M' (by rw [← hat]; exact mv_at_s (mv_okM_s hok)) h'
            rw [hc] at K
            exact K
      · cases h1
/-- from a cut on: it's enough to show what mv_vc says -/
theorem mv_run (cuts : List (Nat × List Nat)) (n : Nat) (hok : mv_okM mi = true) (h : mv_vc G mi n0 s0 cuts post n true (mv_at pc (mt_code (mv_r mi))) L st sh M) : mv_Run G mi n0 s0 pc L st sh M post := by
  cases hat : mv_at pc (mt_code (mv_r mi)) with
  | nil => rw [hat] at h; exact (mv_vc_nil h).elim
  | cons e r =>
    rw [hat] at h
    have K := mv_vc_ok hok n true e r L st sh M (by rw [← hat]; exact mv_at_s (mv_okM_s hok)) h
    rw [mv_at_h hat] at K
    exact K
theorem mv_en_m {as : List mv_V} : ∀ (i : Nat), lv_args i (as.map (mv_ct G)) = (mv_en i as).map (fun q => (q.1, mv_ct G q.2)) := by
  induction as with
  | nil => intro i; rfl
  | cons x as ih =>
    intro i
    show (i, mv_ct G x) :: lv_args (if (mv_ct G x).category = 2 then i + 2 else i + 1) (as.map (mv_ct G)) = (i, mv_ct G x) :: (mv_en (i + if mv_isL x then 2 else 1) as).map _
    have e1 : (if (mv_ct G x).category = 2 then i + 2 else i + 1) = i + if mv_isL x then 2 else 1 := by obtain x | x | x := x <;> rfl
    rw [e1, ih]
theorem mv_en_o {as : List mv_V} (h : ∀ x ∈ as, mv_ov x) : ∀ (i : Nat), ∀ q ∈ mv_en i as, mv_ov q.2 := by
  induction as with
  | nil => intro i q hq; cases hq
  | cons x as ih =>
    intro i q hq
    rcases List.mem_cons.mp hq with rfl | hq
    · exact h _ List.mem_cons_self
    · exact ih (fun y hy => h y (List.mem_cons_of_mem _ hy)) _ q hq
theorem mv_sl_e {as : List mv_V} : (lg_sl (as.map (mv_ct G))).length = mv_stw as := by
  induction as with
  | nil => rfl
  | cons x as ih =>
    have e1 : mv_stw (x :: as) = (if mv_isL x then 2 else 1) + mv_stw as := rfl
    rw [e1, ← ih]
    show ((if (mv_ct G x).category = 2 then [Slot.val (mv_ct G x), Slot.second] else [Slot.val (mv_ct G x)]) ++ lg_sl (as.map (mv_ct G))).length = _
    rw [List.length_append]
    obtain x | x | x := x <;> rfl
/-- a contract by a walk, of any method that no entry runs instead -/
theorem mv_ofW {l : Launch} {y : MethodName} {ws ws' : List Jvm.Cond} {rm : Room} {Pc : Array Value → State → Prop} {Qc : Array Value → State → Outcome → State → Prop} {mc ms : Nat} {free : Addr → Prop} {cc : ByteArray} {maxL : Nat} {ret : Option FieldType}
    (hy : plainFor y = true) (hw : ws = Jvm.Cond.code y cc maxL ret :: ws')
    (body : ∀ p e s m args below meth c s₁, BodyLoose p l y (headSpec ws rm) cc maxL ret e s m args below meth c s₁ → c.maxLocals = maxL → Pc args s →
      W p l e (headSpec ws rm).room s m args below meth c s.heap [] 0 0 (MQ below Qc args s mc ms free) (entryFrame m args maxL)) : Met l y ws rm Pc Qc mc ms free := by
  refine MetFree.of_bodySF (code := cc) (maxLocals := maxL) (ret := ret) hy ?_ ?_
  · intro args s m h hn
    obtain ⟨meth, c, h1, h2, h3, h4, h5, h6, -, -⟩ := Cond.code_spec hn (atoms_spec (ws := ws) h _ (by rw [hw]; exact List.mem_cons_self))
    exact ⟨meth, c, h1, h2, h3, h4, h5, h6⟩
  · intro p e s m args below meth c s₁ B hml hP _
    have hh0 : s₁.heap = s.heap := by rw [B.state]; rfl
    obtain ⟨t, a1, o, b1, b2, b3⟩ := body p e s m args below meth c s₁ B hml hP s₁ hh0 (Stand.of_body B)
    exact ⟨t, o, a1, b1, b2, ⟨b3.1, b3.2⟩⟩
/-- a call: it's enough to show what mv_vc says from the method's entry on -/
theorem mv_wp (cuts : List (Nat × List Nat)) (n : Nat) {p : Nat} {as : List mv_V} (hok : mv_okM mi = true) (hc : mv_okC mi p = true) (hst : Nat.ble (mv_stw as) (mt_nL (mv_r mi)) = true) (h : mv_vc G mi sh.1 sh.2.1 cuts post n true (mv_at 0 (mt_code (mv_r mi))) (mv_en 0 as) [] sh M) : mv_Wp G mi as sh M post := by
  have hrun := mv_run cuts n hok h
  unfold mv_okC at hc
  simp only [Bool.and_eq_true, decide_eq_true_eq] at hc
  obtain ⟨h1, h2, h3⟩ := hc
  refine ⟨mv_hw_mem h3, mv_ofW (cc := mt_cc (mv_r mi)) (maxL := mt_nL (mv_r mi)) (ret := mt_ret (mv_r mi)) h1 rfl ?_⟩
  intro p e s m args below meth cx s₁ B hml hv
  obtain ⟨rfl, hsz, hW, hK, hX, hbo, ho⟩ := hv
  have hts : ∀ w ∈ mv_tbl, w.before (as.map (mv_ct G)).toArray s = true := fun w hw => atoms_spec (ws := mv_wl (mv_r mi)) B.pre w (List.mem_cons_of_mem _ hw)
  have hown : s.vm.findClass (mt_own (mv_r mi)) = some m.cls := by rw [h2]; exact findClass_of_methodNamed B.named
  have C : mv_Cx G mi sh.1 p s m (as.map (mv_ct G)).toArray meth cx := ⟨B.exec, B.bytes, hml, hown, hts, B.returns, B.notSynchronized, (name_of_methodNamed B.named B.method).1, hsz, hX, hbo, hK⟩
  have hl := lv_entry (as.map (mv_ct G)) (n := mt_nL (mv_r mi)) (by rw [mv_sl_e]; exact Nat.le_of_ble_eq_true hst)
  rw [mv_en_m] at hl
  rw [lg_entry_eq]
  have K := hrun p e s m (as.map (mv_ct G)).toArray below meth cx s.heap [] _ C hl (mv_en_o ho 0) (fun _ h => by cases h) hW va_S.rf ⟨Nat.le_refl _, Nat.le_add_right _ _⟩ ⟨Nat.le_refl _, Nat.le_add_right _ _⟩
  rw [Nat.sub_self, Nat.sub_self] at K
  exact K
end MB
end
section
/-! A SMALL WORLD WITHIN A LARGER ONE: what a call does where there are only the cells 1 .. n, it does where these are some of more cells -/
def mv_tr (io : Nat → Nat) : mv_V → mv_V
  | .inl x => .inl x
  | .inr (.inl x) => .inr (.inl x)
  | .inr (.inr k) => .inr (.inr (io k))
/-- the small world's addresses -/
def mv_gs (G : mv_G) (io : Nat → Nat) : mv_G := (G.1, G.2.1, (fun k => mg_a G (io k)), G.2.2.2)
def mv_mS (io : Nat → Nat) (M : mv_Mem) : mv_Mem := fun k i => M (io k) i
/-- the larger world behind what became of the small one -/
def mv_lS (io ka : Nat → Nat) (sh sm sm' : mv_SH) : mv_SH := (sh.1 + (sm'.1 - sm.1), sh.2.1 + (sm'.2.1 - sm.2.1), (fun K => if io (ka K) = K then sm'.2.2.1 (ka K) else sh.2.2.1 K), (fun K => if io (ka K) = K then sm'.2.2.2.1 (ka K) else sh.2.2.2.1 K), (fun K f => if io (ka K) = K then io (sm'.2.2.2.2 (ka K) f) else sh.2.2.2.2 K f))
def mv_lM (io ka : Nat → Nat) (M Mm : mv_Mem) : mv_Mem := fun K i => if io (ka K) = K then Mm (ka K) i else M K i
/-- the cells of the small world lie so among the larger one's -/
def mv_In (io ka : Nat → Nat) (sh sm : mv_SH) : Prop :=
  io 0 = 0 ∧ (∀ k, ka (io k) = k) ∧ (∀ j, io (sm.1 + 1 + j) = sh.1 + 1 + j) ∧ (∀ k, k ≤ sm.1 → io k ≤ sh.1) ∧
  (∀ k, sm.2.2.1 k = sh.2.2.1 (io k)) ∧ (∀ k, sm.2.2.2.1 k = sh.2.2.2.1 (io k)) ∧ ∀ k f, io (sm.2.2.2.2 k f) = sh.2.2.2.2 (io k) f
section FR
variable {G : mv_G} {io ka : Nat → Nat} {sh sm sm' : mv_SH} {M Mm : mv_Mem}
theorem mv_io_0 (hI : mv_In io ka sh sm) {k : Nat} (h : 1 ≤ k) : 1 ≤ io k := by
  obtain ⟨h0, h1, -⟩ := hI
  rcases Nat.eq_zero_or_pos (io k) with e | e
  · have := h1 k
    have := h1 0
    rw [h0] at this
    rw [e] at *
    omega
  · exact e
theorem mv_ad_s (hI : mv_In io ka sh sm) (k : Nat) : mv_ad (mv_gs G io) k = mv_ad G (io k) := by
  unfold mv_ad
  by_cases h : k = 0
  · subst h
    rw [if_pos rfl, if_pos hI.1]
    rfl
  · have := mv_io_0 hI (show 1 ≤ k by omega)
    rw [if_neg h, if_neg (by omega)]
    rfl
theorem mv_ct_s (hI : mv_In io ka sh sm) (v : mv_V) : mv_ct (mv_gs G io) v = mv_ct G (mv_tr io v) := by
  obtain x | x | x := v
  · rfl
  · rfl
  · exact congrArg Value.ref (mv_ad_s hI x)
theorem mv_ov_s {v : mv_V} : mv_ov (mv_tr io v) ↔ mv_ov v := by
  obtain x | x | x := v <;> rfl
theorem mg_A_s (hI : mv_In io ka sh sm) {q : Nat} (h : mg_A (mv_gs G io) q) : mg_A G q := by
  obtain ⟨k, h1, h2⟩ := h
  exact ⟨io k, mv_io_0 hI h1, h2⟩
/-- a cell of the small world is the cell of the larger one -/
theorem mv_ce_s (hI : mv_In io ka sh sm) {sL : mv_SH} {ML : mv_Mem} {k : Nat} (h1 : sm'.2.2.1 k = sL.2.2.1 (io k)) (h2 : sm'.2.2.2.1 k = sL.2.2.2.1 (io k)) (h3 : ∀ f, io (sm'.2.2.2.2 k f) = sL.2.2.2.2 (io k) f) (h4 : ∀ i, Mm k i = ML (io k) i) : mv_ce (mv_gs G io) sm' Mm k = mv_ce G sL ML (io k) := by
  unfold mv_ce
  rw [h1, h2]
  have e1 : (fun i => Int32.ofInt (Mm k i)) = (fun i => Int32.ofInt (ML (io k) i)) := funext fun i => by rw [h4 i]
  have e2 : (fun i => Int64.ofInt (Mm k i)) = (fun i => Int64.ofInt (ML (io k) i)) := funext fun i => by rw [h4 i]
  have e3 : mv_fv (mv_gs G io) sm' Mm (sL.2.2.1 (io k)) k = mv_fv G sL ML (sL.2.2.1 (io k)) (io k) := by
    funext f
    unfold mv_fv
    rw [← h3 f, h4 f, mv_ad_s hI]
    by_cases h : sm'.2.2.2.2 k f = 0
    · have e0 : io (sm'.2.2.2.2 k f) = 0 := by rw [h]; exact hI.1
      rw [if_pos h, if_pos e0]
    · have := mv_io_0 hI (show 1 ≤ sm'.2.2.2.2 k f by omega)
      rw [if_neg h, if_neg (show ¬ io (sm'.2.2.2.2 k f) = 0 by omega)]
  rw [e1, e2, e3]
  rfl
theorem mv_ws_1 {k : Nat} {q : Nat × va_E} (h : (mv_ws G sh M)[k]? = some q) : k < sh.1 ∧ q = (mg_a G (k + 1), mv_ce G sh M (k + 1)) := by
  unfold mv_ws at h
  rw [List.getElem?_map] at h
  by_cases hk : k < sh.1
  · rw [List.getElem?_range hk] at h
    exact ⟨hk, (Option.some.inj h).symm⟩
  · rw [List.getElem?_eq_none (by simp; omega)] at h
    cases h
theorem mv_ws_2 {k : Nat} (h1 : 1 ≤ k) (h2 : k ≤ sh.1) : (mv_ws G sh M)[k - 1]? = some (mg_a G k, mv_ce G sh M k) := by
  rw [mv_ws_get h1 h2]
  unfold mv_ad
  rw [if_neg (by omega)]
theorem mv_ws_a (hD : va_D (mg_A G) (mv_ws G sh M)) {i j : Nat} (hi : 1 ≤ i ∧ i ≤ sh.1) (hj : 1 ≤ j ∧ j ≤ sh.1) (h : mg_a G i = mg_a G j) : i = j := by
  have := hD.1 _ _ _ _ (mv_ws_2 (G := G) (M := M) hi.1 hi.2) (mv_ws_2 (G := G) (M := M) hj.1 hj.2) h
  omega
theorem mv_Wd_s (hI : mv_In io ka sh sm) {H : Heap} (h : mv_Wd G sh M H) : mv_Wd (mv_gs G io) sm (mv_mS io M) H := by
  obtain ⟨hP, hD, ⟨a1, a2, a3⟩, a4, a5⟩ := h
  obtain ⟨i0, i1, i2, i3, i4, i5, i6⟩ := id hI
  have key : ∀ {k : Nat} {q : Nat × va_E}, (mv_ws (mv_gs G io) sm (mv_mS io M))[k]? = some q → k < sm.1 ∧ 1 ≤ io (k + 1) ∧ io (k + 1) ≤ sh.1 ∧ (mv_ws G sh M)[io (k + 1) - 1]? = some q ∧ q.1 = mg_a G (io (k + 1)) := by
    intro k q hq
    obtain ⟨h1, h2⟩ := mv_ws_1 hq
    have e1 := mv_io_0 hI (show 1 ≤ k + 1 by omega)
    have e2 := i3 (k + 1) (by omega)
    refine ⟨h1, e1, e2, ?_, by rw [h2]; rfl⟩
    rw [mv_ws_2 e1 e2, h2, mv_ce_s hI (i4 _) (i5 _) (i6 _) (fun _ => rfl)]
    rfl
  refine ⟨fun k q hq => hP _ q (key hq).2.2.2.1, ⟨fun i j p q hp hq e => ?_, fun k q hq => ?_⟩, ⟨?_, ?_, fun i => ?_⟩, fun k i => ?_, fun k => ?_⟩
  · obtain ⟨b1, b2, b3, b4, b5⟩ := key hp
    obtain ⟨c1, c2, c3, c4, c5⟩ := key hq
    have e1 := hD.1 _ _ _ _ b4 c4 e
    have e2 : io (i + 1) = io (j + 1) := by omega
    have e3 := i1 (i + 1)
    rw [e2, i1] at e3
    omega
  · exact ⟨k + 1, by omega, (mv_ws_1 hq).2 ▸ rfl⟩
  · rw [i4, i0]; exact a1
  · rw [i5, i0]; exact a2
  · show M (io 0) i = _
    rw [i0]; exact a3 i
  · rw [i4]; exact a4 (io k) i
  · rw [i5]; exact a5 (io k)
theorem mv_lS_self (hI : mv_In io ka sh sm) : mv_lS io ka sh sm sm = sh := by
  obtain ⟨i0, i1, i2, i3, i4, i5, i6⟩ := id hI
  unfold mv_lS
  have e1 : (fun K => if io (ka K) = K then sm.2.2.1 (ka K) else sh.2.2.1 K) = sh.2.2.1 := funext fun K => by
    by_cases h : io (ka K) = K
    · rw [if_pos h, i4, h]
    · rw [if_neg h]
  have e2 : (fun K => if io (ka K) = K then sm.2.2.2.1 (ka K) else sh.2.2.2.1 K) = sh.2.2.2.1 := funext fun K => by
    by_cases h : io (ka K) = K
    · rw [if_pos h, i5, h]
    · rw [if_neg h]
  have e3 : (fun K f => if io (ka K) = K then io (sm.2.2.2.2 (ka K) f) else sh.2.2.2.2 K f) = sh.2.2.2.2 := funext fun K => funext fun f => by
    by_cases h : io (ka K) = K
    · rw [if_pos h, i6, h]
    · rw [if_neg h]
  rw [e1, e2, e3, Nat.sub_self, Nat.sub_self]
  rfl
theorem mv_Wd_l (hI : mv_In io ka sh sm) {H H1 : Heap} (h : mv_Wd G sh M H) (h0 : mv_hp G sh.1 H.size) (hn : sm.1 ≤ sm'.1) (hs : mv_Wd (mv_gs G io) sm' Mm H1) (hF : ∀ q, q < H.size → ¬ mg_A (mv_gs G io) q → H1[q]? = H[q]?) : mv_Wd G (mv_lS io ka sh sm sm') (mv_lM io ka M Mm) H1 := by
  obtain ⟨hP, hD, ⟨a1, a2, a3⟩, a4, a5⟩ := h
  obtain ⟨sP, sD, ⟨b1, b2, b3⟩, b4, b5⟩ := hs
  obtain ⟨i0, i1, i2, i3, i4, i5, i6⟩ := id hI
  have k0 : ka 0 = 0 := by have := i1 0; rwa [i0] at this
  have e0 : io (ka 0) = 0 := by rw [k0, i0]
  have hout : ∀ K, ¬ io (ka K) = K → 1 ≤ K ∧ K ≤ sh.1 := by
    intro K hK
    refine ⟨?_, ?_⟩
    · rcases Nat.eq_zero_or_pos K with e | e
      · subst e; exact absurd e0 hK
      · exact e
    · rcases Nat.lt_or_ge sh.1 K with e | e
      · have e1 := i2 (K - sh.1 - 1)
        rw [show sh.1 + 1 + (K - sh.1 - 1) = K by omega] at e1
        rw [← e1, i1] at hK
        exact absurd rfl hK
      · exact e
  have hin : ∀ K, 1 ≤ K → K ≤ sh.1 + (sm'.1 - sm.1) → io (ka K) = K → 1 ≤ ka K ∧ ka K ≤ sm'.1 := by
    intro K h1 h2 hK
    refine ⟨?_, ?_⟩
    · rcases Nat.eq_zero_or_pos (ka K) with e | e
      · rw [e, i0] at hK; omega
      · exact e
    · rcases Nat.lt_or_ge sm.1 (ka K) with e | e
      · have e1 := i2 (ka K - sm.1 - 1)
        rw [show sm.1 + 1 + (ka K - sm.1 - 1) = ka K by omega, hK] at e1
        omega
      · omega
  have hapart : ∀ K, ¬ io (ka K) = K → mg_a G K < H.size ∧ ¬ mg_A (mv_gs G io) (mg_a G K) := by
    intro K hK
    obtain ⟨h1, h2⟩ := hout K hK
    have hl : mg_a G K < H.size := (hP _ _ (mv_ws_2 (G := G) (M := M) h1 h2)).lt
    refine ⟨hl, fun ⟨k, g1, g2⟩ => ?_⟩
    have g2 : mg_a G K = mg_a G (io k) := g2
    have g3 := mv_io_0 hI g1
    rcases Nat.lt_or_ge sh.1 (io k) with e | e
    · have e1 := h0 (io k - sh.1 - 1)
      rw [show sh.1 + 1 + (io k - sh.1 - 1) = io k by omega] at e1
      omega
    · have e1 := mv_ws_a hD ⟨h1, h2⟩ ⟨g3, e⟩ g2
      rw [e1, i1] at hK
      exact hK rfl
  have cin : ∀ K, io (ka K) = K → mv_ce G (mv_lS io ka sh sm sm') (mv_lM io ka M Mm) K = mv_ce (mv_gs G io) sm' Mm (ka K) := by
    intro K hK
    have e := mv_ce_s (G := G) (sm' := sm') (Mm := Mm) (sL := mv_lS io ka sh sm sm') (ML := mv_lM io ka M Mm) hI (k := ka K)
      (by show _ = if io (ka (io (ka K))) = io (ka K) then _ else _; rw [if_pos (by rw [i1]), i1])
      (by show _ = if io (ka (io (ka K))) = io (ka K) then _ else _; rw [if_pos (by rw [i1]), i1])
      (fun f => by show _ = if io (ka (io (ka K))) = io (ka K) then _ else _; rw [if_pos (by rw [i1]), i1])
      (fun i => by show _ = if io (ka (io (ka K))) = io (ka K) then _ else _; rw [if_pos (by rw [i1]), i1])
    rw [e, hK]
  have cout : ∀ K, ¬ io (ka K) = K → mv_ce G (mv_lS io ka sh sm sm') (mv_lM io ka M Mm) K = mv_ce G sh M K := by
    intro K hK
    refine mv_ce_c (if_neg hK) (if_neg hK) (fun f => if_neg hK) (fun i => if_neg hK)
  refine ⟨fun k q hq => ?_, ⟨fun i j p q hp hq e => ?_, fun k q hq => ?_⟩, ⟨?_, ?_, fun i => ?_⟩, fun K i => ?_, fun K => ?_⟩
  · obtain ⟨h1, rfl⟩ := mv_ws_1 hq
    have h1 : k < sh.1 + (sm'.1 - sm.1) := h1
    by_cases hK : io (ka (k + 1)) = k + 1
    · obtain ⟨g1, g2⟩ := hin (k + 1) (by omega) (by omega) hK
      have e := sP _ _ (mv_ws_2 (G := mv_gs G io) (M := Mm) g1 g2)
      rw [cin _ hK]
      have e2 : mg_a (mv_gs G io) (ka (k + 1)) = mg_a G (k + 1) := by show mg_a G (io (ka (k + 1))) = _; rw [hK]
      rw [e2] at e
      exact e
    · obtain ⟨g1, g2⟩ := hout _ hK
      obtain ⟨g3, g4⟩ := hapart _ hK
      have e := hP _ _ (mv_ws_2 (G := G) (M := M) g1 g2)
      rw [cout _ hK]
      exact e.kept (hF _ g3 g4)
  · obtain ⟨h1, rfl⟩ := mv_ws_1 hp
    obtain ⟨h2, rfl⟩ := mv_ws_1 hq
    have h1 : i < sh.1 + (sm'.1 - sm.1) := h1
    have h2 : j < sh.1 + (sm'.1 - sm.1) := h2
    have e : mg_a G (i + 1) = mg_a G (j + 1) := e
    by_cases hK : io (ka (i + 1)) = i + 1
    · obtain ⟨g1, g2⟩ := hin (i + 1) (by omega) (by omega) hK
      by_cases hJ : io (ka (j + 1)) = j + 1
      · obtain ⟨g3, g4⟩ := hin (j + 1) (by omega) (by omega) hJ
        have e2 := mv_ws_a sD ⟨g1, g2⟩ ⟨g3, g4⟩ (by show mg_a G (io (ka (i + 1))) = mg_a G (io (ka (j + 1))); rw [hK, hJ]; exact e)
        rw [e2, hJ] at hK
        omega
      · exact absurd ⟨ka (i + 1), g1, by show _ = mg_a G (io (ka (i + 1))); rw [hK]; exact e.symm⟩ (hapart _ hJ).2
    · by_cases hJ : io (ka (j + 1)) = j + 1
      · obtain ⟨g3, g4⟩ := hin (j + 1) (by omega) (by omega) hJ
        exact absurd ⟨ka (j + 1), g3, by show _ = mg_a G (io (ka (j + 1))); rw [hJ]; exact e⟩ (hapart _ hK).2
      · have := mv_ws_a hD (hout _ hK) (hout _ hJ) e
        omega
  · obtain ⟨h1, rfl⟩ := mv_ws_1 hq
    exact ⟨k + 1, by omega, rfl⟩
  · show (if io (ka 0) = 0 then sm'.2.2.1 (ka 0) else _) = _
    rw [if_pos e0, k0]; exact b1
  · show (if io (ka 0) = 0 then sm'.2.2.2.1 (ka 0) else _) = _
    rw [if_pos e0, k0]; exact b2
  · show (if io (ka 0) = 0 then Mm (ka 0) i else _) = _
    rw [if_pos e0, k0]; exact b3 i
  · show mv_R64 (if io (ka K) = K then Mm (ka K) i else M K i) ∧ ((if io (ka K) = K then sm'.2.2.1 (ka K) else sh.2.2.1 K) ≠ 101 → mv_R32 (if io (ka K) = K then Mm (ka K) i else M K i))
    by_cases hK : io (ka K) = K
    · rw [if_pos hK, if_pos hK]; exact b4 _ i
    · rw [if_neg hK, if_neg hK]; exact a4 K i
  · show (if io (ka K) = K then sm'.2.2.2.1 (ka K) else sh.2.2.2.1 K) ≤ 100000
    by_cases hK : io (ka K) = K
    · rw [if_pos hK]; exact b5 _
    · rw [if_neg hK]; exact a5 K
theorem mv_frame (hI : mv_In io ka sh sm) {c : Nat} {as : List mv_V} {post : Option mv_V → mv_SH → mv_Mem → Prop} (hc : mt_mc (mv_r c) < 150) (h : mv_Wp (mv_gs G io) c as sm (mv_mS io M) post) :
    mv_Wp G c (as.map (mv_tr io)) sh M (fun r sh' M' => ∃ r0 sm' Mm, post r0 sm' Mm ∧ r = r0.map (mv_tr io) ∧ sh' = mv_lS io ka sh sm sm' ∧ M' = mv_lM io ka M Mm) := by
  obtain ⟨i0, i1, i2, i3, i4, i5, i6⟩ := id hI
  have hmap : (as.map (mv_tr io)).map (mv_ct G) = as.map (mv_ct (mv_gs G io)) := by
    rw [List.map_map]
    exact List.map_congr_left fun v _ => (mv_ct_s hI v).symm
  refine ⟨h.1, MetFree.mono h.2 (fun a U q => ?_) (fun _ _ _ _ _ q => q) (fun a st o t hp q => ?_)⟩
  · obtain ⟨e, q1, q2, q3, q4, q5, q6⟩ := q
    refine ⟨by rw [← hmap]; exact e, fun j => ?_, mv_Wd_s hI q2, q3, q4, ⟨q5.1, fun hA => q5.2 (mg_A_s hI hA)⟩, fun x hx => ?_⟩
    · show mg_a G (io (sm.1 + 1 + j)) = _
      rw [i2]; exact q1 j
    · exact mv_ov_s.mp (q6 _ (List.mem_map_of_mem hx))
  · obtain ⟨⟨⟨r0, sm', Mm, g1, g2, g3, g4, g5⟩, g6⟩, Ls, g7, g8⟩ := q
    obtain ⟨e, q1, q2, q3, q4, q5, q6⟩ := hp
    obtain ⟨n1, n2⟩ : sm'.1 = sm.1 + mt_mc (mv_r c) ∧ sm'.2.1 = sm.2.1 + mt_ms (mv_r c) := g4.elim (fun z => absurd z (by omega)) id
    refine ⟨⟨⟨r0.map (mv_tr io), mv_lS io ka sh sm sm', mv_lM io ka M Mm, ?_, ?_, ⟨r0, sm', Mm, g3, rfl, rfl, rfl⟩, Or.inr ⟨?_, ?_⟩, mv_Wd_l hI q2 q1 (by omega) g5 g6.2⟩, g6.1, fun q hq hn => g6.2 q hq (fun z => hn (mg_A_s hI z))⟩, Ls, g7, fun q hq => mg_A_s hI (g8 q hq)⟩
    · rw [g1]
      cases r0 with
      | none => rfl
      | some v => exact congrArg (fun z => Outcome.returned (some z)) (mv_ct_s hI v)
    · intro x hx
      cases r0 with
      | none => cases hx
      | some v => cases hx; exact mv_ov_s.mpr (g2 v rfl)
    · show sh.1 + (sm'.1 - sm.1) = _
      omega
    · show sh.2.1 + (sm'.2.1 - sm.2.1) = _
      omega
theorem mv_frame_i (hI : mv_In io ka sh sm) {c : Nat} {as : List mv_V} {F : Int → mv_Mem → Prop} (hc : mt_mc (mv_r c) < 150) (h : mv_Wp (mv_gs G io) c as sm (mv_mS io M) (mv_qi sm fun x Mm => F x (mv_lM io ka M Mm))) : mv_Wp G c (as.map (mv_tr io)) sh M (mv_qi sh F) :=
  mv_mono (mv_frame hI hc h) fun r sh' M' q => by
    obtain ⟨r0, sm', Mm, ⟨rfl, x, rfl, q1⟩, rfl, rfl, rfl⟩ := q
    rw [mv_lS_self hI]
    exact mv_qi_i q1
theorem mv_frame_l (hI : mv_In io ka sh sm) {c : Nat} {as : List mv_V} {F : Int → mv_Mem → Prop} (hc : mt_mc (mv_r c) < 150) (h : mv_Wp (mv_gs G io) c as sm (mv_mS io M) (mv_ql sm fun x Mm => F x (mv_lM io ka M Mm))) : mv_Wp G c (as.map (mv_tr io)) sh M (mv_ql sh F) :=
  mv_mono (mv_frame hI hc h) fun r sh' M' q => by
    obtain ⟨r0, sm', Mm, ⟨rfl, x, rfl, q1⟩, rfl, rfl, rfl⟩ := q
    rw [mv_lS_self hI]
    exact mv_ql_i q1
theorem mv_frame_v (hI : mv_In io ka sh sm) {c : Nat} {as : List mv_V} {F : mv_Mem → Prop} (hc : mt_mc (mv_r c) < 150) (h : mv_Wp (mv_gs G io) c as sm (mv_mS io M) (mv_qv sm fun Mm => F (mv_lM io ka M Mm))) : mv_Wp G c (as.map (mv_tr io)) sh M (mv_qv sh F) :=
  mv_mono (mv_frame hI hc h) fun r sh' M' q => by
    obtain ⟨r0, sm', Mm, ⟨rfl, rfl, q1⟩, rfl, rfl, rfl⟩ := q
    rw [mv_lS_self hI]
    exact mv_qv_i q1
end FR
end
section
/-! THE CELLS behind the constructor: tags, lengths, references (by program: wip/p40/shape.py) -/
def mh_tags : List Nat := [
  100, 11, 5, 100, 4, 100, 1, 10, 0, 100, 100, 100, 100, 100, 100, 100, 100, 7, 100, 100,
  100, 100, 100, 100, 100, 100, 100, 100, 100, 100, 2, 100, 100, 100, 100, 8, 100, 100, 100, 100,
  100, 100, 101, 100, 10, 0, 100, 100, 100, 100, 100, 100, 100, 100, 7, 100, 100, 100, 100, 100,
  100, 100, 100, 100, 100, 100, 100, 2, 100, 100, 100, 100, 6, 100, 100, 100, 101, 9, 101, 3,
  101, 101, 101, 101, 100, 101, 101, 100
  ]
def mh_lens : List Nat := [
  0, 0, 0, 60, 0, 48, 0, 0, 0, 48, 48, 48, 48, 48, 192, 3, 4, 0, 6, 6,
  6, 6, 6, 6, 6, 6, 18, 18, 108, 108, 0, 8, 8, 8, 8, 0, 144, 144, 48, 192,
  192, 192, 864, 48, 0, 0, 48, 48, 48, 48, 48, 192, 3, 4, 0, 6, 6, 6, 6, 6,
  6, 6, 6, 18, 18, 108, 108, 0, 8, 8, 8, 8, 0, 48, 48, 18, 864, 0, 48, 0,
  6, 6, 23, 23, 23, 23, 23, 7
  ]
def mh_refs : List (List Nat) := [
  [], [2, 4, 6, 7, 8, 17, 30, 44, 0, 72, 77, 79, 87], [3], [], [5], [], [7, 35, 42, 43, 8, 17], [8, 17, 30], [0, 0, 0, 0, 0, 9, 10, 11, 12, 13, 14, 15, 16], [],
  [], [], [], [], [], [], [], [0, 0, 18, 19, 20, 21, 22, 23, 24, 25, 26, 27, 28, 29], [], [],
  [], [], [], [], [], [], [], [], [], [],
  [0, 31, 32, 33, 34], [], [], [], [], [36, 37, 38, 39, 40, 41], [], [], [], [],
  [], [], [], [], [45, 54, 67], [0, 0, 0, 0, 0, 46, 47, 48, 49, 50, 51, 52, 53], [], [], [], [],
  [], [], [], [], [0, 0, 55, 56, 57, 58, 59, 60, 61, 62, 63, 64, 65, 66], [], [], [], [], [],
  [], [], [], [], [], [], [], [0, 68, 69, 70, 71], [], [],
  [], [], [73, 74, 75, 76], [], [], [], [], [78], [], [80, 81, 82, 83, 0, 0, 84, 85, 86],
  [], [], [], [], [], [], [], []
  ]
def mh_t (k : Nat) : Nat := mh_tags.getD k 0
def mh_l (l k : Nat) : Nat := if k = 0 then l else mh_lens.getD k 0
def mh_r (k f : Nat) : Nat := (mh_refs.getD k []).getD f 0
/-- the shape of the world behind the constructors, with a script of l ints -/
def mh (l : Nat) : mv_SH := (87, 4749, mh_t, mh_l l, mh_r)
end
