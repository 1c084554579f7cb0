section
-- ===== PART A: goes FIRST, ahead of the names: the tables' words, and 'selects' of the private methods out of them =====
/-- a private method of a class that the tables say can be made, by its rows of tables_1 -/
def lw_okq (q : MethodName × Nat) : Prop := (q.1.cls ≠ "java/lang/invoke/MethodHandle" ∧ q.1.cls ≠ "java/lang/invoke/VarHandle") ∧ Cond.instantiable q.1.cls q.2 ∈ tables_1 ∧ Cond.privateMethod q.1 ∈ tables_1 ∧ Cond.instanceMethod q.1 ∈ tables_1
theorem lw_p0 : lw_okq (⟨"MarketRings", "refuse", "(I)I"⟩, 13) := ⟨⟨by decide +kernel, by decide +kernel⟩, List.mem_of_getElem? (i := 16) (by decide +kernel), List.mem_of_getElem? (i := 415) (by decide +kernel), List.mem_of_getElem? (i := 416) (by decide +kernel)⟩
theorem lw_p1 : lw_okq (⟨"MarketRings", "rentTax", "(I)I"⟩, 13) := ⟨⟨by decide +kernel, by decide +kernel⟩, List.mem_of_getElem? (i := 16) (by decide +kernel), List.mem_of_getElem? (i := 427) (by decide +kernel), List.mem_of_getElem? (i := 428) (by decide +kernel)⟩
theorem lw_p2 : lw_okq (⟨"MarketRings", "isNoUse", "(I)Z"⟩, 13) := ⟨⟨by decide +kernel, by decide +kernel⟩, List.mem_of_getElem? (i := 16) (by decide +kernel), List.mem_of_getElem? (i := 434) (by decide +kernel), List.mem_of_getElem? (i := 435) (by decide +kernel)⟩
theorem lw_p3 : lw_okq (⟨"MarketRings$Ways", "search", "(II[I[II)V"⟩, 6) := ⟨⟨by decide +kernel, by decide +kernel⟩, List.mem_of_getElem? (i := 244) (by decide +kernel), List.mem_of_getElem? (i := 458) (by decide +kernel), List.mem_of_getElem? (i := 459) (by decide +kernel)⟩
theorem lw_p4 : lw_okq (⟨"MarketRings$Ways", "leastFrom", "(I[I[II)I"⟩, 6) := ⟨⟨by decide +kernel, by decide +kernel⟩, List.mem_of_getElem? (i := 244) (by decide +kernel), List.mem_of_getElem? (i := 463) (by decide +kernel), List.mem_of_getElem? (i := 464) (by decide +kernel)⟩
theorem lw_p5 : lw_okq (⟨"MarketRings", "refuseLong", "(I)J"⟩, 13) := ⟨⟨by decide +kernel, by decide +kernel⟩, List.mem_of_getElem? (i := 16) (by decide +kernel), List.mem_of_getElem? (i := 516) (by decide +kernel), List.mem_of_getElem? (i := 517) (by decide +kernel)⟩
theorem lw_p6 : lw_okq (⟨"MarketRings$Offers", "rentBy", "(II)J"⟩, 8) := ⟨⟨by decide +kernel, by decide +kernel⟩, List.mem_of_getElem? (i := 55) (by decide +kernel), List.mem_of_getElem? (i := 529) (by decide +kernel), List.mem_of_getElem? (i := 530) (by decide +kernel)⟩
theorem lw_p7 : lw_okq (⟨"MarketRings", "isNoMarket", "(I)Z"⟩, 13) := ⟨⟨by decide +kernel, by decide +kernel⟩, List.mem_of_getElem? (i := 16) (by decide +kernel), List.mem_of_getElem? (i := 539) (by decide +kernel), List.mem_of_getElem? (i := 540) (by decide +kernel)⟩
theorem lw_p8 : lw_okq (⟨"MarketRings$Trade", "runRound", "(LMarketRings$Offers;)Z"⟩, 4) := ⟨⟨by decide +kernel, by decide +kernel⟩, List.mem_of_getElem? (i := 304) (by decide +kernel), List.mem_of_getElem? (i := 558) (by decide +kernel), List.mem_of_getElem? (i := 559) (by decide +kernel)⟩
theorem lw_p9 : lw_okq (⟨"MarketRings$Trade", "leastPriceFor", "(LMarketRings$Offers;II)I"⟩, 4) := ⟨⟨by decide +kernel, by decide +kernel⟩, List.mem_of_getElem? (i := 304) (by decide +kernel), List.mem_of_getElem? (i := 567) (by decide +kernel), List.mem_of_getElem? (i := 568) (by decide +kernel)⟩
theorem lw_p10 : lw_okq (⟨"MarketRings$Trade", "comingAt", "(II)I"⟩, 4) := ⟨⟨by decide +kernel, by decide +kernel⟩, List.mem_of_getElem? (i := 304) (by decide +kernel), List.mem_of_getElem? (i := 585) (by decide +kernel), List.mem_of_getElem? (i := 586) (by decide +kernel)⟩
theorem lw_p11 : lw_okq (⟨"MarketRings$Offers", "isTakenBy", "(II)Z"⟩, 8) := ⟨⟨by decide +kernel, by decide +kernel⟩, List.mem_of_getElem? (i := 55) (by decide +kernel), List.mem_of_getElem? (i := 603) (by decide +kernel), List.mem_of_getElem? (i := 604) (by decide +kernel)⟩
theorem lw_p12 : lw_okq (⟨"MarketRings$Trade", "rentsAfterRound", "(LMarketRings$Offers;I)J"⟩, 4) := ⟨⟨by decide +kernel, by decide +kernel⟩, List.mem_of_getElem? (i := 304) (by decide +kernel), List.mem_of_getElem? (i := 626) (by decide +kernel), List.mem_of_getElem? (i := 627) (by decide +kernel)⟩
theorem lw_p13 : lw_okq (⟨"MarketRings$Land", "clearAway", "()V"⟩, 13) := ⟨⟨by decide +kernel, by decide +kernel⟩, List.mem_of_getElem? (i := 67) (by decide +kernel), List.mem_of_getElem? (i := 716) (by decide +kernel), List.mem_of_getElem? (i := 717) (by decide +kernel)⟩
def lw_privs_1 : List (MethodName × Nat) := [(⟨"MarketRings", "refuse", "(I)I"⟩, 13), (⟨"MarketRings", "rentTax", "(I)I"⟩, 13), (⟨"MarketRings", "isNoUse", "(I)Z"⟩, 13), (⟨"MarketRings$Ways", "search", "(II[I[II)V"⟩, 6), (⟨"MarketRings$Ways", "leastFrom", "(I[I[II)I"⟩, 6), (⟨"MarketRings", "refuseLong", "(I)J"⟩, 13), (⟨"MarketRings$Offers", "rentBy", "(II)J"⟩, 8), (⟨"MarketRings", "isNoMarket", "(I)Z"⟩, 13), (⟨"MarketRings$Trade", "runRound", "(LMarketRings$Offers;)Z"⟩, 4), (⟨"MarketRings$Trade", "leastPriceFor", "(LMarketRings$Offers;II)I"⟩, 4), (⟨"MarketRings$Trade", "comingAt", "(II)I"⟩, 4), (⟨"MarketRings$Offers", "isTakenBy", "(II)Z"⟩, 8), (⟨"MarketRings$Trade", "rentsAfterRound", "(LMarketRings$Offers;I)J"⟩, 4), (⟨"MarketRings$Land", "clearAway", "()V"⟩, 13)]
theorem lw_r1 : ∀ q ∈ lw_privs_1, lw_okq q := List.forall_mem_cons.mpr ⟨lw_p0, List.forall_mem_cons.mpr ⟨lw_p1, List.forall_mem_cons.mpr ⟨lw_p2, List.forall_mem_cons.mpr ⟨lw_p3, List.forall_mem_cons.mpr ⟨lw_p4, List.forall_mem_cons.mpr ⟨lw_p5, List.forall_mem_cons.mpr ⟨lw_p6, List.forall_mem_cons.mpr ⟨lw_p7, List.forall_mem_cons.mpr ⟨lw_p8, List.forall_mem_cons.mpr ⟨lw_p9, List.forall_mem_cons.mpr ⟨lw_p10, List.forall_mem_cons.mpr ⟨lw_p11, List.forall_mem_cons.mpr ⟨lw_p12, List.forall_mem_cons.mpr ⟨lw_p13, fun _ h => absurd h List.not_mem_nil⟩⟩⟩⟩⟩⟩⟩⟩⟩⟩⟩⟩⟩⟩
def lw_privs : List (MethodName × Nat) := lw_privs_1
def lw_tbl : List Cond := k2_sels lw_privs ++ tables_1
theorem lw_privs_ok : ∀ q ∈ lw_privs, lw_okq q := lw_r1
def RX0 : String := "MarketRings$Land"
def TX0 : u_T := fun k => match k with
  | 0 => ("MarketRings$Land", "wide", "I", false)
  | 1 => ("MarketRings$Land", "high", "I", false)
  | 2 => ("MarketRings$Land", "acres", "I", false)
  | 3 => ("MarketRings$Land", "roads", "I", false)
  | 4 => ("MarketRings$Land", "markets", "I", false)
  | 5 => ("MarketRings$Land", "told", "[I", true)
  | 6 => ("MarketRings$Land", "soils", "[I", true)
  | 7 => ("MarketRings$Land", "tolls", "[I", true)
  | 8 => ("MarketRings$Land", "owners", "[I", true)
  | 9 => ("MarketRings$Land", "idle", "[I", true)
  | 10 => ("MarketRings$Land", "links", "[I", true)
  | 11 => ("MarketRings$Land", "stalls", "[I", true)
  | _ => ("MarketRings$Land", "steps", "[I", true)
def tyX0 : Nat → FieldType := fun k => match k with
  | 0 => .int
  | 1 => .int
  | 2 => .int
  | 3 => .int
  | 4 => .int
  | 5 => .array .int
  | 6 => .array .int
  | 7 => .array .int
  | 8 => .array .int
  | 9 => .array .int
  | 10 => .array .int
  | 11 => .array .int
  | _ => .array .int
abbrev wsX00 : List Cond := u_ws RX0 TX0 13
theorem nmX0 : ∀ a, a < 13 → ∀ b, b < 13 → a ≠ b → (TX0 a).2.1 ≠ (TX0 b).2.1 := by decide +kernel
theorem tyX0_ok : ∀ k, k < 13 → parseFieldDescriptor (TX0 k).2.2.1 = some (tyX0 k) := by decide +kernel
abbrev cX0_init : ByteArray := prog_2_method_1_code
def yX0_init : MethodName := ⟨RX0, "<init>", "()V"⟩
abbrev cX0_layOut : ByteArray := prog_2_method_2_code
def yX0_layOut : MethodName := ⟨RX0, "layOut", "(LMarketRings$Tape;)V"⟩
abbrev cX0_clearAway : ByteArray := prog_2_method_3_code
def yX0_clearAway : MethodName := ⟨RX0, "clearAway", "()V"⟩
abbrev cX0_takeFrom : ByteArray := prog_2_method_4_code
def yX0_takeFrom : MethodName := ⟨RX0, "takeFrom", "(LMarketRings$Land;)V"⟩
abbrev cX0_placeOf : ByteArray := prog_2_method_5_code
def yX0_placeOf : MethodName := ⟨RX0, "placeOf", "(I)I"⟩
abbrev cX0_beside : ByteArray := prog_2_method_6_code
def yX0_beside : MethodName := ⟨RX0, "beside", "(II)I"⟩
abbrev cX0_sideTowards : ByteArray := prog_2_method_7_code
def yX0_sideTowards : MethodName := ⟨RX0, "sideTowards", "(II)I"⟩
abbrev cX0_roadAt : ByteArray := prog_2_method_8_code
def yX0_roadAt : MethodName := ⟨RX0, "roadAt", "(II)I"⟩
abbrev cX0_layRoad : ByteArray := prog_2_method_9_code
def yX0_layRoad : MethodName := ⟨RX0, "layRoad", "(III)V"⟩
abbrev cX0_marketOn : ByteArray := prog_2_method_10_code
def yX0_marketOn : MethodName := ⟨RX0, "marketOn", "(I)I"⟩
abbrev cX0_idleAcres : ByteArray := prog_2_method_11_code
def yX0_idleAcres : MethodName := ⟨RX0, "idleAcres", "()I"⟩
def RX1 : String := "MarketRings$Offers"
def TX1 : u_T := fun k => match k with
  | 0 => ("MarketRings$Offers", "world", "LMarketRings$World;", true)
  | 1 => ("MarketRings$Offers", "ways", "LMarketRings$Ways;", true)
  | 2 => ("MarketRings$Offers", "bids", "[J", true)
  | 3 => ("MarketRings$Offers", "takers", "[I", true)
  | 4 => ("MarketRings$Offers", "land", "LMarketRings$Land;", true)
  | 5 => ("MarketRings$Offers", "uses", "LMarketRings$Uses;", true)
  | 6 => ("MarketRings$Offers", "waysKnown", "Z", false)
  | _ => ("MarketRings$Offers", "bidsKnown", "Z", false)
def tyX1 : Nat → FieldType := fun k => match k with
  | 0 => .object "MarketRings$World"
  | 1 => .object "MarketRings$Ways"
  | 2 => .array .long
  | 3 => .array .int
  | 4 => .object "MarketRings$Land"
  | 5 => .object "MarketRings$Uses"
  | 6 => .boolean
  | _ => .boolean
abbrev wsX10 : List Cond := u_ws RX1 TX1 8
theorem nmX1 : ∀ a, a < 8 → ∀ b, b < 8 → a ≠ b → (TX1 a).2.1 ≠ (TX1 b).2.1 := by decide +kernel
theorem tyX1_ok : ∀ k, k < 8 → parseFieldDescriptor (TX1 k).2.2.1 = some (tyX1 k) := by decide +kernel
abbrev cX1_init : ByteArray := prog_3_method_1_code
def yX1_init : MethodName := ⟨RX1, "<init>", "()V"⟩
abbrev cX1_forgetWays : ByteArray := prog_3_method_2_code
def yX1_forgetWays : MethodName := ⟨RX1, "forgetWays", "()V"⟩
abbrev cX1_forgetBids : ByteArray := prog_3_method_3_code
def yX1_forgetBids : MethodName := ⟨RX1, "forgetBids", "()V"⟩
abbrev cX1_settle : ByteArray := prog_3_method_4_code
def yX1_settle : MethodName := ⟨RX1, "settle", "()V"⟩
abbrev cX1_reckonBids : ByteArray := prog_3_method_5_code
def yX1_reckonBids : MethodName := ⟨RX1, "reckonBids", "()V"⟩
abbrev cX1_reckonOffer : ByteArray := prog_3_method_6_code
def yX1_reckonOffer : MethodName := ⟨RX1, "reckonOffer", "(I)V"⟩
abbrev cX1_wayOf : ByteArray := prog_3_method_7_code
def yX1_wayOf : MethodName := ⟨RX1, "wayOf", "(II)I"⟩
abbrev cX1_takerOf : ByteArray := prog_3_method_8_code
def yX1_takerOf : MethodName := ⟨RX1, "takerOf", "(I)I"⟩
abbrev cX1_greatest : ByteArray := prog_3_method_9_code
def yX1_greatest : MethodName := ⟨RX1, "greatest", "(II)I"⟩
abbrev cX1_rentAt : ByteArray := prog_3_method_10_code
def yX1_rentAt : MethodName := ⟨RX1, "rentAt", "(I)J"⟩
abbrev cX1_rentBy : ByteArray := prog_3_method_11_code
def yX1_rentBy : MethodName := ⟨RX1, "rentBy", "(II)J"⟩
abbrev cX1_allRents : ByteArray := prog_3_method_12_code
def yX1_allRents : MethodName := ⟨RX1, "allRents", "()J"⟩
abbrev cX1_rentsOf : ByteArray := prog_3_method_13_code
def yX1_rentsOf : MethodName := ⟨RX1, "rentsOf", "(I)J"⟩
abbrev cX1_isTakenBy : ByteArray := prog_3_method_15_code
def yX1_isTakenBy : MethodName := ⟨RX1, "isTakenBy", "(II)Z"⟩
abbrev cX1_wasteAcres : ByteArray := prog_3_method_19_code
def yX1_wasteAcres : MethodName := ⟨RX1, "wasteAcres", "()I"⟩
abbrev cX1_fallingWaste : ByteArray := prog_3_method_20_code
def yX1_fallingWaste : MethodName := ⟨RX1, "fallingWaste", "(II)I"⟩
def RX2 : String := "MarketRings$Plans"
def TX2 : u_T := fun k => match k with
  | 0 => ("MarketRings$Plans", "number", "I", false)
  | 1 => ("MarketRings$Plans", "places", "[I", true)
  | 2 => ("MarketRings$Plans", "sides", "[I", true)
  | 3 => ("MarketRings$Plans", "kinds", "[I", true)
  | _ => ("MarketRings$Plans", "costs", "[I", true)
def tyX2 : Nat → FieldType := fun k => match k with
  | 0 => .int
  | 1 => .array .int
  | 2 => .array .int
  | 3 => .array .int
  | _ => .array .int
abbrev wsX20 : List Cond := u_ws RX2 TX2 5
theorem nmX2 : ∀ a, a < 5 → ∀ b, b < 5 → a ≠ b → (TX2 a).2.1 ≠ (TX2 b).2.1 := by decide +kernel
theorem tyX2_ok : ∀ k, k < 5 → parseFieldDescriptor (TX2 k).2.2.1 = some (tyX2 k) := by decide +kernel
abbrev cX2_init : ByteArray := prog_4_method_1_code
def yX2_init : MethodName := ⟨RX2, "<init>", "()V"⟩
abbrev cX2_takeFrom : ByteArray := prog_4_method_3_code
def yX2_takeFrom : MethodName := ⟨RX2, "takeFrom", "(LMarketRings$Plans;)V"⟩
def RX3 : String := "MarketRings$Rings"
def TX3 : u_T := fun k => match k with
  | 0 => ("MarketRings$Rings", "homes", "[J", true)
  | 1 => ("MarketRings$Rings", "slopes", "[J", true)
  | 2 => ("MarketRings$Rings", "cutsAbove", "[J", true)
  | 3 => ("MarketRings$Rings", "cutsBelow", "[J", true)
  | 4 => ("MarketRings$Rings", "cuts", "I", false)
  | 5 => ("MarketRings$Rings", "number", "I", false)
  | 6 => ("MarketRings$Rings", "takers", "[I", true)
  | 7 => ("MarketRings$Rings", "endsAbove", "[J", true)
  | _ => ("MarketRings$Rings", "endsBelow", "[J", true)
def tyX3 : Nat → FieldType := fun k => match k with
  | 0 => .array .long
  | 1 => .array .long
  | 2 => .array .long
  | 3 => .array .long
  | 4 => .int
  | 5 => .int
  | 6 => .array .int
  | 7 => .array .long
  | _ => .array .long
abbrev wsX30 : List Cond := u_ws RX3 TX3 9
theorem nmX3 : ∀ a, a < 9 → ∀ b, b < 9 → a ≠ b → (TX3 a).2.1 ≠ (TX3 b).2.1 := by decide +kernel
theorem tyX3_ok : ∀ k, k < 9 → parseFieldDescriptor (TX3 k).2.2.1 = some (tyX3 k) := by decide +kernel
abbrev cX3_init : ByteArray := prog_5_method_1_code
def yX3_init : MethodName := ⟨RX3, "<init>", "()V"⟩
def RX4 : String := "MarketRings$Row"
def TX4 : u_T := fun k => match k with
  | 0 => ("MarketRings$Row", "bytes", "[I", true)
  | _ => ("MarketRings$Row", "length", "I", false)
def tyX4 : Nat → FieldType := fun k => match k with
  | 0 => .array .int
  | _ => .int
abbrev wsX40 : List Cond := u_ws RX4 TX4 2
theorem nmX4 : ∀ a, a < 2 → ∀ b, b < 2 → a ≠ b → (TX4 a).2.1 ≠ (TX4 b).2.1 := by decide +kernel
theorem tyX4_ok : ∀ k, k < 2 → parseFieldDescriptor (TX4 k).2.2.1 = some (tyX4 k) := by decide +kernel
abbrev cX4_init : ByteArray := prog_6_method_1_code
def yX4_init : MethodName := ⟨RX4, "<init>", "()V"⟩
def RX5 : String := "MarketRings$Tape"
def TX5 : u_T := fun k => match k with
  | 0 => ("MarketRings$Tape", "bytes", "[I", true)
  | _ => ("MarketRings$Tape", "length", "I", false)
def tyX5 : Nat → FieldType := fun k => match k with
  | 0 => .array .int
  | _ => .int
abbrev wsX50 : List Cond := u_ws RX5 TX5 2
theorem nmX5 : ∀ a, a < 2 → ∀ b, b < 2 → a ≠ b → (TX5 a).2.1 ≠ (TX5 b).2.1 := by decide +kernel
theorem tyX5_ok : ∀ k, k < 2 → parseFieldDescriptor (TX5 k).2.2.1 = some (tyX5 k) := by decide +kernel
abbrev cX5_init : ByteArray := prog_7_method_1_code
def yX5_init : MethodName := ⟨RX5, "<init>", "()V"⟩
abbrev cX5_append : ByteArray := prog_7_method_2_code
def yX5_append : MethodName := ⟨RX5, "append", "(IJ)V"⟩
abbrev cX5_firstFault : ByteArray := prog_7_method_3_code
def yX5_firstFault : MethodName := ⟨RX5, "firstFault", "()I"⟩
abbrev cX5_isDigit : ByteArray := prog_7_method_4_code
def yX5_isDigit : MethodName := ⟨RX5, "isDigit", "(I)Z"⟩
def RX6 : String := "MarketRings$Trade"
def TX6 : u_T := fun k => match k with
  | 0 => ("MarketRings$Trade", "leastPrices", "[I", true)
  | 1 => ("MarketRings$Trade", "yields", "[I", true)
  | 2 => ("MarketRings$Trade", "savedPrices", "[I", true)
  | _ => ("MarketRings$Trade", "savedBids", "[J", true)
def tyX6 : Nat → FieldType := fun k => match k with
  | 0 => .array .int
  | 1 => .array .int
  | 2 => .array .int
  | _ => .array .long
abbrev wsX60 : List Cond := u_ws RX6 TX6 4
theorem nmX6 : ∀ a, a < 4 → ∀ b, b < 4 → a ≠ b → (TX6 a).2.1 ≠ (TX6 b).2.1 := by decide +kernel
theorem tyX6_ok : ∀ k, k < 4 → parseFieldDescriptor (TX6 k).2.2.1 = some (tyX6 k) := by decide +kernel
abbrev cX6_init : ByteArray := prog_8_method_1_code
def yX6_init : MethodName := ⟨RX6, "<init>", "()V"⟩
abbrev cX6_clearingPrice : ByteArray := prog_8_method_2_code
def yX6_clearingPrice : MethodName := ⟨RX6, "clearingPrice", "(LMarketRings$Offers;I)I"⟩
abbrev cX6_comingAt : ByteArray := prog_8_method_3_code
def yX6_comingAt : MethodName := ⟨RX6, "comingAt", "(II)I"⟩
abbrev cX6_leastPriceFor : ByteArray := prog_8_method_4_code
def yX6_leastPriceFor : MethodName := ⟨RX6, "leastPriceFor", "(LMarketRings$Offers;II)I"⟩
abbrev cX6_runRounds : ByteArray := prog_8_method_5_code
def yX6_runRounds : MethodName := ⟨RX6, "runRounds", "(LMarketRings$Offers;I)I"⟩
abbrev cX6_runRound : ByteArray := prog_8_method_6_code
def yX6_runRound : MethodName := ⟨RX6, "runRound", "(LMarketRings$Offers;)Z"⟩
abbrev cX6_bestToHold : ByteArray := prog_8_method_7_code
def yX6_bestToHold : MethodName := ⟨RX6, "bestToHold", "(LMarketRings$Offers;I)I"⟩
abbrev cX6_rentsAfterRound : ByteArray := prog_8_method_8_code
def yX6_rentsAfterRound : MethodName := ⟨RX6, "rentsAfterRound", "(LMarketRings$Offers;I)J"⟩
def RX7 : String := "MarketRings$Uses"
def TX7 : u_T := fun k => match k with
  | 0 => ("MarketRings$Uses", "number", "I", false)
  | 1 => ("MarketRings$Uses", "rentTax", "I", false)
  | 2 => ("MarketRings$Uses", "kinds", "[I", true)
  | 3 => ("MarketRings$Uses", "bases", "[I", true)
  | 4 => ("MarketRings$Uses", "mores", "[I", true)
  | 5 => ("MarketRings$Uses", "costs", "[I", true)
  | 6 => ("MarketRings$Uses", "fares", "[I", true)
  | 7 => ("MarketRings$Uses", "taxes", "[I", true)
  | 8 => ("MarketRings$Uses", "years", "[I", true)
  | 9 => ("MarketRings$Uses", "yearSums", "[I", true)
  | 10 => ("MarketRings$Uses", "prices", "[I", true)
  | 11 => ("MarketRings$Uses", "pieces", "[I", true)
  | 12 => ("MarketRings$Uses", "pieceMuch", "[I", true)
  | _ => ("MarketRings$Uses", "piecePrices", "[I", true)
def tyX7 : Nat → FieldType := fun k => match k with
  | 0 => .int
  | 1 => .int
  | 2 => .array .int
  | 3 => .array .int
  | 4 => .array .int
  | 5 => .array .int
  | 6 => .array .int
  | 7 => .array .int
  | 8 => .array .int
  | 9 => .array .int
  | 10 => .array .int
  | 11 => .array .int
  | 12 => .array .int
  | _ => .array .int
abbrev wsX70 : List Cond := u_ws RX7 TX7 14
theorem nmX7 : ∀ a, a < 14 → ∀ b, b < 14 → a ≠ b → (TX7 a).2.1 ≠ (TX7 b).2.1 := by decide +kernel
theorem tyX7_ok : ∀ k, k < 14 → parseFieldDescriptor (TX7 k).2.2.1 = some (tyX7 k) := by decide +kernel
abbrev cX7_init : ByteArray := prog_9_method_1_code
def yX7_init : MethodName := ⟨RX7, "<init>", "()V"⟩
abbrev cX7_append : ByteArray := prog_9_method_2_code
def yX7_append : MethodName := ⟨RX7, "append", "(IIIII)I"⟩
abbrev cX7_appendPiece : ByteArray := prog_9_method_3_code
def yX7_appendPiece : MethodName := ⟨RX7, "appendPiece", "(III)V"⟩
abbrev cX7_takeFrom : ByteArray := prog_9_method_4_code
def yX7_takeFrom : MethodName := ⟨RX7, "takeFrom", "(LMarketRings$Uses;)V"⟩
abbrev cX7_yieldOn : ByteArray := prog_9_method_5_code
def yX7_yieldOn : MethodName := ⟨RX7, "yieldOn", "(II)I"⟩
abbrev cX7_reckonedPrice : ByteArray := prog_9_method_6_code
def yX7_reckonedPrice : MethodName := ⟨RX7, "reckonedPrice", "(I)I"⟩
abbrev cX7_payAtHome : ByteArray := prog_9_method_7_code
def yX7_payAtHome : MethodName := ⟨RX7, "payAtHome", "(II)J"⟩
abbrev cX7_carriage : ByteArray := prog_9_method_8_code
def yX7_carriage : MethodName := ⟨RX7, "carriage", "(II)J"⟩
abbrev cX7_canGo : ByteArray := prog_9_method_9_code
def yX7_canGo : MethodName := ⟨RX7, "canGo", "(II)Z"⟩
abbrev cX7_boughtAt : ByteArray := prog_9_method_10_code
def yX7_boughtAt : MethodName := ⟨RX7, "boughtAt", "(II)I"⟩
def RX8 : String := "MarketRings$Ways"
def TX8 : u_T := fun k => match k with
  | 0 => ("MarketRings$Ways", "byRoad", "[I", true)
  | 1 => ("MarketRings$Ways", "onFoot", "[I", true)
  | 2 => ("MarketRings$Ways", "asked", "[I", true)
  | 3 => ("MarketRings$Ways", "next", "[I", true)
  | 4 => ("MarketRings$Ways", "roadFees", "[I", true)
  | _ => ("MarketRings$Ways", "footFees", "[I", true)
def tyX8 : Nat → FieldType := fun k => match k with
  | 0 => .array .int
  | 1 => .array .int
  | 2 => .array .int
  | 3 => .array .int
  | 4 => .array .int
  | _ => .array .int
abbrev wsX80 : List Cond := u_ws RX8 TX8 6
theorem nmX8 : ∀ a, a < 6 → ∀ b, b < 6 → a ≠ b → (TX8 a).2.1 ≠ (TX8 b).2.1 := by decide +kernel
theorem tyX8_ok : ∀ k, k < 6 → parseFieldDescriptor (TX8 k).2.2.1 = some (tyX8 k) := by decide +kernel
abbrev cX8_init : ByteArray := prog_10_method_1_code
def yX8_init : MethodName := ⟨RX8, "<init>", "()V"⟩
abbrev cX8_reckonFoot : ByteArray := prog_10_method_2_code
def yX8_reckonFoot : MethodName := ⟨RX8, "reckonFoot", "(LMarketRings$Land;)V"⟩
abbrev cX8_reckonRoads : ByteArray := prog_10_method_3_code
def yX8_reckonRoads : MethodName := ⟨RX8, "reckonRoads", "(LMarketRings$Land;)V"⟩
abbrev cX8_search : ByteArray := prog_10_method_5_code
def yX8_search : MethodName := ⟨RX8, "search", "(II[I[II)V"⟩
abbrev cX8_leastFrom : ByteArray := prog_10_method_6_code
def yX8_leastFrom : MethodName := ⟨RX8, "leastFrom", "(I[I[II)I"⟩
def RX9 : String := "MarketRings$Works"
def TX9 : u_T := fun k => match k with
  | _ => ("MarketRings$Works", "rentsBefore", "[J", true)
def tyX9 : Nat → FieldType := fun k => match k with
  | _ => .array .long
abbrev wsX90 : List Cond := u_ws RX9 TX9 1
theorem nmX9 : ∀ a, a < 1 → ∀ b, b < 1 → a ≠ b → (TX9 a).2.1 ≠ (TX9 b).2.1 := by decide +kernel
theorem tyX9_ok : ∀ k, k < 1 → parseFieldDescriptor (TX9 k).2.2.1 = some (tyX9 k) := by decide +kernel
abbrev cX9_init : ByteArray := prog_11_method_1_code
def yX9_init : MethodName := ⟨RX9, "<init>", "()V"⟩
def RX10 : String := "MarketRings$World"
def TX10 : u_T := fun k => match k with
  | 0 => ("MarketRings$World", "land", "LMarketRings$Land;", true)
  | 1 => ("MarketRings$World", "uses", "LMarketRings$Uses;", true)
  | _ => ("MarketRings$World", "plans", "LMarketRings$Plans;", true)
def tyX10 : Nat → FieldType := fun k => match k with
  | 0 => .object "MarketRings$Land"
  | 1 => .object "MarketRings$Uses"
  | _ => .object "MarketRings$Plans"
abbrev wsX100 : List Cond := u_ws RX10 TX10 3
theorem nmX10 : ∀ a, a < 3 → ∀ b, b < 3 → a ≠ b → (TX10 a).2.1 ≠ (TX10 b).2.1 := by decide +kernel
theorem tyX10_ok : ∀ k, k < 3 → parseFieldDescriptor (TX10 k).2.2.1 = some (tyX10 k) := by decide +kernel
abbrev cX10_init : ByteArray := prog_12_method_1_code
def yX10_init : MethodName := ⟨RX10, "<init>", "()V"⟩
abbrev cX10_takeFrom : ByteArray := prog_12_method_2_code
def yX10_takeFrom : MethodName := ⟨RX10, "takeFrom", "(LMarketRings$World;)V"⟩
def RX11 : String := "MarketRings"
def TX11 : u_T := fun k => match k with
  | 0 => ("MarketRings", "tape", "LMarketRings$Tape;", true)
  | 1 => ("MarketRings", "row", "LMarketRings$Row;", true)
  | 2 => ("MarketRings", "offers", "LMarketRings$Offers;", true)
  | 3 => ("MarketRings", "world", "LMarketRings$World;", true)
  | 4 => ("MarketRings", "land", "LMarketRings$Land;", true)
  | 5 => ("MarketRings", "uses", "LMarketRings$Uses;", true)
  | 6 => ("MarketRings", "plans", "LMarketRings$Plans;", true)
  | 7 => ("MarketRings", "kept", "LMarketRings$World;", true)
  | 8 => ("MarketRings", "isKept", "Z", false)
  | 9 => ("MarketRings", "trade", "LMarketRings$Trade;", true)
  | 10 => ("MarketRings", "works", "LMarketRings$Works;", true)
  | 11 => ("MarketRings", "rings", "LMarketRings$Rings;", true)
  | _ => ("MarketRings", "refusals", "[I", true)
def tyX11 : Nat → FieldType := fun k => match k with
  | 0 => .object "MarketRings$Tape"
  | 1 => .object "MarketRings$Row"
  | 2 => .object "MarketRings$Offers"
  | 3 => .object "MarketRings$World"
  | 4 => .object "MarketRings$Land"
  | 5 => .object "MarketRings$Uses"
  | 6 => .object "MarketRings$Plans"
  | 7 => .object "MarketRings$World"
  | 8 => .boolean
  | 9 => .object "MarketRings$Trade"
  | 10 => .object "MarketRings$Works"
  | 11 => .object "MarketRings$Rings"
  | _ => .array .int
abbrev wsX110 : List Cond := u_ws RX11 TX11 13
theorem nmX11 : ∀ a, a < 13 → ∀ b, b < 13 → a ≠ b → (TX11 a).2.1 ≠ (TX11 b).2.1 := by decide +kernel
theorem tyX11_ok : ∀ k, k < 13 → parseFieldDescriptor (TX11 k).2.2.1 = some (tyX11 k) := by decide +kernel
abbrev cX11_init : ByteArray := prog_1_method_1_code
def yX11_init : MethodName := ⟨RX11, "<init>", "()V"⟩
abbrev cX11_feed : ByteArray := prog_1_method_2_code
def yX11_feed : MethodName := ⟨RX11, "feed", "(IJ)I"⟩
abbrev cX11_read : ByteArray := prog_1_method_3_code
def yX11_read : MethodName := ⟨RX11, "read", "()I"⟩
abbrev cX11_acre : ByteArray := prog_1_method_4_code
def yX11_acre : MethodName := ⟨RX11, "acre", "(II)I"⟩
abbrev cX11_road : ByteArray := prog_1_method_5_code
def yX11_road : MethodName := ⟨RX11, "road", "(III)I"⟩
abbrev cX11_toll : ByteArray := prog_1_method_7_code
def yX11_toll : MethodName := ⟨RX11, "toll", "(II)I"⟩
abbrev cX11_market : ByteArray := prog_1_method_9_code
def yX11_market : MethodName := ⟨RX11, "market", "(I)I"⟩
abbrev cX11_use : ByteArray := prog_1_method_10_code
def yX11_use : MethodName := ⟨RX11, "use", "(IIIII)I"⟩
abbrev cX11_year : ByteArray := prog_1_method_11_code
def yX11_year : MethodName := ⟨RX11, "year", "(II)I"⟩
abbrev cX11_price : ByteArray := prog_1_method_12_code
def yX11_price : MethodName := ⟨RX11, "price", "(III)I"⟩
abbrev cX11_tax : ByteArray := prog_1_method_13_code
def yX11_tax : MethodName := ⟨RX11, "tax", "(II)I"⟩
abbrev cX11_rentTax : ByteArray := prog_1_method_14_code
def yX11_rentTax : MethodName := ⟨RX11, "rentTax", "(I)I"⟩
abbrev cX11_goes : ByteArray := prog_1_method_16_code
def yX11_goes : MethodName := ⟨RX11, "goes", "(II)I"⟩
abbrev cX11_rent : ByteArray := prog_1_method_17_code
def yX11_rent : MethodName := ⟨RX11, "rent", "(I)J"⟩
abbrev cX11_piece : ByteArray := prog_1_method_19_code
def yX11_piece : MethodName := ⟨RX11, "piece", "(IIII)I"⟩
abbrev cX11_rounds : ByteArray := prog_1_method_22_code
def yX11_rounds : MethodName := ⟨RX11, "rounds", "(I)I"⟩
abbrev cX11_falls : ByteArray := prog_1_method_33_code
def yX11_falls : MethodName := ⟨RX11, "falls", "(II)I"⟩
abbrev cX11_own : ByteArray := prog_1_method_34_code
def yX11_own : MethodName := ⟨RX11, "own", "(II)I"⟩
abbrev cX11_held : ByteArray := prog_1_method_35_code
def yX11_held : MethodName := ⟨RX11, "held", "(IZ)I"⟩
abbrev cX11_hold : ByteArray := prog_1_method_36_code
def yX11_hold : MethodName := ⟨RX11, "hold", "(I)I"⟩
abbrev cX11_image : ByteArray := prog_1_method_39_code
def yX11_image : MethodName := ⟨RX11, "image", "()I"⟩
abbrev cX11_on : ByteArray := prog_1_method_40_code
def yX11_on : MethodName := ⟨RX11, "on", "()I"⟩
abbrev cX11_count : ByteArray := prog_1_method_41_code
def yX11_count : MethodName := ⟨RX11, "count", "(I)I"⟩
abbrev cX11_refuse : ByteArray := prog_1_method_42_code
def yX11_refuse : MethodName := ⟨RX11, "refuse", "(I)I"⟩
abbrev cX11_refuseLong : ByteArray := prog_1_method_43_code
def yX11_refuseLong : MethodName := ⟨RX11, "refuseLong", "(I)J"⟩
abbrev cX11_unfit : ByteArray := prog_1_method_44_code
def yX11_unfit : MethodName := ⟨RX11, "unfit", "(III)I"⟩
abbrev cX11_isNoUse : ByteArray := prog_1_method_45_code
def yX11_isNoUse : MethodName := ⟨RX11, "isNoUse", "(I)Z"⟩
abbrev cX11_isNoMarket : ByteArray := prog_1_method_46_code
def yX11_isNoMarket : MethodName := ⟨RX11, "isNoMarket", "(I)Z"⟩
abbrev cX11_offerOf : ByteArray := prog_1_method_47_code
def yX11_offerOf : MethodName := ⟨RX11, "offerOf", "(II)I"⟩
def RX12 : String := "MarketRingsModel"
def TX12 : u_T := fun k => match k with
  | _ => ("", "", "", false)
def tyX12 : Nat → FieldType := fun k => match k with
  | _ => .int
abbrev wsX120 : List Cond := u_ws RX12 TX12 0
theorem nmX12 : ∀ a, a < 0 → ∀ b, b < 0 → a ≠ b → (TX12 a).2.1 ≠ (TX12 b).2.1 := by decide +kernel
theorem tyX12_ok : ∀ k, k < 0 → parseFieldDescriptor (TX12 k).2.2.1 = some (tyX12 k) := by decide +kernel
def RJ9 : String := "java/lang/Math"
def TJ9 : u_T := fun k => match k with
  | _ => ("", "", "", false)
def tyJ9 : Nat → FieldType := fun k => match k with
  | _ => .int
abbrev wsJ90 : List Cond := u_ws RJ9 TJ9 0
theorem nmJ9 : ∀ a, a < 0 → ∀ b, b < 0 → a ≠ b → (TJ9 a).2.1 ≠ (TJ9 b).2.1 := by decide +kernel
theorem tyJ9_ok : ∀ k, k < 0 → parseFieldDescriptor (TJ9 k).2.2.1 = some (tyJ9 k) := by decide +kernel
abbrev cJ9_floorDiv_f86c9 : ByteArray := prog_15_method_49_code
def yJ9_floorDiv_f86c9 : MethodName := ⟨RJ9, "floorDiv", "(JJ)J"⟩
abbrev cJ9_max_f86c9 : ByteArray := prog_15_method_66_code
def yJ9_max_f86c9 : MethodName := ⟨RJ9, "max", "(JJ)J"⟩
abbrev cJ9_min_f86c9 : ByteArray := prog_15_method_70_code
def yJ9_min_f86c9 : MethodName := ⟨RJ9, "min", "(JJ)J"⟩
def RJ10 : String := "java/lang/System"
def TJ10 : u_T := fun k => match k with
  | _ => ("", "", "", false)
def tyJ10 : Nat → FieldType := fun k => match k with
  | _ => .int
abbrev wsJ100 : List Cond := u_ws RJ10 TJ10 0
theorem nmJ10 : ∀ a, a < 0 → ∀ b, b < 0 → a ≠ b → (TJ10 a).2.1 ≠ (TJ10 b).2.1 := by decide +kernel
theorem tyJ10_ok : ∀ k, k < 0 → parseFieldDescriptor (TJ10 k).2.2.1 = some (tyJ10 k) := by decide +kernel
def RL : String := "MarketRingsLaw"
abbrev cL_cell : ByteArray := method_2_code
def yL_cell : MethodName := ⟨RL, "cell", "([II)I"⟩
abbrev cL_pick : ByteArray := method_3_code
def yL_pick : MethodName := ⟨RL, "pick", "(II)I"⟩
abbrev cL_cellOf : ByteArray := method_4_code
def yL_cellOf : MethodName := ⟨RL, "cellOf", "(II)I"⟩
abbrev cL_land : ByteArray := method_5_code
def yL_land : MethodName := ⟨RL, "land", "(LMarketRings;[I)I"⟩
abbrev cL_law : ByteArray := code
def yL_law : MethodName := ⟨RL, "law", "([I)Z"⟩
abbrev vwCl : List vw_C := [(RX0, TX0, 13), (RX1, TX1, 8), (RX2, TX2, 5), (RX3, TX3, 9), (RX4, TX4, 2), (RX5, TX5, 2), (RX6, TX6, 4), (RX7, TX7, 14), (RX8, TX8, 6), (RX9, TX9, 1), (RX10, TX10, 3), (RX11, TX11, 13)]
end
section
/-! A SMALL MACHINE OVER NUMBERS: ints and longs are numbers of Int (a guard asks that they stay in their range), cells have numbers (0: the script), a heap is a function.
What a piece of code must show is a proposition, reckoned by recursion over the code (mv_body: one instruction; mv_vc: up to a cut, a call, an end). -/
/-- a value: an int, a long, a cell's number -/
abbrev mv_V : Type := Int ⊕ (Int ⊕ Nat)
/-- what the cells hold: cell, slot -/
abbrev mv_Mem : Type := Nat → Nat → Int
/-- how many cells there are, how many slots; each cell's tag (class, or 100 ints, 101 longs, 102 booleans), length, references -/
abbrev mv_SH : Type := Nat × Nat × (Nat → Nat) × (Nat → Nat) × (Nat → Nat → Nat)
abbrev mv_L : Type := List (Nat × mv_V)
/-- an instruction: its place, its length, its kind, three numbers, a constant, a list of places -/
abbrev mv_E : Type := Nat × Nat × Instr × Nat × Nat × Nat × Int × List Nat
abbrev mv_R32 (x : Int) : Prop := -2147483648 ≤ x ∧ x ≤ 2147483647
abbrev mv_R64 (x : Int) : Prop := -9223372036854775808 ≤ x ∧ x ≤ 9223372036854775807
def mv_up (M : mv_Mem) (a j : Nat) (v : Int) : mv_Mem := fun k i => if k = a ∧ i = j then v else M k i
def mv_cp (M : mv_Mem) (src sp dst dp n : Nat) : mv_Mem := fun k i => if k = dst ∧ dp ≤ i ∧ i < dp + n then M src (sp + (i - dp)) else M k i
def mv_lg (a : Nat) : mv_L → Option mv_V
  | [] => none
  | q :: r => if q.1 = a then some q.2 else mv_lg a r
def mv_isL : mv_V → Bool
  | .inr (.inl _) => true
  | _ => false
def mv_st1 (a : Nat) (v : mv_V) (L : mv_L) : mv_L := (a, v) :: L.filter (fun q => !(q.1 == a) && !(q.1 + 1 == a && mv_isL q.2))
def mv_st2 (a : Nat) (x : Int) (L : mv_L) : mv_L := (a, .inr (.inl x)) :: L.filter (fun q => !(q.1 == a) && (!(q.1 == a + 1) && !(q.1 + 1 == a && mv_isL q.2)))
def mv_stw (st : List mv_V) : Nat := (st.map fun v => if mv_isL v then 2 else 1).sum
def mv_and (x y : Int) : Int := (Int32.ofInt x &&& Int32.ofInt y).toInt
def mv_xor (x y : Int) : Int := (Int32.ofInt x ^^^ Int32.ofInt y).toInt
def mv_shl (x y : Int) : Int := (Int32.ofInt x <<< (Int32.ofInt y &&& 31)).toInt
def mv_shr (x y : Int) : Int := (Int32.ofInt x >>> (Int32.ofInt y &&& 31)).toInt
def mv_land (x y : Int) : Int := (Int64.ofInt x &&& Int64.ofInt y).toInt
def mv_lor (x y : Int) : Int := (Int64.ofInt x ||| Int64.ofInt y).toInt
def mv_lxor (x y : Int) : Int := (Int64.ofInt x ^^^ Int64.ofInt y).toInt
def mv_lshl (x y : Int) : Int := (Int64.ofInt x <<< ((Int32.ofInt y).toInt64 &&& 63)).toInt
def mv_lshr (x y : Int) : Int := (Int64.ofInt x >>> ((Int32.ofInt y).toInt64 &&& 63)).toInt
def mv_lushr (x y : Int) : Int := ((Int64.ofInt x).toUInt64 >>> (((Int32.ofInt y).toInt64).toUInt64 &&& Int64.toUInt64 63)).toInt64.toInt
def mv_cmp (x y : Int) : Int := if y < x then 1 else if x = y then 0 else -1
/-- a number, a long, a cell on top of the stack -/
def mv_pi (st : List mv_V) (k : Int → List mv_V → Prop) : Prop := match st with
  | .inl x :: r => k x r
  | _ => False
def mv_pl (st : List mv_V) (k : Int → List mv_V → Prop) : Prop := match st with
  | .inr (.inl x) :: r => k x r
  | _ => False
def mv_pr (st : List mv_V) (k : Nat → List mv_V → Prop) : Prop := match st with
  | .inr (.inr x) :: r => k x r
  | _ => False
def mv_sw (jump : Nat → Prop) (x : Int) (d : Nat) : Int → List Nat → Prop
  | _, [] => jump d
  | lo, t :: ts => if x = lo then jump t else mv_sw jump x d (lo + 1) ts
def mv_cd (c : Jvm.ClassFile.Cond) (x y : Int) (A B : Prop) : Prop := match c with
  | .eq => if x = y then A else B
  | .ne => if x = y then B else A
  | .lt => if x < y then A else B
  | .ge => if y ≤ x then A else B
  | .gt => if y < x then A else B
  | .le => if x ≤ y then A else B
def mv_nwA (sh : mv_SH) (a : Nat) (n : Nat) : mv_SH := (sh.1 + 1, sh.2.1 + n, (fun k => if k = sh.1 + 1 then a else sh.2.2.1 k), (fun k => if k = sh.1 + 1 then n else sh.2.2.2.1 k), sh.2.2.2.2)
def mv_nwO (sh : mv_SH) (a : Nat) (n : Nat) : mv_SH := (sh.1 + 1, sh.2.1 + n, (fun k => if k = sh.1 + 1 then a else sh.2.2.1 k), sh.2.2.2.1, (fun k f => if k = sh.1 + 1 then 0 else sh.2.2.2.2 k f))
def mv_nwM (sh : mv_SH) (M : mv_Mem) : mv_Mem := fun k i => if k = sh.1 + 1 then 0 else M k i
def mv_rf (sh : mv_SH) (k b j : Nat) : mv_SH := (sh.1, sh.2.1, sh.2.2.1, sh.2.2.2.1, (fun k' f => if k' = k ∧ f = b then j else sh.2.2.2.2 k' f))
/-- what is asked of a call's end: the cells are as they were; an int, a long, nothing is answered -/
def mv_qi (sh : mv_SH) (F : Int → mv_Mem → Prop) : Option mv_V → mv_SH → mv_Mem → Prop := fun r sh' M' => sh' = sh ∧ ∃ x, r = some (.inl x) ∧ F x M'
def mv_ql (sh : mv_SH) (F : Int → mv_Mem → Prop) : Option mv_V → mv_SH → mv_Mem → Prop := fun r sh' M' => sh' = sh ∧ ∃ x, r = some (.inr (.inl x)) ∧ F x M'
def mv_qv (sh : mv_SH) (F : mv_Mem → Prop) : Option mv_V → mv_SH → mv_Mem → Prop := fun r sh' M' => sh' = sh ∧ r = none ∧ F M'
theorem mv_qi_i {sh : mv_SH} {F : Int → mv_Mem → Prop} {x : Int} {M : mv_Mem} (h : F x M) : mv_qi sh F (some (.inl x)) sh M := ⟨rfl, x, rfl, h⟩
theorem mv_ql_i {sh : mv_SH} {F : Int → mv_Mem → Prop} {x : Int} {M : mv_Mem} (h : F x M) : mv_ql sh F (some (.inr (.inl x))) sh M := ⟨rfl, x, rfl, h⟩
theorem mv_qv_i {sh : mv_SH} {F : mv_Mem → Prop} {M : mv_Mem} (h : F M) : mv_qv sh F none sh M := ⟨rfl, rfl, h⟩
/-- one instruction: call, next, jump, post: what is to hold of a call, of the next instruction, behind a jump, at the end -/
def mv_body (call : Nat → List mv_V → mv_SH → mv_Mem → (Option mv_V → mv_SH → mv_Mem → Prop) → Prop)
    (next : mv_L → List mv_V → mv_SH → mv_Mem → Prop) (jump : Nat → mv_L → List mv_V → mv_SH → mv_Mem → Prop)
    (post : Option mv_V → mv_SH → mv_Mem → Prop) (n0 s0 mc ms : Nat) (ni : Instr) (a b c : Nat) (v : Int) (ts : List Nat) (L : mv_L) (st : List mv_V) (sh : mv_SH) (M : mv_Mem) : Prop :=
  match ni with
  | .iconst _ => next L (.inl v :: st) sh M
  | .lconst _ => next L (.inr (.inl v) :: st) sh M
  | .iload _ => (match mv_lg a L with
    | some (.inl x) => next L (.inl x :: st) sh M
    | _ => False)
  | .lload _ => (match mv_lg a L with
    | some (.inr (.inl x)) => next L (.inr (.inl x) :: st) sh M
    | _ => False)
  | .aload _ => (match mv_lg a L with
    | some (.inr (.inr x)) => next L (.inr (.inr x) :: st) sh M
    | _ => False)
  | .istore _ => mv_pi st fun x r => next (mv_st1 a (.inl x) L) r sh M
  | .lstore _ => mv_pl st fun x r => next (mv_st2 a x L) r sh M
  | .astore _ => mv_pr st fun x r => next (mv_st1 a (.inr (.inr x)) L) r sh M
  | .iinc _ _ => (match mv_lg a L with
    | some (.inl x) => mv_R32 (x + v) ∧ next (mv_st1 a (.inl (x + v)) L) st sh M
    | _ => False)
  | .iadd => mv_pi st fun y r => mv_pi r fun x r => mv_R32 (x + y) ∧ next L (.inl (x + y) :: r) sh M
  | .isub => mv_pi st fun y r => mv_pi r fun x r => mv_R32 (x - y) ∧ next L (.inl (x - y) :: r) sh M
  | .imul => mv_pi st fun y r => mv_pi r fun x r => mv_R32 (x * y) ∧ next L (.inl (x * y) :: r) sh M
  | .idiv => mv_pi st fun y r => mv_pi r fun x r => (¬ y = 0 ∧ mv_R32 (x.tdiv y)) ∧ next L (.inl (x.tdiv y) :: r) sh M
  | .irem => mv_pi st fun y r => mv_pi r fun x r => ¬ y = 0 ∧ next L (.inl (x.tmod y) :: r) sh M
  | .ineg => mv_pi st fun x r => mv_R32 (-x) ∧ next L (.inl (-x) :: r) sh M
  | .iand => mv_pi st fun y r => mv_pi r fun x r => next L (.inl (mv_and x y) :: r) sh M
  | .ixor => mv_pi st fun y r => mv_pi r fun x r => next L (.inl (mv_xor x y) :: r) sh M
  | .ishl => mv_pi st fun y r => mv_pi r fun x r => next L (.inl (mv_shl x y) :: r) sh M
  | .ishr => mv_pi st fun y r => mv_pi r fun x r => next L (.inl (mv_shr x y) :: r) sh M
  | .ladd => mv_pl st fun y r => mv_pl r fun x r => mv_R64 (x + y) ∧ next L (.inr (.inl (x + y)) :: r) sh M
  | .lsub => mv_pl st fun y r => mv_pl r fun x r => mv_R64 (x - y) ∧ next L (.inr (.inl (x - y)) :: r) sh M
  | .lmul => mv_pl st fun y r => mv_pl r fun x r => mv_R64 (x * y) ∧ next L (.inr (.inl (x * y)) :: r) sh M
  | .ldiv => mv_pl st fun y r => mv_pl r fun x r => (¬ y = 0 ∧ mv_R64 (x.tdiv y)) ∧ next L (.inr (.inl (x.tdiv y)) :: r) sh M
  | .lrem => mv_pl st fun y r => mv_pl r fun x r => ¬ y = 0 ∧ next L (.inr (.inl (x.tmod y)) :: r) sh M
  | .lneg => mv_pl st fun x r => mv_R64 (-x) ∧ next L (.inr (.inl (-x)) :: r) sh M
  | .land => mv_pl st fun y r => mv_pl r fun x r => next L (.inr (.inl (mv_land x y)) :: r) sh M
  | .lor => mv_pl st fun y r => mv_pl r fun x r => next L (.inr (.inl (mv_lor x y)) :: r) sh M
  | .lxor => mv_pl st fun y r => mv_pl r fun x r => next L (.inr (.inl (mv_lxor x y)) :: r) sh M
  | .lshl => mv_pi st fun y r => mv_pl r fun x r => next L (.inr (.inl (mv_lshl x y)) :: r) sh M
  | .lshr => mv_pi st fun y r => mv_pl r fun x r => next L (.inr (.inl (mv_lshr x y)) :: r) sh M
  | .lushr => mv_pi st fun y r => mv_pl r fun x r => next L (.inr (.inl (mv_lushr x y)) :: r) sh M
  | .i2l => mv_pi st fun x r => next L (.inr (.inl x) :: r) sh M
  | .l2i => mv_pl st fun x r => mv_R32 x ∧ next L (.inl x :: r) sh M
  | .lcmp => mv_pl st fun y r => mv_pl r fun x r => next L (.inl (mv_cmp x y) :: r) sh M
  | .dup => (match st with
    | x :: r => if mv_isL x = false then next L (x :: x :: r) sh M else False
    | _ => False)
  | .dup2 => (match st with
    | y :: x :: r => if mv_isL x = false ∧ mv_isL y = false then next L (y :: x :: y :: x :: r) sh M else False
    | _ => False)
  | .pop => (match st with
    | x :: r => if mv_isL x = false then next L r sh M else False
    | _ => False)
  | .goto _ => jump a L st sh M
  | .ifCond k _ => mv_pi st fun x r => mv_cd k x 0 (jump a L r sh M) (next L r sh M)
  | .if_icmp k _ => mv_pi st fun y r => mv_pi r fun x r => mv_cd k x y (jump a L r sh M) (next L r sh M)
  | .tableswitch _ _ _ _ => mv_pi st fun x r => mv_sw (fun t => jump t L r sh M) x a v ts
  | .getfield _ => mv_pr st fun k r => if 1 ≤ k ∧ k ≤ sh.1 ∧ sh.2.2.1 k = a then
      (if c = 2 then (if 1 ≤ sh.2.2.2.2 k b then next L (.inr (.inr (sh.2.2.2.2 k b)) :: r) sh M else False) else next L (.inl (M k b) :: r) sh M) else False
  | .putfield _ => if c = 2 then (mv_pr st fun j r => mv_pr r fun k r => if 1 ≤ k ∧ k ≤ sh.1 ∧ sh.2.2.1 k = a ∧ 1 ≤ j ∧ j ≤ sh.1 then next L r (mv_rf sh k b j) M else False)
      else mv_pi st fun x r => mv_pr r fun k r => if 1 ≤ k ∧ k ≤ sh.1 ∧ sh.2.2.1 k = a then (if c = 1 then (x = 0 ∨ x = 1) ∧ next L r sh (mv_up M k b x) else next L r sh (mv_up M k b x)) else False
  | .iaload => mv_pi st fun i r => mv_pr r fun k r => if k ≤ sh.1 ∧ sh.2.2.1 k = 100 then (0 ≤ i ∧ i < (sh.2.2.2.1 k : Int)) ∧ next L (.inl (M k i.toNat) :: r) sh M else False
  | .laload => mv_pi st fun i r => mv_pr r fun k r => if 1 ≤ k ∧ k ≤ sh.1 ∧ sh.2.2.1 k = 101 then (0 ≤ i ∧ i < (sh.2.2.2.1 k : Int)) ∧ next L (.inr (.inl (M k i.toNat)) :: r) sh M else False
  | .baload => mv_pi st fun i r => mv_pr r fun k r => if 1 ≤ k ∧ k ≤ sh.1 ∧ sh.2.2.1 k = 102 then (0 ≤ i ∧ i < (sh.2.2.2.1 k : Int)) ∧ next L (.inl (M k i.toNat) :: r) sh M else False
  | .iastore => mv_pi st fun x r => mv_pi r fun i r => mv_pr r fun k r => if 1 ≤ k ∧ k ≤ sh.1 ∧ sh.2.2.1 k = 100 then (0 ≤ i ∧ i < (sh.2.2.2.1 k : Int)) ∧ next L r sh (mv_up M k i.toNat x) else False
  | .lastore => mv_pl st fun x r => mv_pi r fun i r => mv_pr r fun k r => if 1 ≤ k ∧ k ≤ sh.1 ∧ sh.2.2.1 k = 101 then (0 ≤ i ∧ i < (sh.2.2.2.1 k : Int)) ∧ next L r sh (mv_up M k i.toNat x) else False
  | .bastore => mv_pi st fun x r => mv_pi r fun i r => mv_pr r fun k r => if 1 ≤ k ∧ k ≤ sh.1 ∧ sh.2.2.1 k = 102 then ((0 ≤ i ∧ i < (sh.2.2.2.1 k : Int)) ∧ (x = 0 ∨ x = 1)) ∧ next L r sh (mv_up M k i.toNat x) else False
  | .arraylength => mv_pr st fun k r => if k ≤ sh.1 ∧ sh.2.2.1 k = 100 then next L (.inl (sh.2.2.2.1 k : Int) :: r) sh M else False
  | .newarray _ => mv_pi st fun n r => if 0 ≤ n ∧ n ≤ 100000 ∧ sh.1 + 1 ≤ n0 + mc ∧ sh.2.1 + n.toNat ≤ s0 + ms then next L (.inr (.inr (sh.1 + 1)) :: r) (mv_nwA sh a n.toNat) (mv_nwM sh M) else False
  | .new _ => if sh.1 + 1 ≤ n0 + mc ∧ sh.2.1 + b ≤ s0 + ms then next L (.inr (.inr (sh.1 + 1)) :: st) (mv_nwO sh a b) (mv_nwM sh M) else False
  | .invokespecial _ => if c = 1 then (mv_pr st fun _ r => if mv_stw r ≤ 8 then next L r sh M else False)
      else (match (st.take b).reverse with
        | .inr (.inr k) :: As => if mv_stw (st.drop b) ≤ 8 ∧ b ≤ st.length ∧ sh.1 + (c - 2) ≤ n0 + mc ∧ sh.2.1 + v.toNat ≤ s0 + ms then call a (.inr (.inr k) :: As) sh M (fun r sh' M' => next L (r.toList ++ st.drop b) sh' M') else False
        | _ => False)
  | .invokevirtual _ => (match (st.take b).reverse with
        | .inr (.inr k) :: As => if (1 ≤ k ∧ k ≤ sh.1 ∧ sh.2.2.1 k = c) ∧ mv_stw (st.drop b) ≤ 8 ∧ b ≤ st.length then (if v = 1 then call a (.inr (.inr k) :: As) sh M (mv_qi sh fun x M' => next L (.inl x :: st.drop b) sh M') else if v = 2 then call a (.inr (.inr k) :: As) sh M (mv_ql sh fun x M' => next L (.inr (.inl x) :: st.drop b) sh M') else call a (.inr (.inr k) :: As) sh M (mv_qv sh fun M' => next L (st.drop b) sh M')) else False
        | _ => False)
  | .invokestatic _ => if c = 1 then (if mv_stw (st.drop b) ≤ 8 ∧ b ≤ st.length then (if v = 1 then call a (st.take b).reverse sh M (mv_qi sh fun x M' => next L (.inl x :: st.drop b) sh M') else if v = 2 then call a (st.take b).reverse sh M (mv_ql sh fun x M' => next L (.inr (.inl x) :: st.drop b) sh M') else call a (st.take b).reverse sh M (mv_qv sh fun M' => next L (st.drop b) sh M')) else False)
      else mv_pi st fun n r => mv_pi r fun dp r => mv_pr r fun d r => mv_pi r fun sp r => mv_pr r fun s r =>
        if (1 ≤ s ∧ s ≤ sh.1 ∧ sh.2.2.1 s = c) ∧ (1 ≤ d ∧ d ≤ sh.1 ∧ sh.2.2.1 d = c) ∧ mv_stw r ≤ 8 then (0 ≤ sp ∧ 0 ≤ dp ∧ 0 ≤ n ∧ sp + n ≤ (sh.2.2.2.1 s : Int) ∧ dp + n ≤ (sh.2.2.2.1 d : Int)) ∧ next L r sh (mv_cp M s sp.toNat d dp.toNat n.toNat) else False
  | .ireturn => (match st with
    | [.inl x] => if 150 ≤ mc ∨ (sh.1 = n0 + mc ∧ sh.2.1 = s0 + ms) then (if a = 1 then (x = 0 ∨ x = 1) ∧ post (some (.inl x)) sh M else post (some (.inl x)) sh M) else False
    | _ => False)
  | .lreturn => (match st with
    | [.inr (.inl x)] => if sh.1 = n0 + mc ∧ sh.2.1 = s0 + ms then post (some (.inr (.inl x))) sh M else False
    | _ => False)
  | .return_ => (match st with
    | [] => if sh.1 = n0 + mc ∧ sh.2.1 = s0 + ms then post none sh M else False
    | _ => False)
  | _ => False
/-- a method: its name, code, locals, answer, class; its instructions; its room: frames, cells, slots, words of locals -/
abbrev mv_T : Type := MethodName × ByteArray × Nat × Option FieldType × String × List mv_E × Nat × Nat × Nat × Nat
def mt_y (r : mv_T) : MethodName := r.1
def mt_cc (r : mv_T) : ByteArray := r.2.1
def mt_nL (r : mv_T) : Nat := r.2.2.1
def mt_ret (r : mv_T) : Option FieldType := r.2.2.2.1
def mt_own (r : mv_T) : String := r.2.2.2.2.1
def mt_code (r : mv_T) : List mv_E := r.2.2.2.2.2.1
def mt_fr (r : mv_T) : Nat := r.2.2.2.2.2.2.1
def mt_mc (r : mv_T) : Nat := r.2.2.2.2.2.2.2.1
def mt_ms (r : mv_T) : Nat := r.2.2.2.2.2.2.2.2.1
def mt_lo (r : mv_T) : Nat := r.2.2.2.2.2.2.2.2.2
def mt_rm (r : mv_T) : Room := { frames := mt_fr r, cells := mt_mc r, slots := mt_ms r, locals := mt_lo r }
/-- the code from a place on -/
def mv_at (pc : Nat) : List mv_E → List mv_E
  | [] => []
  | e :: r => if e.1 = pc then e :: r else mv_at pc r
/-- the locals at a method's entry -/
def mv_en (i : Nat) : List mv_V → mv_L
  | [] => []
  | v :: r => (i, v) :: mv_en (i + if mv_isL v then 2 else 1) r
def mv_pk (ks : List Nat) (L : mv_L) : mv_L := ks.filterMap (fun a => (mv_lg a L).map fun v => (a, v))
def mv_cut (pc : Nat) : List (Nat × List Nat) → Option (List Nat)
  | [] => none
  | q :: r => if q.1 = pc then some q.2 else mv_cut pc r
end
section
/-! THE CODE of all methods for the small machine (by program: wip/p40/gen.py) -/
def mc_X0_init : List mv_E := [
  (0, 1, .aload 0, 0, 0, 0, 0, []), (1, 3, .invokespecial 0, 0, 0, 1, 0, [85, 35, 36]), (4, 1, .aload 0, 0, 0, 0, 0, []), (5, 1, .iconst 0, 0, 0, 0, 1, []), (6, 3, .putfield 0, 0, 0, 0, 0, [86]), (9, 1, .aload 0, 0, 0, 0, 0, []),
  (10, 1, .iconst 0, 0, 0, 0, 1, []), (11, 3, .putfield 0, 0, 1, 0, 0, [89]), (14, 1, .aload 0, 0, 0, 0, 0, []), (15, 1, .iconst 0, 0, 0, 0, 1, []), (16, 3, .putfield 0, 0, 2, 0, 0, [91]), (19, 1, .aload 0, 0, 0, 0, 0, []),
  (20, 1, .iconst 0, 0, 0, 0, 0, []), (21, 3, .putfield 0, 0, 3, 0, 0, [96]), (24, 1, .aload 0, 0, 0, 0, 0, []), (25, 1, .iconst 0, 0, 0, 0, 0, []), (26, 3, .putfield 0, 0, 4, 0, 0, [98]), (29, 1, .aload 0, 0, 0, 0, 0, []),
  (30, 2, .iconst 0, 0, 0, 0, 48, []), (32, 2, .newarray .int, 100, 0, 0, 0, [53]), (34, 3, .putfield 0, 0, 5, 2, 0, [103]), (37, 1, .aload 0, 0, 0, 0, 0, []), (38, 2, .iconst 0, 0, 0, 0, 48, []), (40, 2, .newarray .int, 100, 0, 0, 0, [53]),
  (42, 3, .putfield 0, 0, 6, 2, 0, [104]), (45, 1, .aload 0, 0, 0, 0, 0, []), (46, 2, .iconst 0, 0, 0, 0, 48, []), (48, 2, .newarray .int, 100, 0, 0, 0, [53]), (50, 3, .putfield 0, 0, 7, 2, 0, [108]), (53, 1, .aload 0, 0, 0, 0, 0, []),
  (54, 2, .iconst 0, 0, 0, 0, 48, []), (56, 2, .newarray .int, 100, 0, 0, 0, [53]), (58, 3, .putfield 0, 0, 8, 2, 0, [111]), (61, 1, .aload 0, 0, 0, 0, 0, []), (62, 2, .iconst 0, 0, 0, 0, 48, []), (64, 2, .newarray .int, 100, 0, 0, 0, [53]),
  (66, 3, .putfield 0, 0, 9, 2, 0, [115]), (69, 1, .aload 0, 0, 0, 0, 0, []), (70, 3, .iconst 0, 0, 0, 0, 192, []), (73, 2, .newarray .int, 100, 0, 0, 0, [53]), (75, 3, .putfield 0, 0, 10, 2, 0, [119]), (78, 1, .aload 0, 0, 0, 0, 0, []),
  (79, 1, .iconst 0, 0, 0, 0, 3, []), (80, 2, .newarray .int, 100, 0, 0, 0, [53]), (82, 3, .putfield 0, 0, 11, 2, 0, [121]), (85, 1, .aload 0, 0, 0, 0, 0, []), (86, 1, .iconst 0, 0, 0, 0, 4, []), (87, 2, .newarray .int, 100, 0, 0, 0, [53]),
  (89, 1, .dup, 0, 0, 0, 0, []), (90, 1, .iconst 0, 0, 0, 0, 0, []), (91, 2, .iconst 0, 0, 0, 0, 10, []), (93, 1, .iastore, 0, 0, 0, 0, []), (94, 1, .dup, 0, 0, 0, 0, []), (95, 1, .iconst 0, 0, 0, 0, 1, []),
  (96, 2, .iconst 0, 0, 0, 0, 6, []), (98, 1, .iastore, 0, 0, 0, 0, []), (99, 1, .dup, 0, 0, 0, 0, []), (100, 1, .iconst 0, 0, 0, 0, 2, []), (101, 1, .iconst 0, 0, 0, 0, 3, []), (102, 1, .iastore, 0, 0, 0, 0, []),
  (103, 1, .dup, 0, 0, 0, 0, []), (104, 1, .iconst 0, 0, 0, 0, 3, []), (105, 1, .iconst 0, 0, 0, 0, 2, []), (106, 1, .iastore, 0, 0, 0, 0, []), (107, 3, .putfield 0, 0, 12, 2, 0, [124]), (110, 1, .iconst 0, 0, 0, 0, 0, []),
  (111, 1, .istore 0, 1, 0, 0, 0, []), (112, 1, .iload 0, 1, 0, 0, 0, []), (113, 2, .iconst 0, 0, 0, 0, 48, []), (115, 3, .if_icmp .ge 0, 131, 0, 0, 0, []), (118, 1, .aload 0, 0, 0, 0, 0, []), (119, 3, .getfield 0, 0, 8, 2, 0, [111]),
  (122, 1, .iload 0, 1, 0, 0, 0, []), (123, 1, .iconst 0, 0, 0, 0, (-1), []), (124, 1, .iastore, 0, 0, 0, 0, []), (125, 3, .iinc 0 0, 1, 0, 0, 1, []), (128, 3, .goto 0, 112, 0, 0, 0, []), (131, 1, .return_, 0, 0, 0, 0, [])
  ]
def mc_X0_layOut : List mv_E := [
  (0, 1, .aload 0, 0, 0, 0, 0, []), (1, 3, .invokevirtual 0, 2, 1, 0, 0, [729, 731, 13, 20]), (4, 1, .iconst 0, 0, 0, 0, 0, []), (5, 1, .istore 0, 2, 0, 0, 0, []), (6, 1, .iconst 0, 0, 0, 0, 0, []), (7, 1, .istore 0, 3, 0, 0, 0, []),
  (8, 1, .iconst 0, 0, 0, 0, 0, []), (9, 2, .istore 0, 4, 0, 0, 0, []), (11, 2, .iload 0, 4, 0, 0, 0, []), (13, 1, .aload 0, 1, 0, 0, 0, []), (14, 3, .getfield 0, 5, 1, 0, 0, [46]), (17, 3, .if_icmp .ge 0, 102, 0, 0, 0, []),
  (20, 1, .aload 0, 1, 0, 0, 0, []), (21, 3, .getfield 0, 5, 0, 2, 0, [44]), (24, 2, .iload 0, 4, 0, 0, 0, []), (26, 1, .iaload, 0, 0, 0, 0, []), (27, 2, .iconst 0, 0, 0, 0, 47, []), (29, 3, .if_icmp .ne 0, 40, 0, 0, 0, []),
  (32, 1, .iconst 0, 0, 0, 0, 0, []), (33, 1, .istore 0, 2, 0, 0, 0, []), (34, 3, .iinc 0 0, 3, 0, 0, 1, []), (37, 3, .goto 0, 96, 0, 0, 0, []), (40, 1, .aload 0, 0, 0, 0, 0, []), (41, 3, .getfield 0, 0, 2, 0, 0, [91]),
  (44, 2, .iconst 0, 0, 0, 0, 48, []), (46, 3, .if_icmp .ge 0, 96, 0, 0, 0, []), (49, 1, .aload 0, 0, 0, 0, 0, []), (50, 3, .getfield 0, 0, 6, 2, 0, [104]), (53, 1, .aload 0, 0, 0, 0, 0, []), (54, 3, .getfield 0, 0, 2, 0, 0, [91]),
  (57, 1, .aload 0, 1, 0, 0, 0, []), (58, 3, .getfield 0, 5, 0, 2, 0, [44]), (61, 2, .iload 0, 4, 0, 0, 0, []), (63, 1, .iaload, 0, 0, 0, 0, []), (64, 2, .iconst 0, 0, 0, 0, 48, []), (66, 1, .isub, 0, 0, 0, 0, []),
  (67, 1, .iastore, 0, 0, 0, 0, []), (68, 1, .aload 0, 0, 0, 0, 0, []), (69, 3, .getfield 0, 0, 5, 2, 0, [103]), (72, 1, .aload 0, 0, 0, 0, 0, []), (73, 3, .getfield 0, 0, 2, 0, 0, [91]), (76, 2, .iconst 0, 0, 0, 0, 10, []),
  (78, 1, .iload 0, 2, 0, 0, 0, []), (79, 1, .imul, 0, 0, 0, 0, []), (80, 1, .iload 0, 3, 0, 0, 0, []), (81, 1, .iadd, 0, 0, 0, 0, []), (82, 1, .iastore, 0, 0, 0, 0, []), (83, 1, .aload 0, 0, 0, 0, 0, []),
  (84, 1, .dup, 0, 0, 0, 0, []), (85, 3, .getfield 0, 0, 2, 0, 0, [91]), (88, 1, .iconst 0, 0, 0, 0, 1, []), (89, 1, .iadd, 0, 0, 0, 0, []), (90, 3, .putfield 0, 0, 2, 0, 0, [91]), (93, 3, .iinc 0 0, 2, 0, 0, 1, []),
  (96, 3, .iinc 0 0, 4, 0, 0, 1, []), (99, 3, .goto 0, 11, 0, 0, 0, []), (102, 1, .aload 0, 0, 0, 0, 0, []), (103, 1, .iload 0, 2, 0, 0, 0, []), (104, 3, .putfield 0, 0, 0, 0, 0, [86]), (107, 1, .aload 0, 0, 0, 0, 0, []),
  (108, 1, .iload 0, 3, 0, 0, 0, []), (109, 1, .iconst 0, 0, 0, 0, 1, []), (110, 1, .iadd, 0, 0, 0, 0, []), (111, 3, .putfield 0, 0, 1, 0, 0, [89]), (114, 1, .return_, 0, 0, 0, 0, [])
  ]
def mc_X0_clearAway : List mv_E := [
  (0, 1, .aload 0, 0, 0, 0, 0, []), (1, 1, .iconst 0, 0, 0, 0, 0, []), (2, 3, .putfield 0, 0, 2, 0, 0, [91]), (5, 1, .aload 0, 0, 0, 0, 0, []), (6, 1, .iconst 0, 0, 0, 0, 0, []), (7, 3, .putfield 0, 0, 3, 0, 0, [96]),
  (10, 1, .aload 0, 0, 0, 0, 0, []), (11, 1, .iconst 0, 0, 0, 0, 0, []), (12, 3, .putfield 0, 0, 4, 0, 0, [98]), (15, 1, .iconst 0, 0, 0, 0, 0, []), (16, 1, .istore 0, 1, 0, 0, 0, []), (17, 1, .iload 0, 1, 0, 0, 0, []),
  (18, 2, .iconst 0, 0, 0, 0, 48, []), (20, 3, .if_icmp .ge 0, 50, 0, 0, 0, []), (23, 1, .aload 0, 0, 0, 0, 0, []), (24, 3, .getfield 0, 0, 7, 2, 0, [108]), (27, 1, .iload 0, 1, 0, 0, 0, []), (28, 1, .iconst 0, 0, 0, 0, 0, []),
  (29, 1, .iastore, 0, 0, 0, 0, []), (30, 1, .aload 0, 0, 0, 0, 0, []), (31, 3, .getfield 0, 0, 8, 2, 0, [111]), (34, 1, .iload 0, 1, 0, 0, 0, []), (35, 1, .iconst 0, 0, 0, 0, (-1), []), (36, 1, .iastore, 0, 0, 0, 0, []),
  (37, 1, .aload 0, 0, 0, 0, 0, []), (38, 3, .getfield 0, 0, 9, 2, 0, [115]), (41, 1, .iload 0, 1, 0, 0, 0, []), (42, 1, .iconst 0, 0, 0, 0, 0, []), (43, 1, .iastore, 0, 0, 0, 0, []), (44, 3, .iinc 0 0, 1, 0, 0, 1, []),
  (47, 3, .goto 0, 17, 0, 0, 0, []), (50, 1, .iconst 0, 0, 0, 0, 0, []), (51, 1, .istore 0, 1, 0, 0, 0, []), (52, 1, .iload 0, 1, 0, 0, 0, []), (53, 3, .iconst 0, 0, 0, 0, 192, []), (56, 3, .if_icmp .ge 0, 72, 0, 0, 0, []),
  (59, 1, .aload 0, 0, 0, 0, 0, []), (60, 3, .getfield 0, 0, 10, 2, 0, [119]), (63, 1, .iload 0, 1, 0, 0, 0, []), (64, 1, .iconst 0, 0, 0, 0, 0, []), (65, 1, .iastore, 0, 0, 0, 0, []), (66, 3, .iinc 0 0, 1, 0, 0, 1, []),
  (69, 3, .goto 0, 52, 0, 0, 0, []), (72, 1, .return_, 0, 0, 0, 0, [])
  ]
def mc_X0_takeFrom : List mv_E := [
  (0, 1, .aload 0, 0, 0, 0, 0, []), (1, 1, .aload 0, 1, 0, 0, 0, []), (2, 3, .getfield 0, 0, 0, 0, 0, [86]), (5, 3, .putfield 0, 0, 0, 0, 0, [86]), (8, 1, .aload 0, 0, 0, 0, 0, []), (9, 1, .aload 0, 1, 0, 0, 0, []),
  (10, 3, .getfield 0, 0, 1, 0, 0, [89]), (13, 3, .putfield 0, 0, 1, 0, 0, [89]), (16, 1, .aload 0, 0, 0, 0, 0, []), (17, 1, .aload 0, 1, 0, 0, 0, []), (18, 3, .getfield 0, 0, 2, 0, 0, [91]), (21, 3, .putfield 0, 0, 2, 0, 0, [91]),
  (24, 1, .aload 0, 0, 0, 0, 0, []), (25, 1, .aload 0, 1, 0, 0, 0, []), (26, 3, .getfield 0, 0, 3, 0, 0, [96]), (29, 3, .putfield 0, 0, 3, 0, 0, [96]), (32, 1, .aload 0, 0, 0, 0, 0, []), (33, 1, .aload 0, 1, 0, 0, 0, []),
  (34, 3, .getfield 0, 0, 4, 0, 0, [98]), (37, 3, .putfield 0, 0, 4, 0, 0, [98]), (40, 1, .aload 0, 1, 0, 0, 0, []), (41, 3, .getfield 0, 0, 5, 2, 0, [103]), (44, 1, .iconst 0, 0, 0, 0, 0, []), (45, 1, .aload 0, 0, 0, 0, 0, []),
  (46, 3, .getfield 0, 0, 5, 2, 0, [103]), (49, 1, .iconst 0, 0, 0, 0, 0, []), (50, 2, .iconst 0, 0, 0, 0, 48, []), (52, 3, .invokestatic 0, 0, 0, 100, 0, [660, 638, 637, 27]), (55, 1, .aload 0, 1, 0, 0, 0, []), (56, 3, .getfield 0, 0, 6, 2, 0, [104]),
  (59, 1, .iconst 0, 0, 0, 0, 0, []), (60, 1, .aload 0, 0, 0, 0, 0, []), (61, 3, .getfield 0, 0, 6, 2, 0, [104]), (64, 1, .iconst 0, 0, 0, 0, 0, []), (65, 2, .iconst 0, 0, 0, 0, 48, []), (67, 3, .invokestatic 0, 0, 0, 100, 0, [660, 638, 637, 27]),
  (70, 1, .aload 0, 1, 0, 0, 0, []), (71, 3, .getfield 0, 0, 7, 2, 0, [108]), (74, 1, .iconst 0, 0, 0, 0, 0, []), (75, 1, .aload 0, 0, 0, 0, 0, []), (76, 3, .getfield 0, 0, 7, 2, 0, [108]), (79, 1, .iconst 0, 0, 0, 0, 0, []),
  (80, 2, .iconst 0, 0, 0, 0, 48, []), (82, 3, .invokestatic 0, 0, 0, 100, 0, [660, 638, 637, 27]), (85, 1, .aload 0, 1, 0, 0, 0, []), (86, 3, .getfield 0, 0, 8, 2, 0, [111]), (89, 1, .iconst 0, 0, 0, 0, 0, []), (90, 1, .aload 0, 0, 0, 0, 0, []),
  (91, 3, .getfield 0, 0, 8, 2, 0, [111]), (94, 1, .iconst 0, 0, 0, 0, 0, []), (95, 2, .iconst 0, 0, 0, 0, 48, []), (97, 3, .invokestatic 0, 0, 0, 100, 0, [660, 638, 637, 27]), (100, 1, .aload 0, 1, 0, 0, 0, []), (101, 3, .getfield 0, 0, 9, 2, 0, [115]),
  (104, 1, .iconst 0, 0, 0, 0, 0, []), (105, 1, .aload 0, 0, 0, 0, 0, []), (106, 3, .getfield 0, 0, 9, 2, 0, [115]), (109, 1, .iconst 0, 0, 0, 0, 0, []), (110, 2, .iconst 0, 0, 0, 0, 48, []), (112, 3, .invokestatic 0, 0, 0, 100, 0, [660, 638, 637, 27]),
  (115, 1, .aload 0, 1, 0, 0, 0, []), (116, 3, .getfield 0, 0, 10, 2, 0, [119]), (119, 1, .iconst 0, 0, 0, 0, 0, []), (120, 1, .aload 0, 0, 0, 0, 0, []), (121, 3, .getfield 0, 0, 10, 2, 0, [119]), (124, 1, .iconst 0, 0, 0, 0, 0, []),
  (125, 3, .iconst 0, 0, 0, 0, 192, []), (128, 3, .invokestatic 0, 0, 0, 100, 0, [660, 638, 637, 27]), (131, 1, .aload 0, 1, 0, 0, 0, []), (132, 3, .getfield 0, 0, 11, 2, 0, [121]), (135, 1, .iconst 0, 0, 0, 0, 0, []), (136, 1, .aload 0, 0, 0, 0, 0, []),
  (137, 3, .getfield 0, 0, 11, 2, 0, [121]), (140, 1, .iconst 0, 0, 0, 0, 0, []), (141, 1, .iconst 0, 0, 0, 0, 3, []), (142, 3, .invokestatic 0, 0, 0, 100, 0, [660, 638, 637, 27]), (145, 1, .aload 0, 1, 0, 0, 0, []), (146, 3, .getfield 0, 0, 12, 2, 0, [124]),
  (149, 1, .iconst 0, 0, 0, 0, 0, []), (150, 1, .aload 0, 0, 0, 0, 0, []), (151, 3, .getfield 0, 0, 12, 2, 0, [124]), (154, 1, .iconst 0, 0, 0, 0, 0, []), (155, 1, .iconst 0, 0, 0, 0, 4, []), (156, 3, .invokestatic 0, 0, 0, 100, 0, [660, 638, 637, 27]),
  (159, 1, .return_, 0, 0, 0, 0, [])
  ]
def mc_X0_placeOf : List mv_E := [
  (0, 1, .iload 0, 1, 0, 0, 0, []), (1, 3, .ifCond .lt 0, 26, 0, 0, 0, []), (4, 1, .iload 0, 1, 0, 0, 0, []), (5, 2, .iconst 0, 0, 0, 0, 10, []), (7, 1, .idiv, 0, 0, 0, 0, []), (8, 1, .aload 0, 0, 0, 0, 0, []),
  (9, 3, .getfield 0, 0, 0, 0, 0, [86]), (12, 3, .if_icmp .ge 0, 26, 0, 0, 0, []), (15, 1, .iload 0, 1, 0, 0, 0, []), (16, 2, .iconst 0, 0, 0, 0, 10, []), (18, 1, .irem, 0, 0, 0, 0, []), (19, 1, .aload 0, 0, 0, 0, 0, []),
  (20, 3, .getfield 0, 0, 1, 0, 0, [89]), (23, 3, .if_icmp .lt 0, 28, 0, 0, 0, []), (26, 1, .iconst 0, 0, 0, 0, (-1), []), (27, 1, .ireturn, 0, 0, 0, 0, []), (28, 1, .iload 0, 1, 0, 0, 0, []), (29, 2, .iconst 0, 0, 0, 0, 10, []),
  (31, 1, .irem, 0, 0, 0, 0, []), (32, 1, .aload 0, 0, 0, 0, 0, []), (33, 3, .getfield 0, 0, 0, 0, 0, [86]), (36, 1, .imul, 0, 0, 0, 0, []), (37, 1, .iload 0, 1, 0, 0, 0, []), (38, 2, .iconst 0, 0, 0, 0, 10, []),
  (40, 1, .idiv, 0, 0, 0, 0, []), (41, 1, .iadd, 0, 0, 0, 0, []), (42, 1, .ireturn, 0, 0, 0, 0, [])
  ]
def mc_X0_beside : List mv_E := [
  (0, 1, .aload 0, 0, 0, 0, 0, []), (1, 3, .getfield 0, 0, 5, 2, 0, [103]), (4, 1, .iload 0, 1, 0, 0, 0, []), (5, 1, .iaload, 0, 0, 0, 0, []), (6, 2, .iconst 0, 0, 0, 0, 10, []), (8, 1, .idiv, 0, 0, 0, 0, []),
  (9, 1, .istore 0, 3, 0, 0, 0, []), (10, 1, .aload 0, 0, 0, 0, 0, []), (11, 3, .getfield 0, 0, 5, 2, 0, [103]), (14, 1, .iload 0, 1, 0, 0, 0, []), (15, 1, .iaload, 0, 0, 0, 0, []), (16, 2, .iconst 0, 0, 0, 0, 10, []),
  (18, 1, .irem, 0, 0, 0, 0, []), (19, 2, .istore 0, 4, 0, 0, 0, []), (21, 1, .iload 0, 2, 0, 0, 0, []), (22, 26, .tableswitch 0 0 0 #[], 100, 0, 0, 0, [48, 66, 78]), (48, 1, .iload 0, 3, 0, 0, 0, []), (49, 1, .iconst 0, 0, 0, 0, 1, []),
  (50, 1, .iadd, 0, 0, 0, 0, []), (51, 1, .aload 0, 0, 0, 0, 0, []), (52, 3, .getfield 0, 0, 0, 0, 0, [86]), (55, 3, .if_icmp .ge 0, 64, 0, 0, 0, []), (58, 1, .iload 0, 1, 0, 0, 0, []), (59, 1, .iconst 0, 0, 0, 0, 1, []),
  (60, 1, .iadd, 0, 0, 0, 0, []), (61, 3, .goto 0, 65, 0, 0, 0, []), (64, 1, .iconst 0, 0, 0, 0, (-1), []), (65, 1, .ireturn, 0, 0, 0, 0, []), (66, 1, .iload 0, 3, 0, 0, 0, []), (67, 3, .ifCond .le 0, 76, 0, 0, 0, []),
  (70, 1, .iload 0, 1, 0, 0, 0, []), (71, 1, .iconst 0, 0, 0, 0, 1, []), (72, 1, .isub, 0, 0, 0, 0, []), (73, 3, .goto 0, 77, 0, 0, 0, []), (76, 1, .iconst 0, 0, 0, 0, (-1), []), (77, 1, .ireturn, 0, 0, 0, 0, []),
  (78, 2, .iload 0, 4, 0, 0, 0, []), (80, 1, .iconst 0, 0, 0, 0, 1, []), (81, 1, .iadd, 0, 0, 0, 0, []), (82, 1, .aload 0, 0, 0, 0, 0, []), (83, 3, .getfield 0, 0, 1, 0, 0, [89]), (86, 3, .if_icmp .ge 0, 98, 0, 0, 0, []),
  (89, 1, .iload 0, 1, 0, 0, 0, []), (90, 1, .aload 0, 0, 0, 0, 0, []), (91, 3, .getfield 0, 0, 0, 0, 0, [86]), (94, 1, .iadd, 0, 0, 0, 0, []), (95, 3, .goto 0, 99, 0, 0, 0, []), (98, 1, .iconst 0, 0, 0, 0, (-1), []),
  (99, 1, .ireturn, 0, 0, 0, 0, []), (100, 2, .iload 0, 4, 0, 0, 0, []), (102, 3, .ifCond .le 0, 114, 0, 0, 0, []), (105, 1, .iload 0, 1, 0, 0, 0, []), (106, 1, .aload 0, 0, 0, 0, 0, []), (107, 3, .getfield 0, 0, 0, 0, 0, [86]),
  (110, 1, .isub, 0, 0, 0, 0, []), (111, 3, .goto 0, 115, 0, 0, 0, []), (114, 1, .iconst 0, 0, 0, 0, (-1), []), (115, 1, .ireturn, 0, 0, 0, 0, [])
  ]
def mc_X0_sideTowards : List mv_E := [
  (0, 1, .iload 0, 1, 0, 0, 0, []), (1, 1, .iconst 0, 0, 0, 0, (-1), []), (2, 3, .if_icmp .eq 0, 10, 0, 0, 0, []), (5, 1, .iload 0, 2, 0, 0, 0, []), (6, 1, .iconst 0, 0, 0, 0, (-1), []), (7, 3, .if_icmp .ne 0, 12, 0, 0, 0, []),
  (10, 1, .iconst 0, 0, 0, 0, (-1), []), (11, 1, .ireturn, 0, 0, 0, 0, []), (12, 1, .iconst 0, 0, 0, 0, 0, []), (13, 1, .istore 0, 3, 0, 0, 0, []), (14, 1, .iload 0, 3, 0, 0, 0, []), (15, 1, .iconst 0, 0, 0, 0, 4, []),
  (16, 3, .if_icmp .ge 0, 37, 0, 0, 0, []), (19, 1, .aload 0, 0, 0, 0, 0, []), (20, 1, .iload 0, 1, 0, 0, 0, []), (21, 1, .iload 0, 3, 0, 0, 0, []), (22, 3, .invokevirtual 0, 5, 3, 0, 1, [741, 468, 469, 20]), (25, 1, .iload 0, 2, 0, 0, 0, []),
  (26, 3, .if_icmp .ne 0, 31, 0, 0, 0, []), (29, 1, .iload 0, 3, 0, 0, 0, []), (30, 1, .ireturn, 0, 0, 0, 0, []), (31, 3, .iinc 0 0, 3, 0, 0, 1, []), (34, 3, .goto 0, 14, 0, 0, 0, []), (37, 1, .iconst 0, 0, 0, 0, (-1), []),
  (38, 1, .ireturn, 0, 0, 0, 0, [])
  ]
def mc_X0_roadAt : List mv_E := [
  (0, 1, .aload 0, 0, 0, 0, 0, []), (1, 3, .getfield 0, 0, 10, 2, 0, [119]), (4, 1, .iload 0, 1, 0, 0, 0, []), (5, 1, .iconst 0, 0, 0, 0, 4, []), (6, 1, .imul, 0, 0, 0, 0, []), (7, 1, .iload 0, 2, 0, 0, 0, []),
  (8, 1, .iadd, 0, 0, 0, 0, []), (9, 1, .iaload, 0, 0, 0, 0, []), (10, 1, .istore 0, 3, 0, 0, 0, []), (11, 1, .iload 0, 3, 0, 0, 0, []), (12, 1, .iconst 0, 0, 0, 0, 4, []), (13, 3, .if_icmp .ne 0, 20, 0, 0, 0, []),
  (16, 1, .iconst 0, 0, 0, 0, 3, []), (17, 3, .goto 0, 21, 0, 0, 0, []), (20, 1, .iload 0, 3, 0, 0, 0, []), (21, 1, .ireturn, 0, 0, 0, 0, [])
  ]
def mc_X0_layRoad : List mv_E := [
  (0, 1, .aload 0, 0, 0, 0, 0, []), (1, 1, .iload 0, 1, 0, 0, 0, []), (2, 1, .iload 0, 2, 0, 0, 0, []), (3, 3, .invokevirtual 0, 5, 3, 0, 1, [741, 468, 469, 20]), (6, 2, .istore 0, 4, 0, 0, 0, []), (8, 2, .iload 0, 4, 0, 0, 0, []),
  (10, 1, .iconst 0, 0, 0, 0, (-1), []), (11, 3, .if_icmp .eq 0, 48, 0, 0, 0, []), (14, 1, .aload 0, 0, 0, 0, 0, []), (15, 3, .getfield 0, 0, 10, 2, 0, [119]), (18, 1, .iload 0, 1, 0, 0, 0, []), (19, 1, .iconst 0, 0, 0, 0, 4, []),
  (20, 1, .imul, 0, 0, 0, 0, []), (21, 1, .iload 0, 2, 0, 0, 0, []), (22, 1, .iadd, 0, 0, 0, 0, []), (23, 1, .iload 0, 3, 0, 0, 0, []), (24, 1, .iastore, 0, 0, 0, 0, []), (25, 1, .aload 0, 0, 0, 0, 0, []),
  (26, 3, .getfield 0, 0, 10, 2, 0, [119]), (29, 2, .iload 0, 4, 0, 0, 0, []), (31, 1, .iconst 0, 0, 0, 0, 4, []), (32, 1, .imul, 0, 0, 0, 0, []), (33, 1, .iload 0, 2, 0, 0, 0, []), (34, 1, .iconst 0, 0, 0, 0, 1, []),
  (35, 1, .ixor, 0, 0, 0, 0, []), (36, 1, .iadd, 0, 0, 0, 0, []), (37, 1, .iload 0, 3, 0, 0, 0, []), (38, 1, .iconst 0, 0, 0, 0, 3, []), (39, 3, .if_icmp .ne 0, 46, 0, 0, 0, []), (42, 1, .iconst 0, 0, 0, 0, 4, []),
  (43, 3, .goto 0, 47, 0, 0, 0, []), (46, 1, .iload 0, 3, 0, 0, 0, []), (47, 1, .iastore, 0, 0, 0, 0, []), (48, 1, .return_, 0, 0, 0, 0, [])
  ]
def mc_X0_marketOn : List mv_E := [
  (0, 1, .iconst 0, 0, 0, 0, 0, []), (1, 1, .istore 0, 2, 0, 0, 0, []), (2, 1, .iload 0, 2, 0, 0, 0, []), (3, 1, .aload 0, 0, 0, 0, 0, []), (4, 3, .getfield 0, 0, 4, 0, 0, [98]), (7, 3, .if_icmp .ge 0, 28, 0, 0, 0, []),
  (10, 1, .aload 0, 0, 0, 0, 0, []), (11, 3, .getfield 0, 0, 11, 2, 0, [121]), (14, 1, .iload 0, 2, 0, 0, 0, []), (15, 1, .iaload, 0, 0, 0, 0, []), (16, 1, .iload 0, 1, 0, 0, 0, []), (17, 3, .if_icmp .ne 0, 22, 0, 0, 0, []),
  (20, 1, .iload 0, 2, 0, 0, 0, []), (21, 1, .ireturn, 0, 0, 0, 0, []), (22, 3, .iinc 0 0, 2, 0, 0, 1, []), (25, 3, .goto 0, 2, 0, 0, 0, []), (28, 2, .iconst 0, 0, 0, 0, (-9), []), (30, 1, .ireturn, 0, 0, 0, 0, [])
  ]
def mc_X0_idleAcres : List mv_E := [
  (0, 1, .iconst 0, 0, 0, 0, 0, []), (1, 1, .istore 0, 1, 0, 0, 0, []), (2, 1, .iconst 0, 0, 0, 0, 0, []), (3, 1, .istore 0, 2, 0, 0, 0, []), (4, 1, .iload 0, 2, 0, 0, 0, []), (5, 1, .aload 0, 0, 0, 0, 0, []),
  (6, 3, .getfield 0, 0, 2, 0, 0, [91]), (9, 3, .if_icmp .ge 0, 27, 0, 0, 0, []), (12, 1, .iload 0, 1, 0, 0, 0, []), (13, 1, .aload 0, 0, 0, 0, 0, []), (14, 3, .getfield 0, 0, 9, 2, 0, [115]), (17, 1, .iload 0, 2, 0, 0, 0, []),
  (18, 1, .iaload, 0, 0, 0, 0, []), (19, 1, .iadd, 0, 0, 0, 0, []), (20, 1, .istore 0, 1, 0, 0, 0, []), (21, 3, .iinc 0 0, 2, 0, 0, 1, []), (24, 3, .goto 0, 4, 0, 0, 0, []), (27, 1, .iload 0, 1, 0, 0, 0, []),
  (28, 1, .ireturn, 0, 0, 0, 0, [])
  ]
def mc_X1_init : List mv_E := [
  (0, 1, .aload 0, 0, 0, 0, 0, []), (1, 3, .invokespecial 0, 0, 0, 1, 0, [73, 35, 36]), (4, 1, .aload 0, 0, 0, 0, 0, []), (5, 3, .new 0, 10, 3, 0, 0, [74, 75, 19]), (8, 1, .dup, 0, 0, 0, 0, []), (9, 3, .invokespecial 0, 83, 1, 29, 803, [76, 77, 19]),
  (12, 3, .putfield 0, 1, 0, 2, 0, [284]), (15, 1, .aload 0, 0, 0, 0, 0, []), (16, 3, .new 0, 8, 6, 0, 0, [257, 258, 23]), (19, 1, .dup, 0, 0, 0, 0, []), (20, 3, .invokespecial 0, 67, 1, 8, 912, [259, 260, 23]), (23, 3, .putfield 0, 1, 1, 2, 0, [287]),
  (26, 1, .aload 0, 0, 0, 0, 0, []), (27, 3, .iconst 0, 0, 0, 0, 864, []), (30, 2, .newarray .long, 101, 0, 0, 0, [314]), (32, 3, .putfield 0, 1, 2, 2, 0, [288]), (35, 1, .aload 0, 0, 0, 0, 0, []), (36, 2, .iconst 0, 0, 0, 0, 48, []),
  (38, 2, .newarray .int, 100, 0, 0, 0, [53]), (40, 3, .putfield 0, 1, 3, 2, 0, [290]), (43, 1, .aload 0, 0, 0, 0, 0, []), (44, 1, .aload 0, 0, 0, 0, 0, []), (45, 3, .getfield 0, 1, 0, 2, 0, [284]), (48, 3, .getfield 0, 10, 0, 2, 0, [241]),
  (51, 3, .putfield 0, 1, 4, 2, 0, [293]), (54, 1, .aload 0, 0, 0, 0, 0, []), (55, 1, .aload 0, 0, 0, 0, 0, []), (56, 3, .getfield 0, 1, 0, 2, 0, [284]), (59, 3, .getfield 0, 10, 1, 2, 0, [245]), (62, 3, .putfield 0, 1, 5, 2, 0, [294]),
  (65, 1, .aload 0, 0, 0, 0, 0, []), (66, 1, .iconst 0, 0, 0, 0, 0, []), (67, 3, .putfield 0, 1, 6, 1, 0, [295]), (70, 1, .aload 0, 0, 0, 0, 0, []), (71, 1, .iconst 0, 0, 0, 0, 0, []), (72, 3, .putfield 0, 1, 7, 1, 0, [296]),
  (75, 1, .return_, 0, 0, 0, 0, [])
  ]
def mc_X1_forgetWays : List mv_E := [
  (0, 1, .aload 0, 0, 0, 0, 0, []), (1, 1, .iconst 0, 0, 0, 0, 0, []), (2, 3, .putfield 0, 1, 6, 1, 0, [295]), (5, 1, .aload 0, 0, 0, 0, 0, []), (6, 1, .iconst 0, 0, 0, 0, 0, []), (7, 3, .putfield 0, 1, 7, 1, 0, [296]),
  (10, 1, .return_, 0, 0, 0, 0, [])
  ]
def mc_X1_forgetBids : List mv_E := [
  (0, 1, .aload 0, 0, 0, 0, 0, []), (1, 1, .iconst 0, 0, 0, 0, 0, []), (2, 3, .putfield 0, 1, 7, 1, 0, [296]), (5, 1, .return_, 0, 0, 0, 0, [])
  ]
def mc_X1_settle : List mv_E := [
  (0, 1, .aload 0, 0, 0, 0, 0, []), (1, 3, .getfield 0, 1, 6, 1, 0, [295]), (4, 3, .ifCond .ne 0, 34, 0, 0, 0, []), (7, 1, .aload 0, 0, 0, 0, 0, []), (8, 3, .getfield 0, 1, 1, 2, 0, [287]), (11, 1, .aload 0, 0, 0, 0, 0, []),
  (12, 3, .getfield 0, 1, 4, 2, 0, [293]), (15, 3, .invokevirtual 0, 68, 2, 8, 0, [463, 464, 465, 23]), (18, 1, .aload 0, 0, 0, 0, 0, []), (19, 3, .getfield 0, 1, 1, 2, 0, [287]), (22, 1, .aload 0, 0, 0, 0, 0, []), (23, 3, .getfield 0, 1, 4, 2, 0, [293]),
  (26, 3, .invokevirtual 0, 69, 2, 8, 0, [480, 481, 482, 23]), (29, 1, .aload 0, 0, 0, 0, 0, []), (30, 1, .iconst 0, 0, 0, 0, 1, []), (31, 3, .putfield 0, 1, 6, 1, 0, [295]), (34, 1, .aload 0, 0, 0, 0, 0, []), (35, 3, .getfield 0, 1, 7, 1, 0, [296]),
  (38, 3, .ifCond .ne 0, 50, 0, 0, 0, []), (41, 1, .aload 0, 0, 0, 0, 0, []), (42, 3, .invokevirtual 0, 15, 1, 1, 0, [484, 485, 486, 18]), (45, 1, .aload 0, 0, 0, 0, 0, []), (46, 1, .iconst 0, 0, 0, 0, 1, []), (47, 3, .putfield 0, 1, 7, 1, 0, [296]),
  (50, 1, .return_, 0, 0, 0, 0, [])
  ]
def mc_X1_reckonBids : List mv_E := [
  (0, 1, .iconst 0, 0, 0, 0, 0, []), (1, 1, .istore 0, 1, 0, 0, 0, []), (2, 1, .iload 0, 1, 0, 0, 0, []), (3, 1, .aload 0, 0, 0, 0, 0, []), (4, 3, .getfield 0, 1, 5, 2, 0, [294]), (7, 3, .getfield 0, 7, 0, 0, 0, [160]),
  (10, 1, .iconst 0, 0, 0, 0, 3, []), (11, 1, .imul, 0, 0, 0, 0, []), (12, 3, .if_icmp .ge 0, 39, 0, 0, 0, []), (15, 1, .iload 0, 1, 0, 0, 0, []), (16, 1, .iconst 0, 0, 0, 0, 3, []), (17, 1, .irem, 0, 0, 0, 0, []),
  (18, 1, .aload 0, 0, 0, 0, 0, []), (19, 3, .getfield 0, 1, 4, 2, 0, [293]), (22, 3, .getfield 0, 0, 4, 0, 0, [100]), (25, 3, .if_icmp .ge 0, 33, 0, 0, 0, []), (28, 1, .aload 0, 0, 0, 0, 0, []), (29, 1, .iload 0, 1, 0, 0, 0, []),
  (30, 3, .invokevirtual 0, 16, 2, 1, 0, [488, 489, 490, 18]), (33, 3, .iinc 0 0, 1, 0, 0, 1, []), (36, 3, .goto 0, 2, 0, 0, 0, []), (39, 1, .iconst 0, 0, 0, 0, 0, []), (40, 1, .istore 0, 1, 0, 0, 0, []), (41, 1, .iload 0, 1, 0, 0, 0, []),
  (42, 1, .aload 0, 0, 0, 0, 0, []), (43, 3, .getfield 0, 1, 4, 2, 0, [293]), (46, 3, .getfield 0, 0, 2, 0, 0, [95]), (49, 3, .if_icmp .ge 0, 69, 0, 0, 0, []), (52, 1, .aload 0, 0, 0, 0, 0, []), (53, 3, .getfield 0, 1, 3, 2, 0, [290]),
  (56, 1, .iload 0, 1, 0, 0, 0, []), (57, 1, .aload 0, 0, 0, 0, 0, []), (58, 1, .iload 0, 1, 0, 0, 0, []), (59, 3, .invokevirtual 0, 18, 2, 1, 1, [517, 518, 519, 18]), (62, 1, .iastore, 0, 0, 0, 0, []), (63, 3, .iinc 0 0, 1, 0, 0, 1, []),
  (66, 3, .goto 0, 41, 0, 0, 0, []), (69, 1, .return_, 0, 0, 0, 0, [])
  ]
def mc_X1_reckonOffer : List mv_E := [
  (0, 1, .iload 0, 1, 0, 0, 0, []), (1, 1, .iconst 0, 0, 0, 0, 3, []), (2, 1, .idiv, 0, 0, 0, 0, []), (3, 1, .istore 0, 2, 0, 0, 0, []), (4, 1, .iconst 0, 0, 0, 0, 0, []), (5, 1, .istore 0, 3, 0, 0, 0, []),
  (6, 1, .iload 0, 3, 0, 0, 0, []), (7, 1, .aload 0, 0, 0, 0, 0, []), (8, 3, .getfield 0, 1, 4, 2, 0, [293]), (11, 3, .getfield 0, 0, 2, 0, 0, [95]), (14, 3, .if_icmp .ge 0, 98, 0, 0, 0, []), (17, 1, .aload 0, 0, 0, 0, 0, []),
  (18, 1, .iload 0, 1, 0, 0, 0, []), (19, 1, .iload 0, 3, 0, 0, 0, []), (20, 3, .invokevirtual 0, 17, 3, 1, 1, [492, 493, 494, 18]), (23, 2, .istore 0, 4, 0, 0, 0, []), (25, 1, .lconst 0, 0, 0, 0, 0, []), (26, 2, .lstore 0, 5, 0, 0, 0, []),
  (28, 1, .aload 0, 0, 0, 0, 0, []), (29, 3, .getfield 0, 1, 5, 2, 0, [294]), (32, 1, .iload 0, 2, 0, 0, 0, []), (33, 2, .iload 0, 4, 0, 0, 0, []), (35, 3, .invokevirtual 0, 65, 3, 7, 1, [496, 497, 498, 21]), (38, 3, .ifCond .eq 0, 79, 0, 0, 0, []),
  (41, 1, .aload 0, 0, 0, 0, 0, []), (42, 3, .getfield 0, 1, 4, 2, 0, [293]), (45, 3, .getfield 0, 0, 6, 2, 0, [107]), (48, 1, .iload 0, 3, 0, 0, 0, []), (49, 1, .iaload, 0, 0, 0, 0, []), (50, 2, .istore 0, 7, 0, 0, 0, []),
  (52, 1, .aload 0, 0, 0, 0, 0, []), (53, 3, .getfield 0, 1, 5, 2, 0, [294]), (56, 1, .iload 0, 1, 0, 0, 0, []), (57, 2, .iload 0, 7, 0, 0, 0, []), (59, 3, .invokevirtual 0, 63, 3, 7, 2, [500, 501, 502, 21]), (62, 1, .aload 0, 0, 0, 0, 0, []),
  (63, 3, .getfield 0, 1, 5, 2, 0, [294]), (66, 1, .iload 0, 2, 0, 0, 0, []), (67, 2, .iload 0, 7, 0, 0, 0, []), (69, 3, .invokevirtual 0, 64, 3, 7, 2, [513, 514, 515, 21]), (72, 2, .iload 0, 4, 0, 0, 0, []), (74, 1, .i2l, 0, 0, 0, 0, []),
  (75, 1, .lmul, 0, 0, 0, 0, []), (76, 1, .lsub, 0, 0, 0, 0, []), (77, 2, .lstore 0, 5, 0, 0, 0, []), (79, 1, .aload 0, 0, 0, 0, 0, []), (80, 3, .getfield 0, 1, 2, 2, 0, [288]), (83, 1, .iload 0, 1, 0, 0, 0, []),
  (84, 2, .iconst 0, 0, 0, 0, 48, []), (86, 1, .imul, 0, 0, 0, 0, []), (87, 1, .iload 0, 3, 0, 0, 0, []), (88, 1, .iadd, 0, 0, 0, 0, []), (89, 2, .lload 0, 5, 0, 0, 0, []), (91, 1, .lastore, 0, 0, 0, 0, []),
  (92, 3, .iinc 0 0, 3, 0, 0, 1, []), (95, 3, .goto 0, 6, 0, 0, 0, []), (98, 1, .return_, 0, 0, 0, 0, [])
  ]
def mc_X1_wayOf : List mv_E := [
  (0, 1, .iload 0, 1, 0, 0, 0, []), (1, 1, .iconst 0, 0, 0, 0, 3, []), (2, 1, .irem, 0, 0, 0, 0, []), (3, 2, .iconst 0, 0, 0, 0, 48, []), (5, 1, .imul, 0, 0, 0, 0, []), (6, 1, .iload 0, 2, 0, 0, 0, []),
  (7, 1, .iadd, 0, 0, 0, 0, []), (8, 1, .istore 0, 3, 0, 0, 0, []), (9, 1, .aload 0, 0, 0, 0, 0, []), (10, 3, .getfield 0, 1, 5, 2, 0, [294]), (13, 3, .getfield 0, 7, 2, 2, 0, [167]), (16, 1, .iload 0, 1, 0, 0, 0, []),
  (17, 1, .iconst 0, 0, 0, 0, 3, []), (18, 1, .idiv, 0, 0, 0, 0, []), (19, 1, .iaload, 0, 0, 0, 0, []), (20, 1, .iconst 0, 0, 0, 0, 1, []), (21, 3, .if_icmp .ne 0, 36, 0, 0, 0, []), (24, 1, .aload 0, 0, 0, 0, 0, []),
  (25, 3, .getfield 0, 1, 1, 2, 0, [287]), (28, 3, .getfield 0, 8, 1, 2, 0, [266]), (31, 1, .iload 0, 3, 0, 0, 0, []), (32, 1, .iaload, 0, 0, 0, 0, []), (33, 3, .goto 0, 45, 0, 0, 0, []), (36, 1, .aload 0, 0, 0, 0, 0, []),
  (37, 3, .getfield 0, 1, 1, 2, 0, [287]), (40, 3, .getfield 0, 8, 0, 2, 0, [264]), (43, 1, .iload 0, 3, 0, 0, 0, []), (44, 1, .iaload, 0, 0, 0, 0, []), (45, 1, .ireturn, 0, 0, 0, 0, [])
  ]
def mc_X1_takerOf : List mv_E := [
  (0, 1, .aload 0, 0, 0, 0, 0, []), (1, 3, .getfield 0, 1, 4, 2, 0, [293]), (4, 3, .getfield 0, 0, 9, 2, 0, [118]), (7, 1, .iload 0, 1, 0, 0, 0, []), (8, 1, .iaload, 0, 0, 0, 0, []), (9, 3, .ifCond .ne 0, 21, 0, 0, 0, []),
  (12, 1, .aload 0, 0, 0, 0, 0, []), (13, 1, .iload 0, 1, 0, 0, 0, []), (14, 1, .iconst 0, 0, 0, 0, (-1), []), (15, 3, .invokevirtual 0, 19, 3, 1, 1, [521, 522, 523, 18]), (18, 3, .goto 0, 22, 0, 0, 0, []), (21, 1, .iconst 0, 0, 0, 0, (-1), []),
  (22, 1, .ireturn, 0, 0, 0, 0, [])
  ]
def mc_X1_greatest : List mv_E := [
  (0, 1, .iconst 0, 0, 0, 0, (-1), []), (1, 1, .istore 0, 3, 0, 0, 0, []), (2, 1, .lconst 0, 0, 0, 0, 0, []), (3, 2, .lstore 0, 4, 0, 0, 0, []), (5, 1, .iconst 0, 0, 0, 0, 0, []), (6, 2, .istore 0, 6, 0, 0, 0, []),
  (8, 2, .iload 0, 6, 0, 0, 0, []), (10, 1, .aload 0, 0, 0, 0, 0, []), (11, 3, .getfield 0, 1, 5, 2, 0, [294]), (14, 3, .getfield 0, 7, 0, 0, 0, [160]), (17, 1, .iconst 0, 0, 0, 0, 3, []), (18, 1, .imul, 0, 0, 0, 0, []),
  (19, 3, .if_icmp .ge 0, 77, 0, 0, 0, []), (22, 1, .aload 0, 0, 0, 0, 0, []), (23, 3, .getfield 0, 1, 2, 2, 0, [288]), (26, 2, .iload 0, 6, 0, 0, 0, []), (28, 2, .iconst 0, 0, 0, 0, 48, []), (30, 1, .imul, 0, 0, 0, 0, []),
  (31, 1, .iload 0, 1, 0, 0, 0, []), (32, 1, .iadd, 0, 0, 0, 0, []), (33, 1, .laload, 0, 0, 0, 0, []), (34, 2, .lstore 0, 7, 0, 0, 0, []), (36, 2, .lload 0, 7, 0, 0, 0, []), (38, 2, .lload 0, 4, 0, 0, 0, []),
  (40, 1, .lcmp, 0, 0, 0, 0, []), (41, 3, .ifCond .le 0, 71, 0, 0, 0, []), (44, 2, .iload 0, 6, 0, 0, 0, []), (46, 1, .iload 0, 2, 0, 0, 0, []), (47, 3, .if_icmp .eq 0, 71, 0, 0, 0, []), (50, 2, .iload 0, 6, 0, 0, 0, []),
  (52, 1, .iconst 0, 0, 0, 0, 3, []), (53, 1, .irem, 0, 0, 0, 0, []), (54, 1, .aload 0, 0, 0, 0, 0, []), (55, 3, .getfield 0, 1, 4, 2, 0, [293]), (58, 3, .getfield 0, 0, 4, 0, 0, [100]), (61, 3, .if_icmp .ge 0, 71, 0, 0, 0, []),
  (64, 2, .lload 0, 7, 0, 0, 0, []), (66, 2, .lstore 0, 4, 0, 0, 0, []), (68, 2, .iload 0, 6, 0, 0, 0, []), (70, 1, .istore 0, 3, 0, 0, 0, []), (71, 3, .iinc 0 0, 6, 0, 0, 1, []), (74, 3, .goto 0, 8, 0, 0, 0, []),
  (77, 1, .iload 0, 3, 0, 0, 0, []), (78, 1, .ireturn, 0, 0, 0, 0, [])
  ]
def mc_X1_rentAt : List mv_E := [
  (0, 1, .aload 0, 0, 0, 0, 0, []), (1, 1, .aload 0, 0, 0, 0, 0, []), (2, 3, .getfield 0, 1, 3, 2, 0, [290]), (5, 1, .iload 0, 1, 0, 0, 0, []), (6, 1, .iaload, 0, 0, 0, 0, []), (7, 1, .iload 0, 1, 0, 0, 0, []),
  (8, 3, .invokevirtual 0, 21, 3, 1, 2, [542, 544, 6, 18]), (11, 1, .lreturn, 0, 0, 0, 0, [])
  ]
def mc_X1_rentBy : List mv_E := [
  (0, 1, .iload 0, 1, 0, 0, 0, []), (1, 1, .iconst 0, 0, 0, 0, (-1), []), (2, 3, .if_icmp .ne 0, 7, 0, 0, 0, []), (5, 1, .lconst 0, 0, 0, 0, 0, []), (6, 1, .lreturn, 0, 0, 0, 0, []), (7, 1, .aload 0, 0, 0, 0, 0, []),
  (8, 3, .getfield 0, 1, 2, 2, 0, [288]), (11, 1, .iload 0, 1, 0, 0, 0, []), (12, 2, .iconst 0, 0, 0, 0, 48, []), (14, 1, .imul, 0, 0, 0, 0, []), (15, 1, .iload 0, 2, 0, 0, 0, []), (16, 1, .iadd, 0, 0, 0, 0, []),
  (17, 1, .laload, 0, 0, 0, 0, []), (18, 1, .lstore 0, 3, 0, 0, 0, []), (19, 1, .lload 0, 3, 0, 0, 0, []), (20, 1, .lload 0, 3, 0, 0, 0, []), (21, 1, .aload 0, 0, 0, 0, 0, []), (22, 3, .getfield 0, 1, 5, 2, 0, [294]),
  (25, 3, .getfield 0, 7, 1, 0, 0, [164]), (28, 1, .i2l, 0, 0, 0, 0, []), (29, 1, .lmul, 0, 0, 0, 0, []), (30, 3, .lconst 0, 0, 0, 0, 100, [546]), (33, 1, .ldiv, 0, 0, 0, 0, []), (34, 1, .lsub, 0, 0, 0, 0, []),
  (35, 1, .lreturn, 0, 0, 0, 0, [])
  ]
def mc_X1_allRents : List mv_E := [
  (0, 1, .lconst 0, 0, 0, 0, 0, []), (1, 1, .lstore 0, 1, 0, 0, 0, []), (2, 1, .iconst 0, 0, 0, 0, 0, []), (3, 1, .istore 0, 3, 0, 0, 0, []), (4, 1, .iload 0, 3, 0, 0, 0, []), (5, 1, .aload 0, 0, 0, 0, 0, []),
  (6, 3, .getfield 0, 1, 4, 2, 0, [293]), (9, 3, .getfield 0, 0, 2, 0, 0, [95]), (12, 3, .if_icmp .ge 0, 29, 0, 0, 0, []), (15, 1, .lload 0, 1, 0, 0, 0, []), (16, 1, .aload 0, 0, 0, 0, 0, []), (17, 1, .iload 0, 3, 0, 0, 0, []),
  (18, 3, .invokevirtual 0, 20, 2, 1, 2, [538, 539, 540, 18]), (21, 1, .ladd, 0, 0, 0, 0, []), (22, 1, .lstore 0, 1, 0, 0, 0, []), (23, 3, .iinc 0 0, 3, 0, 0, 1, []), (26, 3, .goto 0, 4, 0, 0, 0, []), (29, 1, .lload 0, 1, 0, 0, 0, []),
  (30, 1, .lreturn, 0, 0, 0, 0, [])
  ]
def mc_X1_rentsOf : List mv_E := [
  (0, 1, .lconst 0, 0, 0, 0, 0, []), (1, 1, .lstore 0, 2, 0, 0, 0, []), (2, 1, .iconst 0, 0, 0, 0, 0, []), (3, 2, .istore 0, 4, 0, 0, 0, []), (5, 2, .iload 0, 4, 0, 0, 0, []), (7, 1, .aload 0, 0, 0, 0, 0, []),
  (8, 3, .getfield 0, 1, 4, 2, 0, [293]), (11, 3, .getfield 0, 0, 2, 0, 0, [95]), (14, 3, .if_icmp .ge 0, 52, 0, 0, 0, []), (17, 1, .aload 0, 0, 0, 0, 0, []), (18, 3, .getfield 0, 1, 4, 2, 0, [293]), (21, 3, .getfield 0, 0, 8, 2, 0, [114]),
  (24, 2, .iload 0, 4, 0, 0, 0, []), (26, 1, .iaload, 0, 0, 0, 0, []), (27, 1, .iload 0, 1, 0, 0, 0, []), (28, 3, .if_icmp .ne 0, 46, 0, 0, 0, []), (31, 1, .lload 0, 2, 0, 0, 0, []), (32, 1, .aload 0, 0, 0, 0, 0, []),
  (33, 1, .aload 0, 0, 0, 0, 0, []), (34, 2, .iload 0, 4, 0, 0, 0, []), (36, 3, .invokevirtual 0, 18, 2, 1, 1, [517, 518, 519, 18]), (39, 2, .iload 0, 4, 0, 0, 0, []), (41, 3, .invokevirtual 0, 21, 3, 1, 2, [542, 544, 6, 18]), (44, 1, .ladd, 0, 0, 0, 0, []),
  (45, 1, .lstore 0, 2, 0, 0, 0, []), (46, 3, .iinc 0 0, 4, 0, 0, 1, []), (49, 3, .goto 0, 5, 0, 0, 0, []), (52, 1, .lload 0, 2, 0, 0, 0, []), (53, 1, .lreturn, 0, 0, 0, 0, [])
  ]
def mc_X1_isTakenBy : List mv_E := [
  (0, 1, .aload 0, 0, 0, 0, 0, []), (1, 3, .getfield 0, 1, 3, 2, 0, [290]), (4, 1, .iload 0, 2, 0, 0, 0, []), (5, 1, .iaload, 0, 0, 0, 0, []), (6, 1, .iconst 0, 0, 0, 0, (-1), []), (7, 3, .if_icmp .eq 0, 26, 0, 0, 0, []),
  (10, 1, .aload 0, 0, 0, 0, 0, []), (11, 3, .getfield 0, 1, 3, 2, 0, [290]), (14, 1, .iload 0, 2, 0, 0, 0, []), (15, 1, .iaload, 0, 0, 0, 0, []), (16, 1, .iconst 0, 0, 0, 0, 3, []), (17, 1, .idiv, 0, 0, 0, 0, []),
  (18, 1, .iload 0, 1, 0, 0, 0, []), (19, 3, .if_icmp .ne 0, 26, 0, 0, 0, []), (22, 1, .iconst 0, 0, 0, 0, 1, []), (23, 3, .goto 0, 27, 0, 0, 0, []), (26, 1, .iconst 0, 0, 0, 0, 0, []), (27, 1, .ireturn, 1, 0, 0, 0, [])
  ]
def mc_X1_wasteAcres : List mv_E := [
  (0, 1, .iconst 0, 0, 0, 0, 0, []), (1, 1, .istore 0, 1, 0, 0, 0, []), (2, 1, .iconst 0, 0, 0, 0, 0, []), (3, 1, .istore 0, 2, 0, 0, 0, []), (4, 1, .iload 0, 2, 0, 0, 0, []), (5, 1, .aload 0, 0, 0, 0, 0, []),
  (6, 3, .getfield 0, 1, 4, 2, 0, [293]), (9, 3, .getfield 0, 0, 2, 0, 0, [95]), (12, 3, .if_icmp .ge 0, 39, 0, 0, 0, []), (15, 1, .iload 0, 1, 0, 0, 0, []), (16, 1, .aload 0, 0, 0, 0, 0, []), (17, 3, .getfield 0, 1, 3, 2, 0, [290]),
  (20, 1, .iload 0, 2, 0, 0, 0, []), (21, 1, .iaload, 0, 0, 0, 0, []), (22, 1, .iconst 0, 0, 0, 0, (-1), []), (23, 3, .if_icmp .ne 0, 30, 0, 0, 0, []), (26, 1, .iconst 0, 0, 0, 0, 1, []), (27, 3, .goto 0, 31, 0, 0, 0, []),
  (30, 1, .iconst 0, 0, 0, 0, 0, []), (31, 1, .iadd, 0, 0, 0, 0, []), (32, 1, .istore 0, 1, 0, 0, 0, []), (33, 3, .iinc 0 0, 2, 0, 0, 1, []), (36, 3, .goto 0, 4, 0, 0, 0, []), (39, 1, .iload 0, 1, 0, 0, 0, []),
  (40, 1, .ireturn, 0, 0, 0, 0, [])
  ]
def mc_X1_fallingWaste : List mv_E := [
  (0, 1, .aload 0, 0, 0, 0, 0, []), (1, 3, .getfield 0, 1, 5, 2, 0, [294]), (4, 3, .getfield 0, 7, 7, 2, 0, [175]), (7, 1, .iload 0, 1, 0, 0, 0, []), (8, 1, .iaload, 0, 0, 0, 0, []), (9, 1, .istore 0, 3, 0, 0, 0, []),
  (10, 1, .aload 0, 0, 0, 0, 0, []), (11, 3, .getfield 0, 1, 5, 2, 0, [294]), (14, 3, .getfield 0, 7, 7, 2, 0, [175]), (17, 1, .iload 0, 1, 0, 0, 0, []), (18, 1, .iload 0, 2, 0, 0, 0, []), (19, 1, .iastore, 0, 0, 0, 0, []),
  (20, 1, .iconst 0, 0, 0, 0, 0, []), (21, 2, .istore 0, 4, 0, 0, 0, []), (23, 2, .iload 0, 4, 0, 0, 0, []), (25, 1, .aload 0, 0, 0, 0, 0, []), (26, 3, .getfield 0, 1, 4, 2, 0, [293]), (29, 3, .getfield 0, 0, 4, 0, 0, [100]),
  (32, 3, .if_icmp .ge 0, 51, 0, 0, 0, []), (35, 1, .aload 0, 0, 0, 0, 0, []), (36, 1, .iload 0, 1, 0, 0, 0, []), (37, 2, .iload 0, 4, 0, 0, 0, []), (39, 3, .invokestatic 0, 131, 2, 1, 1, [615, 557, 15]), (42, 3, .invokevirtual 0, 16, 2, 1, 0, [488, 489, 490, 18]),
  (45, 3, .iinc 0 0, 4, 0, 0, 1, []), (48, 3, .goto 0, 23, 0, 0, 0, []), (51, 1, .iconst 0, 0, 0, 0, 0, []), (52, 2, .istore 0, 4, 0, 0, 0, []), (54, 1, .iconst 0, 0, 0, 0, 0, []), (55, 2, .istore 0, 5, 0, 0, 0, []),
  (57, 2, .iload 0, 5, 0, 0, 0, []), (59, 1, .aload 0, 0, 0, 0, 0, []), (60, 3, .getfield 0, 1, 4, 2, 0, [293]), (63, 3, .getfield 0, 0, 2, 0, 0, [95]), (66, 3, .if_icmp .ge 0, 98, 0, 0, 0, []), (69, 1, .aload 0, 0, 0, 0, 0, []),
  (70, 1, .iload 0, 1, 0, 0, 0, []), (71, 2, .iload 0, 5, 0, 0, 0, []), (73, 3, .invokevirtual 0, 25, 3, 1, 1, [616, 618, 11, 18]), (76, 3, .ifCond .eq 0, 92, 0, 0, 0, []), (79, 1, .aload 0, 0, 0, 0, 0, []), (80, 2, .iload 0, 5, 0, 0, 0, []),
  (82, 3, .invokevirtual 0, 18, 2, 1, 1, [517, 518, 519, 18]), (85, 1, .iconst 0, 0, 0, 0, (-1), []), (86, 3, .if_icmp .ne 0, 92, 0, 0, 0, []), (89, 3, .iinc 0 0, 4, 0, 0, 1, []), (92, 3, .iinc 0 0, 5, 0, 0, 1, []), (95, 3, .goto 0, 57, 0, 0, 0, []),
  (98, 1, .aload 0, 0, 0, 0, 0, []), (99, 3, .getfield 0, 1, 5, 2, 0, [294]), (102, 3, .getfield 0, 7, 7, 2, 0, [175]), (105, 1, .iload 0, 1, 0, 0, 0, []), (106, 1, .iload 0, 3, 0, 0, 0, []), (107, 1, .iastore, 0, 0, 0, 0, []),
  (108, 1, .aload 0, 0, 0, 0, 0, []), (109, 1, .iconst 0, 0, 0, 0, 0, []), (110, 3, .putfield 0, 1, 7, 1, 0, [296]), (113, 2, .iload 0, 4, 0, 0, 0, []), (115, 1, .ireturn, 0, 0, 0, 0, [])
  ]
def mc_X2_init : List mv_E := [
  (0, 1, .aload 0, 0, 0, 0, 0, []), (1, 3, .invokespecial 0, 0, 0, 1, 0, [222, 35, 36]), (4, 1, .aload 0, 0, 0, 0, 0, []), (5, 1, .iconst 0, 0, 0, 0, 0, []), (6, 3, .putfield 0, 2, 0, 0, 0, [223]), (9, 1, .aload 0, 0, 0, 0, 0, []),
  (10, 2, .iconst 0, 0, 0, 0, 8, []), (12, 2, .newarray .int, 100, 0, 0, 0, [53]), (14, 3, .putfield 0, 2, 1, 2, 0, [225]), (17, 1, .aload 0, 0, 0, 0, 0, []), (18, 2, .iconst 0, 0, 0, 0, 8, []), (20, 2, .newarray .int, 100, 0, 0, 0, [53]),
  (22, 3, .putfield 0, 2, 2, 2, 0, [226]), (25, 1, .aload 0, 0, 0, 0, 0, []), (26, 2, .iconst 0, 0, 0, 0, 8, []), (28, 2, .newarray .int, 100, 0, 0, 0, [53]), (30, 3, .putfield 0, 2, 3, 2, 0, [227]), (33, 1, .aload 0, 0, 0, 0, 0, []),
  (34, 2, .iconst 0, 0, 0, 0, 8, []), (36, 2, .newarray .int, 100, 0, 0, 0, [53]), (38, 3, .putfield 0, 2, 4, 2, 0, [228]), (41, 1, .return_, 0, 0, 0, 0, [])
  ]
def mc_X2_takeFrom : List mv_E := [
  (0, 1, .aload 0, 0, 0, 0, 0, []), (1, 1, .aload 0, 1, 0, 0, 0, []), (2, 3, .getfield 0, 2, 0, 0, 0, [223]), (5, 3, .putfield 0, 2, 0, 0, 0, [223]), (8, 1, .aload 0, 1, 0, 0, 0, []), (9, 3, .getfield 0, 2, 1, 2, 0, [225]),
  (12, 1, .iconst 0, 0, 0, 0, 0, []), (13, 1, .aload 0, 0, 0, 0, 0, []), (14, 3, .getfield 0, 2, 1, 2, 0, [225]), (17, 1, .iconst 0, 0, 0, 0, 0, []), (18, 2, .iconst 0, 0, 0, 0, 8, []), (20, 3, .invokestatic 0, 0, 0, 100, 0, [670, 638, 637, 27]),
  (23, 1, .aload 0, 1, 0, 0, 0, []), (24, 3, .getfield 0, 2, 2, 2, 0, [226]), (27, 1, .iconst 0, 0, 0, 0, 0, []), (28, 1, .aload 0, 0, 0, 0, 0, []), (29, 3, .getfield 0, 2, 2, 2, 0, [226]), (32, 1, .iconst 0, 0, 0, 0, 0, []),
  (33, 2, .iconst 0, 0, 0, 0, 8, []), (35, 3, .invokestatic 0, 0, 0, 100, 0, [670, 638, 637, 27]), (38, 1, .aload 0, 1, 0, 0, 0, []), (39, 3, .getfield 0, 2, 3, 2, 0, [227]), (42, 1, .iconst 0, 0, 0, 0, 0, []), (43, 1, .aload 0, 0, 0, 0, 0, []),
  (44, 3, .getfield 0, 2, 3, 2, 0, [227]), (47, 1, .iconst 0, 0, 0, 0, 0, []), (48, 2, .iconst 0, 0, 0, 0, 8, []), (50, 3, .invokestatic 0, 0, 0, 100, 0, [670, 638, 637, 27]), (53, 1, .aload 0, 1, 0, 0, 0, []), (54, 3, .getfield 0, 2, 4, 2, 0, [228]),
  (57, 1, .iconst 0, 0, 0, 0, 0, []), (58, 1, .aload 0, 0, 0, 0, 0, []), (59, 3, .getfield 0, 2, 4, 2, 0, [228]), (62, 1, .iconst 0, 0, 0, 0, 0, []), (63, 2, .iconst 0, 0, 0, 0, 8, []), (65, 3, .invokestatic 0, 0, 0, 100, 0, [670, 638, 637, 27]),
  (68, 1, .return_, 0, 0, 0, 0, [])
  ]
def mc_X3_init : List mv_E := [
  (0, 1, .aload 0, 0, 0, 0, 0, []), (1, 3, .invokespecial 0, 0, 0, 1, 0, [351, 35, 36]), (4, 1, .aload 0, 0, 0, 0, 0, []), (5, 2, .iconst 0, 0, 0, 0, 6, []), (7, 2, .newarray .long, 101, 0, 0, 0, [314]), (9, 3, .putfield 0, 3, 0, 2, 0, [352]),
  (12, 1, .aload 0, 0, 0, 0, 0, []), (13, 2, .iconst 0, 0, 0, 0, 6, []), (15, 2, .newarray .long, 101, 0, 0, 0, [314]), (17, 3, .putfield 0, 3, 1, 2, 0, [353]), (20, 1, .aload 0, 0, 0, 0, 0, []), (21, 2, .iconst 0, 0, 0, 0, 23, []),
  (23, 2, .newarray .long, 101, 0, 0, 0, [314]), (25, 3, .putfield 0, 3, 2, 2, 0, [354]), (28, 1, .aload 0, 0, 0, 0, 0, []), (29, 2, .iconst 0, 0, 0, 0, 23, []), (31, 2, .newarray .long, 101, 0, 0, 0, [314]), (33, 3, .putfield 0, 3, 3, 2, 0, [355]),
  (36, 1, .aload 0, 0, 0, 0, 0, []), (37, 1, .iconst 0, 0, 0, 0, 0, []), (38, 3, .putfield 0, 3, 4, 0, 0, [356]), (41, 1, .aload 0, 0, 0, 0, 0, []), (42, 1, .iconst 0, 0, 0, 0, 0, []), (43, 3, .putfield 0, 3, 5, 0, 0, [357]),
  (46, 1, .aload 0, 0, 0, 0, 0, []), (47, 2, .iconst 0, 0, 0, 0, 23, []), (49, 2, .newarray .int, 100, 0, 0, 0, [53]), (51, 3, .putfield 0, 3, 6, 2, 0, [358]), (54, 1, .aload 0, 0, 0, 0, 0, []), (55, 2, .iconst 0, 0, 0, 0, 23, []),
  (57, 2, .newarray .long, 101, 0, 0, 0, [314]), (59, 3, .putfield 0, 3, 7, 2, 0, [359]), (62, 1, .aload 0, 0, 0, 0, 0, []), (63, 2, .iconst 0, 0, 0, 0, 23, []), (65, 2, .newarray .long, 101, 0, 0, 0, [314]), (67, 3, .putfield 0, 3, 8, 2, 0, [360]),
  (70, 1, .return_, 0, 0, 0, 0, [])
  ]
def mc_X4_init : List mv_E := [
  (0, 1, .aload 0, 0, 0, 0, 0, []), (1, 3, .invokespecial 0, 0, 0, 1, 0, [59, 35, 36]), (4, 1, .aload 0, 0, 0, 0, 0, []), (5, 2, .iconst 0, 0, 0, 0, 48, []), (7, 2, .newarray .int, 100, 0, 0, 0, [53]), (9, 3, .putfield 0, 4, 0, 2, 0, [60]),
  (12, 1, .aload 0, 0, 0, 0, 0, []), (13, 1, .iconst 0, 0, 0, 0, 0, []), (14, 3, .putfield 0, 4, 1, 0, 0, [61]), (17, 1, .return_, 0, 0, 0, 0, [])
  ]
def mc_X5_init : List mv_E := [
  (0, 1, .aload 0, 0, 0, 0, 0, []), (1, 3, .invokespecial 0, 0, 0, 1, 0, [42, 35, 36]), (4, 1, .aload 0, 0, 0, 0, 0, []), (5, 2, .iconst 0, 0, 0, 0, 60, []), (7, 2, .newarray .int, 100, 0, 0, 0, [53]), (9, 3, .putfield 0, 5, 0, 2, 0, [43]),
  (12, 1, .aload 0, 0, 0, 0, 0, []), (13, 1, .iconst 0, 0, 0, 0, 0, []), (14, 3, .putfield 0, 5, 1, 0, 0, [45]), (17, 1, .return_, 0, 0, 0, 0, [])
  ]
def mc_X5_append : List mv_E := [
  (0, 1, .lload 0, 2, 0, 0, 0, []), (1, 2, .lstore 0, 4, 0, 0, 0, []), (3, 1, .iconst 0, 0, 0, 0, 0, []), (4, 2, .istore 0, 6, 0, 0, 0, []), (6, 2, .iload 0, 6, 0, 0, 0, []), (8, 1, .iload 0, 1, 0, 0, 0, []),
  (9, 3, .if_icmp .ge 0, 60, 0, 0, 0, []), (12, 1, .aload 0, 0, 0, 0, 0, []), (13, 3, .getfield 0, 5, 1, 0, 0, [45]), (16, 2, .iconst 0, 0, 0, 0, 60, []), (18, 3, .if_icmp .ge 0, 60, 0, 0, 0, []), (21, 1, .aload 0, 0, 0, 0, 0, []),
  (22, 3, .getfield 0, 5, 0, 2, 0, [43]), (25, 1, .aload 0, 0, 0, 0, 0, []), (26, 3, .getfield 0, 5, 1, 0, 0, [45]), (29, 2, .lload 0, 4, 0, 0, 0, []), (31, 3, .lconst 0, 0, 0, 0, 255, [712]), (34, 1, .land, 0, 0, 0, 0, []),
  (35, 1, .l2i, 0, 0, 0, 0, []), (36, 1, .iastore, 0, 0, 0, 0, []), (37, 1, .aload 0, 0, 0, 0, 0, []), (38, 1, .dup, 0, 0, 0, 0, []), (39, 3, .getfield 0, 5, 1, 0, 0, [45]), (42, 1, .iconst 0, 0, 0, 0, 1, []),
  (43, 1, .iadd, 0, 0, 0, 0, []), (44, 3, .putfield 0, 5, 1, 0, 0, [45]), (47, 2, .lload 0, 4, 0, 0, 0, []), (49, 2, .iconst 0, 0, 0, 0, 8, []), (51, 1, .lushr, 0, 0, 0, 0, []), (52, 2, .lstore 0, 4, 0, 0, 0, []),
  (54, 3, .iinc 0 0, 6, 0, 0, 1, []), (57, 3, .goto 0, 6, 0, 0, 0, []), (60, 1, .return_, 0, 0, 0, 0, [])
  ]
def mc_X5_firstFault : List mv_E := [
  (0, 2, .iconst 0, 0, 0, 0, 8, []), (2, 1, .istore 0, 1, 0, 0, 0, []), (3, 1, .iconst 0, 0, 0, 0, 0, []), (4, 1, .istore 0, 2, 0, 0, 0, []), (5, 1, .iconst 0, 0, 0, 0, 0, []), (6, 1, .istore 0, 3, 0, 0, 0, []),
  (7, 1, .iconst 0, 0, 0, 0, 0, []), (8, 2, .istore 0, 4, 0, 0, 0, []), (10, 2, .iload 0, 4, 0, 0, 0, []), (12, 1, .aload 0, 0, 0, 0, 0, []), (13, 3, .getfield 0, 5, 1, 0, 0, [45]), (16, 3, .if_icmp .ge 0, 95, 0, 0, 0, []),
  (19, 1, .aload 0, 0, 0, 0, 0, []), (20, 3, .getfield 0, 5, 0, 2, 0, [43]), (23, 2, .iload 0, 4, 0, 0, 0, []), (25, 1, .iaload, 0, 0, 0, 0, []), (26, 2, .iconst 0, 0, 0, 0, 47, []), (28, 3, .if_icmp .ne 0, 65, 0, 0, 0, []),
  (31, 1, .iload 0, 3, 0, 0, 0, []), (32, 3, .ifCond .eq 0, 52, 0, 0, 0, []), (35, 1, .iload 0, 2, 0, 0, 0, []), (36, 3, .ifCond .le 0, 44, 0, 0, 0, []), (39, 1, .iload 0, 3, 0, 0, 0, []), (40, 1, .iload 0, 1, 0, 0, 0, []),
  (41, 3, .if_icmp .lt 0, 52, 0, 0, 0, []), (44, 1, .iload 0, 2, 0, 0, 0, []), (45, 1, .iconst 0, 0, 0, 0, 1, []), (46, 1, .iadd, 0, 0, 0, 0, []), (47, 2, .iconst 0, 0, 0, 0, 6, []), (49, 3, .if_icmp .ne 0, 55, 0, 0, 0, []),
  (52, 2, .iload 0, 4, 0, 0, 0, []), (54, 1, .ireturn, 0, 0, 0, 0, []), (55, 1, .iload 0, 3, 0, 0, 0, []), (56, 1, .istore 0, 1, 0, 0, 0, []), (57, 3, .iinc 0 0, 2, 0, 0, 1, []), (60, 1, .iconst 0, 0, 0, 0, 0, []),
  (61, 1, .istore 0, 3, 0, 0, 0, []), (62, 3, .goto 0, 89, 0, 0, 0, []), (65, 1, .aload 0, 0, 0, 0, 0, []), (66, 3, .getfield 0, 5, 0, 2, 0, [43]), (69, 2, .iload 0, 4, 0, 0, 0, []), (71, 1, .iaload, 0, 0, 0, 0, []),
  (72, 3, .invokestatic 0, 48, 1, 1, 1, [722, 723, 16]), (75, 3, .ifCond .eq 0, 83, 0, 0, 0, []), (78, 1, .iload 0, 3, 0, 0, 0, []), (79, 1, .iload 0, 1, 0, 0, 0, []), (80, 3, .if_icmp .ne 0, 86, 0, 0, 0, []), (83, 2, .iload 0, 4, 0, 0, 0, []),
  (85, 1, .ireturn, 0, 0, 0, 0, []), (86, 3, .iinc 0 0, 3, 0, 0, 1, []), (89, 3, .iinc 0 0, 4, 0, 0, 1, []), (92, 3, .goto 0, 10, 0, 0, 0, []), (95, 1, .iload 0, 3, 0, 0, 0, []), (96, 3, .ifCond .eq 0, 108, 0, 0, 0, []),
  (99, 1, .iload 0, 2, 0, 0, 0, []), (100, 3, .ifCond .le 0, 115, 0, 0, 0, []), (103, 1, .iload 0, 3, 0, 0, 0, []), (104, 1, .iload 0, 1, 0, 0, 0, []), (105, 3, .if_icmp .ge 0, 115, 0, 0, 0, []), (108, 1, .aload 0, 0, 0, 0, 0, []),
  (109, 3, .getfield 0, 5, 1, 0, 0, [45]), (112, 3, .goto 0, 116, 0, 0, 0, []), (115, 1, .iconst 0, 0, 0, 0, (-1), []), (116, 1, .ireturn, 0, 0, 0, 0, [])
  ]
def mc_X5_isDigit : List mv_E := [
  (0, 1, .iload 0, 0, 0, 0, 0, []), (1, 2, .iconst 0, 0, 0, 0, 48, []), (3, 3, .if_icmp .lt 0, 16, 0, 0, 0, []), (6, 1, .iload 0, 0, 0, 0, 0, []), (7, 2, .iconst 0, 0, 0, 0, 57, []), (9, 3, .if_icmp .gt 0, 16, 0, 0, 0, []),
  (12, 1, .iconst 0, 0, 0, 0, 1, []), (13, 3, .goto 0, 17, 0, 0, 0, []), (16, 1, .iconst 0, 0, 0, 0, 0, []), (17, 1, .ireturn, 1, 0, 0, 0, [])
  ]
def mc_X6_init : List mv_E := [
  (0, 1, .aload 0, 0, 0, 0, 0, []), (1, 3, .invokespecial 0, 0, 0, 1, 0, [322, 35, 36]), (4, 1, .aload 0, 0, 0, 0, 0, []), (5, 2, .iconst 0, 0, 0, 0, 48, []), (7, 2, .newarray .int, 100, 0, 0, 0, [53]), (9, 3, .putfield 0, 6, 0, 2, 0, [323]),
  (12, 1, .aload 0, 0, 0, 0, 0, []), (13, 2, .iconst 0, 0, 0, 0, 48, []), (15, 2, .newarray .int, 100, 0, 0, 0, [53]), (17, 3, .putfield 0, 6, 1, 2, 0, [324]), (20, 1, .aload 0, 0, 0, 0, 0, []), (21, 2, .iconst 0, 0, 0, 0, 18, []),
  (23, 2, .newarray .int, 100, 0, 0, 0, [53]), (25, 3, .putfield 0, 6, 2, 2, 0, [325]), (28, 1, .aload 0, 0, 0, 0, 0, []), (29, 3, .iconst 0, 0, 0, 0, 864, []), (32, 2, .newarray .long, 101, 0, 0, 0, [314]), (34, 3, .putfield 0, 6, 3, 2, 0, [326]),
  (37, 1, .return_, 0, 0, 0, 0, [])
  ]
def mc_X6_clearingPrice : List mv_E := [
  (0, 1, .aload 0, 1, 0, 0, 0, []), (1, 3, .getfield 0, 1, 0, 2, 0, [286]), (4, 3, .getfield 0, 10, 0, 2, 0, [243]), (7, 1, .astore 0, 3, 0, 0, 0, []), (8, 1, .aload 0, 1, 0, 0, 0, []), (9, 3, .getfield 0, 1, 0, 2, 0, [286]),
  (12, 3, .getfield 0, 10, 1, 2, 0, [247]), (15, 2, .astore 0, 4, 0, 0, 0, []), (17, 1, .iconst 0, 0, 0, 0, 0, []), (18, 2, .istore 0, 5, 0, 0, 0, []), (20, 2, .iload 0, 5, 0, 0, 0, []), (22, 1, .aload 0, 3, 0, 0, 0, []),
  (23, 3, .getfield 0, 0, 2, 0, 0, [93]), (26, 3, .if_icmp .ge 0, 72, 0, 0, 0, []), (29, 1, .aload 0, 0, 0, 0, 0, []), (30, 3, .getfield 0, 6, 1, 2, 0, [324]), (33, 2, .iload 0, 5, 0, 0, 0, []), (35, 2, .aload 0, 4, 0, 0, 0, []),
  (37, 1, .iload 0, 2, 0, 0, 0, []), (38, 1, .iconst 0, 0, 0, 0, 3, []), (39, 1, .idiv, 0, 0, 0, 0, []), (40, 1, .aload 0, 3, 0, 0, 0, []), (41, 3, .getfield 0, 0, 6, 2, 0, [105]), (44, 2, .iload 0, 5, 0, 0, 0, []),
  (46, 1, .iaload, 0, 0, 0, 0, []), (47, 3, .invokevirtual 0, 61, 3, 7, 1, [579, 505, 506, 21]), (50, 1, .iastore, 0, 0, 0, 0, []), (51, 1, .aload 0, 0, 0, 0, 0, []), (52, 3, .getfield 0, 6, 0, 2, 0, [323]), (55, 2, .iload 0, 5, 0, 0, 0, []),
  (57, 1, .aload 0, 0, 0, 0, 0, []), (58, 1, .aload 0, 1, 0, 0, 0, []), (59, 1, .iload 0, 2, 0, 0, 0, []), (60, 2, .iload 0, 5, 0, 0, 0, []), (62, 3, .invokevirtual 0, 52, 4, 6, 1, [580, 582, 9, 24]), (65, 1, .iastore, 0, 0, 0, 0, []),
  (66, 3, .iinc 0 0, 5, 0, 0, 1, []), (69, 3, .goto 0, 20, 0, 0, 0, []), (72, 1, .iconst 0, 0, 0, 0, (-1), []), (73, 2, .istore 0, 5, 0, 0, 0, []), (75, 3, .iconst 0, 0, 0, 0, 512, []), (78, 2, .istore 0, 6, 0, 0, 0, []),
  (80, 2, .iload 0, 6, 0, 0, 0, []), (82, 3, .ifCond .le 0, 134, 0, 0, 0, []), (85, 2, .iload 0, 5, 0, 0, 0, []), (87, 2, .iload 0, 6, 0, 0, 0, []), (89, 1, .iadd, 0, 0, 0, 0, []), (90, 2, .istore 0, 7, 0, 0, 0, []),
  (92, 2, .iload 0, 7, 0, 0, 0, []), (94, 3, .iconst 0, 0, 0, 0, 999, []), (97, 3, .if_icmp .gt 0, 125, 0, 0, 0, []), (100, 1, .aload 0, 0, 0, 0, 0, []), (101, 2, .iload 0, 7, 0, 0, 0, []), (103, 1, .aload 0, 3, 0, 0, 0, []),
  (104, 3, .getfield 0, 0, 2, 0, 0, [93]), (107, 3, .invokevirtual 0, 51, 3, 6, 1, [598, 600, 10, 24]), (110, 2, .aload 0, 4, 0, 0, 0, []), (112, 1, .iload 0, 2, 0, 0, 0, []), (113, 2, .iload 0, 7, 0, 0, 0, []), (115, 3, .invokevirtual 0, 66, 3, 7, 1, [602, 603, 604, 21]),
  (118, 3, .if_icmp .ge 0, 125, 0, 0, 0, []), (121, 2, .iload 0, 7, 0, 0, 0, []), (123, 2, .istore 0, 5, 0, 0, 0, []), (125, 2, .iload 0, 6, 0, 0, 0, []), (127, 1, .iconst 0, 0, 0, 0, 2, []), (128, 1, .idiv, 0, 0, 0, 0, []),
  (129, 2, .istore 0, 6, 0, 0, 0, []), (131, 3, .goto 0, 80, 0, 0, 0, []), (134, 2, .iload 0, 5, 0, 0, 0, []), (136, 3, .iconst 0, 0, 0, 0, 999, []), (139, 3, .if_icmp .ne 0, 147, 0, 0, 0, []), (142, 2, .iconst 0, 0, 0, 0, (-9), []),
  (144, 3, .goto 0, 151, 0, 0, 0, []), (147, 2, .iload 0, 5, 0, 0, 0, []), (149, 1, .iconst 0, 0, 0, 0, 1, []), (150, 1, .iadd, 0, 0, 0, 0, []), (151, 1, .ireturn, 0, 0, 0, 0, [])
  ]
def mc_X6_comingAt : List mv_E := [
  (0, 1, .iconst 0, 0, 0, 0, 0, []), (1, 1, .istore 0, 3, 0, 0, 0, []), (2, 1, .iconst 0, 0, 0, 0, 0, []), (3, 2, .istore 0, 4, 0, 0, 0, []), (5, 2, .iload 0, 4, 0, 0, 0, []), (7, 1, .iload 0, 2, 0, 0, 0, []),
  (8, 3, .if_icmp .ge 0, 38, 0, 0, 0, []), (11, 1, .aload 0, 0, 0, 0, 0, []), (12, 3, .getfield 0, 6, 0, 2, 0, [323]), (15, 2, .iload 0, 4, 0, 0, 0, []), (17, 1, .iaload, 0, 0, 0, 0, []), (18, 1, .iload 0, 1, 0, 0, 0, []),
  (19, 3, .if_icmp .gt 0, 32, 0, 0, 0, []), (22, 1, .iload 0, 3, 0, 0, 0, []), (23, 1, .aload 0, 0, 0, 0, 0, []), (24, 3, .getfield 0, 6, 1, 2, 0, [324]), (27, 2, .iload 0, 4, 0, 0, 0, []), (29, 1, .iaload, 0, 0, 0, 0, []),
  (30, 1, .iadd, 0, 0, 0, 0, []), (31, 1, .istore 0, 3, 0, 0, 0, []), (32, 3, .iinc 0 0, 4, 0, 0, 1, []), (35, 3, .goto 0, 5, 0, 0, 0, []), (38, 1, .iload 0, 3, 0, 0, 0, []), (39, 1, .ireturn, 0, 0, 0, 0, [])
  ]
def mc_X6_leastPriceFor : List mv_E := [
  (0, 1, .aload 0, 1, 0, 0, 0, []), (1, 3, .getfield 0, 1, 0, 2, 0, [286]), (4, 3, .getfield 0, 10, 1, 2, 0, [247]), (7, 2, .astore 0, 4, 0, 0, 0, []), (9, 1, .aload 0, 1, 0, 0, 0, []), (10, 1, .iload 0, 2, 0, 0, 0, []),
  (11, 1, .iload 0, 3, 0, 0, 0, []), (12, 3, .invokevirtual 0, 17, 3, 1, 1, [584, 493, 494, 18]), (15, 2, .istore 0, 5, 0, 0, 0, []), (17, 1, .aload 0, 1, 0, 0, 0, []), (18, 3, .getfield 0, 1, 0, 2, 0, [286]), (21, 3, .getfield 0, 10, 0, 2, 0, [243]),
  (24, 3, .getfield 0, 0, 9, 2, 0, [116]), (27, 1, .iload 0, 3, 0, 0, 0, []), (28, 1, .iaload, 0, 0, 0, 0, []), (29, 3, .ifCond .ne 0, 54, 0, 0, 0, []), (32, 1, .aload 0, 0, 0, 0, 0, []), (33, 3, .getfield 0, 6, 1, 2, 0, [324]),
  (36, 1, .iload 0, 3, 0, 0, 0, []), (37, 1, .iaload, 0, 0, 0, 0, []), (38, 3, .ifCond .le 0, 54, 0, 0, 0, []), (41, 2, .aload 0, 4, 0, 0, 0, []), (43, 1, .iload 0, 2, 0, 0, 0, []), (44, 1, .iconst 0, 0, 0, 0, 3, []),
  (45, 1, .idiv, 0, 0, 0, 0, []), (46, 2, .iload 0, 5, 0, 0, 0, []), (48, 3, .invokevirtual 0, 65, 3, 7, 1, [585, 497, 498, 21]), (51, 3, .ifCond .ne 0, 58, 0, 0, 0, []), (54, 3, .iconst 0, 0, 0, 0, 1000, []), (57, 1, .ireturn, 0, 0, 0, 0, []),
  (58, 1, .aload 0, 1, 0, 0, 0, []), (59, 1, .iload 0, 3, 0, 0, 0, []), (60, 1, .iload 0, 2, 0, 0, 0, []), (61, 3, .invokevirtual 0, 19, 3, 1, 1, [586, 522, 523, 18]), (64, 2, .istore 0, 6, 0, 0, 0, []), (66, 1, .lconst 0, 0, 0, 0, 1, []),
  (67, 2, .lstore 0, 7, 0, 0, 0, []), (69, 2, .iload 0, 6, 0, 0, 0, []), (71, 1, .iconst 0, 0, 0, 0, (-1), []), (72, 3, .if_icmp .eq 0, 102, 0, 0, 0, []), (75, 1, .aload 0, 1, 0, 0, 0, []), (76, 3, .getfield 0, 1, 2, 2, 0, [289]),
  (79, 2, .iload 0, 6, 0, 0, 0, []), (81, 2, .iconst 0, 0, 0, 0, 48, []), (83, 1, .imul, 0, 0, 0, 0, []), (84, 1, .iload 0, 3, 0, 0, 0, []), (85, 1, .iadd, 0, 0, 0, 0, []), (86, 1, .laload, 0, 0, 0, 0, []),
  (87, 2, .iload 0, 6, 0, 0, 0, []), (89, 1, .iload 0, 2, 0, 0, 0, []), (90, 3, .if_icmp .ge 0, 97, 0, 0, 0, []), (93, 1, .iconst 0, 0, 0, 0, 1, []), (94, 3, .goto 0, 98, 0, 0, 0, []), (97, 1, .iconst 0, 0, 0, 0, 0, []),
  (98, 1, .i2l, 0, 0, 0, 0, []), (99, 1, .ladd, 0, 0, 0, 0, []), (100, 2, .lstore 0, 7, 0, 0, 0, []), (102, 2, .lload 0, 7, 0, 0, 0, []), (104, 1, .aload 0, 1, 0, 0, 0, []), (105, 3, .getfield 0, 1, 2, 2, 0, [289]),
  (108, 1, .iload 0, 2, 0, 0, 0, []), (109, 2, .iconst 0, 0, 0, 0, 48, []), (111, 1, .imul, 0, 0, 0, 0, []), (112, 1, .iload 0, 3, 0, 0, 0, []), (113, 1, .iadd, 0, 0, 0, 0, []), (114, 1, .laload, 0, 0, 0, 0, []),
  (115, 1, .lsub, 0, 0, 0, 0, []), (116, 2, .lstore 0, 9, 0, 0, 0, []), (118, 2, .aload 0, 4, 0, 0, 0, []), (120, 3, .getfield 0, 7, 10, 2, 0, [181]), (123, 1, .iload 0, 2, 0, 0, 0, []), (124, 1, .iaload, 0, 0, 0, 0, []),
  (125, 1, .i2l, 0, 0, 0, 0, []), (126, 2, .lload 0, 9, 0, 0, 0, []), (128, 1, .lneg, 0, 0, 0, 0, []), (129, 3, .lconst 0, 0, 0, 0, 100, [587]), (132, 1, .aload 0, 0, 0, 0, 0, []), (133, 3, .getfield 0, 6, 1, 2, 0, [324]),
  (136, 1, .iload 0, 3, 0, 0, 0, []), (137, 1, .iaload, 0, 0, 0, 0, []), (138, 1, .i2l, 0, 0, 0, 0, []), (139, 1, .lmul, 0, 0, 0, 0, []), (140, 3, .invokestatic 0, 222, 2, 1, 2, [588, 589, 28]), (143, 1, .lsub, 0, 0, 0, 0, []),
  (144, 2, .lstore 0, 11, 0, 0, 0, []), (146, 1, .lconst 0, 0, 0, 0, 0, []), (147, 3, .lconst 0, 0, 0, 0, 1000, [591]), (150, 2, .lload 0, 11, 0, 0, 0, []), (152, 3, .invokestatic 0, 225, 2, 1, 2, [592, 593, 28]), (155, 3, .invokestatic 0, 224, 2, 1, 2, [595, 596, 28]),
  (158, 1, .l2i, 0, 0, 0, 0, []), (159, 1, .ireturn, 0, 0, 0, 0, [])
  ]
def mc_X6_runRounds : List mv_E := [
  (0, 1, .iconst 0, 0, 0, 0, 1, []), (1, 1, .istore 0, 3, 0, 0, 0, []), (2, 1, .iload 0, 3, 0, 0, 0, []), (3, 1, .iload 0, 2, 0, 0, 0, []), (4, 3, .if_icmp .gt 0, 23, 0, 0, 0, []), (7, 1, .aload 0, 0, 0, 0, 0, []),
  (8, 1, .aload 0, 1, 0, 0, 0, []), (9, 3, .invokevirtual 0, 54, 2, 6, 1, [571, 573, 8, 24]), (12, 3, .ifCond .ne 0, 17, 0, 0, 0, []), (15, 1, .iload 0, 3, 0, 0, 0, []), (16, 1, .ireturn, 0, 0, 0, 0, []), (17, 3, .iinc 0 0, 3, 0, 0, 1, []),
  (20, 3, .goto 0, 2, 0, 0, 0, []), (23, 1, .iload 0, 2, 0, 0, 0, []), (24, 1, .ireturn, 0, 0, 0, 0, [])
  ]
def mc_X6_runRound : List mv_E := [
  (0, 1, .aload 0, 1, 0, 0, 0, []), (1, 3, .getfield 0, 1, 0, 2, 0, [286]), (4, 3, .getfield 0, 10, 1, 2, 0, [247]), (7, 1, .astore 0, 2, 0, 0, 0, []), (8, 1, .iconst 0, 0, 0, 0, 0, []), (9, 1, .istore 0, 3, 0, 0, 0, []),
  (10, 1, .iconst 0, 0, 0, 0, 0, []), (11, 2, .istore 0, 4, 0, 0, 0, []), (13, 2, .iload 0, 4, 0, 0, 0, []), (15, 1, .aload 0, 2, 0, 0, 0, []), (16, 3, .getfield 0, 7, 0, 0, 0, [161]), (19, 1, .iconst 0, 0, 0, 0, 3, []),
  (20, 1, .imul, 0, 0, 0, 0, []), (21, 3, .if_icmp .ge 0, 102, 0, 0, 0, []), (24, 1, .aload 0, 2, 0, 0, 0, []), (25, 3, .getfield 0, 7, 11, 2, 0, [184]), (28, 2, .iload 0, 4, 0, 0, 0, []), (30, 1, .iaload, 0, 0, 0, 0, []),
  (31, 3, .ifCond .le 0, 96, 0, 0, 0, []), (34, 2, .iload 0, 4, 0, 0, 0, []), (36, 1, .iconst 0, 0, 0, 0, 3, []), (37, 1, .irem, 0, 0, 0, 0, []), (38, 1, .aload 0, 1, 0, 0, 0, []), (39, 3, .getfield 0, 1, 0, 2, 0, [286]),
  (42, 3, .getfield 0, 10, 0, 2, 0, [243]), (45, 3, .getfield 0, 0, 4, 0, 0, [101]), (48, 3, .if_icmp .ge 0, 96, 0, 0, 0, []), (51, 1, .aload 0, 0, 0, 0, 0, []), (52, 1, .aload 0, 1, 0, 0, 0, []), (53, 2, .iload 0, 4, 0, 0, 0, []),
  (55, 3, .invokevirtual 0, 50, 3, 6, 1, [575, 576, 577, 24]), (58, 2, .istore 0, 5, 0, 0, 0, []), (60, 2, .iload 0, 5, 0, 0, 0, []), (62, 2, .iconst 0, 0, 0, 0, (-9), []), (64, 3, .if_icmp .eq 0, 96, 0, 0, 0, []), (67, 2, .iload 0, 5, 0, 0, 0, []),
  (69, 1, .aload 0, 2, 0, 0, 0, []), (70, 3, .getfield 0, 7, 10, 2, 0, [181]), (73, 2, .iload 0, 4, 0, 0, 0, []), (75, 1, .iaload, 0, 0, 0, 0, []), (76, 3, .if_icmp .eq 0, 96, 0, 0, 0, []), (79, 1, .aload 0, 2, 0, 0, 0, []),
  (80, 3, .getfield 0, 7, 10, 2, 0, [181]), (83, 2, .iload 0, 4, 0, 0, 0, []), (85, 2, .iload 0, 5, 0, 0, 0, []), (87, 1, .iastore, 0, 0, 0, 0, []), (88, 1, .aload 0, 1, 0, 0, 0, []), (89, 2, .iload 0, 4, 0, 0, 0, []),
  (91, 3, .invokevirtual 0, 16, 2, 1, 0, [606, 489, 490, 18]), (94, 1, .iconst 0, 0, 0, 0, 1, []), (95, 1, .istore 0, 3, 0, 0, 0, []), (96, 3, .iinc 0 0, 4, 0, 0, 1, []), (99, 3, .goto 0, 13, 0, 0, 0, []), (102, 1, .iload 0, 3, 0, 0, 0, []),
  (103, 1, .ireturn, 1, 0, 0, 0, [])
  ]
def mc_X6_bestToHold : List mv_E := [
  (0, 1, .aload 0, 1, 0, 0, 0, []), (1, 3, .getfield 0, 1, 0, 2, 0, [286]), (4, 3, .getfield 0, 10, 0, 2, 0, [243]), (7, 1, .astore 0, 3, 0, 0, 0, []), (8, 1, .aload 0, 1, 0, 0, 0, []), (9, 3, .getfield 0, 1, 0, 2, 0, [286]),
  (12, 3, .getfield 0, 10, 1, 2, 0, [247]), (15, 3, .getfield 0, 7, 10, 2, 0, [181]), (18, 1, .iconst 0, 0, 0, 0, 0, []), (19, 1, .aload 0, 0, 0, 0, 0, []), (20, 3, .getfield 0, 6, 2, 2, 0, [325]), (23, 1, .iconst 0, 0, 0, 0, 0, []),
  (24, 2, .iconst 0, 0, 0, 0, 18, []), (26, 3, .invokestatic 0, 0, 0, 100, 0, [636, 638, 637, 27]), (29, 1, .aload 0, 1, 0, 0, 0, []), (30, 3, .getfield 0, 1, 2, 2, 0, [289]), (33, 1, .iconst 0, 0, 0, 0, 0, []), (34, 1, .aload 0, 0, 0, 0, 0, []),
  (35, 3, .getfield 0, 6, 3, 2, 0, [326]), (38, 1, .iconst 0, 0, 0, 0, 0, []), (39, 3, .iconst 0, 0, 0, 0, 864, []), (42, 3, .invokestatic 0, 0, 0, 101, 0, [636, 638, 637, 27]), (45, 1, .aload 0, 0, 0, 0, 0, []), (46, 1, .aload 0, 1, 0, 0, 0, []),
  (47, 1, .iload 0, 2, 0, 0, 0, []), (48, 3, .invokevirtual 0, 56, 3, 6, 2, [639, 641, 12, 24]), (51, 2, .lstore 0, 4, 0, 0, 0, []), (53, 2, .iconst 0, 0, 0, 0, (-9), []), (55, 2, .istore 0, 6, 0, 0, 0, []), (57, 1, .iconst 0, 0, 0, 0, 0, []),
  (58, 2, .istore 0, 7, 0, 0, 0, []), (60, 2, .iload 0, 7, 0, 0, 0, []), (62, 2, .iconst 0, 0, 0, 0, 10, []), (64, 1, .aload 0, 3, 0, 0, 0, []), (65, 3, .getfield 0, 0, 0, 0, 0, [87]), (68, 1, .imul, 0, 0, 0, 0, []),
  (69, 3, .if_icmp .ge 0, 154, 0, 0, 0, []), (72, 1, .aload 0, 3, 0, 0, 0, []), (73, 2, .iload 0, 7, 0, 0, 0, []), (75, 3, .invokevirtual 0, 4, 2, 0, 1, [647, 425, 426, 20]), (78, 2, .istore 0, 8, 0, 0, 0, []), (80, 2, .iload 0, 8, 0, 0, 0, []),
  (82, 1, .iconst 0, 0, 0, 0, (-1), []), (83, 3, .if_icmp .eq 0, 148, 0, 0, 0, []), (86, 1, .aload 0, 3, 0, 0, 0, []), (87, 3, .getfield 0, 0, 8, 2, 0, [113]), (90, 2, .iload 0, 8, 0, 0, 0, []), (92, 1, .iaload, 0, 0, 0, 0, []),
  (93, 1, .iload 0, 2, 0, 0, 0, []), (94, 3, .if_icmp .ne 0, 148, 0, 0, 0, []), (97, 1, .aload 0, 1, 0, 0, 0, []), (98, 3, .getfield 0, 1, 3, 2, 0, [291]), (101, 2, .iload 0, 8, 0, 0, 0, []), (103, 1, .iaload, 0, 0, 0, 0, []),
  (104, 1, .iconst 0, 0, 0, 0, (-1), []), (105, 3, .if_icmp .eq 0, 148, 0, 0, 0, []), (108, 1, .aload 0, 3, 0, 0, 0, []), (109, 3, .getfield 0, 0, 9, 2, 0, [116]), (112, 2, .iload 0, 8, 0, 0, 0, []), (114, 1, .iconst 0, 0, 0, 0, 1, []),
  (115, 1, .iastore, 0, 0, 0, 0, []), (116, 1, .aload 0, 0, 0, 0, 0, []), (117, 1, .aload 0, 1, 0, 0, 0, []), (118, 1, .iload 0, 2, 0, 0, 0, []), (119, 3, .invokevirtual 0, 56, 3, 6, 2, [639, 641, 12, 24]), (122, 2, .lstore 0, 9, 0, 0, 0, []),
  (124, 1, .aload 0, 3, 0, 0, 0, []), (125, 3, .getfield 0, 0, 9, 2, 0, [116]), (128, 2, .iload 0, 8, 0, 0, 0, []), (130, 1, .iconst 0, 0, 0, 0, 0, []), (131, 1, .iastore, 0, 0, 0, 0, []), (132, 2, .lload 0, 9, 0, 0, 0, []),
  (134, 2, .lload 0, 4, 0, 0, 0, []), (136, 1, .lcmp, 0, 0, 0, 0, []), (137, 3, .ifCond .le 0, 148, 0, 0, 0, []), (140, 2, .lload 0, 9, 0, 0, 0, []), (142, 2, .lstore 0, 4, 0, 0, 0, []), (144, 2, .iload 0, 7, 0, 0, 0, []),
  (146, 2, .istore 0, 6, 0, 0, 0, []), (148, 3, .iinc 0 0, 7, 0, 0, 1, []), (151, 3, .goto 0, 60, 0, 0, 0, []), (154, 2, .iload 0, 6, 0, 0, 0, []), (156, 1, .ireturn, 0, 0, 0, 0, [])
  ]
def mc_X6_rentsAfterRound : List mv_E := [
  (0, 1, .aload 0, 0, 0, 0, 0, []), (1, 1, .aload 0, 1, 0, 0, 0, []), (2, 3, .invokevirtual 0, 54, 2, 6, 1, [571, 573, 8, 24]), (5, 1, .pop, 0, 0, 0, 0, []), (6, 1, .aload 0, 1, 0, 0, 0, []), (7, 1, .iload 0, 2, 0, 0, 0, []),
  (8, 3, .invokevirtual 0, 23, 2, 1, 2, [643, 644, 645, 18]), (11, 1, .lstore 0, 3, 0, 0, 0, []), (12, 1, .aload 0, 0, 0, 0, 0, []), (13, 3, .getfield 0, 6, 2, 2, 0, [325]), (16, 1, .iconst 0, 0, 0, 0, 0, []), (17, 1, .aload 0, 1, 0, 0, 0, []),
  (18, 3, .getfield 0, 1, 0, 2, 0, [286]), (21, 3, .getfield 0, 10, 1, 2, 0, [247]), (24, 3, .getfield 0, 7, 10, 2, 0, [181]), (27, 1, .iconst 0, 0, 0, 0, 0, []), (28, 2, .iconst 0, 0, 0, 0, 18, []), (30, 3, .invokestatic 0, 0, 0, 100, 0, [636, 638, 637, 27]),
  (33, 1, .aload 0, 0, 0, 0, 0, []), (34, 3, .getfield 0, 6, 3, 2, 0, [326]), (37, 1, .iconst 0, 0, 0, 0, 0, []), (38, 1, .aload 0, 1, 0, 0, 0, []), (39, 3, .getfield 0, 1, 2, 2, 0, [289]), (42, 1, .iconst 0, 0, 0, 0, 0, []),
  (43, 3, .iconst 0, 0, 0, 0, 864, []), (46, 3, .invokestatic 0, 0, 0, 101, 0, [636, 638, 637, 27]), (49, 1, .lload 0, 3, 0, 0, 0, []), (50, 1, .lreturn, 0, 0, 0, 0, [])
  ]
def mc_X7_init : List mv_E := [
  (0, 1, .aload 0, 0, 0, 0, 0, []), (1, 3, .invokespecial 0, 0, 0, 1, 0, [158, 35, 36]), (4, 1, .aload 0, 0, 0, 0, 0, []), (5, 1, .iconst 0, 0, 0, 0, 0, []), (6, 3, .putfield 0, 7, 0, 0, 0, [159]), (9, 1, .aload 0, 0, 0, 0, 0, []),
  (10, 1, .iconst 0, 0, 0, 0, 0, []), (11, 3, .putfield 0, 7, 1, 0, 0, [163]), (14, 1, .aload 0, 0, 0, 0, 0, []), (15, 2, .iconst 0, 0, 0, 0, 6, []), (17, 2, .newarray .int, 100, 0, 0, 0, [53]), (19, 3, .putfield 0, 7, 2, 2, 0, [166]),
  (22, 1, .aload 0, 0, 0, 0, 0, []), (23, 2, .iconst 0, 0, 0, 0, 6, []), (25, 2, .newarray .int, 100, 0, 0, 0, [53]), (27, 3, .putfield 0, 7, 3, 2, 0, [169]), (30, 1, .aload 0, 0, 0, 0, 0, []), (31, 2, .iconst 0, 0, 0, 0, 6, []),
  (33, 2, .newarray .int, 100, 0, 0, 0, [53]), (35, 3, .putfield 0, 7, 4, 2, 0, [170]), (38, 1, .aload 0, 0, 0, 0, 0, []), (39, 2, .iconst 0, 0, 0, 0, 6, []), (41, 2, .newarray .int, 100, 0, 0, 0, [53]), (43, 3, .putfield 0, 7, 5, 2, 0, [171]),
  (46, 1, .aload 0, 0, 0, 0, 0, []), (47, 2, .iconst 0, 0, 0, 0, 6, []), (49, 2, .newarray .int, 100, 0, 0, 0, [53]), (51, 3, .putfield 0, 7, 6, 2, 0, [172]), (54, 1, .aload 0, 0, 0, 0, 0, []), (55, 2, .iconst 0, 0, 0, 0, 6, []),
  (57, 2, .newarray .int, 100, 0, 0, 0, [53]), (59, 3, .putfield 0, 7, 7, 2, 0, [173]), (62, 1, .aload 0, 0, 0, 0, 0, []), (63, 2, .iconst 0, 0, 0, 0, 6, []), (65, 2, .newarray .int, 100, 0, 0, 0, [53]), (67, 3, .putfield 0, 7, 8, 2, 0, [176]),
  (70, 1, .aload 0, 0, 0, 0, 0, []), (71, 2, .iconst 0, 0, 0, 0, 6, []), (73, 2, .newarray .int, 100, 0, 0, 0, [53]), (75, 3, .putfield 0, 7, 9, 2, 0, [178]), (78, 1, .aload 0, 0, 0, 0, 0, []), (79, 2, .iconst 0, 0, 0, 0, 18, []),
  (81, 2, .newarray .int, 100, 0, 0, 0, [53]), (83, 3, .putfield 0, 7, 10, 2, 0, [180]), (86, 1, .aload 0, 0, 0, 0, 0, []), (87, 2, .iconst 0, 0, 0, 0, 18, []), (89, 2, .newarray .int, 100, 0, 0, 0, [53]), (91, 3, .putfield 0, 7, 11, 2, 0, [183]),
  (94, 1, .aload 0, 0, 0, 0, 0, []), (95, 2, .iconst 0, 0, 0, 0, 108, []), (97, 2, .newarray .int, 100, 0, 0, 0, [53]), (99, 3, .putfield 0, 7, 12, 2, 0, [186]), (102, 1, .aload 0, 0, 0, 0, 0, []), (103, 2, .iconst 0, 0, 0, 0, 108, []),
  (105, 2, .newarray .int, 100, 0, 0, 0, [53]), (107, 3, .putfield 0, 7, 13, 2, 0, [187]), (110, 1, .return_, 0, 0, 0, 0, [])
  ]
def mc_X7_append : List mv_E := [
  (0, 1, .aload 0, 0, 0, 0, 0, []), (1, 3, .getfield 0, 7, 0, 0, 0, [159]), (4, 2, .istore 0, 6, 0, 0, 0, []), (6, 2, .iload 0, 6, 0, 0, 0, []), (8, 2, .iconst 0, 0, 0, 0, 6, []), (10, 3, .if_icmp .lt 0, 16, 0, 0, 0, []),
  (13, 2, .iconst 0, 0, 0, 0, (-9), []), (15, 1, .ireturn, 0, 0, 0, 0, []), (16, 1, .aload 0, 0, 0, 0, 0, []), (17, 3, .getfield 0, 7, 2, 2, 0, [166]), (20, 2, .iload 0, 6, 0, 0, 0, []), (22, 1, .iload 0, 1, 0, 0, 0, []),
  (23, 1, .iastore, 0, 0, 0, 0, []), (24, 1, .aload 0, 0, 0, 0, 0, []), (25, 3, .getfield 0, 7, 3, 2, 0, [169]), (28, 2, .iload 0, 6, 0, 0, 0, []), (30, 1, .iload 0, 2, 0, 0, 0, []), (31, 1, .iastore, 0, 0, 0, 0, []),
  (32, 1, .aload 0, 0, 0, 0, 0, []), (33, 3, .getfield 0, 7, 4, 2, 0, [170]), (36, 2, .iload 0, 6, 0, 0, 0, []), (38, 1, .iload 0, 3, 0, 0, 0, []), (39, 1, .iastore, 0, 0, 0, 0, []), (40, 1, .aload 0, 0, 0, 0, 0, []),
  (41, 3, .getfield 0, 7, 5, 2, 0, [171]), (44, 2, .iload 0, 6, 0, 0, 0, []), (46, 2, .iload 0, 4, 0, 0, 0, []), (48, 1, .iastore, 0, 0, 0, 0, []), (49, 1, .aload 0, 0, 0, 0, 0, []), (50, 3, .getfield 0, 7, 6, 2, 0, [172]),
  (53, 2, .iload 0, 6, 0, 0, 0, []), (55, 2, .iload 0, 5, 0, 0, 0, []), (57, 1, .iastore, 0, 0, 0, 0, []), (58, 1, .aload 0, 0, 0, 0, 0, []), (59, 2, .iload 0, 6, 0, 0, 0, []), (61, 1, .iconst 0, 0, 0, 0, 1, []),
  (62, 1, .iadd, 0, 0, 0, 0, []), (63, 3, .putfield 0, 7, 0, 0, 0, [159]), (66, 2, .iload 0, 6, 0, 0, 0, []), (68, 1, .ireturn, 0, 0, 0, 0, [])
  ]
def mc_X7_appendPiece : List mv_E := [
  (0, 1, .aload 0, 0, 0, 0, 0, []), (1, 3, .getfield 0, 7, 11, 2, 0, [183]), (4, 1, .iload 0, 1, 0, 0, 0, []), (5, 1, .iaload, 0, 0, 0, 0, []), (6, 2, .istore 0, 4, 0, 0, 0, []), (8, 2, .iload 0, 4, 0, 0, 0, []),
  (10, 2, .iconst 0, 0, 0, 0, 6, []), (12, 3, .if_icmp .ge 0, 51, 0, 0, 0, []), (15, 1, .aload 0, 0, 0, 0, 0, []), (16, 3, .getfield 0, 7, 12, 2, 0, [186]), (19, 1, .iload 0, 1, 0, 0, 0, []), (20, 2, .iconst 0, 0, 0, 0, 6, []),
  (22, 1, .imul, 0, 0, 0, 0, []), (23, 2, .iload 0, 4, 0, 0, 0, []), (25, 1, .iadd, 0, 0, 0, 0, []), (26, 1, .iload 0, 2, 0, 0, 0, []), (27, 1, .iastore, 0, 0, 0, 0, []), (28, 1, .aload 0, 0, 0, 0, 0, []),
  (29, 3, .getfield 0, 7, 13, 2, 0, [187]), (32, 1, .iload 0, 1, 0, 0, 0, []), (33, 2, .iconst 0, 0, 0, 0, 6, []), (35, 1, .imul, 0, 0, 0, 0, []), (36, 2, .iload 0, 4, 0, 0, 0, []), (38, 1, .iadd, 0, 0, 0, 0, []),
  (39, 1, .iload 0, 3, 0, 0, 0, []), (40, 1, .iastore, 0, 0, 0, 0, []), (41, 1, .aload 0, 0, 0, 0, 0, []), (42, 3, .getfield 0, 7, 11, 2, 0, [183]), (45, 1, .iload 0, 1, 0, 0, 0, []), (46, 2, .iload 0, 4, 0, 0, 0, []),
  (48, 1, .iconst 0, 0, 0, 0, 1, []), (49, 1, .iadd, 0, 0, 0, 0, []), (50, 1, .iastore, 0, 0, 0, 0, []), (51, 1, .return_, 0, 0, 0, 0, [])
  ]
def mc_X7_takeFrom : List mv_E := [
  (0, 1, .aload 0, 0, 0, 0, 0, []), (1, 1, .aload 0, 1, 0, 0, 0, []), (2, 3, .getfield 0, 7, 0, 0, 0, [159]), (5, 3, .putfield 0, 7, 0, 0, 0, [159]), (8, 1, .aload 0, 0, 0, 0, 0, []), (9, 1, .aload 0, 1, 0, 0, 0, []),
  (10, 3, .getfield 0, 7, 1, 0, 0, [163]), (13, 3, .putfield 0, 7, 1, 0, 0, [163]), (16, 1, .aload 0, 1, 0, 0, 0, []), (17, 3, .getfield 0, 7, 2, 2, 0, [166]), (20, 1, .iconst 0, 0, 0, 0, 0, []), (21, 1, .aload 0, 0, 0, 0, 0, []),
  (22, 3, .getfield 0, 7, 2, 2, 0, [166]), (25, 1, .iconst 0, 0, 0, 0, 0, []), (26, 2, .iconst 0, 0, 0, 0, 6, []), (28, 3, .invokestatic 0, 0, 0, 100, 0, [665, 638, 637, 27]), (31, 1, .aload 0, 1, 0, 0, 0, []), (32, 3, .getfield 0, 7, 3, 2, 0, [169]),
  (35, 1, .iconst 0, 0, 0, 0, 0, []), (36, 1, .aload 0, 0, 0, 0, 0, []), (37, 3, .getfield 0, 7, 3, 2, 0, [169]), (40, 1, .iconst 0, 0, 0, 0, 0, []), (41, 2, .iconst 0, 0, 0, 0, 6, []), (43, 3, .invokestatic 0, 0, 0, 100, 0, [665, 638, 637, 27]),
  (46, 1, .aload 0, 1, 0, 0, 0, []), (47, 3, .getfield 0, 7, 4, 2, 0, [170]), (50, 1, .iconst 0, 0, 0, 0, 0, []), (51, 1, .aload 0, 0, 0, 0, 0, []), (52, 3, .getfield 0, 7, 4, 2, 0, [170]), (55, 1, .iconst 0, 0, 0, 0, 0, []),
  (56, 2, .iconst 0, 0, 0, 0, 6, []), (58, 3, .invokestatic 0, 0, 0, 100, 0, [665, 638, 637, 27]), (61, 1, .aload 0, 1, 0, 0, 0, []), (62, 3, .getfield 0, 7, 5, 2, 0, [171]), (65, 1, .iconst 0, 0, 0, 0, 0, []), (66, 1, .aload 0, 0, 0, 0, 0, []),
  (67, 3, .getfield 0, 7, 5, 2, 0, [171]), (70, 1, .iconst 0, 0, 0, 0, 0, []), (71, 2, .iconst 0, 0, 0, 0, 6, []), (73, 3, .invokestatic 0, 0, 0, 100, 0, [665, 638, 637, 27]), (76, 1, .aload 0, 1, 0, 0, 0, []), (77, 3, .getfield 0, 7, 6, 2, 0, [172]),
  (80, 1, .iconst 0, 0, 0, 0, 0, []), (81, 1, .aload 0, 0, 0, 0, 0, []), (82, 3, .getfield 0, 7, 6, 2, 0, [172]), (85, 1, .iconst 0, 0, 0, 0, 0, []), (86, 2, .iconst 0, 0, 0, 0, 6, []), (88, 3, .invokestatic 0, 0, 0, 100, 0, [665, 638, 637, 27]),
  (91, 1, .aload 0, 1, 0, 0, 0, []), (92, 3, .getfield 0, 7, 7, 2, 0, [173]), (95, 1, .iconst 0, 0, 0, 0, 0, []), (96, 1, .aload 0, 0, 0, 0, 0, []), (97, 3, .getfield 0, 7, 7, 2, 0, [173]), (100, 1, .iconst 0, 0, 0, 0, 0, []),
  (101, 2, .iconst 0, 0, 0, 0, 6, []), (103, 3, .invokestatic 0, 0, 0, 100, 0, [665, 638, 637, 27]), (106, 1, .aload 0, 1, 0, 0, 0, []), (107, 3, .getfield 0, 7, 8, 2, 0, [176]), (110, 1, .iconst 0, 0, 0, 0, 0, []), (111, 1, .aload 0, 0, 0, 0, 0, []),
  (112, 3, .getfield 0, 7, 8, 2, 0, [176]), (115, 1, .iconst 0, 0, 0, 0, 0, []), (116, 2, .iconst 0, 0, 0, 0, 6, []), (118, 3, .invokestatic 0, 0, 0, 100, 0, [665, 638, 637, 27]), (121, 1, .aload 0, 1, 0, 0, 0, []), (122, 3, .getfield 0, 7, 9, 2, 0, [178]),
  (125, 1, .iconst 0, 0, 0, 0, 0, []), (126, 1, .aload 0, 0, 0, 0, 0, []), (127, 3, .getfield 0, 7, 9, 2, 0, [178]), (130, 1, .iconst 0, 0, 0, 0, 0, []), (131, 2, .iconst 0, 0, 0, 0, 6, []), (133, 3, .invokestatic 0, 0, 0, 100, 0, [665, 638, 637, 27]),
  (136, 1, .aload 0, 1, 0, 0, 0, []), (137, 3, .getfield 0, 7, 10, 2, 0, [180]), (140, 1, .iconst 0, 0, 0, 0, 0, []), (141, 1, .aload 0, 0, 0, 0, 0, []), (142, 3, .getfield 0, 7, 10, 2, 0, [180]), (145, 1, .iconst 0, 0, 0, 0, 0, []),
  (146, 2, .iconst 0, 0, 0, 0, 18, []), (148, 3, .invokestatic 0, 0, 0, 100, 0, [665, 638, 637, 27]), (151, 1, .aload 0, 1, 0, 0, 0, []), (152, 3, .getfield 0, 7, 11, 2, 0, [183]), (155, 1, .iconst 0, 0, 0, 0, 0, []), (156, 1, .aload 0, 0, 0, 0, 0, []),
  (157, 3, .getfield 0, 7, 11, 2, 0, [183]), (160, 1, .iconst 0, 0, 0, 0, 0, []), (161, 2, .iconst 0, 0, 0, 0, 18, []), (163, 3, .invokestatic 0, 0, 0, 100, 0, [665, 638, 637, 27]), (166, 1, .aload 0, 1, 0, 0, 0, []), (167, 3, .getfield 0, 7, 12, 2, 0, [186]),
  (170, 1, .iconst 0, 0, 0, 0, 0, []), (171, 1, .aload 0, 0, 0, 0, 0, []), (172, 3, .getfield 0, 7, 12, 2, 0, [186]), (175, 1, .iconst 0, 0, 0, 0, 0, []), (176, 2, .iconst 0, 0, 0, 0, 108, []), (178, 3, .invokestatic 0, 0, 0, 100, 0, [665, 638, 637, 27]),
  (181, 1, .aload 0, 1, 0, 0, 0, []), (182, 3, .getfield 0, 7, 13, 2, 0, [187]), (185, 1, .iconst 0, 0, 0, 0, 0, []), (186, 1, .aload 0, 0, 0, 0, 0, []), (187, 3, .getfield 0, 7, 13, 2, 0, [187]), (190, 1, .iconst 0, 0, 0, 0, 0, []),
  (191, 2, .iconst 0, 0, 0, 0, 108, []), (193, 3, .invokestatic 0, 0, 0, 100, 0, [665, 638, 637, 27]), (196, 1, .return_, 0, 0, 0, 0, [])
  ]
def mc_X7_yieldOn : List mv_E := [
  (0, 1, .aload 0, 0, 0, 0, 0, []), (1, 3, .getfield 0, 7, 2, 2, 0, [166]), (4, 1, .iload 0, 1, 0, 0, 0, []), (5, 1, .iaload, 0, 0, 0, 0, []), (6, 1, .iconst 0, 0, 0, 0, 4, []), (7, 3, .if_icmp .ne 0, 19, 0, 0, 0, []),
  (10, 1, .aload 0, 0, 0, 0, 0, []), (11, 3, .getfield 0, 7, 3, 2, 0, [169]), (14, 1, .iload 0, 1, 0, 0, 0, []), (15, 1, .iaload, 0, 0, 0, 0, []), (16, 3, .goto 0, 34, 0, 0, 0, []), (19, 1, .aload 0, 0, 0, 0, 0, []),
  (20, 3, .getfield 0, 7, 3, 2, 0, [169]), (23, 1, .iload 0, 1, 0, 0, 0, []), (24, 1, .iaload, 0, 0, 0, 0, []), (25, 1, .aload 0, 0, 0, 0, 0, []), (26, 3, .getfield 0, 7, 4, 2, 0, [170]), (29, 1, .iload 0, 1, 0, 0, 0, []),
  (30, 1, .iaload, 0, 0, 0, 0, []), (31, 1, .iload 0, 2, 0, 0, 0, []), (32, 1, .imul, 0, 0, 0, 0, []), (33, 1, .iadd, 0, 0, 0, 0, []), (34, 1, .ireturn, 0, 0, 0, 0, [])
  ]
def mc_X7_reckonedPrice : List mv_E := [
  (0, 1, .iload 0, 1, 0, 0, 0, []), (1, 1, .iconst 0, 0, 0, 0, 3, []), (2, 1, .idiv, 0, 0, 0, 0, []), (3, 1, .istore 0, 2, 0, 0, 0, []), (4, 1, .aload 0, 0, 0, 0, 0, []), (5, 3, .getfield 0, 7, 8, 2, 0, [176]),
  (8, 1, .iload 0, 2, 0, 0, 0, []), (9, 1, .iaload, 0, 0, 0, 0, []), (10, 1, .istore 0, 3, 0, 0, 0, []), (11, 1, .iload 0, 3, 0, 0, 0, []), (12, 3, .ifCond .ne 0, 24, 0, 0, 0, []), (15, 1, .aload 0, 0, 0, 0, 0, []),
  (16, 3, .getfield 0, 7, 10, 2, 0, [180]), (19, 1, .iload 0, 1, 0, 0, 0, []), (20, 1, .iaload, 0, 0, 0, 0, []), (21, 3, .goto 0, 39, 0, 0, 0, []), (24, 1, .aload 0, 0, 0, 0, 0, []), (25, 3, .getfield 0, 7, 10, 2, 0, [180]),
  (28, 1, .iload 0, 1, 0, 0, 0, []), (29, 1, .iaload, 0, 0, 0, 0, []), (30, 1, .aload 0, 0, 0, 0, 0, []), (31, 3, .getfield 0, 7, 9, 2, 0, [178]), (34, 1, .iload 0, 2, 0, 0, 0, []), (35, 1, .iaload, 0, 0, 0, 0, []),
  (36, 1, .iload 0, 3, 0, 0, 0, []), (37, 1, .idiv, 0, 0, 0, 0, []), (38, 1, .iadd, 0, 0, 0, 0, []), (39, 1, .ireturn, 0, 0, 0, 0, [])
  ]
def mc_X7_payAtHome : List mv_E := [
  (0, 1, .iload 0, 1, 0, 0, 0, []), (1, 1, .iconst 0, 0, 0, 0, 3, []), (2, 1, .idiv, 0, 0, 0, 0, []), (3, 1, .istore 0, 3, 0, 0, 0, []), (4, 1, .aload 0, 0, 0, 0, 0, []), (5, 1, .iload 0, 3, 0, 0, 0, []),
  (6, 1, .iload 0, 2, 0, 0, 0, []), (7, 3, .invokevirtual 0, 61, 3, 7, 1, [504, 505, 506, 21]), (10, 1, .i2l, 0, 0, 0, 0, []), (11, 1, .aload 0, 0, 0, 0, 0, []), (12, 1, .iload 0, 1, 0, 0, 0, []), (13, 3, .invokevirtual 0, 62, 2, 7, 1, [508, 509, 510, 21]),
  (16, 1, .i2l, 0, 0, 0, 0, []), (17, 1, .lmul, 0, 0, 0, 0, []), (18, 2, .lstore 0, 4, 0, 0, 0, []), (20, 3, .lconst 0, 0, 0, 0, 100, [512]), (23, 2, .lload 0, 4, 0, 0, 0, []), (25, 1, .aload 0, 0, 0, 0, 0, []),
  (26, 3, .getfield 0, 7, 5, 2, 0, [171]), (29, 1, .iload 0, 3, 0, 0, 0, []), (30, 1, .iaload, 0, 0, 0, 0, []), (31, 1, .i2l, 0, 0, 0, 0, []), (32, 1, .lsub, 0, 0, 0, 0, []), (33, 1, .aload 0, 0, 0, 0, 0, []),
  (34, 3, .getfield 0, 7, 7, 2, 0, [173]), (37, 1, .iload 0, 3, 0, 0, 0, []), (38, 1, .iaload, 0, 0, 0, 0, []), (39, 1, .i2l, 0, 0, 0, 0, []), (40, 1, .lsub, 0, 0, 0, 0, []), (41, 1, .lmul, 0, 0, 0, 0, []),
  (42, 1, .lreturn, 0, 0, 0, 0, [])
  ]
def mc_X7_carriage : List mv_E := [
  (0, 1, .aload 0, 0, 0, 0, 0, []), (1, 3, .getfield 0, 7, 2, 2, 0, [166]), (4, 1, .iload 0, 1, 0, 0, 0, []), (5, 1, .iaload, 0, 0, 0, 0, []), (6, 1, .iconst 0, 0, 0, 0, 1, []), (7, 3, .if_icmp .ne 0, 21, 0, 0, 0, []),
  (10, 1, .aload 0, 0, 0, 0, 0, []), (11, 3, .getfield 0, 7, 6, 2, 0, [172]), (14, 1, .iload 0, 1, 0, 0, 0, []), (15, 1, .iaload, 0, 0, 0, 0, []), (16, 1, .iconst 0, 0, 0, 0, 2, []), (17, 1, .idiv, 0, 0, 0, 0, []),
  (18, 3, .goto 0, 27, 0, 0, 0, []), (21, 1, .aload 0, 0, 0, 0, 0, []), (22, 3, .getfield 0, 7, 6, 2, 0, [172]), (25, 1, .iload 0, 1, 0, 0, 0, []), (26, 1, .iaload, 0, 0, 0, 0, []), (27, 1, .istore 0, 3, 0, 0, 0, []),
  (28, 1, .iload 0, 3, 0, 0, 0, []), (29, 1, .i2l, 0, 0, 0, 0, []), (30, 1, .aload 0, 0, 0, 0, 0, []), (31, 1, .iload 0, 1, 0, 0, 0, []), (32, 1, .iload 0, 2, 0, 0, 0, []), (33, 3, .invokevirtual 0, 61, 3, 7, 1, [504, 505, 506, 21]),
  (36, 1, .i2l, 0, 0, 0, 0, []), (37, 1, .lmul, 0, 0, 0, 0, []), (38, 1, .lreturn, 0, 0, 0, 0, [])
  ]
def mc_X7_canGo : List mv_E := [
  (0, 1, .aload 0, 0, 0, 0, 0, []), (1, 3, .getfield 0, 7, 2, 2, 0, [166]), (4, 1, .iload 0, 1, 0, 0, 0, []), (5, 1, .iaload, 0, 0, 0, 0, []), (6, 1, .iconst 0, 0, 0, 0, 5, []), (7, 3, .if_icmp .ne 0, 12, 0, 0, 0, []),
  (10, 1, .iconst 0, 0, 0, 0, 0, []), (11, 1, .ireturn, 1, 0, 0, 0, []), (12, 1, .aload 0, 0, 0, 0, 0, []), (13, 3, .getfield 0, 7, 2, 2, 0, [166]), (16, 1, .iload 0, 1, 0, 0, 0, []), (17, 1, .iaload, 0, 0, 0, 0, []),
  (18, 1, .iconst 0, 0, 0, 0, 2, []), (19, 3, .if_icmp .ne 0, 28, 0, 0, 0, []), (22, 1, .iload 0, 2, 0, 0, 0, []), (23, 2, .iconst 0, 0, 0, 0, 60, []), (25, 3, .if_icmp .gt 0, 32, 0, 0, 0, []), (28, 1, .iconst 0, 0, 0, 0, 1, []),
  (29, 3, .goto 0, 33, 0, 0, 0, []), (32, 1, .iconst 0, 0, 0, 0, 0, []), (33, 1, .ireturn, 1, 0, 0, 0, [])
  ]
def mc_X7_boughtAt : List mv_E := [
  (0, 1, .iconst 0, 0, 0, 0, 0, []), (1, 1, .istore 0, 3, 0, 0, 0, []), (2, 1, .iload 0, 1, 0, 0, 0, []), (3, 2, .iconst 0, 0, 0, 0, 6, []), (5, 1, .imul, 0, 0, 0, 0, []), (6, 2, .istore 0, 4, 0, 0, 0, []),
  (8, 2, .iload 0, 4, 0, 0, 0, []), (10, 1, .iload 0, 1, 0, 0, 0, []), (11, 2, .iconst 0, 0, 0, 0, 6, []), (13, 1, .imul, 0, 0, 0, 0, []), (14, 1, .aload 0, 0, 0, 0, 0, []), (15, 3, .getfield 0, 7, 11, 2, 0, [183]),
  (18, 1, .iload 0, 1, 0, 0, 0, []), (19, 1, .iaload, 0, 0, 0, 0, []), (20, 1, .iadd, 0, 0, 0, 0, []), (21, 3, .if_icmp .ge 0, 51, 0, 0, 0, []), (24, 1, .aload 0, 0, 0, 0, 0, []), (25, 3, .getfield 0, 7, 13, 2, 0, [187]),
  (28, 2, .iload 0, 4, 0, 0, 0, []), (30, 1, .iaload, 0, 0, 0, 0, []), (31, 1, .iload 0, 2, 0, 0, 0, []), (32, 3, .if_icmp .lt 0, 45, 0, 0, 0, []), (35, 1, .iload 0, 3, 0, 0, 0, []), (36, 1, .aload 0, 0, 0, 0, 0, []),
  (37, 3, .getfield 0, 7, 12, 2, 0, [186]), (40, 2, .iload 0, 4, 0, 0, 0, []), (42, 1, .iaload, 0, 0, 0, 0, []), (43, 1, .iadd, 0, 0, 0, 0, []), (44, 1, .istore 0, 3, 0, 0, 0, []), (45, 3, .iinc 0 0, 4, 0, 0, 1, []),
  (48, 3, .goto 0, 8, 0, 0, 0, []), (51, 1, .iload 0, 3, 0, 0, 0, []), (52, 1, .ireturn, 0, 0, 0, 0, [])
  ]
def mc_X8_init : List mv_E := [
  (0, 1, .aload 0, 0, 0, 0, 0, []), (1, 3, .invokespecial 0, 0, 0, 1, 0, [262, 35, 36]), (4, 1, .aload 0, 0, 0, 0, 0, []), (5, 3, .iconst 0, 0, 0, 0, 144, []), (8, 2, .newarray .int, 100, 0, 0, 0, [53]), (10, 3, .putfield 0, 8, 0, 2, 0, [263]),
  (13, 1, .aload 0, 0, 0, 0, 0, []), (14, 3, .iconst 0, 0, 0, 0, 144, []), (17, 2, .newarray .int, 100, 0, 0, 0, [53]), (19, 3, .putfield 0, 8, 1, 2, 0, [265]), (22, 1, .aload 0, 0, 0, 0, 0, []), (23, 2, .iconst 0, 0, 0, 0, 48, []),
  (25, 2, .newarray .int, 100, 0, 0, 0, [53]), (27, 3, .putfield 0, 8, 2, 2, 0, [267]), (30, 1, .aload 0, 0, 0, 0, 0, []), (31, 3, .iconst 0, 0, 0, 0, 192, []), (34, 2, .newarray .int, 100, 0, 0, 0, [53]), (36, 3, .putfield 0, 8, 3, 2, 0, [268]),
  (39, 1, .aload 0, 0, 0, 0, 0, []), (40, 3, .iconst 0, 0, 0, 0, 192, []), (43, 2, .newarray .int, 100, 0, 0, 0, [53]), (45, 3, .putfield 0, 8, 4, 2, 0, [269]), (48, 1, .aload 0, 0, 0, 0, 0, []), (49, 3, .iconst 0, 0, 0, 0, 192, []),
  (52, 2, .newarray .int, 100, 0, 0, 0, [53]), (54, 3, .putfield 0, 8, 5, 2, 0, [270]), (57, 1, .return_, 0, 0, 0, 0, [])
  ]
def mc_X8_reckonFoot : List mv_E := [
  (0, 1, .iconst 0, 0, 0, 0, 0, []), (1, 1, .istore 0, 2, 0, 0, 0, []), (2, 1, .iload 0, 2, 0, 0, 0, []), (3, 1, .aload 0, 1, 0, 0, 0, []), (4, 3, .getfield 0, 0, 2, 0, 0, [92]), (7, 3, .if_icmp .ge 0, 79, 0, 0, 0, []),
  (10, 1, .iconst 0, 0, 0, 0, 0, []), (11, 1, .istore 0, 3, 0, 0, 0, []), (12, 1, .iload 0, 3, 0, 0, 0, []), (13, 1, .iconst 0, 0, 0, 0, 4, []), (14, 3, .if_icmp .ge 0, 73, 0, 0, 0, []), (17, 1, .aload 0, 1, 0, 0, 0, []),
  (18, 1, .iload 0, 2, 0, 0, 0, []), (19, 1, .iload 0, 3, 0, 0, 0, []), (20, 3, .invokevirtual 0, 5, 3, 0, 1, [467, 468, 469, 20]), (23, 2, .istore 0, 4, 0, 0, 0, []), (25, 1, .aload 0, 0, 0, 0, 0, []), (26, 3, .getfield 0, 8, 3, 2, 0, [268]),
  (29, 1, .iload 0, 2, 0, 0, 0, []), (30, 1, .iconst 0, 0, 0, 0, 4, []), (31, 1, .imul, 0, 0, 0, 0, []), (32, 1, .iload 0, 3, 0, 0, 0, []), (33, 1, .iadd, 0, 0, 0, 0, []), (34, 2, .iload 0, 4, 0, 0, 0, []),
  (36, 1, .iastore, 0, 0, 0, 0, []), (37, 1, .aload 0, 0, 0, 0, 0, []), (38, 3, .getfield 0, 8, 5, 2, 0, [270]), (41, 1, .iload 0, 2, 0, 0, 0, []), (42, 1, .iconst 0, 0, 0, 0, 4, []), (43, 1, .imul, 0, 0, 0, 0, []),
  (44, 1, .iload 0, 3, 0, 0, 0, []), (45, 1, .iadd, 0, 0, 0, 0, []), (46, 2, .iload 0, 4, 0, 0, 0, []), (48, 1, .iconst 0, 0, 0, 0, (-1), []), (49, 3, .if_icmp .ne 0, 56, 0, 0, 0, []), (52, 1, .iconst 0, 0, 0, 0, 0, []),
  (53, 3, .goto 0, 66, 0, 0, 0, []), (56, 2, .iconst 0, 0, 0, 0, 10, []), (58, 1, .aload 0, 1, 0, 0, 0, []), (59, 3, .getfield 0, 0, 7, 2, 0, [109]), (62, 2, .iload 0, 4, 0, 0, 0, []), (64, 1, .iaload, 0, 0, 0, 0, []),
  (65, 1, .iadd, 0, 0, 0, 0, []), (66, 1, .iastore, 0, 0, 0, 0, []), (67, 3, .iinc 0 0, 3, 0, 0, 1, []), (70, 3, .goto 0, 12, 0, 0, 0, []), (73, 3, .iinc 0 0, 2, 0, 0, 1, []), (76, 3, .goto 0, 2, 0, 0, 0, []),
  (79, 1, .iconst 0, 0, 0, 0, 0, []), (80, 1, .istore 0, 2, 0, 0, 0, []), (81, 1, .iload 0, 2, 0, 0, 0, []), (82, 1, .aload 0, 1, 0, 0, 0, []), (83, 3, .getfield 0, 0, 4, 0, 0, [99]), (86, 3, .if_icmp .ge 0, 121, 0, 0, 0, []),
  (89, 1, .aload 0, 0, 0, 0, 0, []), (90, 1, .aload 0, 1, 0, 0, 0, []), (91, 3, .getfield 0, 0, 2, 0, 0, [92]), (94, 1, .aload 0, 1, 0, 0, 0, []), (95, 3, .getfield 0, 0, 11, 2, 0, [122]), (98, 1, .iload 0, 2, 0, 0, 0, []),
  (99, 1, .iaload, 0, 0, 0, 0, []), (100, 1, .aload 0, 0, 0, 0, 0, []), (101, 3, .getfield 0, 8, 5, 2, 0, [270]), (104, 1, .aload 0, 0, 0, 0, 0, []), (105, 3, .getfield 0, 8, 1, 2, 0, [265]), (108, 1, .iload 0, 2, 0, 0, 0, []),
  (109, 2, .iconst 0, 0, 0, 0, 48, []), (111, 1, .imul, 0, 0, 0, 0, []), (112, 3, .invokevirtual 0, 71, 6, 8, 0, [471, 473, 3, 23]), (115, 3, .iinc 0 0, 2, 0, 0, 1, []), (118, 3, .goto 0, 81, 0, 0, 0, []), (121, 1, .return_, 0, 0, 0, 0, [])
  ]
def mc_X8_reckonRoads : List mv_E := [
  (0, 1, .iconst 0, 0, 0, 0, 0, []), (1, 1, .istore 0, 2, 0, 0, 0, []), (2, 1, .iload 0, 2, 0, 0, 0, []), (3, 1, .aload 0, 1, 0, 0, 0, []), (4, 3, .getfield 0, 0, 2, 0, 0, [92]), (7, 1, .iconst 0, 0, 0, 0, 4, []),
  (8, 1, .imul, 0, 0, 0, 0, []), (9, 3, .if_icmp .ge 0, 76, 0, 0, 0, []), (12, 1, .aload 0, 0, 0, 0, 0, []), (13, 3, .getfield 0, 8, 3, 2, 0, [268]), (16, 1, .iload 0, 2, 0, 0, 0, []), (17, 1, .iaload, 0, 0, 0, 0, []),
  (18, 1, .istore 0, 3, 0, 0, 0, []), (19, 1, .aload 0, 1, 0, 0, 0, []), (20, 3, .getfield 0, 0, 10, 2, 0, [120]), (23, 1, .iload 0, 2, 0, 0, 0, []), (24, 1, .iaload, 0, 0, 0, 0, []), (25, 1, .iconst 0, 0, 0, 0, 4, []),
  (26, 3, .if_icmp .ne 0, 33, 0, 0, 0, []), (29, 1, .iconst 0, 0, 0, 0, 0, []), (30, 3, .goto 0, 39, 0, 0, 0, []), (33, 1, .aload 0, 1, 0, 0, 0, []), (34, 3, .getfield 0, 0, 10, 2, 0, [120]), (37, 1, .iload 0, 2, 0, 0, 0, []),
  (38, 1, .iaload, 0, 0, 0, 0, []), (39, 2, .istore 0, 4, 0, 0, 0, []), (41, 1, .aload 0, 0, 0, 0, 0, []), (42, 3, .getfield 0, 8, 4, 2, 0, [269]), (45, 1, .iload 0, 2, 0, 0, 0, []), (46, 1, .iload 0, 3, 0, 0, 0, []),
  (47, 1, .iconst 0, 0, 0, 0, (-1), []), (48, 3, .if_icmp .ne 0, 55, 0, 0, 0, []), (51, 1, .iconst 0, 0, 0, 0, 0, []), (52, 3, .goto 0, 69, 0, 0, 0, []), (55, 1, .aload 0, 1, 0, 0, 0, []), (56, 3, .getfield 0, 0, 12, 2, 0, [125]),
  (59, 2, .iload 0, 4, 0, 0, 0, []), (61, 1, .iaload, 0, 0, 0, 0, []), (62, 1, .aload 0, 1, 0, 0, 0, []), (63, 3, .getfield 0, 0, 7, 2, 0, [109]), (66, 1, .iload 0, 3, 0, 0, 0, []), (67, 1, .iaload, 0, 0, 0, 0, []),
  (68, 1, .iadd, 0, 0, 0, 0, []), (69, 1, .iastore, 0, 0, 0, 0, []), (70, 3, .iinc 0 0, 2, 0, 0, 1, []), (73, 3, .goto 0, 2, 0, 0, 0, []), (76, 1, .iconst 0, 0, 0, 0, 0, []), (77, 1, .istore 0, 2, 0, 0, 0, []),
  (78, 1, .iload 0, 2, 0, 0, 0, []), (79, 1, .aload 0, 1, 0, 0, 0, []), (80, 3, .getfield 0, 0, 4, 0, 0, [99]), (83, 3, .if_icmp .ge 0, 118, 0, 0, 0, []), (86, 1, .aload 0, 0, 0, 0, 0, []), (87, 1, .aload 0, 1, 0, 0, 0, []),
  (88, 3, .getfield 0, 0, 2, 0, 0, [92]), (91, 1, .aload 0, 1, 0, 0, 0, []), (92, 3, .getfield 0, 0, 11, 2, 0, [122]), (95, 1, .iload 0, 2, 0, 0, 0, []), (96, 1, .iaload, 0, 0, 0, 0, []), (97, 1, .aload 0, 0, 0, 0, 0, []),
  (98, 3, .getfield 0, 8, 4, 2, 0, [269]), (101, 1, .aload 0, 0, 0, 0, 0, []), (102, 3, .getfield 0, 8, 0, 2, 0, [263]), (105, 1, .iload 0, 2, 0, 0, 0, []), (106, 2, .iconst 0, 0, 0, 0, 48, []), (108, 1, .imul, 0, 0, 0, 0, []),
  (109, 3, .invokevirtual 0, 71, 6, 8, 0, [471, 473, 3, 23]), (112, 3, .iinc 0 0, 2, 0, 0, 1, []), (115, 3, .goto 0, 78, 0, 0, 0, []), (118, 1, .return_, 0, 0, 0, 0, [])
  ]
def mc_X8_search : List mv_E := [
  (0, 1, .iconst 0, 0, 0, 0, 0, []), (1, 2, .istore 0, 6, 0, 0, 0, []), (3, 2, .iload 0, 6, 0, 0, 0, []), (5, 1, .iload 0, 1, 0, 0, 0, []), (6, 3, .if_icmp .ge 0, 25, 0, 0, 0, []), (9, 2, .aload 0, 4, 0, 0, 0, []),
  (11, 2, .iload 0, 5, 0, 0, 0, []), (13, 2, .iload 0, 6, 0, 0, 0, []), (15, 1, .iadd, 0, 0, 0, 0, []), (16, 2, .iconst 0, 0, 0, 0, 268435456, [475]), (18, 1, .iastore, 0, 0, 0, 0, []), (19, 3, .iinc 0 0, 6, 0, 0, 1, []),
  (22, 3, .goto 0, 3, 0, 0, 0, []), (25, 2, .aload 0, 4, 0, 0, 0, []), (27, 2, .iload 0, 5, 0, 0, 0, []), (29, 1, .iload 0, 2, 0, 0, 0, []), (30, 1, .iadd, 0, 0, 0, 0, []), (31, 1, .iconst 0, 0, 0, 0, 0, []),
  (32, 1, .iastore, 0, 0, 0, 0, []), (33, 1, .iconst 0, 0, 0, 0, 1, []), (34, 2, .istore 0, 6, 0, 0, 0, []), (36, 1, .iconst 0, 0, 0, 0, 0, []), (37, 2, .istore 0, 7, 0, 0, 0, []), (39, 2, .iload 0, 7, 0, 0, 0, []),
  (41, 2, .iconst 0, 0, 0, 0, 48, []), (43, 3, .if_icmp .ge 0, 134, 0, 0, 0, []), (46, 2, .iload 0, 6, 0, 0, 0, []), (48, 3, .ifCond .eq 0, 134, 0, 0, 0, []), (51, 1, .iconst 0, 0, 0, 0, 0, []), (52, 2, .istore 0, 6, 0, 0, 0, []),
  (54, 1, .iconst 0, 0, 0, 0, 0, []), (55, 2, .istore 0, 8, 0, 0, 0, []), (57, 2, .iload 0, 8, 0, 0, 0, []), (59, 1, .iload 0, 1, 0, 0, 0, []), (60, 3, .if_icmp .ge 0, 128, 0, 0, 0, []), (63, 2, .iload 0, 7, 0, 0, 0, []),
  (65, 1, .iconst 0, 0, 0, 0, 1, []), (66, 1, .iand, 0, 0, 0, 0, []), (67, 3, .ifCond .ne 0, 75, 0, 0, 0, []), (70, 2, .iload 0, 8, 0, 0, 0, []), (72, 3, .goto 0, 81, 0, 0, 0, []), (75, 1, .iload 0, 1, 0, 0, 0, []),
  (76, 1, .iconst 0, 0, 0, 0, 1, []), (77, 1, .isub, 0, 0, 0, 0, []), (78, 2, .iload 0, 8, 0, 0, 0, []), (80, 1, .isub, 0, 0, 0, 0, []), (81, 2, .istore 0, 9, 0, 0, 0, []), (83, 1, .aload 0, 0, 0, 0, 0, []),
  (84, 2, .iload 0, 9, 0, 0, 0, []), (86, 1, .aload 0, 3, 0, 0, 0, []), (87, 2, .aload 0, 4, 0, 0, 0, []), (89, 2, .iload 0, 5, 0, 0, 0, []), (91, 3, .invokevirtual 0, 72, 5, 8, 1, [476, 478, 4, 23]), (94, 2, .istore 0, 10, 0, 0, 0, []),
  (96, 2, .iload 0, 10, 0, 0, 0, []), (98, 2, .aload 0, 4, 0, 0, 0, []), (100, 2, .iload 0, 5, 0, 0, 0, []), (102, 2, .iload 0, 9, 0, 0, 0, []), (104, 1, .iadd, 0, 0, 0, 0, []), (105, 1, .iaload, 0, 0, 0, 0, []),
  (106, 3, .if_icmp .ge 0, 122, 0, 0, 0, []), (109, 2, .aload 0, 4, 0, 0, 0, []), (111, 2, .iload 0, 5, 0, 0, 0, []), (113, 2, .iload 0, 9, 0, 0, 0, []), (115, 1, .iadd, 0, 0, 0, 0, []), (116, 2, .iload 0, 10, 0, 0, 0, []),
  (118, 1, .iastore, 0, 0, 0, 0, []), (119, 1, .iconst 0, 0, 0, 0, 1, []), (120, 2, .istore 0, 6, 0, 0, 0, []), (122, 3, .iinc 0 0, 8, 0, 0, 1, []), (125, 3, .goto 0, 57, 0, 0, 0, []), (128, 3, .iinc 0 0, 7, 0, 0, 1, []),
  (131, 3, .goto 0, 39, 0, 0, 0, []), (134, 1, .return_, 0, 0, 0, 0, [])
  ]
def mc_X8_leastFrom : List mv_E := [
  (0, 2, .iconst 0, 0, 0, 0, 268435456, [475]), (2, 2, .istore 0, 5, 0, 0, 0, []), (4, 1, .iload 0, 1, 0, 0, 0, []), (5, 1, .iconst 0, 0, 0, 0, 4, []), (6, 1, .imul, 0, 0, 0, 0, []), (7, 2, .istore 0, 6, 0, 0, 0, []),
  (9, 2, .iload 0, 6, 0, 0, 0, []), (11, 1, .iload 0, 1, 0, 0, 0, []), (12, 1, .iconst 0, 0, 0, 0, 4, []), (13, 1, .imul, 0, 0, 0, 0, []), (14, 1, .iconst 0, 0, 0, 0, 4, []), (15, 1, .iadd, 0, 0, 0, 0, []),
  (16, 3, .if_icmp .ge 0, 71, 0, 0, 0, []), (19, 1, .aload 0, 0, 0, 0, 0, []), (20, 3, .getfield 0, 8, 3, 2, 0, [268]), (23, 2, .iload 0, 6, 0, 0, 0, []), (25, 1, .iaload, 0, 0, 0, 0, []), (26, 2, .istore 0, 7, 0, 0, 0, []),
  (28, 2, .iload 0, 7, 0, 0, 0, []), (30, 1, .iconst 0, 0, 0, 0, (-1), []), (31, 3, .if_icmp .eq 0, 65, 0, 0, 0, []), (34, 1, .aload 0, 2, 0, 0, 0, []), (35, 2, .iload 0, 6, 0, 0, 0, []), (37, 1, .iaload, 0, 0, 0, 0, []),
  (38, 1, .aload 0, 3, 0, 0, 0, []), (39, 2, .iload 0, 4, 0, 0, 0, []), (41, 2, .iload 0, 7, 0, 0, 0, []), (43, 1, .iadd, 0, 0, 0, 0, []), (44, 1, .iaload, 0, 0, 0, 0, []), (45, 1, .iadd, 0, 0, 0, 0, []),
  (46, 2, .iload 0, 5, 0, 0, 0, []), (48, 3, .if_icmp .ge 0, 65, 0, 0, 0, []), (51, 1, .aload 0, 2, 0, 0, 0, []), (52, 2, .iload 0, 6, 0, 0, 0, []), (54, 1, .iaload, 0, 0, 0, 0, []), (55, 1, .aload 0, 3, 0, 0, 0, []),
  (56, 2, .iload 0, 4, 0, 0, 0, []), (58, 2, .iload 0, 7, 0, 0, 0, []), (60, 1, .iadd, 0, 0, 0, 0, []), (61, 1, .iaload, 0, 0, 0, 0, []), (62, 1, .iadd, 0, 0, 0, 0, []), (63, 2, .istore 0, 5, 0, 0, 0, []),
  (65, 3, .iinc 0 0, 6, 0, 0, 1, []), (68, 3, .goto 0, 9, 0, 0, 0, []), (71, 2, .iload 0, 5, 0, 0, 0, []), (73, 1, .ireturn, 0, 0, 0, 0, [])
  ]
def mc_X9_init : List mv_E := [
  (0, 1, .aload 0, 0, 0, 0, 0, []), (1, 3, .invokespecial 0, 0, 0, 1, 0, [341, 35, 36]), (4, 1, .aload 0, 0, 0, 0, 0, []), (5, 2, .iconst 0, 0, 0, 0, 48, []), (7, 2, .newarray .long, 101, 0, 0, 0, [314]), (9, 3, .putfield 0, 9, 0, 2, 0, [342]),
  (12, 1, .return_, 0, 0, 0, 0, [])
  ]
def mc_X10_init : List mv_E := [
  (0, 1, .aload 0, 0, 0, 0, 0, []), (1, 3, .invokespecial 0, 0, 0, 1, 0, [79, 35, 36]), (4, 1, .aload 0, 0, 0, 0, 0, []), (5, 3, .new 0, 0, 13, 0, 0, [80, 81, 20]), (8, 1, .dup, 0, 0, 0, 0, []), (9, 3, .invokespecial 0, 0, 1, 10, 439, [82, 83, 20]),
  (12, 3, .putfield 0, 10, 0, 2, 0, [240]), (15, 1, .aload 0, 0, 0, 0, 0, []), (16, 3, .new 0, 7, 14, 0, 0, [153, 154, 21]), (19, 1, .dup, 0, 0, 0, 0, []), (20, 3, .invokespecial 0, 57, 1, 14, 300, [155, 156, 21]), (23, 3, .putfield 0, 10, 1, 2, 0, [244]),
  (26, 1, .aload 0, 0, 0, 0, 0, []), (27, 3, .new 0, 2, 5, 0, 0, [217, 218, 22]), (30, 1, .dup, 0, 0, 0, 0, []), (31, 3, .invokespecial 0, 31, 1, 6, 32, [219, 220, 22]), (34, 3, .putfield 0, 10, 2, 2, 0, [248]), (37, 1, .return_, 0, 0, 0, 0, [])
  ]
def mc_X10_takeFrom : List mv_E := [
  (0, 1, .aload 0, 0, 0, 0, 0, []), (1, 3, .getfield 0, 10, 0, 2, 0, [240]), (4, 1, .aload 0, 1, 0, 0, 0, []), (5, 3, .getfield 0, 10, 0, 2, 0, [240]), (8, 3, .invokevirtual 0, 3, 2, 0, 0, [656, 657, 658, 20]), (11, 1, .aload 0, 0, 0, 0, 0, []),
  (12, 3, .getfield 0, 10, 1, 2, 0, [244]), (15, 1, .aload 0, 1, 0, 0, 0, []), (16, 3, .getfield 0, 10, 1, 2, 0, [244]), (19, 3, .invokevirtual 0, 60, 2, 7, 0, [661, 662, 663, 21]), (22, 1, .aload 0, 0, 0, 0, 0, []), (23, 3, .getfield 0, 10, 2, 2, 0, [248]),
  (26, 1, .aload 0, 1, 0, 0, 0, []), (27, 3, .getfield 0, 10, 2, 2, 0, [248]), (30, 3, .invokevirtual 0, 33, 2, 2, 0, [666, 667, 668, 22]), (33, 1, .return_, 0, 0, 0, 0, [])
  ]
def mc_X11_init : List mv_E := [
  (0, 1, .aload 0, 0, 0, 0, 0, []), (1, 3, .invokespecial 0, 0, 0, 1, 0, [34, 35, 36]), (4, 1, .aload 0, 0, 0, 0, 0, []), (5, 3, .new 0, 5, 2, 0, 0, [37, 38, 16]), (8, 1, .dup, 0, 0, 0, 0, []), (9, 3, .invokespecial 0, 45, 1, 3, 60, [39, 40, 16]),
  (12, 3, .putfield 0, 11, 0, 2, 0, [380]), (15, 1, .aload 0, 0, 0, 0, 0, []), (16, 3, .new 0, 4, 2, 0, 0, [54, 55, 17]), (19, 1, .dup, 0, 0, 0, 0, []), (20, 3, .invokespecial 0, 42, 1, 3, 48, [56, 57, 17]), (23, 3, .putfield 0, 11, 1, 2, 0, [381]),
  (26, 1, .aload 0, 0, 0, 0, 0, []), (27, 3, .new 0, 1, 8, 0, 0, [68, 69, 18]), (30, 1, .dup, 0, 0, 0, 0, []), (31, 3, .invokespecial 0, 11, 1, 39, 2636, [70, 71, 18]), (34, 3, .putfield 0, 11, 2, 2, 0, [382]), (37, 1, .aload 0, 0, 0, 0, 0, []),
  (38, 1, .aload 0, 0, 0, 0, 0, []), (39, 3, .getfield 0, 11, 2, 2, 0, [382]), (42, 3, .getfield 0, 1, 0, 2, 0, [285]), (45, 3, .putfield 0, 11, 3, 2, 0, [383]), (48, 1, .aload 0, 0, 0, 0, 0, []), (49, 1, .aload 0, 0, 0, 0, 0, []),
  (50, 3, .getfield 0, 11, 3, 2, 0, [383]), (53, 3, .getfield 0, 10, 0, 2, 0, [242]), (56, 3, .putfield 0, 11, 4, 2, 0, [384]), (59, 1, .aload 0, 0, 0, 0, 0, []), (60, 1, .aload 0, 0, 0, 0, 0, []), (61, 3, .getfield 0, 11, 3, 2, 0, [383]),
  (64, 3, .getfield 0, 10, 1, 2, 0, [246]), (67, 3, .putfield 0, 11, 5, 2, 0, [385]), (70, 1, .aload 0, 0, 0, 0, 0, []), (71, 1, .aload 0, 0, 0, 0, 0, []), (72, 3, .getfield 0, 11, 3, 2, 0, [383]), (75, 3, .getfield 0, 10, 2, 2, 0, [249]),
  (78, 3, .putfield 0, 11, 6, 2, 0, [386]), (81, 1, .aload 0, 0, 0, 0, 0, []), (82, 3, .new 0, 10, 3, 0, 0, [315, 75, 19]), (85, 1, .dup, 0, 0, 0, 0, []), (86, 3, .invokespecial 0, 83, 1, 29, 803, [316, 77, 19]), (89, 3, .putfield 0, 11, 7, 2, 0, [387]),
  (92, 1, .aload 0, 0, 0, 0, 0, []), (93, 1, .iconst 0, 0, 0, 0, 0, []), (94, 3, .putfield 0, 11, 8, 1, 0, [388]), (97, 1, .aload 0, 0, 0, 0, 0, []), (98, 3, .new 0, 6, 4, 0, 0, [317, 318, 24]), (101, 1, .dup, 0, 0, 0, 0, []),
  (102, 3, .invokespecial 0, 49, 1, 6, 978, [319, 320, 24]), (105, 3, .putfield 0, 11, 9, 2, 0, [389]), (108, 1, .aload 0, 0, 0, 0, 0, []), (109, 3, .new 0, 9, 1, 0, 0, [336, 337, 25]), (112, 1, .dup, 0, 0, 0, 0, []), (113, 3, .invokespecial 0, 73, 1, 3, 48, [338, 339, 25]),
  (116, 3, .putfield 0, 11, 10, 2, 0, [390]), (119, 1, .aload 0, 0, 0, 0, 0, []), (120, 3, .new 0, 3, 9, 0, 0, [346, 347, 26]), (123, 1, .dup, 0, 0, 0, 0, []), (124, 3, .invokespecial 0, 34, 1, 9, 127, [348, 349, 26]), (127, 3, .putfield 0, 11, 11, 2, 0, [391]),
  (130, 1, .aload 0, 0, 0, 0, 0, []), (131, 2, .iconst 0, 0, 0, 0, 7, []), (133, 2, .newarray .int, 100, 0, 0, 0, [53]), (135, 3, .putfield 0, 11, 12, 2, 0, [392]), (138, 1, .return_, 0, 0, 0, 0, [])
  ]
def mc_X11_feed : List mv_E := [
  (0, 1, .iload 0, 1, 0, 0, 0, []), (1, 1, .iconst 0, 0, 0, 0, 1, []), (2, 3, .if_icmp .ge 0, 12, 0, 0, 0, []), (5, 1, .aload 0, 0, 0, 0, 0, []), (6, 2, .iconst 0, 0, 0, 0, (-4), []), (8, 3, .invokevirtual 0, 126, 2, 11, 1, [428, 430, 0, 15]),
  (11, 1, .ireturn, 0, 0, 0, 0, []), (12, 1, .iload 0, 1, 0, 0, 0, []), (13, 2, .iconst 0, 0, 0, 0, 8, []), (15, 3, .if_icmp .gt 0, 32, 0, 0, 0, []), (18, 1, .aload 0, 0, 0, 0, 0, []), (19, 3, .getfield 0, 11, 0, 2, 0, [380]),
  (22, 3, .getfield 0, 5, 1, 0, 0, [47]), (25, 1, .iload 0, 1, 0, 0, 0, []), (26, 1, .iadd, 0, 0, 0, 0, []), (27, 2, .iconst 0, 0, 0, 0, 60, []), (29, 3, .if_icmp .le 0, 39, 0, 0, 0, []), (32, 1, .aload 0, 0, 0, 0, 0, []),
  (33, 2, .iconst 0, 0, 0, 0, (-6), []), (35, 3, .invokevirtual 0, 126, 2, 11, 1, [428, 430, 0, 15]), (38, 1, .ireturn, 0, 0, 0, 0, []), (39, 1, .aload 0, 0, 0, 0, 0, []), (40, 3, .getfield 0, 11, 0, 2, 0, [380]), (43, 1, .iload 0, 1, 0, 0, 0, []),
  (44, 1, .lload 0, 2, 0, 0, 0, []), (45, 3, .invokevirtual 0, 46, 3, 5, 0, [708, 709, 710, 16]), (48, 1, .aload 0, 0, 0, 0, 0, []), (49, 3, .getfield 0, 11, 0, 2, 0, [380]), (52, 3, .getfield 0, 5, 1, 0, 0, [47]), (55, 1, .ireturn, 0, 0, 0, 0, [])
  ]
def mc_X11_read : List mv_E := [
  (0, 1, .aload 0, 0, 0, 0, 0, []), (1, 3, .getfield 0, 11, 0, 2, 0, [380]), (4, 3, .invokevirtual 0, 47, 1, 5, 1, [718, 719, 720, 16]), (7, 1, .istore 0, 1, 0, 0, 0, []), (8, 1, .iload 0, 1, 0, 0, 0, []), (9, 1, .iconst 0, 0, 0, 0, (-1), []),
  (10, 3, .if_icmp .eq 0, 26, 0, 0, 0, []), (13, 1, .aload 0, 0, 0, 0, 0, []), (14, 3, .getfield 0, 11, 0, 2, 0, [380]), (17, 1, .iconst 0, 0, 0, 0, 0, []), (18, 3, .putfield 0, 5, 1, 0, 0, [47]), (21, 2, .iconst 0, 0, 0, 0, (-20), []),
  (23, 1, .iload 0, 1, 0, 0, 0, []), (24, 1, .isub, 0, 0, 0, 0, []), (25, 1, .ireturn, 0, 0, 0, 0, []), (26, 1, .aload 0, 0, 0, 0, 0, []), (27, 3, .getfield 0, 11, 4, 2, 0, [384]), (30, 1, .aload 0, 0, 0, 0, 0, []),
  (31, 3, .getfield 0, 11, 0, 2, 0, [380]), (34, 3, .invokevirtual 0, 1, 2, 0, 0, [725, 726, 727, 20]), (37, 1, .aload 0, 0, 0, 0, 0, []), (38, 3, .getfield 0, 11, 6, 2, 0, [386]), (41, 1, .iconst 0, 0, 0, 0, 0, []), (42, 3, .putfield 0, 2, 0, 0, 0, [224]),
  (45, 1, .aload 0, 0, 0, 0, 0, []), (46, 3, .getfield 0, 11, 0, 2, 0, [380]), (49, 1, .iconst 0, 0, 0, 0, 0, []), (50, 3, .putfield 0, 5, 1, 0, 0, [47]), (53, 1, .aload 0, 0, 0, 0, 0, []), (54, 3, .getfield 0, 11, 2, 2, 0, [382]),
  (57, 3, .invokevirtual 0, 12, 1, 1, 0, [675, 676, 677, 18]), (60, 1, .aload 0, 0, 0, 0, 0, []), (61, 3, .getfield 0, 11, 4, 2, 0, [384]), (64, 3, .getfield 0, 0, 2, 0, 0, [94]), (67, 1, .ireturn, 0, 0, 0, 0, [])
  ]
def mc_X11_acre : List mv_E := [
  (0, 1, .aload 0, 0, 0, 0, 0, []), (1, 3, .getfield 0, 11, 4, 2, 0, [384]), (4, 1, .iload 0, 1, 0, 0, 0, []), (5, 3, .invokevirtual 0, 4, 2, 0, 1, [424, 425, 426, 20]), (8, 1, .istore 0, 3, 0, 0, 0, []), (9, 1, .iload 0, 3, 0, 0, 0, []),
  (10, 1, .iconst 0, 0, 0, 0, (-1), []), (11, 3, .if_icmp .ne 0, 20, 0, 0, 0, []), (14, 1, .aload 0, 0, 0, 0, 0, []), (15, 1, .iconst 0, 0, 0, 0, (-1), []), (16, 3, .invokevirtual 0, 126, 2, 11, 1, [428, 430, 0, 15]), (19, 1, .ireturn, 0, 0, 0, 0, []),
  (20, 1, .iload 0, 2, 0, 0, 0, []), (21, 35, .tableswitch 0 0 0 #[], 122, 0, 0, 0, [56, 66, 76, 86, 113]), (56, 1, .aload 0, 0, 0, 0, 0, []), (57, 3, .getfield 0, 11, 4, 2, 0, [384]), (60, 3, .getfield 0, 0, 6, 2, 0, [106]), (63, 1, .iload 0, 3, 0, 0, 0, []),
  (64, 1, .iaload, 0, 0, 0, 0, []), (65, 1, .ireturn, 0, 0, 0, 0, []), (66, 1, .aload 0, 0, 0, 0, 0, []), (67, 3, .getfield 0, 11, 4, 2, 0, [384]), (70, 3, .getfield 0, 0, 7, 2, 0, [110]), (73, 1, .iload 0, 3, 0, 0, 0, []),
  (74, 1, .iaload, 0, 0, 0, 0, []), (75, 1, .ireturn, 0, 0, 0, 0, []), (76, 1, .aload 0, 0, 0, 0, 0, []), (77, 3, .getfield 0, 11, 4, 2, 0, [384]), (80, 3, .getfield 0, 0, 9, 2, 0, [117]), (83, 1, .iload 0, 3, 0, 0, 0, []),
  (84, 1, .iaload, 0, 0, 0, 0, []), (85, 1, .ireturn, 0, 0, 0, 0, []), (86, 1, .aload 0, 0, 0, 0, 0, []), (87, 3, .getfield 0, 11, 4, 2, 0, [384]), (90, 3, .getfield 0, 0, 8, 2, 0, [112]), (93, 1, .iload 0, 3, 0, 0, 0, []),
  (94, 1, .iaload, 0, 0, 0, 0, []), (95, 3, .ifCond .ge 0, 103, 0, 0, 0, []), (98, 2, .iconst 0, 0, 0, 0, (-9), []), (100, 3, .goto 0, 112, 0, 0, 0, []), (103, 1, .aload 0, 0, 0, 0, 0, []), (104, 3, .getfield 0, 11, 4, 2, 0, [384]),
  (107, 3, .getfield 0, 0, 8, 2, 0, [112]), (110, 1, .iload 0, 3, 0, 0, 0, []), (111, 1, .iaload, 0, 0, 0, 0, []), (112, 1, .ireturn, 0, 0, 0, 0, []), (113, 1, .aload 0, 0, 0, 0, 0, []), (114, 3, .getfield 0, 11, 4, 2, 0, [384]),
  (117, 1, .iload 0, 3, 0, 0, 0, []), (118, 3, .invokevirtual 0, 9, 2, 0, 1, [432, 433, 434, 20]), (121, 1, .ireturn, 0, 0, 0, 0, []), (122, 1, .aload 0, 0, 0, 0, 0, []), (123, 2, .iconst 0, 0, 0, 0, (-2), []), (125, 3, .invokevirtual 0, 126, 2, 11, 1, [428, 430, 0, 15]),
  (128, 1, .ireturn, 0, 0, 0, 0, [])
  ]
def mc_X11_road : List mv_E := [
  (0, 1, .aload 0, 0, 0, 0, 0, []), (1, 3, .getfield 0, 11, 4, 2, 0, [384]), (4, 1, .iload 0, 1, 0, 0, 0, []), (5, 3, .invokevirtual 0, 4, 2, 0, 1, [424, 425, 426, 20]), (8, 2, .istore 0, 4, 0, 0, 0, []), (10, 1, .aload 0, 0, 0, 0, 0, []),
  (11, 3, .getfield 0, 11, 4, 2, 0, [384]), (14, 2, .iload 0, 4, 0, 0, 0, []), (16, 1, .aload 0, 0, 0, 0, 0, []), (17, 3, .getfield 0, 11, 4, 2, 0, [384]), (20, 1, .iload 0, 2, 0, 0, 0, []), (21, 3, .invokevirtual 0, 4, 2, 0, 1, [424, 425, 426, 20]),
  (24, 3, .invokevirtual 0, 6, 3, 0, 1, [737, 738, 739, 20]), (27, 2, .istore 0, 5, 0, 0, 0, []), (29, 2, .iload 0, 5, 0, 0, 0, []), (31, 1, .iconst 0, 0, 0, 0, (-1), []), (32, 3, .if_icmp .ne 0, 41, 0, 0, 0, []), (35, 1, .aload 0, 0, 0, 0, 0, []),
  (36, 1, .iconst 0, 0, 0, 0, (-1), []), (37, 3, .invokevirtual 0, 126, 2, 11, 1, [428, 430, 0, 15]), (40, 1, .ireturn, 0, 0, 0, 0, []), (41, 1, .iload 0, 3, 0, 0, 0, []), (42, 3, .ifCond .lt 0, 50, 0, 0, 0, []), (45, 1, .iload 0, 3, 0, 0, 0, []),
  (46, 1, .iconst 0, 0, 0, 0, 3, []), (47, 3, .if_icmp .le 0, 57, 0, 0, 0, []), (50, 1, .aload 0, 0, 0, 0, 0, []), (51, 2, .iconst 0, 0, 0, 0, (-2), []), (53, 3, .invokevirtual 0, 126, 2, 11, 1, [428, 430, 0, 15]), (56, 1, .ireturn, 0, 0, 0, 0, []),
  (57, 1, .aload 0, 0, 0, 0, 0, []), (58, 3, .getfield 0, 11, 4, 2, 0, [384]), (61, 2, .iload 0, 4, 0, 0, 0, []), (63, 2, .iload 0, 5, 0, 0, 0, []), (65, 3, .invokevirtual 0, 7, 3, 0, 1, [742, 743, 744, 20]), (68, 2, .istore 0, 6, 0, 0, 0, []),
  (70, 2, .iload 0, 6, 0, 0, 0, []), (72, 3, .ifCond .ne 0, 98, 0, 0, 0, []), (75, 1, .iload 0, 3, 0, 0, 0, []), (76, 3, .ifCond .eq 0, 98, 0, 0, 0, []), (79, 1, .aload 0, 0, 0, 0, 0, []), (80, 3, .getfield 0, 11, 4, 2, 0, [384]),
  (83, 3, .getfield 0, 0, 3, 0, 0, [97]), (86, 2, .iconst 0, 0, 0, 0, 12, []), (88, 3, .if_icmp .lt 0, 98, 0, 0, 0, []), (91, 1, .aload 0, 0, 0, 0, 0, []), (92, 2, .iconst 0, 0, 0, 0, (-6), []), (94, 3, .invokevirtual 0, 126, 2, 11, 1, [428, 430, 0, 15]),
  (97, 1, .ireturn, 0, 0, 0, 0, []), (98, 1, .aload 0, 0, 0, 0, 0, []), (99, 3, .getfield 0, 11, 4, 2, 0, [384]), (102, 1, .dup, 0, 0, 0, 0, []), (103, 3, .getfield 0, 0, 3, 0, 0, [97]), (106, 1, .iload 0, 3, 0, 0, 0, []),
  (107, 3, .ifCond .ne 0, 114, 0, 0, 0, []), (110, 1, .iconst 0, 0, 0, 0, 0, []), (111, 3, .goto 0, 115, 0, 0, 0, []), (114, 1, .iconst 0, 0, 0, 0, 1, []), (115, 2, .iload 0, 6, 0, 0, 0, []), (117, 3, .ifCond .ne 0, 124, 0, 0, 0, []),
  (120, 1, .iconst 0, 0, 0, 0, 0, []), (121, 3, .goto 0, 125, 0, 0, 0, []), (124, 1, .iconst 0, 0, 0, 0, 1, []), (125, 1, .isub, 0, 0, 0, 0, []), (126, 1, .iadd, 0, 0, 0, 0, []), (127, 3, .putfield 0, 0, 3, 0, 0, [97]),
  (130, 1, .aload 0, 0, 0, 0, 0, []), (131, 3, .getfield 0, 11, 4, 2, 0, [384]), (134, 2, .iload 0, 4, 0, 0, 0, []), (136, 2, .iload 0, 5, 0, 0, 0, []), (138, 1, .iload 0, 3, 0, 0, 0, []), (139, 3, .invokevirtual 0, 8, 4, 0, 0, [746, 747, 748, 20]),
  (142, 1, .aload 0, 0, 0, 0, 0, []), (143, 3, .getfield 0, 11, 2, 2, 0, [382]), (146, 3, .invokevirtual 0, 12, 1, 1, 0, [675, 676, 677, 18]), (149, 2, .iload 0, 6, 0, 0, 0, []), (151, 1, .ireturn, 0, 0, 0, 0, [])
  ]
def mc_X11_toll : List mv_E := [
  (0, 1, .aload 0, 0, 0, 0, 0, []), (1, 3, .getfield 0, 11, 4, 2, 0, [384]), (4, 1, .iload 0, 1, 0, 0, 0, []), (5, 3, .invokevirtual 0, 4, 2, 0, 1, [424, 425, 426, 20]), (8, 1, .istore 0, 3, 0, 0, 0, []), (9, 1, .iload 0, 3, 0, 0, 0, []),
  (10, 1, .iconst 0, 0, 0, 0, (-1), []), (11, 3, .if_icmp .ne 0, 20, 0, 0, 0, []), (14, 1, .aload 0, 0, 0, 0, 0, []), (15, 1, .iconst 0, 0, 0, 0, (-1), []), (16, 3, .invokevirtual 0, 126, 2, 11, 1, [428, 430, 0, 15]), (19, 1, .ireturn, 0, 0, 0, 0, []),
  (20, 1, .iload 0, 2, 0, 0, 0, []), (21, 1, .iconst 0, 0, 0, 0, 0, []), (22, 2, .iconst 0, 0, 0, 0, 99, []), (24, 3, .invokestatic 0, 128, 3, 1, 1, [444, 445, 15]), (27, 2, .istore 0, 4, 0, 0, 0, []), (29, 2, .iload 0, 4, 0, 0, 0, []),
  (31, 3, .ifCond .eq 0, 41, 0, 0, 0, []), (34, 1, .aload 0, 0, 0, 0, 0, []), (35, 2, .iload 0, 4, 0, 0, 0, []), (37, 3, .invokevirtual 0, 126, 2, 11, 1, [428, 430, 0, 15]), (40, 1, .ireturn, 0, 0, 0, 0, []), (41, 1, .aload 0, 0, 0, 0, 0, []),
  (42, 3, .getfield 0, 11, 4, 2, 0, [384]), (45, 3, .getfield 0, 0, 7, 2, 0, [110]), (48, 1, .iload 0, 3, 0, 0, 0, []), (49, 1, .iaload, 0, 0, 0, 0, []), (50, 2, .istore 0, 5, 0, 0, 0, []), (52, 1, .aload 0, 0, 0, 0, 0, []),
  (53, 3, .getfield 0, 11, 4, 2, 0, [384]), (56, 3, .getfield 0, 0, 7, 2, 0, [110]), (59, 1, .iload 0, 3, 0, 0, 0, []), (60, 1, .iload 0, 2, 0, 0, 0, []), (61, 1, .iastore, 0, 0, 0, 0, []), (62, 1, .aload 0, 0, 0, 0, 0, []),
  (63, 3, .getfield 0, 11, 2, 2, 0, [382]), (66, 3, .invokevirtual 0, 12, 1, 1, 0, [675, 676, 677, 18]), (69, 2, .iload 0, 5, 0, 0, 0, []), (71, 1, .ireturn, 0, 0, 0, 0, [])
  ]
def mc_X11_market : List mv_E := [
  (0, 1, .aload 0, 0, 0, 0, 0, []), (1, 3, .getfield 0, 11, 4, 2, 0, [384]), (4, 1, .iload 0, 1, 0, 0, 0, []), (5, 3, .invokevirtual 0, 4, 2, 0, 1, [424, 425, 426, 20]), (8, 1, .istore 0, 2, 0, 0, 0, []), (9, 1, .iload 0, 2, 0, 0, 0, []),
  (10, 1, .iconst 0, 0, 0, 0, (-1), []), (11, 3, .if_icmp .ne 0, 20, 0, 0, 0, []), (14, 1, .aload 0, 0, 0, 0, 0, []), (15, 1, .iconst 0, 0, 0, 0, (-1), []), (16, 3, .invokevirtual 0, 126, 2, 11, 1, [428, 430, 0, 15]), (19, 1, .ireturn, 0, 0, 0, 0, []),
  (20, 1, .aload 0, 0, 0, 0, 0, []), (21, 3, .getfield 0, 11, 4, 2, 0, [384]), (24, 1, .iload 0, 2, 0, 0, 0, []), (25, 3, .invokevirtual 0, 9, 2, 0, 1, [432, 433, 434, 20]), (28, 2, .iconst 0, 0, 0, 0, (-9), []), (30, 3, .if_icmp .eq 0, 40, 0, 0, 0, []),
  (33, 1, .aload 0, 0, 0, 0, 0, []), (34, 2, .iconst 0, 0, 0, 0, (-3), []), (36, 3, .invokevirtual 0, 126, 2, 11, 1, [428, 430, 0, 15]), (39, 1, .ireturn, 0, 0, 0, 0, []), (40, 1, .aload 0, 0, 0, 0, 0, []), (41, 3, .getfield 0, 11, 4, 2, 0, [384]),
  (44, 3, .getfield 0, 0, 4, 0, 0, [102]), (47, 1, .iconst 0, 0, 0, 0, 3, []), (48, 3, .if_icmp .lt 0, 58, 0, 0, 0, []), (51, 1, .aload 0, 0, 0, 0, 0, []), (52, 2, .iconst 0, 0, 0, 0, (-6), []), (54, 3, .invokevirtual 0, 126, 2, 11, 1, [428, 430, 0, 15]),
  (57, 1, .ireturn, 0, 0, 0, 0, []), (58, 1, .aload 0, 0, 0, 0, 0, []), (59, 3, .getfield 0, 11, 4, 2, 0, [384]), (62, 3, .getfield 0, 0, 4, 0, 0, [102]), (65, 1, .istore 0, 3, 0, 0, 0, []), (66, 1, .aload 0, 0, 0, 0, 0, []),
  (67, 3, .getfield 0, 11, 4, 2, 0, [384]), (70, 3, .getfield 0, 0, 11, 2, 0, [123]), (73, 1, .iload 0, 3, 0, 0, 0, []), (74, 1, .iload 0, 2, 0, 0, 0, []), (75, 1, .iastore, 0, 0, 0, 0, []), (76, 1, .aload 0, 0, 0, 0, 0, []),
  (77, 3, .getfield 0, 11, 4, 2, 0, [384]), (80, 1, .iload 0, 3, 0, 0, 0, []), (81, 1, .iconst 0, 0, 0, 0, 1, []), (82, 1, .iadd, 0, 0, 0, 0, []), (83, 3, .putfield 0, 0, 4, 0, 0, [102]), (86, 1, .aload 0, 0, 0, 0, 0, []),
  (87, 3, .getfield 0, 11, 2, 2, 0, [382]), (90, 3, .invokevirtual 0, 12, 1, 1, 0, [675, 676, 677, 18]), (93, 1, .iload 0, 3, 0, 0, 0, []), (94, 1, .ireturn, 0, 0, 0, 0, [])
  ]
def mc_X11_use : List mv_E := [
  (0, 1, .iload 0, 1, 0, 0, 0, []), (1, 3, .ifCond .lt 0, 9, 0, 0, 0, []), (4, 1, .iload 0, 1, 0, 0, 0, []), (5, 1, .iconst 0, 0, 0, 0, 5, []), (6, 3, .if_icmp .le 0, 16, 0, 0, 0, []), (9, 1, .aload 0, 0, 0, 0, 0, []),
  (10, 2, .iconst 0, 0, 0, 0, (-2), []), (12, 3, .invokevirtual 0, 126, 2, 11, 1, [428, 430, 0, 15]), (15, 1, .ireturn, 0, 0, 0, 0, []), (16, 1, .iload 0, 2, 0, 0, 0, []), (17, 3, .ifCond .lt 0, 34, 0, 0, 0, []), (20, 1, .iload 0, 3, 0, 0, 0, []),
  (21, 3, .ifCond .lt 0, 34, 0, 0, 0, []), (24, 2, .iload 0, 4, 0, 0, 0, []), (26, 3, .ifCond .lt 0, 34, 0, 0, 0, []), (29, 2, .iload 0, 5, 0, 0, 0, []), (31, 3, .ifCond .ge 0, 41, 0, 0, 0, []), (34, 1, .aload 0, 0, 0, 0, 0, []),
  (35, 2, .iconst 0, 0, 0, 0, (-4), []), (37, 3, .invokevirtual 0, 126, 2, 11, 1, [428, 430, 0, 15]), (40, 1, .ireturn, 0, 0, 0, 0, []), (41, 1, .iload 0, 2, 0, 0, 0, []), (42, 2, .iconst 0, 0, 0, 0, 99, []), (44, 3, .if_icmp .gt 0, 80, 0, 0, 0, []),
  (47, 1, .iload 0, 3, 0, 0, 0, []), (48, 2, .iconst 0, 0, 0, 0, 99, []), (50, 3, .if_icmp .gt 0, 80, 0, 0, 0, []), (53, 2, .iload 0, 4, 0, 0, 0, []), (55, 3, .iconst 0, 0, 0, 0, 9999, []), (58, 3, .if_icmp .gt 0, 80, 0, 0, 0, []),
  (61, 2, .iload 0, 5, 0, 0, 0, []), (63, 2, .iconst 0, 0, 0, 0, 99, []), (65, 3, .if_icmp .gt 0, 80, 0, 0, 0, []), (68, 1, .aload 0, 0, 0, 0, 0, []), (69, 3, .getfield 0, 11, 5, 2, 0, [385]), (72, 3, .getfield 0, 7, 0, 0, 0, [162]),
  (75, 2, .iconst 0, 0, 0, 0, 6, []), (77, 3, .if_icmp .lt 0, 87, 0, 0, 0, []), (80, 1, .aload 0, 0, 0, 0, 0, []), (81, 2, .iconst 0, 0, 0, 0, (-6), []), (83, 3, .invokevirtual 0, 126, 2, 11, 1, [428, 430, 0, 15]), (86, 1, .ireturn, 0, 0, 0, 0, []),
  (87, 1, .aload 0, 0, 0, 0, 0, []), (88, 3, .getfield 0, 11, 5, 2, 0, [385]), (91, 1, .iload 0, 1, 0, 0, 0, []), (92, 1, .iload 0, 2, 0, 0, 0, []), (93, 1, .iload 0, 3, 0, 0, 0, []), (94, 2, .iload 0, 4, 0, 0, 0, []),
  (96, 2, .iload 0, 5, 0, 0, 0, []), (98, 3, .invokevirtual 0, 58, 6, 7, 1, [762, 763, 764, 21]), (101, 2, .istore 0, 6, 0, 0, 0, []), (103, 1, .aload 0, 0, 0, 0, 0, []), (104, 3, .getfield 0, 11, 2, 2, 0, [382]), (107, 3, .invokevirtual 0, 13, 1, 1, 0, [451, 452, 453, 18]),
  (110, 2, .iload 0, 6, 0, 0, 0, []), (112, 1, .ireturn, 0, 0, 0, 0, [])
  ]
def mc_X11_year : List mv_E := [
  (0, 1, .aload 0, 0, 0, 0, 0, []), (1, 1, .iload 0, 1, 0, 0, 0, []), (2, 3, .invokevirtual 0, 129, 2, 11, 1, [447, 449, 2, 15]), (5, 3, .ifCond .eq 0, 14, 0, 0, 0, []), (8, 1, .aload 0, 0, 0, 0, 0, []), (9, 1, .iconst 0, 0, 0, 0, (-1), []),
  (10, 3, .invokevirtual 0, 126, 2, 11, 1, [428, 430, 0, 15]), (13, 1, .ireturn, 0, 0, 0, 0, []), (14, 1, .aload 0, 0, 0, 0, 0, []), (15, 3, .getfield 0, 11, 5, 2, 0, [385]), (18, 3, .getfield 0, 7, 2, 2, 0, [168]), (21, 1, .iload 0, 1, 0, 0, 0, []),
  (22, 1, .iaload, 0, 0, 0, 0, []), (23, 1, .iconst 0, 0, 0, 0, 3, []), (24, 3, .if_icmp .eq 0, 34, 0, 0, 0, []), (27, 1, .aload 0, 0, 0, 0, 0, []), (28, 2, .iconst 0, 0, 0, 0, (-3), []), (30, 3, .invokevirtual 0, 126, 2, 11, 1, [428, 430, 0, 15]),
  (33, 1, .ireturn, 0, 0, 0, 0, []), (34, 1, .iload 0, 2, 0, 0, 0, []), (35, 2, .iconst 0, 0, 0, 0, (-99), []), (37, 3, .if_icmp .ge 0, 47, 0, 0, 0, []), (40, 1, .aload 0, 0, 0, 0, 0, []), (41, 2, .iconst 0, 0, 0, 0, (-4), []),
  (43, 3, .invokevirtual 0, 126, 2, 11, 1, [428, 430, 0, 15]), (46, 1, .ireturn, 0, 0, 0, 0, []), (47, 1, .iload 0, 2, 0, 0, 0, []), (48, 2, .iconst 0, 0, 0, 0, 99, []), (50, 3, .if_icmp .gt 0, 67, 0, 0, 0, []), (53, 1, .aload 0, 0, 0, 0, 0, []),
  (54, 3, .getfield 0, 11, 5, 2, 0, [385]), (57, 3, .getfield 0, 7, 8, 2, 0, [177]), (60, 1, .iload 0, 1, 0, 0, 0, []), (61, 1, .iaload, 0, 0, 0, 0, []), (62, 2, .iconst 0, 0, 0, 0, 6, []), (64, 3, .if_icmp .lt 0, 74, 0, 0, 0, []),
  (67, 1, .aload 0, 0, 0, 0, 0, []), (68, 2, .iconst 0, 0, 0, 0, (-6), []), (70, 3, .invokevirtual 0, 126, 2, 11, 1, [428, 430, 0, 15]), (73, 1, .ireturn, 0, 0, 0, 0, []), (74, 1, .aload 0, 0, 0, 0, 0, []), (75, 3, .getfield 0, 11, 5, 2, 0, [385]),
  (78, 3, .getfield 0, 7, 8, 2, 0, [177]), (81, 1, .iload 0, 1, 0, 0, 0, []), (82, 1, .dup2, 0, 0, 0, 0, []), (83, 1, .iaload, 0, 0, 0, 0, []), (84, 1, .iconst 0, 0, 0, 0, 1, []), (85, 1, .iadd, 0, 0, 0, 0, []),
  (86, 1, .iastore, 0, 0, 0, 0, []), (87, 1, .aload 0, 0, 0, 0, 0, []), (88, 3, .getfield 0, 11, 5, 2, 0, [385]), (91, 3, .getfield 0, 7, 9, 2, 0, [179]), (94, 1, .iload 0, 1, 0, 0, 0, []), (95, 1, .dup2, 0, 0, 0, 0, []),
  (96, 1, .iaload, 0, 0, 0, 0, []), (97, 1, .iload 0, 2, 0, 0, 0, []), (98, 1, .iadd, 0, 0, 0, 0, []), (99, 1, .iastore, 0, 0, 0, 0, []), (100, 1, .aload 0, 0, 0, 0, 0, []), (101, 3, .getfield 0, 11, 2, 2, 0, [382]),
  (104, 3, .invokevirtual 0, 13, 1, 1, 0, [451, 452, 453, 18]), (107, 1, .aload 0, 0, 0, 0, 0, []), (108, 3, .getfield 0, 11, 5, 2, 0, [385]), (111, 3, .getfield 0, 7, 8, 2, 0, [177]), (114, 1, .iload 0, 1, 0, 0, 0, []), (115, 1, .iaload, 0, 0, 0, 0, []),
  (116, 1, .ireturn, 0, 0, 0, 0, [])
  ]
def mc_X11_price : List mv_E := [
  (0, 1, .aload 0, 0, 0, 0, 0, []), (1, 1, .iload 0, 1, 0, 0, 0, []), (2, 3, .invokevirtual 0, 129, 2, 11, 1, [447, 449, 2, 15]), (5, 3, .ifCond .ne 0, 16, 0, 0, 0, []), (8, 1, .aload 0, 0, 0, 0, 0, []), (9, 1, .iload 0, 2, 0, 0, 0, []),
  (10, 3, .invokevirtual 0, 130, 2, 11, 1, [552, 554, 7, 15]), (13, 3, .ifCond .eq 0, 22, 0, 0, 0, []), (16, 1, .aload 0, 0, 0, 0, 0, []), (17, 1, .iconst 0, 0, 0, 0, (-1), []), (18, 3, .invokevirtual 0, 126, 2, 11, 1, [428, 430, 0, 15]), (21, 1, .ireturn, 0, 0, 0, 0, []),
  (22, 1, .iload 0, 3, 0, 0, 0, []), (23, 1, .iconst 0, 0, 0, 0, 0, []), (24, 3, .iconst 0, 0, 0, 0, 999, []), (27, 3, .invokestatic 0, 128, 3, 1, 1, [444, 445, 15]), (30, 2, .istore 0, 4, 0, 0, 0, []), (32, 2, .iload 0, 4, 0, 0, 0, []),
  (34, 3, .ifCond .eq 0, 44, 0, 0, 0, []), (37, 1, .aload 0, 0, 0, 0, 0, []), (38, 2, .iload 0, 4, 0, 0, 0, []), (40, 3, .invokevirtual 0, 126, 2, 11, 1, [428, 430, 0, 15]), (43, 1, .ireturn, 0, 0, 0, 0, []), (44, 1, .iload 0, 1, 0, 0, 0, []),
  (45, 1, .iload 0, 2, 0, 0, 0, []), (46, 3, .invokestatic 0, 131, 2, 1, 1, [556, 557, 15]), (49, 2, .istore 0, 5, 0, 0, 0, []), (51, 1, .aload 0, 0, 0, 0, 0, []), (52, 3, .getfield 0, 11, 5, 2, 0, [385]), (55, 3, .getfield 0, 7, 10, 2, 0, [182]),
  (58, 2, .iload 0, 5, 0, 0, 0, []), (60, 1, .iaload, 0, 0, 0, 0, []), (61, 2, .istore 0, 6, 0, 0, 0, []), (63, 1, .aload 0, 0, 0, 0, 0, []), (64, 3, .getfield 0, 11, 5, 2, 0, [385]), (67, 3, .getfield 0, 7, 10, 2, 0, [182]),
  (70, 2, .iload 0, 5, 0, 0, 0, []), (72, 1, .iload 0, 3, 0, 0, 0, []), (73, 1, .iastore, 0, 0, 0, 0, []), (74, 1, .aload 0, 0, 0, 0, 0, []), (75, 3, .getfield 0, 11, 2, 2, 0, [382]), (78, 3, .invokevirtual 0, 13, 1, 1, 0, [451, 452, 453, 18]),
  (81, 2, .iload 0, 6, 0, 0, 0, []), (83, 1, .ireturn, 0, 0, 0, 0, [])
  ]
def mc_X11_tax : List mv_E := [
  (0, 1, .iload 0, 1, 0, 0, 0, []), (1, 1, .iconst 0, 0, 0, 0, (-1), []), (2, 3, .if_icmp .ne 0, 11, 0, 0, 0, []), (5, 1, .aload 0, 0, 0, 0, 0, []), (6, 1, .iload 0, 2, 0, 0, 0, []), (7, 3, .invokevirtual 0, 98, 2, 11, 1, [440, 442, 1, 15]),
  (10, 1, .ireturn, 0, 0, 0, 0, []), (11, 1, .aload 0, 0, 0, 0, 0, []), (12, 1, .iload 0, 1, 0, 0, 0, []), (13, 3, .invokevirtual 0, 129, 2, 11, 1, [447, 449, 2, 15]), (16, 3, .ifCond .eq 0, 25, 0, 0, 0, []), (19, 1, .aload 0, 0, 0, 0, 0, []),
  (20, 1, .iconst 0, 0, 0, 0, (-1), []), (21, 3, .invokevirtual 0, 126, 2, 11, 1, [428, 430, 0, 15]), (24, 1, .ireturn, 0, 0, 0, 0, []), (25, 1, .iload 0, 2, 0, 0, 0, []), (26, 1, .iconst 0, 0, 0, 0, 0, []), (27, 3, .iconst 0, 0, 0, 0, 9999, []),
  (30, 3, .invokestatic 0, 128, 3, 1, 1, [444, 445, 15]), (33, 1, .istore 0, 3, 0, 0, 0, []), (34, 1, .iload 0, 3, 0, 0, 0, []), (35, 3, .ifCond .eq 0, 44, 0, 0, 0, []), (38, 1, .aload 0, 0, 0, 0, 0, []), (39, 1, .iload 0, 3, 0, 0, 0, []),
  (40, 3, .invokevirtual 0, 126, 2, 11, 1, [428, 430, 0, 15]), (43, 1, .ireturn, 0, 0, 0, 0, []), (44, 1, .aload 0, 0, 0, 0, 0, []), (45, 3, .getfield 0, 11, 5, 2, 0, [385]), (48, 3, .getfield 0, 7, 7, 2, 0, [174]), (51, 1, .iload 0, 1, 0, 0, 0, []),
  (52, 1, .iaload, 0, 0, 0, 0, []), (53, 2, .istore 0, 4, 0, 0, 0, []), (55, 1, .aload 0, 0, 0, 0, 0, []), (56, 3, .getfield 0, 11, 5, 2, 0, [385]), (59, 3, .getfield 0, 7, 7, 2, 0, [174]), (62, 1, .iload 0, 1, 0, 0, 0, []),
  (63, 1, .iload 0, 2, 0, 0, 0, []), (64, 1, .iastore, 0, 0, 0, 0, []), (65, 1, .aload 0, 0, 0, 0, 0, []), (66, 3, .getfield 0, 11, 2, 2, 0, [382]), (69, 3, .invokevirtual 0, 13, 1, 1, 0, [451, 452, 453, 18]), (72, 2, .iload 0, 4, 0, 0, 0, []),
  (74, 1, .ireturn, 0, 0, 0, 0, [])
  ]
def mc_X11_rentTax : List mv_E := [
  (0, 1, .iload 0, 1, 0, 0, 0, []), (1, 1, .iconst 0, 0, 0, 0, 0, []), (2, 2, .iconst 0, 0, 0, 0, 100, []), (4, 3, .invokestatic 0, 128, 3, 1, 1, [444, 445, 15]), (7, 1, .istore 0, 2, 0, 0, 0, []), (8, 1, .iload 0, 2, 0, 0, 0, []),
  (9, 3, .ifCond .eq 0, 18, 0, 0, 0, []), (12, 1, .aload 0, 0, 0, 0, 0, []), (13, 1, .iload 0, 2, 0, 0, 0, []), (14, 3, .invokevirtual 0, 126, 2, 11, 1, [428, 430, 0, 15]), (17, 1, .ireturn, 0, 0, 0, 0, []), (18, 1, .aload 0, 0, 0, 0, 0, []),
  (19, 3, .getfield 0, 11, 5, 2, 0, [385]), (22, 3, .getfield 0, 7, 1, 0, 0, [165]), (25, 1, .istore 0, 3, 0, 0, 0, []), (26, 1, .aload 0, 0, 0, 0, 0, []), (27, 3, .getfield 0, 11, 5, 2, 0, [385]), (30, 1, .iload 0, 1, 0, 0, 0, []),
  (31, 3, .putfield 0, 7, 1, 0, 0, [165]), (34, 1, .iload 0, 3, 0, 0, 0, []), (35, 1, .ireturn, 0, 0, 0, 0, [])
  ]
def mc_X11_goes : List mv_E := [
  (0, 1, .aload 0, 0, 0, 0, 0, []), (1, 3, .getfield 0, 11, 4, 2, 0, [384]), (4, 1, .iload 0, 1, 0, 0, 0, []), (5, 3, .invokevirtual 0, 4, 2, 0, 1, [424, 425, 426, 20]), (8, 1, .istore 0, 3, 0, 0, 0, []), (9, 1, .iload 0, 3, 0, 0, 0, []),
  (10, 1, .iconst 0, 0, 0, 0, (-1), []), (11, 3, .if_icmp .ne 0, 20, 0, 0, 0, []), (14, 1, .aload 0, 0, 0, 0, 0, []), (15, 1, .iconst 0, 0, 0, 0, (-1), []), (16, 3, .invokevirtual 0, 126, 2, 11, 1, [428, 430, 0, 15]), (19, 1, .ireturn, 0, 0, 0, 0, []),
  (20, 1, .iload 0, 2, 0, 0, 0, []), (21, 3, .ifCond .lt 0, 29, 0, 0, 0, []), (24, 1, .iload 0, 2, 0, 0, 0, []), (25, 1, .iconst 0, 0, 0, 0, 1, []), (26, 3, .if_icmp .le 0, 36, 0, 0, 0, []), (29, 1, .aload 0, 0, 0, 0, 0, []),
  (30, 2, .iconst 0, 0, 0, 0, (-2), []), (32, 3, .invokevirtual 0, 126, 2, 11, 1, [428, 430, 0, 15]), (35, 1, .ireturn, 0, 0, 0, 0, []), (36, 1, .aload 0, 0, 0, 0, 0, []), (37, 3, .getfield 0, 11, 2, 2, 0, [382]), (40, 3, .invokevirtual 0, 14, 1, 1, 0, [459, 460, 461, 18]),
  (43, 1, .aload 0, 0, 0, 0, 0, []), (44, 3, .getfield 0, 11, 2, 2, 0, [382]), (47, 3, .getfield 0, 1, 3, 2, 0, [292]), (50, 1, .iload 0, 3, 0, 0, 0, []), (51, 1, .iaload, 0, 0, 0, 0, []), (52, 2, .istore 0, 4, 0, 0, 0, []),
  (54, 2, .iload 0, 4, 0, 0, 0, []), (56, 1, .iconst 0, 0, 0, 0, (-1), []), (57, 3, .if_icmp .ne 0, 63, 0, 0, 0, []), (60, 2, .iconst 0, 0, 0, 0, (-9), []), (62, 1, .ireturn, 0, 0, 0, 0, []), (63, 1, .iload 0, 2, 0, 0, 0, []),
  (64, 3, .ifCond .ne 0, 74, 0, 0, 0, []), (67, 2, .iload 0, 4, 0, 0, 0, []), (69, 1, .iconst 0, 0, 0, 0, 3, []), (70, 1, .idiv, 0, 0, 0, 0, []), (71, 3, .goto 0, 78, 0, 0, 0, []), (74, 2, .iload 0, 4, 0, 0, 0, []),
  (76, 1, .iconst 0, 0, 0, 0, 3, []), (77, 1, .irem, 0, 0, 0, 0, []), (78, 1, .ireturn, 0, 0, 0, 0, [])
  ]
def mc_X11_rent : List mv_E := [
  (0, 1, .aload 0, 0, 0, 0, 0, []), (1, 3, .getfield 0, 11, 4, 2, 0, [384]), (4, 1, .iload 0, 1, 0, 0, 0, []), (5, 3, .invokevirtual 0, 4, 2, 0, 1, [424, 425, 426, 20]), (8, 1, .istore 0, 2, 0, 0, 0, []), (9, 1, .iload 0, 1, 0, 0, 0, []),
  (10, 1, .iconst 0, 0, 0, 0, (-1), []), (11, 3, .if_icmp .eq 0, 25, 0, 0, 0, []), (14, 1, .iload 0, 2, 0, 0, 0, []), (15, 1, .iconst 0, 0, 0, 0, (-1), []), (16, 3, .if_icmp .ne 0, 25, 0, 0, 0, []), (19, 1, .aload 0, 0, 0, 0, 0, []),
  (20, 1, .iconst 0, 0, 0, 0, (-1), []), (21, 3, .invokevirtual 0, 127, 2, 11, 2, [529, 531, 5, 15]), (24, 1, .lreturn, 0, 0, 0, 0, []), (25, 1, .aload 0, 0, 0, 0, 0, []), (26, 3, .getfield 0, 11, 2, 2, 0, [382]), (29, 3, .invokevirtual 0, 14, 1, 1, 0, [459, 460, 461, 18]),
  (32, 1, .iload 0, 1, 0, 0, 0, []), (33, 1, .iconst 0, 0, 0, 0, (-1), []), (34, 3, .if_icmp .ne 0, 47, 0, 0, 0, []), (37, 1, .aload 0, 0, 0, 0, 0, []), (38, 3, .getfield 0, 11, 2, 2, 0, [382]), (41, 3, .invokevirtual 0, 22, 1, 1, 2, [534, 535, 536, 18]),
  (44, 3, .goto 0, 55, 0, 0, 0, []), (47, 1, .aload 0, 0, 0, 0, 0, []), (48, 3, .getfield 0, 11, 2, 2, 0, [382]), (51, 1, .iload 0, 2, 0, 0, 0, []), (52, 3, .invokevirtual 0, 20, 2, 1, 2, [547, 539, 540, 18]), (55, 1, .lreturn, 0, 0, 0, 0, [])
  ]
def mc_X11_piece : List mv_E := [
  (0, 1, .aload 0, 0, 0, 0, 0, []), (1, 1, .iload 0, 1, 0, 0, 0, []), (2, 3, .invokevirtual 0, 129, 2, 11, 1, [447, 449, 2, 15]), (5, 3, .ifCond .ne 0, 16, 0, 0, 0, []), (8, 1, .aload 0, 0, 0, 0, 0, []), (9, 1, .iload 0, 2, 0, 0, 0, []),
  (10, 3, .invokevirtual 0, 130, 2, 11, 1, [552, 554, 7, 15]), (13, 3, .ifCond .eq 0, 22, 0, 0, 0, []), (16, 1, .aload 0, 0, 0, 0, 0, []), (17, 1, .iconst 0, 0, 0, 0, (-1), []), (18, 3, .invokevirtual 0, 126, 2, 11, 1, [428, 430, 0, 15]), (21, 1, .ireturn, 0, 0, 0, 0, []),
  (22, 1, .iload 0, 3, 0, 0, 0, []), (23, 3, .ifCond .lt 0, 31, 0, 0, 0, []), (26, 2, .iload 0, 4, 0, 0, 0, []), (28, 3, .ifCond .ge 0, 38, 0, 0, 0, []), (31, 1, .aload 0, 0, 0, 0, 0, []), (32, 2, .iconst 0, 0, 0, 0, (-4), []),
  (34, 3, .invokevirtual 0, 126, 2, 11, 1, [428, 430, 0, 15]), (37, 1, .ireturn, 0, 0, 0, 0, []), (38, 1, .iload 0, 1, 0, 0, 0, []), (39, 1, .iload 0, 2, 0, 0, 0, []), (40, 3, .invokestatic 0, 131, 2, 1, 1, [556, 557, 15]), (43, 2, .istore 0, 5, 0, 0, 0, []),
  (45, 1, .iload 0, 3, 0, 0, 0, []), (46, 3, .iconst 0, 0, 0, 0, 9999, []), (49, 3, .if_icmp .gt 0, 75, 0, 0, 0, []), (52, 2, .iload 0, 4, 0, 0, 0, []), (54, 3, .iconst 0, 0, 0, 0, 999, []), (57, 3, .if_icmp .gt 0, 75, 0, 0, 0, []),
  (60, 1, .aload 0, 0, 0, 0, 0, []), (61, 3, .getfield 0, 11, 5, 2, 0, [385]), (64, 3, .getfield 0, 7, 11, 2, 0, [185]), (67, 2, .iload 0, 5, 0, 0, 0, []), (69, 1, .iaload, 0, 0, 0, 0, []), (70, 2, .iconst 0, 0, 0, 0, 6, []),
  (72, 3, .if_icmp .lt 0, 82, 0, 0, 0, []), (75, 1, .aload 0, 0, 0, 0, 0, []), (76, 2, .iconst 0, 0, 0, 0, (-6), []), (78, 3, .invokevirtual 0, 126, 2, 11, 1, [428, 430, 0, 15]), (81, 1, .ireturn, 0, 0, 0, 0, []), (82, 1, .aload 0, 0, 0, 0, 0, []),
  (83, 3, .getfield 0, 11, 5, 2, 0, [385]), (86, 2, .iload 0, 5, 0, 0, 0, []), (88, 1, .iload 0, 3, 0, 0, 0, []), (89, 2, .iload 0, 4, 0, 0, 0, []), (91, 3, .invokevirtual 0, 59, 4, 7, 0, [559, 560, 561, 21]), (94, 1, .aload 0, 0, 0, 0, 0, []),
  (95, 3, .getfield 0, 11, 5, 2, 0, [385]), (98, 3, .getfield 0, 7, 11, 2, 0, [185]), (101, 2, .iload 0, 5, 0, 0, 0, []), (103, 1, .iaload, 0, 0, 0, 0, []), (104, 1, .ireturn, 0, 0, 0, 0, [])
  ]
def mc_X11_rounds : List mv_E := [
  (0, 1, .iload 0, 1, 0, 0, 0, []), (1, 1, .iconst 0, 0, 0, 0, 1, []), (2, 2, .iconst 0, 0, 0, 0, 20, []), (4, 3, .invokestatic 0, 128, 3, 1, 1, [444, 445, 15]), (7, 1, .istore 0, 2, 0, 0, 0, []), (8, 1, .iload 0, 2, 0, 0, 0, []),
  (9, 3, .ifCond .eq 0, 18, 0, 0, 0, []), (12, 1, .aload 0, 0, 0, 0, 0, []), (13, 1, .iload 0, 2, 0, 0, 0, []), (14, 3, .invokevirtual 0, 126, 2, 11, 1, [428, 430, 0, 15]), (17, 1, .ireturn, 0, 0, 0, 0, []), (18, 1, .aload 0, 0, 0, 0, 0, []),
  (19, 3, .getfield 0, 11, 2, 2, 0, [382]), (22, 3, .invokevirtual 0, 14, 1, 1, 0, [459, 460, 461, 18]), (25, 1, .aload 0, 0, 0, 0, 0, []), (26, 3, .getfield 0, 11, 9, 2, 0, [389]), (29, 1, .aload 0, 0, 0, 0, 0, []), (30, 3, .getfield 0, 11, 2, 2, 0, [382]),
  (33, 1, .iload 0, 1, 0, 0, 0, []), (34, 3, .invokevirtual 0, 53, 3, 6, 1, [567, 568, 569, 24]), (37, 1, .istore 0, 3, 0, 0, 0, []), (38, 1, .aload 0, 0, 0, 0, 0, []), (39, 3, .getfield 0, 11, 2, 2, 0, [382]), (42, 3, .invokevirtual 0, 13, 1, 1, 0, [451, 452, 453, 18]),
  (45, 1, .iload 0, 3, 0, 0, 0, []), (46, 1, .ireturn, 0, 0, 0, 0, [])
  ]
def mc_X11_falls : List mv_E := [
  (0, 1, .aload 0, 0, 0, 0, 0, []), (1, 1, .iload 0, 1, 0, 0, 0, []), (2, 3, .invokevirtual 0, 129, 2, 11, 1, [447, 449, 2, 15]), (5, 3, .ifCond .eq 0, 14, 0, 0, 0, []), (8, 1, .aload 0, 0, 0, 0, 0, []), (9, 1, .iconst 0, 0, 0, 0, (-1), []),
  (10, 3, .invokevirtual 0, 126, 2, 11, 1, [428, 430, 0, 15]), (13, 1, .ireturn, 0, 0, 0, 0, []), (14, 1, .iload 0, 2, 0, 0, 0, []), (15, 1, .iconst 0, 0, 0, 0, 0, []), (16, 3, .iconst 0, 0, 0, 0, 9999, []), (19, 3, .invokestatic 0, 128, 3, 1, 1, [444, 445, 15]),
  (22, 1, .istore 0, 3, 0, 0, 0, []), (23, 1, .iload 0, 3, 0, 0, 0, []), (24, 3, .ifCond .eq 0, 33, 0, 0, 0, []), (27, 1, .aload 0, 0, 0, 0, 0, []), (28, 1, .iload 0, 3, 0, 0, 0, []), (29, 3, .invokevirtual 0, 126, 2, 11, 1, [428, 430, 0, 15]),
  (32, 1, .ireturn, 0, 0, 0, 0, []), (33, 1, .aload 0, 0, 0, 0, 0, []), (34, 3, .getfield 0, 11, 2, 2, 0, [382]), (37, 3, .invokevirtual 0, 14, 1, 1, 0, [459, 460, 461, 18]), (40, 1, .aload 0, 0, 0, 0, 0, []), (41, 3, .getfield 0, 11, 2, 2, 0, [382]),
  (44, 1, .iload 0, 1, 0, 0, 0, []), (45, 1, .iload 0, 2, 0, 0, 0, []), (46, 3, .invokevirtual 0, 30, 3, 1, 1, [611, 612, 613, 18]), (49, 1, .ireturn, 0, 0, 0, 0, [])
  ]
def mc_X11_own : List mv_E := [
  (0, 1, .aload 0, 0, 0, 0, 0, []), (1, 3, .getfield 0, 11, 4, 2, 0, [384]), (4, 1, .iload 0, 1, 0, 0, 0, []), (5, 3, .invokevirtual 0, 4, 2, 0, 1, [424, 425, 426, 20]), (8, 1, .istore 0, 3, 0, 0, 0, []), (9, 1, .iload 0, 3, 0, 0, 0, []),
  (10, 1, .iconst 0, 0, 0, 0, (-1), []), (11, 3, .if_icmp .ne 0, 20, 0, 0, 0, []), (14, 1, .aload 0, 0, 0, 0, 0, []), (15, 1, .iconst 0, 0, 0, 0, (-1), []), (16, 3, .invokevirtual 0, 126, 2, 11, 1, [428, 430, 0, 15]), (19, 1, .ireturn, 0, 0, 0, 0, []),
  (20, 1, .iload 0, 2, 0, 0, 0, []), (21, 1, .iconst 0, 0, 0, 0, (-1), []), (22, 1, .iconst 0, 0, 0, 0, 3, []), (23, 3, .invokestatic 0, 128, 3, 1, 1, [444, 445, 15]), (26, 2, .istore 0, 4, 0, 0, 0, []), (28, 2, .iload 0, 4, 0, 0, 0, []),
  (30, 3, .ifCond .eq 0, 40, 0, 0, 0, []), (33, 1, .aload 0, 0, 0, 0, 0, []), (34, 2, .iload 0, 4, 0, 0, 0, []), (36, 3, .invokevirtual 0, 126, 2, 11, 1, [428, 430, 0, 15]), (39, 1, .ireturn, 0, 0, 0, 0, []), (40, 1, .aload 0, 0, 0, 0, 0, []),
  (41, 3, .getfield 0, 11, 4, 2, 0, [384]), (44, 3, .getfield 0, 0, 8, 2, 0, [112]), (47, 1, .iload 0, 3, 0, 0, 0, []), (48, 1, .iaload, 0, 0, 0, 0, []), (49, 1, .iload 0, 2, 0, 0, 0, []), (50, 3, .if_icmp .ne 0, 55, 0, 0, 0, []),
  (53, 1, .iconst 0, 0, 0, 0, 0, []), (54, 1, .ireturn, 0, 0, 0, 0, []), (55, 1, .aload 0, 0, 0, 0, 0, []), (56, 3, .getfield 0, 11, 4, 2, 0, [384]), (59, 3, .getfield 0, 0, 8, 2, 0, [112]), (62, 1, .iload 0, 3, 0, 0, 0, []),
  (63, 1, .iload 0, 2, 0, 0, 0, []), (64, 1, .iastore, 0, 0, 0, 0, []), (65, 1, .iconst 0, 0, 0, 0, 1, []), (66, 1, .ireturn, 0, 0, 0, 0, [])
  ]
def mc_X11_held : List mv_E := [
  (0, 1, .aload 0, 0, 0, 0, 0, []), (1, 3, .getfield 0, 11, 4, 2, 0, [384]), (4, 1, .iload 0, 1, 0, 0, 0, []), (5, 3, .invokevirtual 0, 4, 2, 0, 1, [424, 425, 426, 20]), (8, 1, .istore 0, 3, 0, 0, 0, []), (9, 1, .iload 0, 3, 0, 0, 0, []),
  (10, 1, .iconst 0, 0, 0, 0, (-1), []), (11, 3, .if_icmp .ne 0, 20, 0, 0, 0, []), (14, 1, .aload 0, 0, 0, 0, 0, []), (15, 1, .iconst 0, 0, 0, 0, (-1), []), (16, 3, .invokevirtual 0, 126, 2, 11, 1, [428, 430, 0, 15]), (19, 1, .ireturn, 0, 0, 0, 0, []),
  (20, 1, .iload 0, 2, 0, 0, 0, []), (21, 3, .ifCond .eq 0, 28, 0, 0, 0, []), (24, 1, .iconst 0, 0, 0, 0, 1, []), (25, 3, .goto 0, 29, 0, 0, 0, []), (28, 1, .iconst 0, 0, 0, 0, 0, []), (29, 2, .istore 0, 4, 0, 0, 0, []),
  (31, 1, .aload 0, 0, 0, 0, 0, []), (32, 3, .getfield 0, 11, 4, 2, 0, [384]), (35, 3, .getfield 0, 0, 9, 2, 0, [117]), (38, 1, .iload 0, 3, 0, 0, 0, []), (39, 1, .iaload, 0, 0, 0, 0, []), (40, 2, .iload 0, 4, 0, 0, 0, []),
  (42, 3, .if_icmp .ne 0, 47, 0, 0, 0, []), (45, 1, .iconst 0, 0, 0, 0, 0, []), (46, 1, .ireturn, 0, 0, 0, 0, []), (47, 1, .aload 0, 0, 0, 0, 0, []), (48, 3, .getfield 0, 11, 4, 2, 0, [384]), (51, 3, .getfield 0, 0, 9, 2, 0, [117]),
  (54, 1, .iload 0, 3, 0, 0, 0, []), (55, 2, .iload 0, 4, 0, 0, 0, []), (57, 1, .iastore, 0, 0, 0, 0, []), (58, 1, .aload 0, 0, 0, 0, 0, []), (59, 3, .getfield 0, 11, 2, 2, 0, [382]), (62, 3, .invokevirtual 0, 13, 1, 1, 0, [451, 452, 453, 18]),
  (65, 1, .iconst 0, 0, 0, 0, 1, []), (66, 1, .ireturn, 0, 0, 0, 0, [])
  ]
def mc_X11_hold : List mv_E := [
  (0, 1, .iload 0, 1, 0, 0, 0, []), (1, 1, .iconst 0, 0, 0, 0, 0, []), (2, 1, .iconst 0, 0, 0, 0, 3, []), (3, 3, .invokestatic 0, 128, 3, 1, 1, [444, 445, 15]), (6, 1, .istore 0, 2, 0, 0, 0, []), (7, 1, .iload 0, 2, 0, 0, 0, []),
  (8, 3, .ifCond .eq 0, 17, 0, 0, 0, []), (11, 1, .aload 0, 0, 0, 0, 0, []), (12, 1, .iload 0, 2, 0, 0, 0, []), (13, 3, .invokevirtual 0, 126, 2, 11, 1, [428, 430, 0, 15]), (16, 1, .ireturn, 0, 0, 0, 0, []), (17, 1, .aload 0, 0, 0, 0, 0, []),
  (18, 3, .getfield 0, 11, 2, 2, 0, [382]), (21, 3, .invokevirtual 0, 14, 1, 1, 0, [459, 460, 461, 18]), (24, 1, .aload 0, 0, 0, 0, 0, []), (25, 3, .getfield 0, 11, 9, 2, 0, [389]), (28, 1, .aload 0, 0, 0, 0, 0, []), (29, 3, .getfield 0, 11, 2, 2, 0, [382]),
  (32, 1, .iload 0, 1, 0, 0, 0, []), (33, 3, .invokevirtual 0, 55, 3, 6, 1, [632, 633, 634, 24]), (36, 1, .ireturn, 0, 0, 0, 0, [])
  ]
def mc_X11_image : List mv_E := [
  (0, 1, .aload 0, 0, 0, 0, 0, []), (1, 3, .getfield 0, 11, 7, 2, 0, [387]), (4, 1, .aload 0, 0, 0, 0, 0, []), (5, 3, .getfield 0, 11, 3, 2, 0, [383]), (8, 3, .invokevirtual 0, 84, 2, 10, 0, [652, 653, 654, 19]), (11, 1, .aload 0, 0, 0, 0, 0, []),
  (12, 1, .iconst 0, 0, 0, 0, 1, []), (13, 3, .putfield 0, 11, 8, 1, 0, [388]), (16, 1, .aload 0, 0, 0, 0, 0, []), (17, 3, .getfield 0, 11, 4, 2, 0, [384]), (20, 3, .getfield 0, 0, 2, 0, 0, [94]), (23, 1, .ireturn, 0, 0, 0, 0, [])
  ]
def mc_X11_on : List mv_E := [
  (0, 1, .aload 0, 0, 0, 0, 0, []), (1, 3, .getfield 0, 11, 8, 1, 0, [388]), (4, 3, .ifCond .ne 0, 14, 0, 0, 0, []), (7, 1, .aload 0, 0, 0, 0, 0, []), (8, 2, .iconst 0, 0, 0, 0, (-3), []), (10, 3, .invokevirtual 0, 126, 2, 11, 1, [428, 430, 0, 15]),
  (13, 1, .ireturn, 0, 0, 0, 0, []), (14, 1, .aload 0, 0, 0, 0, 0, []), (15, 3, .getfield 0, 11, 3, 2, 0, [383]), (18, 1, .aload 0, 0, 0, 0, 0, []), (19, 3, .getfield 0, 11, 7, 2, 0, [387]), (22, 3, .invokevirtual 0, 84, 2, 10, 0, [652, 653, 654, 19]),
  (25, 1, .aload 0, 0, 0, 0, 0, []), (26, 3, .getfield 0, 11, 2, 2, 0, [382]), (29, 3, .invokevirtual 0, 12, 1, 1, 0, [675, 676, 677, 18]), (32, 1, .aload 0, 0, 0, 0, 0, []), (33, 3, .getfield 0, 11, 4, 2, 0, [384]), (36, 3, .getfield 0, 0, 2, 0, 0, [94]),
  (39, 1, .ireturn, 0, 0, 0, 0, [])
  ]
def mc_X11_count : List mv_E := [
  (0, 1, .iload 0, 1, 0, 0, 0, []), (1, 55, .tableswitch 0 0 0 #[], 143, 0, 0, 0, [56, 64, 72, 80, 88, 96, 104, 119, 127, 135]), (56, 1, .aload 0, 0, 0, 0, 0, []), (57, 3, .getfield 0, 11, 4, 2, 0, [384]), (60, 3, .getfield 0, 0, 0, 0, 0, [88]), (63, 1, .ireturn, 0, 0, 0, 0, []),
  (64, 1, .aload 0, 0, 0, 0, 0, []), (65, 3, .getfield 0, 11, 4, 2, 0, [384]), (68, 3, .getfield 0, 0, 1, 0, 0, [90]), (71, 1, .ireturn, 0, 0, 0, 0, []), (72, 1, .aload 0, 0, 0, 0, 0, []), (73, 3, .getfield 0, 11, 4, 2, 0, [384]),
  (76, 3, .getfield 0, 0, 4, 0, 0, [102]), (79, 1, .ireturn, 0, 0, 0, 0, []), (80, 1, .aload 0, 0, 0, 0, 0, []), (81, 3, .getfield 0, 11, 5, 2, 0, [385]), (84, 3, .getfield 0, 7, 0, 0, 0, [162]), (87, 1, .ireturn, 0, 0, 0, 0, []),
  (88, 1, .aload 0, 0, 0, 0, 0, []), (89, 3, .getfield 0, 11, 4, 2, 0, [384]), (92, 3, .getfield 0, 0, 3, 0, 0, [97]), (95, 1, .ireturn, 0, 0, 0, 0, []), (96, 1, .aload 0, 0, 0, 0, 0, []), (97, 3, .getfield 0, 11, 6, 2, 0, [386]),
  (100, 3, .getfield 0, 2, 0, 0, 0, [224]), (103, 1, .ireturn, 0, 0, 0, 0, []), (104, 1, .aload 0, 0, 0, 0, 0, []), (105, 3, .getfield 0, 11, 2, 2, 0, [382]), (108, 3, .invokevirtual 0, 14, 1, 1, 0, [459, 460, 461, 18]), (111, 1, .aload 0, 0, 0, 0, 0, []),
  (112, 3, .getfield 0, 11, 2, 2, 0, [382]), (115, 3, .invokevirtual 0, 29, 1, 1, 1, [683, 684, 685, 18]), (118, 1, .ireturn, 0, 0, 0, 0, []), (119, 1, .aload 0, 0, 0, 0, 0, []), (120, 3, .getfield 0, 11, 4, 2, 0, [384]), (123, 3, .invokevirtual 0, 10, 1, 0, 1, [687, 688, 689, 20]),
  (126, 1, .ireturn, 0, 0, 0, 0, []), (127, 1, .aload 0, 0, 0, 0, 0, []), (128, 3, .getfield 0, 11, 0, 2, 0, [380]), (131, 3, .getfield 0, 5, 1, 0, 0, [47]), (134, 1, .ireturn, 0, 0, 0, 0, []), (135, 1, .aload 0, 0, 0, 0, 0, []),
  (136, 3, .getfield 0, 11, 1, 2, 0, [381]), (139, 3, .getfield 0, 4, 1, 0, 0, [62]), (142, 1, .ireturn, 0, 0, 0, 0, []), (143, 1, .iload 0, 1, 0, 0, 0, []), (144, 2, .iconst 0, 0, 0, 0, 11, []), (146, 3, .if_icmp .lt 0, 167, 0, 0, 0, []),
  (149, 1, .iload 0, 1, 0, 0, 0, []), (150, 2, .iconst 0, 0, 0, 0, 16, []), (152, 3, .if_icmp .gt 0, 167, 0, 0, 0, []), (155, 1, .aload 0, 0, 0, 0, 0, []), (156, 3, .getfield 0, 11, 12, 2, 0, [392]), (159, 1, .iload 0, 1, 0, 0, 0, []),
  (160, 2, .iconst 0, 0, 0, 0, 10, []), (162, 1, .isub, 0, 0, 0, 0, []), (163, 1, .iaload, 0, 0, 0, 0, []), (164, 3, .goto 0, 169, 0, 0, 0, []), (167, 2, .iconst 0, 0, 0, 0, (-9), []), (169, 1, .ireturn, 0, 0, 0, 0, [])
  ]
def mc_X11_refuse : List mv_E := [
  (0, 1, .iload 0, 1, 0, 0, 0, []), (1, 1, .iconst 0, 0, 0, 0, (-1), []), (2, 3, .if_icmp .gt 0, 22, 0, 0, 0, []), (5, 1, .iload 0, 1, 0, 0, 0, []), (6, 2, .iconst 0, 0, 0, 0, (-6), []), (8, 3, .if_icmp .lt 0, 22, 0, 0, 0, []),
  (11, 1, .aload 0, 0, 0, 0, 0, []), (12, 3, .getfield 0, 11, 12, 2, 0, [392]), (15, 1, .iload 0, 1, 0, 0, 0, []), (16, 1, .ineg, 0, 0, 0, 0, []), (17, 1, .dup2, 0, 0, 0, 0, []), (18, 1, .iaload, 0, 0, 0, 0, []),
  (19, 1, .iconst 0, 0, 0, 0, 1, []), (20, 1, .iadd, 0, 0, 0, 0, []), (21, 1, .iastore, 0, 0, 0, 0, []), (22, 1, .iload 0, 1, 0, 0, 0, []), (23, 1, .ireturn, 0, 0, 0, 0, [])
  ]
def mc_X11_refuseLong : List mv_E := [
  (0, 3, .lconst 0, 0, 0, 0, 4000000000000000000, [533]), (3, 1, .aload 0, 0, 0, 0, 0, []), (4, 1, .iload 0, 1, 0, 0, 0, []), (5, 3, .invokevirtual 0, 126, 2, 11, 1, [428, 430, 0, 15]), (8, 1, .i2l, 0, 0, 0, 0, []), (9, 1, .lsub, 0, 0, 0, 0, []),
  (10, 1, .lreturn, 0, 0, 0, 0, [])
  ]
def mc_X11_unfit : List mv_E := [
  (0, 1, .iload 0, 0, 0, 0, 0, []), (1, 1, .iload 0, 1, 0, 0, 0, []), (2, 3, .if_icmp .ge 0, 8, 0, 0, 0, []), (5, 2, .iconst 0, 0, 0, 0, (-4), []), (7, 1, .ireturn, 0, 0, 0, 0, []), (8, 1, .iload 0, 0, 0, 0, 0, []),
  (9, 1, .iload 0, 2, 0, 0, 0, []), (10, 3, .if_icmp .le 0, 18, 0, 0, 0, []), (13, 2, .iconst 0, 0, 0, 0, (-6), []), (15, 3, .goto 0, 19, 0, 0, 0, []), (18, 1, .iconst 0, 0, 0, 0, 0, []), (19, 1, .ireturn, 0, 0, 0, 0, [])
  ]
def mc_X11_isNoUse : List mv_E := [
  (0, 1, .iload 0, 1, 0, 0, 0, []), (1, 3, .ifCond .lt 0, 15, 0, 0, 0, []), (4, 1, .iload 0, 1, 0, 0, 0, []), (5, 1, .aload 0, 0, 0, 0, 0, []), (6, 3, .getfield 0, 11, 5, 2, 0, [385]), (9, 3, .getfield 0, 7, 0, 0, 0, [162]),
  (12, 3, .if_icmp .lt 0, 19, 0, 0, 0, []), (15, 1, .iconst 0, 0, 0, 0, 1, []), (16, 3, .goto 0, 20, 0, 0, 0, []), (19, 1, .iconst 0, 0, 0, 0, 0, []), (20, 1, .ireturn, 1, 0, 0, 0, [])
  ]
def mc_X11_isNoMarket : List mv_E := [
  (0, 1, .iload 0, 1, 0, 0, 0, []), (1, 3, .ifCond .lt 0, 15, 0, 0, 0, []), (4, 1, .iload 0, 1, 0, 0, 0, []), (5, 1, .aload 0, 0, 0, 0, 0, []), (6, 3, .getfield 0, 11, 4, 2, 0, [384]), (9, 3, .getfield 0, 0, 4, 0, 0, [102]),
  (12, 3, .if_icmp .lt 0, 19, 0, 0, 0, []), (15, 1, .iconst 0, 0, 0, 0, 1, []), (16, 3, .goto 0, 20, 0, 0, 0, []), (19, 1, .iconst 0, 0, 0, 0, 0, []), (20, 1, .ireturn, 1, 0, 0, 0, [])
  ]
def mc_X11_offerOf : List mv_E := [
  (0, 1, .iload 0, 0, 0, 0, 0, []), (1, 1, .iconst 0, 0, 0, 0, 3, []), (2, 1, .imul, 0, 0, 0, 0, []), (3, 1, .iload 0, 1, 0, 0, 0, []), (4, 1, .iadd, 0, 0, 0, 0, []), (5, 1, .ireturn, 0, 0, 0, 0, [])
  ]
def mc_J9_floorDiv_f86c9 : List mv_E := [
  (0, 1, .lload 0, 0, 0, 0, 0, []), (1, 1, .lload 0, 2, 0, 0, 0, []), (2, 1, .ldiv, 0, 0, 0, 0, []), (3, 2, .lstore 0, 4, 0, 0, 0, []), (5, 1, .lload 0, 0, 0, 0, 0, []), (6, 1, .lload 0, 2, 0, 0, 0, []),
  (7, 1, .lxor, 0, 0, 0, 0, []), (8, 1, .lconst 0, 0, 0, 0, 0, []), (9, 1, .lcmp, 0, 0, 0, 0, []), (10, 3, .ifCond .ge 0, 27, 0, 0, 0, []), (13, 2, .lload 0, 4, 0, 0, 0, []), (15, 1, .lload 0, 2, 0, 0, 0, []),
  (16, 1, .lmul, 0, 0, 0, 0, []), (17, 1, .lload 0, 0, 0, 0, 0, []), (18, 1, .lcmp, 0, 0, 0, 0, []), (19, 3, .ifCond .eq 0, 27, 0, 0, 0, []), (22, 2, .lload 0, 4, 0, 0, 0, []), (24, 1, .lconst 0, 0, 0, 0, 1, []),
  (25, 1, .lsub, 0, 0, 0, 0, []), (26, 1, .lreturn, 0, 0, 0, 0, []), (27, 2, .lload 0, 4, 0, 0, 0, []), (29, 1, .lreturn, 0, 0, 0, 0, [])
  ]
def mc_J9_max_f86c9 : List mv_E := [
  (0, 1, .lload 0, 0, 0, 0, 0, []), (1, 1, .lload 0, 2, 0, 0, 0, []), (2, 1, .lcmp, 0, 0, 0, 0, []), (3, 3, .ifCond .lt 0, 10, 0, 0, 0, []), (6, 1, .lload 0, 0, 0, 0, 0, []), (7, 3, .goto 0, 11, 0, 0, 0, []),
  (10, 1, .lload 0, 2, 0, 0, 0, []), (11, 1, .lreturn, 0, 0, 0, 0, [])
  ]
def mc_J9_min_f86c9 : List mv_E := [
  (0, 1, .lload 0, 0, 0, 0, 0, []), (1, 1, .lload 0, 2, 0, 0, 0, []), (2, 1, .lcmp, 0, 0, 0, 0, []), (3, 3, .ifCond .gt 0, 10, 0, 0, 0, []), (6, 1, .lload 0, 0, 0, 0, 0, []), (7, 3, .goto 0, 11, 0, 0, 0, []),
  (10, 1, .lload 0, 2, 0, 0, 0, []), (11, 1, .lreturn, 0, 0, 0, 0, [])
  ]
def mc_L_law : List mv_E := [
  (0, 3, .new 0, 11, 13, 0, 0, [29, 30, 15]), (3, 1, .dup, 0, 0, 0, 0, []), (4, 3, .invokespecial 0, 85, 1, 88, 4736, [31, 32, 15]), (7, 1, .astore 0, 1, 0, 0, 0, []), (8, 1, .aload 0, 1, 0, 0, 0, []), (9, 1, .aload 0, 0, 0, 0, 0, []),
  (10, 3, .invokestatic 0, 230, 2, 1, 1, [701, 702, 14]), (13, 1, .istore 0, 2, 0, 0, 0, []), (14, 1, .iload 0, 2, 0, 0, 0, []), (15, 1, .aload 0, 1, 0, 0, 0, []), (16, 1, .iconst 0, 0, 0, 0, 1, []), (17, 3, .invokevirtual 0, 125, 2, 11, 1, [679, 680, 681, 15]),
  (20, 1, .imul, 0, 0, 0, 0, []), (21, 1, .istore 0, 3, 0, 0, 0, []), (22, 1, .aload 0, 1, 0, 0, 0, []), (23, 1, .iconst 0, 0, 0, 0, 3, []), (24, 3, .invokevirtual 0, 125, 2, 11, 1, [679, 680, 681, 15]), (27, 2, .istore 0, 4, 0, 0, 0, []),
  (29, 1, .aload 0, 0, 0, 0, 0, []), (30, 2, .iconst 0, 0, 0, 0, 20, []), (32, 3, .invokestatic 0, 227, 2, 1, 1, [691, 692, 14]), (35, 1, .iconst 0, 0, 0, 0, 4, []), (36, 3, .invokestatic 0, 228, 2, 1, 1, [694, 695, 14]), (39, 2, .istore 0, 5, 0, 0, 0, []),
  (41, 2, .iconst 0, 0, 0, 0, 12, []), (43, 2, .newarray .int, 100, 0, 0, 0, [53]), (45, 2, .astore 0, 6, 0, 0, 0, []), (47, 1, .iconst 0, 0, 0, 0, 0, []), (48, 2, .istore 0, 7, 0, 0, 0, []), (50, 2, .iload 0, 7, 0, 0, 0, []),
  (52, 1, .iload 0, 3, 0, 0, 0, []), (53, 3, .if_icmp .ge 0, 140, 0, 0, 0, []), (56, 2, .aload 0, 6, 0, 0, 0, []), (58, 2, .iload 0, 7, 0, 0, 0, []), (60, 1, .aload 0, 0, 0, 0, 0, []), (61, 2, .iconst 0, 0, 0, 0, 21, []),
  (63, 3, .invokestatic 0, 227, 2, 1, 1, [691, 692, 14]), (66, 1, .iconst 0, 0, 0, 0, 2, []), (67, 2, .iload 0, 7, 0, 0, 0, []), (69, 1, .imul, 0, 0, 0, 0, []), (70, 1, .ishr, 0, 0, 0, 0, []), (71, 1, .iconst 0, 0, 0, 0, 4, []),
  (72, 3, .invokestatic 0, 228, 2, 1, 1, [694, 695, 14]), (75, 1, .iastore, 0, 0, 0, 0, []), (76, 1, .aload 0, 1, 0, 0, 0, []), (77, 2, .iload 0, 7, 0, 0, 0, []), (79, 1, .iload 0, 2, 0, 0, 0, []), (80, 3, .invokestatic 0, 229, 2, 1, 1, [698, 699, 14]),
  (83, 2, .aload 0, 6, 0, 0, 0, []), (85, 2, .iload 0, 7, 0, 0, 0, []), (87, 1, .iaload, 0, 0, 0, 0, []), (88, 3, .invokevirtual 0, 118, 3, 11, 1, [620, 621, 622, 15]), (91, 1, .iconst 0, 0, 0, 0, 1, []), (92, 3, .if_icmp .ne 0, 132, 0, 0, 0, []),
  (95, 1, .aload 0, 1, 0, 0, 0, []), (96, 2, .iload 0, 7, 0, 0, 0, []), (98, 1, .iload 0, 2, 0, 0, 0, []), (99, 3, .invokestatic 0, 229, 2, 1, 1, [698, 699, 14]), (102, 2, .aload 0, 6, 0, 0, 0, []), (104, 2, .iload 0, 7, 0, 0, 0, []),
  (106, 1, .iaload, 0, 0, 0, 0, []), (107, 3, .invokevirtual 0, 118, 3, 11, 1, [620, 621, 622, 15]), (110, 3, .ifCond .ne 0, 132, 0, 0, 0, []), (113, 1, .aload 0, 1, 0, 0, 0, []), (114, 2, .iload 0, 7, 0, 0, 0, []), (116, 1, .iload 0, 2, 0, 0, 0, []),
  (117, 3, .invokestatic 0, 229, 2, 1, 1, [698, 699, 14]), (120, 1, .iconst 0, 0, 0, 0, 3, []), (121, 3, .invokevirtual 0, 88, 3, 11, 1, [420, 421, 422, 15]), (124, 2, .aload 0, 6, 0, 0, 0, []), (126, 2, .iload 0, 7, 0, 0, 0, []), (128, 1, .iaload, 0, 0, 0, 0, []),
  (129, 3, .if_icmp .eq 0, 134, 0, 0, 0, []), (132, 1, .iconst 0, 0, 0, 0, 0, []), (133, 1, .ireturn, 1, 0, 0, 0, []), (134, 3, .iinc 0 0, 7, 0, 0, 1, []), (137, 3, .goto 0, 50, 0, 0, 0, []), (140, 1, .aload 0, 0, 0, 0, 0, []),
  (141, 2, .iconst 0, 0, 0, 0, 22, []), (143, 3, .invokestatic 0, 227, 2, 1, 1, [691, 692, 14]), (146, 1, .iconst 0, 0, 0, 0, 2, []), (147, 3, .invokestatic 0, 228, 2, 1, 1, [694, 695, 14]), (150, 3, .ifCond .ne 0, 187, 0, 0, 0, []), (153, 1, .aload 0, 1, 0, 0, 0, []),
  (154, 1, .iconst 0, 0, 0, 0, 0, []), (155, 1, .iconst 0, 0, 0, 0, 0, []), (156, 1, .aload 0, 0, 0, 0, 0, []), (157, 2, .iconst 0, 0, 0, 0, 22, []), (159, 3, .invokestatic 0, 227, 2, 1, 1, [691, 692, 14]), (162, 1, .iconst 0, 0, 0, 0, 1, []),
  (163, 1, .ishr, 0, 0, 0, 0, []), (164, 2, .iconst 0, 0, 0, 0, 60, []), (166, 3, .invokestatic 0, 228, 2, 1, 1, [694, 695, 14]), (169, 1, .aload 0, 0, 0, 0, 0, []), (170, 2, .iconst 0, 0, 0, 0, 22, []), (172, 3, .invokestatic 0, 227, 2, 1, 1, [691, 692, 14]),
  (175, 2, .iconst 0, 0, 0, 0, 8, []), (177, 1, .ishr, 0, 0, 0, 0, []), (178, 2, .iconst 0, 0, 0, 0, 40, []), (180, 3, .invokestatic 0, 228, 2, 1, 1, [694, 695, 14]), (183, 3, .invokevirtual 0, 103, 5, 11, 1, [548, 549, 550, 15]), (186, 1, .pop, 0, 0, 0, 0, []),
  (187, 1, .aload 0, 1, 0, 0, 0, []), (188, 3, .invokevirtual 0, 123, 1, 11, 1, [648, 649, 650, 15]), (191, 1, .iload 0, 3, 0, 0, 0, []), (192, 3, .if_icmp .eq 0, 197, 0, 0, 0, []), (195, 1, .iconst 0, 0, 0, 0, 0, []), (196, 1, .ireturn, 1, 0, 0, 0, []),
  (197, 3, .lconst 0, 0, 0, 0, (-1), [774]), (200, 2, .lstore 0, 7, 0, 0, 0, []), (202, 2, .iconst 0, 0, 0, 0, (-9), []), (204, 2, .istore 0, 9, 0, 0, 0, []), (206, 1, .iconst 0, 0, 0, 0, (-1), []), (207, 2, .istore 0, 10, 0, 0, 0, []),
  (209, 2, .iload 0, 10, 0, 0, 0, []), (211, 2, .iconst 0, 0, 0, 0, 80, []), (213, 3, .if_icmp .ge 0, 392, 0, 0, 0, []), (216, 2, .iload 0, 10, 0, 0, 0, []), (218, 3, .ifCond .lt 0, 246, 0, 0, 0, []), (221, 2, .iload 0, 10, 0, 0, 0, []),
  (223, 2, .iconst 0, 0, 0, 0, 10, []), (225, 1, .irem, 0, 0, 0, 0, []), (226, 1, .aload 0, 1, 0, 0, 0, []), (227, 1, .iconst 0, 0, 0, 0, 1, []), (228, 3, .invokevirtual 0, 125, 2, 11, 1, [679, 680, 681, 15]), (231, 3, .if_icmp .ge 0, 386, 0, 0, 0, []),
  (234, 2, .iload 0, 10, 0, 0, 0, []), (236, 2, .iconst 0, 0, 0, 0, 10, []), (238, 1, .idiv, 0, 0, 0, 0, []), (239, 1, .iload 0, 2, 0, 0, 0, []), (240, 3, .if_icmp .lt 0, 246, 0, 0, 0, []), (243, 3, .goto 0, 386, 0, 0, 0, []),
  (246, 2, .iload 0, 10, 0, 0, 0, []), (248, 3, .ifCond .lt 0, 276, 0, 0, 0, []), (251, 1, .aload 0, 1, 0, 0, 0, []), (252, 2, .iload 0, 10, 0, 0, 0, []), (254, 1, .iconst 0, 0, 0, 0, 3, []), (255, 3, .invokevirtual 0, 88, 3, 11, 1, [420, 421, 422, 15]),
  (258, 2, .iload 0, 5, 0, 0, 0, []), (260, 3, .if_icmp .ne 0, 386, 0, 0, 0, []), (263, 1, .aload 0, 1, 0, 0, 0, []), (264, 2, .iload 0, 10, 0, 0, 0, []), (266, 1, .iconst 0, 0, 0, 0, 0, []), (267, 3, .invokevirtual 0, 100, 3, 11, 1, [455, 456, 457, 15]),
  (270, 3, .ifCond .ge 0, 276, 0, 0, 0, []), (273, 3, .goto 0, 386, 0, 0, 0, []), (276, 2, .iload 0, 10, 0, 0, 0, []), (278, 3, .ifCond .lt 0, 289, 0, 0, 0, []), (281, 1, .aload 0, 1, 0, 0, 0, []), (282, 2, .iload 0, 10, 0, 0, 0, []),
  (284, 1, .iconst 0, 0, 0, 0, 1, []), (285, 3, .invokevirtual 0, 119, 3, 11, 1, [624, 625, 626, 15]), (288, 1, .pop, 0, 0, 0, 0, []), (289, 1, .aload 0, 1, 0, 0, 0, []), (290, 1, .iconst 0, 0, 0, 0, 1, []), (291, 3, .invokevirtual 0, 106, 2, 11, 1, [563, 564, 565, 15]),
  (294, 1, .pop, 0, 0, 0, 0, []), (295, 1, .lconst 0, 0, 0, 0, 0, []), (296, 2, .lstore 0, 11, 0, 0, 0, []), (298, 1, .iconst 0, 0, 0, 0, 0, []), (299, 2, .istore 0, 13, 0, 0, 0, []), (301, 2, .iload 0, 13, 0, 0, 0, []),
  (303, 1, .iload 0, 3, 0, 0, 0, []), (304, 3, .if_icmp .ge 0, 342, 0, 0, 0, []), (307, 2, .lload 0, 11, 0, 0, 0, []), (309, 2, .aload 0, 6, 0, 0, 0, []), (311, 2, .iload 0, 13, 0, 0, 0, []), (313, 1, .iaload, 0, 0, 0, 0, []),
  (314, 2, .iload 0, 5, 0, 0, 0, []), (316, 3, .if_icmp .ne 0, 332, 0, 0, 0, []), (319, 1, .aload 0, 1, 0, 0, 0, []), (320, 2, .iload 0, 13, 0, 0, 0, []), (322, 1, .iload 0, 2, 0, 0, 0, []), (323, 3, .invokestatic 0, 229, 2, 1, 1, [698, 699, 14]),
  (326, 3, .invokevirtual 0, 101, 2, 11, 2, [525, 526, 527, 15]), (329, 3, .goto 0, 333, 0, 0, 0, []), (332, 1, .lconst 0, 0, 0, 0, 0, []), (333, 1, .ladd, 0, 0, 0, 0, []), (334, 2, .lstore 0, 11, 0, 0, 0, []), (336, 3, .iinc 0 0, 13, 0, 0, 1, []),
  (339, 3, .goto 0, 301, 0, 0, 0, []), (342, 1, .aload 0, 1, 0, 0, 0, []), (343, 3, .invokevirtual 0, 124, 1, 11, 1, [671, 672, 673, 15]), (346, 1, .iload 0, 3, 0, 0, 0, []), (347, 3, .if_icmp .eq 0, 352, 0, 0, 0, []), (350, 1, .iconst 0, 0, 0, 0, 0, []),
  (351, 1, .ireturn, 1, 0, 0, 0, []), (352, 2, .iload 0, 10, 0, 0, 0, []), (354, 3, .ifCond .lt 0, 368, 0, 0, 0, []), (357, 2, .lload 0, 11, 0, 0, 0, []), (359, 2, .lload 0, 7, 0, 0, 0, []), (361, 1, .lcmp, 0, 0, 0, 0, []),
  (362, 3, .ifCond .gt 0, 368, 0, 0, 0, []), (365, 3, .goto 0, 386, 0, 0, 0, []), (368, 2, .lload 0, 11, 0, 0, 0, []), (370, 2, .lstore 0, 7, 0, 0, 0, []), (372, 2, .iload 0, 10, 0, 0, 0, []), (374, 3, .ifCond .ge 0, 382, 0, 0, 0, []),
  (377, 2, .iconst 0, 0, 0, 0, (-9), []), (379, 3, .goto 0, 384, 0, 0, 0, []), (382, 2, .iload 0, 10, 0, 0, 0, []), (384, 2, .istore 0, 9, 0, 0, 0, []), (386, 3, .iinc 0 0, 10, 0, 0, 1, []), (389, 3, .goto 0, 209, 0, 0, 0, []),
  (392, 1, .aload 0, 1, 0, 0, 0, []), (393, 1, .iconst 0, 0, 0, 0, (-1), []), (394, 3, .invokevirtual 0, 101, 2, 11, 2, [525, 526, 527, 15]), (397, 2, .lstore 0, 10, 0, 0, 0, []), (399, 1, .aload 0, 1, 0, 0, 0, []), (400, 2, .iload 0, 5, 0, 0, 0, []),
  (402, 3, .invokevirtual 0, 120, 2, 11, 1, [628, 629, 630, 15]), (405, 2, .iload 0, 9, 0, 0, 0, []), (407, 3, .if_icmp .ne 0, 450, 0, 0, 0, []), (410, 1, .aload 0, 1, 0, 0, 0, []), (411, 1, .iconst 0, 0, 0, 0, (-1), []), (412, 3, .invokevirtual 0, 101, 2, 11, 2, [525, 526, 527, 15]),
  (415, 2, .lload 0, 10, 0, 0, 0, []), (417, 1, .lcmp, 0, 0, 0, 0, []), (418, 3, .ifCond .ne 0, 450, 0, 0, 0, []), (421, 1, .aload 0, 1, 0, 0, 0, []), (422, 1, .iconst 0, 0, 0, 0, 4, []), (423, 3, .invokevirtual 0, 120, 2, 11, 1, [628, 629, 630, 15]),
  (426, 2, .iconst 0, 0, 0, 0, (-6), []), (428, 3, .if_icmp .ne 0, 450, 0, 0, 0, []), (431, 1, .aload 0, 1, 0, 0, 0, []), (432, 1, .iconst 0, 0, 0, 0, (-1), []), (433, 3, .invokevirtual 0, 120, 2, 11, 1, [628, 629, 630, 15]), (436, 2, .iconst 0, 0, 0, 0, (-4), []),
  (438, 3, .if_icmp .ne 0, 450, 0, 0, 0, []), (441, 1, .aload 0, 1, 0, 0, 0, []), (442, 2, .iconst 0, 0, 0, 0, 7, []), (444, 3, .invokevirtual 0, 125, 2, 11, 1, [679, 680, 681, 15]), (447, 3, .ifCond .eq 0, 452, 0, 0, 0, []), (450, 1, .iconst 0, 0, 0, 0, 0, []),
  (451, 1, .ireturn, 1, 0, 0, 0, []), (452, 1, .iconst 0, 0, 0, 0, 0, []), (453, 2, .istore 0, 12, 0, 0, 0, []), (455, 2, .iload 0, 12, 0, 0, 0, []), (457, 2, .iload 0, 4, 0, 0, 0, []), (459, 3, .if_icmp .ge 0, 612, 0, 0, 0, []),
  (462, 1, .aload 0, 0, 0, 0, 0, []), (463, 2, .iconst 0, 0, 0, 0, 23, []), (465, 2, .iload 0, 12, 0, 0, 0, []), (467, 1, .iadd, 0, 0, 0, 0, []), (468, 3, .invokestatic 0, 227, 2, 1, 1, [691, 692, 14]), (471, 3, .iconst 0, 0, 0, 0, 200, []),
  (474, 3, .invokestatic 0, 228, 2, 1, 1, [694, 695, 14]), (477, 2, .istore 0, 13, 0, 0, 0, []), (479, 2, .iconst 0, 0, 0, 0, 12, []), (481, 2, .newarray .int, 100, 0, 0, 0, [53]), (483, 2, .astore 0, 14, 0, 0, 0, []), (485, 1, .iconst 0, 0, 0, 0, 0, []),
  (486, 2, .istore 0, 15, 0, 0, 0, []), (488, 2, .iload 0, 15, 0, 0, 0, []), (490, 1, .iload 0, 3, 0, 0, 0, []), (491, 3, .if_icmp .ge 0, 516, 0, 0, 0, []), (494, 2, .aload 0, 14, 0, 0, 0, []), (496, 2, .iload 0, 15, 0, 0, 0, []),
  (498, 1, .aload 0, 1, 0, 0, 0, []), (499, 2, .iload 0, 15, 0, 0, 0, []), (501, 1, .iload 0, 2, 0, 0, 0, []), (502, 3, .invokestatic 0, 229, 2, 1, 1, [698, 699, 14]), (505, 1, .iconst 0, 0, 0, 0, 0, []), (506, 3, .invokevirtual 0, 100, 3, 11, 1, [455, 456, 457, 15]),
  (509, 1, .iastore, 0, 0, 0, 0, []), (510, 3, .iinc 0 0, 15, 0, 0, 1, []), (513, 3, .goto 0, 488, 0, 0, 0, []), (516, 1, .aload 0, 1, 0, 0, 0, []), (517, 2, .iload 0, 12, 0, 0, 0, []), (519, 2, .iload 0, 13, 0, 0, 0, []),
  (521, 3, .invokevirtual 0, 117, 3, 11, 1, [607, 608, 609, 15]), (524, 2, .istore 0, 15, 0, 0, 0, []), (526, 1, .aload 0, 1, 0, 0, 0, []), (527, 2, .iload 0, 12, 0, 0, 0, []), (529, 2, .iload 0, 13, 0, 0, 0, []), (531, 3, .invokevirtual 0, 97, 3, 11, 1, [436, 437, 438, 15]),
  (534, 2, .istore 0, 16, 0, 0, 0, []), (536, 1, .iconst 0, 0, 0, 0, 0, []), (537, 2, .istore 0, 17, 0, 0, 0, []), (539, 1, .iconst 0, 0, 0, 0, 0, []), (540, 2, .istore 0, 18, 0, 0, 0, []), (542, 2, .iload 0, 18, 0, 0, 0, []),
  (544, 1, .iload 0, 3, 0, 0, 0, []), (545, 3, .if_icmp .ge 0, 588, 0, 0, 0, []), (548, 2, .iload 0, 17, 0, 0, 0, []), (550, 2, .aload 0, 14, 0, 0, 0, []), (552, 2, .iload 0, 18, 0, 0, 0, []), (554, 1, .iaload, 0, 0, 0, 0, []),
  (555, 2, .iload 0, 12, 0, 0, 0, []), (557, 3, .if_icmp .ne 0, 578, 0, 0, 0, []), (560, 1, .aload 0, 1, 0, 0, 0, []), (561, 2, .iload 0, 18, 0, 0, 0, []), (563, 1, .iload 0, 2, 0, 0, 0, []), (564, 3, .invokestatic 0, 229, 2, 1, 1, [698, 699, 14]),
  (567, 1, .iconst 0, 0, 0, 0, 0, []), (568, 3, .invokevirtual 0, 100, 3, 11, 1, [455, 456, 457, 15]), (571, 3, .ifCond .ge 0, 578, 0, 0, 0, []), (574, 1, .iconst 0, 0, 0, 0, 1, []), (575, 3, .goto 0, 579, 0, 0, 0, []), (578, 1, .iconst 0, 0, 0, 0, 0, []),
  (579, 1, .iadd, 0, 0, 0, 0, []), (580, 2, .istore 0, 17, 0, 0, 0, []), (582, 3, .iinc 0 0, 18, 0, 0, 1, []), (585, 3, .goto 0, 542, 0, 0, 0, []), (588, 1, .aload 0, 1, 0, 0, 0, []), (589, 2, .iload 0, 12, 0, 0, 0, []),
  (591, 2, .iload 0, 16, 0, 0, 0, []), (593, 3, .invokevirtual 0, 97, 3, 11, 1, [436, 437, 438, 15]), (596, 1, .pop, 0, 0, 0, 0, []), (597, 2, .iload 0, 15, 0, 0, 0, []), (599, 2, .iload 0, 17, 0, 0, 0, []), (601, 3, .if_icmp .eq 0, 606, 0, 0, 0, []),
  (604, 1, .iconst 0, 0, 0, 0, 0, []), (605, 1, .ireturn, 1, 0, 0, 0, []), (606, 3, .iinc 0 0, 12, 0, 0, 1, []), (609, 3, .goto 0, 455, 0, 0, 0, []), (612, 1, .aload 0, 1, 0, 0, 0, []), (613, 3, .invokevirtual 0, 124, 1, 11, 1, [671, 672, 673, 15]),
  (616, 1, .iload 0, 3, 0, 0, 0, []), (617, 3, .if_icmp .ne 0, 693, 0, 0, 0, []), (620, 1, .aload 0, 1, 0, 0, 0, []), (621, 1, .iconst 0, 0, 0, 0, (-1), []), (622, 3, .invokevirtual 0, 101, 2, 11, 2, [525, 526, 527, 15]), (625, 2, .lload 0, 10, 0, 0, 0, []),
  (627, 1, .lcmp, 0, 0, 0, 0, []), (628, 3, .ifCond .ne 0, 693, 0, 0, 0, []), (631, 1, .aload 0, 1, 0, 0, 0, []), (632, 1, .iconst 0, 0, 0, 0, 0, []), (633, 1, .iconst 0, 0, 0, 0, (-1), []), (634, 3, .invokevirtual 0, 118, 3, 11, 1, [620, 621, 622, 15]),
  (637, 1, .iconst 0, 0, 0, 0, 1, []), (638, 3, .if_icmp .ne 0, 693, 0, 0, 0, []), (641, 1, .aload 0, 1, 0, 0, 0, []), (642, 1, .iconst 0, 0, 0, 0, 0, []), (643, 1, .iconst 0, 0, 0, 0, 3, []), (644, 3, .invokevirtual 0, 88, 3, 11, 1, [420, 421, 422, 15]),
  (647, 2, .iconst 0, 0, 0, 0, (-9), []), (649, 3, .if_icmp .ne 0, 693, 0, 0, 0, []), (652, 1, .aload 0, 1, 0, 0, 0, []), (653, 1, .iconst 0, 0, 0, 0, 0, []), (654, 1, .iconst 0, 0, 0, 0, 4, []), (655, 3, .invokevirtual 0, 118, 3, 11, 1, [620, 621, 622, 15]),
  (658, 2, .iconst 0, 0, 0, 0, (-6), []), (660, 3, .if_icmp .ne 0, 693, 0, 0, 0, []), (663, 1, .aload 0, 1, 0, 0, 0, []), (664, 2, .iconst 0, 0, 0, 0, 99, []), (666, 1, .iconst 0, 0, 0, 0, 0, []), (667, 3, .invokevirtual 0, 118, 3, 11, 1, [620, 621, 622, 15]),
  (670, 1, .iconst 0, 0, 0, 0, (-1), []), (671, 3, .if_icmp .ne 0, 693, 0, 0, 0, []), (674, 3, .new 0, 11, 13, 0, 0, [29, 30, 15]), (677, 1, .dup, 0, 0, 0, 0, []), (678, 3, .invokespecial 0, 85, 1, 88, 4736, [31, 32, 15]), (681, 3, .invokevirtual 0, 124, 1, 11, 1, [671, 672, 673, 15]),
  (684, 2, .iconst 0, 0, 0, 0, (-3), []), (686, 3, .if_icmp .ne 0, 693, 0, 0, 0, []), (689, 1, .iconst 0, 0, 0, 0, 1, []), (690, 3, .goto 0, 694, 0, 0, 0, []), (693, 1, .iconst 0, 0, 0, 0, 0, []), (694, 1, .ireturn, 1, 0, 0, 0, [])
  ]
def mc_L_cell : List mv_E := [
  (0, 1, .iload 0, 1, 0, 0, 0, []), (1, 1, .aload 0, 0, 0, 0, 0, []), (2, 1, .arraylength, 0, 0, 0, 0, []), (3, 3, .if_icmp .ge 0, 12, 0, 0, 0, []), (6, 1, .aload 0, 0, 0, 0, 0, []), (7, 1, .iload 0, 1, 0, 0, 0, []),
  (8, 1, .iaload, 0, 0, 0, 0, []), (9, 3, .goto 0, 20, 0, 0, 0, []), (12, 3, .iconst 0, 0, 0, 0, 7919, []), (15, 1, .iload 0, 1, 0, 0, 0, []), (16, 1, .imul, 0, 0, 0, 0, []), (17, 2, .iconst 0, 0, 0, 0, 12, []),
  (19, 1, .iadd, 0, 0, 0, 0, []), (20, 1, .ireturn, 0, 0, 0, 0, [])
  ]
def mc_L_pick : List mv_E := [
  (0, 1, .iload 0, 0, 0, 0, 0, []), (1, 2, .iconst 0, 0, 0, 0, 2147483647, [697]), (3, 1, .iand, 0, 0, 0, 0, []), (4, 1, .iload 0, 1, 0, 0, 0, []), (5, 1, .irem, 0, 0, 0, 0, []), (6, 1, .ireturn, 0, 0, 0, 0, [])
  ]
def mc_L_cellOf : List mv_E := [
  (0, 2, .iconst 0, 0, 0, 0, 10, []), (2, 1, .iload 0, 0, 0, 0, 0, []), (3, 1, .iload 0, 1, 0, 0, 0, []), (4, 1, .irem, 0, 0, 0, 0, []), (5, 1, .imul, 0, 0, 0, 0, []), (6, 1, .iload 0, 0, 0, 0, 0, []),
  (7, 1, .iload 0, 1, 0, 0, 0, []), (8, 1, .idiv, 0, 0, 0, 0, []), (9, 1, .iadd, 0, 0, 0, 0, []), (10, 1, .ireturn, 0, 0, 0, 0, [])
  ]
def mc_L_land : List mv_E := [
  (0, 1, .iconst 0, 0, 0, 0, 2, []), (1, 1, .aload 0, 1, 0, 0, 0, []), (2, 1, .iconst 0, 0, 0, 0, 0, []), (3, 3, .invokestatic 0, 227, 2, 1, 1, [691, 692, 14]), (6, 1, .iconst 0, 0, 0, 0, 3, []), (7, 3, .invokestatic 0, 228, 2, 1, 1, [694, 695, 14]),
  (10, 1, .iadd, 0, 0, 0, 0, []), (11, 1, .istore 0, 2, 0, 0, 0, []), (12, 1, .iconst 0, 0, 0, 0, 1, []), (13, 1, .aload 0, 1, 0, 0, 0, []), (14, 1, .iconst 0, 0, 0, 0, 0, []), (15, 3, .invokestatic 0, 227, 2, 1, 1, [691, 692, 14]),
  (18, 1, .iconst 0, 0, 0, 0, 2, []), (19, 1, .ishr, 0, 0, 0, 0, []), (20, 1, .iconst 0, 0, 0, 0, 3, []), (21, 3, .invokestatic 0, 228, 2, 1, 1, [694, 695, 14]), (24, 1, .iadd, 0, 0, 0, 0, []), (25, 1, .istore 0, 3, 0, 0, 0, []),
  (26, 1, .iconst 0, 0, 0, 0, 0, []), (27, 2, .istore 0, 4, 0, 0, 0, []), (29, 2, .iload 0, 4, 0, 0, 0, []), (31, 1, .iload 0, 3, 0, 0, 0, []), (32, 3, .if_icmp .ge 0, 102, 0, 0, 0, []), (35, 1, .iconst 0, 0, 0, 0, 0, []),
  (36, 2, .istore 0, 5, 0, 0, 0, []), (38, 2, .iload 0, 5, 0, 0, 0, []), (40, 1, .iload 0, 2, 0, 0, 0, []), (41, 3, .if_icmp .ge 0, 79, 0, 0, 0, []), (44, 1, .aload 0, 0, 0, 0, 0, []), (45, 1, .iconst 0, 0, 0, 0, 1, []),
  (46, 2, .iconst 0, 0, 0, 0, 48, []), (48, 1, .aload 0, 1, 0, 0, 0, []), (49, 1, .iconst 0, 0, 0, 0, 1, []), (50, 3, .invokestatic 0, 227, 2, 1, 1, [691, 692, 14]), (53, 1, .iconst 0, 0, 0, 0, 2, []), (54, 1, .iload 0, 2, 0, 0, 0, []),
  (55, 2, .iload 0, 4, 0, 0, 0, []), (57, 1, .imul, 0, 0, 0, 0, []), (58, 2, .iload 0, 5, 0, 0, 0, []), (60, 1, .iadd, 0, 0, 0, 0, []), (61, 1, .imul, 0, 0, 0, 0, []), (62, 1, .ishr, 0, 0, 0, 0, []),
  (63, 1, .iconst 0, 0, 0, 0, 4, []), (64, 3, .invokestatic 0, 228, 2, 1, 1, [694, 695, 14]), (67, 1, .iadd, 0, 0, 0, 0, []), (68, 1, .i2l, 0, 0, 0, 0, []), (69, 3, .invokevirtual 0, 86, 3, 11, 1, [704, 705, 706, 15]), (72, 1, .pop, 0, 0, 0, 0, []),
  (73, 3, .iinc 0 0, 5, 0, 0, 1, []), (76, 3, .goto 0, 38, 0, 0, 0, []), (79, 2, .iload 0, 4, 0, 0, 0, []), (81, 1, .iload 0, 3, 0, 0, 0, []), (82, 1, .iconst 0, 0, 0, 0, 1, []), (83, 1, .isub, 0, 0, 0, 0, []),
  (84, 3, .if_icmp .ge 0, 96, 0, 0, 0, []), (87, 1, .aload 0, 0, 0, 0, 0, []), (88, 1, .iconst 0, 0, 0, 0, 1, []), (89, 3, .lconst 0, 0, 0, 0, 47, [713]), (92, 3, .invokevirtual 0, 86, 3, 11, 1, [704, 705, 706, 15]), (95, 1, .pop, 0, 0, 0, 0, []),
  (96, 3, .iinc 0 0, 4, 0, 0, 1, []), (99, 3, .goto 0, 29, 0, 0, 0, []), (102, 1, .aload 0, 0, 0, 0, 0, []), (103, 3, .invokevirtual 0, 87, 1, 11, 1, [714, 715, 716, 15]), (106, 1, .pop, 0, 0, 0, 0, []), (107, 1, .iconst 0, 0, 0, 0, 0, []),
  (108, 2, .istore 0, 4, 0, 0, 0, []), (110, 2, .iload 0, 4, 0, 0, 0, []), (112, 1, .iconst 0, 0, 0, 0, 3, []), (113, 3, .if_icmp .ge 0, 204, 0, 0, 0, []), (116, 1, .aload 0, 1, 0, 0, 0, []), (117, 1, .iconst 0, 0, 0, 0, 2, []),
  (118, 2, .iload 0, 4, 0, 0, 0, []), (120, 1, .iadd, 0, 0, 0, 0, []), (121, 3, .invokestatic 0, 227, 2, 1, 1, [691, 692, 14]), (124, 2, .istore 0, 5, 0, 0, 0, []), (126, 1, .aload 0, 0, 0, 0, 0, []), (127, 2, .iload 0, 5, 0, 0, 0, []),
  (129, 1, .iload 0, 2, 0, 0, 0, []), (130, 1, .iload 0, 3, 0, 0, 0, []), (131, 1, .imul, 0, 0, 0, 0, []), (132, 3, .invokestatic 0, 228, 2, 1, 1, [694, 695, 14]), (135, 1, .iload 0, 2, 0, 0, 0, []), (136, 3, .invokestatic 0, 229, 2, 1, 1, [698, 699, 14]),
  (139, 2, .iload 0, 5, 0, 0, 0, []), (141, 1, .iload 0, 2, 0, 0, 0, []), (142, 1, .iload 0, 3, 0, 0, 0, []), (143, 1, .imul, 0, 0, 0, 0, []), (144, 3, .invokestatic 0, 228, 2, 1, 1, [694, 695, 14]), (147, 1, .iconst 0, 0, 0, 0, 1, []),
  (148, 1, .iadd, 0, 0, 0, 0, []), (149, 1, .iload 0, 2, 0, 0, 0, []), (150, 3, .invokestatic 0, 229, 2, 1, 1, [698, 699, 14]), (153, 1, .iconst 0, 0, 0, 0, 1, []), (154, 2, .iload 0, 5, 0, 0, 0, []), (156, 2, .iconst 0, 0, 0, 0, 6, []),
  (158, 1, .ishr, 0, 0, 0, 0, []), (159, 1, .iconst 0, 0, 0, 0, 3, []), (160, 3, .invokestatic 0, 228, 2, 1, 1, [694, 695, 14]), (163, 1, .iadd, 0, 0, 0, 0, []), (164, 3, .invokevirtual 0, 89, 4, 11, 1, [733, 734, 735, 15]), (167, 1, .pop, 0, 0, 0, 0, []),
  (168, 1, .aload 0, 0, 0, 0, 0, []), (169, 2, .iload 0, 5, 0, 0, 0, []), (171, 2, .iconst 0, 0, 0, 0, 9, []), (173, 1, .ishr, 0, 0, 0, 0, []), (174, 1, .iload 0, 2, 0, 0, 0, []), (175, 1, .iload 0, 3, 0, 0, 0, []),
  (176, 1, .imul, 0, 0, 0, 0, []), (177, 3, .invokestatic 0, 228, 2, 1, 1, [694, 695, 14]), (180, 1, .iload 0, 2, 0, 0, 0, []), (181, 3, .invokestatic 0, 229, 2, 1, 1, [698, 699, 14]), (184, 2, .iload 0, 5, 0, 0, 0, []), (186, 2, .iconst 0, 0, 0, 0, 14, []),
  (188, 1, .ishr, 0, 0, 0, 0, []), (189, 2, .iconst 0, 0, 0, 0, 20, []), (191, 3, .invokestatic 0, 228, 2, 1, 1, [694, 695, 14]), (194, 3, .invokevirtual 0, 91, 3, 11, 1, [750, 751, 752, 15]), (197, 1, .pop, 0, 0, 0, 0, []), (198, 3, .iinc 0 0, 4, 0, 0, 1, []),
  (201, 3, .goto 0, 110, 0, 0, 0, []), (204, 1, .aload 0, 0, 0, 0, 0, []), (205, 1, .iconst 0, 0, 0, 0, 0, []), (206, 3, .invokevirtual 0, 93, 2, 11, 1, [754, 755, 756, 15]), (209, 1, .pop, 0, 0, 0, 0, []), (210, 1, .aload 0, 1, 0, 0, 0, []),
  (211, 1, .iconst 0, 0, 0, 0, 5, []), (212, 3, .invokestatic 0, 227, 2, 1, 1, [691, 692, 14]), (215, 1, .iconst 0, 0, 0, 0, 2, []), (216, 3, .invokestatic 0, 228, 2, 1, 1, [694, 695, 14]), (219, 3, .ifCond .ne 0, 236, 0, 0, 0, []), (222, 1, .aload 0, 0, 0, 0, 0, []),
  (223, 1, .iload 0, 2, 0, 0, 0, []), (224, 1, .iload 0, 3, 0, 0, 0, []), (225, 1, .imul, 0, 0, 0, 0, []), (226, 1, .iconst 0, 0, 0, 0, 1, []), (227, 1, .isub, 0, 0, 0, 0, []), (228, 1, .iload 0, 2, 0, 0, 0, []),
  (229, 3, .invokestatic 0, 229, 2, 1, 1, [698, 699, 14]), (232, 3, .invokevirtual 0, 93, 2, 11, 1, [754, 755, 756, 15]), (235, 1, .pop, 0, 0, 0, 0, []), (236, 1, .iconst 0, 0, 0, 0, 1, []), (237, 1, .aload 0, 1, 0, 0, 0, []), (238, 2, .iconst 0, 0, 0, 0, 6, []),
  (240, 3, .invokestatic 0, 227, 2, 1, 1, [691, 692, 14]), (243, 1, .iconst 0, 0, 0, 0, 3, []), (244, 3, .invokestatic 0, 228, 2, 1, 1, [694, 695, 14]), (247, 1, .iadd, 0, 0, 0, 0, []), (248, 2, .istore 0, 4, 0, 0, 0, []), (250, 1, .iconst 0, 0, 0, 0, 0, []),
  (251, 2, .istore 0, 5, 0, 0, 0, []), (253, 2, .iload 0, 5, 0, 0, 0, []), (255, 2, .iload 0, 4, 0, 0, 0, []), (257, 3, .if_icmp .ge 0, 445, 0, 0, 0, []), (260, 1, .aload 0, 1, 0, 0, 0, []), (261, 2, .iconst 0, 0, 0, 0, 7, []),
  (263, 2, .iload 0, 5, 0, 0, 0, []), (265, 1, .iadd, 0, 0, 0, 0, []), (266, 3, .invokestatic 0, 227, 2, 1, 1, [691, 692, 14]), (269, 2, .istore 0, 6, 0, 0, 0, []), (271, 1, .aload 0, 0, 0, 0, 0, []), (272, 2, .iload 0, 6, 0, 0, 0, []),
  (274, 2, .iconst 0, 0, 0, 0, 6, []), (276, 3, .invokestatic 0, 228, 2, 1, 1, [694, 695, 14]), (279, 2, .iload 0, 6, 0, 0, 0, []), (281, 1, .iconst 0, 0, 0, 0, 3, []), (282, 1, .ishr, 0, 0, 0, 0, []), (283, 2, .iconst 0, 0, 0, 0, 12, []),
  (285, 3, .invokestatic 0, 228, 2, 1, 1, [694, 695, 14]), (288, 2, .iload 0, 6, 0, 0, 0, []), (290, 2, .iconst 0, 0, 0, 0, 7, []), (292, 1, .ishr, 0, 0, 0, 0, []), (293, 1, .iconst 0, 0, 0, 0, 4, []), (294, 3, .invokestatic 0, 228, 2, 1, 1, [694, 695, 14]),
  (297, 2, .iload 0, 6, 0, 0, 0, []), (299, 2, .iconst 0, 0, 0, 0, 9, []), (301, 1, .ishr, 0, 0, 0, 0, []), (302, 2, .iconst 0, 0, 0, 0, 120, []), (304, 3, .invokestatic 0, 228, 2, 1, 1, [694, 695, 14]), (307, 2, .iload 0, 6, 0, 0, 0, []),
  (309, 2, .iconst 0, 0, 0, 0, 16, []), (311, 1, .ishr, 0, 0, 0, 0, []), (312, 2, .iconst 0, 0, 0, 0, 9, []), (314, 3, .invokestatic 0, 228, 2, 1, 1, [694, 695, 14]), (317, 3, .invokevirtual 0, 94, 6, 11, 1, [758, 759, 760, 15]), (320, 1, .pop, 0, 0, 0, 0, []),
  (321, 2, .iload 0, 6, 0, 0, 0, []), (323, 2, .iconst 0, 0, 0, 0, 6, []), (325, 3, .invokestatic 0, 228, 2, 1, 1, [694, 695, 14]), (328, 1, .iconst 0, 0, 0, 0, 3, []), (329, 3, .if_icmp .ne 0, 352, 0, 0, 0, []), (332, 1, .aload 0, 0, 0, 0, 0, []),
  (333, 2, .iload 0, 5, 0, 0, 0, []), (335, 2, .iload 0, 6, 0, 0, 0, []), (337, 2, .iconst 0, 0, 0, 0, 20, []), (339, 1, .ishr, 0, 0, 0, 0, []), (340, 2, .iconst 0, 0, 0, 0, 40, []), (342, 3, .invokestatic 0, 228, 2, 1, 1, [694, 695, 14]),
  (345, 2, .iconst 0, 0, 0, 0, 20, []), (347, 1, .isub, 0, 0, 0, 0, []), (348, 3, .invokevirtual 0, 95, 3, 11, 1, [766, 767, 768, 15]), (351, 1, .pop, 0, 0, 0, 0, []), (352, 1, .iconst 0, 0, 0, 0, 0, []), (353, 2, .istore 0, 7, 0, 0, 0, []),
  (355, 2, .iload 0, 7, 0, 0, 0, []), (357, 1, .aload 0, 0, 0, 0, 0, []), (358, 1, .iconst 0, 0, 0, 0, 2, []), (359, 3, .invokevirtual 0, 125, 2, 11, 1, [679, 680, 681, 15]), (362, 3, .if_icmp .ge 0, 400, 0, 0, 0, []), (365, 1, .aload 0, 0, 0, 0, 0, []),
  (366, 2, .iload 0, 5, 0, 0, 0, []), (368, 2, .iload 0, 7, 0, 0, 0, []), (370, 1, .aload 0, 1, 0, 0, 0, []), (371, 2, .iconst 0, 0, 0, 0, 10, []), (373, 2, .iload 0, 5, 0, 0, 0, []), (375, 1, .iadd, 0, 0, 0, 0, []),
  (376, 3, .invokestatic 0, 227, 2, 1, 1, [691, 692, 14]), (379, 2, .iconst 0, 0, 0, 0, 8, []), (381, 2, .iload 0, 7, 0, 0, 0, []), (383, 1, .imul, 0, 0, 0, 0, []), (384, 1, .ishr, 0, 0, 0, 0, []), (385, 2, .iconst 0, 0, 0, 0, 40, []),
  (387, 3, .invokestatic 0, 228, 2, 1, 1, [694, 695, 14]), (390, 3, .invokevirtual 0, 96, 4, 11, 1, [770, 771, 772, 15]), (393, 1, .pop, 0, 0, 0, 0, []), (394, 3, .iinc 0 0, 7, 0, 0, 1, []), (397, 3, .goto 0, 355, 0, 0, 0, []), (400, 1, .aload 0, 1, 0, 0, 0, []),
  (401, 2, .iconst 0, 0, 0, 0, 13, []), (403, 3, .invokestatic 0, 227, 2, 1, 1, [691, 692, 14]), (406, 1, .iconst 0, 0, 0, 0, 3, []), (407, 3, .invokestatic 0, 228, 2, 1, 1, [694, 695, 14]), (410, 3, .ifCond .ne 0, 439, 0, 0, 0, []), (413, 1, .aload 0, 0, 0, 0, 0, []),
  (414, 2, .iload 0, 5, 0, 0, 0, []), (416, 1, .aload 0, 1, 0, 0, 0, []), (417, 2, .iconst 0, 0, 0, 0, 13, []), (419, 3, .invokestatic 0, 227, 2, 1, 1, [691, 692, 14]), (422, 1, .iconst 0, 0, 0, 0, 2, []), (423, 2, .iconst 0, 0, 0, 0, 6, []),
  (425, 2, .iload 0, 5, 0, 0, 0, []), (427, 1, .imul, 0, 0, 0, 0, []), (428, 1, .iadd, 0, 0, 0, 0, []), (429, 1, .ishr, 0, 0, 0, 0, []), (430, 2, .iconst 0, 0, 0, 0, 40, []), (432, 3, .invokestatic 0, 228, 2, 1, 1, [694, 695, 14]),
  (435, 3, .invokevirtual 0, 97, 3, 11, 1, [436, 437, 438, 15]), (438, 1, .pop, 0, 0, 0, 0, []), (439, 3, .iinc 0 0, 5, 0, 0, 1, []), (442, 3, .goto 0, 253, 0, 0, 0, []), (445, 1, .aload 0, 0, 0, 0, 0, []), (446, 1, .iconst 0, 0, 0, 0, (-1), []),
  (447, 1, .aload 0, 1, 0, 0, 0, []), (448, 2, .iconst 0, 0, 0, 0, 14, []), (450, 3, .invokestatic 0, 227, 2, 1, 1, [691, 692, 14]), (453, 1, .iconst 0, 0, 0, 0, 3, []), (454, 3, .invokestatic 0, 228, 2, 1, 1, [694, 695, 14]), (457, 3, .ifCond .ne 0, 476, 0, 0, 0, []),
  (460, 1, .aload 0, 1, 0, 0, 0, []), (461, 2, .iconst 0, 0, 0, 0, 14, []), (463, 3, .invokestatic 0, 227, 2, 1, 1, [691, 692, 14]), (466, 1, .iconst 0, 0, 0, 0, 2, []), (467, 1, .ishr, 0, 0, 0, 0, []), (468, 2, .iconst 0, 0, 0, 0, 60, []),
  (470, 3, .invokestatic 0, 228, 2, 1, 1, [694, 695, 14]), (473, 3, .goto 0, 477, 0, 0, 0, []), (476, 1, .iconst 0, 0, 0, 0, 0, []), (477, 3, .invokevirtual 0, 97, 3, 11, 1, [436, 437, 438, 15]), (480, 1, .pop, 0, 0, 0, 0, []), (481, 1, .iload 0, 2, 0, 0, 0, []),
  (482, 1, .ireturn, 0, 0, 0, 0, [])
  ]
def mr_X0_init : mv_T := (yX0_init, cX0_init, 2, none, RX0, mc_X0_init, 1, 8, 439, 20)
def mr_X0_layOut : mv_T := (yX0_layOut, cX0_layOut, 5, none, RX0, mc_X0_layOut, 1, 0, 0, 21)
def mr_X0_clearAway : mv_T := (yX0_clearAway, cX0_clearAway, 2, none, RX0, mc_X0_clearAway, 0, 0, 0, 0)
def mr_X0_takeFrom : mv_T := (yX0_takeFrom, cX0_takeFrom, 2, none, RX0, mc_X0_takeFrom, 1, 0, 0, 26)
def mr_X0_placeOf : mv_T := (yX0_placeOf, cX0_placeOf, 2, (some .int), RX0, mc_X0_placeOf, 0, 0, 0, 0)
def mr_X0_beside : mv_T := (yX0_beside, cX0_beside, 5, (some .int), RX0, mc_X0_beside, 0, 0, 0, 0)
def mr_X0_sideTowards : mv_T := (yX0_sideTowards, cX0_sideTowards, 4, (some .int), RX0, mc_X0_sideTowards, 1, 0, 0, 24)
def mr_X0_roadAt : mv_T := (yX0_roadAt, cX0_roadAt, 4, (some .int), RX0, mc_X0_roadAt, 0, 0, 0, 0)
def mr_X0_layRoad : mv_T := (yX0_layRoad, cX0_layRoad, 5, none, RX0, mc_X0_layRoad, 1, 0, 0, 24)
def mr_X0_marketOn : mv_T := (yX0_marketOn, cX0_marketOn, 3, (some .int), RX0, mc_X0_marketOn, 0, 0, 0, 0)
def mr_X0_idleAcres : mv_T := (yX0_idleAcres, cX0_idleAcres, 3, (some .int), RX0, mc_X0_idleAcres, 0, 0, 0, 0)
def mr_X1_init : mv_T := (yX1_init, cX1_init, 1, none, RX1, mc_X1_init, 3, 37, 2636, 61)
def mr_X1_forgetWays : mv_T := (yX1_forgetWays, cX1_forgetWays, 1, none, RX1, mc_X1_forgetWays, 0, 0, 0, 0)
def mr_X1_forgetBids : mv_T := (yX1_forgetBids, cX1_forgetBids, 1, none, RX1, mc_X1_forgetBids, 0, 0, 0, 0)
def mr_X1_settle : mv_T := (yX1_settle, cX1_settle, 1, none, RX1, mc_X1_settle, 4, 0, 0, 96)
def mr_X1_reckonBids : mv_T := (yX1_reckonBids, cX1_reckonBids, 2, none, RX1, mc_X1_reckonBids, 3, 0, 0, 75)
def mr_X1_reckonOffer : mv_T := (yX1_reckonOffer, cX1_reckonOffer, 8, none, RX1, mc_X1_reckonOffer, 2, 0, 0, 48)
def mr_X1_wayOf : mv_T := (yX1_wayOf, cX1_wayOf, 4, (some .int), RX1, mc_X1_wayOf, 0, 0, 0, 0)
def mr_X1_takerOf : mv_T := (yX1_takerOf, cX1_takerOf, 2, (some .int), RX1, mc_X1_takerOf, 1, 0, 0, 28)
def mr_X1_greatest : mv_T := (yX1_greatest, cX1_greatest, 9, (some .int), RX1, mc_X1_greatest, 0, 0, 0, 0)
def mr_X1_rentAt : mv_T := (yX1_rentAt, cX1_rentAt, 2, (some .long), RX1, mc_X1_rentAt, 1, 0, 0, 24)
def mr_X1_rentBy : mv_T := (yX1_rentBy, cX1_rentBy, 5, (some .long), RX1, mc_X1_rentBy, 0, 0, 0, 0)
def mr_X1_allRents : mv_T := (yX1_allRents, cX1_allRents, 4, (some .long), RX1, mc_X1_allRents, 2, 0, 0, 45)
def mr_X1_rentsOf : mv_T := (yX1_rentsOf, cX1_rentsOf, 5, (some .long), RX1, mc_X1_rentsOf, 2, 0, 0, 49)
def mr_X1_isTakenBy : mv_T := (yX1_isTakenBy, cX1_isTakenBy, 3, (some .boolean), RX1, mc_X1_isTakenBy, 0, 0, 0, 0)
def mr_X1_wasteAcres : mv_T := (yX1_wasteAcres, cX1_wasteAcres, 3, (some .int), RX1, mc_X1_wasteAcres, 0, 0, 0, 0)
def mr_X1_fallingWaste : mv_T := (yX1_fallingWaste, cX1_fallingWaste, 6, (some .int), RX1, mc_X1_fallingWaste, 3, 0, 0, 75)
def mr_X2_init : mv_T := (yX2_init, cX2_init, 1, none, RX2, mc_X2_init, 1, 4, 32, 20)
def mr_X2_takeFrom : mv_T := (yX2_takeFrom, cX2_takeFrom, 2, none, RX2, mc_X2_takeFrom, 1, 0, 0, 26)
def mr_X3_init : mv_T := (yX3_init, cX3_init, 1, none, RX3, mc_X3_init, 1, 7, 127, 20)
def mr_X4_init : mv_T := (yX4_init, cX4_init, 1, none, RX4, mc_X4_init, 1, 1, 48, 20)
def mr_X5_init : mv_T := (yX5_init, cX5_init, 1, none, RX5, mc_X5_init, 1, 1, 60, 20)
def mr_X5_append : mv_T := (yX5_append, cX5_append, 7, none, RX5, mc_X5_append, 0, 0, 0, 0)
def mr_X5_firstFault : mv_T := (yX5_firstFault, cX5_firstFault, 5, (some .int), RX5, mc_X5_firstFault, 1, 0, 0, 20)
def mr_X5_isDigit : mv_T := (yX5_isDigit, cX5_isDigit, 1, (some .boolean), RX5, mc_X5_isDigit, 0, 0, 0, 0)
def mr_X6_init : mv_T := (yX6_init, cX6_init, 1, none, RX6, mc_X6_init, 1, 4, 978, 20)
def mr_X6_clearingPrice : mv_T := (yX6_clearingPrice, cX6_clearingPrice, 8, (some .int), RX6, mc_X6_clearingPrice, 2, 0, 0, 60)
def mr_X6_comingAt : mv_T := (yX6_comingAt, cX6_comingAt, 5, (some .int), RX6, mc_X6_comingAt, 0, 0, 0, 0)
def mr_X6_leastPriceFor : mv_T := (yX6_leastPriceFor, cX6_leastPriceFor, 13, (some .int), RX6, mc_X6_leastPriceFor, 1, 0, 0, 28)
def mr_X6_runRounds : mv_T := (yX6_runRounds, cX6_runRounds, 4, (some .int), RX6, mc_X6_runRounds, 4, 0, 0, 112)
def mr_X6_runRound : mv_T := (yX6_runRound, cX6_runRound, 6, (some .boolean), RX6, mc_X6_runRound, 3, 0, 0, 87)
def mr_X6_bestToHold : mv_T := (yX6_bestToHold, cX6_bestToHold, 11, (some .int), RX6, mc_X6_bestToHold, 5, 0, 0, 136)
def mr_X6_rentsAfterRound : mv_T := (yX6_rentsAfterRound, cX6_rentsAfterRound, 5, (some .long), RX6, mc_X6_rentsAfterRound, 4, 0, 0, 112)
def mr_X7_init : mv_T := (yX7_init, cX7_init, 1, none, RX7, mc_X7_init, 1, 12, 300, 20)
def mr_X7_append : mv_T := (yX7_append, cX7_append, 7, (some .int), RX7, mc_X7_append, 0, 0, 0, 0)
def mr_X7_appendPiece : mv_T := (yX7_appendPiece, cX7_appendPiece, 5, none, RX7, mc_X7_appendPiece, 0, 0, 0, 0)
def mr_X7_takeFrom : mv_T := (yX7_takeFrom, cX7_takeFrom, 2, none, RX7, mc_X7_takeFrom, 1, 0, 0, 26)
def mr_X7_yieldOn : mv_T := (yX7_yieldOn, cX7_yieldOn, 3, (some .int), RX7, mc_X7_yieldOn, 0, 0, 0, 0)
def mr_X7_reckonedPrice : mv_T := (yX7_reckonedPrice, cX7_reckonedPrice, 4, (some .int), RX7, mc_X7_reckonedPrice, 0, 0, 0, 0)
def mr_X7_payAtHome : mv_T := (yX7_payAtHome, cX7_payAtHome, 6, (some .long), RX7, mc_X7_payAtHome, 1, 0, 0, 23)
def mr_X7_carriage : mv_T := (yX7_carriage, cX7_carriage, 4, (some .long), RX7, mc_X7_carriage, 1, 0, 0, 22)
def mr_X7_canGo : mv_T := (yX7_canGo, cX7_canGo, 3, (some .boolean), RX7, mc_X7_canGo, 0, 0, 0, 0)
def mr_X7_boughtAt : mv_T := (yX7_boughtAt, cX7_boughtAt, 5, (some .int), RX7, mc_X7_boughtAt, 0, 0, 0, 0)
def mr_X8_init : mv_T := (yX8_init, cX8_init, 1, none, RX8, mc_X8_init, 1, 6, 912, 20)
def mr_X8_reckonFoot : mv_T := (yX8_reckonFoot, cX8_reckonFoot, 5, none, RX8, mc_X8_reckonFoot, 2, 0, 0, 57)
def mr_X8_reckonRoads : mv_T := (yX8_reckonRoads, cX8_reckonRoads, 5, none, RX8, mc_X8_reckonRoads, 2, 0, 0, 57)
def mr_X8_search : mv_T := (yX8_search, cX8_search, 11, none, RX8, mc_X8_search, 1, 0, 0, 27)
def mr_X8_leastFrom : mv_T := (yX8_leastFrom, cX8_leastFrom, 8, (some .int), RX8, mc_X8_leastFrom, 0, 0, 0, 0)
def mr_X9_init : mv_T := (yX9_init, cX9_init, 1, none, RX9, mc_X9_init, 1, 1, 48, 20)
def mr_X10_init : mv_T := (yX10_init, cX10_init, 1, none, RX10, mc_X10_init, 2, 27, 803, 41)
def mr_X10_takeFrom : mv_T := (yX10_takeFrom, cX10_takeFrom, 2, none, RX10, mc_X10_takeFrom, 2, 0, 0, 47)
def mr_X11_init : mv_T := (yX11_init, cX11_init, 1, none, RX11, mc_X11_init, 4, 86, 4736, 81)
def mr_X11_feed : mv_T := (yX11_feed, cX11_feed, 4, (some .int), RX11, mc_X11_feed, 1, 0, 0, 26)
def mr_X11_read : mv_T := (yX11_read, cX11_read, 2, (some .int), RX11, mc_X11_read, 2, 0, 0, 45)
def mr_X11_acre : mv_T := (yX11_acre, cX11_acre, 4, (some .int), RX11, mc_X11_acre, 1, 0, 0, 22)
def mr_X11_road : mv_T := (yX11_road, cX11_road, 7, (some .int), RX11, mc_X11_road, 2, 0, 0, 48)
def mr_X11_toll : mv_T := (yX11_toll, cX11_toll, 6, (some .int), RX11, mc_X11_toll, 1, 0, 0, 22)
def mr_X11_market : mv_T := (yX11_market, cX11_market, 4, (some .int), RX11, mc_X11_market, 1, 0, 0, 22)
def mr_X11_use : mv_T := (yX11_use, cX11_use, 7, (some .int), RX11, mc_X11_use, 1, 0, 0, 26)
def mr_X11_year : mv_T := (yX11_year, cX11_year, 3, (some .int), RX11, mc_X11_year, 1, 0, 0, 21)
def mr_X11_price : mv_T := (yX11_price, cX11_price, 7, (some .int), RX11, mc_X11_price, 1, 0, 0, 22)
def mr_X11_tax : mv_T := (yX11_tax, cX11_tax, 5, (some .int), RX11, mc_X11_tax, 2, 0, 0, 45)
def mr_X11_rentTax : mv_T := (yX11_rentTax, cX11_rentTax, 4, (some .int), RX11, mc_X11_rentTax, 1, 0, 0, 22)
def mr_X11_goes : mv_T := (yX11_goes, cX11_goes, 5, (some .int), RX11, mc_X11_goes, 5, 0, 0, 116)
def mr_X11_rent : mv_T := (yX11_rent, cX11_rent, 3, (some .long), RX11, mc_X11_rent, 5, 0, 0, 116)
def mr_X11_piece : mv_T := (yX11_piece, cX11_piece, 6, (some .int), RX11, mc_X11_piece, 1, 0, 0, 24)
def mr_X11_rounds : mv_T := (yX11_rounds, cX11_rounds, 4, (some .int), RX11, mc_X11_rounds, 5, 0, 0, 135)
def mr_X11_falls : mv_T := (yX11_falls, cX11_falls, 4, (some .int), RX11, mc_X11_falls, 5, 0, 0, 116)
def mr_X11_own : mv_T := (yX11_own, cX11_own, 5, (some .int), RX11, mc_X11_own, 1, 0, 0, 22)
def mr_X11_held : mv_T := (yX11_held, cX11_held, 5, (some .int), RX11, mc_X11_held, 1, 0, 0, 21)
def mr_X11_hold : mv_T := (yX11_hold, cX11_hold, 3, (some .int), RX11, mc_X11_hold, 6, 0, 0, 166)
def mr_X11_image : mv_T := (yX11_image, cX11_image, 1, (some .int), RX11, mc_X11_image, 3, 0, 0, 68)
def mr_X11_on : mv_T := (yX11_on, cX11_on, 1, (some .int), RX11, mc_X11_on, 3, 0, 0, 68)
def mr_X11_count : mv_T := (yX11_count, cX11_count, 2, (some .int), RX11, mc_X11_count, 5, 0, 0, 116)
def mr_X11_refuse : mv_T := (yX11_refuse, cX11_refuse, 2, (some .int), RX11, mc_X11_refuse, 0, 0, 0, 0)
def mr_X11_refuseLong : mv_T := (yX11_refuseLong, cX11_refuseLong, 2, (some .long), RX11, mc_X11_refuseLong, 1, 0, 0, 21)
def mr_X11_unfit : mv_T := (yX11_unfit, cX11_unfit, 3, (some .int), RX11, mc_X11_unfit, 0, 0, 0, 0)
def mr_X11_isNoUse : mv_T := (yX11_isNoUse, cX11_isNoUse, 2, (some .boolean), RX11, mc_X11_isNoUse, 0, 0, 0, 0)
def mr_X11_isNoMarket : mv_T := (yX11_isNoMarket, cX11_isNoMarket, 2, (some .boolean), RX11, mc_X11_isNoMarket, 0, 0, 0, 0)
def mr_X11_offerOf : mv_T := (yX11_offerOf, cX11_offerOf, 2, (some .int), RX11, mc_X11_offerOf, 0, 0, 0, 0)
def mr_J9_floorDiv_f86c9 : mv_T := (yJ9_floorDiv_f86c9, cJ9_floorDiv_f86c9, 6, (some .long), RJ9, mc_J9_floorDiv_f86c9, 0, 0, 0, 0)
def mr_J9_max_f86c9 : mv_T := (yJ9_max_f86c9, cJ9_max_f86c9, 4, (some .long), RJ9, mc_J9_max_f86c9, 0, 0, 0, 0)
def mr_J9_min_f86c9 : mv_T := (yJ9_min_f86c9, cJ9_min_f86c9, 4, (some .long), RJ9, mc_J9_min_f86c9, 0, 0, 0, 0)
def mr_L_law : mv_T := (yL_law, cL_law, 19, (some .boolean), RL, mc_L_law, 7, 200, 10000, 188)
def mr_L_cell : mv_T := (yL_cell, cL_cell, 2, (some .int), RL, mc_L_cell, 0, 0, 0, 0)
def mr_L_pick : mv_T := (yL_pick, cL_pick, 2, (some .int), RL, mc_L_pick, 0, 0, 0, 0)
def mr_L_cellOf : mv_T := (yL_cellOf, cL_cellOf, 2, (some .int), RL, mc_L_cellOf, 0, 0, 0, 0)
def mr_L_land : mv_T := (yL_land, cL_land, 8, (some .int), RL, mc_L_land, 6, 0, 0, 137)
def mv_TT : List mv_T := [
  mr_X0_init, mr_X0_layOut, mr_X0_clearAway, mr_X0_takeFrom, mr_X0_placeOf, mr_X0_beside, mr_X0_sideTowards, mr_X0_roadAt,
  mr_X0_layRoad, mr_X0_marketOn, mr_X0_idleAcres, mr_X1_init, mr_X1_forgetWays, mr_X1_forgetBids, mr_X1_settle, mr_X1_reckonBids,
  mr_X1_reckonOffer, mr_X1_wayOf, mr_X1_takerOf, mr_X1_greatest, mr_X1_rentAt, mr_X1_rentBy, mr_X1_allRents, mr_X1_rentsOf,
  mr_L_law, mr_X1_isTakenBy, mr_L_law, mr_L_law, mr_L_law, mr_X1_wasteAcres, mr_X1_fallingWaste, mr_X2_init,
  mr_L_law, mr_X2_takeFrom, mr_X3_init, mr_L_law, mr_L_law, mr_L_law, mr_L_law, mr_L_law,
  mr_L_law, mr_L_law, mr_X4_init, mr_L_law, mr_L_law, mr_X5_init, mr_X5_append, mr_X5_firstFault,
  mr_X5_isDigit, mr_X6_init, mr_X6_clearingPrice, mr_X6_comingAt, mr_X6_leastPriceFor, mr_X6_runRounds, mr_X6_runRound, mr_X6_bestToHold,
  mr_X6_rentsAfterRound, mr_X7_init, mr_X7_append, mr_X7_appendPiece, mr_X7_takeFrom, mr_X7_yieldOn, mr_X7_reckonedPrice, mr_X7_payAtHome,
  mr_X7_carriage, mr_X7_canGo, mr_X7_boughtAt, mr_X8_init, mr_X8_reckonFoot, mr_X8_reckonRoads, mr_L_law, mr_X8_search,
  mr_X8_leastFrom, mr_X9_init, mr_L_law, mr_L_law, mr_L_law, mr_L_law, mr_L_law, mr_L_law,
  mr_L_law, mr_L_law, mr_L_law, mr_X10_init, mr_X10_takeFrom, mr_X11_init, mr_X11_feed, mr_X11_read,
  mr_X11_acre, mr_X11_road, mr_L_law, mr_X11_toll, mr_L_law, mr_X11_market, mr_X11_use, mr_X11_year,
  mr_X11_price, mr_X11_tax, mr_X11_rentTax, mr_L_law, mr_X11_goes, mr_X11_rent, mr_L_law, mr_X11_piece,
  mr_L_law, mr_L_law, mr_X11_rounds, mr_L_law, mr_L_law, mr_L_law, mr_L_law, mr_L_law,
  mr_L_law, mr_L_law, mr_L_law, mr_L_law, mr_L_law, mr_X11_falls, mr_X11_own, mr_X11_held,
  mr_X11_hold, mr_L_law, mr_L_law, mr_X11_image, mr_X11_on, mr_X11_count, mr_X11_refuse, mr_X11_refuseLong,
  mr_X11_unfit, mr_X11_isNoUse, mr_X11_isNoMarket, mr_X11_offerOf, mr_L_law, mr_L_law, mr_L_law, mr_L_law,
  mr_L_law, mr_L_law, mr_L_law, mr_L_law, mr_L_law, mr_L_law, mr_L_law, mr_L_law,
  mr_L_law, mr_L_law, mr_L_law, mr_L_law, mr_L_law, mr_L_law, mr_L_law, mr_L_law,
  mr_L_law, mr_L_law, mr_L_law, mr_L_law, mr_L_law, mr_L_law, mr_L_law, mr_L_law,
  mr_L_law, mr_L_law, mr_L_law, mr_L_law, mr_L_law, mr_L_law, mr_L_law, mr_L_law,
  mr_L_law, mr_L_law, mr_L_law, mr_L_law, mr_L_law, mr_L_law, mr_L_law, mr_L_law,
  mr_L_law, mr_L_law, mr_L_law, mr_L_law, mr_L_law, mr_L_law, mr_L_law, mr_L_law,
  mr_L_law, mr_L_law, mr_L_law, mr_L_law, mr_L_law, mr_L_law, mr_L_law, mr_L_law,
  mr_L_law, mr_L_law, mr_L_law, mr_L_law, mr_L_law, mr_L_law, mr_L_law, mr_L_law,
  mr_L_law, mr_L_law, mr_L_law, mr_L_law, mr_L_law, mr_L_law, mr_L_law, mr_L_law,
  mr_L_law, mr_L_law, mr_L_law, mr_L_law, mr_L_law, mr_L_law, mr_L_law, mr_L_law,
  mr_L_law, mr_L_law, mr_L_law, mr_L_law, mr_L_law, mr_L_law, mr_J9_floorDiv_f86c9, mr_L_law,
  mr_J9_max_f86c9, mr_J9_min_f86c9, mr_L_law, mr_L_cell, mr_L_pick, mr_L_cellOf, mr_L_land
  ]
def mv_r (i : Nat) : mv_T := mv_TT.getD i mr_L_law
end
section
/-! WHAT A PROGRAM DECIDES OF THE CODE LISTS: that they are the methods' bytes, and that the tables have the words which they need -/
def mv_gd : Jvm.Cond → Bool
  | .methodLinkNest _ _ _ _ => true
  | w => goodWord w
def mv_tbl : List Jvm.Cond := lw_tbl.filter mv_gd
def mv_hw (ts : List Nat) (k : Nat) (w : Jvm.Cond) : Bool := decide ((ts[k]?).bind (fun i => lw_tbl[i]?) = some w) && mv_gd w
theorem mv_hw_mem {ts : List Nat} {k : Nat} {w : Jvm.Cond} (h : mv_hw ts k w = true) : w ∈ mv_tbl := by
  unfold mv_hw at h
  simp only [Bool.and_eq_true, decide_eq_true_eq] at h
  obtain ⟨h1, h2⟩ := h
  cases ht : ts[k]? with
  | none => rw [ht] at h1; cases h1
  | some i =>
    rw [ht] at h1
    exact List.mem_filter.mpr ⟨List.mem_of_getElem? h1, h2⟩
def mv_tys : List (Nat → FieldType) := [tyX0, tyX1, tyX2, tyX3, tyX4, tyX5, tyX6, tyX7, tyX8, tyX9, tyX10, tyX11]
def mv_ty (ci k : Nat) : FieldType := (mv_tys.getD ci tyX0) k
def mv_kd (ci k : Nat) : Nat := match mv_ty ci k with
  | .int => 0
  | .boolean => 1
  | .object _ => 2
  | .array _ => 2
  | _ => 3
def mv_nf (ci : Nat) : Nat := ((vwCl[ci]?).map (fun q => q.2.2)).getD 0
def mv_tg (ty : ArrayType) : Nat := match ty with
  | .int => 100
  | .long => 101
  | .boolean => 102
  | _ => 0
/-- a link of a call: plain, or to a nest mate's private method -/
def mv_lk (ts : List Nat) (own : String) (idx : Nat) (y : MethodName) : Bool :=
  mv_hw ts 0 (.methodLink own idx y) || (match ((ts[0]?).bind (fun i => lw_tbl[i]?) : Option Jvm.Cond) with
    | some (.methodLinkNest o j z _) => decide (o = own) && (decide (j = idx) && decide (z = y))
    | _ => false)
def mv_cl (r q : mv_T) (n : Nat) : Bool :=
  decide ((mt_y q).cls ≠ "java/lang/invoke/MethodHandle" ∧ (mt_y q).cls ≠ "java/lang/invoke/VarHandle") && (decide ((parseMethodDescriptor (mt_y q).desc).map (fun d => d.parameters.length) = some n) &&
    (Nat.ble (mt_fr q + 1) (mt_fr r) && (Nat.ble (8 + (mt_nL q + 11) + mt_lo q) (mt_lo r) && Nat.blt (mt_mc q) 150)))
def mv_fl (r : mv_T) (idx a b c : Nat) (ts : List Nat) : Bool := match vwCl[a]? with
  | some (_, T, N) => Nat.blt b N && (mv_hw ts 0 (.fieldLink (mt_own r) idx (T b).1 (T b).2.1 (T b).2.2.1) && decide (c = mv_kd a b))
  | none => false
def mv_fit (r : mv_T) (pc ln : Nat) (ni : Instr) (a b c : Nat) (v : Int) (ts : List Nat) (i : Instr) : Bool := match ni with
  | .iconst _ => decide (mv_R32 v) && (match i with
    | .iconst n => decide (ln = 1) && decide (Int32.ofInt n = Int32.ofInt v)
    | .bipush n => decide (ln = 2) && decide ((Int8.ofInt n).toInt32 = Int32.ofInt v)
    | .sipush n => decide (ln = 3) && decide ((Int16.ofInt n).toInt32 = Int32.ofInt v)
    | .ldc idx => decide (ln = 2) && mv_hw ts 0 (.constant (mt_own r) idx (Int32.ofInt v))
    | .ldc_w idx => decide (ln = 3) && mv_hw ts 0 (.constant (mt_own r) idx (Int32.ofInt v))
    | _ => false)
  | .lconst _ => decide (mv_R64 v) && (match i with
    | .lconst n => decide (ln = 1) && decide (Int64.ofNat (n : Nat) = Int64.ofInt v)
    | .ldc2_w idx => decide (ln = 3) && mv_hw ts 0 (.constantLong (mt_own r) idx (Int64.ofInt v))
    | _ => false)
  | .iload _ => (match i with
    | .iload_n k => decide (ln = 1) && decide ((k : Nat) = a)
    | .iload k => decide (ln = 2) && decide (k = a)
    | _ => false)
  | .lload _ => (match i with
    | .lload_n k => decide (ln = 1) && decide ((k : Nat) = a)
    | .lload k => decide (ln = 2) && decide (k = a)
    | _ => false)
  | .aload _ => (match i with
    | .aload_n k => decide (ln = 1) && decide ((k : Nat) = a)
    | .aload k => decide (ln = 2) && decide (k = a)
    | _ => false)
  | .istore _ => Nat.blt a (mt_nL r) && (match i with
    | .istore_n k => decide (ln = 1) && decide ((k : Nat) = a)
    | .istore k => decide (ln = 2) && decide (k = a)
    | _ => false)
  | .lstore _ => Nat.blt (a + 1) (mt_nL r) && (match i with
    | .lstore_n k => decide (ln = 1) && decide ((k : Nat) = a)
    | .lstore k => decide (ln = 2) && decide (k = a)
    | _ => false)
  | .astore _ => Nat.blt a (mt_nL r) && (match i with
    | .astore_n k => decide (ln = 1) && decide ((k : Nat) = a)
    | .astore k => decide (ln = 2) && decide (k = a)
    | _ => false)
  | .iinc _ _ => Nat.blt a (mt_nL r) && (match i with
    | .iinc k n => decide (ln = 3) && (decide (k = a) && decide (Int32.ofInt n = Int32.ofInt v))
    | _ => false)
  | .goto _ => (match i with
    | .goto off => decide (ln = 3) && decide ((pc : Int) + off = (a : Int))
    | _ => false)
  | .ifCond k _ => (match i with
    | .ifCond k' off => decide (ln = 3) && (decide (k' = k) && decide ((pc : Int) + off = (a : Int)))
    | _ => false)
  | .if_icmp k _ => (match i with
    | .if_icmp k' off => decide (ln = 3) && (decide (k' = k) && decide ((pc : Int) + off = (a : Int)))
    | _ => false)
  | .tableswitch _ _ _ _ => decide (mv_R32 v) && (match i with
    | .tableswitch d lo hi offs => decide ((pc : Int) + d = (a : Int)) && (decide (lo = v) && (decide (hi + 1 = v + (ts.length : Int)) && decide (offs.toList = ts.map (fun t : Nat => (t : Int) - (pc : Int)))))
    | _ => false)
  | .getfield _ => (match i with
    | .getfield idx => decide (ln = 3) && mv_fl r idx a b c ts
    | _ => false)
  | .putfield _ => (match i with
    | .putfield idx => decide (ln = 3) && (mv_fl r idx a b c ts && (match vwCl[a]? with
      | some (_, T, _) => !(T b).2.2.2 || (decide ((mt_y r).name = "<init>") && decide ((T b).1 = mt_own r))
      | none => false))
    | _ => false)
  | .newarray ty => (match i with
    | .newarray ty' => decide (ln = 2) && (decide (ty' = ty) && (mv_hw ts 0 (.arrayClass (newarray.typeOf ty)) && (decide (a = mv_tg ty) && Nat.ble 100 a)))
    | _ => false)
  | .new _ => (match i with
    | .new idx => decide (ln = 3) && (match vwCl[a]? with
      | some (C, _, N) => decide (N = b) && (mv_hw ts 0 (.classLink (mt_own r) idx C) && (mv_hw ts 1 (.instantiable C N) && mv_hw ts 2 (.initialized C)))
      | none => false)
    | _ => false)
  | .invokespecial _ => (match i with
    | .invokespecial idx => decide (ln = 3) && (if c = 1 then mv_hw ts 0 (.methodLink (mt_own r) idx objectInit) && (mv_hw ts 1 (.instanceMethod objectInit) && (mv_hw ts 2 (.code objectInit ⟨#[0xb1]⟩ 1 none) && (Nat.ble 1 (mt_fr r) && Nat.ble 20 (mt_lo r))))
      else mv_lk ts (mt_own r) idx (mt_y (mv_r a)) && (mv_hw ts 1 (.instanceMethod (mt_y (mv_r a))) && (mv_hw ts 2 (.initialized (mt_y (mv_r a)).cls) && (decide ((mt_y (mv_r a)).name = "<init>") && (decide (mt_ret (mv_r a) = none) &&
        (decide (c = 2 + mt_mc (mv_r a)) && (decide (v = (mt_ms (mv_r a) : Int)) && (Nat.ble 1 b && mv_cl r (mv_r a) (b - 1)))))))))
    | _ => false)
  | .invokevirtual _ => (match i with
    | .invokevirtual idx => decide (ln = 3) && (mv_hw ts 0 (.methodLink (mt_own r) idx (mt_y (mv_r a))) && (mv_hw ts 1 (.instanceMethod (mt_y (mv_r a))) && (mv_hw ts 2 (.selects (mt_y (mv_r a)).cls (mt_y (mv_r a)) (mt_y (mv_r a))) &&
        (mv_hw ts 3 (.initialized (mt_y (mv_r a)).cls) && (decide ((vwCl[c]?).map (fun q => q.1) = some (mt_y (mv_r a)).cls) && (decide (mt_mc (mv_r a) = 0 ∧ mt_ms (mv_r a) = 0) && (Nat.ble 1 b && mv_cl r (mv_r a) (b - 1))))))))
    | _ => false)
  | .invokestatic _ => (match i with
    | .invokestatic idx => decide (ln = 3) && (if c = 1 then mv_lk ts (mt_own r) idx (mt_y (mv_r a)) && (mv_hw ts 1 (.static (mt_y (mv_r a))) && (mv_hw ts 2 (.initialized (mt_y (mv_r a)).cls) && (decide (mt_mc (mv_r a) = 0 ∧ mt_ms (mv_r a) = 0) && mv_cl r (mv_r a) b)))
      else mv_hw ts 0 (.methodLink (mt_own r) idx arraycopyName) && (mv_hw ts 1 (.native arraycopyName) && (mv_hw ts 2 (.static arraycopyName) && (mv_hw ts 3 (.initialized "java/lang/System") && (decide (c = 100 ∨ c = 101) && (Nat.ble 1 (mt_fr r) && Nat.ble 26 (mt_lo r)))))))
    | _ => false)
  | .ireturn => decide (ln = 1) && (decide (i = .ireturn) && (if a = 1 then decide (mt_ret r = some .boolean) else decide (mt_ret r = some .int)))
  | .lreturn => decide (ln = 1) && (decide (i = .lreturn) && decide (mt_ret r = some .long))
  | .return_ => decide (ln = 1) && (decide (i = .return_) && decide (mt_ret r = none))
  | _ => decide (ln = 1) && decide (i = ni)
def mv_okE (r : mv_T) (e : mv_E) : Bool := match e with
  | (pc, ln, ni, a, b, c, v, ts) => (match decode (mt_cc r) pc with
    | .ok (i, n) => decide (n = ln) && mv_fit r pc ln ni a b c v ts i
    | .error _ => false)
def mv_ch : List mv_E → Bool
  | e :: e' :: r => decide (e.1 + e.2.1 = e'.1) && mv_ch (e' :: r)
  | _ => true
def mv_okM (i : Nat) : Bool := (mt_code (mv_r i)).all (mv_okE (mv_r i)) && mv_ch (mt_code (mv_r i))
/-- the word of a method's own code stands at this place of the tables -/
def mv_okC (i p : Nat) : Bool := plainFor (mt_y (mv_r i)) && (decide (mt_own (mv_r i) = (mt_y (mv_r i)).cls) && mv_hw [p] 0 (.code (mt_y (mv_r i)) (mt_cc (mv_r i)) (mt_nL (mv_r i)) (mt_ret (mv_r i))))
end
section
/-! THE CODE LISTS ARE THE BYTES (by program: wip/p40/chkgen.py) -/
theorem ok_0 : mv_okM 0 = true := by decide +kernel
theorem oc_0 : mv_okC 0 84 = true := by decide +kernel
theorem ok_1 : mv_okM 1 = true := by decide +kernel
theorem oc_1 : mv_okC 1 728 = true := by decide +kernel
theorem ok_2 : mv_okM 2 = true := by decide +kernel
theorem oc_2 : mv_okC 2 732 = true := by decide +kernel
theorem ok_3 : mv_okM 3 = true := by decide +kernel
theorem oc_3 : mv_okC 3 659 = true := by decide +kernel
theorem ok_4 : mv_okM 4 = true := by decide +kernel
theorem oc_4 : mv_okC 4 427 = true := by decide +kernel
theorem ok_5 : mv_okM 5 = true := by decide +kernel
theorem oc_5 : mv_okC 5 470 = true := by decide +kernel
theorem ok_6 : mv_okM 6 = true := by decide +kernel
theorem oc_6 : mv_okC 6 740 = true := by decide +kernel
theorem ok_7 : mv_okM 7 = true := by decide +kernel
theorem oc_7 : mv_okC 7 745 = true := by decide +kernel
theorem ok_8 : mv_okM 8 = true := by decide +kernel
theorem oc_8 : mv_okC 8 749 = true := by decide +kernel
theorem ok_9 : mv_okM 9 = true := by decide +kernel
theorem oc_9 : mv_okC 9 435 = true := by decide +kernel
theorem ok_10 : mv_okM 10 = true := by decide +kernel
theorem oc_10 : mv_okC 10 690 = true := by decide +kernel
theorem ok_11 : mv_okM 11 = true := by decide +kernel
theorem oc_11 : mv_okC 11 72 = true := by decide +kernel
theorem ok_12 : mv_okM 12 = true := by decide +kernel
theorem oc_12 : mv_okC 12 678 = true := by decide +kernel
theorem ok_13 : mv_okM 13 = true := by decide +kernel
theorem oc_13 : mv_okC 13 454 = true := by decide +kernel
theorem ok_14 : mv_okM 14 = true := by decide +kernel
theorem oc_14 : mv_okC 14 462 = true := by decide +kernel
theorem ok_15 : mv_okM 15 = true := by decide +kernel
theorem oc_15 : mv_okC 15 487 = true := by decide +kernel
theorem ok_16 : mv_okM 16 = true := by decide +kernel
theorem oc_16 : mv_okC 16 491 = true := by decide +kernel
theorem ok_17 : mv_okM 17 = true := by decide +kernel
theorem oc_17 : mv_okC 17 495 = true := by decide +kernel
theorem ok_18 : mv_okM 18 = true := by decide +kernel
theorem oc_18 : mv_okC 18 520 = true := by decide +kernel
theorem ok_19 : mv_okM 19 = true := by decide +kernel
theorem oc_19 : mv_okC 19 524 = true := by decide +kernel
end
section
/-! THE CODE LISTS ARE THE BYTES (by program: wip/p40/chkgen.py) -/
theorem ok_20 : mv_okM 20 = true := by decide +kernel
theorem oc_20 : mv_okC 20 541 = true := by decide +kernel
theorem ok_21 : mv_okM 21 = true := by decide +kernel
theorem oc_21 : mv_okC 21 545 = true := by decide +kernel
theorem ok_22 : mv_okM 22 = true := by decide +kernel
theorem oc_22 : mv_okC 22 537 = true := by decide +kernel
theorem ok_23 : mv_okM 23 = true := by decide +kernel
theorem oc_23 : mv_okC 23 646 = true := by decide +kernel
theorem ok_25 : mv_okM 25 = true := by decide +kernel
theorem oc_25 : mv_okC 25 619 = true := by decide +kernel
theorem ok_29 : mv_okM 29 = true := by decide +kernel
theorem oc_29 : mv_okC 29 686 = true := by decide +kernel
theorem ok_30 : mv_okM 30 = true := by decide +kernel
theorem oc_30 : mv_okC 30 614 = true := by decide +kernel
theorem ok_31 : mv_okM 31 = true := by decide +kernel
theorem oc_31 : mv_okC 31 221 = true := by decide +kernel
theorem ok_33 : mv_okM 33 = true := by decide +kernel
theorem oc_33 : mv_okC 33 669 = true := by decide +kernel
theorem ok_34 : mv_okM 34 = true := by decide +kernel
theorem oc_34 : mv_okC 34 350 = true := by decide +kernel
theorem ok_42 : mv_okM 42 = true := by decide +kernel
theorem oc_42 : mv_okC 42 58 = true := by decide +kernel
theorem ok_45 : mv_okM 45 = true := by decide +kernel
theorem oc_45 : mv_okC 45 41 = true := by decide +kernel
theorem ok_46 : mv_okM 46 = true := by decide +kernel
theorem oc_46 : mv_okC 46 711 = true := by decide +kernel
theorem ok_47 : mv_okM 47 = true := by decide +kernel
theorem oc_47 : mv_okC 47 721 = true := by decide +kernel
theorem ok_48 : mv_okM 48 = true := by decide +kernel
theorem oc_48 : mv_okC 48 724 = true := by decide +kernel
theorem ok_49 : mv_okM 49 = true := by decide +kernel
theorem oc_49 : mv_okC 49 321 = true := by decide +kernel
theorem ok_50 : mv_okM 50 = true := by decide +kernel
theorem oc_50 : mv_okC 50 578 = true := by decide +kernel
theorem ok_51 : mv_okM 51 = true := by decide +kernel
theorem oc_51 : mv_okC 51 601 = true := by decide +kernel
theorem ok_52 : mv_okM 52 = true := by decide +kernel
theorem oc_52 : mv_okC 52 583 = true := by decide +kernel
theorem ok_53 : mv_okM 53 = true := by decide +kernel
theorem oc_53 : mv_okC 53 570 = true := by decide +kernel
end
section
/-! THE CODE LISTS ARE THE BYTES (by program: wip/p40/chkgen.py) -/
theorem ok_54 : mv_okM 54 = true := by decide +kernel
theorem oc_54 : mv_okC 54 574 = true := by decide +kernel
theorem ok_55 : mv_okM 55 = true := by decide +kernel
theorem oc_55 : mv_okC 55 635 = true := by decide +kernel
theorem ok_56 : mv_okM 56 = true := by decide +kernel
theorem oc_56 : mv_okC 56 642 = true := by decide +kernel
theorem ok_57 : mv_okM 57 = true := by decide +kernel
theorem oc_57 : mv_okC 57 157 = true := by decide +kernel
theorem ok_58 : mv_okM 58 = true := by decide +kernel
theorem oc_58 : mv_okC 58 765 = true := by decide +kernel
theorem ok_59 : mv_okM 59 = true := by decide +kernel
theorem oc_59 : mv_okC 59 562 = true := by decide +kernel
theorem ok_60 : mv_okM 60 = true := by decide +kernel
theorem oc_60 : mv_okC 60 664 = true := by decide +kernel
theorem ok_61 : mv_okM 61 = true := by decide +kernel
theorem oc_61 : mv_okC 61 507 = true := by decide +kernel
theorem ok_62 : mv_okM 62 = true := by decide +kernel
theorem oc_62 : mv_okC 62 511 = true := by decide +kernel
theorem ok_63 : mv_okM 63 = true := by decide +kernel
theorem oc_63 : mv_okC 63 503 = true := by decide +kernel
theorem ok_64 : mv_okM 64 = true := by decide +kernel
theorem oc_64 : mv_okC 64 516 = true := by decide +kernel
theorem ok_65 : mv_okM 65 = true := by decide +kernel
theorem oc_65 : mv_okC 65 499 = true := by decide +kernel
theorem ok_66 : mv_okM 66 = true := by decide +kernel
theorem oc_66 : mv_okC 66 605 = true := by decide +kernel
theorem ok_67 : mv_okM 67 = true := by decide +kernel
theorem oc_67 : mv_okC 67 261 = true := by decide +kernel
theorem ok_68 : mv_okM 68 = true := by decide +kernel
theorem oc_68 : mv_okC 68 466 = true := by decide +kernel
theorem ok_69 : mv_okM 69 = true := by decide +kernel
theorem oc_69 : mv_okC 69 483 = true := by decide +kernel
theorem ok_71 : mv_okM 71 = true := by decide +kernel
theorem oc_71 : mv_okC 71 474 = true := by decide +kernel
theorem ok_72 : mv_okM 72 = true := by decide +kernel
theorem oc_72 : mv_okC 72 479 = true := by decide +kernel
theorem ok_73 : mv_okM 73 = true := by decide +kernel
theorem oc_73 : mv_okC 73 340 = true := by decide +kernel
theorem ok_83 : mv_okM 83 = true := by decide +kernel
theorem oc_83 : mv_okC 83 78 = true := by decide +kernel
end
section
/-! THE CODE LISTS ARE THE BYTES (by program: wip/p40/chkgen.py) -/
theorem ok_84 : mv_okM 84 = true := by decide +kernel
theorem oc_84 : mv_okC 84 655 = true := by decide +kernel
theorem ok_85 : mv_okM 85 = true := by decide +kernel
theorem oc_85 : mv_okC 85 33 = true := by decide +kernel
theorem ok_86 : mv_okM 86 = true := by decide +kernel
theorem oc_86 : mv_okC 86 707 = true := by decide +kernel
theorem ok_87 : mv_okM 87 = true := by decide +kernel
theorem oc_87 : mv_okC 87 717 = true := by decide +kernel
theorem ok_88 : mv_okM 88 = true := by decide +kernel
theorem oc_88 : mv_okC 88 423 = true := by decide +kernel
theorem ok_89 : mv_okM 89 = true := by decide +kernel
theorem oc_89 : mv_okC 89 736 = true := by decide +kernel
theorem ok_91 : mv_okM 91 = true := by decide +kernel
theorem oc_91 : mv_okC 91 753 = true := by decide +kernel
theorem ok_93 : mv_okM 93 = true := by decide +kernel
theorem oc_93 : mv_okC 93 757 = true := by decide +kernel
theorem ok_94 : mv_okM 94 = true := by decide +kernel
theorem oc_94 : mv_okC 94 761 = true := by decide +kernel
theorem ok_95 : mv_okM 95 = true := by decide +kernel
theorem oc_95 : mv_okC 95 769 = true := by decide +kernel
theorem ok_96 : mv_okM 96 = true := by decide +kernel
theorem oc_96 : mv_okC 96 773 = true := by decide +kernel
theorem ok_97 : mv_okM 97 = true := by decide +kernel
theorem oc_97 : mv_okC 97 439 = true := by decide +kernel
theorem ok_98 : mv_okM 98 = true := by decide +kernel
theorem oc_98 : mv_okC 98 443 = true := by decide +kernel
theorem ok_100 : mv_okM 100 = true := by decide +kernel
theorem oc_100 : mv_okC 100 458 = true := by decide +kernel
theorem ok_101 : mv_okM 101 = true := by decide +kernel
theorem oc_101 : mv_okC 101 528 = true := by decide +kernel
theorem ok_103 : mv_okM 103 = true := by decide +kernel
theorem oc_103 : mv_okC 103 551 = true := by decide +kernel
theorem ok_106 : mv_okM 106 = true := by decide +kernel
theorem oc_106 : mv_okC 106 566 = true := by decide +kernel
theorem ok_117 : mv_okM 117 = true := by decide +kernel
theorem oc_117 : mv_okC 117 610 = true := by decide +kernel
theorem ok_118 : mv_okM 118 = true := by decide +kernel
theorem oc_118 : mv_okC 118 623 = true := by decide +kernel
theorem ok_119 : mv_okM 119 = true := by decide +kernel
theorem oc_119 : mv_okC 119 627 = true := by decide +kernel
end
section
/-! THE CODE LISTS ARE THE BYTES (by program: wip/p40/chkgen.py) -/
theorem ok_120 : mv_okM 120 = true := by decide +kernel
theorem oc_120 : mv_okC 120 631 = true := by decide +kernel
theorem ok_123 : mv_okM 123 = true := by decide +kernel
theorem oc_123 : mv_okC 123 651 = true := by decide +kernel
theorem ok_124 : mv_okM 124 = true := by decide +kernel
theorem oc_124 : mv_okC 124 674 = true := by decide +kernel
theorem ok_125 : mv_okM 125 = true := by decide +kernel
theorem oc_125 : mv_okC 125 682 = true := by decide +kernel
theorem ok_126 : mv_okM 126 = true := by decide +kernel
theorem oc_126 : mv_okC 126 431 = true := by decide +kernel
theorem ok_127 : mv_okM 127 = true := by decide +kernel
theorem oc_127 : mv_okC 127 532 = true := by decide +kernel
theorem ok_128 : mv_okM 128 = true := by decide +kernel
theorem oc_128 : mv_okC 128 446 = true := by decide +kernel
theorem ok_129 : mv_okM 129 = true := by decide +kernel
theorem oc_129 : mv_okC 129 450 = true := by decide +kernel
theorem ok_130 : mv_okM 130 = true := by decide +kernel
theorem oc_130 : mv_okC 130 555 = true := by decide +kernel
theorem ok_131 : mv_okM 131 = true := by decide +kernel
theorem oc_131 : mv_okC 131 558 = true := by decide +kernel
theorem ok_222 : mv_okM 222 = true := by decide +kernel
theorem oc_222 : mv_okC 222 590 = true := by decide +kernel
theorem ok_224 : mv_okM 224 = true := by decide +kernel
theorem oc_224 : mv_okC 224 597 = true := by decide +kernel
theorem ok_225 : mv_okM 225 = true := by decide +kernel
theorem oc_225 : mv_okC 225 594 = true := by decide +kernel
theorem ok_227 : mv_okM 227 = true := by decide +kernel
theorem oc_227 : mv_okC 227 693 = true := by decide +kernel
theorem ok_228 : mv_okM 228 = true := by decide +kernel
theorem oc_228 : mv_okC 228 696 = true := by decide +kernel
theorem ok_229 : mv_okM 229 = true := by decide +kernel
theorem oc_229 : mv_okC 229 700 = true := by decide +kernel
theorem ok_230 : mv_okM 230 = true := by decide +kernel
theorem oc_230 : mv_okC 230 703 = true := by decide +kernel
end
section
/-! THE SMALL MACHINE STANDS FOR THE MACHINE (by program: wip/p40/simgen.py) -/
/-- launch; the script's address; where each cell lies (those that come, behind each other at the heap's end); class ids and slots; the classes of int[], long[], boolean[]; the script -/
abbrev mv_G : Type := Launch × Nat × (Nat → Nat) × (Nat → ClassId) × (Nat → Nat → Nat) × ClassId × ClassId × ClassId × Nat × (Nat → Int)
def mg_l (G : mv_G) : Launch := G.1
def mg_b (G : mv_G) : Nat := G.2.1
def mg_a (G : mv_G) : Nat → Nat := G.2.2.1
def mg_D (G : mv_G) : va_G := (G.2.2.2.1, G.2.2.2.2.1)
def mg_I (G : mv_G) : ClassId := G.2.2.2.2.2.1
def mg_J (G : mv_G) : ClassId := G.2.2.2.2.2.2.1
def mg_Z (G : mv_G) : ClassId := G.2.2.2.2.2.2.2.1
def mg_L (G : mv_G) : Nat := G.2.2.2.2.2.2.2.2.1
def mg_X (G : mv_G) : Nat → Int := G.2.2.2.2.2.2.2.2.2
def mg_A (G : mv_G) : Nat → Prop := fun q => ∃ k, 1 ≤ k ∧ q = mg_a G k
/-- the cells behind the n-th come at the heap's end, that is at z -/
def mv_hp (G : mv_G) (n z : Nat) : Prop := ∀ j, mg_a G (n + 1 + j) = z + j
def mv_bo (G : mv_G) (z : Nat) : Prop := mg_b G < z ∧ ¬ mg_A G (mg_b G)
def mg_ty (G : mv_G) : List (ClassId × FieldType) := [(mg_I G, .int), (mg_J G, .long), (mg_Z G, .boolean)]
def mv_ad (G : mv_G) (k : Nat) : Nat := if k = 0 then mg_b G else mg_a G k
def mv_ct (G : mv_G) : mv_V → Value
  | .inl x => .int (Int32.ofInt x)
  | .inr (.inl x) => .long (Int64.ofInt x)
  | .inr (.inr k) => .ref (mv_ad G k)
def mv_ov : mv_V → Prop
  | .inl x => mv_R32 x
  | .inr (.inl x) => mv_R64 x
  | .inr (.inr _) => True
def mv_fv (G : mv_G) (sh : mv_SH) (M : mv_Mem) (ci k f : Nat) : Value := if mv_kd ci f = 2 then (if sh.2.2.2.2 k f = 0 then .null else .ref (mv_ad G (sh.2.2.2.2 k f))) else .int (Int32.ofInt (M k f))
def mv_ce (G : mv_G) (sh : mv_SH) (M : mv_Mem) (k : Nat) : va_E :=
  if sh.2.2.1 k = 100 then .inl (mg_I G, sh.2.2.2.1 k, .inl (fun i => Int32.ofInt (M k i)))
  else if sh.2.2.1 k = 101 then .inl (mg_J G, sh.2.2.2.1 k, .inr (.inl (fun i => Int64.ofInt (M k i))))
  else if sh.2.2.1 k = 102 then .inl (mg_Z G, sh.2.2.2.1 k, .inl (fun i => Int32.ofInt (M k i)))
  else .inr (sh.2.2.1 k, (List.range (mv_nf (sh.2.2.1 k))).map (mv_fv G sh M (sh.2.2.1 k) k))
def mv_ws (G : mv_G) (sh : mv_SH) (M : mv_Mem) : va_W := (List.range sh.1).map (fun j => (mg_a G (j + 1), mv_ce G sh M (j + 1)))
def mv_Nm (G : mv_G) (sh : mv_SH) (M : mv_Mem) : Prop :=
  (sh.2.2.1 0 = 100 ∧ sh.2.2.2.1 0 = mg_L G ∧ ∀ i, M 0 i = mg_X G i) ∧ (∀ k i, mv_R64 (M k i) ∧ (sh.2.2.1 k ≠ 101 → mv_R32 (M k i))) ∧ ∀ k, sh.2.2.2.1 k ≤ 100000
def mv_Wd (G : mv_G) (sh : mv_SH) (M : mv_Mem) (H : Heap) : Prop :=
  va_P (mg_D G) vwCl (mv_ws G sh M) H ∧ va_D (mg_A G) (mv_ws G sh M) ∧ mv_Nm G sh M
/-- what a method's end says -/
def mv_Po (G : mv_G) (mc n1 s1 : Nat) (post : Option mv_V → mv_SH → mv_Mem → Prop) : Array Value → State → Outcome → State → Prop := fun _ st o t =>
  (∃ (r : Option mv_V) (sh : mv_SH) (M : mv_Mem), o = .returned (r.map (mv_ct G)) ∧ (∀ x, r = some x → mv_ov x) ∧ post r sh M ∧ (150 ≤ mc ∨ (sh.1 = n1 ∧ sh.2.1 = s1)) ∧ mv_Wd G sh M t.heap) ∧ va_F (mg_A G) st t
def mv_Pc (G : mv_G) (as : List mv_V) (sh : mv_SH) (M : mv_Mem) : Array Value → State → Prop :=
  va_Pc (as.map (mv_ct G)) (fun U => mv_hp G sh.1 U.heap.size ∧ mv_Wd G sh M U.heap ∧ va_K (mg_D G) vwCl (mg_ty G) U ∧ va_X (mg_b G) (mg_L G) (fun j => Int32.ofInt (mg_X G j)) U U.heap ∧ mv_bo G U.heap.size ∧ ∀ x ∈ as, mv_ov x)
def mv_wl (q : mv_T) : List Jvm.Cond := .code (mt_y q) (mt_cc q) (mt_nL q) (mt_ret q) :: mv_tbl
/-- a call of method c with these arguments in this world ends, with an answer and a world of which 'post' holds -/
def mv_Wp (G : mv_G) (c : Nat) (as : List mv_V) (sh : mv_SH) (M : mv_Mem) (post : Option mv_V → mv_SH → mv_Mem → Prop) : Prop :=
  Jvm.Cond.code (mt_y (mv_r c)) (mt_cc (mv_r c)) (mt_nL (mv_r c)) (mt_ret (mv_r c)) ∈ mv_tbl ∧ 
  Met (mg_l G) (mt_y (mv_r c)) (mv_wl (mv_r c)) (mt_rm (mv_r c)) (mv_Pc G as sh M) (mv_Po G (mt_mc (mv_r c)) (sh.1 + mt_mc (mv_r c)) (sh.2.1 + mt_ms (mv_r c)) post) (mt_mc (mv_r c)) (mt_ms (mv_r c)) (mg_A G)
def mv_Cx (G : mv_G) (mi n0 : Nat) (p : Program) (s : State) (m : MethodId) (args : Array Value) (meth : Method) (c : Code) : Prop :=
  p.tables.exec = Jvm.exec ∧ c.code = mt_cc (mv_r mi) ∧ c.maxLocals = mt_nL (mv_r mi) ∧ s.vm.findClass (mt_own (mv_r mi)) = some m.cls ∧ (∀ w ∈ mv_tbl, w.before args s = true) ∧ meth.sig.returnType = mt_ret (mv_r mi) ∧ meth.locks = false ∧
  meth.name = (mt_y (mv_r mi)).name ∧ mv_hp G n0 s.heap.size ∧ va_X (mg_b G) (mg_L G) (fun j => Int32.ofInt (mg_X G j)) s s.heap ∧ mv_bo G s.heap.size ∧ va_K (mg_D G) vwCl (mg_ty G) s
/-- from the place pc of method mi on, with these locals and this stack, in this world: the method ends, with an answer and a world of which 'post' holds -/
def mv_Run (G : mv_G) (mi n0 s0 pc : Nat) (L : mv_L) (st : List mv_V) (sh : mv_SH) (M : mv_Mem) (post : Option mv_V → mv_SH → mv_Mem → Prop) : Prop :=
  ∀ (p : Program) (e : Env) (s : State) (m : MethodId) (args : Array Value) (below : List Frame) (meth : Method) (c : Code) (H : Heap) (locs : List Loc) (ls : Array Slot),
    mv_Cx G mi n0 p s m args meth c → lv_has ls (mt_nL (mv_r mi)) (L.map (fun q => (q.1, mv_ct G q.2))) → (∀ q ∈ L, mv_ov q.2) → (∀ x ∈ st, mv_ov x) → mv_Wd G sh M H → va_S (mg_A G) s.heap H locs →
    (n0 ≤ sh.1 ∧ sh.1 ≤ n0 + mt_mc (mv_r mi)) → (s0 ≤ sh.2.1 ∧ sh.2.1 ≤ s0 + mt_ms (mv_r mi)) →
    W p (mg_l G) e (mt_rm (mv_r mi)) s m args below meth c H locs (sh.1 - n0) (sh.2.1 - s0) (MQ below (mv_Po G (mt_mc (mv_r mi)) (n0 + mt_mc (mv_r mi)) (s0 + mt_ms (mv_r mi)) post) args s (mt_mc (mv_r mi)) (mt_ms (mv_r mi)) (mg_A G)) (F0 m pc ls (st.map (mv_ct G)))
/-- what is to be shown from a place on, up to the next cuts -/
def mv_vc (G : mv_G) (mi n0 s0 : Nat) (cuts : List (Nat × List Nat)) (post : Option mv_V → mv_SH → mv_Mem → Prop) : Nat → Bool → List mv_E → mv_L → List mv_V → mv_SH → mv_Mem → Prop
  | 0, _, _, _, _, _, _ => False
  | _ + 1, _, [], _, _, _, _ => False
  | n + 1, f, e :: r, L, st, sh, M => match (if f = true then none else mv_cut e.1 cuts) with
    | some ks => mv_Run G mi n0 s0 e.1 (mv_pk ks L) st sh M post
    | none => mv_body (mv_Wp G) (mv_vc G mi n0 s0 cuts post n false r) (fun t => mv_vc G mi n0 s0 cuts post n false (mv_at t (mt_code (mv_r mi)))) post n0 s0 (mt_mc (mv_r mi)) (mt_ms (mv_r mi)) e.2.2.1 e.2.2.2.1 e.2.2.2.2.1 e.2.2.2.2.2.1 e.2.2.2.2.2.2.1 e.2.2.2.2.2.2.2 L st sh M
/-! numbers -/
theorem mv_i32 {x : Int} (h : mv_R32 x) : (Int32.ofInt x).toInt = x := Int32.toInt_ofInt_of_le (by omega) (by omega)
theorem mv_i64 {x : Int} (h : mv_R64 x) : (Int64.ofInt x).toInt = x := Int64.toInt_ofInt_of_le (by omega) (by omega)
theorem mv_r32 (x : Int32) : mv_R32 x.toInt := by
  have h1 := Int32.le_toInt x
  have h2 := Int32.toInt_lt x
  constructor <;> omega
theorem mv_r64 (x : Int64) : mv_R64 x.toInt := by
  have h1 := Int64.le_toInt x
  have h2 := Int64.toInt_lt x
  constructor <;> omega
theorem mv_e32 {x y : Int} (h : mv_R32 x) (h' : mv_R32 y) : Int32.ofInt x = Int32.ofInt y ↔ x = y := by
  rw [← Int32.toInt_inj, mv_i32 h, mv_i32 h']
theorem mv_l32 {x y : Int} (h : mv_R32 x) (h' : mv_R32 y) : Int32.ofInt x < Int32.ofInt y ↔ x < y := by
  rw [Int32.lt_iff_toInt_lt, mv_i32 h, mv_i32 h']
theorem mv_le32 {x y : Int} (h : mv_R32 x) (h' : mv_R32 y) : Int32.ofInt x ≤ Int32.ofInt y ↔ x ≤ y := by
  rw [Int32.le_iff_toInt_le, mv_i32 h, mv_i32 h']
theorem mv_e64 {x y : Int} (h : mv_R64 x) (h' : mv_R64 y) : Int64.ofInt x = Int64.ofInt y ↔ x = y := by
  rw [← Int64.toInt_inj, mv_i64 h, mv_i64 h']
theorem mv_l64 {x y : Int} (h : mv_R64 x) (h' : mv_R64 y) : Int64.ofInt x < Int64.ofInt y ↔ x < y := by
  rw [Int64.lt_iff_toInt_lt, mv_i64 h, mv_i64 h']
theorem mv_z32 : mv_R32 0 := by constructor <;> omega
theorem mv_z64 : mv_R64 0 := by constructor <;> omega
theorem mv_clamp {i : Int} (h : mv_R32 i) : (Int32.ofInt i).toNatClampNeg = i.toNat := by
  show (Int32.ofInt i).toInt.toNat = i.toNat
  rw [mv_i32 h]
theorem mv_vin {i : Int} {n : Nat} (h : mv_R32 i) (h0 : 0 ≤ i ∧ i < (n : Int)) : vp_in (Int32.ofInt i) n := by
  rw [vp_in_iff, mv_i32 h]
  exact h0
theorem mv_tmR {x y lo : Int} (h : -lo ≤ x ∧ x ≤ lo) : -lo ≤ x.tmod y ∧ x.tmod y ≤ lo := by
  have h1 : (x.tmod y).natAbs ≤ x.natAbs := by
    rw [Int.natAbs_tmod]
    exact Nat.mod_le _ _
  omega
/-! the stack, the locals -/
theorem mv_pi_s {st : List mv_V} {k : Int → List mv_V → Prop} (h : mv_pi st k) : ∃ x r, st = .inl x :: r ∧ k x r := by
  unfold mv_pi at h
  split at h
  · exact ⟨_, _, rfl, h⟩
  · exact h.elim
theorem mv_pl_s {st : List mv_V} {k : Int → List mv_V → Prop} (h : mv_pl st k) : ∃ x r, st = .inr (.inl x) :: r ∧ k x r := by
  unfold mv_pl at h
  split at h
  · exact ⟨_, _, rfl, h⟩
  · exact h.elim
theorem mv_pr_s {st : List mv_V} {k : Nat → List mv_V → Prop} (h : mv_pr st k) : ∃ x r, st = .inr (.inr x) :: r ∧ k x r := by
  unfold mv_pr at h
  split at h
  · exact ⟨_, _, rfl, h⟩
  · exact h.elim
theorem mv_lg_mem {a : Nat} {v : mv_V} : ∀ {L : mv_L}, mv_lg a L = some v → (a, v) ∈ L
  | [], h => by cases h
  | q :: r, h => by
    unfold mv_lg at h
    split at h
    · rename_i hq
      cases h
      subst hq
      exact List.mem_cons_self
    · exact List.mem_cons_of_mem _ (mv_lg_mem h)
theorem mv_lg_at {G : mv_G} {a nL : Nat} {v : mv_V} {L : mv_L} {ls : Array Slot} (hl : lv_has ls nL (L.map (fun q => (q.1, mv_ct G q.2)))) (h : mv_lg a L = some v) : ls[a]? = some (.val (mv_ct G v)) :=
  hl.2.2 (a, mv_ct G v) (List.mem_map.mpr ⟨(a, v), mv_lg_mem h, rfl⟩)
theorem mv_lg_pos {G : mv_G} {a : Nat} {v : mv_V} {L : mv_L} (h : mv_lg a L = some v) : ∃ k : Nat, (L.map (fun q => (q.1, mv_ct G q.2)))[k]? = some (a, mv_ct G v) := by
  obtain ⟨k, hk⟩ := List.getElem?_of_mem (mv_lg_mem h)
  exact ⟨k, by rw [List.getElem?_map, hk]; rfl⟩
theorem mv_cat_e (G : mv_G) (v : mv_V) : ((mv_ct G v).category == 2) = mv_isL v := by
  obtain x | x | x := v <;> rfl
theorem mv_st1_m (G : mv_G) (a : Nat) (v : mv_V) (L : mv_L) : (a, mv_ct G v) :: (L.map (fun q => (q.1, mv_ct G q.2))).filter (fun q => !(q.1 == a) && !(q.1 + 1 == a && q.2.category == 2)) = (mv_st1 a v L).map (fun q => (q.1, mv_ct G q.2)) := by
  unfold mv_st1
  rw [List.map_cons, List.filter_map]
  congr 3
  funext q
  show (!(q.1 == a) && !(q.1 + 1 == a && (mv_ct G q.2).category == 2)) = _
  rw [mv_cat_e]
theorem mv_st2_m (G : mv_G) (a : Nat) (x : Int) (L : mv_L) : (a, mv_ct G (.inr (.inl x))) :: (L.map (fun q => (q.1, mv_ct G q.2))).filter (fun q => !(q.1 == a) && (!(q.1 == a + 1) && !(q.1 + 1 == a && q.2.category == 2))) = (mv_st2 a x L).map (fun q => (q.1, mv_ct G q.2)) := by
  unfold mv_st2
  rw [List.map_cons, List.filter_map]
  congr 3
  funext q
  show (!(q.1 == a) && (!(q.1 == a + 1) && !(q.1 + 1 == a && (mv_ct G q.2).category == 2))) = _
  rw [mv_cat_e]
theorem mv_st1_o {a : Nat} {v : mv_V} {L : mv_L} (hL : ∀ q ∈ L, mv_ov q.2) (hv : mv_ov v) : ∀ q ∈ mv_st1 a v L, mv_ov q.2 := by
  intro q hq
  rcases List.mem_cons.mp hq with rfl | hq
  · exact hv
  · exact hL q (List.mem_filter.mp hq).1
theorem mv_st2_o {a : Nat} {x : Int} {L : mv_L} (hL : ∀ q ∈ L, mv_ov q.2) (hv : mv_R64 x) : ∀ q ∈ mv_st2 a x L, mv_ov q.2 := by
  intro q hq
  rcases List.mem_cons.mp hq with rfl | hq
  · exact hv
  · exact hL q (List.mem_filter.mp hq).1
theorem mv_lg_o {a : Nat} {v : mv_V} {L : mv_L} (hL : ∀ q ∈ L, mv_ov q.2) (h : mv_lg a L = some v) : mv_ov v := hL _ (mv_lg_mem h)
theorem mv_stw_e (G : mv_G) (st : List mv_V) : ((st.map (mv_ct G)).map fun v => v.category).sum = mv_stw st := by
  unfold mv_stw
  rw [List.map_map]
  congr 1
  apply List.map_congr_left
  intro v _
  obtain x | x | x := v <;> rfl
/-! the world -/
theorem mv_ws_get {G : mv_G} {sh : mv_SH} {M : mv_Mem} {k : Nat} (h1 : 1 ≤ k) (h2 : k ≤ sh.1) : (mv_ws G sh M)[k - 1]? = some (mv_ad G k, mv_ce G sh M k) := by
  unfold mv_ws mv_ad
  rw [List.getElem?_map, List.getElem?_range (by omega), if_neg (by omega)]
  show some (_, mv_ce G sh M (k - 1 + 1)) = _
  rw [show k - 1 + 1 = k by omega]
theorem mv_ws_set {G : mv_G} {sh sh' : mv_SH} {M M' : mv_Mem} {k : Nat} {e : va_E} (h1 : 1 ≤ k) (h2 : k ≤ sh.1) (hs : sh'.1 = sh.1) (he : mv_ce G sh' M' k = e) (ho : ∀ j, j ≠ k → mv_ce G sh' M' j = mv_ce G sh M j) : (mv_ws G sh M).set (k - 1) (mv_ad G k, e) = mv_ws G sh' M' := by
  apply List.ext_getElem?
  intro j
  unfold mv_ws mv_ad
  rw [List.getElem?_set, hs, List.getElem?_map, List.length_map, List.length_range, if_neg (show ¬ k = 0 by omega)]
  by_cases hj : k - 1 = j
  · subst hj
    rw [if_pos rfl, if_pos (by omega), List.getElem?_map, List.getElem?_range (by omega)]
    show _ = some (_, mv_ce G sh' M' (k - 1 + 1))
    rw [show k - 1 + 1 = k by omega, he]
  · rw [if_neg hj, List.getElem?_map]
    by_cases hl : j < sh.1
    · rw [List.getElem?_range hl]
      show some (mg_a G (j + 1), mv_ce G sh M (j + 1)) = some (mg_a G (j + 1), mv_ce G sh' M' (j + 1))
      rw [ho (j + 1) (by omega)]
    · rw [List.getElem?_eq_none (by simp; omega)]
      rfl
theorem mv_ws_push {G : mv_G} {sh sh' : mv_SH} {M M' : mv_Mem} {e : va_E} (hs : sh'.1 = sh.1 + 1) (he : mv_ce G sh' M' (sh.1 + 1) = e) (ho : ∀ j, j ≠ sh.1 + 1 → mv_ce G sh' M' j = mv_ce G sh M j) : mv_ws G sh M ++ [(mg_a G (sh.1 + 1), e)] = mv_ws G sh' M' := by
  unfold mv_ws
  rw [hs, List.range_succ, List.map_append, List.map_cons, List.map_nil, he]
  congr 1
  apply List.map_congr_left
  intro j hj
  have := List.mem_range.mp hj
  rw [ho (j + 1) (by omega)]
theorem mv_ce_c {G : mv_G} {sh sh' : mv_SH} {M M' : mv_Mem} {k : Nat} (h1 : sh'.2.2.1 k = sh.2.2.1 k) (h2 : sh'.2.2.2.1 k = sh.2.2.2.1 k) (h3 : ∀ f, sh'.2.2.2.2 k f = sh.2.2.2.2 k f) (h4 : ∀ i, M' k i = M k i) : mv_ce G sh' M' k = mv_ce G sh M k := by
  unfold mv_ce
  rw [h1, h2]
  have e1 : (fun i => Int32.ofInt (M' k i)) = (fun i => Int32.ofInt (M k i)) := funext fun i => by rw [h4 i]
  have e2 : (fun i => Int64.ofInt (M' k i)) = (fun i => Int64.ofInt (M k i)) := funext fun i => by rw [h4 i]
  have e3 : mv_fv G sh' M' (sh.2.2.1 k) k = mv_fv G sh M (sh.2.2.1 k) k := funext fun f => by unfold mv_fv; rw [h3 f, h4 f]
  rw [e1, e2, e3]
theorem mv_up_ne {M : mv_Mem} {a j k : Nat} {x : Int} (h : k ≠ a) (i : Nat) : mv_up M a j x k i = M k i := by
  unfold mv_up
  rw [if_neg (fun q => h q.1)]
theorem mv_up_f {M : mv_Mem} {a j : Nat} {x : Int} (g : Int → Int32) : (fun i => g (mv_up M a j x a i)) = upd (fun i => g (M a i)) j (g x) := by
  funext i
  unfold mv_up upd
  by_cases h : i = j
  · rw [if_pos ⟨rfl, h⟩, if_pos h]
  · rw [if_neg (fun q => h q.2), if_neg h]
theorem mv_up_fl {M : mv_Mem} {a j : Nat} {x : Int} (g : Int → Int64) : (fun i => g (mv_up M a j x a i)) = vp_updL (fun i => g (M a i)) j (g x) := by
  funext i
  unfold mv_up vp_updL
  by_cases h : i = j
  · rw [if_pos ⟨rfl, h⟩, if_pos h]
  · rw [if_neg (fun q => h q.2), if_neg h]
theorem mv_nm_up {G : mv_G} {sh : mv_SH} {M : mv_Mem} {k j : Nat} {x : Int} (h : mv_Nm G sh M) (hk : 1 ≤ k) (hx : mv_R64 x ∧ (sh.2.2.1 k ≠ 101 → mv_R32 x)) : mv_Nm G sh (mv_up M k j x) := by
  obtain ⟨⟨a1, a2, a3⟩, a4, a5⟩ := h
  refine ⟨⟨a1, a2, fun i => by rw [mv_up_ne (by omega)]; exact a3 i⟩, fun k' i => ?_, a5⟩
  unfold mv_up
  split
  · rename_i hq
    rw [hq.1]
    exact hx
  · exact a4 k' i
theorem mv_R6 {x : Int} (h : mv_R32 x) : mv_R64 x := by omega
theorem mv_sz {p : Program} {l : Launch} {e : Env} {R : Room} {s : State} {m : MethodId} {args : Array Value} {below : List Frame} {meth : Method} {c : Code} {H : Heap} {locs : List Loc} {cells slots : Nat} {Q : State → Prop} {g : JFrame}
    (k : H.size ≤ s.heap.size + cells → W p l e R s m args below meth c H locs cells slots Q g) : W p l e R s m args below meth c H locs cells slots Q g := fun T hT X => k (hT ▸ X.heapSize) T hT X
theorem mv_low {G : mv_G} {sh : mv_SH} {M : mv_Mem} {H H0 : Heap} {locs : List Loc} {n0 : Nat} (hW : mv_Wd G sh M H) (hS : va_S (mg_A G) H0 H locs) (h0 : mv_hp G n0 H0.size) (hn : n0 ≤ sh.1) : H0.size + (sh.1 - n0) ≤ H.size := by
  by_cases hz : sh.1 = n0
  · have := hS.1
    omega
  · have h := (hW.1 (sh.1 - 1) _ (mv_ws_get (k := sh.1) (by omega) (Nat.le_refl _))).lt
    have e : mv_ad G sh.1 = H0.size + (sh.1 - n0 - 1) := by
      unfold mv_ad
      rw [if_neg (by omega), ← h0 (sh.1 - n0 - 1), show n0 + 1 + (sh.1 - n0 - 1) = sh.1 by omega]
    have h' : mv_ad G sh.1 < H.size := h
    omega
theorem mv_hA {G : mv_G} {n z q : Nat} (h0 : mv_hp G n z) (h : z ≤ q) : mg_A G q := ⟨n + 1 + (q - z), by omega, by rw [h0]; omega⟩
theorem mw_0 : ∀ w ∈ u_ws RX0 TX0 13, w ∈ mv_tbl := by
  have h : (u_ws RX0 TX0 13).all (fun w => decide (w ∈ lw_tbl) && mv_gd w) = true := by decide +kernel
  intro w hw
  have h1 := List.all_eq_true.mp h w hw
  simp only [Bool.and_eq_true, decide_eq_true_eq] at h1
  exact List.mem_filter.mpr h1
theorem mw_1 : ∀ w ∈ u_ws RX1 TX1 8, w ∈ mv_tbl := by
  have h : (u_ws RX1 TX1 8).all (fun w => decide (w ∈ lw_tbl) && mv_gd w) = true := by decide +kernel
  intro w hw
  have h1 := List.all_eq_true.mp h w hw
  simp only [Bool.and_eq_true, decide_eq_true_eq] at h1
  exact List.mem_filter.mpr h1
theorem mw_2 : ∀ w ∈ u_ws RX2 TX2 5, w ∈ mv_tbl := by
  have h : (u_ws RX2 TX2 5).all (fun w => decide (w ∈ lw_tbl) && mv_gd w) = true := by decide +kernel
  intro w hw
  have h1 := List.all_eq_true.mp h w hw
  simp only [Bool.and_eq_true, decide_eq_true_eq] at h1
  exact List.mem_filter.mpr h1
theorem mw_3 : ∀ w ∈ u_ws RX3 TX3 9, w ∈ mv_tbl := by
  have h : (u_ws RX3 TX3 9).all (fun w => decide (w ∈ lw_tbl) && mv_gd w) = true := by decide +kernel
  intro w hw
  have h1 := List.all_eq_true.mp h w hw
  simp only [Bool.and_eq_true, decide_eq_true_eq] at h1
  exact List.mem_filter.mpr h1
theorem mw_4 : ∀ w ∈ u_ws RX4 TX4 2, w ∈ mv_tbl := by
  have h : (u_ws RX4 TX4 2).all (fun w => decide (w ∈ lw_tbl) && mv_gd w) = true := by decide +kernel
  intro w hw
  have h1 := List.all_eq_true.mp h w hw
  simp only [Bool.and_eq_true, decide_eq_true_eq] at h1
  exact List.mem_filter.mpr h1
theorem mw_5 : ∀ w ∈ u_ws RX5 TX5 2, w ∈ mv_tbl := by
  have h : (u_ws RX5 TX5 2).all (fun w => decide (w ∈ lw_tbl) && mv_gd w) = true := by decide +kernel
  intro w hw
  have h1 := List.all_eq_true.mp h w hw
  simp only [Bool.and_eq_true, decide_eq_true_eq] at h1
  exact List.mem_filter.mpr h1
theorem mw_6 : ∀ w ∈ u_ws RX6 TX6 4, w ∈ mv_tbl := by
  have h : (u_ws RX6 TX6 4).all (fun w => decide (w ∈ lw_tbl) && mv_gd w) = true := by decide +kernel
  intro w hw
  have h1 := List.all_eq_true.mp h w hw
  simp only [Bool.and_eq_true, decide_eq_true_eq] at h1
  exact List.mem_filter.mpr h1
theorem mw_7 : ∀ w ∈ u_ws RX7 TX7 14, w ∈ mv_tbl := by
  have h : (u_ws RX7 TX7 14).all (fun w => decide (w ∈ lw_tbl) && mv_gd w) = true := by decide +kernel
  intro w hw
  have h1 := List.all_eq_true.mp h w hw
  simp only [Bool.and_eq_true, decide_eq_true_eq] at h1
  exact List.mem_filter.mpr h1
theorem mw_8 : ∀ w ∈ u_ws RX8 TX8 6, w ∈ mv_tbl := by
  have h : (u_ws RX8 TX8 6).all (fun w => decide (w ∈ lw_tbl) && mv_gd w) = true := by decide +kernel
  intro w hw
  have h1 := List.all_eq_true.mp h w hw
  simp only [Bool.and_eq_true, decide_eq_true_eq] at h1
  exact List.mem_filter.mpr h1
theorem mw_9 : ∀ w ∈ u_ws RX9 TX9 1, w ∈ mv_tbl := by
  have h : (u_ws RX9 TX9 1).all (fun w => decide (w ∈ lw_tbl) && mv_gd w) = true := by decide +kernel
  intro w hw
  have h1 := List.all_eq_true.mp h w hw
  simp only [Bool.and_eq_true, decide_eq_true_eq] at h1
  exact List.mem_filter.mpr h1
theorem mw_10 : ∀ w ∈ u_ws RX10 TX10 3, w ∈ mv_tbl := by
  have h : (u_ws RX10 TX10 3).all (fun w => decide (w ∈ lw_tbl) && mv_gd w) = true := by decide +kernel
  intro w hw
  have h1 := List.all_eq_true.mp h w hw
  simp only [Bool.and_eq_true, decide_eq_true_eq] at h1
  exact List.mem_filter.mpr h1
theorem mw_11 : ∀ w ∈ u_ws RX11 TX11 13, w ∈ mv_tbl := by
  have h : (u_ws RX11 TX11 13).all (fun w => decide (w ∈ lw_tbl) && mv_gd w) = true := by decide +kernel
  intro w hw
  have h1 := List.all_eq_true.mp h w hw
  simp only [Bool.and_eq_true, decide_eq_true_eq] at h1
  exact List.mem_filter.mpr h1
/-- the class table's facts, by its places -/
theorem mv_cls {ci N : Nat} {C : String} {T : u_T} (h : vwCl[ci]? = some (C, T, N)) : (∀ w ∈ u_ws C T N, w ∈ mv_tbl) ∧ (∀ k, k < N → parseFieldDescriptor (T k).2.2.1 = some (mv_ty ci k)) ∧ (∀ a, a < N → ∀ b, b < N → a ≠ b → (T a).2.1 ≠ (T b).2.1) ∧ mv_nf ci = N ∧ ci < 100 := by
  have hl : ci < 12 := (List.getElem?_eq_some_iff.mp h).1
  match ci, hl, h with
  | 0, _, h => cases h; exact ⟨mw_0, tyX0_ok, nmX0, rfl, by omega⟩
  | 1, _, h => cases h; exact ⟨mw_1, tyX1_ok, nmX1, rfl, by omega⟩
  | 2, _, h => cases h; exact ⟨mw_2, tyX2_ok, nmX2, rfl, by omega⟩
  | 3, _, h => cases h; exact ⟨mw_3, tyX3_ok, nmX3, rfl, by omega⟩
  | 4, _, h => cases h; exact ⟨mw_4, tyX4_ok, nmX4, rfl, by omega⟩
  | 5, _, h => cases h; exact ⟨mw_5, tyX5_ok, nmX5, rfl, by omega⟩
  | 6, _, h => cases h; exact ⟨mw_6, tyX6_ok, nmX6, rfl, by omega⟩
  | 7, _, h => cases h; exact ⟨mw_7, tyX7_ok, nmX7, rfl, by omega⟩
  | 8, _, h => cases h; exact ⟨mw_8, tyX8_ok, nmX8, rfl, by omega⟩
  | 9, _, h => cases h; exact ⟨mw_9, tyX9_ok, nmX9, rfl, by omega⟩
  | 10, _, h => cases h; exact ⟨mw_10, tyX10_ok, nmX10, rfl, by omega⟩
  | 11, _, h => cases h; exact ⟨mw_11, tyX11_ok, nmX11, rfl, by omega⟩
  | n + 12, hl, _ => omega
end
section
theorem mv_if_s {c : Prop} [Decidable c] {A : Prop} (h : if c then A else False) : c ∧ A := by
  by_cases q : c
  · rw [if_pos q] at h; exact ⟨q, h⟩
  · rw [if_neg q] at h; exact h.elim
/-! ONE INSTRUCTION OF THE SMALL MACHINE, BY THE KIT'S ROW (by program: wip/whole/stepgen.py) -/
section MS
variable {G : mv_G} {mi n0 s0 : Nat} {post : Option mv_V → mv_SH → mv_Mem → Prop} {pc a b c : Nat} {v : Int} {ts : List Nat} {L : mv_L} {st : List mv_V} {sh : mv_SH} {M : mv_Mem}
variable {NX : mv_L → List mv_V → mv_SH → mv_Mem → Prop} {JP : Nat → mv_L → List mv_V → mv_SH → mv_Mem → Prop}
abbrev mv_RN (G : mv_G) (mi n0 s0 pc : Nat) (post : Option mv_V → mv_SH → mv_Mem → Prop) (NX : mv_L → List mv_V → mv_SH → mv_Mem → Prop) : Prop := ∀ L st sh M, NX L st sh M → mv_Run G mi n0 s0 pc L st sh M post
theorem ms_iadd (hd : decode (mt_cc (mv_r mi)) pc = .ok (.iadd, 1)) (hn : mv_RN G mi n0 s0 (pc + 1) post NX)
    (hb : mv_pi st fun y r => mv_pi r fun x r => mv_R32 (x + y) ∧ NX L (.inl (x + y) :: r) sh M) : mv_Run G mi n0 s0 pc L st sh M post := by
  obtain ⟨y, r, rfl, hb1⟩ := mv_pi_s hb
  obtain ⟨x, r, rfl, hb2⟩ := mv_pi_s hb1
  obtain ⟨hR, hb2⟩ := hb2
  intro p e s m args below meth cx H locs ls C hl hL hS hW hV hn0 hs0
  obtain ⟨hx, hcb, hml, hown, hts, hrt, hlk, hnm, hsz, hX, hbo, hK⟩ := id C
  have K := hn _ _ _ _ hb2 p e s m args below meth cx H locs ls C hl hL (List.forall_mem_cons.mpr ⟨hR, (List.forall_mem_cons.mp (List.forall_mem_cons.mp hS).2).2⟩) hW hV hn0 hs0
  refine lv_iadd hx hcb hd ?_
  rw [← Int32.ofInt_add]
  exact K
theorem ms_ladd (hd : decode (mt_cc (mv_r mi)) pc = .ok (.ladd, 1)) (hn : mv_RN G mi n0 s0 (pc + 1) post NX)
    (hb : mv_pl st fun y r => mv_pl r fun x r => mv_R64 (x + y) ∧ NX L (.inr (.inl (x + y)) :: r) sh M) : mv_Run G mi n0 s0 pc L st sh M post := by
  obtain ⟨y, r, rfl, hb1⟩ := mv_pl_s hb
  obtain ⟨x, r, rfl, hb2⟩ := mv_pl_s hb1
  obtain ⟨hR, hb2⟩ := hb2
  intro p e s m args below meth cx H locs ls C hl hL hS hW hV hn0 hs0
  obtain ⟨hx, hcb, hml, hown, hts, hrt, hlk, hnm, hsz, hX, hbo, hK⟩ := id C
  have K := hn _ _ _ _ hb2 p e s m args below meth cx H locs ls C hl hL (List.forall_mem_cons.mpr ⟨hR, (List.forall_mem_cons.mp (List.forall_mem_cons.mp hS).2).2⟩) hW hV hn0 hs0
  refine lv_ladd hx hcb hd ?_
  rw [← Int64.ofInt_add]
  exact K
theorem ms_isub (hd : decode (mt_cc (mv_r mi)) pc = .ok (.isub, 1)) (hn : mv_RN G mi n0 s0 (pc + 1) post NX)
    (hb : mv_pi st fun y r => mv_pi r fun x r => mv_R32 (x - y) ∧ NX L (.inl (x - y) :: r) sh M) : mv_Run G mi n0 s0 pc L st sh M post := by
  obtain ⟨y, r, rfl, hb1⟩ := mv_pi_s hb
  obtain ⟨x, r, rfl, hb2⟩ := mv_pi_s hb1
  obtain ⟨hR, hb2⟩ := hb2
  intro p e s m args below meth cx H locs ls C hl hL hS hW hV hn0 hs0
  obtain ⟨hx, hcb, hml, hown, hts, hrt, hlk, hnm, hsz, hX, hbo, hK⟩ := id C
  have K := hn _ _ _ _ hb2 p e s m args below meth cx H locs ls C hl hL (List.forall_mem_cons.mpr ⟨hR, (List.forall_mem_cons.mp (List.forall_mem_cons.mp hS).2).2⟩) hW hV hn0 hs0
  refine lv_isub hx hcb hd ?_
  rw [← Int32.ofInt_sub]
  exact K
theorem ms_lsub (hd : decode (mt_cc (mv_r mi)) pc = .ok (.lsub, 1)) (hn : mv_RN G mi n0 s0 (pc + 1) post NX)
    (hb : mv_pl st fun y r => mv_pl r fun x r => mv_R64 (x - y) ∧ NX L (.inr (.inl (x - y)) :: r) sh M) : mv_Run G mi n0 s0 pc L st sh M post := by
  obtain ⟨y, r, rfl, hb1⟩ := mv_pl_s hb
  obtain ⟨x, r, rfl, hb2⟩ := mv_pl_s hb1
  obtain ⟨hR, hb2⟩ := hb2
  intro p e s m args below meth cx H locs ls C hl hL hS hW hV hn0 hs0
  obtain ⟨hx, hcb, hml, hown, hts, hrt, hlk, hnm, hsz, hX, hbo, hK⟩ := id C
  have K := hn _ _ _ _ hb2 p e s m args below meth cx H locs ls C hl hL (List.forall_mem_cons.mpr ⟨hR, (List.forall_mem_cons.mp (List.forall_mem_cons.mp hS).2).2⟩) hW hV hn0 hs0
  refine lv_lsub hx hcb hd ?_
  rw [← Int64.ofInt_sub]
  exact K
theorem ms_imul (hd : decode (mt_cc (mv_r mi)) pc = .ok (.imul, 1)) (hn : mv_RN G mi n0 s0 (pc + 1) post NX)
    (hb : mv_pi st fun y r => mv_pi r fun x r => mv_R32 (x * y) ∧ NX L (.inl (x * y) :: r) sh M) : mv_Run G mi n0 s0 pc L st sh M post := by
  obtain ⟨y, r, rfl, hb1⟩ := mv_pi_s hb
  obtain ⟨x, r, rfl, hb2⟩ := mv_pi_s hb1
  obtain ⟨hR, hb2⟩ := hb2
  intro p e s m args below meth cx H locs ls C hl hL hS hW hV hn0 hs0
  obtain ⟨hx, hcb, hml, hown, hts, hrt, hlk, hnm, hsz, hX, hbo, hK⟩ := id C
  have K := hn _ _ _ _ hb2 p e s m args below meth cx H locs ls C hl hL (List.forall_mem_cons.mpr ⟨hR, (List.forall_mem_cons.mp (List.forall_mem_cons.mp hS).2).2⟩) hW hV hn0 hs0
  refine lv_imul hx hcb hd ?_
  rw [← Int32.ofInt_mul]
  exact K
theorem ms_lmul (hd : decode (mt_cc (mv_r mi)) pc = .ok (.lmul, 1)) (hn : mv_RN G mi n0 s0 (pc + 1) post NX)
    (hb : mv_pl st fun y r => mv_pl r fun x r => mv_R64 (x * y) ∧ NX L (.inr (.inl (x * y)) :: r) sh M) : mv_Run G mi n0 s0 pc L st sh M post := by
  obtain ⟨y, r, rfl, hb1⟩ := mv_pl_s hb
  obtain ⟨x, r, rfl, hb2⟩ := mv_pl_s hb1
  obtain ⟨hR, hb2⟩ := hb2
  intro p e s m args below meth cx H locs ls C hl hL hS hW hV hn0 hs0
  obtain ⟨hx, hcb, hml, hown, hts, hrt, hlk, hnm, hsz, hX, hbo, hK⟩ := id C
  have K := hn _ _ _ _ hb2 p e s m args below meth cx H locs ls C hl hL (List.forall_mem_cons.mpr ⟨hR, (List.forall_mem_cons.mp (List.forall_mem_cons.mp hS).2).2⟩) hW hV hn0 hs0
  refine lv_lmul hx hcb hd ?_
  rw [← Int64.ofInt_mul]
  exact K
theorem mv_dv32 {x y : Int} (hx : mv_R32 x) (hy : mv_R32 y) : Int32.ofInt x / Int32.ofInt y = Int32.ofInt (x.tdiv y) := by
  have e1 : Int32.minValue.toInt = -2147483648 := by decide
  have e2 : Int32.maxValue.toInt = 2147483648 - 1 := by decide
  exact (Int32.ofInt_tdiv (by omega) (by omega) (by omega) (by omega)).symm
theorem mv_md32 {x y : Int} (hx : mv_R32 x) (hy : mv_R32 y) : Int32.ofInt x - Int32.ofInt x / Int32.ofInt y * Int32.ofInt y = Int32.ofInt (x.tmod y) := by
  rw [mv_dv32 hx hy, ← Int32.ofInt_mul, ← Int32.ofInt_sub, Int.tmod_def, Int.mul_comm]
theorem mv_nz32 {y : Int} (hy : mv_R32 y) (h : ¬ y = 0) : ¬ Int32.ofInt y = 0 := by
  intro q
  exact h ((mv_e32 hy mv_z32).mp q)
theorem ms_idiv (hd : decode (mt_cc (mv_r mi)) pc = .ok (.idiv, 1)) (hn : mv_RN G mi n0 s0 (pc + 1) post NX)
    (hb : mv_pi st fun y r => mv_pi r fun x r => (¬ y = 0 ∧ mv_R32 (x.tdiv y)) ∧ NX L (.inl (x.tdiv y) :: r) sh M) : mv_Run G mi n0 s0 pc L st sh M post := by
  obtain ⟨y, r, rfl, hb1⟩ := mv_pi_s hb
  obtain ⟨x, r, rfl, hb2⟩ := mv_pi_s hb1
  obtain ⟨⟨hz, hR⟩, hb2⟩ := hb2
  intro p e s m args below meth cx H locs ls C hl hL hS hW hV hn0 hs0
  obtain ⟨hx, hcb, hml, hown, hts, hrt, hlk, hnm, hsz, hX, hbo, hK⟩ := id C
  have hy := (List.forall_mem_cons.mp hS).1
  have hx2 := (List.forall_mem_cons.mp (List.forall_mem_cons.mp hS).2).1
  have K := hn _ _ _ _ hb2 p e s m args below meth cx H locs ls C hl hL (List.forall_mem_cons.mpr ⟨hR, (List.forall_mem_cons.mp (List.forall_mem_cons.mp hS).2).2⟩) hW hV hn0 hs0
  refine lv_idiv hx hcb hd (mv_nz32 hy hz) ?_
  rw [mv_dv32 hx2 hy]
  exact K
theorem ms_irem (hd : decode (mt_cc (mv_r mi)) pc = .ok (.irem, 1)) (hn : mv_RN G mi n0 s0 (pc + 1) post NX)
    (hb : mv_pi st fun y r => mv_pi r fun x r => ¬ y = 0 ∧ NX L (.inl (x.tmod y) :: r) sh M) : mv_Run G mi n0 s0 pc L st sh M post := by
  obtain ⟨y, r, rfl, hb1⟩ := mv_pi_s hb
  obtain ⟨x, r, rfl, hb2⟩ := mv_pi_s hb1
  obtain ⟨hz, hb2⟩ := hb2
  intro p e s m args below meth cx H locs ls C hl hL hS hW hV hn0 hs0
  obtain ⟨hx, hcb, hml, hown, hts, hrt, hlk, hnm, hsz, hX, hbo, hK⟩ := id C
  have hy := (List.forall_mem_cons.mp hS).1
  have hx2 := (List.forall_mem_cons.mp (List.forall_mem_cons.mp hS).2).1
  have hR : mv_R32 (x.tmod y) := by
    have h0 : mv_R32 x := hx2
    have h1 : (x.tmod y).natAbs ≤ x.natAbs := by
      rw [Int.natAbs_tmod]
      exact Nat.mod_le _ _
    have h2 : 0 ≤ x → 0 ≤ x.tmod y := fun h => Int.tmod_nonneg y h
    have h3 : x.tmod y = -((-x).tmod y) := by rw [Int.neg_tmod, Int.neg_neg]
    have h4 : x ≤ 0 → 0 ≤ (-x).tmod y := fun h => Int.tmod_nonneg y (by omega)
    constructor <;> omega
  have K := hn _ _ _ _ hb2 p e s m args below meth cx H locs ls C hl hL (List.forall_mem_cons.mpr ⟨hR, (List.forall_mem_cons.mp (List.forall_mem_cons.mp hS).2).2⟩) hW hV hn0 hs0
  refine lv_irem hx hcb hd (mv_nz32 hy hz) ?_
  rw [mv_md32 hx2 hy]
  exact K
theorem ms_ineg (hd : decode (mt_cc (mv_r mi)) pc = .ok (.ineg, 1)) (hn : mv_RN G mi n0 s0 (pc + 1) post NX)
    (hb : mv_pi st fun x r => mv_R32 (-x) ∧ NX L (.inl (-x) :: r) sh M) : mv_Run G mi n0 s0 pc L st sh M post := by
  obtain ⟨x, r, rfl, hb1⟩ := mv_pi_s hb
  obtain ⟨hR, hb1⟩ := hb1
  intro p e s m args below meth cx H locs ls C hl hL hS hW hV hn0 hs0
  obtain ⟨hx, hcb, hml, hown, hts, hrt, hlk, hnm, hsz, hX, hbo, hK⟩ := id C
  have K := hn _ _ _ _ hb1 p e s m args below meth cx H locs ls C hl hL (List.forall_mem_cons.mpr ⟨hR, (List.forall_mem_cons.mp hS).2⟩) hW hV hn0 hs0
  refine lv_ineg hx hcb hd ?_
  rw [← Int32.ofInt_neg]
  exact K
theorem mv_dv64 {x y : Int} (hx : mv_R64 x) (hy : mv_R64 y) : Int64.ofInt x / Int64.ofInt y = Int64.ofInt (x.tdiv y) := by
  have e1 : Int64.minValue.toInt = -9223372036854775808 := by decide
  have e2 : Int64.maxValue.toInt = 9223372036854775808 - 1 := by decide
  exact (Int64.ofInt_tdiv (by omega) (by omega) (by omega) (by omega)).symm
theorem mv_md64 {x y : Int} (hx : mv_R64 x) (hy : mv_R64 y) : Int64.ofInt x - Int64.ofInt x / Int64.ofInt y * Int64.ofInt y = Int64.ofInt (x.tmod y) := by
  rw [mv_dv64 hx hy, ← Int64.ofInt_mul, ← Int64.ofInt_sub, Int.tmod_def, Int.mul_comm]
theorem mv_nz64 {y : Int} (hy : mv_R64 y) (h : ¬ y = 0) : ¬ Int64.ofInt y = 0 := by
  intro q
  exact h ((mv_e64 hy mv_z64).mp q)
theorem ms_ldiv (hd : decode (mt_cc (mv_r mi)) pc = .ok (.ldiv, 1)) (hn : mv_RN G mi n0 s0 (pc + 1) post NX)
    (hb : mv_pl st fun y r => mv_pl r fun x r => (¬ y = 0 ∧ mv_R64 (x.tdiv y)) ∧ NX L (.inr (.inl (x.tdiv y)) :: r) sh M) : mv_Run G mi n0 s0 pc L st sh M post := by
  obtain ⟨y, r, rfl, hb1⟩ := mv_pl_s hb
  obtain ⟨x, r, rfl, hb2⟩ := mv_pl_s hb1
  obtain ⟨⟨hz, hR⟩, hb2⟩ := hb2
  intro p e s m args below meth cx H locs ls C hl hL hS hW hV hn0 hs0
  obtain ⟨hx, hcb, hml, hown, hts, hrt, hlk, hnm, hsz, hX, hbo, hK⟩ := id C
  have hy := (List.forall_mem_cons.mp hS).1
  have hx2 := (List.forall_mem_cons.mp (List.forall_mem_cons.mp hS).2).1
  have K := hn _ _ _ _ hb2 p e s m args below meth cx H locs ls C hl hL (List.forall_mem_cons.mpr ⟨hR, (List.forall_mem_cons.mp (List.forall_mem_cons.mp hS).2).2⟩) hW hV hn0 hs0
  refine lv_ldiv hx hcb hd (mv_nz64 hy hz) ?_
  rw [mv_dv64 hx2 hy]
  exact K
theorem ms_lrem (hd : decode (mt_cc (mv_r mi)) pc = .ok (.lrem, 1)) (hn : mv_RN G mi n0 s0 (pc + 1) post NX)
    (hb : mv_pl st fun y r => mv_pl r fun x r => ¬ y = 0 ∧ NX L (.inr (.inl (x.tmod y)) :: r) sh M) : mv_Run G mi n0 s0 pc L st sh M post := by
  obtain ⟨y, r, rfl, hb1⟩ := mv_pl_s hb
  obtain ⟨x, r, rfl, hb2⟩ := mv_pl_s hb1
  obtain ⟨hz, hb2⟩ := hb2
  intro p e s m args below meth cx H locs ls C hl hL hS hW hV hn0 hs0
  obtain ⟨hx, hcb, hml, hown, hts, hrt, hlk, hnm, hsz, hX, hbo, hK⟩ := id C
  have hy := (List.forall_mem_cons.mp hS).1
  have hx2 := (List.forall_mem_cons.mp (List.forall_mem_cons.mp hS).2).1
  have hR : mv_R64 (x.tmod y) := by
    have h0 : mv_R64 x := hx2
    have h1 : (x.tmod y).natAbs ≤ x.natAbs := by
      rw [Int.natAbs_tmod]
      exact Nat.mod_le _ _
    have h2 : 0 ≤ x → 0 ≤ x.tmod y := fun h => Int.tmod_nonneg y h
    have h3 : x.tmod y = -((-x).tmod y) := by rw [Int.neg_tmod, Int.neg_neg]
    have h4 : x ≤ 0 → 0 ≤ (-x).tmod y := fun h => Int.tmod_nonneg y (by omega)
    constructor <;> omega
  have K := hn _ _ _ _ hb2 p e s m args below meth cx H locs ls C hl hL (List.forall_mem_cons.mpr ⟨hR, (List.forall_mem_cons.mp (List.forall_mem_cons.mp hS).2).2⟩) hW hV hn0 hs0
  refine lv_lrem hx hcb hd (mv_nz64 hy hz) ?_
  rw [mv_md64 hx2 hy]
  exact K
theorem ms_lneg (hd : decode (mt_cc (mv_r mi)) pc = .ok (.lneg, 1)) (hn : mv_RN G mi n0 s0 (pc + 1) post NX)
    (hb : mv_pl st fun x r => mv_R64 (-x) ∧ NX L (.inr (.inl (-x)) :: r) sh M) : mv_Run G mi n0 s0 pc L st sh M post := by
  obtain ⟨x, r, rfl, hb1⟩ := mv_pl_s hb
  obtain ⟨hR, hb1⟩ := hb1
  intro p e s m args below meth cx H locs ls C hl hL hS hW hV hn0 hs0
  obtain ⟨hx, hcb, hml, hown, hts, hrt, hlk, hnm, hsz, hX, hbo, hK⟩ := id C
  have K := hn _ _ _ _ hb1 p e s m args below meth cx H locs ls C hl hL (List.forall_mem_cons.mpr ⟨hR, (List.forall_mem_cons.mp hS).2⟩) hW hV hn0 hs0
  refine lv_lneg hx hcb hd ?_
  rw [← Int64.ofInt_neg]
  exact K
theorem ms_iand (hd : decode (mt_cc (mv_r mi)) pc = .ok (.iand, 1)) (hn : mv_RN G mi n0 s0 (pc + 1) post NX)
    (hb : mv_pi st fun y r => mv_pi r fun x r => NX L (.inl (mv_and x y) :: r) sh M) : mv_Run G mi n0 s0 pc L st sh M post := by
  obtain ⟨y, r, rfl, hb1⟩ := mv_pi_s hb
  obtain ⟨x, r, rfl, hb2⟩ := mv_pi_s hb1
  intro p e s m args below meth cx H locs ls C hl hL hS hW hV hn0 hs0
  obtain ⟨hx, hcb, hml, hown, hts, hrt, hlk, hnm, hsz, hX, hbo, hK⟩ := id C
  have K := hn _ _ _ _ hb2 p e s m args below meth cx H locs ls C hl hL (List.forall_mem_cons.mpr ⟨mv_r32 _, (List.forall_mem_cons.mp (List.forall_mem_cons.mp hS).2).2⟩) hW hV hn0 hs0
  refine lv_iand hx hcb hd ?_
  have E : mv_ct G (.inl (mv_and x y)) = .int _ := congrArg Value.int (Int32.ofInt_toInt _)
  rw [List.map_cons, E] at K
  exact K
theorem ms_ixor (hd : decode (mt_cc (mv_r mi)) pc = .ok (.ixor, 1)) (hn : mv_RN G mi n0 s0 (pc + 1) post NX)
    (hb : mv_pi st fun y r => mv_pi r fun x r => NX L (.inl (mv_xor x y) :: r) sh M) : mv_Run G mi n0 s0 pc L st sh M post := by
  obtain ⟨y, r, rfl, hb1⟩ := mv_pi_s hb
  obtain ⟨x, r, rfl, hb2⟩ := mv_pi_s hb1
  intro p e s m args below meth cx H locs ls C hl hL hS hW hV hn0 hs0
  obtain ⟨hx, hcb, hml, hown, hts, hrt, hlk, hnm, hsz, hX, hbo, hK⟩ := id C
  have K := hn _ _ _ _ hb2 p e s m args below meth cx H locs ls C hl hL (List.forall_mem_cons.mpr ⟨mv_r32 _, (List.forall_mem_cons.mp (List.forall_mem_cons.mp hS).2).2⟩) hW hV hn0 hs0
  refine lv_ixor hx hcb hd ?_
  have E : mv_ct G (.inl (mv_xor x y)) = .int _ := congrArg Value.int (Int32.ofInt_toInt _)
  rw [List.map_cons, E] at K
  exact K
theorem ms_ishl (hd : decode (mt_cc (mv_r mi)) pc = .ok (.ishl, 1)) (hn : mv_RN G mi n0 s0 (pc + 1) post NX)
    (hb : mv_pi st fun y r => mv_pi r fun x r => NX L (.inl (mv_shl x y) :: r) sh M) : mv_Run G mi n0 s0 pc L st sh M post := by
  obtain ⟨y, r, rfl, hb1⟩ := mv_pi_s hb
  obtain ⟨x, r, rfl, hb2⟩ := mv_pi_s hb1
  intro p e s m args below meth cx H locs ls C hl hL hS hW hV hn0 hs0
  obtain ⟨hx, hcb, hml, hown, hts, hrt, hlk, hnm, hsz, hX, hbo, hK⟩ := id C
  have K := hn _ _ _ _ hb2 p e s m args below meth cx H locs ls C hl hL (List.forall_mem_cons.mpr ⟨mv_r32 _, (List.forall_mem_cons.mp (List.forall_mem_cons.mp hS).2).2⟩) hW hV hn0 hs0
  refine lv_ishl hx hcb hd ?_
  have E : mv_ct G (.inl (mv_shl x y)) = .int _ := congrArg Value.int (Int32.ofInt_toInt _)
  rw [List.map_cons, E] at K
  exact K
theorem ms_ishr (hd : decode (mt_cc (mv_r mi)) pc = .ok (.ishr, 1)) (hn : mv_RN G mi n0 s0 (pc + 1) post NX)
    (hb : mv_pi st fun y r => mv_pi r fun x r => NX L (.inl (mv_shr x y) :: r) sh M) : mv_Run G mi n0 s0 pc L st sh M post := by
  obtain ⟨y, r, rfl, hb1⟩ := mv_pi_s hb
  obtain ⟨x, r, rfl, hb2⟩ := mv_pi_s hb1
  intro p e s m args below meth cx H locs ls C hl hL hS hW hV hn0 hs0
  obtain ⟨hx, hcb, hml, hown, hts, hrt, hlk, hnm, hsz, hX, hbo, hK⟩ := id C
  have K := hn _ _ _ _ hb2 p e s m args below meth cx H locs ls C hl hL (List.forall_mem_cons.mpr ⟨mv_r32 _, (List.forall_mem_cons.mp (List.forall_mem_cons.mp hS).2).2⟩) hW hV hn0 hs0
  refine lv_ishr hx hcb hd ?_
  have E : mv_ct G (.inl (mv_shr x y)) = .int _ := congrArg Value.int (Int32.ofInt_toInt _)
  rw [List.map_cons, E] at K
  exact K
theorem ms_land (hd : decode (mt_cc (mv_r mi)) pc = .ok (.land, 1)) (hn : mv_RN G mi n0 s0 (pc + 1) post NX)
    (hb : mv_pl st fun y r => mv_pl r fun x r => NX L (.inr (.inl (mv_land x y)) :: r) sh M) : mv_Run G mi n0 s0 pc L st sh M post := by
  obtain ⟨y, r, rfl, hb1⟩ := mv_pl_s hb
  obtain ⟨x, r, rfl, hb2⟩ := mv_pl_s hb1
  intro p e s m args below meth cx H locs ls C hl hL hS hW hV hn0 hs0
  obtain ⟨hx, hcb, hml, hown, hts, hrt, hlk, hnm, hsz, hX, hbo, hK⟩ := id C
  have K := hn _ _ _ _ hb2 p e s m args below meth cx H locs ls C hl hL (List.forall_mem_cons.mpr ⟨mv_r64 _, (List.forall_mem_cons.mp (List.forall_mem_cons.mp hS).2).2⟩) hW hV hn0 hs0
  refine lv_land hx hcb hd ?_
  have E : mv_ct G (.inr (.inl (mv_land x y))) = .long _ := congrArg Value.long (Int64.ofInt_toInt _)
  rw [List.map_cons, E] at K
  exact K
theorem ms_lor (hd : decode (mt_cc (mv_r mi)) pc = .ok (.lor, 1)) (hn : mv_RN G mi n0 s0 (pc + 1) post NX)
    (hb : mv_pl st fun y r => mv_pl r fun x r => NX L (.inr (.inl (mv_lor x y)) :: r) sh M) : mv_Run G mi n0 s0 pc L st sh M post := by
  obtain ⟨y, r, rfl, hb1⟩ := mv_pl_s hb
  obtain ⟨x, r, rfl, hb2⟩ := mv_pl_s hb1
  intro p e s m args below meth cx H locs ls C hl hL hS hW hV hn0 hs0
  obtain ⟨hx, hcb, hml, hown, hts, hrt, hlk, hnm, hsz, hX, hbo, hK⟩ := id C
  have K := hn _ _ _ _ hb2 p e s m args below meth cx H locs ls C hl hL (List.forall_mem_cons.mpr ⟨mv_r64 _, (List.forall_mem_cons.mp (List.forall_mem_cons.mp hS).2).2⟩) hW hV hn0 hs0
  refine lv_lor hx hcb hd ?_
  have E : mv_ct G (.inr (.inl (mv_lor x y))) = .long _ := congrArg Value.long (Int64.ofInt_toInt _)
  rw [List.map_cons, E] at K
  exact K
theorem ms_lxor (hd : decode (mt_cc (mv_r mi)) pc = .ok (.lxor, 1)) (hn : mv_RN G mi n0 s0 (pc + 1) post NX)
    (hb : mv_pl st fun y r => mv_pl r fun x r => NX L (.inr (.inl (mv_lxor x y)) :: r) sh M) : mv_Run G mi n0 s0 pc L st sh M post := by
  obtain ⟨y, r, rfl, hb1⟩ := mv_pl_s hb
  obtain ⟨x, r, rfl, hb2⟩ := mv_pl_s hb1
  intro p e s m args below meth cx H locs ls C hl hL hS hW hV hn0 hs0
  obtain ⟨hx, hcb, hml, hown, hts, hrt, hlk, hnm, hsz, hX, hbo, hK⟩ := id C
  have K := hn _ _ _ _ hb2 p e s m args below meth cx H locs ls C hl hL (List.forall_mem_cons.mpr ⟨mv_r64 _, (List.forall_mem_cons.mp (List.forall_mem_cons.mp hS).2).2⟩) hW hV hn0 hs0
  refine lv_lxor hx hcb hd ?_
  have E : mv_ct G (.inr (.inl (mv_lxor x y))) = .long _ := congrArg Value.long (Int64.ofInt_toInt _)
  rw [List.map_cons, E] at K
  exact K
theorem ms_lshl (hd : decode (mt_cc (mv_r mi)) pc = .ok (.lshl, 1)) (hn : mv_RN G mi n0 s0 (pc + 1) post NX)
    (hb : mv_pi st fun y r => mv_pl r fun x r => NX L (.inr (.inl (mv_lshl x y)) :: r) sh M) : mv_Run G mi n0 s0 pc L st sh M post := by
  obtain ⟨y, r, rfl, hb1⟩ := mv_pi_s hb
  obtain ⟨x, r, rfl, hb2⟩ := mv_pl_s hb1
  intro p e s m args below meth cx H locs ls C hl hL hS hW hV hn0 hs0
  obtain ⟨hx, hcb, hml, hown, hts, hrt, hlk, hnm, hsz, hX, hbo, hK⟩ := id C
  have K := hn _ _ _ _ hb2 p e s m args below meth cx H locs ls C hl hL (List.forall_mem_cons.mpr ⟨mv_r64 _, (List.forall_mem_cons.mp (List.forall_mem_cons.mp hS).2).2⟩) hW hV hn0 hs0
  refine lv_lshl hx hcb hd rfl ?_
  have E : mv_ct G (.inr (.inl (mv_lshl x y))) = .long _ := congrArg Value.long (Int64.ofInt_toInt _)
  rw [List.map_cons, E] at K
  exact K
theorem ms_lshr (hd : decode (mt_cc (mv_r mi)) pc = .ok (.lshr, 1)) (hn : mv_RN G mi n0 s0 (pc + 1) post NX)
    (hb : mv_pi st fun y r => mv_pl r fun x r => NX L (.inr (.inl (mv_lshr x y)) :: r) sh M) : mv_Run G mi n0 s0 pc L st sh M post := by
  obtain ⟨y, r, rfl, hb1⟩ := mv_pi_s hb
  obtain ⟨x, r, rfl, hb2⟩ := mv_pl_s hb1
  intro p e s m args below meth cx H locs ls C hl hL hS hW hV hn0 hs0
  obtain ⟨hx, hcb, hml, hown, hts, hrt, hlk, hnm, hsz, hX, hbo, hK⟩ := id C
  have K := hn _ _ _ _ hb2 p e s m args below meth cx H locs ls C hl hL (List.forall_mem_cons.mpr ⟨mv_r64 _, (List.forall_mem_cons.mp (List.forall_mem_cons.mp hS).2).2⟩) hW hV hn0 hs0
  refine lv_lshr hx hcb hd rfl ?_
  have E : mv_ct G (.inr (.inl (mv_lshr x y))) = .long _ := congrArg Value.long (Int64.ofInt_toInt _)
  rw [List.map_cons, E] at K
  exact K
theorem ms_lushr (hd : decode (mt_cc (mv_r mi)) pc = .ok (.lushr, 1)) (hn : mv_RN G mi n0 s0 (pc + 1) post NX)
    (hb : mv_pi st fun y r => mv_pl r fun x r => NX L (.inr (.inl (mv_lushr x y)) :: r) sh M) : mv_Run G mi n0 s0 pc L st sh M post := by
  obtain ⟨y, r, rfl, hb1⟩ := mv_pi_s hb
  obtain ⟨x, r, rfl, hb2⟩ := mv_pl_s hb1
  intro p e s m args below meth cx H locs ls C hl hL hS hW hV hn0 hs0
  obtain ⟨hx, hcb, hml, hown, hts, hrt, hlk, hnm, hsz, hX, hbo, hK⟩ := id C
  have K := hn _ _ _ _ hb2 p e s m args below meth cx H locs ls C hl hL (List.forall_mem_cons.mpr ⟨mv_r64 _, (List.forall_mem_cons.mp (List.forall_mem_cons.mp hS).2).2⟩) hW hV hn0 hs0
  refine lv_lushr hx hcb hd rfl ?_
  have E : mv_ct G (.inr (.inl (mv_lushr x y))) = .long _ := congrArg Value.long (Int64.ofInt_toInt _)
  rw [List.map_cons, E] at K
  exact K
theorem ms_i2l (hd : decode (mt_cc (mv_r mi)) pc = .ok (.i2l, 1)) (hn : mv_RN G mi n0 s0 (pc + 1) post NX)
    (hb : mv_pi st fun x r => NX L (.inr (.inl x) :: r) sh M) : mv_Run G mi n0 s0 pc L st sh M post := by
  obtain ⟨x, r, rfl, hb1⟩ := mv_pi_s hb
  intro p e s m args below meth cx H locs ls C hl hL hS hW hV hn0 hs0
  obtain ⟨hx, hcb, hml, hown, hts, hrt, hlk, hnm, hsz, hX, hbo, hK⟩ := id C
  have h0 : mv_R32 x := (List.forall_mem_cons.mp hS).1
  have K := hn _ _ _ _ hb1 p e s m args below meth cx H locs ls C hl hL (List.forall_mem_cons.mpr ⟨mv_R6 h0, (List.forall_mem_cons.mp hS).2⟩) hW hV hn0 hs0
  have e1 : Int32.minValue.toInt = -2147483648 := by decide
  have e2 : Int32.maxValue.toInt = 2147483647 := by decide
  exact lv_i2l hx hcb hd (Int32.toInt64_ofInt (by omega) (by omega)) K
theorem ms_l2i (hd : decode (mt_cc (mv_r mi)) pc = .ok (.l2i, 1)) (hn : mv_RN G mi n0 s0 (pc + 1) post NX)
    (hb : mv_pl st fun x r => mv_R32 x ∧ NX L (.inl x :: r) sh M) : mv_Run G mi n0 s0 pc L st sh M post := by
  obtain ⟨x, r, rfl, hb1⟩ := mv_pl_s hb
  obtain ⟨hR, hb1⟩ := hb1
  intro p e s m args below meth cx H locs ls C hl hL hS hW hV hn0 hs0
  obtain ⟨hx, hcb, hml, hown, hts, hrt, hlk, hnm, hsz, hX, hbo, hK⟩ := id C
  have K := hn _ _ _ _ hb1 p e s m args below meth cx H locs ls C hl hL (List.forall_mem_cons.mpr ⟨hR, (List.forall_mem_cons.mp hS).2⟩) hW hV hn0 hs0
  exact lv_l2i hx hcb hd Int64.toInt32_ofInt K
theorem mv_cmp_e {x y : Int} (hx : mv_R64 x) (hy : mv_R64 y) : lg_cmp (Int64.ofInt x) (Int64.ofInt y) = Int32.ofInt (mv_cmp x y) := by
  unfold lg_cmp mv_cmp
  by_cases h : y < x
  · rw [if_pos ((mv_l64 hy hx).mpr h), if_pos h]; rfl
  · rw [if_neg (fun q => h ((mv_l64 hy hx).mp q)), if_neg h]
    by_cases h2 : x = y
    · rw [if_pos ((mv_e64 hx hy).mpr h2), if_pos h2]; rfl
    · rw [if_neg (fun q => h2 ((mv_e64 hx hy).mp q)), if_neg h2]; rfl
theorem mv_cmp_r (x y : Int) : mv_R32 (mv_cmp x y) := by
  unfold mv_cmp
  split
  · constructor <;> omega
  · split <;> constructor <;> omega
theorem ms_lcmp (hd : decode (mt_cc (mv_r mi)) pc = .ok (.lcmp, 1)) (hn : mv_RN G mi n0 s0 (pc + 1) post NX)
    (hb : mv_pl st fun y r => mv_pl r fun x r => NX L (.inl (mv_cmp x y) :: r) sh M) : mv_Run G mi n0 s0 pc L st sh M post := by
  obtain ⟨y, r, rfl, hb1⟩ := mv_pl_s hb
  obtain ⟨x, r, rfl, hb2⟩ := mv_pl_s hb1
  intro p e s m args below meth cx H locs ls C hl hL hS hW hV hn0 hs0
  obtain ⟨hx, hcb, hml, hown, hts, hrt, hlk, hnm, hsz, hX, hbo, hK⟩ := id C
  have hy : mv_R64 y := (List.forall_mem_cons.mp hS).1
  have hx2 : mv_R64 x := (List.forall_mem_cons.mp (List.forall_mem_cons.mp hS).2).1
  have K := hn _ _ _ _ hb2 p e s m args below meth cx H locs ls C hl hL (List.forall_mem_cons.mpr ⟨mv_cmp_r x y, (List.forall_mem_cons.mp (List.forall_mem_cons.mp hS).2).2⟩) hW hV hn0 hs0
  refine W.lcmp hx hcb hd ?_
  rw [mv_cmp_e hx2 hy]
  exact K
theorem mv_c1 {x : mv_V} (h : mv_isL x = false) : (mv_ct G x).category = 1 := by
  obtain x | x | x := x
  · rfl
  · cases h
  · rfl
theorem ms_dup (hd : decode (mt_cc (mv_r mi)) pc = .ok (.dup, 1)) (hn : mv_RN G mi n0 s0 (pc + 1) post NX)
    (hb : match (generalizing := false) st with
      | x :: r => if mv_isL x = false then NX L (x :: x :: r) sh M else False
      | _ => False) : mv_Run G mi n0 s0 pc L st sh M post := by
  obtain _ | ⟨x, r⟩ := st
  · exact hb.elim
  · have hc := mv_if_s hb
    obtain ⟨hc, hb⟩ := hc
    intro p e s m args below meth cx H locs ls C hl hL hS hW hV hn0 hs0
    obtain ⟨hx, hcb, hml, hown, hts, hrt, hlk, hnm, hsz, hX, hbo, hK⟩ := id C
    have K := hn _ _ _ _ hb p e s m args below meth cx H locs ls C hl hL (List.forall_mem_cons.mpr ⟨(List.forall_mem_cons.mp hS).1, hS⟩) hW hV hn0 hs0
    exact lv_dup hx hcb hd (mv_c1 hc) K
theorem ms_pop (hd : decode (mt_cc (mv_r mi)) pc = .ok (.pop, 1)) (hn : mv_RN G mi n0 s0 (pc + 1) post NX)
    (hb : match (generalizing := false) st with
      | x :: r => if mv_isL x = false then NX L r sh M else False
      | _ => False) : mv_Run G mi n0 s0 pc L st sh M post := by
  obtain _ | ⟨x, r⟩ := st
  · exact hb.elim
  · have hc := mv_if_s hb
    obtain ⟨hc, hb⟩ := hc
    intro p e s m args below meth cx H locs ls C hl hL hS hW hV hn0 hs0
    obtain ⟨hx, hcb, hml, hown, hts, hrt, hlk, hnm, hsz, hX, hbo, hK⟩ := id C
    have K := hn _ _ _ _ hb p e s m args below meth cx H locs ls C hl hL (List.forall_mem_cons.mp hS).2 hW hV hn0 hs0
    exact lv_pop hx hcb hd (mv_c1 hc) K
theorem ms_dup2 (hd : decode (mt_cc (mv_r mi)) pc = .ok (.dup2, 1)) (hn : mv_RN G mi n0 s0 (pc + 1) post NX)
    (hb : match (generalizing := false) st with
      | y :: x :: r => if mv_isL x = false ∧ mv_isL y = false then NX L (y :: x :: y :: x :: r) sh M else False
      | _ => False) : mv_Run G mi n0 s0 pc L st sh M post := by
  obtain _ | ⟨y, _ | ⟨x, r⟩⟩ := st
  · exact hb.elim
  · exact hb.elim
  · have hc := mv_if_s hb
    obtain ⟨⟨hc, hc2⟩, hb⟩ := hc
    intro p e s m args below meth cx H locs ls C hl hL hS hW hV hn0 hs0
    obtain ⟨hx, hcb, hml, hown, hts, hrt, hlk, hnm, hsz, hX, hbo, hK⟩ := id C
    have h1 := (List.forall_mem_cons.mp hS).1
    have h2 := (List.forall_mem_cons.mp (List.forall_mem_cons.mp hS).2).1
    have K := hn _ _ _ _ hb p e s m args below meth cx H locs ls C hl hL (List.forall_mem_cons.mpr ⟨h1, List.forall_mem_cons.mpr ⟨h2, hS⟩⟩) hW hV hn0 hs0
    exact lv_dup2_11 hx hcb hd (mv_c1 hc2) (mv_c1 hc) K
theorem ms_iconst {i : Instr} {ln : Nat} (hd : decode (mt_cc (mv_r mi)) pc = .ok (i, ln)) (hf : mv_fit (mv_r mi) pc ln (.iconst 0) a b c v ts i = true) (hn : mv_RN G mi n0 s0 (pc + ln) post NX)
    (hb : NX L (.inl v :: st) sh M) : mv_Run G mi n0 s0 pc L st sh M post := by
  intro p e s m args below meth cx H locs ls C hl hL hS hW hV hn0 hs0
  obtain ⟨hx, hcb, hml, hown, hts, hrt, hlk, hnm, hsz, hX, hbo, hK⟩ := id C
  unfold mv_fit at hf
  dsimp only at hf
  rw [Bool.and_eq_true, decide_eq_true_eq] at hf
  obtain ⟨hR, hf⟩ := hf
  have K := hn _ _ _ _ hb p e s m args below meth cx H locs ls C hl hL (List.forall_mem_cons.mpr ⟨hR, hS⟩) hW hV hn0 hs0
  cases i with
  | iconst n =>
    simp only [Bool.and_eq_true, decide_eq_true_eq] at hf
    obtain ⟨rfl, h⟩ := hf
    exact lv_iconst hx hcb hd h K
  | bipush n =>
    simp only [Bool.and_eq_true, decide_eq_true_eq] at hf
    obtain ⟨rfl, h⟩ := hf
    exact lv_bipush hx hcb hd h K
  | sipush n =>
    simp only [Bool.and_eq_true, decide_eq_true_eq] at hf
    obtain ⟨rfl, h⟩ := hf
    exact lv_sipush hx hcb hd h K
  | ldc n =>
    simp only [Bool.and_eq_true, decide_eq_true_eq] at hf
    obtain ⟨rfl, h⟩ := hf
    exact lv_ldc hx hcb hown (hts _ (mv_hw_mem h)) hd K
  | ldc_w n =>
    simp only [Bool.and_eq_true, decide_eq_true_eq] at hf
    obtain ⟨rfl, h⟩ := hf
    exact lv_ldcw hx hcb hown (hts _ (mv_hw_mem h)) hd K
  | _ => cases hf
theorem ms_lconst {i : Instr} {ln : Nat} (hd : decode (mt_cc (mv_r mi)) pc = .ok (i, ln)) (hf : mv_fit (mv_r mi) pc ln (.lconst 0) a b c v ts i = true) (hn : mv_RN G mi n0 s0 (pc + ln) post NX)
    (hb : NX L (.inr (.inl v) :: st) sh M) : mv_Run G mi n0 s0 pc L st sh M post := by
  intro p e s m args below meth cx H locs ls C hl hL hS hW hV hn0 hs0
  obtain ⟨hx, hcb, hml, hown, hts, hrt, hlk, hnm, hsz, hX, hbo, hK⟩ := id C
  unfold mv_fit at hf
  dsimp only at hf
  rw [Bool.and_eq_true, decide_eq_true_eq] at hf
  obtain ⟨hR, hf⟩ := hf
  have K := hn _ _ _ _ hb p e s m args below meth cx H locs ls C hl hL (List.forall_mem_cons.mpr ⟨hR, hS⟩) hW hV hn0 hs0
  cases i with
  | lconst n =>
    simp only [Bool.and_eq_true, decide_eq_true_eq] at hf
    obtain ⟨rfl, h⟩ := hf
    exact lv_lconst hx hcb hd h K
  | ldc2_w n =>
    simp only [Bool.and_eq_true, decide_eq_true_eq] at hf
    obtain ⟨rfl, h⟩ := hf
    exact lv_ldc2 hx hcb hown (hts _ (mv_hw_mem h)) hd K
  | _ => cases hf
theorem ms_iload {i : Instr} {ln : Nat} (hd : decode (mt_cc (mv_r mi)) pc = .ok (i, ln)) (hf : mv_fit (mv_r mi) pc ln (.iload 0) a b c v ts i = true) (hn : mv_RN G mi n0 s0 (pc + ln) post NX)
    (hb : match mv_lg a L with
      | some (.inl x) => NX L (.inl x :: st) sh M
      | _ => False) : mv_Run G mi n0 s0 pc L st sh M post := by
  split at hb
  · rename_i x hg
    intro p e s m args below meth cx H locs ls C hl hL hS hW hV hn0 hs0
    obtain ⟨hx, hcb, hml, hown, hts, hrt, hlk, hnm, hsz, hX, hbo, hK⟩ := id C
    have K := hn _ _ _ _ hb p e s m args below meth cx H locs ls C hl hL (List.forall_mem_cons.mpr ⟨mv_lg_o hL hg, hS⟩) hW hV hn0 hs0
    have hg2 := mv_lg_at hl hg
    unfold mv_fit at hf
    dsimp only at hf
    cases i with
    | iload_n n =>
      simp only [Bool.and_eq_true, decide_eq_true_eq] at hf
      obtain ⟨rfl, h⟩ := hf
      exact lv_iload_n hx hcb hd h hg2 K
    | iload n =>
      simp only [Bool.and_eq_true, decide_eq_true_eq] at hf
      obtain ⟨rfl, rfl⟩ := hf
      exact lv_iload hx hcb hd hg2 K
    | _ => cases hf
  · exact hb.elim
theorem ms_lload {i : Instr} {ln : Nat} (hd : decode (mt_cc (mv_r mi)) pc = .ok (i, ln)) (hf : mv_fit (mv_r mi) pc ln (.lload 0) a b c v ts i = true) (hn : mv_RN G mi n0 s0 (pc + ln) post NX)
    (hb : match mv_lg a L with
      | some (.inr (.inl x)) => NX L (.inr (.inl x) :: st) sh M
      | _ => False) : mv_Run G mi n0 s0 pc L st sh M post := by
  split at hb
  · rename_i x hg
    intro p e s m args below meth cx H locs ls C hl hL hS hW hV hn0 hs0
    obtain ⟨hx, hcb, hml, hown, hts, hrt, hlk, hnm, hsz, hX, hbo, hK⟩ := id C
    have K := hn _ _ _ _ hb p e s m args below meth cx H locs ls C hl hL (List.forall_mem_cons.mpr ⟨mv_lg_o hL hg, hS⟩) hW hV hn0 hs0
    have hg2 := mv_lg_at hl hg
    unfold mv_fit at hf
    dsimp only at hf
    cases i with
    | lload_n n =>
      simp only [Bool.and_eq_true, decide_eq_true_eq] at hf
      obtain ⟨rfl, h⟩ := hf
      exact lv_lload_n hx hcb hd h hg2 K
    | lload n =>
      simp only [Bool.and_eq_true, decide_eq_true_eq] at hf
      obtain ⟨rfl, rfl⟩ := hf
      exact lv_lload hx hcb hd hg2 K
    | _ => cases hf
  · exact hb.elim
theorem ms_aload {i : Instr} {ln : Nat} (hd : decode (mt_cc (mv_r mi)) pc = .ok (i, ln)) (hf : mv_fit (mv_r mi) pc ln (.aload 0) a b c v ts i = true) (hn : mv_RN G mi n0 s0 (pc + ln) post NX)
    (hb : match mv_lg a L with
      | some (.inr (.inr x)) => NX L (.inr (.inr x) :: st) sh M
      | _ => False) : mv_Run G mi n0 s0 pc L st sh M post := by
  split at hb
  · rename_i x hg
    intro p e s m args below meth cx H locs ls C hl hL hS hW hV hn0 hs0
    obtain ⟨hx, hcb, hml, hown, hts, hrt, hlk, hnm, hsz, hX, hbo, hK⟩ := id C
    have K := hn _ _ _ _ hb p e s m args below meth cx H locs ls C hl hL (List.forall_mem_cons.mpr ⟨mv_lg_o hL hg, hS⟩) hW hV hn0 hs0
    have hg2 := mv_lg_at hl hg
    unfold mv_fit at hf
    dsimp only at hf
    cases i with
    | aload_n n =>
      simp only [Bool.and_eq_true, decide_eq_true_eq] at hf
      obtain ⟨rfl, h⟩ := hf
      exact lv_aload_n hx hcb hd h hg2 K
    | aload n =>
      simp only [Bool.and_eq_true, decide_eq_true_eq] at hf
      obtain ⟨rfl, rfl⟩ := hf
      exact lv_aload hx hcb hd hg2 K
    | _ => cases hf
  · exact hb.elim
theorem ms_istore {i : Instr} {ln : Nat} (hd : decode (mt_cc (mv_r mi)) pc = .ok (i, ln)) (hf : mv_fit (mv_r mi) pc ln (.istore 0) a b c v ts i = true) (hn : mv_RN G mi n0 s0 (pc + ln) post NX)
    (hb : mv_pi st fun x r => NX (mv_st1 a (.inl x) L) r sh M) : mv_Run G mi n0 s0 pc L st sh M post := by
  obtain ⟨x, r, rfl, hb1⟩ := mv_pi_s hb
  intro p e s m args below meth cx H locs ls C hl hL hS hW hV hn0 hs0
  obtain ⟨hx, hcb, hml, hown, hts, hrt, hlk, hnm, hsz, hX, hbo, hK⟩ := id C
  have hS2 := List.forall_mem_cons.mp hS
  unfold mv_fit at hf
  dsimp only at hf
  rw [Bool.and_eq_true] at hf
  obtain ⟨hlt, hf⟩ := hf
  have hlt : a < mt_nL (mv_r mi) := Nat.le_of_ble_eq_true hlt
  have K := fun (ls : Array Slot) hl => hn _ _ _ _ hb1 p e s m args below meth cx H locs ls C hl (mv_st1_o hL hS2.1) hS2.2 hW hV hn0 hs0
  cases i with
  | istore_n n =>
    simp only [Bool.and_eq_true, decide_eq_true_eq] at hf
    obtain ⟨rfl, h⟩ := hf
    exact lv_istore_n hx hcb hd h hl hlt (mv_st1_m G a (.inl x) L) K
  | istore n =>
    simp only [Bool.and_eq_true, decide_eq_true_eq] at hf
    obtain ⟨rfl, rfl⟩ := hf
    exact lv_istore hx hcb hd hl hlt (mv_st1_m G _ (.inl x) L) K
  | _ => cases hf
theorem ms_astore {i : Instr} {ln : Nat} (hd : decode (mt_cc (mv_r mi)) pc = .ok (i, ln)) (hf : mv_fit (mv_r mi) pc ln (.astore 0) a b c v ts i = true) (hn : mv_RN G mi n0 s0 (pc + ln) post NX)
    (hb : mv_pr st fun x r => NX (mv_st1 a (.inr (.inr x)) L) r sh M) : mv_Run G mi n0 s0 pc L st sh M post := by
  obtain ⟨x, r, rfl, hb1⟩ := mv_pr_s hb
  intro p e s m args below meth cx H locs ls C hl hL hS hW hV hn0 hs0
  obtain ⟨hx, hcb, hml, hown, hts, hrt, hlk, hnm, hsz, hX, hbo, hK⟩ := id C
  have hS2 := List.forall_mem_cons.mp hS
  unfold mv_fit at hf
  dsimp only at hf
  rw [Bool.and_eq_true] at hf
  obtain ⟨hlt, hf⟩ := hf
  have hlt : a < mt_nL (mv_r mi) := Nat.le_of_ble_eq_true hlt
  have K := fun (ls : Array Slot) hl => hn _ _ _ _ hb1 p e s m args below meth cx H locs ls C hl (mv_st1_o hL hS2.1) hS2.2 hW hV hn0 hs0
  cases i with
  | astore_n n =>
    simp only [Bool.and_eq_true, decide_eq_true_eq] at hf
    obtain ⟨rfl, h⟩ := hf
    exact lv_astore_n hx hcb hd h hl hlt (mv_st1_m G a (.inr (.inr x)) L) K
  | astore n =>
    simp only [Bool.and_eq_true, decide_eq_true_eq] at hf
    obtain ⟨rfl, rfl⟩ := hf
    exact lv_astore hx hcb hd hl hlt (mv_st1_m G _ (.inr (.inr x)) L) K
  | _ => cases hf
theorem ms_lstore {i : Instr} {ln : Nat} (hd : decode (mt_cc (mv_r mi)) pc = .ok (i, ln)) (hf : mv_fit (mv_r mi) pc ln (.lstore 0) a b c v ts i = true) (hn : mv_RN G mi n0 s0 (pc + ln) post NX)
    (hb : mv_pl st fun x r => NX (mv_st2 a x L) r sh M) : mv_Run G mi n0 s0 pc L st sh M post := by
  obtain ⟨x, r, rfl, hb1⟩ := mv_pl_s hb
  intro p e s m args below meth cx H locs ls C hl hL hS hW hV hn0 hs0
  obtain ⟨hx, hcb, hml, hown, hts, hrt, hlk, hnm, hsz, hX, hbo, hK⟩ := id C
  have hS2 := List.forall_mem_cons.mp hS
  unfold mv_fit at hf
  dsimp only at hf
  rw [Bool.and_eq_true] at hf
  obtain ⟨hlt, hf⟩ := hf
  have hlt : a + 1 < mt_nL (mv_r mi) := Nat.le_of_ble_eq_true hlt
  have K := fun (ls : Array Slot) hl => hn _ _ _ _ hb1 p e s m args below meth cx H locs ls C hl (mv_st2_o hL hS2.1) hS2.2 hW hV hn0 hs0
  cases i with
  | lstore_n n =>
    simp only [Bool.and_eq_true, decide_eq_true_eq] at hf
    obtain ⟨rfl, h⟩ := hf
    exact lv_lstore_n hx hcb hd h hl hlt (mv_st2_m G a x L) K
  | lstore n =>
    simp only [Bool.and_eq_true, decide_eq_true_eq] at hf
    obtain ⟨rfl, rfl⟩ := hf
    exact lv_lstore hx hcb hd hl hlt (mv_st2_m G _ x L) K
  | _ => cases hf
theorem ms_iinc {i : Instr} {ln : Nat} (hd : decode (mt_cc (mv_r mi)) pc = .ok (i, ln)) (hf : mv_fit (mv_r mi) pc ln (.iinc 0 0) a b c v ts i = true) (hn : mv_RN G mi n0 s0 (pc + ln) post NX)
    (hb : match mv_lg a L with
      | some (.inl x) => mv_R32 (x + v) ∧ NX (mv_st1 a (.inl (x + v)) L) st sh M
      | _ => False) : mv_Run G mi n0 s0 pc L st sh M post := by
  split at hb
  · rename_i x hg
    obtain ⟨hR, hb⟩ := hb
    intro p e s m args below meth cx H locs ls C hl hL hS hW hV hn0 hs0
    obtain ⟨hx, hcb, hml, hown, hts, hrt, hlk, hnm, hsz, hX, hbo, hK⟩ := id C
    unfold mv_fit at hf
    dsimp only at hf
    rw [Bool.and_eq_true] at hf
    obtain ⟨hlt, hf⟩ := hf
    have hlt : a < mt_nL (mv_r mi) := Nat.le_of_ble_eq_true hlt
    have K := fun (ls : Array Slot) hl => hn _ _ _ _ hb p e s m args below meth cx H locs ls C hl (mv_st1_o hL hR) hS hW hV hn0 hs0
    obtain ⟨k, hk⟩ := mv_lg_pos (G := G) hg
    cases i with
    | iinc n z =>
      simp only [Bool.and_eq_true, decide_eq_true_eq] at hf
      obtain ⟨rfl, rfl, h⟩ := hf
      exact lv_iinc hx hcb hd hl hk (v := Int32.ofInt (x + v)) (by rw [h, ← Int32.ofInt_add]) hlt (mv_st1_m G _ (.inl (x + v)) L) K
    | _ => cases hf
  · exact hb.elim
theorem ms_goto {i : Instr} {ln : Nat} (hd : decode (mt_cc (mv_r mi)) pc = .ok (i, ln)) (hf : mv_fit (mv_r mi) pc ln (.goto 0) a b c v ts i = true) (hj : mv_RN G mi n0 s0 a post NX)
    (hb : NX L st sh M) : mv_Run G mi n0 s0 pc L st sh M post := by
  intro p e s m args below meth cx H locs ls C hl hL hS hW hV hn0 hs0
  obtain ⟨hx, hcb, hml, hown, hts, hrt, hlk, hnm, hsz, hX, hbo, hK⟩ := id C
  have K := hj _ _ _ _ hb p e s m args below meth cx H locs ls C hl hL hS hW hV hn0 hs0
  unfold mv_fit at hf
  dsimp only at hf
  cases i with
  | goto off =>
    simp only [Bool.and_eq_true, decide_eq_true_eq] at hf
    obtain ⟨rfl, h⟩ := hf
    exact lv_goto hx hcb hd h K
  | _ => cases hf
theorem ms_if {i : Instr} {ln : Nat} {k : Jvm.ClassFile.Cond} (hd : decode (mt_cc (mv_r mi)) pc = .ok (i, ln)) (hf : mv_fit (mv_r mi) pc ln (.ifCond k 0) a b c v ts i = true) (hn : mv_RN G mi n0 s0 (pc + ln) post NX) (hj : mv_RN G mi n0 s0 a post (JP a))
    (hb : mv_pi st fun x r => mv_cd k x 0 (JP a L r sh M) (NX L r sh M)) : mv_Run G mi n0 s0 pc L st sh M post := by
  obtain ⟨x, r, rfl, hb1⟩ := mv_pi_s hb
  intro p e s m args below meth cx H locs ls C hl hL hS hW hV hn0 hs0
  obtain ⟨hx, hcb, hml, hown, hts, hrt, hlk, hnm, hsz, hX, hbo, hK⟩ := id C
  have hS2 := List.forall_mem_cons.mp hS
  have hxr : mv_R32 x := hS2.1
  have KN := fun hb1 => hn _ _ _ _ hb1 p e s m args below meth cx H locs ls C hl hL hS2.2 hW hV hn0 hs0
  have KJ := fun hb1 => hj _ _ _ _ hb1 p e s m args below meth cx H locs ls C hl hL hS2.2 hW hV hn0 hs0
  unfold mv_fit at hf
  dsimp only at hf
  cases i with
  | ifCond k' off =>
    simp only [Bool.and_eq_true, decide_eq_true_eq] at hf
    obtain ⟨rfl, rfl, h⟩ := hf
    cases k' with
    | eq => exact lv_if_eq hx hcb hd h (fun q => KJ (by dsimp only [mv_cd] at hb1; rw [if_pos ((mv_e32 hxr mv_z32).mp q)] at hb1; exact hb1)) (fun q => KN (by dsimp only [mv_cd] at hb1; rw [if_neg (fun z => q ((mv_e32 hxr mv_z32).mpr z))] at hb1; exact hb1))
    | ne => exact lv_if_ne hx hcb hd h (fun q => KJ (by dsimp only [mv_cd] at hb1; rw [if_neg (fun z => q ((mv_e32 hxr mv_z32).mpr z))] at hb1; exact hb1)) (fun q => KN (by dsimp only [mv_cd] at hb1; rw [if_pos ((mv_e32 hxr mv_z32).mp q)] at hb1; exact hb1))
    | lt => exact lv_if_lt hx hcb hd h (fun q => KJ (by dsimp only [mv_cd] at hb1; rw [if_pos ((mv_l32 hxr mv_z32).mp q)] at hb1; exact hb1)) (fun q => KN (by dsimp only [mv_cd] at hb1; rw [if_neg (fun z => q ((mv_l32 hxr mv_z32).mpr z))] at hb1; exact hb1))
    | ge => exact lv_if_ge hx hcb hd h (fun q => KJ (by dsimp only [mv_cd] at hb1; rw [if_pos ((mv_le32 mv_z32 hxr).mp q)] at hb1; exact hb1)) (fun q => KN (by dsimp only [mv_cd] at hb1; rw [if_neg (fun z => q ((mv_le32 mv_z32 hxr).mpr z))] at hb1; exact hb1))
    | gt => exact lv_if_gt hx hcb hd h (fun q => KJ (by dsimp only [mv_cd] at hb1; rw [if_pos ((mv_l32 mv_z32 hxr).mp q)] at hb1; exact hb1)) (fun q => KN (by dsimp only [mv_cd] at hb1; rw [if_neg (fun z => q ((mv_l32 mv_z32 hxr).mpr z))] at hb1; exact hb1))
    | le => exact lv_if_le hx hcb hd h (fun q => KJ (by dsimp only [mv_cd] at hb1; rw [if_pos ((mv_le32 hxr mv_z32).mp q)] at hb1; exact hb1)) (fun q => KN (by dsimp only [mv_cd] at hb1; rw [if_neg (fun z => q ((mv_le32 hxr mv_z32).mpr z))] at hb1; exact hb1))
  | _ => cases hf
theorem ms_icmp {i : Instr} {ln : Nat} {k : Jvm.ClassFile.Cond} (hd : decode (mt_cc (mv_r mi)) pc = .ok (i, ln)) (hf : mv_fit (mv_r mi) pc ln (.if_icmp k 0) a b c v ts i = true) (hn : mv_RN G mi n0 s0 (pc + ln) post NX) (hj : mv_RN G mi n0 s0 a post (JP a))
    (hb : mv_pi st fun y r => mv_pi r fun x r => mv_cd k x y (JP a L r sh M) (NX L r sh M)) : mv_Run G mi n0 s0 pc L st sh M post := by
  obtain ⟨y, r, rfl, hb1⟩ := mv_pi_s hb
  obtain ⟨x, r, rfl, hb2⟩ := mv_pi_s hb1
  intro p e s m args below meth cx H locs ls C hl hL hS hW hV hn0 hs0
  obtain ⟨hx, hcb, hml, hown, hts, hrt, hlk, hnm, hsz, hX, hbo, hK⟩ := id C
  have hS1 := List.forall_mem_cons.mp hS
  have hyr : mv_R32 y := hS1.1
  have hS2 := List.forall_mem_cons.mp hS1.2
  have hxr : mv_R32 x := hS2.1
  have KN := fun hb2 => hn _ _ _ _ hb2 p e s m args below meth cx H locs ls C hl hL hS2.2 hW hV hn0 hs0
  have KJ := fun hb2 => hj _ _ _ _ hb2 p e s m args below meth cx H locs ls C hl hL hS2.2 hW hV hn0 hs0
  unfold mv_fit at hf
  dsimp only at hf
  cases i with
  | if_icmp k' off =>
    simp only [Bool.and_eq_true, decide_eq_true_eq] at hf
    obtain ⟨rfl, rfl, h⟩ := hf
    cases k' with
    | eq => exact lv_icmp_eq hx hcb hd h (fun q => KJ (by dsimp only [mv_cd] at hb2; rw [if_pos ((mv_e32 hxr hyr).mp q)] at hb2; exact hb2)) (fun q => KN (by dsimp only [mv_cd] at hb2; rw [if_neg (fun z => q ((mv_e32 hxr hyr).mpr z))] at hb2; exact hb2))
    | ne => exact lv_icmp_ne hx hcb hd h (fun q => KJ (by dsimp only [mv_cd] at hb2; rw [if_neg (fun z => q ((mv_e32 hxr hyr).mpr z))] at hb2; exact hb2)) (fun q => KN (by dsimp only [mv_cd] at hb2; rw [if_pos ((mv_e32 hxr hyr).mp q)] at hb2; exact hb2))
    | lt => exact lv_icmp_lt hx hcb hd h (fun q => KJ (by dsimp only [mv_cd] at hb2; rw [if_pos ((mv_l32 hxr hyr).mp q)] at hb2; exact hb2)) (fun q => KN (by dsimp only [mv_cd] at hb2; rw [if_neg (fun z => q ((mv_l32 hxr hyr).mpr z))] at hb2; exact hb2))
    | ge => exact lv_icmp_ge hx hcb hd h (fun q => KJ (by dsimp only [mv_cd] at hb2; rw [if_pos ((mv_le32 hyr hxr).mp q)] at hb2; exact hb2)) (fun q => KN (by dsimp only [mv_cd] at hb2; rw [if_neg (fun z => q ((mv_le32 hyr hxr).mpr z))] at hb2; exact hb2))
    | gt => exact lv_icmp_gt hx hcb hd h (fun q => KJ (by dsimp only [mv_cd] at hb2; rw [if_pos ((mv_l32 hyr hxr).mp q)] at hb2; exact hb2)) (fun q => KN (by dsimp only [mv_cd] at hb2; rw [if_neg (fun z => q ((mv_l32 hyr hxr).mpr z))] at hb2; exact hb2))
    | le => exact lv_icmp_le hx hcb hd h (fun q => KJ (by dsimp only [mv_cd] at hb2; rw [if_pos ((mv_le32 hxr hyr).mp q)] at hb2; exact hb2)) (fun q => KN (by dsimp only [mv_cd] at hb2; rw [if_neg (fun z => q ((mv_le32 hxr hyr).mpr z))] at hb2; exact hb2))
  | _ => cases hf
end MS
end
section
/-! ONE INSTRUCTION OF THE SMALL MACHINE: fields, arrays, new cells, switches, ends -/
section MC
variable {G : mv_G} {mi n0 s0 : Nat} {post : Option mv_V → mv_SH → mv_Mem → Prop} {pc a b c : Nat} {v : Int} {ts : List Nat} {L : mv_L} {st : List mv_V} {sh : mv_SH} {M : mv_Mem}
variable {NX : mv_L → List mv_V → mv_SH → mv_Mem → Prop} {JP : Nat → mv_L → List mv_V → mv_SH → mv_Mem → Prop}
theorem mv_fl_s {r : mv_T} {idx : Nat} (h : mv_fl r idx a b c ts = true) : ∃ (C : String) (T : u_T) (N : Nat), vwCl[a]? = some (C, T, N) ∧ b < N ∧ Jvm.Cond.fieldLink (mt_own r) idx (T b).1 (T b).2.1 (T b).2.2.1 ∈ mv_tbl ∧ c = mv_kd a b := by
  unfold mv_fl at h
  split at h
  · rename_i C T N hC
    simp only [Bool.and_eq_true, decide_eq_true_eq] at h
    exact ⟨C, T, N, hC, Nat.le_of_ble_eq_true h.1, mv_hw_mem h.2.1, h.2.2⟩
  · cases h
theorem mv_ce_o {k : Nat} (h : sh.2.2.1 k = a) (ha : a < 100) : mv_ce G sh M k = .inr (a, (List.range (mv_nf a)).map (mv_fv G sh M a k)) := by
  unfold mv_ce
  rw [h, if_neg (by omega), if_neg (by omega), if_neg (by omega)]
theorem mv_ce_i {k : Nat} (h : sh.2.2.1 k = 100) : mv_ce G sh M k = .inl (mg_I G, sh.2.2.2.1 k, .inl (fun i => Int32.ofInt (M k i))) := by
  unfold mv_ce
  rw [if_pos h]
theorem mv_ce_j {k : Nat} (h : sh.2.2.1 k = 101) : mv_ce G sh M k = .inl (mg_J G, sh.2.2.2.1 k, .inr (.inl (fun i => Int64.ofInt (M k i)))) := by
  unfold mv_ce
  rw [if_neg (by omega), if_pos h]
theorem mv_ce_z {k : Nat} (h : sh.2.2.1 k = 102) : mv_ce G sh M k = .inl (mg_Z G, sh.2.2.2.1 k, .inl (fun i => Int32.ofInt (M k i))) := by
  unfold mv_ce
  rw [if_neg (by omega), if_neg (by omega), if_pos h]
theorem mv_set_map {N b : Nat} {g g' : Nat → Value} {v : Value} (h : g' b = v) (ho : ∀ j, j ≠ b → g' j = g j) : ((List.range N).map g).set b v = (List.range N).map g' := by
  apply List.ext_getElem?
  intro j
  rw [List.getElem?_set, List.length_map, List.length_range, List.getElem?_map, List.getElem?_map]
  by_cases hj : b = j
  · subst hj
    rw [if_pos rfl]
    by_cases hb : b < N
    · rw [if_pos hb, List.getElem?_range hb]
      show some v = some (g' b)
      rw [h]
    · rw [if_neg hb, List.getElem?_eq_none (by simp; omega)]
      rfl
  · rw [if_neg hj]
    by_cases hb : j < N
    · rw [List.getElem?_range hb]
      show some (g j) = some (g' j)
      rw [ho j (fun q => hj q.symm)]
    · rw [List.getElem?_eq_none (by simp; omega)]
      rfl
theorem ms_getfield {i : Instr} {ln : Nat} (hd : decode (mt_cc (mv_r mi)) pc = .ok (i, ln)) (hf : mv_fit (mv_r mi) pc ln (.getfield 0) a b c v ts i = true) (hn : mv_RN G mi n0 s0 (pc + ln) post NX)
    (hb : mv_pr st fun k r => if 1 ≤ k ∧ k ≤ sh.1 ∧ sh.2.2.1 k = a then
      (if c = 2 then (if 1 ≤ sh.2.2.2.2 k b then NX L (.inr (.inr (sh.2.2.2.2 k b)) :: r) sh M else False) else NX L (.inl (M k b) :: r) sh M) else False) : mv_Run G mi n0 s0 pc L st sh M post := by
  obtain ⟨k, r, rfl, hb1⟩ := mv_pr_s hb
  obtain ⟨⟨h1, h2, h3⟩, hb2⟩ := mv_if_s hb1
  intro p e s m args below meth cx H locs ls C hl hL hS hW hV hn0 hs0
  obtain ⟨hx, hcb, hml, hown, hts, hrt, hlk, hnm, hsz, hX, hbo, hK⟩ := id C
  have hS2 := List.forall_mem_cons.mp hS
  unfold mv_fit at hf
  dsimp only at hf
  cases i with
  | getfield idx =>
    simp only [Bool.and_eq_true, decide_eq_true_eq] at hf
    obtain ⟨rfl, hf⟩ := hf
    obtain ⟨C', T, N, hC, hbN, hlk2, hc⟩ := mv_fl_s hf
    obtain ⟨hin, hty, hnm2, hN, h100⟩ := mv_cls hC
    have he := mv_ws_get (G := G) (M := M) h1 h2
    rw [mv_ce_o h3 h100, hN] at he
    have hv0 : ((List.range N).map (mv_fv G sh M a k))[b]? = some (mv_fv G sh M a k b) := by rw [List.getElem?_map, List.getElem?_range hbN]; rfl
    by_cases h9 : c = 2
    · rw [if_pos h9] at hb2
      obtain ⟨hR, hb3⟩ := mv_if_s hb2
      have E : mv_fv G sh M a k b = mv_ct G (.inr (.inr (sh.2.2.2.2 k b))) := by
        unfold mv_fv
        rw [if_pos (hc.symm.trans h9), if_neg (by omega)]
        rfl
      rw [E] at hv0
      exact va_get hx hcb hts hin hown hK hW.1 (k - 1) he hC b hbN (hts _ hlk2) (fun _ h => h) hv0 hd (hn _ _ _ _ hb3 p e s m args below meth cx H locs ls C hl hL (List.forall_mem_cons.mpr ⟨trivial, hS2.2⟩) hW hV hn0 hs0)
    · rw [if_neg h9] at hb2
      have E : mv_fv G sh M a k b = mv_ct G (.inl (M k b)) := by
        unfold mv_fv
        rw [if_neg (fun q => h9 (hc.trans q))]
        rfl
      rw [E] at hv0
      exact va_get hx hcb hts hin hown hK hW.1 (k - 1) he hC b hbN (hts _ hlk2) (fun _ h => h) hv0 hd (hn _ _ _ _ hb2 p e s m args below meth cx H locs ls C hl hL (List.forall_mem_cons.mpr ⟨(hW.2.2.2.1 k b).2 (by omega), hS2.2⟩) hW hV hn0 hs0)
  | _ => cases hf
/-- a field is written: a final one in its class's constructor, another anywhere -/
theorem mv_put {p : Program} {l : Launch} {e : Env} {R : Room} {s : State} {m : MethodId} {args : Array Value} {below : List Frame} {meth : Method} {cx : Code} {H : Heap} {locs : List Loc} {cells slots : Nat} {Q : State → Prop} {ls : Array Slot} {rest : List Value}
    (C : mv_Cx G mi n0 p s m args meth cx) {idx N k : Nat} {C' : String} {T : u_T} {sh' : mv_SH} {M' : mv_Mem} {x : Value} (hC : vwCl[a]? = some (C', T, N)) (hbN : b < N) (hlk2 : Jvm.Cond.fieldLink (mt_own (mv_r mi)) idx (T b).1 (T b).2.1 (T b).2.2.1 ∈ mv_tbl)
    (hfin : (T b).2.2.2 = false ∨ ((mt_y (mv_r mi)).name = "<init>" ∧ (T b).1 = mt_own (mv_r mi))) (h1 : 1 ≤ k) (h2 : k ≤ sh.1) (h3 : sh.2.2.1 k = a) (hn : narrow (mv_ty a b) x = x) (hfit : fits (mv_ty a b) x = true) (hW : mv_Wd G sh M H) (hV : va_S (mg_A G) s.heap H locs)
    (hs : sh'.1 = sh.1) (ht : sh'.2.2.1 = sh.2.2.1) (hlen : sh'.2.2.2.1 = sh.2.2.2.1) (he1 : mv_fv G sh' M' a k b = x) (he2 : ∀ f, f ≠ b → mv_fv G sh' M' a k f = mv_fv G sh M a k f) (ho : ∀ j, j ≠ k → (∀ f, sh'.2.2.2.2 j f = sh.2.2.2.2 j f) ∧ ∀ f, M' j f = M j f) (hNm : mv_Nm G sh' M') (hd : decode (mt_cc (mv_r mi)) pc = .ok (.putfield idx, 3))
    (kk : ∀ H1 locs1, mv_Wd G sh' M' H1 → va_S (mg_A G) s.heap H1 locs1 → W p l e R s m args below meth cx H1 locs1 cells slots Q (F0 m (pc + 3) ls rest)) : W p l e R s m args below meth cx H locs cells slots Q (F0 m pc ls (x :: .ref (mv_ad G k) :: rest)) := by
  obtain ⟨hx, hcb, hml, hown, hts, hrt, hlk, hnm, hsz, hX, hbo, hK⟩ := C
  obtain ⟨hin, hty, hnm2, hN, h100⟩ := mv_cls hC
  have he := mv_ws_get (G := G) (M := M) h1 h2
  rw [mv_ce_o h3 h100, hN] at he
  have hset : (mv_ws G sh M).set (k - 1) (mv_ad G k, .inr (a, ((List.range N).map (mv_fv G sh M a k)).set b x)) = mv_ws G sh' M' := by
    refine mv_ws_set h1 h2 hs ?_ (fun j hj => ?_)
    · rw [mv_ce_o (by rw [ht]; exact h3) h100, hN, mv_set_map he1 he2]
    · exact mv_ce_c (by rw [ht]) (by rw [hlen]) (ho j hj).1 (ho j hj).2
  have hl2 : b < ((List.range N).map (mv_fv G sh M a k)).length := by rw [List.length_map, List.length_range]; exact hbN
  have kk' : ∀ (H1 : Heap) (locs1 : List Loc), va_P (mg_D G) vwCl ((mv_ws G sh M).set (k - 1) (mv_ad G k, .inr (a, ((List.range N).map (mv_fv G sh M a k)).set b x))) H1 → va_D (mg_A G) ((mv_ws G sh M).set (k - 1) (mv_ad G k, .inr (a, ((List.range N).map (mv_fv G sh M a k)).set b x))) → va_S (mg_A G) s.heap H1 locs1 → W p l e R s m args below meth cx H1 locs1 cells slots Q (F0 m (pc + 3) ls rest) := by
    rw [hset]
    exact fun H1 locs1 q1 q2 q3 => kk H1 locs1 ⟨q1, q2, hNm⟩ q3
  rcases hfin with hfin | ⟨hfin, hdecl⟩
  · exact va_put hx hcb hts hin (mv_ty a) hty hnm2 hown hK hW.1 hW.2.1 hV (k - 1) he hC b hbN (hts _ hlk2) (fun _ h => h) hfin (hty b hbN) hn hfit hl2 hd kk'
  · cases hfn : (T b).2.2.2 with
    | false => exact va_put hx hcb hts hin (mv_ty a) hty hnm2 hown hK hW.1 hW.2.1 hV (k - 1) he hC b hbN (hts _ hlk2) (fun _ h => h) hfn (hty b hbN) hn hfit hl2 hd kk'
    | true => exact va_putF hx hcb hts hin (mv_ty a) hty hnm2 hown hK hW.1 hW.2.1 hV (k - 1) he hC b hbN (hts _ hlk2) (fun _ h => h) hfn (hnm.trans hfin) hdecl (hty b hbN) hn hfit hl2 hd kk'
theorem mv_kd2 {r : Nat} (h : mv_kd a b = 2) : narrow (mv_ty a b) (.ref r) = .ref r ∧ fits (mv_ty a b) (.ref r) = true := by
  unfold mv_kd at h
  cases ht : mv_ty a b with
  | object n => exact ⟨rfl, rfl⟩
  | array t => exact ⟨rfl, rfl⟩
  | _ => rw [ht] at h; simp at h
theorem mv_kd0 {x : Int32} (h : mv_kd a b = 0) : narrow (mv_ty a b) (.int x) = .int x ∧ fits (mv_ty a b) (.int x) = true := by
  unfold mv_kd at h
  cases ht : mv_ty a b with
  | int => exact ⟨rfl, rfl⟩
  | _ => rw [ht] at h; simp at h
theorem mv_kd1 {x : Int} (h : mv_kd a b = 1) (hx : x = 0 ∨ x = 1) : narrow (mv_ty a b) (.int (Int32.ofInt x)) = .int (Int32.ofInt x) ∧ fits (mv_ty a b) (.int (Int32.ofInt x)) = true := by
  unfold mv_kd at h
  cases ht : mv_ty a b with
  | boolean => rcases hx with rfl | rfl <;> exact ⟨by decide, by decide⟩
  | _ => rw [ht] at h; simp at h
/-- of every field's kind: an int, a boolean, a reference -/
theorem mv_kds : (List.range 12).all (fun ci => (List.range (mv_nf ci)).all (fun k => Nat.ble (mv_kd ci k) 2)) = true := by decide +kernel
theorem mv_kd_le (ha : a < 12) (hb : b < mv_nf a) : mv_kd a b ≤ 2 := by
  have h := List.all_eq_true.mp mv_kds a (List.mem_range.mpr ha)
  exact Nat.le_of_ble_eq_true (List.all_eq_true.mp h b (List.mem_range.mpr hb))
theorem mv_rf_s {k j : Nat} : (mv_rf sh k b j).2.2.2.2 k b = j := by
  unfold mv_rf
  simp
theorem mv_rf_n {k j q f : Nat} (h : ¬ (q = k ∧ f = b)) : (mv_rf sh k b j).2.2.2.2 q f = sh.2.2.2.2 q f := by
  unfold mv_rf
  exact if_neg h
theorem mv_up_s {k j : Nat} {x : Int} : mv_up M k j x k j = x := by
  unfold mv_up
  exact if_pos ⟨rfl, rfl⟩
theorem mv_up_n {k j q f : Nat} {x : Int} (h : ¬ (q = k ∧ f = j)) : mv_up M k j x q f = M q f := by
  unfold mv_up
  exact if_neg h
theorem ms_putfield {i : Instr} {ln : Nat} (hd : decode (mt_cc (mv_r mi)) pc = .ok (i, ln)) (hf : mv_fit (mv_r mi) pc ln (.putfield 0) a b c v ts i = true) (hn : mv_RN G mi n0 s0 (pc + ln) post NX)
    (hb : if c = 2 then (mv_pr st fun j r => mv_pr r fun k r => if 1 ≤ k ∧ k ≤ sh.1 ∧ sh.2.2.1 k = a ∧ 1 ≤ j ∧ j ≤ sh.1 then NX L r (mv_rf sh k b j) M else False)
      else mv_pi st fun x r => mv_pr r fun k r => if 1 ≤ k ∧ k ≤ sh.1 ∧ sh.2.2.1 k = a then (if c = 1 then (x = 0 ∨ x = 1) ∧ NX L r sh (mv_up M k b x) else NX L r sh (mv_up M k b x)) else False) : mv_Run G mi n0 s0 pc L st sh M post := by
  unfold mv_fit at hf
  dsimp only at hf
  cases i with
  | putfield idx =>
    rw [Bool.and_eq_true, decide_eq_true_eq, Bool.and_eq_true] at hf
    obtain ⟨rfl, hf1, hf2⟩ := hf
    obtain ⟨C', T, N, hC, hbN, hlk2, hc⟩ := mv_fl_s hf1
    rw [hC] at hf2
    simp only [Bool.or_eq_true, Bool.not_eq_true', Bool.and_eq_true, decide_eq_true_eq] at hf2
    obtain ⟨hin, hty, hnm2, hN, h100⟩ := mv_cls hC
    by_cases h9 : c = 2
    · rw [if_pos h9] at hb
      obtain ⟨j, r, rfl, hb1⟩ := mv_pr_s hb
      obtain ⟨k, r, rfl, hb2⟩ := mv_pr_s hb1
      obtain ⟨⟨h1, h2, h3, h4, h5⟩, hb3⟩ := mv_if_s hb2
      intro p e s m args below meth cx H locs ls C hl hL hS hW hV hn0 hs0
      have hS2 := List.forall_mem_cons.mp (List.forall_mem_cons.mp hS).2
      have hk2 := mv_kd2 (r := mv_ad G j) (hc.symm.trans h9)
      refine mv_put (sh' := mv_rf sh k b j) (M' := M) C hC hbN hlk2 hf2 h1 h2 h3 hk2.1 hk2.2 hW hV rfl rfl rfl ?_ ?_ ?_ hW.2.2 hd (fun H1 locs1 q1 q2 => hn _ _ _ _ hb3 p e s m args below meth cx H1 locs1 ls C hl hL hS2.2 q1 q2 hn0 hs0)
      · unfold mv_fv
        rw [mv_rf_s, if_pos (hc.symm.trans h9), if_neg (by omega)]
        rfl
      · intro f hf
        unfold mv_fv
        rw [mv_rf_n (fun q => hf q.2)]
      · intro q hq
        exact ⟨fun f => mv_rf_n (fun z => hq z.1), fun _ => rfl⟩
    · rw [if_neg h9] at hb
      obtain ⟨x, r, rfl, hb1⟩ := mv_pi_s hb
      obtain ⟨k, r, rfl, hb2⟩ := mv_pr_s hb1
      obtain ⟨⟨h1, h2, h3⟩, hb3⟩ := mv_if_s hb2
      intro p e s m args below meth cx H locs ls C hl hL hS hW hV hn0 hs0
      have hS1 := List.forall_mem_cons.mp hS
      have hS2 := List.forall_mem_cons.mp hS1.2
      have hxr : mv_R32 x := hS1.1
      have hle := mv_kd_le (a := a) (b := b) (by have := (List.getElem?_eq_some_iff.mp hC).1; exact this) (by rw [hN]; exact hbN)
      have hkd : narrow (mv_ty a b) (.int (Int32.ofInt x)) = .int (Int32.ofInt x) ∧ fits (mv_ty a b) (.int (Int32.ofInt x)) = true := by
        by_cases h8 : c = 1
        · rw [if_pos h8] at hb3
          exact mv_kd1 (hc.symm.trans h8) hb3.1
        · exact mv_kd0 (by omega)
      have hb4 : NX L r sh (mv_up M k b x) := by
        by_cases h8 : c = 1
        · rw [if_pos h8] at hb3
          exact hb3.2
        · rw [if_neg h8] at hb3
          exact hb3
      refine mv_put (sh' := sh) (M' := mv_up M k b x) C hC hbN hlk2 hf2 h1 h2 h3 hkd.1 hkd.2 hW hV rfl rfl rfl ?_ ?_ ?_ (mv_nm_up hW.2.2 h1 ⟨mv_R6 hxr, fun _ => hxr⟩) hd (fun H1 locs1 q1 q2 => hn _ _ _ _ hb4 p e s m args below meth cx H1 locs1 ls C hl hL hS2.2 q1 q2 hn0 hs0)
      · unfold mv_fv
        rw [mv_up_s, if_neg (fun q => h9 (hc.trans q))]
        rfl
      · intro f hf
        unfold mv_fv
        rw [mv_up_n (fun q => hf q.2)]
      · intro q hq
        exact ⟨fun _ => rfl, fun f => mv_up_ne hq f⟩
  | _ => cases hf
theorem ms_iaload (hd : decode (mt_cc (mv_r mi)) pc = .ok (.iaload, 1)) (hn : mv_RN G mi n0 s0 (pc + 1) post NX)
    (hb : mv_pi st fun i r => mv_pr r fun k r => if k ≤ sh.1 ∧ sh.2.2.1 k = 100 then (0 ≤ i ∧ i < (sh.2.2.2.1 k : Int)) ∧ NX L (.inl (M k i.toNat) :: r) sh M else False) : mv_Run G mi n0 s0 pc L st sh M post := by
  obtain ⟨i, r, rfl, hb1⟩ := mv_pi_s hb
  obtain ⟨k, r, rfl, hb2⟩ := mv_pr_s hb1
  obtain ⟨⟨h2, h3⟩, hi, hb3⟩ := mv_if_s hb2
  intro p e s m args below meth cx H locs ls C hl hL hS hW hV hn0 hs0
  obtain ⟨hx, hcb, hml, hown, hts, hrt, hlk, hnm, hsz, hX, hbo, hK⟩ := id C
  have hS1 := List.forall_mem_cons.mp hS
  have hir : mv_R32 i := hS1.1
  have hS2 := List.forall_mem_cons.mp hS1.2
  have K := hn _ _ _ _ hb3 p e s m args below meth cx H locs ls C hl hL (List.forall_mem_cons.mpr ⟨(hW.2.2.2.1 k i.toNat).2 (by omega), hS2.2⟩) hW hV hn0 hs0
  by_cases h0 : k = 0
  · subst h0
    obtain ⟨⟨-, g2, g3⟩, -⟩ := hW.2.2
    rw [g2] at hi
    refine va_sld hx hcb hX hbo.1 hbo.2 hV (mv_vin hir hi) hd ?_
    rw [mv_clamp hir, ← g3]
    exact K
  · have he := mv_ws_get (G := G) (M := M) (show 1 ≤ k by omega) h2
    rw [mv_ce_i h3] at he
    refine va_iald hx hcb hK hW.1 (k - 1) 0 he rfl (mv_vin hir hi) hd ?_
    rw [mv_clamp hir]
    exact K
theorem mv_zn {x : Int} (h : x = 0 ∨ x = 1) : vp_nar .boolean (Int32.ofInt x) = Int32.ofInt x := by
  rcases h with rfl | rfl <;> decide
theorem ms_laload (hd : decode (mt_cc (mv_r mi)) pc = .ok (.laload, 1)) (hn : mv_RN G mi n0 s0 (pc + 1) post NX)
    (hb : mv_pi st fun i r => mv_pr r fun k r => if 1 ≤ k ∧ k ≤ sh.1 ∧ sh.2.2.1 k = 101 then (0 ≤ i ∧ i < (sh.2.2.2.1 k : Int)) ∧ NX L (.inr (.inl (M k i.toNat)) :: r) sh M else False) : mv_Run G mi n0 s0 pc L st sh M post := by
  obtain ⟨i, r, rfl, hb1⟩ := mv_pi_s hb
  obtain ⟨k, r, rfl, hb2⟩ := mv_pr_s hb1
  obtain ⟨⟨h1, h2, h3⟩, hi, hb3⟩ := mv_if_s hb2
  intro p e s m args below meth cx H locs ls C hl hL hS hW hV hn0 hs0
  obtain ⟨hx, hcb, hml, hown, hts, hrt, hlk, hnm, hsz, hX, hbo, hK⟩ := id C
  have hS1 := List.forall_mem_cons.mp hS
  have hir : mv_R32 i := hS1.1
  have hS2 := List.forall_mem_cons.mp hS1.2
  have K := hn _ _ _ _ hb3 p e s m args below meth cx H locs ls C hl hL (List.forall_mem_cons.mpr ⟨(hW.2.2.2.1 k i.toNat).1, hS2.2⟩) hW hV hn0 hs0
  have he := mv_ws_get (G := G) (M := M) h1 h2
  rw [mv_ce_j h3] at he
  refine va_lald hx hcb hK hW.1 (k - 1) 1 he rfl (mv_vin hir hi) hd ?_
  rw [mv_clamp hir]
  exact K
theorem ms_baload (hd : decode (mt_cc (mv_r mi)) pc = .ok (.baload, 1)) (hn : mv_RN G mi n0 s0 (pc + 1) post NX)
    (hb : mv_pi st fun i r => mv_pr r fun k r => if 1 ≤ k ∧ k ≤ sh.1 ∧ sh.2.2.1 k = 102 then (0 ≤ i ∧ i < (sh.2.2.2.1 k : Int)) ∧ NX L (.inl (M k i.toNat) :: r) sh M else False) : mv_Run G mi n0 s0 pc L st sh M post := by
  obtain ⟨i, r, rfl, hb1⟩ := mv_pi_s hb
  obtain ⟨k, r, rfl, hb2⟩ := mv_pr_s hb1
  obtain ⟨⟨h1, h2, h3⟩, hi, hb3⟩ := mv_if_s hb2
  intro p e s m args below meth cx H locs ls C hl hL hS hW hV hn0 hs0
  obtain ⟨hx, hcb, hml, hown, hts, hrt, hlk, hnm, hsz, hX, hbo, hK⟩ := id C
  have hS1 := List.forall_mem_cons.mp hS
  have hir : mv_R32 i := hS1.1
  have hS2 := List.forall_mem_cons.mp hS1.2
  have K := hn _ _ _ _ hb3 p e s m args below meth cx H locs ls C hl hL (List.forall_mem_cons.mpr ⟨(hW.2.2.2.1 k i.toNat).2 (by omega), hS2.2⟩) hW hV hn0 hs0
  have he := mv_ws_get (G := G) (M := M) h1 h2
  rw [mv_ce_z h3] at he
  refine va_zald hx hcb hK hW.1 (k - 1) 2 he rfl (mv_vin hir hi) hd ?_
  rw [mv_clamp hir]
  exact K
theorem ms_iastore (hd : decode (mt_cc (mv_r mi)) pc = .ok (.iastore, 1)) (hn : mv_RN G mi n0 s0 (pc + 1) post NX)
    (hb : mv_pi st fun x r => mv_pi r fun i r => mv_pr r fun k r => if 1 ≤ k ∧ k ≤ sh.1 ∧ sh.2.2.1 k = 100 then (0 ≤ i ∧ i < (sh.2.2.2.1 k : Int)) ∧ NX L r sh (mv_up M k i.toNat x) else False) : mv_Run G mi n0 s0 pc L st sh M post := by
  obtain ⟨x, r, rfl, hb1⟩ := mv_pi_s hb
  obtain ⟨i, r, rfl, hb2⟩ := mv_pi_s hb1
  obtain ⟨k, r, rfl, hb3⟩ := mv_pr_s hb2
  obtain ⟨⟨h1, h2, h3⟩, hi, hb4⟩ := mv_if_s hb3
  intro p e s m args below meth cx H locs ls C hl hL hS hW hV hn0 hs0
  obtain ⟨hx, hcb, hml, hown, hts, hrt, hlk, hnm, hsz, hX, hbo, hK⟩ := id C
  have hS0 := List.forall_mem_cons.mp hS
  have hxr : mv_R32 x := hS0.1
  have hS1 := List.forall_mem_cons.mp hS0.2
  have hir : mv_R32 i := hS1.1
  have hS2 := List.forall_mem_cons.mp hS1.2
  have he := mv_ws_get (G := G) (M := M) h1 h2
  rw [mv_ce_i h3] at he
  have hset := mv_ws_set (G := G) (M := M) (M' := mv_up M k i.toNat x) (sh' := sh) h1 h2 rfl rfl (fun j hj => mv_ce_c rfl rfl (fun _ => rfl) (fun q => mv_up_ne hj q))
  rw [mv_ce_i h3, mv_up_f Int32.ofInt] at hset
  refine va_iast hx hcb hK hW.1 hW.2.1 hV (k - 1) 0 he rfl (mv_vin hir hi) hd ?_
  rw [mv_clamp hir, hset]
  exact fun H1 locs1 q1 q2 q3 => hn _ _ _ _ hb4 p e s m args below meth cx H1 locs1 ls C hl hL hS2.2 ⟨q1, q2, mv_nm_up hW.2.2 h1 ⟨mv_R6 hxr, fun _ => hxr⟩⟩ q3 hn0 hs0
theorem ms_lastore (hd : decode (mt_cc (mv_r mi)) pc = .ok (.lastore, 1)) (hn : mv_RN G mi n0 s0 (pc + 1) post NX)
    (hb : mv_pl st fun x r => mv_pi r fun i r => mv_pr r fun k r => if 1 ≤ k ∧ k ≤ sh.1 ∧ sh.2.2.1 k = 101 then (0 ≤ i ∧ i < (sh.2.2.2.1 k : Int)) ∧ NX L r sh (mv_up M k i.toNat x) else False) : mv_Run G mi n0 s0 pc L st sh M post := by
  obtain ⟨x, r, rfl, hb1⟩ := mv_pl_s hb
  obtain ⟨i, r, rfl, hb2⟩ := mv_pi_s hb1
  obtain ⟨k, r, rfl, hb3⟩ := mv_pr_s hb2
  obtain ⟨⟨h1, h2, h3⟩, hi, hb4⟩ := mv_if_s hb3
  intro p e s m args below meth cx H locs ls C hl hL hS hW hV hn0 hs0
  obtain ⟨hx, hcb, hml, hown, hts, hrt, hlk, hnm, hsz, hX, hbo, hK⟩ := id C
  have hS0 := List.forall_mem_cons.mp hS
  have hxr : mv_R64 x := hS0.1
  have hS1 := List.forall_mem_cons.mp hS0.2
  have hir : mv_R32 i := hS1.1
  have hS2 := List.forall_mem_cons.mp hS1.2
  have he := mv_ws_get (G := G) (M := M) h1 h2
  rw [mv_ce_j h3] at he
  have hset := mv_ws_set (G := G) (M := M) (M' := mv_up M k i.toNat x) (sh' := sh) h1 h2 rfl rfl (fun j hj => mv_ce_c rfl rfl (fun _ => rfl) (fun q => mv_up_ne hj q))
  rw [mv_ce_j h3, mv_up_fl Int64.ofInt] at hset
  refine va_last hx hcb hK hW.1 hW.2.1 hV (k - 1) 1 he rfl (mv_vin hir hi) hd ?_
  rw [mv_clamp hir, hset]
  exact fun H1 locs1 q1 q2 q3 => hn _ _ _ _ hb4 p e s m args below meth cx H1 locs1 ls C hl hL hS2.2 ⟨q1, q2, mv_nm_up hW.2.2 h1 ⟨hxr, fun q => absurd h3 q⟩⟩ q3 hn0 hs0
theorem ms_bastore (hd : decode (mt_cc (mv_r mi)) pc = .ok (.bastore, 1)) (hn : mv_RN G mi n0 s0 (pc + 1) post NX)
    (hb : mv_pi st fun x r => mv_pi r fun i r => mv_pr r fun k r => if 1 ≤ k ∧ k ≤ sh.1 ∧ sh.2.2.1 k = 102 then ((0 ≤ i ∧ i < (sh.2.2.2.1 k : Int)) ∧ (x = 0 ∨ x = 1)) ∧ NX L r sh (mv_up M k i.toNat x) else False) : mv_Run G mi n0 s0 pc L st sh M post := by
  obtain ⟨x, r, rfl, hb1⟩ := mv_pi_s hb
  obtain ⟨i, r, rfl, hb2⟩ := mv_pi_s hb1
  obtain ⟨k, r, rfl, hb3⟩ := mv_pr_s hb2
  obtain ⟨⟨h1, h2, h3⟩, hi, hb4⟩ := mv_if_s hb3
  intro p e s m args below meth cx H locs ls C hl hL hS hW hV hn0 hs0
  obtain ⟨hx, hcb, hml, hown, hts, hrt, hlk, hnm, hsz, hX, hbo, hK⟩ := id C
  have hS0 := List.forall_mem_cons.mp hS
  have hxr : mv_R32 x := hS0.1
  have hS1 := List.forall_mem_cons.mp hS0.2
  have hir : mv_R32 i := hS1.1
  have hS2 := List.forall_mem_cons.mp hS1.2
  have he := mv_ws_get (G := G) (M := M) h1 h2
  rw [mv_ce_z h3] at he
  have hset := mv_ws_set (G := G) (M := M) (M' := mv_up M k i.toNat x) (sh' := sh) h1 h2 rfl rfl (fun j hj => mv_ce_c rfl rfl (fun _ => rfl) (fun q => mv_up_ne hj q))
  rw [mv_ce_z h3, mv_up_f Int32.ofInt] at hset
  refine va_zast hx hcb hK hW.1 hW.2.1 hV (k - 1) 2 he rfl (mv_vin hir hi.1) hd ?_
  rw [mv_clamp hir, mv_zn hi.2, hset]
  exact fun H1 locs1 q1 q2 q3 => hn _ _ _ _ hb4 p e s m args below meth cx H1 locs1 ls C hl hL hS2.2 ⟨q1, q2, mv_nm_up hW.2.2 h1 ⟨mv_R6 hxr, fun _ => hxr⟩⟩ q3 hn0 hs0
end MC
end
section
/-! ONE INSTRUCTION OF THE SMALL MACHINE: lengths, copies, new cells, switches, calls, ends -/
section MN
variable {G : mv_G} {mi n0 s0 : Nat} {post : Option mv_V → mv_SH → mv_Mem → Prop} {pc a b c : Nat} {v : Int} {ts : List Nat} {L : mv_L} {st : List mv_V} {sh : mv_SH} {M : mv_Mem}
variable {NX : mv_L → List mv_V → mv_SH → mv_Mem → Prop} {JP : Nat → mv_L → List mv_V → mv_SH → mv_Mem → Prop}
theorem ms_arraylength (hd : decode (mt_cc (mv_r mi)) pc = .ok (.arraylength, 1)) (hn : mv_RN G mi n0 s0 (pc + 1) post NX)
    (hb : mv_pr st fun k r => if k ≤ sh.1 ∧ sh.2.2.1 k = 100 then NX L (.inl (sh.2.2.2.1 k : Int) :: r) sh M else False) : mv_Run G mi n0 s0 pc L st sh M post := by
  obtain ⟨k, r, rfl, hb2⟩ := mv_pr_s hb
  obtain ⟨⟨h2, h3⟩, hb3⟩ := mv_if_s hb2
  intro p e s m args below meth cx H locs ls C hl hL hS hW hV hn0 hs0
  obtain ⟨hx, hcb, hml, hown, hts, hrt, hlk, hnm, hsz, hX, hbo, hK⟩ := id C
  have hS2 := List.forall_mem_cons.mp hS
  have hle := hW.2.2.2.2 k
  have hR : mv_R32 (sh.2.2.2.1 k : Int) := by constructor <;> omega
  have K := hn _ _ _ _ hb3 p e s m args below meth cx H locs ls C hl hL (List.forall_mem_cons.mpr ⟨hR, hS2.2⟩) hW hV hn0 hs0
  by_cases h0 : k = 0
  · subst h0
    obtain ⟨⟨-, g2, g3⟩, -⟩ := hW.2.2
    refine va_slen (b := mg_b G) hx hcb hX hbo.1 hbo.2 hV hd ?_
    rw [← Int32.ofInt_eq_ofNat, ← g2]
    exact K
  · have he := mv_ws_get (G := G) (M := M) (show 1 ≤ k by omega) h2
    rw [mv_ce_i h3] at he
    exact va_alen hx hcb hK hW.1 (k - 1) 0 he rfl (v := Int32.ofInt (sh.2.2.2.1 k : Int)) Int32.ofInt_eq_ofNat.symm hd K
theorem mv_cp_ne {src sp dst dp n k : Nat} (h : k ≠ dst) (i : Nat) : mv_cp M src sp dst dp n k i = M k i := by
  unfold mv_cp
  rw [if_neg (fun q => h q.1)]
theorem mv_cp_f {α : Type} {src sp dst dp n : Nat} (g : Int → α) : va_cpy (fun i => g (M src i)) (fun i => g (M dst i)) sp dp n = fun i => g (mv_cp M src sp dst dp n dst i) := by
  funext i
  unfold va_cpy mv_cp
  by_cases h : dp ≤ i ∧ i < dp + n
  · rw [if_pos h, if_pos ⟨rfl, h⟩]
  · rw [if_neg h, if_neg (fun q => h q.2)]
theorem mv_nm_cp {src sp dst dp n : Nat} (h : mv_Nm G sh M) (hk : 1 ≤ dst) (ht : sh.2.2.1 src = sh.2.2.1 dst) : mv_Nm G sh (mv_cp M src sp dst dp n) := by
  obtain ⟨⟨a1, a2, a3⟩, a4, a5⟩ := h
  refine ⟨⟨a1, a2, fun i => by rw [mv_cp_ne (by omega)]; exact a3 i⟩, fun k' i => ?_, a5⟩
  unfold mv_cp
  split
  · rename_i hq
    rw [hq.1, ← ht]
    exact a4 src _
  · exact a4 k' i
theorem ms_copy {i : Instr} {ln : Nat} (hd : decode (mt_cc (mv_r mi)) pc = .ok (i, ln)) (hf : mv_fit (mv_r mi) pc ln (.invokestatic 0) a b c v ts i = true) (hn : mv_RN G mi n0 s0 (pc + ln) post NX) (h9 : ¬ c = 1)
    (hb : mv_pi st fun n r => mv_pi r fun dp r => mv_pr r fun d r => mv_pi r fun sp r => mv_pr r fun s r =>
        if (1 ≤ s ∧ s ≤ sh.1 ∧ sh.2.2.1 s = c) ∧ (1 ≤ d ∧ d ≤ sh.1 ∧ sh.2.2.1 d = c) ∧ mv_stw r ≤ 8 then (0 ≤ sp ∧ 0 ≤ dp ∧ 0 ≤ n ∧ sp + n ≤ (sh.2.2.2.1 s : Int) ∧ dp + n ≤ (sh.2.2.2.1 d : Int)) ∧ NX L r sh (mv_cp M s sp.toNat d dp.toNat n.toNat) else False) : mv_Run G mi n0 s0 pc L st sh M post := by
  obtain ⟨n, r, rfl, hb1⟩ := mv_pi_s hb
  obtain ⟨dp, r, rfl, hb2⟩ := mv_pi_s hb1
  obtain ⟨d, r, rfl, hb3⟩ := mv_pr_s hb2
  obtain ⟨sp, r, rfl, hb4⟩ := mv_pi_s hb3
  obtain ⟨k, r, rfl, hb5⟩ := mv_pr_s hb4
  obtain ⟨⟨⟨k1, k2, k3⟩, ⟨d1, d2, d3⟩, hst⟩, ⟨hsp, hdp, hn1, hsl, hdl⟩, hb6⟩ := mv_if_s hb5
  intro p e s m args below meth cx H locs ls C hl hL hS hW hV hn0 hs0
  obtain ⟨hx, hcb, hml, hown, hts, hrt, hlk, hnm, hsz, hX, hbo, hK⟩ := id C
  have hS0 := List.forall_mem_cons.mp hS
  have hnr : mv_R32 n := hS0.1
  have hS1 := List.forall_mem_cons.mp hS0.2
  have hdr : mv_R32 dp := hS1.1
  have hS2 := List.forall_mem_cons.mp (List.forall_mem_cons.mp hS1.2).2
  have hsr : mv_R32 sp := hS2.1
  have hS3 := (List.forall_mem_cons.mp hS2.2).2
  unfold mv_fit at hf
  dsimp only at hf
  cases i with
  | invokestatic idx =>
    dsimp only at hf
    rw [if_neg h9] at hf
    simp only [Bool.and_eq_true, decide_eq_true_eq] at hf
    obtain ⟨rfl, w0, w1, w2, w3, hc, hfr, hlo⟩ := hf
    have hfr := Nat.le_of_ble_eq_true hfr
    have hlo := Nat.le_of_ble_eq_true hlo
    have hes := mv_ws_get (G := G) (M := M) k1 k2
    have hed := mv_ws_get (G := G) (M := M) d1 d2
    have hNm : mv_Nm G sh (mv_cp M k sp.toNat d dp.toNat n.toNat) := mv_nm_cp hW.2.2 d1 (k3.trans d3.symm)
    have hset := mv_ws_set (G := G) (M := M) (M' := mv_cp M k sp.toNat d dp.toNat n.toNat) (sh' := sh) d1 d2 rfl rfl (fun j hj => mv_ce_c rfl rfl (fun _ => rfl) (fun q => mv_cp_ne hj q))
    have hloc : ((r.map (mv_ct G)).map fun v => v.category).sum + (nativeFrameWords "java/lang/System" "arraycopy" 5 + 11) ≤ (mt_rm (mv_r mi)).locals := by
      rw [mv_stw_e]
      have e1 : nativeFrameWords "java/lang/System" "arraycopy" 5 = 7 := by decide +kernel
      rw [e1]
      show _ ≤ mt_lo (mv_r mi)
      omega
    have z0 : ∀ {x : Int}, mv_R32 x → 0 ≤ x → ¬ Int32.ofInt x < 0 := fun hr h q => by
      have := (mv_l32 hr mv_z32).mp q
      omega
    rcases hc with rfl | rfl
    · rw [mv_ce_i k3] at hes
      rw [mv_ce_i d3] at hed hset
      refine va_copyi hx hcb (hml.trans hl.1.symm) hown (hts _ (mv_hw_mem w0)) (hts _ (mv_hw_mem w1)) (hts _ (mv_hw_mem w2)) (hts _ (mv_hw_mem w3)) hK hW.1 hW.2.1 hV (k - 1) (d - 1) 0 0 hes hed rfl rfl rfl (sp := Int32.ofInt sp) (dp := Int32.ofInt dp) (n := Int32.ofInt n) (z0 hsr hsp) (z0 hdr hdp) (z0 hnr hn1) ?_ ?_ (fun _ _ => rfl) hfr hloc hd ?_
      · rw [mv_clamp hsr, mv_clamp hnr]; omega
      · rw [mv_clamp hdr, mv_clamp hnr]; omega
      · rw [mv_clamp hsr, mv_clamp hdr, mv_clamp hnr, mv_cp_f Int32.ofInt, hset]
        exact fun H1 locs1 q1 q2 q3 => hn _ _ _ _ hb6 p e s m args below meth cx H1 locs1 ls C hl hL hS3 ⟨q1, q2, hNm⟩ q3 hn0 hs0
    · rw [mv_ce_j k3] at hes
      rw [mv_ce_j d3] at hed hset
      refine va_copyl hx hcb (hml.trans hl.1.symm) hown (hts _ (mv_hw_mem w0)) (hts _ (mv_hw_mem w1)) (hts _ (mv_hw_mem w2)) (hts _ (mv_hw_mem w3)) hK hW.1 hW.2.1 hV (k - 1) (d - 1) 1 1 hes hed rfl rfl rfl (sp := Int32.ofInt sp) (dp := Int32.ofInt dp) (n := Int32.ofInt n) (z0 hsr hsp) (z0 hdr hdp) (z0 hnr hn1) ?_ ?_ (fun _ _ => rfl) hfr hloc hd ?_
      · rw [mv_clamp hsr, mv_clamp hnr]; omega
      · rw [mv_clamp hdr, mv_clamp hnr]; omega
      · rw [mv_clamp hsr, mv_clamp hdr, mv_clamp hnr, mv_cp_f Int64.ofInt, hset]
        exact fun H1 locs1 q1 q2 q3 => hn _ _ _ _ hb6 p e s m args below meth cx H1 locs1 ls C hl hL hS3 ⟨q1, q2, hNm⟩ q3 hn0 hs0
  | _ => cases hf
/-- where a new cell lies -/
theorem mv_new_at {e : va_E} {q z : Nat} {H1 : Heap} (hD : va_D (mg_A G) (mv_ws G sh M ++ [(q, e)])) (h0 : mv_hp G n0 z) (hn : n0 ≤ sh.1) (hq : q < H1.size) (hz : H1.size ≤ z + (sh.1 - n0) + 1) : q = mg_a G (sh.1 + 1) := by
  have hl : (mv_ws G sh M).length = sh.1 := by unfold mv_ws; rw [List.length_map, List.length_range]
  have hlast : (mv_ws G sh M ++ [(q, e)])[sh.1]? = some (q, e) := by
    rw [List.getElem?_append_right (by omega), hl, Nat.sub_self]
    rfl
  obtain ⟨k, hk1, hk⟩ : mg_A G q := hD.2 _ _ hlast
  rcases Nat.lt_or_ge sh.1 k with h | h
  · have e1 := h0 (k - n0 - 1)
    rw [show n0 + 1 + (k - n0 - 1) = k by omega] at e1
    rw [hk, show k = sh.1 + 1 by omega]
  · exfalso
    have hk0 := mv_ws_get (G := G) (sh := sh) (M := M) (k := k) hk1 h
    have he : mv_ad G k = q := by
      unfold mv_ad
      rw [if_neg (by omega)]
      exact hk.symm
    have hk2 : (mv_ws G sh M ++ [(q, e)])[k - 1]? = some (mv_ad G k, mv_ce G sh M k) := by
      rw [List.getElem?_append_left (by omega)]
      exact hk0
    have := hD.1 _ _ _ _ hk2 hlast he
    omega
theorem mv_new_ad : mv_ad G (sh.1 + 1) = mg_a G (sh.1 + 1) := by
  unfold mv_ad
  rw [if_neg (by omega)]
theorem mv_nmA {n : Nat} (h : mv_Nm G sh M) (ha : 100 ≤ a) (hn : n ≤ 100000) : mv_Nm G (mv_nwA sh a n) (mv_nwM sh M) := by
  obtain ⟨⟨a1, a2, a3⟩, a4, a5⟩ := h
  refine ⟨⟨?_, ?_, fun i => ?_⟩, fun k i => ?_, fun k => ?_⟩
  · show (if 0 = sh.1 + 1 then a else sh.2.2.1 0) = 100
    rw [if_neg (by omega)]; exact a1
  · show (if 0 = sh.1 + 1 then n else sh.2.2.2.1 0) = _
    rw [if_neg (by omega)]; exact a2
  · show (if 0 = sh.1 + 1 then 0 else M 0 i) = _
    rw [if_neg (by omega)]; exact a3 i
  · show mv_R64 (if k = sh.1 + 1 then 0 else M k i) ∧ ((if k = sh.1 + 1 then a else sh.2.2.1 k) ≠ 101 → mv_R32 (if k = sh.1 + 1 then 0 else M k i))
    by_cases hk : k = sh.1 + 1
    · rw [if_pos hk]; exact ⟨mv_z64, fun _ => mv_z32⟩
    · rw [if_neg hk, if_neg hk]; exact a4 k i
  · show (if k = sh.1 + 1 then n else sh.2.2.2.1 k) ≤ 100000
    split
    · exact hn
    · exact a5 k
theorem mv_nmO {n : Nat} (h : mv_Nm G sh M) : mv_Nm G (mv_nwO sh a n) (mv_nwM sh M) := by
  obtain ⟨⟨a1, a2, a3⟩, a4, a5⟩ := h
  refine ⟨⟨?_, a2, fun i => ?_⟩, fun k i => ?_, a5⟩
  · show (if 0 = sh.1 + 1 then a else sh.2.2.1 0) = 100
    rw [if_neg (by omega)]; exact a1
  · show (if 0 = sh.1 + 1 then 0 else M 0 i) = _
    rw [if_neg (by omega)]; exact a3 i
  · show mv_R64 (if k = sh.1 + 1 then 0 else M k i) ∧ ((if k = sh.1 + 1 then a else sh.2.2.1 k) ≠ 101 → mv_R32 (if k = sh.1 + 1 then 0 else M k i))
    by_cases hk : k = sh.1 + 1
    · rw [if_pos hk]; exact ⟨mv_z64, fun _ => mv_z32⟩
    · rw [if_neg hk, if_neg hk]; exact a4 k i
theorem mv_ceA {n k : Nat} (h : k ≠ sh.1 + 1) : mv_ce G (mv_nwA sh a n) (mv_nwM sh M) k = mv_ce G sh M k := by
  refine mv_ce_c ?_ ?_ (fun _ => rfl) (fun i => ?_)
  · exact if_neg h
  · exact if_neg h
  · exact if_neg h
theorem mv_ceO {n k : Nat} (h : k ≠ sh.1 + 1) : mv_ce G (mv_nwO sh a n) (mv_nwM sh M) k = mv_ce G sh M k := by
  refine mv_ce_c ?_ rfl (fun f => ?_) (fun i => ?_)
  · exact if_neg h
  · exact if_neg h
  · exact if_neg h
theorem mv_nwM_0 (i : Nat) : mv_nwM sh M (sh.1 + 1) i = 0 := if_pos rfl
theorem mv_tagA {n : Nat} : (mv_nwA sh a n).2.2.1 (sh.1 + 1) = a := if_pos rfl
theorem mv_lenA {n : Nat} : (mv_nwA sh a n).2.2.2.1 (sh.1 + 1) = n := if_pos rfl
theorem mv_tagO {n : Nat} : (mv_nwO sh a n).2.2.1 (sh.1 + 1) = a := if_pos rfl
theorem mv_refO {n f : Nat} : (mv_nwO sh a n).2.2.2.2 (sh.1 + 1) f = 0 := if_pos rfl
theorem ms_newarray_int {i : Instr} {ln : Nat} (hd : decode (mt_cc (mv_r mi)) pc = .ok (i, ln)) (hf : mv_fit (mv_r mi) pc ln (.newarray .int) a b c v ts i = true) (hn : mv_RN G mi n0 s0 (pc + ln) post NX)
    (hb : mv_pi st fun n r => if 0 ≤ n ∧ n ≤ 100000 ∧ sh.1 + 1 ≤ n0 + mt_mc (mv_r mi) ∧ sh.2.1 + n.toNat ≤ s0 + mt_ms (mv_r mi) then NX L (.inr (.inr (sh.1 + 1)) :: r) (mv_nwA sh a n.toNat) (mv_nwM sh M) else False) : mv_Run G mi n0 s0 pc L st sh M post := by
  obtain ⟨n, r, rfl, hb1⟩ := mv_pi_s hb
  obtain ⟨⟨g1, g2, g3, g4⟩, hb2⟩ := mv_if_s hb1
  intro p e s m args below meth cx H locs ls C hl hL hS hW hV hn0 hs0
  obtain ⟨hx, hcb, hml, hown, hts, hrt, hlk, hnm, hsz, hX, hbo, hK⟩ := id C
  have hS0 := List.forall_mem_cons.mp hS
  have hnr : mv_R32 n := hS0.1
  unfold mv_fit at hf
  dsimp only at hf
  cases i with
  | newarray ty' =>
    simp only [Bool.and_eq_true, decide_eq_true_eq] at hf
    obtain ⟨rfl, rfl, w0, ha, h100⟩ := hf
    have ha : a = 100 := ha
    subst ha
    have hAq : ∀ q, s.heap.size ≤ q → mg_A G q := fun q h => mv_hA hsz h
    refine va_newa hx hcb (atype := .int) (hts _ (mv_hw_mem w0)) rfl hK hW.1 hW.2.1 hV hAq (n := Int32.ofInt n) (N' := n.toNat) (a0 := (n.toNat, .inl fun _ => 0)) (fun cA => rfl) (fun q => by have := (mv_l32 hnr mv_z32).mp q; omega) (mv_clamp hnr) (Nat.le_trans (Nat.mul_le_mul (show n.toNat ≤ 100000 by omega) (show componentBytes .int ≤ 8 by decide)) (by omega)) (by show _ ≤ mt_mc (mv_r mi); omega) (by show _ ≤ mt_ms (mv_r mi); omega) hd (fun q cA H1 hK1 hP1 hD1 hS1 => ?_)
    refine mv_sz (fun hz => ?_)
    have hql : q < H1.size := by
      have h := hP1 sh.1 (q, .inl (cA, (n.toNat, .inl fun _ => 0))) (by
        have hlen : (mv_ws G sh M).length = sh.1 := by unfold mv_ws; rw [List.length_map, List.length_range]
        rw [List.getElem?_append_right (by omega), hlen, Nat.sub_self]
        rfl)
      exact h.lt
    have hq := mv_new_at hD1 hsz hn0.1 hql (by omega)
    subst hq
    have hcA : cA = mg_I G := by
      have h1 := (hK1.2 3 (cA, .int) rfl).2
      have h2 := (hK.2 0 (mg_I G, .int) rfl).2
      exact Option.some.inj (h1.symm.trans h2)
    subst hcA
    have he : mv_ce G (mv_nwA sh 100 n.toNat) (mv_nwM sh M) (sh.1 + 1) = .inl (mg_I G, (n.toNat, .inl fun _ => 0)) := by
      rw [mv_ce_i mv_tagA, mv_lenA]
      have e1 : (fun i => Int32.ofInt (mv_nwM sh M (sh.1 + 1) i)) = fun _ => 0 := funext fun i => by rw [mv_nwM_0]; rfl
      rw [e1]
    have hpush := mv_ws_push (G := G) (sh := sh) (sh' := mv_nwA sh 100 n.toNat) (M := M) (M' := mv_nwM sh M) rfl he (fun j hj => mv_ceA hj)
    rw [hpush] at hP1 hD1
    have K := hn _ _ _ _ hb2 p e s m args below meth cx H1 locs ls C hl hL (List.forall_mem_cons.mpr ⟨trivial, hS0.2⟩) ⟨hP1, hD1, mv_nmA hW.2.2 (by decide) (by omega)⟩ hS1 (show n0 ≤ sh.1 + 1 ∧ sh.1 + 1 ≤ _ by omega) (show s0 ≤ sh.2.1 + n.toNat ∧ sh.2.1 + n.toNat ≤ _ by omega)
    rw [List.map_cons, show mv_ct G (.inr (.inr (sh.1 + 1))) = .ref (mg_a G (sh.1 + 1)) from congrArg Value.ref mv_new_ad] at K
    exact W.cs (show sh.1 - n0 + 1 = sh.1 + 1 - n0 by omega) (show sh.2.1 - s0 + n.toNat = sh.2.1 + n.toNat - s0 by omega) K
  | _ => cases hf
theorem ms_newarray_long {i : Instr} {ln : Nat} (hd : decode (mt_cc (mv_r mi)) pc = .ok (i, ln)) (hf : mv_fit (mv_r mi) pc ln (.newarray .long) a b c v ts i = true) (hn : mv_RN G mi n0 s0 (pc + ln) post NX)
    (hb : mv_pi st fun n r => if 0 ≤ n ∧ n ≤ 100000 ∧ sh.1 + 1 ≤ n0 + mt_mc (mv_r mi) ∧ sh.2.1 + n.toNat ≤ s0 + mt_ms (mv_r mi) then NX L (.inr (.inr (sh.1 + 1)) :: r) (mv_nwA sh a n.toNat) (mv_nwM sh M) else False) : mv_Run G mi n0 s0 pc L st sh M post := by
  obtain ⟨n, r, rfl, hb1⟩ := mv_pi_s hb
  obtain ⟨⟨g1, g2, g3, g4⟩, hb2⟩ := mv_if_s hb1
  intro p e s m args below meth cx H locs ls C hl hL hS hW hV hn0 hs0
  obtain ⟨hx, hcb, hml, hown, hts, hrt, hlk, hnm, hsz, hX, hbo, hK⟩ := id C
  have hS0 := List.forall_mem_cons.mp hS
  have hnr : mv_R32 n := hS0.1
  unfold mv_fit at hf
  dsimp only at hf
  cases i with
  | newarray ty' =>
    simp only [Bool.and_eq_true, decide_eq_true_eq] at hf
    obtain ⟨rfl, rfl, w0, ha, h100⟩ := hf
    have ha : a = 101 := ha
    subst ha
    have hAq : ∀ q, s.heap.size ≤ q → mg_A G q := fun q h => mv_hA hsz h
    refine va_newa hx hcb (atype := .long) (hts _ (mv_hw_mem w0)) rfl hK hW.1 hW.2.1 hV hAq (n := Int32.ofInt n) (N' := n.toNat) (a0 := (n.toNat, .inr (.inl fun _ => 0))) (fun cA => rfl) (fun q => by have := (mv_l32 hnr mv_z32).mp q; omega) (mv_clamp hnr) (Nat.le_trans (Nat.mul_le_mul (show n.toNat ≤ 100000 by omega) (show componentBytes .long ≤ 8 by decide)) (by omega)) (by show _ ≤ mt_mc (mv_r mi); omega) (by show _ ≤ mt_ms (mv_r mi); omega) hd (fun q cA H1 hK1 hP1 hD1 hS1 => ?_)
    refine mv_sz (fun hz => ?_)
    have hql : q < H1.size := by
      have h := hP1 sh.1 (q, .inl (cA, (n.toNat, .inr (.inl fun _ => 0)))) (by
        have hlen : (mv_ws G sh M).length = sh.1 := by unfold mv_ws; rw [List.length_map, List.length_range]
        rw [List.getElem?_append_right (by omega), hlen, Nat.sub_self]
        rfl)
      exact h.lt
    have hq := mv_new_at hD1 hsz hn0.1 hql (by omega)
    subst hq
    have hcA : cA = mg_J G := by
      have h1 := (hK1.2 3 (cA, .long) rfl).2
      have h2 := (hK.2 1 (mg_J G, .long) rfl).2
      exact Option.some.inj (h1.symm.trans h2)
    subst hcA
    have he : mv_ce G (mv_nwA sh 101 n.toNat) (mv_nwM sh M) (sh.1 + 1) = .inl (mg_J G, (n.toNat, .inr (.inl fun _ => 0))) := by
      rw [mv_ce_j mv_tagA, mv_lenA]
      have e1 : (fun i => Int64.ofInt (mv_nwM sh M (sh.1 + 1) i)) = fun _ => 0 := funext fun i => by rw [mv_nwM_0]; rfl
      rw [e1]
    have hpush := mv_ws_push (G := G) (sh := sh) (sh' := mv_nwA sh 101 n.toNat) (M := M) (M' := mv_nwM sh M) rfl he (fun j hj => mv_ceA hj)
    rw [hpush] at hP1 hD1
    have K := hn _ _ _ _ hb2 p e s m args below meth cx H1 locs ls C hl hL (List.forall_mem_cons.mpr ⟨trivial, hS0.2⟩) ⟨hP1, hD1, mv_nmA hW.2.2 (by decide) (by omega)⟩ hS1 (show n0 ≤ sh.1 + 1 ∧ sh.1 + 1 ≤ _ by omega) (show s0 ≤ sh.2.1 + n.toNat ∧ sh.2.1 + n.toNat ≤ _ by omega)
    rw [List.map_cons, show mv_ct G (.inr (.inr (sh.1 + 1))) = .ref (mg_a G (sh.1 + 1)) from congrArg Value.ref mv_new_ad] at K
    exact W.cs (show sh.1 - n0 + 1 = sh.1 + 1 - n0 by omega) (show sh.2.1 - s0 + n.toNat = sh.2.1 + n.toNat - s0 by omega) K
  | _ => cases hf
theorem ms_newarray_boolean {i : Instr} {ln : Nat} (hd : decode (mt_cc (mv_r mi)) pc = .ok (i, ln)) (hf : mv_fit (mv_r mi) pc ln (.newarray .boolean) a b c v ts i = true) (hn : mv_RN G mi n0 s0 (pc + ln) post NX)
    (hb : mv_pi st fun n r => if 0 ≤ n ∧ n ≤ 100000 ∧ sh.1 + 1 ≤ n0 + mt_mc (mv_r mi) ∧ sh.2.1 + n.toNat ≤ s0 + mt_ms (mv_r mi) then NX L (.inr (.inr (sh.1 + 1)) :: r) (mv_nwA sh a n.toNat) (mv_nwM sh M) else False) : mv_Run G mi n0 s0 pc L st sh M post := by
  obtain ⟨n, r, rfl, hb1⟩ := mv_pi_s hb
  obtain ⟨⟨g1, g2, g3, g4⟩, hb2⟩ := mv_if_s hb1
  intro p e s m args below meth cx H locs ls C hl hL hS hW hV hn0 hs0
  obtain ⟨hx, hcb, hml, hown, hts, hrt, hlk, hnm, hsz, hX, hbo, hK⟩ := id C
  have hS0 := List.forall_mem_cons.mp hS
  have hnr : mv_R32 n := hS0.1
  unfold mv_fit at hf
  dsimp only at hf
  cases i with
  | newarray ty' =>
    simp only [Bool.and_eq_true, decide_eq_true_eq] at hf
    obtain ⟨rfl, rfl, w0, ha, h100⟩ := hf
    have ha : a = 102 := ha
    subst ha
    have hAq : ∀ q, s.heap.size ≤ q → mg_A G q := fun q h => mv_hA hsz h
    refine va_newa hx hcb (atype := .boolean) (hts _ (mv_hw_mem w0)) rfl hK hW.1 hW.2.1 hV hAq (n := Int32.ofInt n) (N' := n.toNat) (a0 := (n.toNat, .inl fun _ => 0)) (fun cA => rfl) (fun q => by have := (mv_l32 hnr mv_z32).mp q; omega) (mv_clamp hnr) (Nat.le_trans (Nat.mul_le_mul (show n.toNat ≤ 100000 by omega) (show componentBytes .boolean ≤ 8 by decide)) (by omega)) (by show _ ≤ mt_mc (mv_r mi); omega) (by show _ ≤ mt_ms (mv_r mi); omega) hd (fun q cA H1 hK1 hP1 hD1 hS1 => ?_)
    refine mv_sz (fun hz => ?_)
    have hql : q < H1.size := by
      have h := hP1 sh.1 (q, .inl (cA, (n.toNat, .inl fun _ => 0))) (by
        have hlen : (mv_ws G sh M).length = sh.1 := by unfold mv_ws; rw [List.length_map, List.length_range]
        rw [List.getElem?_append_right (by omega), hlen, Nat.sub_self]
        rfl)
      exact h.lt
    have hq := mv_new_at hD1 hsz hn0.1 hql (by omega)
    subst hq
    have hcA : cA = mg_Z G := by
      have h1 := (hK1.2 3 (cA, .boolean) rfl).2
      have h2 := (hK.2 2 (mg_Z G, .boolean) rfl).2
      exact Option.some.inj (h1.symm.trans h2)
    subst hcA
    have he : mv_ce G (mv_nwA sh 102 n.toNat) (mv_nwM sh M) (sh.1 + 1) = .inl (mg_Z G, (n.toNat, .inl fun _ => 0)) := by
      rw [mv_ce_z mv_tagA, mv_lenA]
      have e1 : (fun i => Int32.ofInt (mv_nwM sh M (sh.1 + 1) i)) = fun _ => 0 := funext fun i => by rw [mv_nwM_0]; rfl
      rw [e1]
    have hpush := mv_ws_push (G := G) (sh := sh) (sh' := mv_nwA sh 102 n.toNat) (M := M) (M' := mv_nwM sh M) rfl he (fun j hj => mv_ceA hj)
    rw [hpush] at hP1 hD1
    have K := hn _ _ _ _ hb2 p e s m args below meth cx H1 locs ls C hl hL (List.forall_mem_cons.mpr ⟨trivial, hS0.2⟩) ⟨hP1, hD1, mv_nmA hW.2.2 (by decide) (by omega)⟩ hS1 (show n0 ≤ sh.1 + 1 ∧ sh.1 + 1 ≤ _ by omega) (show s0 ≤ sh.2.1 + n.toNat ∧ sh.2.1 + n.toNat ≤ _ by omega)
    rw [List.map_cons, show mv_ct G (.inr (.inr (sh.1 + 1))) = .ref (mg_a G (sh.1 + 1)) from congrArg Value.ref mv_new_ad] at K
    exact W.cs (show sh.1 - n0 + 1 = sh.1 + 1 - n0 by omega) (show sh.2.1 - s0 + n.toNat = sh.2.1 + n.toNat - s0 by omega) K
  | _ => cases hf
theorem mv_df (ha : a < 12) (hb : b < mv_nf a) : defaultValue (mv_ty a b) = if mv_kd a b = 2 then .null else .int 0 := by
  have h := mv_kd_le ha hb
  unfold mv_kd at h ⊢
  cases ht : mv_ty a b with
  | int => rfl
  | boolean => rfl
  | object n => rfl
  | array t => rfl
  | _ => rw [ht] at h; simp at h
theorem ms_new {i : Instr} {ln : Nat} (hd : decode (mt_cc (mv_r mi)) pc = .ok (i, ln)) (hf : mv_fit (mv_r mi) pc ln (.new 0) a b c v ts i = true) (hn : mv_RN G mi n0 s0 (pc + ln) post NX)
    (hb : if sh.1 + 1 ≤ n0 + mt_mc (mv_r mi) ∧ sh.2.1 + b ≤ s0 + mt_ms (mv_r mi) then NX L (.inr (.inr (sh.1 + 1)) :: st) (mv_nwO sh a b) (mv_nwM sh M) else False) : mv_Run G mi n0 s0 pc L st sh M post := by
  obtain ⟨⟨g3, g4⟩, hb2⟩ := mv_if_s hb
  intro p e s m args below meth cx H locs ls C hl hL hS hW hV hn0 hs0
  obtain ⟨hx, hcb, hml, hown, hts, hrt, hlk, hnm, hsz, hX, hbo, hK⟩ := id C
  unfold mv_fit at hf
  dsimp only at hf
  cases i with
  | new idx =>
    rw [Bool.and_eq_true, decide_eq_true_eq] at hf
    obtain ⟨rfl, hf⟩ := hf
    split at hf
    · rename_i C' T N hC
      simp only [Bool.and_eq_true, decide_eq_true_eq] at hf
      obtain ⟨rfl, w0, w1, w2⟩ := hf
      obtain ⟨hin, hty, hnm2, hN, h100⟩ := mv_cls hC
      have ha13 : a < 12 := (List.getElem?_eq_some_iff.mp hC).1
      have hfs : ∀ j, j < N → defaultValue (mv_ty a j) = vp_V ((List.range N).map (mv_fv G (mv_nwO sh a N) (mv_nwM sh M) a (sh.1 + 1))) j := by
        intro j hj
        rw [mv_df ha13 (by rw [hN]; exact hj)]
        unfold vp_V
        rw [List.getD_eq_getElem?_getD, List.getElem?_map, List.getElem?_range hj]
        show _ = mv_fv G (mv_nwO sh a N) (mv_nwM sh M) a (sh.1 + 1) j
        unfold mv_fv
        rw [mv_refO, mv_nwM_0, if_pos rfl]
        rfl
      have hAq : ∀ q, s.heap.size ≤ q → mg_A G q := fun q h => mv_hA hsz h
      refine va_new hx hcb hts hin (mv_ty a) hty hown (hts _ (mv_hw_mem w0)) (hts _ (mv_hw_mem w1)) (hts _ (mv_hw_mem w2)) hK hW.1 hW.2.1 hV hAq hC hfs (by show _ ≤ mt_mc (mv_r mi); omega) (by show _ ≤ mt_ms (mv_r mi); omega) hd (fun q H1 hP1 hD1 hS1 => ?_)
      refine mv_sz (fun hz => ?_)
      have hql : q < H1.size := by
        have h := hP1 sh.1 (q, .inr (a, (List.range N).map (mv_fv G (mv_nwO sh a N) (mv_nwM sh M) a (sh.1 + 1)))) (by
          have hlen : (mv_ws G sh M).length = sh.1 := by unfold mv_ws; rw [List.length_map, List.length_range]
          rw [List.getElem?_append_right (by omega), hlen, Nat.sub_self]
          rfl)
        exact h.lt
      have hq := mv_new_at hD1 hsz hn0.1 hql (by omega)
      subst hq
      have he : mv_ce G (mv_nwO sh a N) (mv_nwM sh M) (sh.1 + 1) = .inr (a, (List.range N).map (mv_fv G (mv_nwO sh a N) (mv_nwM sh M) a (sh.1 + 1))) := by
        rw [mv_ce_o mv_tagO h100, hN]
      have hpush := mv_ws_push (G := G) (sh := sh) (sh' := mv_nwO sh a N) (M := M) (M' := mv_nwM sh M) rfl he (fun j hj => mv_ceO hj)
      rw [hpush] at hP1 hD1
      have K := hn _ _ _ _ hb2 p e s m args below meth cx H1 locs ls C hl hL (List.forall_mem_cons.mpr ⟨trivial, hS⟩) ⟨hP1, hD1, mv_nmO hW.2.2⟩ hS1 (show n0 ≤ sh.1 + 1 ∧ sh.1 + 1 ≤ _ by omega) (show s0 ≤ sh.2.1 + N ∧ sh.2.1 + N ≤ _ by omega)
      rw [List.map_cons, show mv_ct G (.inr (.inr (sh.1 + 1))) = .ref (mg_a G (sh.1 + 1)) from congrArg Value.ref mv_new_ad] at K
      exact W.cs (show sh.1 - n0 + 1 = sh.1 + 1 - n0 by omega) (show sh.2.1 - s0 + N = sh.2.1 + N - s0 by omega) K
    · cases hf
  | _ => cases hf
end MN
end
section
/-! THE SMALL MACHINE: calls, ends, switches; a whole method -/
section MR
variable {G : mv_G} {mi n0 s0 : Nat} {post : Option mv_V → mv_SH → mv_Mem → Prop} {pc a b c : Nat} {v : Int} {ts : List Nat} {L : mv_L} {st : List mv_V} {sh : mv_SH} {M : mv_Mem}
variable {NX : mv_L → List mv_V → mv_SH → mv_Mem → Prop} {JP : Nat → mv_L → List mv_V → mv_SH → mv_Mem → Prop}
theorem mv_pay {w : Jvm.Cond} {args : Array Value} {s : State} (hg : mv_gd w = true) (hw : w.before args s = true) (a' : Array Value) (U : State) (hW : s.WarmedH U.vm) : w.before a' U = true := by
  cases w <;> first | exact word_at hW (good_of_word hg) hw | exact va_Nw.use rfl (va_Nw.warmM hW (va_Nw.of rfl hw))
theorem mv_wl_ok {q : mv_T} {args : Array Value} {s : State} (hts : ∀ w ∈ mv_tbl, w.before args s = true) (hc : Jvm.Cond.code (mt_y q) (mt_cc q) (mt_nL q) (mt_ret q) ∈ mv_tbl) : ∀ w ∈ mv_wl q, ∀ (a' : Array Value) (U : State), s.WarmedH U.vm → w.before a' U = true := by
  intro w hw a' U hW
  have hm : w ∈ mv_tbl := by
    rcases List.mem_cons.mp hw with rfl | h
    · exact hc
    · exact h
  exact mv_pay (List.mem_filter.mp hm).2 (hts w hm) a' U hW
theorem mv_blind {as : List mv_V} : FrameBlind (mv_Pc G as sh M) := by
  intro x U g mk q
  obtain ⟨h1, h2, h3, h4, h5, h6, h7⟩ := q
  exact ⟨h1, h2, h3, va_K.moved (u := U) (U := U.calling g mk x) (Vm.Alike.refl U.vm) h4, va_X.moved (u := U) (U := U.calling g mk x) (Vm.Alike.refl U.vm) h5, h6, h7⟩
theorem mv_pre {p : Program} {s : State} {m : MethodId} {args : Array Value} {meth : Method} {cx : Code} {H : Heap} {locs : List Loc} {as : List mv_V} (C : mv_Cx G mi n0 p s m args meth cx) (hW : mv_Wd G sh M H) (hV : va_S (mg_A G) s.heap H locs) (hn : n0 ≤ sh.1) (hz : H.size ≤ s.heap.size + (sh.1 - n0)) (ha : ∀ x ∈ as, mv_ov x) :
    ∀ U : State, U.heap = H → s.WarmedH U.vm → mv_Pc G as sh M (as.map (mv_ct G)).toArray U := by
  obtain ⟨hx, hcb, hml, hown, hts, hrt, hlk, hnm, hsz, hX, hbo, hK⟩ := C
  intro U hU hWm
  have hlow := mv_low hW hV hsz hn
  have hX2 := va_X.moved hWm.alike (va_X.kept hX (hV.2.1 (mg_b G) hbo.1 hbo.2))
  refine ⟨rfl, fun j => ?_, by rw [hU]; exact hW, va_K.moved hWm.alike hK, by rw [hU]; exact hX2, ⟨?_, hbo.2⟩, ha⟩
  · rw [hU, show sh.1 + 1 + j = n0 + 1 + (sh.1 - n0 + j) by omega, hsz]
    omega
  · rw [hU]
    exact Nat.lt_of_lt_of_le hbo.1 hV.1
/-- behind a call -/
theorem mv_cont {p : Program} {l : Launch} {e : Env} {R : Room} {s : State} {m : MethodId} {args : Array Value} {below : List Frame} {meth : Method} {cx : Code} {H : Heap} {locs : List Loc} {cells slots k1 k2 k n1 s1 : Nat} (hk9 : k < 150) {Q : State → Prop} {ls : Array Slot} {rest st0 : List Value} {Φ : Option mv_V → mv_SH → mv_Mem → Prop} {x : Array Value}
    (hr : va_Run p l e R s m args below meth cx H locs cells slots k1 k2 (F0 m pc ls st0) rest (mv_Po G k n1 s1 Φ x) (mg_A G)) (hS : va_S (mg_A G) s.heap H locs)
    (kk : ∀ (r : Option mv_V) (sh' : mv_SH) (M' : mv_Mem) (H1 : Heap) (locs1 : List Loc), Φ r sh' M' → (∀ z, r = some z → mv_ov z) → sh'.1 = n1 → sh'.2.1 = s1 → mv_Wd G sh' M' H1 → va_S (mg_A G) s.heap H1 locs1 → W p l e R s m args below meth cx H1 locs1 (cells + k1) (slots + k2) Q (F0 m (pc + 3) ls ((r.map (mv_ct G)).toList ++ rest))) :
    W p l e R s m args below meth cx H locs cells slots Q (F0 m pc ls st0) := by
  intro T hT X
  obtain ⟨v, st₀, t, T', L, h0, X', hL, e1, e2, ⟨⟨r, sh', M', hv, hov, hΦ, h12, hW1⟩, hz, hk⟩, st⟩ := hr T hT X
  obtain ⟨h1, h2⟩ : sh'.1 = n1 ∧ sh'.2.1 = s1 := h12.elim (fun z => absurd z (by omega)) id
  cases hv
  rw [h0] at hz hk
  obtain ⟨t2, a1, b1⟩ := kk r sh' M' T'.heap (locs ++ L) hΦ hov h1 h2 (by rw [e1]; exact hW1)
    ⟨Nat.le_trans hS.1 (by rw [e1]; exact hz), fun q h1 h2 => by rw [e1, hk q (Nat.lt_of_lt_of_le h1 hS.1) h2]; exact hS.2.1 q h1 h2, fun q hq => by
      rcases List.mem_append.mp hq with h | h
      · exact hS.2.2 q h
      · exact hL q h⟩ T' rfl X'
  exact ⟨t2, st t2 a1, b1⟩
theorem mv_lk_s {own : String} {idx : Nat} {y : MethodName} (h : mv_lk ts own idx y = true) : Jvm.Cond.methodLink own idx y ∈ mv_tbl ∨ ∃ host, Jvm.Cond.methodLinkNest own idx y host ∈ mv_tbl := by
  unfold mv_lk at h
  rw [Bool.or_eq_true] at h
  rcases h with h | h
  · exact Or.inl (mv_hw_mem h)
  · split at h
    · rename_i o j z host heq
      simp only [Bool.and_eq_true, decide_eq_true_eq] at h
      obtain ⟨rfl, rfl, rfl⟩ := h
      refine Or.inr ⟨host, List.mem_filter.mpr ⟨?_, rfl⟩⟩
      cases ht : ts[0]? with
      | none => rw [ht] at heq; cases heq
      | some i => rw [ht] at heq; exact List.mem_of_getElem? heq
    · cases h
theorem mv_cl_s {r q : mv_T} {n : Nat} (h : mv_cl r q n = true) : ((mt_y q).cls ≠ "java/lang/invoke/MethodHandle" ∧ (mt_y q).cls ≠ "java/lang/invoke/VarHandle") ∧ (∀ sig, parseMethodDescriptor (mt_y q).desc = some sig → n = sig.parameters.length) ∧ mt_fr q + 1 ≤ mt_fr r ∧ 8 + (mt_nL q + 11) + mt_lo q ≤ mt_lo r := by
  unfold mv_cl at h
  simp only [Bool.and_eq_true, decide_eq_true_eq] at h
  obtain ⟨h1, h2, h3, h4, -⟩ := h
  refine ⟨h1, fun sig hs => ?_, Nat.le_of_ble_eq_true h3, Nat.le_of_ble_eq_true h4⟩
  rw [hs] at h2
  exact (Option.some.inj h2).symm
theorem mv_cl_k {r q : mv_T} {n : Nat} (h : mv_cl r q n = true) : mt_mc q < 150 := by
  unfold mv_cl at h
  simp only [Bool.and_eq_true] at h
  exact Nat.le_of_ble_eq_true h.2.2.2.2
theorem mv_tk {x : mv_V} {As : List mv_V} (h : (st.take b).reverse = x :: As) : st = As.reverse ++ x :: st.drop b := by
  have h1 : st.take b = (x :: As).reverse := by rw [← h, List.reverse_reverse]
  have h2 := List.take_append_drop b st
  rw [h1, List.reverse_cons, List.append_assoc] at h2
  exact h2.symm
theorem mv_tk0 : st = ((st.take b).reverse).reverse ++ st.drop b := by rw [List.reverse_reverse, List.take_append_drop]
theorem mv_rl (r : Option mv_V) (rest : List mv_V) : (r.map (mv_ct G)).toList ++ rest.map (mv_ct G) = (r.toList ++ rest).map (mv_ct G) := by cases r <;> rfl
theorem mv_rl_o {r : Option mv_V} {rest : List mv_V} (h : ∀ z, r = some z → mv_ov z) (hr : ∀ x ∈ rest, mv_ov x) : ∀ x ∈ r.toList ++ rest, mv_ov x := by
  intro x hx
  rcases List.mem_append.mp hx with h1 | h1
  · cases r with
    | none => cases h1
    | some z => rw [List.mem_singleton.mp h1]; exact h z rfl
  · exact hr x h1
theorem mv_lenA2 {x : mv_V} {As : List mv_V} (h : (st.take b).reverse = x :: As) (hl : b ≤ st.length) : As.length = b - 1 := by
  have := congrArg List.length h
  rw [List.length_reverse, List.length_take, List.length_cons] at this
  omega
/-- a weaker end -/
theorem mv_mono {as : List mv_V} {Φ Ψ : Option mv_V → mv_SH → mv_Mem → Prop} (h : mv_Wp G a as sh M Φ) (hi : ∀ r sh' M', Φ r sh' M' → Ψ r sh' M') : mv_Wp G a as sh M Ψ := by
  refine ⟨h.1, MetFree.mono h.2 (fun _ _ q => q) (fun _ _ _ _ _ q => q) (fun x st o t _ q => ?_)⟩
  obtain ⟨⟨⟨r, sh', M', e1, e2, e3, e4⟩, e5⟩, e6⟩ := q
  exact ⟨⟨⟨r, sh', M', e1, e2, hi _ _ _ e3, e4⟩, e5⟩, e6⟩
theorem mv_three {as rest : List mv_V} (h : if v = 1 then mv_Wp G a as sh M (mv_qi sh fun x M' => NX L (.inl x :: rest) sh M') else if v = 2 then mv_Wp G a as sh M (mv_ql sh fun x M' => NX L (.inr (.inl x) :: rest) sh M') else mv_Wp G a as sh M (mv_qv sh fun M' => NX L rest sh M')) :
    mv_Wp G a as sh M (fun r sh' M' => NX L (r.toList ++ rest) sh' M') := by
  split at h
  · exact mv_mono h (fun r sh' M' q => by obtain ⟨rfl, x, rfl, q⟩ := q; exact q)
  · split at h
    · exact mv_mono h (fun r sh' M' q => by obtain ⟨rfl, x, rfl, q⟩ := q; exact q)
    · exact mv_mono h (fun r sh' M' q => by obtain ⟨rfl, rfl, q⟩ := q; exact q)
theorem ms_virtual {i : Instr} {ln : Nat} (hd : decode (mt_cc (mv_r mi)) pc = .ok (i, ln)) (hf : mv_fit (mv_r mi) pc ln (.invokevirtual 0) a b c v ts i = true) (hn : mv_RN G mi n0 s0 (pc + ln) post NX)
    (hb : match (st.take b).reverse with
        | .inr (.inr k) :: As => if (1 ≤ k ∧ k ≤ sh.1 ∧ sh.2.2.1 k = c) ∧ mv_stw (st.drop b) ≤ 8 ∧ b ≤ st.length then (if v = 1 then mv_Wp G a (.inr (.inr k) :: As) sh M (mv_qi sh fun x M' => NX L (.inl x :: st.drop b) sh M') else if v = 2 then mv_Wp G a (.inr (.inr k) :: As) sh M (mv_ql sh fun x M' => NX L (.inr (.inl x) :: st.drop b) sh M') else mv_Wp G a (.inr (.inr k) :: As) sh M (mv_qv sh fun M' => NX L (st.drop b) sh M')) else False
        | _ => False) : mv_Run G mi n0 s0 pc L st sh M post := by
  split at hb
  · rename_i k As hst
    obtain ⟨⟨⟨h1, h2, h3⟩, h4, h5⟩, hb⟩ := mv_if_s hb
    obtain ⟨hcode, hM⟩ := mv_three hb
    intro p e s m args below meth cx H locs ls C hl hL hS hW hV hn0 hs0
    obtain ⟨hx, hcb, hml, hown, hts, hrt, hlk, hnm, hsz, hX, hbo, hK⟩ := id C
    have hst2 := mv_tk hst
    have hSa : ∀ x ∈ (.inr (.inr k) :: As : List mv_V), mv_ov x := fun x hx => hS x (by
      rw [hst2]
      rcases List.mem_cons.mp hx with rfl | h
      · exact List.mem_append_right _ List.mem_cons_self
      · exact List.mem_append_left _ (List.mem_reverse.mpr h))
    have hSr : ∀ x ∈ st.drop b, mv_ov x := fun x hx => hS x (List.mem_of_mem_drop hx)
    unfold mv_fit at hf
    dsimp only at hf
    cases i with
    | invokevirtual idx =>
      simp only [Bool.and_eq_true, decide_eq_true_eq] at hf
      obtain ⟨rfl, w0, w1, w2, w3, hcn, ⟨hmc, hms⟩, hb1, hcl⟩ := hf
      have hb1 := Nat.le_of_ble_eq_true hb1
      obtain ⟨hy, hlen, hfr, hlo⟩ := mv_cl_s hcl
      obtain ⟨q, hq, hqc⟩ := Option.map_eq_some_iff.mp hcn
      obtain ⟨C', T, N⟩ := q
      have hqc : C' = (mt_y (mv_r a)).cls := hqc
      obtain ⟨-, -, -, -, h100⟩ := mv_cls hq
      have he := mv_ws_get (G := G) (M := M) h1 h2
      rw [mv_ce_o h3 h100] at he
      rw [hmc, hms] at hM
      refine mv_sz (fun hz => ?_)
      have cw : CallW (mt_rm (mv_r mi)) s args (mt_own (mv_r mi)) (mt_y (mv_r a)).cls idx (mt_y (mv_r a)) (mt_cc (mv_r a)) (mt_nL (mv_r a)) (mt_ret (mv_r a)) (mv_wl (mv_r a)) (mt_rm (mv_r a)) 0 0 (b - 1) :=
        ⟨⟨hmc, hms, hfr, hlo, mv_wl_ok hts hcode, List.mem_cons_self, hts _ hcode, hts _ (mv_hw_mem w3), hy, hlen, hts _ (mv_hw_mem w0)⟩, hts _ (mv_hw_mem w1), hts _ (mv_hw_mem w2)⟩
      have hrecv := va_recv hK hW.1 hq he
      rw [hqc] at hrecv
      refine mv_cont (show 0 < 150 by omega) (va_runV (As := As.map (mv_ct G)) (rest := (st.drop b).map (mv_ct G)) ⟨hx, hcb, hml, hown, hts⟩ hM cw ⟨mv_blind, hrecv, mv_pre C hW hV hn0.1 hz hSa⟩ rfl (by rw [List.length_map]; exact mv_lenA2 hst h5) hl.1 ?_ (lv_room (by rw [mv_stw_e]; exact h4)) hd ⟨by show _ ≤ mt_mc (mv_r mi); omega, by show _ ≤ mt_ms (mv_r mi); omega⟩) hV (fun r sh' M' H1 locs1 hΦ hov g1 g2 hW1 hS1 => ?_)
      · have h := congrArg (List.map (mv_ct G)) hst2
        rw [List.map_append, List.map_reverse, List.map_cons] at h
        exact h
      · have K := hn _ _ _ _ hΦ p e s m args below meth cx H1 locs1 ls C hl hL (mv_rl_o hov hSr) hW1 hS1 (by omega) (by omega)
        rw [mv_rl]
        exact W.cs (by omega) (by omega) K
    | _ => cases hf
  · exact hb.elim
theorem ms_static {i : Instr} {ln : Nat} (hd : decode (mt_cc (mv_r mi)) pc = .ok (i, ln)) (hf : mv_fit (mv_r mi) pc ln (.invokestatic 0) a b c v ts i = true) (hn : mv_RN G mi n0 s0 (pc + ln) post NX) (h9 : c = 1)
    (hb : if mv_stw (st.drop b) ≤ 8 ∧ b ≤ st.length then (if v = 1 then mv_Wp G a (st.take b).reverse sh M (mv_qi sh fun x M' => NX L (.inl x :: st.drop b) sh M') else if v = 2 then mv_Wp G a (st.take b).reverse sh M (mv_ql sh fun x M' => NX L (.inr (.inl x) :: st.drop b) sh M') else mv_Wp G a (st.take b).reverse sh M (mv_qv sh fun M' => NX L (st.drop b) sh M')) else False) : mv_Run G mi n0 s0 pc L st sh M post := by
  obtain ⟨⟨h4, h5⟩, hb⟩ := mv_if_s hb
  obtain ⟨hcode, hM⟩ := mv_three hb
  intro p e s m args below meth cx H locs ls C hl hL hS hW hV hn0 hs0
  obtain ⟨hx, hcb, hml, hown, hts, hrt, hlk, hnm, hsz, hX, hbo, hK⟩ := id C
  have hSa : ∀ x ∈ (st.take b).reverse, mv_ov x := fun x hx => hS x (List.mem_of_mem_take (List.mem_reverse.mp hx))
  have hSr : ∀ x ∈ st.drop b, mv_ov x := fun x hx => hS x (List.mem_of_mem_drop hx)
  unfold mv_fit at hf
  dsimp only at hf
  cases i with
  | invokestatic idx =>
    dsimp only at hf
    rw [if_pos h9] at hf
    simp only [Bool.and_eq_true, decide_eq_true_eq] at hf
    obtain ⟨rfl, w0, w1, w2, ⟨hmc, hms⟩, hcl⟩ := hf
    obtain ⟨hy, hlen, hfr, hlo⟩ := mv_cl_s hcl
    rw [hmc, hms] at hM
    refine mv_sz (fun hz => ?_)
    have hlenA : (((st.take b).reverse).map (mv_ct G)).length = b := by rw [List.length_map, List.length_reverse, List.length_take]; omega
    have hstk : st.map (mv_ct G) = (((st.take b).reverse).map (mv_ct G)).reverse ++ (st.drop b).map (mv_ct G) := by
      rw [← List.map_reverse, ← List.map_append, ← mv_tk0]
    have kk : ∀ (r : Option mv_V) (sh' : mv_SH) (M' : mv_Mem) (H1 : Heap) (locs1 : List Loc), NX L (r.toList ++ st.drop b) sh' M' → (∀ z, r = some z → mv_ov z) → sh'.1 = sh.1 + 0 → sh'.2.1 = sh.2.1 + 0 → mv_Wd G sh' M' H1 → va_S (mg_A G) s.heap H1 locs1 → W p (mg_l G) e (mt_rm (mv_r mi)) s m args below meth cx H1 locs1 (sh.1 - n0 + 0) (sh.2.1 - s0 + 0) (MQ below (mv_Po G (mt_mc (mv_r mi)) (n0 + mt_mc (mv_r mi)) (s0 + mt_ms (mv_r mi)) post) args s (mt_mc (mv_r mi)) (mt_ms (mv_r mi)) (mg_A G)) (F0 m (pc + 3) ls ((r.map (mv_ct G)).toList ++ (st.drop b).map (mv_ct G))) := by
      intro r sh' M' H1 locs1 hΦ hov g1 g2 hW1 hS1
      have K := hn _ _ _ _ hΦ p e s m args below meth cx H1 locs1 ls C hl hL (mv_rl_o hov hSr) hW1 hS1 (by omega) (by omega)
      rw [mv_rl]
      exact W.cs (by omega) (by omega) K
    rcases mv_lk_s w0 with hw | ⟨host, hw⟩
    · have cw : CallB (mt_rm (mv_r mi)) s args (mt_own (mv_r mi)) idx (mt_y (mv_r a)) (mt_cc (mv_r a)) (mt_nL (mv_r a)) (mt_ret (mv_r a)) (mv_wl (mv_r a)) (mt_rm (mv_r a)) 0 0 b ∧ (Cond.static (mt_y (mv_r a))).before args s = true :=
        ⟨⟨hmc, hms, hfr, hlo, mv_wl_ok hts hcode, List.mem_cons_self, hts _ hcode, hts _ (mv_hw_mem w2), hy, hlen, hts _ hw⟩, hts _ (mv_hw_mem w1)⟩
      exact mv_cont (show 0 < 150 by omega) (va_runS (As := ((st.take b).reverse).map (mv_ct G)) (rest := (st.drop b).map (mv_ct G)) ⟨hx, hcb, hml, hown, hts⟩ hM cw ⟨mv_blind, mv_pre C hW hV hn0.1 hz hSa⟩ rfl hlenA hl.1 hstk (lv_room (by rw [mv_stw_e]; exact h4)) hd ⟨by show _ ≤ mt_mc (mv_r mi); omega, by show _ ≤ mt_ms (mv_r mi); omega⟩) hV kk
    · have cw : va_CN (mt_rm (mv_r mi)) s args (mt_own (mv_r mi)) idx (mt_y (mv_r a)) host (mt_cc (mv_r a)) (mt_nL (mv_r a)) (mt_ret (mv_r a)) (mv_wl (mv_r a)) (mt_rm (mv_r a)) 0 0 b ∧ (Cond.static (mt_y (mv_r a))).before args s = true ∧ True :=
        ⟨⟨⟨hmc, hms, hfr, hlo, mv_wl_ok hts hcode, List.mem_cons_self⟩, hts _ hcode, hts _ (mv_hw_mem w2), hy, hlen, hts _ hw⟩, hts _ (mv_hw_mem w1), trivial⟩
      exact mv_cont (show 0 < 150 by omega) (va_runSN (As := ((st.take b).reverse).map (mv_ct G)) (rest := (st.drop b).map (mv_ct G)) ⟨hx, hcb, hml, hown, hts⟩ hM cw ⟨mv_blind, mv_pre C hW hV hn0.1 hz hSa⟩ rfl hlenA hl.1 hstk (lv_room (by rw [mv_stw_e]; exact h4)) hd ⟨by show _ ≤ mt_mc (mv_r mi); omega, by show _ ≤ mt_ms (mv_r mi); omega⟩) hV kk
  | _ => cases hf
theorem ms_special {i : Instr} {ln : Nat} (hd : decode (mt_cc (mv_r mi)) pc = .ok (i, ln)) (hf : mv_fit (mv_r mi) pc ln (.invokespecial 0) a b c v ts i = true) (hn : mv_RN G mi n0 s0 (pc + ln) post NX) (h9 : ¬ c = 1)
    (hb : match (st.take b).reverse with
        | .inr (.inr k) :: As => if mv_stw (st.drop b) ≤ 8 ∧ b ≤ st.length ∧ sh.1 + (c - 2) ≤ n0 + mt_mc (mv_r mi) ∧ sh.2.1 + v.toNat ≤ s0 + mt_ms (mv_r mi) then mv_Wp G a (.inr (.inr k) :: As) sh M (fun r sh' M' => NX L (r.toList ++ st.drop b) sh' M') else False
        | _ => False) : mv_Run G mi n0 s0 pc L st sh M post := by
  split at hb
  · rename_i k As hst
    obtain ⟨⟨h4, h5, h6, h7⟩, hcode, hM⟩ := mv_if_s hb
    intro p e s m args below meth cx H locs ls C hl hL hS hW hV hn0 hs0
    obtain ⟨hx, hcb, hml, hown, hts, hrt, hlk, hnm, hsz, hX, hbo, hK⟩ := id C
    have hst2 := mv_tk hst
    have hSa : ∀ x ∈ (.inr (.inr k) :: As : List mv_V), mv_ov x := fun x hx => hS x (by
      rw [hst2]
      rcases List.mem_cons.mp hx with rfl | h
      · exact List.mem_append_right _ List.mem_cons_self
      · exact List.mem_append_left _ (List.mem_reverse.mpr h))
    have hSr : ∀ x ∈ st.drop b, mv_ov x := fun x hx => hS x (List.mem_of_mem_drop hx)
    unfold mv_fit at hf
    dsimp only at hf
    cases i with
    | invokespecial idx =>
      dsimp only at hf
      rw [if_neg h9] at hf
      simp only [Bool.and_eq_true, decide_eq_true_eq] at hf
      obtain ⟨rfl, w0, w1, w2, hin, hret, hc2, hv2, hb1, hcl⟩ := hf
      have hb1 := Nat.le_of_ble_eq_true hb1
      obtain ⟨hy, hlen, hfr, hlo⟩ := mv_cl_s hcl
      subst hc2
      subst hv2
      have h6 : sh.1 + mt_mc (mv_r a) ≤ n0 + mt_mc (mv_r mi) := by omega
      have h7 : sh.2.1 + mt_ms (mv_r a) ≤ s0 + mt_ms (mv_r mi) := by omega
      refine mv_sz (fun hz => ?_)
      have hlenA : (As.map (mv_ct G)).length = b - 1 := by rw [List.length_map]; exact mv_lenA2 hst h5
      have hstk : st.map (mv_ct G) = (As.map (mv_ct G)).reverse ++ .ref (mv_ad G k) :: (st.drop b).map (mv_ct G) := by
        have h := congrArg (List.map (mv_ct G)) hst2
        rw [List.map_append, List.map_reverse, List.map_cons] at h
        exact h
      have kk : ∀ (r : Option mv_V) (sh' : mv_SH) (M' : mv_Mem) (H1 : Heap) (locs1 : List Loc), NX L (r.toList ++ st.drop b) sh' M' → (∀ z, r = some z → mv_ov z) → sh'.1 = sh.1 + mt_mc (mv_r a) → sh'.2.1 = sh.2.1 + mt_ms (mv_r a) → mv_Wd G sh' M' H1 → va_S (mg_A G) s.heap H1 locs1 → W p (mg_l G) e (mt_rm (mv_r mi)) s m args below meth cx H1 locs1 (sh.1 - n0 + mt_mc (mv_r a)) (sh.2.1 - s0 + mt_ms (mv_r a)) (MQ below (mv_Po G (mt_mc (mv_r mi)) (n0 + mt_mc (mv_r mi)) (s0 + mt_ms (mv_r mi)) post) args s (mt_mc (mv_r mi)) (mt_ms (mv_r mi)) (mg_A G)) (F0 m (pc + 3) ls ((r.map (mv_ct G)).toList ++ (st.drop b).map (mv_ct G))) := by
        intro r sh' M' H1 locs1 hΦ hov g1 g2 hW1 hS1
        have K := hn _ _ _ _ hΦ p e s m args below meth cx H1 locs1 ls C hl hL (mv_rl_o hov hSr) hW1 hS1 (by omega) (by omega)
        rw [mv_rl]
        exact W.cs (by omega) (by omega) K
      rw [hret] at hcode
      have hwl : mv_wl (mv_r a) = Cond.code (mt_y (mv_r a)) (mt_cc (mv_r a)) (mt_nL (mv_r a)) none :: mv_tbl := by unfold mv_wl; rw [hret]
      have hwok : ∀ w ∈ mv_wl (mv_r a), ∀ (a' : Array Value) (U : State), s.WarmedH U.vm → w.before a' U = true := mv_wl_ok hts (by rw [hret]; exact hcode)
      rcases mv_lk_s w0 with hw | ⟨host, hw⟩
      · have cw : CallB (mt_rm (mv_r mi)) s args (mt_own (mv_r mi)) idx (mt_y (mv_r a)) (mt_cc (mv_r a)) (mt_nL (mv_r a)) none (mv_wl (mv_r a)) (mt_rm (mv_r a)) (mt_mc (mv_r a)) (mt_ms (mv_r a)) (b - 1) ∧ (mt_y (mv_r a)).name = "<init>" ∧ (Cond.instanceMethod (mt_y (mv_r a))).before args s = true :=
          ⟨⟨rfl, rfl, hfr, hlo, hwok, by rw [hwl]; exact List.mem_cons_self, hts _ hcode, hts _ (mv_hw_mem w2), hy, hlen, hts _ hw⟩, hin, hts _ (mv_hw_mem w1)⟩
        exact mv_cont (mv_cl_k hcl) (va_runI (As := As.map (mv_ct G)) (rest := (st.drop b).map (mv_ct G)) ⟨hx, hcb, hml, hown, hts⟩ hM cw ⟨mv_blind, mv_pre C hW hV hn0.1 hz hSa⟩ rfl hlenA hl.1 hstk (lv_room (by rw [mv_stw_e]; exact h4)) hd ⟨by show _ ≤ mt_mc (mv_r mi); omega, by show _ ≤ mt_ms (mv_r mi); omega⟩) hV kk
      · have cw : va_CN (mt_rm (mv_r mi)) s args (mt_own (mv_r mi)) idx (mt_y (mv_r a)) host (mt_cc (mv_r a)) (mt_nL (mv_r a)) none (mv_wl (mv_r a)) (mt_rm (mv_r a)) (mt_mc (mv_r a)) (mt_ms (mv_r a)) (b - 1) ∧ (mt_y (mv_r a)).name = "<init>" ∧ (Cond.instanceMethod (mt_y (mv_r a))).before args s = true :=
          ⟨⟨⟨rfl, rfl, hfr, hlo, hwok, by rw [hwl]; exact List.mem_cons_self⟩, hts _ hcode, hts _ (mv_hw_mem w2), hy, hlen, hts _ hw⟩, hin, hts _ (mv_hw_mem w1)⟩
        exact mv_cont (mv_cl_k hcl) (va_runIN (As := As.map (mv_ct G)) (rest := (st.drop b).map (mv_ct G)) ⟨hx, hcb, hml, hown, hts⟩ hM cw ⟨mv_blind, mv_pre C hW hV hn0.1 hz hSa⟩ rfl hlenA hl.1 hstk (lv_room (by rw [mv_stw_e]; exact h4)) hd ⟨by show _ ≤ mt_mc (mv_r mi); omega, by show _ ≤ mt_ms (mv_r mi); omega⟩) hV kk
    | _ => cases hf
  · exact hb.elim
theorem ms_objInit {i : Instr} {ln : Nat} (hd : decode (mt_cc (mv_r mi)) pc = .ok (i, ln)) (hf : mv_fit (mv_r mi) pc ln (.invokespecial 0) a b c v ts i = true) (hn : mv_RN G mi n0 s0 (pc + ln) post NX) (h9 : c = 1)
    (hb : mv_pr st fun _ r => if mv_stw r ≤ 8 then NX L r sh M else False) : mv_Run G mi n0 s0 pc L st sh M post := by
  obtain ⟨k, r, rfl, hb1⟩ := mv_pr_s hb
  obtain ⟨h4, hb2⟩ := mv_if_s hb1
  intro p e s m args below meth cx H locs ls C hl hL hS hW hV hn0 hs0
  obtain ⟨hx, hcb, hml, hown, hts, hrt, hlk, hnm, hsz, hX, hbo, hK⟩ := id C
  have hS2 := List.forall_mem_cons.mp hS
  unfold mv_fit at hf
  dsimp only at hf
  cases i with
  | invokespecial idx =>
    dsimp only at hf
    rw [if_pos h9] at hf
    simp only [Bool.and_eq_true, decide_eq_true_eq] at hf
    obtain ⟨rfl, w0, w1, w2, hfr, hlo⟩ := hf
    have hfr := Nat.le_of_ble_eq_true hfr
    have hlo := Nat.le_of_ble_eq_true hlo
    have K := hn _ _ _ _ hb2 p e s m args below meth cx H locs ls C hl hL hS2.2 hW hV hn0 hs0
    refine W.objInit (rest := r.map (mv_ct G)) hx hcb hown (hts _ (mv_hw_mem w0)) (hts _ (mv_hw_mem w1)) (hts _ (mv_hw_mem w2)) rfl (by rw [hml]; exact hl.1) rfl hd hfr ?_ K
    rw [mv_stw_e]
    show 2 * 0 + mv_stw r + 12 ≤ mt_lo (mv_r mi)
    omega
  | _ => cases hf
theorem ms_ireturn {i : Instr} {ln : Nat} (hd : decode (mt_cc (mv_r mi)) pc = .ok (i, ln)) (hf : mv_fit (mv_r mi) pc ln .ireturn a b c v ts i = true)
    (hb : match st with
      | [.inl x] => if 150 ≤ mt_mc (mv_r mi) ∨ (sh.1 = n0 + mt_mc (mv_r mi) ∧ sh.2.1 = s0 + mt_ms (mv_r mi)) then (if a = 1 then (x = 0 ∨ x = 1) ∧ post (some (.inl x)) sh M else post (some (.inl x)) sh M) else False
      | _ => False) : mv_Run G mi n0 s0 pc L st sh M post := by
  split at hb
  · rename_i x
    obtain ⟨h12, hb⟩ := mv_if_s hb
    intro p e s m args below meth cx H locs ls C hl hL hS hW hV hn0 hs0
    obtain ⟨hx, hcb, hml, hown, hts, hrt, hlk, hnm, hsz, hX, hbo, hK⟩ := id C
    have h : (decide (ln = 1) && (decide (i = .ireturn) && (if a = 1 then decide (mt_ret (mv_r mi) = some .boolean) else decide (mt_ret (mv_r mi) = some .int)))) = true := hf
    rw [Bool.and_eq_true, Bool.and_eq_true, decide_eq_true_eq, decide_eq_true_eq] at h
    obtain ⟨rfl, rfl, h⟩ := h
    refine W.widen (show sh.1 - n0 ≤ mt_mc (mv_r mi) by omega) (show sh.2.1 - s0 ≤ mt_ms (mv_r mi) by omega) ?_
    by_cases h9 : a = 1
    · rw [if_pos h9] at hb h
      have hret := hrt.trans (of_decide_eq_true h)
      exact W.zret (v := Int32.ofInt x) hx hcb hret (by rcases hb.1 with rfl | rfl <;> decide) (fun t ht _ => ⟨⟨some (.inl x), sh, M, rfl, fun z hz => by cases hz; exact hS _ List.mem_cons_self, hb.2, h12, by rw [ht]; exact hW⟩, hV.F ht⟩) hV.2.2 hd hlk
    · rw [if_neg h9] at hb h
      have hret := hrt.trans (of_decide_eq_true h)
      exact W.iret (v := Int32.ofInt x) hx hcb hret (fun t ht _ => ⟨⟨some (.inl x), sh, M, rfl, fun z hz => by cases hz; exact hS _ List.mem_cons_self, hb, h12, by rw [ht]; exact hW⟩, hV.F ht⟩) hV.2.2 hd hlk
  · exact hb.elim
theorem ms_lreturn {i : Instr} {ln : Nat} (hd : decode (mt_cc (mv_r mi)) pc = .ok (i, ln)) (hf : mv_fit (mv_r mi) pc ln .lreturn a b c v ts i = true)
    (hb : match st with
      | [.inr (.inl x)] => if sh.1 = n0 + mt_mc (mv_r mi) ∧ sh.2.1 = s0 + mt_ms (mv_r mi) then post (some (.inr (.inl x))) sh M else False
      | _ => False) : mv_Run G mi n0 s0 pc L st sh M post := by
  split at hb
  · rename_i x
    obtain ⟨⟨h1, h2⟩, hb⟩ := mv_if_s hb
    intro p e s m args below meth cx H locs ls C hl hL hS hW hV hn0 hs0
    obtain ⟨hx, hcb, hml, hown, hts, hrt, hlk, hnm, hsz, hX, hbo, hK⟩ := id C
    have h : (decide (ln = 1) && (decide (i = .lreturn) && decide (mt_ret (mv_r mi) = some .long))) = true := hf
    simp only [Bool.and_eq_true, decide_eq_true_eq] at h
    obtain ⟨rfl, rfl, h⟩ := h
    rw [show sh.1 - n0 = mt_mc (mv_r mi) by omega, show sh.2.1 - s0 = mt_ms (mv_r mi) by omega]
    exact W.lret (v := Int64.ofInt x) hx hcb (hrt.trans h) (fun t ht _ => ⟨⟨some (.inr (.inl x)), sh, M, rfl, fun z hz => by cases hz; exact hS _ List.mem_cons_self, hb, Or.inr ⟨h1, h2⟩, by rw [ht]; exact hW⟩, hV.F ht⟩) hV.2.2 hd hlk
  · exact hb.elim
theorem ms_return {i : Instr} {ln : Nat} (hd : decode (mt_cc (mv_r mi)) pc = .ok (i, ln)) (hf : mv_fit (mv_r mi) pc ln .return_ a b c v ts i = true)
    (hb : match st with
      | [] => if sh.1 = n0 + mt_mc (mv_r mi) ∧ sh.2.1 = s0 + mt_ms (mv_r mi) then post none sh M else False
      | _ => False) : mv_Run G mi n0 s0 pc L st sh M post := by
  split at hb
  · obtain ⟨⟨h1, h2⟩, hb⟩ := mv_if_s hb
    intro p e s m args below meth cx H locs ls C hl hL hS hW hV hn0 hs0
    obtain ⟨hx, hcb, hml, hown, hts, hrt, hlk, hnm, hsz, hX, hbo, hK⟩ := id C
    have h : (decide (ln = 1) && (decide (i = .return_) && decide (mt_ret (mv_r mi) = none))) = true := hf
    simp only [Bool.and_eq_true, decide_eq_true_eq] at h
    obtain ⟨rfl, rfl, h⟩ := h
    rw [show sh.1 - n0 = mt_mc (mv_r mi) by omega, show sh.2.1 - s0 = mt_ms (mv_r mi) by omega]
    exact W.vret hx hcb (hrt.trans h) (fun t ht _ => ⟨⟨none, sh, M, rfl, fun z hz => (by cases hz), hb, Or.inr ⟨h1, h2⟩, by rw [ht]; exact hW⟩, hV.F ht⟩) hV.2.2 hd hlk
  · exact hb.elim
theorem mv_sw_s {jump : Nat → Prop} {x : Int} {d : Nat} : ∀ {ts : List Nat} {lo : Int}, mv_sw jump x d lo ts → (∃ (j t : Nat), ts[j]? = some t ∧ x = lo + (j : Int) ∧ jump t) ∨ ((x < lo ∨ lo + (ts.length : Int) ≤ x) ∧ jump d)
  | [], lo, h => Or.inr ⟨by rw [List.length_nil]; omega, h⟩
  | t :: ts, lo, h => by
    unfold mv_sw at h
    split at h
    · exact Or.inl ⟨0, t, rfl, by omega, h⟩
    · rename_i hx
      rcases mv_sw_s h with ⟨j, t', h1, h2, h3⟩ | ⟨h1, h2⟩
      · exact Or.inl ⟨j + 1, t', by rw [List.getElem?_cons_succ]; exact h1, by omega, h3⟩
      · exact Or.inr ⟨by rw [List.length_cons]; omega, h2⟩
theorem ms_switch {i : Instr} {ln : Nat} (hd : decode (mt_cc (mv_r mi)) pc = .ok (i, ln)) (hf : mv_fit (mv_r mi) pc ln (.tableswitch 0 0 0 #[]) a b c v ts i = true) (hj : ∀ t, mv_RN G mi n0 s0 t post (JP t))
    (hb : mv_pi st fun x r => mv_sw (fun t => JP t L r sh M) x a v ts) : mv_Run G mi n0 s0 pc L st sh M post := by
  obtain ⟨x, r, rfl, hb1⟩ := mv_pi_s hb
  intro p e s m args below meth cx H locs ls C hl hL hS hW hV hn0 hs0
  obtain ⟨hx, hcb, hml, hown, hts, hrt, hlk, hnm, hsz, hX, hbo, hK⟩ := id C
  have hS2 := List.forall_mem_cons.mp hS
  have hxr : mv_R32 x := hS2.1
  unfold mv_fit at hf
  dsimp only at hf
  rw [Bool.and_eq_true] at hf
  obtain ⟨-, hf⟩ := hf
  cases i with
  | tableswitch d lo hi offs =>
    simp only [Bool.and_eq_true, decide_eq_true_eq] at hf
    obtain ⟨h1, rfl, h2, h3⟩ := hf
    rcases mv_sw_s hb1 with ⟨j, t, g1, g2, g3⟩ | ⟨g1, g2⟩
    · have hjl : j < ts.length := (List.getElem?_eq_some_iff.mp g1).1
      have ho : offs[((Int32.ofInt x).toInt - lo).toNat]? = some ((t : Int) - (pc : Int)) := by
        rw [mv_i32 hxr, ← Array.getElem?_toList, h3, List.getElem?_map, show (x - lo).toNat = j by omega, g1]
        rfl
      exact lv_tableIn hx hcb hd (by rw [mv_i32 hxr]; omega) (by rw [mv_i32 hxr]; omega) ho (by omega) (hj t _ _ _ _ g3 p e s m args below meth cx H locs ls C hl hL hS2.2 hW hV hn0 hs0)
    · exact lv_tableOut hx hcb hd (by rw [mv_i32 hxr]; omega) h1 (hj a _ _ _ _ g2 p e s m args below meth cx H locs ls C hl hL hS2.2 hW hV hn0 hs0)
  | _ => cases hf
end MR
end
section
/-! THE SMALL MACHINE: any instruction; a stretch of code; a method -/
section MB
variable {G : mv_G} {mi n0 s0 : Nat} {post : Option mv_V → mv_SH → mv_Mem → Prop} {pc a b c : Nat} {v : Int} {ts : List Nat} {L : mv_L} {st : List mv_V} {sh : mv_SH} {M : mv_Mem}
variable {NX : mv_L → List mv_V → mv_SH → mv_Mem → Prop} {JP : Nat → mv_L → List mv_V → mv_SH → mv_Mem → Prop}
set_option maxHeartbeats 4000000 in
theorem mv_body_ok {i ni : Instr} {ln : Nat} (hd : decode (mt_cc (mv_r mi)) pc = .ok (i, ln)) (hf : mv_fit (mv_r mi) pc ln ni a b c v ts i = true) (hn : mv_RN G mi n0 s0 (pc + ln) post NX) (hj : ∀ t, mv_RN G mi n0 s0 t post (JP t))
    (hb : mv_body (mv_Wp G) NX JP post n0 s0 (mt_mc (mv_r mi)) (mt_ms (mv_r mi)) ni a b c v ts L st sh M) : mv_Run G mi n0 s0 pc L st sh M post := by
  cases ni with
  | iadd =>
    have h : (decide (ln = 1) && decide (i = Instr.iadd)) = true := hf
    simp only [Bool.and_eq_true, decide_eq_true_eq] at h
    obtain ⟨rfl, rfl⟩ := h
    exact ms_iadd hd hn hb
  | isub =>
    have h : (decide (ln = 1) && decide (i = Instr.isub)) = true := hf
    simp only [Bool.and_eq_true, decide_eq_true_eq] at h
    obtain ⟨rfl, rfl⟩ := h
    exact ms_isub hd hn hb
  | imul =>
    have h : (decide (ln = 1) && decide (i = Instr.imul)) = true := hf
    simp only [Bool.and_eq_true, decide_eq_true_eq] at h
    obtain ⟨rfl, rfl⟩ := h
    exact ms_imul hd hn hb
  | idiv =>
    have h : (decide (ln = 1) && decide (i = Instr.idiv)) = true := hf
    simp only [Bool.and_eq_true, decide_eq_true_eq] at h
    obtain ⟨rfl, rfl⟩ := h
    exact ms_idiv hd hn hb
  | irem =>
    have h : (decide (ln = 1) && decide (i = Instr.irem)) = true := hf
    simp only [Bool.and_eq_true, decide_eq_true_eq] at h
    obtain ⟨rfl, rfl⟩ := h
    exact ms_irem hd hn hb
  | ineg =>
    have h : (decide (ln = 1) && decide (i = Instr.ineg)) = true := hf
    simp only [Bool.and_eq_true, decide_eq_true_eq] at h
    obtain ⟨rfl, rfl⟩ := h
    exact ms_ineg hd hn hb
  | iand =>
    have h : (decide (ln = 1) && decide (i = Instr.iand)) = true := hf
    simp only [Bool.and_eq_true, decide_eq_true_eq] at h
    obtain ⟨rfl, rfl⟩ := h
    exact ms_iand hd hn hb
  | ixor =>
    have h : (decide (ln = 1) && decide (i = Instr.ixor)) = true := hf
    simp only [Bool.and_eq_true, decide_eq_true_eq] at h
    obtain ⟨rfl, rfl⟩ := h
    exact ms_ixor hd hn hb
  | ishl =>
    have h : (decide (ln = 1) && decide (i = Instr.ishl)) = true := hf
    simp only [Bool.and_eq_true, decide_eq_true_eq] at h
    obtain ⟨rfl, rfl⟩ := h
    exact ms_ishl hd hn hb
  | ishr =>
    have h : (decide (ln = 1) && decide (i = Instr.ishr)) = true := hf
    simp only [Bool.and_eq_true, decide_eq_true_eq] at h
    obtain ⟨rfl, rfl⟩ := h
    exact ms_ishr hd hn hb
  | ladd =>
    have h : (decide (ln = 1) && decide (i = Instr.ladd)) = true := hf
    simp only [Bool.and_eq_true, decide_eq_true_eq] at h
    obtain ⟨rfl, rfl⟩ := h
    exact ms_ladd hd hn hb
  | lsub =>
    have h : (decide (ln = 1) && decide (i = Instr.lsub)) = true := hf
    simp only [Bool.and_eq_true, decide_eq_true_eq] at h
    obtain ⟨rfl, rfl⟩ := h
    exact ms_lsub hd hn hb
  | lmul =>
    have h : (decide (ln = 1) && decide (i = Instr.lmul)) = true := hf
    simp only [Bool.and_eq_true, decide_eq_true_eq] at h
    obtain ⟨rfl, rfl⟩ := h
    exact ms_lmul hd hn hb
  | ldiv =>
    have h : (decide (ln = 1) && decide (i = Instr.ldiv)) = true := hf
    simp only [Bool.and_eq_true, decide_eq_true_eq] at h
    obtain ⟨rfl, rfl⟩ := h
    exact ms_ldiv hd hn hb
  | lrem =>
    have h : (decide (ln = 1) && decide (i = Instr.lrem)) = true := hf
    simp only [Bool.and_eq_true, decide_eq_true_eq] at h
    obtain ⟨rfl, rfl⟩ := h
    exact ms_lrem hd hn hb
  | lneg =>
    have h : (decide (ln = 1) && decide (i = Instr.lneg)) = true := hf
    simp only [Bool.and_eq_true, decide_eq_true_eq] at h
    obtain ⟨rfl, rfl⟩ := h
    exact ms_lneg hd hn hb
  | land =>
    have h : (decide (ln = 1) && decide (i = Instr.land)) = true := hf
    simp only [Bool.and_eq_true, decide_eq_true_eq] at h
    obtain ⟨rfl, rfl⟩ := h
    exact ms_land hd hn hb
  | lor =>
    have h : (decide (ln = 1) && decide (i = Instr.lor)) = true := hf
    simp only [Bool.and_eq_true, decide_eq_true_eq] at h
    obtain ⟨rfl, rfl⟩ := h
    exact ms_lor hd hn hb
  | lxor =>
    have h : (decide (ln = 1) && decide (i = Instr.lxor)) = true := hf
    simp only [Bool.and_eq_true, decide_eq_true_eq] at h
    obtain ⟨rfl, rfl⟩ := h
    exact ms_lxor hd hn hb
  | lshl =>
    have h : (decide (ln = 1) && decide (i = Instr.lshl)) = true := hf
    simp only [Bool.and_eq_true, decide_eq_true_eq] at h
    obtain ⟨rfl, rfl⟩ := h
    exact ms_lshl hd hn hb
  | lshr =>
    have h : (decide (ln = 1) && decide (i = Instr.lshr)) = true := hf
    simp only [Bool.and_eq_true, decide_eq_true_eq] at h
    obtain ⟨rfl, rfl⟩ := h
    exact ms_lshr hd hn hb
  | lushr =>
    have h : (decide (ln = 1) && decide (i = Instr.lushr)) = true := hf
    simp only [Bool.and_eq_true, decide_eq_true_eq] at h
    obtain ⟨rfl, rfl⟩ := h
    exact ms_lushr hd hn hb
  | i2l =>
    have h : (decide (ln = 1) && decide (i = Instr.i2l)) = true := hf
    simp only [Bool.and_eq_true, decide_eq_true_eq] at h
    obtain ⟨rfl, rfl⟩ := h
    exact ms_i2l hd hn hb
  | l2i =>
    have h : (decide (ln = 1) && decide (i = Instr.l2i)) = true := hf
    simp only [Bool.and_eq_true, decide_eq_true_eq] at h
    obtain ⟨rfl, rfl⟩ := h
    exact ms_l2i hd hn hb
  | lcmp =>
    have h : (decide (ln = 1) && decide (i = Instr.lcmp)) = true := hf
    simp only [Bool.and_eq_true, decide_eq_true_eq] at h
    obtain ⟨rfl, rfl⟩ := h
    exact ms_lcmp hd hn hb
  | dup =>
    have h : (decide (ln = 1) && decide (i = Instr.dup)) = true := hf
    simp only [Bool.and_eq_true, decide_eq_true_eq] at h
    obtain ⟨rfl, rfl⟩ := h
    exact ms_dup hd hn hb
  | dup2 =>
    have h : (decide (ln = 1) && decide (i = Instr.dup2)) = true := hf
    simp only [Bool.and_eq_true, decide_eq_true_eq] at h
    obtain ⟨rfl, rfl⟩ := h
    exact ms_dup2 hd hn hb
  | pop =>
    have h : (decide (ln = 1) && decide (i = Instr.pop)) = true := hf
    simp only [Bool.and_eq_true, decide_eq_true_eq] at h
    obtain ⟨rfl, rfl⟩ := h
    exact ms_pop hd hn hb
  | iaload =>
    have h : (decide (ln = 1) && decide (i = Instr.iaload)) = true := hf
    simp only [Bool.and_eq_true, decide_eq_true_eq] at h
    obtain ⟨rfl, rfl⟩ := h
    exact ms_iaload hd hn hb
  | laload =>
    have h : (decide (ln = 1) && decide (i = Instr.laload)) = true := hf
    simp only [Bool.and_eq_true, decide_eq_true_eq] at h
    obtain ⟨rfl, rfl⟩ := h
    exact ms_laload hd hn hb
  | baload =>
    have h : (decide (ln = 1) && decide (i = Instr.baload)) = true := hf
    simp only [Bool.and_eq_true, decide_eq_true_eq] at h
    obtain ⟨rfl, rfl⟩ := h
    exact ms_baload hd hn hb
  | iastore =>
    have h : (decide (ln = 1) && decide (i = Instr.iastore)) = true := hf
    simp only [Bool.and_eq_true, decide_eq_true_eq] at h
    obtain ⟨rfl, rfl⟩ := h
    exact ms_iastore hd hn hb
  | lastore =>
    have h : (decide (ln = 1) && decide (i = Instr.lastore)) = true := hf
    simp only [Bool.and_eq_true, decide_eq_true_eq] at h
    obtain ⟨rfl, rfl⟩ := h
    exact ms_lastore hd hn hb
  | bastore =>
    have h : (decide (ln = 1) && decide (i = Instr.bastore)) = true := hf
    simp only [Bool.and_eq_true, decide_eq_true_eq] at h
    obtain ⟨rfl, rfl⟩ := h
    exact ms_bastore hd hn hb
  | arraylength =>
    have h : (decide (ln = 1) && decide (i = Instr.arraylength)) = true := hf
    simp only [Bool.and_eq_true, decide_eq_true_eq] at h
    obtain ⟨rfl, rfl⟩ := h
    exact ms_arraylength hd hn hb
  | iconst n => exact ms_iconst (a := a) (b := b) (c := c) (v := v) (ts := ts) hd hf hn hb
  | lconst n => exact ms_lconst (a := a) (b := b) (c := c) (v := v) (ts := ts) hd hf hn hb
  | iload n => exact ms_iload (a := a) (b := b) (c := c) (v := v) (ts := ts) hd hf hn hb
  | lload n => exact ms_lload (a := a) (b := b) (c := c) (v := v) (ts := ts) hd hf hn hb
  | aload n => exact ms_aload (a := a) (b := b) (c := c) (v := v) (ts := ts) hd hf hn hb
  | istore n => exact ms_istore (a := a) (b := b) (c := c) (v := v) (ts := ts) hd hf hn hb
  | lstore n => exact ms_lstore (a := a) (b := b) (c := c) (v := v) (ts := ts) hd hf hn hb
  | astore n => exact ms_astore (a := a) (b := b) (c := c) (v := v) (ts := ts) hd hf hn hb
  | iinc n k => exact ms_iinc (a := a) (b := b) (c := c) (v := v) (ts := ts) hd hf hn hb
  | goto n => exact ms_goto (a := a) (b := b) (c := c) (v := v) (ts := ts) hd hf (hj a) hb
  | ifCond k n => exact ms_if (JP := JP) (a := a) (b := b) (c := c) (v := v) (ts := ts) hd hf hn (hj a) hb
  | if_icmp k n => exact ms_icmp (JP := JP) (a := a) (b := b) (c := c) (v := v) (ts := ts) hd hf hn (hj a) hb
  | tableswitch d lo hi offs => exact ms_switch (a := a) (b := b) (c := c) (v := v) (ts := ts) hd hf hj hb
  | getfield n => exact ms_getfield (a := a) (b := b) (c := c) (v := v) (ts := ts) hd hf hn hb
  | putfield n => exact ms_putfield (a := a) (b := b) (c := c) (v := v) (ts := ts) hd hf hn hb
  | newarray ty =>
    cases ty with
    | int => exact ms_newarray_int (a := a) (b := b) (c := c) (v := v) (ts := ts) hd hf hn hb
    | long => exact ms_newarray_long (a := a) (b := b) (c := c) (v := v) (ts := ts) hd hf hn hb
    | boolean => exact ms_newarray_boolean (a := a) (b := b) (c := c) (v := v) (ts := ts) hd hf hn hb
    | _ =>
      exfalso
      unfold mv_fit at hf
      dsimp only at hf
      cases i with
      | newarray ty' =>
        simp only [Bool.and_eq_true, decide_eq_true_eq] at hf
        obtain ⟨-, -, -, h1, h2⟩ := hf
        have h3 := Nat.le_of_ble_eq_true h2
        have h4 : a = 0 := h1
        omega
      | _ => cases hf
  | new n => exact ms_new (a := a) (b := b) (c := c) (v := v) (ts := ts) hd hf hn hb
  | invokespecial n =>
    by_cases h9 : c = 1
    · have hb' : (if c = 1 then _ else _) := hb
      rw [if_pos h9] at hb'
      exact ms_objInit (a := a) (b := b) (c := c) (v := v) (ts := ts) hd hf hn h9 hb'
    · have hb' : (if c = 1 then _ else _) := hb
      rw [if_neg h9] at hb'
      exact ms_special (a := a) (b := b) (c := c) (v := v) (ts := ts) hd hf hn h9 hb'
  | invokevirtual n => exact ms_virtual (a := a) (b := b) (c := c) (v := v) (ts := ts) hd hf hn hb
  | invokestatic n =>
    by_cases h9 : c = 1
    · have hb' : (if c = 1 then _ else _) := hb
      rw [if_pos h9] at hb'
      exact ms_static (a := a) (b := b) (c := c) (v := v) (ts := ts) hd hf hn h9 hb'
    · have hb' : (if c = 1 then _ else _) := hb
      rw [if_neg h9] at hb'
      exact ms_copy (a := a) (b := b) (c := c) (v := v) (ts := ts) hd hf hn h9 hb'
  | ireturn => exact ms_ireturn (a := a) (b := b) (c := c) (v := v) (ts := ts) hd hf hb
  | lreturn => exact ms_lreturn (a := a) (b := b) (c := c) (v := v) (ts := ts) hd hf hb
  | return_ => exact ms_return (a := a) (b := b) (c := c) (v := v) (ts := ts) hd hf hb
  | _ => exact hb.elim
def mv_sx (mi : Nat) (s : List mv_E) : Prop := (∀ e ∈ s, mv_okE (mv_r mi) e = true) ∧ mv_ch s = true
theorem mv_okM_s (h : mv_okM mi = true) : mv_sx mi (mt_code (mv_r mi)) := by
  unfold mv_okM at h
  rw [Bool.and_eq_true] at h
  exact ⟨fun e he => List.all_eq_true.mp h.1 e he, h.2⟩
theorem mv_sx_tl {e : mv_E} {r : List mv_E} (h : mv_sx mi (e :: r)) : mv_sx mi r := by
  refine ⟨fun x hx => h.1 x (List.mem_cons_of_mem _ hx), ?_⟩
  have h2 := h.2
  cases r with
  | nil => rfl
  | cons e' r' =>
    unfold mv_ch at h2
    rw [Bool.and_eq_true] at h2
    exact h2.2
theorem mv_sx_ch {e e' : mv_E} {r : List mv_E} (h : mv_sx mi (e :: e' :: r)) : e.1 + e.2.1 = e'.1 := by
  have h2 := h.2
  unfold mv_ch at h2
  rw [Bool.and_eq_true, decide_eq_true_eq] at h2
  exact h2.1
theorem mv_at_s {t : Nat} : ∀ {s : List mv_E}, mv_sx mi s → mv_sx mi (mv_at t s)
  | [], h => h
  | e :: r, h => by
    unfold mv_at
    split
    · exact h
    · exact mv_at_s (mv_sx_tl h)
theorem mv_at_h {t : Nat} {e : mv_E} {r : List mv_E} : ∀ {s : List mv_E}, mv_at t s = e :: r → e.1 = t
  | [], h => by cases h
  | x :: s, h => by
    unfold mv_at at h
    split at h
    · rename_i hx
      cases h
      exact hx
    · exact mv_at_h h
theorem mv_run_pk {ks : List Nat} (h : mv_Run G mi n0 s0 pc (mv_pk ks L) st sh M post) : mv_Run G mi n0 s0 pc L st sh M post := by
  intro p e s m args below meth cx H locs ls C hl hL hS hW hV hn0 hs0
  have key : ∀ q ∈ mv_pk ks L, q ∈ L := by
    intro q hq
    obtain ⟨k, -, hk⟩ := List.mem_filterMap.mp hq
    obtain ⟨x, hx, rfl⟩ := Option.map_eq_some_iff.mp hk
    exact mv_lg_mem hx
  refine h p e s m args below meth cx H locs ls C ⟨hl.1, hl.2.1, fun q hq => ?_⟩ (fun q hq => hL q (key q hq)) hS hW hV hn0 hs0
  obtain ⟨x, hx, rfl⟩ := List.mem_map.mp hq
  exact hl.2.2 _ (List.mem_map.mpr ⟨x, key x hx, rfl⟩)
theorem mv_vc_nil {cuts : List (Nat × List Nat)} {n : Nat} {f : Bool} (h : mv_vc G mi n0 s0 cuts post n f [] L st sh M) : False := by
  cases n <;> exact h
theorem mv_vc_ok {cuts : List (Nat × List Nat)} (hok : mv_okM mi = true) : ∀ (n : Nat) (f : Bool) (e : mv_E) (r : List mv_E) (L : mv_L) (st : List mv_V) (sh : mv_SH) (M : mv_Mem), mv_sx mi (e :: r) → mv_vc G mi n0 s0 cuts post n f (e :: r) L st sh M → mv_Run G mi n0 s0 e.1 L st sh M post
  | 0, _, _, _, _, _, _, _, _, h => h.elim
  | n + 1, f, e, r, L, st, sh, M, hs, h => by
    unfold mv_vc at h
    split at h
    · exact mv_run_pk h
    · have h1 := hs.1 e List.mem_cons_self
      obtain ⟨pc, ln, ni, a, b, c, v, ts⟩ := e
      unfold mv_okE at h1
      dsimp only at h1
      split at h1
      · rename_i i k hd
        rw [Bool.and_eq_true, decide_eq_true_eq] at h1
        obtain ⟨rfl, hf⟩ := h1
        refine mv_body_ok hd hf (NX := mv_vc G mi n0 s0 cuts post n false r) (JP := fun t => mv_vc G mi n0 s0 cuts post n false (mv_at t (mt_code (mv_r mi)))) (fun L' st' sh' M' h' => ?_) (fun t L' st' sh' M' h' => ?_) h
        · cases r with
          | nil => exact (mv_vc_nil h').elim
          | cons e' r' =>
            have hc := mv_sx_ch hs
            have K := mv_vc_ok hok n false e' r' L' st' sh' M' (mv_sx_tl hs) h'
            rw [← hc] at K
            exact K
        · cases hat : mv_at t (mt_code (mv_r mi)) with
          | nil => rw [hat] at h'; exact (mv_vc_nil h').elim
          | cons e' r' =>
            rw [hat] at h'
            have hc := mv_at_h hat
            have K := mv_vc_ok hok n false e' r' L' st' sh' M' (by rw [← hat]; exact mv_at_s (mv_okM_s hok)) h'
            rw [hc] at K
            exact K
      · cases h1
/-- from a cut on: it's enough to show what mv_vc says -/
theorem mv_run (cuts : List (Nat × List Nat)) (n : Nat) (hok : mv_okM mi = true) (h : mv_vc G mi n0 s0 cuts post n true (mv_at pc (mt_code (mv_r mi))) L st sh M) : mv_Run G mi n0 s0 pc L st sh M post := by
  cases hat : mv_at pc (mt_code (mv_r mi)) with
  | nil => rw [hat] at h; exact (mv_vc_nil h).elim
  | cons e r =>
    rw [hat] at h
    have K := mv_vc_ok hok n true e r L st sh M (by rw [← hat]; exact mv_at_s (mv_okM_s hok)) h
    rw [mv_at_h hat] at K
    exact K
theorem mv_en_m {as : List mv_V} : ∀ (i : Nat), lv_args i (as.map (mv_ct G)) = (mv_en i as).map (fun q => (q.1, mv_ct G q.2)) := by
  induction as with
  | nil => intro i; rfl
  | cons x as ih =>
    intro i
    show (i, mv_ct G x) :: lv_args (if (mv_ct G x).category = 2 then i + 2 else i + 1) (as.map (mv_ct G)) = (i, mv_ct G x) :: (mv_en (i + if mv_isL x then 2 else 1) as).map _
    have e1 : (if (mv_ct G x).category = 2 then i + 2 else i + 1) = i + if mv_isL x then 2 else 1 := by obtain x | x | x := x <;> rfl
    rw [e1, ih]
theorem mv_en_o {as : List mv_V} (h : ∀ x ∈ as, mv_ov x) : ∀ (i : Nat), ∀ q ∈ mv_en i as, mv_ov q.2 := by
  induction as with
  | nil => intro i q hq; cases hq
  | cons x as ih =>
    intro i q hq
    rcases List.mem_cons.mp hq with rfl | hq
    · exact h _ List.mem_cons_self
    · exact ih (fun y hy => h y (List.mem_cons_of_mem _ hy)) _ q hq
theorem mv_sl_e {as : List mv_V} : (lg_sl (as.map (mv_ct G))).length = mv_stw as := by
  induction as with
  | nil => rfl
  | cons x as ih =>
    have e1 : mv_stw (x :: as) = (if mv_isL x then 2 else 1) + mv_stw as := rfl
    rw [e1, ← ih]
    show ((if (mv_ct G x).category = 2 then [Slot.val (mv_ct G x), Slot.second] else [Slot.val (mv_ct G x)]) ++ lg_sl (as.map (mv_ct G))).length = _
    rw [List.length_append]
    obtain x | x | x := x <;> rfl
/-- a contract by a walk, of any method that no entry runs instead -/
theorem mv_ofW {l : Launch} {y : MethodName} {ws ws' : List Jvm.Cond} {rm : Room} {Pc : Array Value → State → Prop} {Qc : Array Value → State → Outcome → State → Prop} {mc ms : Nat} {free : Addr → Prop} {cc : ByteArray} {maxL : Nat} {ret : Option FieldType}
    (hy : plainFor y = true) (hw : ws = Jvm.Cond.code y cc maxL ret :: ws')
    (body : ∀ p e s m args below meth c s₁, BodyLoose p l y (headSpec ws rm) cc maxL ret e s m args below meth c s₁ → c.maxLocals = maxL → Pc args s →
      W p l e (headSpec ws rm).room s m args below meth c s.heap [] 0 0 (MQ below Qc args s mc ms free) (entryFrame m args maxL)) : Met l y ws rm Pc Qc mc ms free := by
  refine MetFree.of_bodySF (code := cc) (maxLocals := maxL) (ret := ret) hy ?_ ?_
  · intro args s m h hn
    obtain ⟨meth, c, h1, h2, h3, h4, h5, h6, -, -⟩ := Cond.code_spec hn (atoms_spec (ws := ws) h _ (by rw [hw]; exact List.mem_cons_self))
    exact ⟨meth, c, h1, h2, h3, h4, h5, h6⟩
  · intro p e s m args below meth c s₁ B hml hP _
    have hh0 : s₁.heap = s.heap := by rw [B.state]; rfl
    obtain ⟨t, a1, o, b1, b2, b3⟩ := body p e s m args below meth c s₁ B hml hP s₁ hh0 (Stand.of_body B)
    exact ⟨t, o, a1, b1, b2, ⟨b3.1, b3.2⟩⟩
/-- a call: it's enough to show what mv_vc says from the method's entry on -/
theorem mv_wp (cuts : List (Nat × List Nat)) (n : Nat) {p : Nat} {as : List mv_V} (hok : mv_okM mi = true) (hc : mv_okC mi p = true) (hst : Nat.ble (mv_stw as) (mt_nL (mv_r mi)) = true) (h : mv_vc G mi sh.1 sh.2.1 cuts post n true (mv_at 0 (mt_code (mv_r mi))) (mv_en 0 as) [] sh M) : mv_Wp G mi as sh M post := by
  have hrun := mv_run cuts n hok h
  unfold mv_okC at hc
  simp only [Bool.and_eq_true, decide_eq_true_eq] at hc
  obtain ⟨h1, h2, h3⟩ := hc
  refine ⟨mv_hw_mem h3, mv_ofW (cc := mt_cc (mv_r mi)) (maxL := mt_nL (mv_r mi)) (ret := mt_ret (mv_r mi)) h1 rfl ?_⟩
  intro p e s m args below meth cx s₁ B hml hv
  obtain ⟨rfl, hsz, hW, hK, hX, hbo, ho⟩ := hv
  have hts : ∀ w ∈ mv_tbl, w.before (as.map (mv_ct G)).toArray s = true := fun w hw => atoms_spec (ws := mv_wl (mv_r mi)) B.pre w (List.mem_cons_of_mem _ hw)
  have hown : s.vm.findClass (mt_own (mv_r mi)) = some m.cls := by rw [h2]; exact findClass_of_methodNamed B.named
  have C : mv_Cx G mi sh.1 p s m (as.map (mv_ct G)).toArray meth cx := ⟨B.exec, B.bytes, hml, hown, hts, B.returns, B.notSynchronized, (name_of_methodNamed B.named B.method).1, hsz, hX, hbo, hK⟩
  have hl := lv_entry (as.map (mv_ct G)) (n := mt_nL (mv_r mi)) (by rw [mv_sl_e]; exact Nat.le_of_ble_eq_true hst)
  rw [mv_en_m] at hl
  rw [lg_entry_eq]
  have K := hrun p e s m (as.map (mv_ct G)).toArray below meth cx s.heap [] _ C hl (mv_en_o ho 0) (fun _ h => by cases h) hW va_S.rf ⟨Nat.le_refl _, Nat.le_add_right _ _⟩ ⟨Nat.le_refl _, Nat.le_add_right _ _⟩
  rw [Nat.sub_self, Nat.sub_self] at K
  exact K
end MB
end
section
/-! A SMALL WORLD WITHIN A LARGER ONE: what a call does where there are only the cells 1 .. n, it does where these are some of more cells -/
def mv_tr (io : Nat → Nat) : mv_V → mv_V
  | .inl x => .inl x
  | .inr (.inl x) => .inr (.inl x)
  | .inr (.inr k) => .inr (.inr (io k))
/-- the small world's addresses -/
def mv_gs (G : mv_G) (io : Nat → Nat) : mv_G := (G.1, G.2.1, (fun k => mg_a G (io k)), G.2.2.2)
def mv_mS (io : Nat → Nat) (sm : mv_SH) (M : mv_Mem) : mv_Mem := fun k i => if k ≤ sm.1 then M (io k) i else 0
/-- the larger world behind what became of the small one -/
abbrev mv_im (io ka : Nat → Nat) (sm : mv_SH) (K : Nat) : Prop := io (ka K) = K ∧ ka K ≤ sm.1
def mv_lS (io ka : Nat → Nat) (sh sm sm' : mv_SH) : mv_SH := (sh.1 + (sm'.1 - sm.1), sh.2.1 + (sm'.2.1 - sm.2.1), (fun K => if mv_im io ka sm' K then sm'.2.2.1 (ka K) else sh.2.2.1 K), (fun K => if mv_im io ka sm' K then sm'.2.2.2.1 (ka K) else sh.2.2.2.1 K), (fun K f => if mv_im io ka sm' K then io (sm'.2.2.2.2 (ka K) f) else sh.2.2.2.2 K f))
def mv_lM (io ka : Nat → Nat) (sm' : mv_SH) (M Mm : mv_Mem) : mv_Mem := fun K i => if mv_im io ka sm' K then Mm (ka K) i else M K i
/-- the cells of the small world lie so among the larger one's -/
def mv_In (io ka : Nat → Nat) (sh sm : mv_SH) : Prop :=
  io 0 = 0 ∧ (∀ k, ka (io k) = k) ∧ (∀ j, io (sm.1 + 1 + j) = sh.1 + 1 + j) ∧ (∀ k, k ≤ sm.1 → io k ≤ sh.1) ∧
  (∀ k, k ≤ sm.1 → sm.2.2.1 k = sh.2.2.1 (io k)) ∧ (∀ k, k ≤ sm.1 → sm.2.2.2.1 k = sh.2.2.2.1 (io k)) ∧ (∀ k f, k ≤ sm.1 → io (sm.2.2.2.2 k f) = sh.2.2.2.2 (io k) f) ∧ ∀ k, sm.1 < k → sm.2.2.2.1 k ≤ 100000
section FR
variable {G : mv_G} {io ka : Nat → Nat} {sh sm sm' : mv_SH} {M Mm : mv_Mem}
theorem mv_io_0 (hI : mv_In io ka sh sm) {k : Nat} (h : 1 ≤ k) : 1 ≤ io k := by
  obtain ⟨h0, h1, -⟩ := hI
  rcases Nat.eq_zero_or_pos (io k) with e | e
  · have := h1 k
    have := h1 0
    rw [h0] at this
    rw [e] at *
    omega
  · exact e
theorem mv_ad_s (hI : mv_In io ka sh sm) (k : Nat) : mv_ad (mv_gs G io) k = mv_ad G (io k) := by
  unfold mv_ad
  by_cases h : k = 0
  · subst h
    rw [if_pos rfl, if_pos hI.1]
    rfl
  · have := mv_io_0 hI (show 1 ≤ k by omega)
    rw [if_neg h, if_neg (by omega)]
    rfl
theorem mv_ct_s (hI : mv_In io ka sh sm) (v : mv_V) : mv_ct (mv_gs G io) v = mv_ct G (mv_tr io v) := by
  obtain x | x | x := v
  · rfl
  · rfl
  · exact congrArg Value.ref (mv_ad_s hI x)
theorem mv_ov_s {v : mv_V} : mv_ov (mv_tr io v) ↔ mv_ov v := by
  obtain x | x | x := v <;> rfl
theorem mg_A_s (hI : mv_In io ka sh sm) {q : Nat} (h : mg_A (mv_gs G io) q) : mg_A G q := by
  obtain ⟨k, h1, h2⟩ := h
  exact ⟨io k, mv_io_0 hI h1, h2⟩
/-- a cell of the small world is the cell of the larger one -/
theorem mv_ce_s (hI : mv_In io ka sh sm) {sL : mv_SH} {ML : mv_Mem} {k : Nat} (h1 : sm'.2.2.1 k = sL.2.2.1 (io k)) (h2 : sm'.2.2.2.1 k = sL.2.2.2.1 (io k)) (h3 : ∀ f, io (sm'.2.2.2.2 k f) = sL.2.2.2.2 (io k) f) (h4 : ∀ i, Mm k i = ML (io k) i) : mv_ce (mv_gs G io) sm' Mm k = mv_ce G sL ML (io k) := by
  unfold mv_ce
  rw [h1, h2]
  have e1 : (fun i => Int32.ofInt (Mm k i)) = (fun i => Int32.ofInt (ML (io k) i)) := funext fun i => by rw [h4 i]
  have e2 : (fun i => Int64.ofInt (Mm k i)) = (fun i => Int64.ofInt (ML (io k) i)) := funext fun i => by rw [h4 i]
  have e3 : mv_fv (mv_gs G io) sm' Mm (sL.2.2.1 (io k)) k = mv_fv G sL ML (sL.2.2.1 (io k)) (io k) := by
    funext f
    unfold mv_fv
    rw [← h3 f, h4 f, mv_ad_s hI]
    by_cases h : sm'.2.2.2.2 k f = 0
    · have e0 : io (sm'.2.2.2.2 k f) = 0 := by rw [h]; exact hI.1
      rw [if_pos h, if_pos e0]
    · have := mv_io_0 hI (show 1 ≤ sm'.2.2.2.2 k f by omega)
      rw [if_neg h, if_neg (show ¬ io (sm'.2.2.2.2 k f) = 0 by omega)]
  rw [e1, e2, e3]
  rfl
theorem mv_ws_1 {k : Nat} {q : Nat × va_E} (h : (mv_ws G sh M)[k]? = some q) : k < sh.1 ∧ q = (mg_a G (k + 1), mv_ce G sh M (k + 1)) := by
  unfold mv_ws at h
  rw [List.getElem?_map] at h
  by_cases hk : k < sh.1
  · rw [List.getElem?_range hk] at h
    exact ⟨hk, (Option.some.inj h).symm⟩
  · rw [List.getElem?_eq_none (by simp; omega)] at h
    cases h
theorem mv_ws_2 {k : Nat} (h1 : 1 ≤ k) (h2 : k ≤ sh.1) : (mv_ws G sh M)[k - 1]? = some (mg_a G k, mv_ce G sh M k) := by
  rw [mv_ws_get h1 h2]
  unfold mv_ad
  rw [if_neg (by omega)]
theorem mv_ws_a (hD : va_D (mg_A G) (mv_ws G sh M)) {i j : Nat} (hi : 1 ≤ i ∧ i ≤ sh.1) (hj : 1 ≤ j ∧ j ≤ sh.1) (h : mg_a G i = mg_a G j) : i = j := by
  have := hD.1 _ _ _ _ (mv_ws_2 (G := G) (M := M) hi.1 hi.2) (mv_ws_2 (G := G) (M := M) hj.1 hj.2) h
  omega
theorem mv_Wd_s (hI : mv_In io ka sh sm) {H : Heap} (h : mv_Wd G sh M H) : mv_Wd (mv_gs G io) sm (mv_mS io sm M) H := by
  obtain ⟨hP, hD, ⟨a1, a2, a3⟩, a4, a5⟩ := h
  obtain ⟨i0, i1, i2, i3, i4, i5, i6, i7⟩ := id hI
  have key : ∀ {k : Nat} {q : Nat × va_E}, (mv_ws (mv_gs G io) sm (mv_mS io sm M))[k]? = some q → k < sm.1 ∧ 1 ≤ io (k + 1) ∧ io (k + 1) ≤ sh.1 ∧ (mv_ws G sh M)[io (k + 1) - 1]? = some q ∧ q.1 = mg_a G (io (k + 1)) := by
    intro k q hq
    obtain ⟨h1, h2⟩ := mv_ws_1 hq
    have e1 := mv_io_0 hI (show 1 ≤ k + 1 by omega)
    have e2 := i3 (k + 1) (by omega)
    refine ⟨h1, e1, e2, ?_, by rw [h2]; rfl⟩
    rw [mv_ws_2 e1 e2, h2, mv_ce_s hI (i4 _ (by omega)) (i5 _ (by omega)) (fun f => i6 _ f (by omega)) (fun i => if_pos (show k + 1 ≤ sm.1 by omega))]
    rfl
  refine ⟨fun k q hq => hP _ q (key hq).2.2.2.1, ⟨fun i j p q hp hq e => ?_, fun k q hq => ?_⟩, ⟨?_, ?_, fun i => ?_⟩, fun k i => ?_, fun k => ?_⟩
  · obtain ⟨b1, b2, b3, b4, b5⟩ := key hp
    obtain ⟨c1, c2, c3, c4, c5⟩ := key hq
    have e1 := hD.1 _ _ _ _ b4 c4 e
    have e2 : io (i + 1) = io (j + 1) := by omega
    have e3 := i1 (i + 1)
    rw [e2, i1] at e3
    omega
  · exact ⟨k + 1, by omega, (mv_ws_1 hq).2 ▸ rfl⟩
  · rw [i4 0 (Nat.zero_le _), i0]; exact a1
  · rw [i5 0 (Nat.zero_le _), i0]; exact a2
  · show (if 0 ≤ sm.1 then M (io 0) i else 0) = _
    rw [if_pos (Nat.zero_le _), i0]; exact a3 i
  · show mv_R64 (if k ≤ sm.1 then M (io k) i else 0) ∧ (_ → mv_R32 (if k ≤ sm.1 then M (io k) i else 0))
    by_cases hk : k ≤ sm.1
    · rw [if_pos hk, i4 k hk]; exact a4 (io k) i
    · rw [if_neg hk]; exact ⟨mv_z64, fun _ => mv_z32⟩
  · by_cases hk : k ≤ sm.1
    · rw [i5 k hk]; exact a5 (io k)
    · exact i7 k (by omega)
theorem mv_lS_self (hI : mv_In io ka sh sm) : mv_lS io ka sh sm sm = sh := by
  obtain ⟨i0, i1, i2, i3, i4, i5, i6, i7⟩ := id hI
  unfold mv_lS
  have e1 : (fun K => if mv_im io ka sm K then sm.2.2.1 (ka K) else sh.2.2.1 K) = sh.2.2.1 := funext fun K => by
    by_cases h : mv_im io ka sm K
    · rw [if_pos h, i4 _ h.2, h.1]
    · rw [if_neg h]
  have e2 : (fun K => if mv_im io ka sm K then sm.2.2.2.1 (ka K) else sh.2.2.2.1 K) = sh.2.2.2.1 := funext fun K => by
    by_cases h : mv_im io ka sm K
    · rw [if_pos h, i5 _ h.2, h.1]
    · rw [if_neg h]
  have e3 : (fun K f => if mv_im io ka sm K then io (sm.2.2.2.2 (ka K) f) else sh.2.2.2.2 K f) = sh.2.2.2.2 := funext fun K => funext fun f => by
    by_cases h : mv_im io ka sm K
    · rw [if_pos h, i6 _ _ h.2, h.1]
    · rw [if_neg h]
  rw [e1, e2, e3, Nat.sub_self, Nat.sub_self]
  rfl
theorem mv_Wd_l (hI : mv_In io ka sh sm) {H H1 : Heap} (h : mv_Wd G sh M H) (h0 : mv_hp G sh.1 H.size) (hn : sm.1 ≤ sm'.1) (hs : mv_Wd (mv_gs G io) sm' Mm H1) (hF : ∀ q, q < H.size → ¬ mg_A (mv_gs G io) q → H1[q]? = H[q]?) : mv_Wd G (mv_lS io ka sh sm sm') (mv_lM io ka sm' M Mm) H1 := by
  obtain ⟨hP, hD, ⟨a1, a2, a3⟩, a4, a5⟩ := h
  obtain ⟨sP, sD, ⟨b1, b2, b3⟩, b4, b5⟩ := hs
  obtain ⟨i0, i1, i2, i3, i4, i5, i6, i7⟩ := id hI
  have k0 : ka 0 = 0 := by have := i1 0; rwa [i0] at this
  have e0 : mv_im io ka sm' 0 := ⟨by rw [k0, i0], by rw [k0]; omega⟩
  have hout : ∀ K, K ≤ sh.1 + (sm'.1 - sm.1) → ¬ mv_im io ka sm' K → ¬ io (ka K) = K ∧ 1 ≤ K ∧ K ≤ sh.1 := by
    intro K hr hK
    have hne : ¬ io (ka K) = K := by
      intro hE
      rcases Nat.lt_or_ge sm'.1 (ka K) with e | e
      · have e1 := i2 (ka K - sm.1 - 1)
        rw [show sm.1 + 1 + (ka K - sm.1 - 1) = ka K by omega, hE] at e1
        omega
      · exact hK ⟨hE, e⟩
    refine ⟨hne, ?_, ?_⟩
    · rcases Nat.eq_zero_or_pos K with e | e
      · subst e; exact absurd e0 hK
      · exact e
    · rcases Nat.lt_or_ge sh.1 K with e | e
      · have e1 := i2 (K - sh.1 - 1)
        rw [show sh.1 + 1 + (K - sh.1 - 1) = K by omega] at e1
        rw [← e1, i1] at hne
        exact absurd rfl hne
      · exact e
  have hin : ∀ K, 1 ≤ K → mv_im io ka sm' K → 1 ≤ ka K ∧ ka K ≤ sm'.1 := by
    intro K h1 hK
    refine ⟨?_, hK.2⟩
    rcases Nat.eq_zero_or_pos (ka K) with e | e
    · have := hK.1
      rw [e, i0] at this; omega
    · exact e
  have hapart : ∀ K, K ≤ sh.1 + (sm'.1 - sm.1) → ¬ mv_im io ka sm' K → mg_a G K < H.size ∧ ¬ mg_A (mv_gs G io) (mg_a G K) := by
    intro K hr hK
    obtain ⟨hK, h1, h2⟩ := hout K hr hK
    have hl : mg_a G K < H.size := (hP _ _ (mv_ws_2 (G := G) (M := M) h1 h2)).lt
    refine ⟨hl, fun ⟨k, g1, g2⟩ => ?_⟩
    have g2 : mg_a G K = mg_a G (io k) := g2
    have g3 := mv_io_0 hI g1
    rcases Nat.lt_or_ge sh.1 (io k) with e | e
    · have e1 := h0 (io k - sh.1 - 1)
      rw [show sh.1 + 1 + (io k - sh.1 - 1) = io k by omega] at e1
      omega
    · have e1 := mv_ws_a hD ⟨h1, h2⟩ ⟨g3, e⟩ g2
      rw [e1, i1] at hK
      exact hK rfl
  have cin : ∀ K, mv_im io ka sm' K → mv_ce G (mv_lS io ka sh sm sm') (mv_lM io ka sm' M Mm) K = mv_ce (mv_gs G io) sm' Mm (ka K) := by
    intro K hK
    have e := mv_ce_s (G := G) (sm' := sm') (Mm := Mm) (sL := mv_lS io ka sh sm sm') (ML := mv_lM io ka sm' M Mm) hI (k := ka K)
      (by show _ = if mv_im io ka sm' (io (ka K)) then _ else _; rw [if_pos (by rw [hK.1]; exact hK), i1])
      (by show _ = if mv_im io ka sm' (io (ka K)) then _ else _; rw [if_pos (by rw [hK.1]; exact hK), i1])
      (fun f => by show _ = if mv_im io ka sm' (io (ka K)) then _ else _; rw [if_pos (by rw [hK.1]; exact hK), i1])
      (fun i => by show _ = if mv_im io ka sm' (io (ka K)) then _ else _; rw [if_pos (by rw [hK.1]; exact hK), i1])
    rw [e, hK.1]
  have cout : ∀ K, ¬ mv_im io ka sm' K → mv_ce G (mv_lS io ka sh sm sm') (mv_lM io ka sm' M Mm) K = mv_ce G sh M K := by
    intro K hK
    refine mv_ce_c (if_neg hK) (if_neg hK) (fun f => if_neg hK) (fun i => if_neg hK)
  refine ⟨fun k q hq => ?_, ⟨fun i j p q hp hq e => ?_, fun k q hq => ?_⟩, ⟨?_, ?_, fun i => ?_⟩, fun K i => ?_, fun K => ?_⟩
  · obtain ⟨h1, rfl⟩ := mv_ws_1 hq
    have h1 : k < sh.1 + (sm'.1 - sm.1) := h1
    by_cases hK : mv_im io ka sm' (k + 1)
    · obtain ⟨g1, g2⟩ := hin (k + 1) (by omega) hK
      have e := sP _ _ (mv_ws_2 (G := mv_gs G io) (M := Mm) g1 g2)
      rw [cin _ hK]
      have e2 : mg_a (mv_gs G io) (ka (k + 1)) = mg_a G (k + 1) := by show mg_a G (io (ka (k + 1))) = _; rw [hK.1]
      rw [e2] at e
      exact e
    · obtain ⟨-, g1, g2⟩ := hout _ (by omega) hK
      obtain ⟨g3, g4⟩ := hapart _ (by omega) hK
      have e := hP _ _ (mv_ws_2 (G := G) (M := M) g1 g2)
      rw [cout _ hK]
      exact e.kept (hF _ g3 g4)
  · obtain ⟨h1, rfl⟩ := mv_ws_1 hp
    obtain ⟨h2, rfl⟩ := mv_ws_1 hq
    have h1 : i < sh.1 + (sm'.1 - sm.1) := h1
    have h2 : j < sh.1 + (sm'.1 - sm.1) := h2
    have e : mg_a G (i + 1) = mg_a G (j + 1) := e
    by_cases hK : mv_im io ka sm' (i + 1)
    · obtain ⟨g1, g2⟩ := hin (i + 1) (by omega) hK
      by_cases hJ : mv_im io ka sm' (j + 1)
      · obtain ⟨g3, g4⟩ := hin (j + 1) (by omega) hJ
        have e2 := mv_ws_a sD ⟨g1, g2⟩ ⟨g3, g4⟩ (by show mg_a G (io (ka (i + 1))) = mg_a G (io (ka (j + 1))); rw [hK.1, hJ.1]; exact e)
        have h8 := hK.1
        rw [e2, hJ.1] at h8
        omega
      · exact absurd ⟨ka (i + 1), g1, by show _ = mg_a G (io (ka (i + 1))); rw [hK.1]; exact e.symm⟩ (hapart _ (by omega) hJ).2
    · by_cases hJ : mv_im io ka sm' (j + 1)
      · obtain ⟨g3, g4⟩ := hin (j + 1) (by omega) hJ
        exact absurd ⟨ka (j + 1), g3, by show _ = mg_a G (io (ka (j + 1))); rw [hJ.1]; exact e⟩ (hapart _ (by omega) hK).2
      · have := mv_ws_a hD (hout _ (by omega) hK).2 (hout _ (by omega) hJ).2 e
        omega
  · obtain ⟨h1, rfl⟩ := mv_ws_1 hq
    exact ⟨k + 1, by omega, rfl⟩
  · show (if mv_im io ka sm' 0 then sm'.2.2.1 (ka 0) else _) = _
    rw [if_pos e0, k0]; exact b1
  · show (if mv_im io ka sm' 0 then sm'.2.2.2.1 (ka 0) else _) = _
    rw [if_pos e0, k0]; exact b2
  · show (if mv_im io ka sm' 0 then Mm (ka 0) i else _) = _
    rw [if_pos e0, k0]; exact b3 i
  · show mv_R64 (if mv_im io ka sm' K then Mm (ka K) i else M K i) ∧ ((if mv_im io ka sm' K then sm'.2.2.1 (ka K) else sh.2.2.1 K) ≠ 101 → mv_R32 (if mv_im io ka sm' K then Mm (ka K) i else M K i))
    by_cases hK : mv_im io ka sm' K
    · rw [if_pos hK, if_pos hK]; exact b4 _ i
    · rw [if_neg hK, if_neg hK]; exact a4 K i
  · show (if mv_im io ka sm' K then sm'.2.2.2.1 (ka K) else sh.2.2.2.1 K) ≤ 100000
    by_cases hK : mv_im io ka sm' K
    · rw [if_pos hK]; exact b5 _
    · rw [if_neg hK]; exact a5 K
theorem mv_frame (hI : mv_In io ka sh sm) {c : Nat} {as : List mv_V} {post : Option mv_V → mv_SH → mv_Mem → Prop} (hc : mt_mc (mv_r c) < 150) (h : mv_Wp (mv_gs G io) c as sm (mv_mS io sm M) post) :
    mv_Wp G c (as.map (mv_tr io)) sh M (fun r sh' M' => ∃ r0 sm' Mm, post r0 sm' Mm ∧ r = r0.map (mv_tr io) ∧ sh' = mv_lS io ka sh sm sm' ∧ M' = mv_lM io ka sm' M Mm) := by
  obtain ⟨i0, i1, i2, i3, i4, i5, i6, i7⟩ := id hI
  have hmap : (as.map (mv_tr io)).map (mv_ct G) = as.map (mv_ct (mv_gs G io)) := by
    rw [List.map_map]
    exact List.map_congr_left fun v _ => (mv_ct_s hI v).symm
  refine ⟨h.1, MetFree.mono h.2 (fun a U q => ?_) (fun _ _ _ _ _ q => q) (fun a st o t hp q => ?_)⟩
  · obtain ⟨e, q1, q2, q3, q4, q5, q6⟩ := q
    refine ⟨by rw [← hmap]; exact e, fun j => ?_, mv_Wd_s hI q2, q3, q4, ⟨q5.1, fun hA => q5.2 (mg_A_s hI hA)⟩, fun x hx => ?_⟩
    · show mg_a G (io (sm.1 + 1 + j)) = _
      rw [i2]; exact q1 j
    · exact mv_ov_s.mp (q6 _ (List.mem_map_of_mem hx))
  · obtain ⟨⟨⟨r0, sm', Mm, g1, g2, g3, g4, g5⟩, g6⟩, Ls, g7, g8⟩ := q
    obtain ⟨e, q1, q2, q3, q4, q5, q6⟩ := hp
    obtain ⟨n1, n2⟩ : sm'.1 = sm.1 + mt_mc (mv_r c) ∧ sm'.2.1 = sm.2.1 + mt_ms (mv_r c) := g4.elim (fun z => absurd z (by omega)) id
    refine ⟨⟨⟨r0.map (mv_tr io), mv_lS io ka sh sm sm', mv_lM io ka sm' M Mm, ?_, ?_, ⟨r0, sm', Mm, g3, rfl, rfl, rfl⟩, Or.inr ⟨?_, ?_⟩, mv_Wd_l hI q2 q1 (by omega) g5 g6.2⟩, g6.1, fun q hq hn => g6.2 q hq (fun z => hn (mg_A_s hI z))⟩, Ls, g7, fun q hq => mg_A_s hI (g8 q hq)⟩
    · rw [g1]
      cases r0 with
      | none => rfl
      | some v => exact congrArg (fun z => Outcome.returned (some z)) (mv_ct_s hI v)
    · intro x hx
      cases r0 with
      | none => cases hx
      | some v => cases hx; exact mv_ov_s.mpr (g2 v rfl)
    · show sh.1 + (sm'.1 - sm.1) = _
      omega
    · show sh.2.1 + (sm'.2.1 - sm.2.1) = _
      omega
theorem mv_frame_i (hI : mv_In io ka sh sm) {c : Nat} {as : List mv_V} {F : Int → mv_Mem → Prop} (hc : mt_mc (mv_r c) < 150) (h : mv_Wp (mv_gs G io) c as sm (mv_mS io sm M) (mv_qi sm fun x Mm => F x (mv_lM io ka sm M Mm))) : mv_Wp G c (as.map (mv_tr io)) sh M (mv_qi sh F) :=
  mv_mono (mv_frame hI hc h) fun r sh' M' q => by
    obtain ⟨r0, sm', Mm, ⟨rfl, x, rfl, q1⟩, rfl, rfl, rfl⟩ := q
    rw [mv_lS_self hI]
    exact mv_qi_i q1
theorem mv_frame_l (hI : mv_In io ka sh sm) {c : Nat} {as : List mv_V} {F : Int → mv_Mem → Prop} (hc : mt_mc (mv_r c) < 150) (h : mv_Wp (mv_gs G io) c as sm (mv_mS io sm M) (mv_ql sm fun x Mm => F x (mv_lM io ka sm M Mm))) : mv_Wp G c (as.map (mv_tr io)) sh M (mv_ql sh F) :=
  mv_mono (mv_frame hI hc h) fun r sh' M' q => by
    obtain ⟨r0, sm', Mm, ⟨rfl, x, rfl, q1⟩, rfl, rfl, rfl⟩ := q
    rw [mv_lS_self hI]
    exact mv_ql_i q1
theorem mv_frame_v (hI : mv_In io ka sh sm) {c : Nat} {as : List mv_V} {F : mv_Mem → Prop} (hc : mt_mc (mv_r c) < 150) (h : mv_Wp (mv_gs G io) c as sm (mv_mS io sm M) (mv_qv sm fun Mm => F (mv_lM io ka sm M Mm))) : mv_Wp G c (as.map (mv_tr io)) sh M (mv_qv sh F) :=
  mv_mono (mv_frame hI hc h) fun r sh' M' q => by
    obtain ⟨r0, sm', Mm, ⟨rfl, rfl, q1⟩, rfl, rfl, rfl⟩ := q
    rw [mv_lS_self hI]
    exact mv_qv_i q1
end FR
end
section
/-! THE CELLS behind the constructor: tags, lengths, references (by program: wip/p40/shape.py) -/
def mh_tags : List Nat := [
  100, 11, 5, 100, 4, 100, 1, 10, 0, 100, 100, 100, 100, 100, 100, 100, 100, 7, 100, 100,
  100, 100, 100, 100, 100, 100, 100, 100, 100, 100, 2, 100, 100, 100, 100, 8, 100, 100, 100, 100,
  100, 100, 101, 100, 10, 0, 100, 100, 100, 100, 100, 100, 100, 100, 7, 100, 100, 100, 100, 100,
  100, 100, 100, 100, 100, 100, 100, 2, 100, 100, 100, 100, 6, 100, 100, 100, 101, 9, 101, 3,
  101, 101, 101, 101, 100, 101, 101, 100
  ]
def mh_lens : List Nat := [
  0, 0, 0, 60, 0, 48, 0, 0, 0, 48, 48, 48, 48, 48, 192, 3, 4, 0, 6, 6,
  6, 6, 6, 6, 6, 6, 18, 18, 108, 108, 0, 8, 8, 8, 8, 0, 144, 144, 48, 192,
  192, 192, 864, 48, 0, 0, 48, 48, 48, 48, 48, 192, 3, 4, 0, 6, 6, 6, 6, 6,
  6, 6, 6, 18, 18, 108, 108, 0, 8, 8, 8, 8, 0, 48, 48, 18, 864, 0, 48, 0,
  6, 6, 23, 23, 23, 23, 23, 7
  ]
def mh_refs : List (List Nat) := [
  [], [2, 4, 6, 7, 8, 17, 30, 44, 0, 72, 77, 79, 87], [3], [], [5], [], [7, 35, 42, 43, 8, 17], [8, 17, 30], [0, 0, 0, 0, 0, 9, 10, 11, 12, 13, 14, 15, 16], [],
  [], [], [], [], [], [], [], [0, 0, 18, 19, 20, 21, 22, 23, 24, 25, 26, 27, 28, 29], [], [],
  [], [], [], [], [], [], [], [], [], [],
  [0, 31, 32, 33, 34], [], [], [], [], [36, 37, 38, 39, 40, 41], [], [], [], [],
  [], [], [], [], [45, 54, 67], [0, 0, 0, 0, 0, 46, 47, 48, 49, 50, 51, 52, 53], [], [], [], [],
  [], [], [], [], [0, 0, 55, 56, 57, 58, 59, 60, 61, 62, 63, 64, 65, 66], [], [], [], [], [],
  [], [], [], [], [], [], [], [0, 68, 69, 70, 71], [], [],
  [], [], [73, 74, 75, 76], [], [], [], [], [78], [], [80, 81, 82, 83, 0, 0, 84, 85, 86],
  [], [], [], [], [], [], [], []
  ]
def mh_t (k : Nat) : Nat := mh_tags.getD k 0
def mh_l (l k : Nat) : Nat := if k = 0 then l else mh_lens.getD k 0
def mh_r (k f : Nat) : Nat := (mh_refs.getD k []).getD f 0
/-- the shape of the world behind the constructors, with a script of l ints -/
def mh (l : Nat) : mv_SH := (87, 4749, mh_t, mh_l l, mh_r)
end
section
/-! WHAT IS TO BE SHOWN of the methods (by program: wip/p40/allvc.py) -/
set_option maxRecDepth 100000 in
theorem vw_X0_layOut {G : mv_G} {l : Nat} {post : Option mv_V → mv_SH → mv_Mem → Prop} {M : mv_Mem} (h : mv_Wp G 2 [.inr (.inr 8)] (mh l) M (mv_qv (mh l) fun M1 =>
  mv_Run G 1 87 4749 11 [(0, .inr (.inr 8)), (1, .inr (.inr 2)), (2, .inl 0), (3, .inl 0), (4, .inl 0)] [] (mh l) M1 post)) :
    mv_Wp G 1 [.inr (.inr 8), .inr (.inr 2)] (mh l) M post := mv_wp [(11, [0, 1, 2, 3, 4])] 85 ok_1 oc_1 rfl h
set_option maxRecDepth 100000 in
theorem vr_X0_layOut_11 {G : mv_G} {l : Nat} {post : Option mv_V → mv_SH → mv_Mem → Prop} {M : mv_Mem} {v2 v3 v4 : Int} (h : (if (M 2 1) ≤ v4 then
    mv_R32 (v3 + 1) ∧
    post none (mh l) (mv_up (mv_up M 8 0 v2) 8 1 (v3 + 1))
  else
    (0 ≤ (v4 : Int) ∧ (v4 : Int) < ((60 : Nat) : Int)) ∧
    (if (M 3 (Int.toNat v4)) = 47 then
      mv_R32 (v3 + 1) ∧
      mv_R32 (v4 + 1) ∧
      mv_Run G 1 87 4749 11 [(0, .inr (.inr 8)), (1, .inr (.inr 2)), (2, .inl 0), (3, .inl (v3 + 1)), (4, .inl (v4 + 1))] [] (mh l) M post
    else
      (if 48 ≤ (M 8 2) then
        mv_R32 (v4 + 1) ∧
        mv_Run G 1 87 4749 11 [(0, .inr (.inr 8)), (1, .inr (.inr 2)), (2, .inl v2), (3, .inl v3), (4, .inl (v4 + 1))] [] (mh l) M post
      else
        (0 ≤ (v4 : Int) ∧ (v4 : Int) < ((60 : Nat) : Int)) ∧
        mv_R32 ((M 3 (Int.toNat v4)) - 48) ∧
        (0 ≤ (M 8 2 : Int) ∧ (M 8 2 : Int) < ((48 : Nat) : Int)) ∧
        mv_R32 (10 * v2) ∧
        mv_R32 ((10 * v2) + v3) ∧
        (0 ≤ ((mv_up M 10 (Int.toNat (M 8 2)) ((M 3 (Int.toNat v4)) - 48)) 8 2 : Int) ∧ ((mv_up M 10 (Int.toNat (M 8 2)) ((M 3 (Int.toNat v4)) - 48)) 8 2 : Int) < ((48 : Nat) : Int)) ∧
        mv_R32 (((mv_up (mv_up M 10 (Int.toNat (M 8 2)) ((M 3 (Int.toNat v4)) - 48)) 9 (Int.toNat ((mv_up M 10 (Int.toNat (M 8 2)) ((M 3 (Int.toNat v4)) - 48)) 8 2)) ((10 * v2) + v3)) 8 2) + 1) ∧
        mv_R32 (v2 + 1) ∧
        mv_R32 (v4 + 1) ∧
        mv_Run G 1 87 4749 11 [(0, .inr (.inr 8)), (1, .inr (.inr 2)), (2, .inl (v2 + 1)), (3, .inl v3), (4, .inl (v4 + 1))] [] (mh l) (mv_up (mv_up (mv_up M 10 (Int.toNat (M 8 2)) ((M 3 (Int.toNat v4)) - 48)) 9 (Int.toNat ((mv_up M 10 (Int.toNat (M 8 2)) ((M 3 (Int.toNat v4)) - 48)) 8 2)) ((10 * v2) + v3)) 8 2 (((mv_up (mv_up M 10 (Int.toNat (M 8 2)) ((M 3 (Int.toNat v4)) - 48)) 9 (Int.toNat ((mv_up M 10 (Int.toNat (M 8 2)) ((M 3 (Int.toNat v4)) - 48)) 8 2)) ((10 * v2) + v3)) 8 2) + 1)) post)))) :
    mv_Run G 1 87 4749 11 [(0, .inr (.inr 8)), (1, .inr (.inr 2)), (2, .inl v2), (3, .inl v3), (4, .inl v4)] [] (mh l) M post := mv_run [(11, [0, 1, 2, 3, 4])] 85 ok_1 h
set_option maxRecDepth 100000 in
theorem vw_X0_clearAway {G : mv_G} {l : Nat} {post : Option mv_V → mv_SH → mv_Mem → Prop} {M : mv_Mem} (h : mv_Run G 2 87 4749 17 [(0, .inr (.inr 8)), (1, .inl 0)] [] (mh l) (mv_up (mv_up (mv_up M 8 2 0) 8 3 0) 8 4 0) post) :
    mv_Wp G 2 [.inr (.inr 8)] (mh l) M post := mv_wp [(17, [0, 1]), (52, [0, 1])] 64 ok_2 oc_2 rfl h
set_option maxRecDepth 100000 in
theorem vr_X0_clearAway_17 {G : mv_G} {l : Nat} {post : Option mv_V → mv_SH → mv_Mem → Prop} {M : mv_Mem} {v1 : Int} (h : (if 48 ≤ v1 then
    mv_Run G 2 87 4749 52 [(0, .inr (.inr 8)), (1, .inl 0)] [] (mh l) M post
  else
    (0 ≤ (v1 : Int) ∧ (v1 : Int) < ((48 : Nat) : Int)) ∧
    (0 ≤ (v1 : Int) ∧ (v1 : Int) < ((48 : Nat) : Int)) ∧
    (0 ≤ (v1 : Int) ∧ (v1 : Int) < ((48 : Nat) : Int)) ∧
    mv_R32 (v1 + 1) ∧
    mv_Run G 2 87 4749 17 [(0, .inr (.inr 8)), (1, .inl (v1 + 1))] [] (mh l) (mv_up (mv_up (mv_up M 11 (Int.toNat v1) 0) 12 (Int.toNat v1) (-1)) 13 (Int.toNat v1) 0) post)) :
    mv_Run G 2 87 4749 17 [(0, .inr (.inr 8)), (1, .inl v1)] [] (mh l) M post := mv_run [(17, [0, 1]), (52, [0, 1])] 64 ok_2 h
set_option maxRecDepth 100000 in
theorem vr_X0_clearAway_52 {G : mv_G} {l : Nat} {post : Option mv_V → mv_SH → mv_Mem → Prop} {M : mv_Mem} {v1 : Int} (h : (if 192 ≤ v1 then
    post none (mh l) M
  else
    (0 ≤ (v1 : Int) ∧ (v1 : Int) < ((192 : Nat) : Int)) ∧
    mv_R32 (v1 + 1) ∧
    mv_Run G 2 87 4749 52 [(0, .inr (.inr 8)), (1, .inl (v1 + 1))] [] (mh l) (mv_up M 14 (Int.toNat v1) 0) post)) :
    mv_Run G 2 87 4749 52 [(0, .inr (.inr 8)), (1, .inl v1)] [] (mh l) M post := mv_run [(17, [0, 1]), (52, [0, 1])] 64 ok_2 h
set_option maxRecDepth 100000 in
theorem vw_X0_takeFrom_i {G : mv_G} {l : Nat} {post : Option mv_V → mv_SH → mv_Mem → Prop} {M : mv_Mem} (h : (0 ≤ (0 : Int) ∧ 0 ≤ (0 : Int) ∧ 0 ≤ (48 : Int) ∧ 0 + 48 ≤ ((48 : Nat) : Int) ∧ 0 + 48 ≤ ((48 : Nat) : Int)) ∧
  (0 ≤ (0 : Int) ∧ 0 ≤ (0 : Int) ∧ 0 ≤ (48 : Int) ∧ 0 + 48 ≤ ((48 : Nat) : Int) ∧ 0 + 48 ≤ ((48 : Nat) : Int)) ∧
  (0 ≤ (0 : Int) ∧ 0 ≤ (0 : Int) ∧ 0 ≤ (48 : Int) ∧ 0 + 48 ≤ ((48 : Nat) : Int) ∧ 0 + 48 ≤ ((48 : Nat) : Int)) ∧
  (0 ≤ (0 : Int) ∧ 0 ≤ (0 : Int) ∧ 0 ≤ (48 : Int) ∧ 0 + 48 ≤ ((48 : Nat) : Int) ∧ 0 + 48 ≤ ((48 : Nat) : Int)) ∧
  (0 ≤ (0 : Int) ∧ 0 ≤ (0 : Int) ∧ 0 ≤ (48 : Int) ∧ 0 + 48 ≤ ((48 : Nat) : Int) ∧ 0 + 48 ≤ ((48 : Nat) : Int)) ∧
  (0 ≤ (0 : Int) ∧ 0 ≤ (0 : Int) ∧ 0 ≤ (192 : Int) ∧ 0 + 192 ≤ ((192 : Nat) : Int) ∧ 0 + 192 ≤ ((192 : Nat) : Int)) ∧
  (0 ≤ (0 : Int) ∧ 0 ≤ (0 : Int) ∧ 0 ≤ (3 : Int) ∧ 0 + 3 ≤ ((3 : Nat) : Int) ∧ 0 + 3 ≤ ((3 : Nat) : Int)) ∧
  (0 ≤ (0 : Int) ∧ 0 ≤ (0 : Int) ∧ 0 ≤ (4 : Int) ∧ 0 + 4 ≤ ((4 : Nat) : Int) ∧ 0 + 4 ≤ ((4 : Nat) : Int)) ∧
  post none (mh l) (mv_cp (mv_cp (mv_cp (mv_cp (mv_cp (mv_cp (mv_cp (mv_cp (mv_up (mv_up (mv_up (mv_up (mv_up M 45 0 (M 8 0)) 45 1 ((mv_up M 45 0 (M 8 0)) 8 1)) 45 2 ((mv_up (mv_up M 45 0 (M 8 0)) 45 1 ((mv_up M 45 0 (M 8 0)) 8 1)) 8 2)) 45 3 ((mv_up (mv_up (mv_up M 45 0 (M 8 0)) 45 1 ((mv_up M 45 0 (M 8 0)) 8 1)) 45 2 ((mv_up (mv_up M 45 0 (M 8 0)) 45 1 ((mv_up M 45 0 (M 8 0)) 8 1)) 8 2)) 8 3)) 45 4 ((mv_up (mv_up (mv_up (mv_up M 45 0 (M 8 0)) 45 1 ((mv_up M 45 0 (M 8 0)) 8 1)) 45 2 ((mv_up (mv_up M 45 0 (M 8 0)) 45 1 ((mv_up M 45 0 (M 8 0)) 8 1)) 8 2)) 45 3 ((mv_up (mv_up (mv_up M 45 0 (M 8 0)) 45 1 ((mv_up M 45 0 (M 8 0)) 8 1)) 45 2 ((mv_up (mv_up M 45 0 (M 8 0)) 45 1 ((mv_up M 45 0 (M 8 0)) 8 1)) 8 2)) 8 3)) 8 4)) 9 (Int.toNat 0) 46 (Int.toNat 0) (Int.toNat 48)) 10 (Int.toNat 0) 47 (Int.toNat 0) (Int.toNat 48)) 11 (Int.toNat 0) 48 (Int.toNat 0) (Int.toNat 48)) 12 (Int.toNat 0) 49 (Int.toNat 0) (Int.toNat 48)) 13 (Int.toNat 0) 50 (Int.toNat 0) (Int.toNat 48)) 14 (Int.toNat 0) 51 (Int.toNat 0) (Int.toNat 192)) 15 (Int.toNat 0) 52 (Int.toNat 0) (Int.toNat 3)) 16 (Int.toNat 0) 53 (Int.toNat 0) (Int.toNat 4))) :
    mv_Wp G 3 [.inr (.inr 45), .inr (.inr 8)] (mh l) M post := mv_wp [] 105 ok_3 oc_3 rfl h
set_option maxRecDepth 100000 in
theorem vw_X0_takeFrom_o {G : mv_G} {l : Nat} {post : Option mv_V → mv_SH → mv_Mem → Prop} {M : mv_Mem} (h : (0 ≤ (0 : Int) ∧ 0 ≤ (0 : Int) ∧ 0 ≤ (48 : Int) ∧ 0 + 48 ≤ ((48 : Nat) : Int) ∧ 0 + 48 ≤ ((48 : Nat) : Int)) ∧
  (0 ≤ (0 : Int) ∧ 0 ≤ (0 : Int) ∧ 0 ≤ (48 : Int) ∧ 0 + 48 ≤ ((48 : Nat) : Int) ∧ 0 + 48 ≤ ((48 : Nat) : Int)) ∧
  (0 ≤ (0 : Int) ∧ 0 ≤ (0 : Int) ∧ 0 ≤ (48 : Int) ∧ 0 + 48 ≤ ((48 : Nat) : Int) ∧ 0 + 48 ≤ ((48 : Nat) : Int)) ∧
  (0 ≤ (0 : Int) ∧ 0 ≤ (0 : Int) ∧ 0 ≤ (48 : Int) ∧ 0 + 48 ≤ ((48 : Nat) : Int) ∧ 0 + 48 ≤ ((48 : Nat) : Int)) ∧
  (0 ≤ (0 : Int) ∧ 0 ≤ (0 : Int) ∧ 0 ≤ (48 : Int) ∧ 0 + 48 ≤ ((48 : Nat) : Int) ∧ 0 + 48 ≤ ((48 : Nat) : Int)) ∧
  (0 ≤ (0 : Int) ∧ 0 ≤ (0 : Int) ∧ 0 ≤ (192 : Int) ∧ 0 + 192 ≤ ((192 : Nat) : Int) ∧ 0 + 192 ≤ ((192 : Nat) : Int)) ∧
  (0 ≤ (0 : Int) ∧ 0 ≤ (0 : Int) ∧ 0 ≤ (3 : Int) ∧ 0 + 3 ≤ ((3 : Nat) : Int) ∧ 0 + 3 ≤ ((3 : Nat) : Int)) ∧
  (0 ≤ (0 : Int) ∧ 0 ≤ (0 : Int) ∧ 0 ≤ (4 : Int) ∧ 0 + 4 ≤ ((4 : Nat) : Int) ∧ 0 + 4 ≤ ((4 : Nat) : Int)) ∧
  post none (mh l) (mv_cp (mv_cp (mv_cp (mv_cp (mv_cp (mv_cp (mv_cp (mv_cp (mv_up (mv_up (mv_up (mv_up (mv_up M 8 0 (M 45 0)) 8 1 ((mv_up M 8 0 (M 45 0)) 45 1)) 8 2 ((mv_up (mv_up M 8 0 (M 45 0)) 8 1 ((mv_up M 8 0 (M 45 0)) 45 1)) 45 2)) 8 3 ((mv_up (mv_up (mv_up M 8 0 (M 45 0)) 8 1 ((mv_up M 8 0 (M 45 0)) 45 1)) 8 2 ((mv_up (mv_up M 8 0 (M 45 0)) 8 1 ((mv_up M 8 0 (M 45 0)) 45 1)) 45 2)) 45 3)) 8 4 ((mv_up (mv_up (mv_up (mv_up M 8 0 (M 45 0)) 8 1 ((mv_up M 8 0 (M 45 0)) 45 1)) 8 2 ((mv_up (mv_up M 8 0 (M 45 0)) 8 1 ((mv_up M 8 0 (M 45 0)) 45 1)) 45 2)) 8 3 ((mv_up (mv_up (mv_up M 8 0 (M 45 0)) 8 1 ((mv_up M 8 0 (M 45 0)) 45 1)) 8 2 ((mv_up (mv_up M 8 0 (M 45 0)) 8 1 ((mv_up M 8 0 (M 45 0)) 45 1)) 45 2)) 45 3)) 45 4)) 46 (Int.toNat 0) 9 (Int.toNat 0) (Int.toNat 48)) 47 (Int.toNat 0) 10 (Int.toNat 0) (Int.toNat 48)) 48 (Int.toNat 0) 11 (Int.toNat 0) (Int.toNat 48)) 49 (Int.toNat 0) 12 (Int.toNat 0) (Int.toNat 48)) 50 (Int.toNat 0) 13 (Int.toNat 0) (Int.toNat 48)) 51 (Int.toNat 0) 14 (Int.toNat 0) (Int.toNat 192)) 52 (Int.toNat 0) 15 (Int.toNat 0) (Int.toNat 3)) 53 (Int.toNat 0) 16 (Int.toNat 0) (Int.toNat 4))) :
    mv_Wp G 3 [.inr (.inr 8), .inr (.inr 45)] (mh l) M post := mv_wp [] 105 ok_3 oc_3 rfl h
set_option maxRecDepth 100000 in
theorem vw_X0_placeOf {G : mv_G} {l : Nat} {post : Option mv_V → mv_SH → mv_Mem → Prop} {M : mv_Mem} {a : Int} (h : (if a < 0 then
    post (some (.inl (-1))) (mh l) M
  else
    (¬ (10 : Int) = 0 ∧ mv_R32 (Int.tdiv a 10)) ∧
    (if (M 8 0) ≤ (Int.tdiv a 10) then
      post (some (.inl (-1))) (mh l) M
    else
      ¬ (10 : Int) = 0 ∧
      (if (Int.tmod a 10) < (M 8 1) then
        ¬ (10 : Int) = 0 ∧
        mv_R32 ((Int.tmod a 10) * (M 8 0)) ∧
        (¬ (10 : Int) = 0 ∧ mv_R32 (Int.tdiv a 10)) ∧
        mv_R32 (((Int.tmod a 10) * (M 8 0)) + (Int.tdiv a 10)) ∧
        post (some (.inl (((Int.tmod a 10) * (M 8 0)) + (Int.tdiv a 10)))) (mh l) M
      else
        post (some (.inl (-1))) (mh l) M)))) :
    mv_Wp G 4 [.inr (.inr 8), .inl a] (mh l) M post := mv_wp [] 47 ok_4 oc_4 rfl h
set_option maxRecDepth 100000 in
theorem vw_X0_beside {G : mv_G} {l : Nat} {post : Option mv_V → mv_SH → mv_Mem → Prop} {M : mv_Mem} {a b : Int} (h : (0 ≤ (a : Int) ∧ (a : Int) < ((48 : Nat) : Int)) ∧
  (¬ (10 : Int) = 0 ∧ mv_R32 (Int.tdiv (M 9 (Int.toNat a)) 10)) ∧
  (0 ≤ (a : Int) ∧ (a : Int) < ((48 : Nat) : Int)) ∧
  ¬ (10 : Int) = 0 ∧
  (if b = 0 then
    mv_R32 ((Int.tdiv (M 9 (Int.toNat a)) 10) + 1) ∧
    (if (M 8 0) ≤ ((Int.tdiv (M 9 (Int.toNat a)) 10) + 1) then
      post (some (.inl (-1))) (mh l) M
    else
      mv_R32 (a + 1) ∧
      post (some (.inl (a + 1))) (mh l) M)
  else
    (if b = (0 + 1) then
    (if (Int.tdiv (M 9 (Int.toNat a)) 10) ≤ 0 then
      post (some (.inl (-1))) (mh l) M
    else
      mv_R32 (a - 1) ∧
      post (some (.inl (a - 1))) (mh l) M)
  else
    (if b = (0 + 1 + 1) then
    mv_R32 ((Int.tmod (M 9 (Int.toNat a)) 10) + 1) ∧
    (if (M 8 1) ≤ ((Int.tmod (M 9 (Int.toNat a)) 10) + 1) then
      post (some (.inl (-1))) (mh l) M
    else
      mv_R32 (a + (M 8 0)) ∧
      post (some (.inl (a + (M 8 0)))) (mh l) M)
  else
    (if (Int.tmod (M 9 (Int.toNat a)) 10) ≤ 0 then
    post (some (.inl (-1))) (mh l) M
  else
    mv_R32 (a - (M 8 0)) ∧
    post (some (.inl (a - (M 8 0)))) (mh l) M))))) :
    mv_Wp G 5 [.inr (.inr 8), .inl a, .inl b] (mh l) M post := mv_wp [] 78 ok_5 oc_5 rfl h
set_option maxRecDepth 100000 in
theorem vw_X0_sideTowards {G : mv_G} {l : Nat} {post : Option mv_V → mv_SH → mv_Mem → Prop} {M : mv_Mem} {a b : Int} (h : (if a = (-1) then
    post (some (.inl (-1))) (mh l) M
  else
    (if b = (-1) then
      post (some (.inl (-1))) (mh l) M
    else
      mv_Run G 6 87 4749 14 [(0, .inr (.inr 8)), (1, .inl a), (2, .inl b), (3, .inl 0)] [] (mh l) M post))) :
    mv_Wp G 6 [.inr (.inr 8), .inl a, .inl b] (mh l) M post := mv_wp [(14, [0, 1, 2, 3])] 45 ok_6 oc_6 rfl h
set_option maxRecDepth 100000 in
theorem vr_X0_sideTowards_14 {G : mv_G} {l : Nat} {post : Option mv_V → mv_SH → mv_Mem → Prop} {M : mv_Mem} {a b v3 : Int} (h : (if 4 ≤ v3 then
    post (some (.inl (-1))) (mh l) M
  else
    mv_Wp G 5 [.inr (.inr 8), .inl a, .inl v3] (mh l) M (mv_qi (mh l) fun x1 M1 =>
    (if x1 = b then
      post (some (.inl v3)) (mh l) M1
    else
      mv_R32 (v3 + 1) ∧
      mv_Run G 6 87 4749 14 [(0, .inr (.inr 8)), (1, .inl a), (2, .inl b), (3, .inl (v3 + 1))] [] (mh l) M1 post)))) :
    mv_Run G 6 87 4749 14 [(0, .inr (.inr 8)), (1, .inl a), (2, .inl b), (3, .inl v3)] [] (mh l) M post := mv_run [(14, [0, 1, 2, 3])] 45 ok_6 h
set_option maxRecDepth 100000 in
theorem vw_X0_roadAt {G : mv_G} {l : Nat} {post : Option mv_V → mv_SH → mv_Mem → Prop} {M : mv_Mem} {a b : Int} (h : mv_R32 (a * 4) ∧
  mv_R32 ((a * 4) + b) ∧
  (0 ≤ ((a * 4) + b : Int) ∧ ((a * 4) + b : Int) < ((192 : Nat) : Int)) ∧
  (if (M 14 (Int.toNat ((a * 4) + b))) = 4 then
    post (some (.inl 3)) (mh l) M
  else
    post (some (.inl (M 14 (Int.toNat ((a * 4) + b))))) (mh l) M)) :
    mv_Wp G 7 [.inr (.inr 8), .inl a, .inl b] (mh l) M post := mv_wp [] 36 ok_7 oc_7 rfl h
set_option maxRecDepth 100000 in
theorem vw_X0_layRoad {G : mv_G} {l : Nat} {post : Option mv_V → mv_SH → mv_Mem → Prop} {M : mv_Mem} {a b c : Int} (h : mv_Wp G 5 [.inr (.inr 8), .inl a, .inl b] (mh l) M (mv_qi (mh l) fun x1 M1 =>
  (if x1 = (-1) then
    post none (mh l) M1
  else
    mv_R32 (a * 4) ∧
    mv_R32 ((a * 4) + b) ∧
    (0 ≤ ((a * 4) + b : Int) ∧ ((a * 4) + b : Int) < ((192 : Nat) : Int)) ∧
    mv_R32 (x1 * 4) ∧
    mv_R32 ((x1 * 4) + (mv_xor b 1)) ∧
    (if c = 3 then
      (0 ≤ ((x1 * 4) + (mv_xor b 1) : Int) ∧ ((x1 * 4) + (mv_xor b 1) : Int) < ((192 : Nat) : Int)) ∧
      post none (mh l) (mv_up (mv_up M1 14 (Int.toNat ((a * 4) + b)) c) 14 (Int.toNat ((x1 * 4) + (mv_xor b 1))) 4)
    else
      (0 ≤ ((x1 * 4) + (mv_xor b 1) : Int) ∧ ((x1 * 4) + (mv_xor b 1) : Int) < ((192 : Nat) : Int)) ∧
      post none (mh l) (mv_up (mv_up M1 14 (Int.toNat ((a * 4) + b)) c) 14 (Int.toNat ((x1 * 4) + (mv_xor b 1))) c))))) :
    mv_Wp G 8 [.inr (.inr 8), .inl a, .inl b, .inl c] (mh l) M post := mv_wp [] 54 ok_8 oc_8 rfl h
set_option maxRecDepth 100000 in
theorem vw_X0_marketOn {G : mv_G} {l : Nat} {post : Option mv_V → mv_SH → mv_Mem → Prop} {M : mv_Mem} {a : Int} (h : mv_Run G 9 87 4749 2 [(0, .inr (.inr 8)), (1, .inl a), (2, .inl 0)] [] (mh l) M post) :
    mv_Wp G 9 [.inr (.inr 8), .inl a] (mh l) M post := mv_wp [(2, [0, 1, 2])] 38 ok_9 oc_9 rfl h
set_option maxRecDepth 100000 in
theorem vr_X0_marketOn_2 {G : mv_G} {l : Nat} {post : Option mv_V → mv_SH → mv_Mem → Prop} {M : mv_Mem} {a v2 : Int} (h : (if (M 8 4) ≤ v2 then
    post (some (.inl (-9))) (mh l) M
  else
    (0 ≤ (v2 : Int) ∧ (v2 : Int) < ((3 : Nat) : Int)) ∧
    (if (M 15 (Int.toNat v2)) = a then
      post (some (.inl v2)) (mh l) M
    else
      mv_R32 (v2 + 1) ∧
      mv_Run G 9 87 4749 2 [(0, .inr (.inr 8)), (1, .inl a), (2, .inl (v2 + 1))] [] (mh l) M post))) :
    mv_Run G 9 87 4749 2 [(0, .inr (.inr 8)), (1, .inl a), (2, .inl v2)] [] (mh l) M post := mv_run [(2, [0, 1, 2])] 38 ok_9 h
set_option maxRecDepth 100000 in
theorem vw_X0_idleAcres {G : mv_G} {l : Nat} {post : Option mv_V → mv_SH → mv_Mem → Prop} {M : mv_Mem} (h : mv_Run G 10 87 4749 4 [(0, .inr (.inr 8)), (1, .inl 0), (2, .inl 0)] [] (mh l) M post) :
    mv_Wp G 10 [.inr (.inr 8)] (mh l) M post := mv_wp [(4, [0, 1, 2])] 39 ok_10 oc_10 rfl h
set_option maxRecDepth 100000 in
theorem vr_X0_idleAcres_4 {G : mv_G} {l : Nat} {post : Option mv_V → mv_SH → mv_Mem → Prop} {M : mv_Mem} {v1 v2 : Int} (h : (if (M 8 2) ≤ v2 then
    post (some (.inl v1)) (mh l) M
  else
    (0 ≤ (v2 : Int) ∧ (v2 : Int) < ((48 : Nat) : Int)) ∧
    mv_R32 (v1 + (M 13 (Int.toNat v2))) ∧
    mv_R32 (v2 + 1) ∧
    mv_Run G 10 87 4749 4 [(0, .inr (.inr 8)), (1, .inl (v1 + (M 13 (Int.toNat v2)))), (2, .inl (v2 + 1))] [] (mh l) M post)) :
    mv_Run G 10 87 4749 4 [(0, .inr (.inr 8)), (1, .inl v1), (2, .inl v2)] [] (mh l) M post := mv_run [(4, [0, 1, 2])] 39 ok_10 h
set_option maxRecDepth 100000 in
theorem vw_X1_forgetWays {G : mv_G} {l : Nat} {post : Option mv_V → mv_SH → mv_Mem → Prop} {M : mv_Mem} (h : ((0 : Int) = 0 ∨ (0 : Int) = 1) ∧
  ((0 : Int) = 0 ∨ (0 : Int) = 1) ∧
  post none (mh l) (mv_up (mv_up M 6 6 0) 6 7 0)) :
    mv_Wp G 12 [.inr (.inr 6)] (mh l) M post := mv_wp [] 27 ok_12 oc_12 rfl h
set_option maxRecDepth 100000 in
theorem vw_X1_forgetBids {G : mv_G} {l : Nat} {post : Option mv_V → mv_SH → mv_Mem → Prop} {M : mv_Mem} (h : ((0 : Int) = 0 ∨ (0 : Int) = 1) ∧
  post none (mh l) (mv_up M 6 7 0)) :
    mv_Wp G 13 [.inr (.inr 6)] (mh l) M post := mv_wp [] 24 ok_13 oc_13 rfl h
set_option maxRecDepth 100000 in
theorem vw_X1_settle {G : mv_G} {l : Nat} {post : Option mv_V → mv_SH → mv_Mem → Prop} {M : mv_Mem} (h : (if (M 6 6) = 0 then
    mv_Wp G 68 [.inr (.inr 35), .inr (.inr 8)] (mh l) M (mv_qv (mh l) fun M2 =>
    mv_Wp G 69 [.inr (.inr 35), .inr (.inr 8)] (mh l) M2 (mv_qv (mh l) fun M3 =>
    ((1 : Int) = 0 ∨ (1 : Int) = 1) ∧
    (if ((mv_up M3 6 6 1) 6 7) = 0 then
      mv_Wp G 15 [.inr (.inr 6)] (mh l) (mv_up M3 6 6 1) (mv_qv (mh l) fun M4 =>
      ((1 : Int) = 0 ∨ (1 : Int) = 1) ∧
      post none (mh l) (mv_up M4 6 7 1))
    else
      post none (mh l) (mv_up M3 6 6 1))))
  else
    (if (M 6 7) = 0 then
      mv_Wp G 15 [.inr (.inr 6)] (mh l) M (mv_qv (mh l) fun M1 =>
      ((1 : Int) = 0 ∨ (1 : Int) = 1) ∧
      post none (mh l) (mv_up M1 6 7 1))
    else
      post none (mh l) M))) :
    mv_Wp G 14 [.inr (.inr 6)] (mh l) M post := mv_wp [] 45 ok_14 oc_14 rfl h
set_option maxRecDepth 100000 in
theorem vw_X1_reckonBids {G : mv_G} {l : Nat} {post : Option mv_V → mv_SH → mv_Mem → Prop} {M : mv_Mem} (h : mv_Run G 15 87 4749 2 [(0, .inr (.inr 6)), (1, .inl 0)] [] (mh l) M post) :
    mv_Wp G 15 [.inr (.inr 6)] (mh l) M post := mv_wp [(2, [0, 1]), (41, [0, 1])] 58 ok_15 oc_15 rfl h
set_option maxRecDepth 100000 in
theorem vr_X1_reckonBids_2 {G : mv_G} {l : Nat} {post : Option mv_V → mv_SH → mv_Mem → Prop} {M : mv_Mem} {v1 : Int} (h : mv_R32 ((M 17 0) * 3) ∧
  (if ((M 17 0) * 3) ≤ v1 then
    mv_Run G 15 87 4749 41 [(0, .inr (.inr 6)), (1, .inl 0)] [] (mh l) M post
  else
    ¬ (3 : Int) = 0 ∧
    (if (M 8 4) ≤ (Int.tmod v1 3) then
      mv_R32 (v1 + 1) ∧
      mv_Run G 15 87 4749 2 [(0, .inr (.inr 6)), (1, .inl (v1 + 1))] [] (mh l) M post
    else
      mv_Wp G 16 [.inr (.inr 6), .inl v1] (mh l) M (mv_qv (mh l) fun M1 =>
      mv_R32 (v1 + 1) ∧
      mv_Run G 15 87 4749 2 [(0, .inr (.inr 6)), (1, .inl (v1 + 1))] [] (mh l) M1 post)))) :
    mv_Run G 15 87 4749 2 [(0, .inr (.inr 6)), (1, .inl v1)] [] (mh l) M post := mv_run [(2, [0, 1]), (41, [0, 1])] 58 ok_15 h
set_option maxRecDepth 100000 in
theorem vr_X1_reckonBids_41 {G : mv_G} {l : Nat} {post : Option mv_V → mv_SH → mv_Mem → Prop} {M : mv_Mem} {v1 : Int} (h : (if (M 8 2) ≤ v1 then
    post none (mh l) M
  else
    mv_Wp G 18 [.inr (.inr 6), .inl v1] (mh l) M (mv_qi (mh l) fun x1 M1 =>
    (0 ≤ (v1 : Int) ∧ (v1 : Int) < ((48 : Nat) : Int)) ∧
    mv_R32 (v1 + 1) ∧
    mv_Run G 15 87 4749 41 [(0, .inr (.inr 6)), (1, .inl (v1 + 1))] [] (mh l) (mv_up M1 43 (Int.toNat v1) x1) post))) :
    mv_Run G 15 87 4749 41 [(0, .inr (.inr 6)), (1, .inl v1)] [] (mh l) M post := mv_run [(2, [0, 1]), (41, [0, 1])] 58 ok_15 h
set_option maxRecDepth 100000 in
theorem vw_X1_reckonOffer {G : mv_G} {l : Nat} {post : Option mv_V → mv_SH → mv_Mem → Prop} {M : mv_Mem} {a : Int} (h : (¬ (3 : Int) = 0 ∧ mv_R32 (Int.tdiv a 3)) ∧
  mv_Run G 16 87 4749 6 [(0, .inr (.inr 6)), (1, .inl a), (2, .inl (Int.tdiv a 3)), (3, .inl 0)] [] (mh l) M post) :
    mv_Wp G 16 [.inr (.inr 6), .inl a] (mh l) M post := mv_wp [(6, [0, 1, 2, 3])] 77 ok_16 oc_16 rfl h
set_option maxRecDepth 100000 in
theorem vr_X1_reckonOffer_6 {G : mv_G} {l : Nat} {post : Option mv_V → mv_SH → mv_Mem → Prop} {M : mv_Mem} {a v2 v3 : Int} (h : (if (M 8 2) ≤ v3 then
    post none (mh l) M
  else
    mv_Wp G 17 [.inr (.inr 6), .inl a, .inl v3] (mh l) M (mv_qi (mh l) fun x1 M1 =>
    mv_Wp G 65 [.inr (.inr 17), .inl v2, .inl x1] (mh l) M1 (mv_qi (mh l) fun x2 M2 =>
    (if x2 = 0 then
      mv_R32 (a * 48) ∧
      mv_R32 ((a * 48) + v3) ∧
      (0 ≤ ((a * 48) + v3 : Int) ∧ ((a * 48) + v3 : Int) < ((864 : Nat) : Int)) ∧
      mv_R32 (v3 + 1) ∧
      mv_Run G 16 87 4749 6 [(0, .inr (.inr 6)), (1, .inl a), (2, .inl v2), (3, .inl (v3 + 1))] [] (mh l) (mv_up M2 42 (Int.toNat ((a * 48) + v3)) 0) post
    else
      (0 ≤ (v3 : Int) ∧ (v3 : Int) < ((48 : Nat) : Int)) ∧
      mv_Wp G 63 [.inr (.inr 17), .inl a, .inl (M2 10 (Int.toNat v3))] (mh l) M2 (mv_ql (mh l) fun x3 M3 =>
      mv_Wp G 64 [.inr (.inr 17), .inl v2, .inl (M2 10 (Int.toNat v3))] (mh l) M3 (mv_ql (mh l) fun x4 M4 =>
      mv_R64 (x4 * x1) ∧
      mv_R64 (x3 - (x4 * x1)) ∧
      mv_R32 (a * 48) ∧
      mv_R32 ((a * 48) + v3) ∧
      (0 ≤ ((a * 48) + v3 : Int) ∧ ((a * 48) + v3 : Int) < ((864 : Nat) : Int)) ∧
      mv_R32 (v3 + 1) ∧
      mv_Run G 16 87 4749 6 [(0, .inr (.inr 6)), (1, .inl a), (2, .inl v2), (3, .inl (v3 + 1))] [] (mh l) (mv_up M4 42 (Int.toNat ((a * 48) + v3)) (x3 - (x4 * x1))) post))))))) :
    mv_Run G 16 87 4749 6 [(0, .inr (.inr 6)), (1, .inl a), (2, .inl v2), (3, .inl v3)] [] (mh l) M post := mv_run [(6, [0, 1, 2, 3])] 77 ok_16 h
set_option maxRecDepth 100000 in
theorem vw_X1_wayOf {G : mv_G} {l : Nat} {post : Option mv_V → mv_SH → mv_Mem → Prop} {M : mv_Mem} {a b : Int} (h : ¬ (3 : Int) = 0 ∧
  mv_R32 ((Int.tmod a 3) * 48) ∧
  mv_R32 (((Int.tmod a 3) * 48) + b) ∧
  (¬ (3 : Int) = 0 ∧ mv_R32 (Int.tdiv a 3)) ∧
  (0 ≤ (Int.tdiv a 3 : Int) ∧ (Int.tdiv a 3 : Int) < ((6 : Nat) : Int)) ∧
  (if (M 18 (Int.toNat (Int.tdiv a 3))) = 1 then
    (0 ≤ (((Int.tmod a 3) * 48) + b : Int) ∧ (((Int.tmod a 3) * 48) + b : Int) < ((144 : Nat) : Int)) ∧
    post (some (.inl (M 37 (Int.toNat (((Int.tmod a 3) * 48) + b))))) (mh l) M
  else
    (0 ≤ (((Int.tmod a 3) * 48) + b : Int) ∧ (((Int.tmod a 3) * 48) + b : Int) < ((144 : Nat) : Int)) ∧
    post (some (.inl (M 36 (Int.toNat (((Int.tmod a 3) * 48) + b))))) (mh l) M)) :
    mv_Wp G 17 [.inr (.inr 6), .inl a, .inl b] (mh l) M post := mv_wp [] 49 ok_17 oc_17 rfl h
set_option maxRecDepth 100000 in
theorem vw_X1_takerOf {G : mv_G} {l : Nat} {post : Option mv_V → mv_SH → mv_Mem → Prop} {M : mv_Mem} {a : Int} (h : (0 ≤ (a : Int) ∧ (a : Int) < ((48 : Nat) : Int)) ∧
  (if (M 13 (Int.toNat a)) = 0 then
    mv_Wp G 19 [.inr (.inr 6), .inl a, .inl (-1)] (mh l) M (mv_qi (mh l) fun x1 M1 =>
    post (some (.inl x1)) (mh l) M1)
  else
    post (some (.inl (-1))) (mh l) M)) :
    mv_Wp G 18 [.inr (.inr 6), .inl a] (mh l) M post := mv_wp [] 33 ok_18 oc_18 rfl h
set_option maxRecDepth 100000 in
theorem vw_X1_greatest {G : mv_G} {l : Nat} {post : Option mv_V → mv_SH → mv_Mem → Prop} {M : mv_Mem} {a b : Int} (h : mv_Run G 19 87 4749 8 [(0, .inr (.inr 6)), (1, .inl a), (2, .inl b), (3, .inl (-1)), (4, .inr (.inl 0)), (6, .inl 0)] [] (mh l) M post) :
    mv_Wp G 19 [.inr (.inr 6), .inl a, .inl b] (mh l) M post := mv_wp [(8, [0, 1, 2, 3, 4, 6])] 64 ok_19 oc_19 rfl h
set_option maxRecDepth 100000 in
theorem vr_X1_greatest_8 {G : mv_G} {l : Nat} {post : Option mv_V → mv_SH → mv_Mem → Prop} {M : mv_Mem} {a b v3 v4 v6 : Int} (h : mv_R32 ((M 17 0) * 3) ∧
  (if ((M 17 0) * 3) ≤ v6 then
    post (some (.inl v3)) (mh l) M
  else
    mv_R32 (v6 * 48) ∧
    mv_R32 ((v6 * 48) + a) ∧
    (0 ≤ ((v6 * 48) + a : Int) ∧ ((v6 * 48) + a : Int) < ((864 : Nat) : Int)) ∧
    (if (mv_cmp (M 42 (Int.toNat ((v6 * 48) + a))) v4) ≤ 0 then
      mv_R32 (v6 + 1) ∧
      mv_Run G 19 87 4749 8 [(0, .inr (.inr 6)), (1, .inl a), (2, .inl b), (3, .inl v3), (4, .inr (.inl v4)), (6, .inl (v6 + 1))] [] (mh l) M post
    else
      (if v6 = b then
        mv_R32 (v6 + 1) ∧
        mv_Run G 19 87 4749 8 [(0, .inr (.inr 6)), (1, .inl a), (2, .inl b), (3, .inl v3), (4, .inr (.inl v4)), (6, .inl (v6 + 1))] [] (mh l) M post
      else
        ¬ (3 : Int) = 0 ∧
        (if (M 8 4) ≤ (Int.tmod v6 3) then
          mv_R32 (v6 + 1) ∧
          mv_Run G 19 87 4749 8 [(0, .inr (.inr 6)), (1, .inl a), (2, .inl b), (3, .inl v3), (4, .inr (.inl v4)), (6, .inl (v6 + 1))] [] (mh l) M post
        else
          mv_R32 (v6 + 1) ∧
          mv_Run G 19 87 4749 8 [(0, .inr (.inr 6)), (1, .inl a), (2, .inl b), (3, .inl v6), (4, .inr (.inl (M 42 (Int.toNat ((v6 * 48) + a))))), (6, .inl (v6 + 1))] [] (mh l) M post))))) :
    mv_Run G 19 87 4749 8 [(0, .inr (.inr 6)), (1, .inl a), (2, .inl b), (3, .inl v3), (4, .inr (.inl v4)), (6, .inl v6)] [] (mh l) M post := mv_run [(8, [0, 1, 2, 3, 4, 6])] 64 ok_19 h
set_option maxRecDepth 100000 in
theorem vw_X1_rentAt {G : mv_G} {l : Nat} {post : Option mv_V → mv_SH → mv_Mem → Prop} {M : mv_Mem} {a : Int} (h : (0 ≤ (a : Int) ∧ (a : Int) < ((48 : Nat) : Int)) ∧
  mv_Wp G 21 [.inr (.inr 6), .inl (M 43 (Int.toNat a)), .inl a] (mh l) M (mv_ql (mh l) fun x1 M1 =>
  post (some (.inr (.inl x1))) (mh l) M1)) :
    mv_Wp G 20 [.inr (.inr 6), .inl a] (mh l) M post := mv_wp [] 28 ok_20 oc_20 rfl h
set_option maxRecDepth 100000 in
theorem vw_X1_rentBy {G : mv_G} {l : Nat} {post : Option mv_V → mv_SH → mv_Mem → Prop} {M : mv_Mem} {a b : Int} (h : (if a = (-1) then
    post (some (.inr (.inl 0))) (mh l) M
  else
    mv_R32 (a * 48) ∧
    mv_R32 ((a * 48) + b) ∧
    (0 ≤ ((a * 48) + b : Int) ∧ ((a * 48) + b : Int) < ((864 : Nat) : Int)) ∧
    mv_R64 ((M 42 (Int.toNat ((a * 48) + b))) * (M 17 1)) ∧
    (¬ (100 : Int) = 0 ∧ mv_R64 (Int.tdiv ((M 42 (Int.toNat ((a * 48) + b))) * (M 17 1)) 100)) ∧
    mv_R64 ((M 42 (Int.toNat ((a * 48) + b))) - (Int.tdiv ((M 42 (Int.toNat ((a * 48) + b))) * (M 17 1)) 100)) ∧
    post (some (.inr (.inl ((M 42 (Int.toNat ((a * 48) + b))) - (Int.tdiv ((M 42 (Int.toNat ((a * 48) + b))) * (M 17 1)) 100))))) (mh l) M)) :
    mv_Wp G 21 [.inr (.inr 6), .inl a, .inl b] (mh l) M post := mv_wp [] 45 ok_21 oc_21 rfl h
set_option maxRecDepth 100000 in
theorem vw_X1_allRents {G : mv_G} {l : Nat} {post : Option mv_V → mv_SH → mv_Mem → Prop} {M : mv_Mem} (h : mv_Run G 22 87 4749 4 [(0, .inr (.inr 6)), (1, .inr (.inl 0)), (3, .inl 0)] [] (mh l) M post) :
    mv_Wp G 22 [.inr (.inr 6)] (mh l) M post := mv_wp [(4, [0, 1, 3])] 39 ok_22 oc_22 rfl h
set_option maxRecDepth 100000 in
theorem vr_X1_allRents_4 {G : mv_G} {l : Nat} {post : Option mv_V → mv_SH → mv_Mem → Prop} {M : mv_Mem} {v1 v3 : Int} (h : (if (M 8 2) ≤ v3 then
    post (some (.inr (.inl v1))) (mh l) M
  else
    mv_Wp G 20 [.inr (.inr 6), .inl v3] (mh l) M (mv_ql (mh l) fun x1 M1 =>
    mv_R64 (v1 + x1) ∧
    mv_R32 (v3 + 1) ∧
    mv_Run G 22 87 4749 4 [(0, .inr (.inr 6)), (1, .inr (.inl (v1 + x1))), (3, .inl (v3 + 1))] [] (mh l) M1 post))) :
    mv_Run G 22 87 4749 4 [(0, .inr (.inr 6)), (1, .inr (.inl v1)), (3, .inl v3)] [] (mh l) M post := mv_run [(4, [0, 1, 3])] 39 ok_22 h
set_option maxRecDepth 100000 in
theorem vw_X1_rentsOf {G : mv_G} {l : Nat} {post : Option mv_V → mv_SH → mv_Mem → Prop} {M : mv_Mem} {a : Int} (h : mv_Run G 23 87 4749 5 [(0, .inr (.inr 6)), (1, .inl a), (2, .inr (.inl 0)), (4, .inl 0)] [] (mh l) M post) :
    mv_Wp G 23 [.inr (.inr 6), .inl a] (mh l) M post := mv_wp [(5, [0, 1, 2, 4])] 49 ok_23 oc_23 rfl h
set_option maxRecDepth 100000 in
theorem vr_X1_rentsOf_5 {G : mv_G} {l : Nat} {post : Option mv_V → mv_SH → mv_Mem → Prop} {M : mv_Mem} {a v2 v4 : Int} (h : (if (M 8 2) ≤ v4 then
    post (some (.inr (.inl v2))) (mh l) M
  else
    (0 ≤ (v4 : Int) ∧ (v4 : Int) < ((48 : Nat) : Int)) ∧
    (if (M 12 (Int.toNat v4)) = a then
      mv_Wp G 18 [.inr (.inr 6), .inl v4] (mh l) M (mv_qi (mh l) fun x1 M1 =>
      mv_Wp G 21 [.inr (.inr 6), .inl x1, .inl v4] (mh l) M1 (mv_ql (mh l) fun x2 M2 =>
      mv_R64 (v2 + x2) ∧
      mv_R32 (v4 + 1) ∧
      mv_Run G 23 87 4749 5 [(0, .inr (.inr 6)), (1, .inl a), (2, .inr (.inl (v2 + x2))), (4, .inl (v4 + 1))] [] (mh l) M2 post))
    else
      mv_R32 (v4 + 1) ∧
      mv_Run G 23 87 4749 5 [(0, .inr (.inr 6)), (1, .inl a), (2, .inr (.inl v2)), (4, .inl (v4 + 1))] [] (mh l) M post))) :
    mv_Run G 23 87 4749 5 [(0, .inr (.inr 6)), (1, .inl a), (2, .inr (.inl v2)), (4, .inl v4)] [] (mh l) M post := mv_run [(5, [0, 1, 2, 4])] 49 ok_23 h
set_option maxRecDepth 100000 in
theorem vw_X1_isTakenBy {G : mv_G} {l : Nat} {post : Option mv_V → mv_SH → mv_Mem → Prop} {M : mv_Mem} {a b : Int} (h : (0 ≤ (b : Int) ∧ (b : Int) < ((48 : Nat) : Int)) ∧
  (if (M 43 (Int.toNat b)) = (-1) then
    ((0 : Int) = 0 ∨ (0 : Int) = 1) ∧ post (some (.inl 0)) (mh l) M
  else
    (0 ≤ (b : Int) ∧ (b : Int) < ((48 : Nat) : Int)) ∧
    (¬ (3 : Int) = 0 ∧ mv_R32 (Int.tdiv (M 43 (Int.toNat b)) 3)) ∧
    (if (Int.tdiv (M 43 (Int.toNat b)) 3) = a then
      ((1 : Int) = 0 ∨ (1 : Int) = 1) ∧ post (some (.inl 1)) (mh l) M
    else
      ((0 : Int) = 0 ∨ (0 : Int) = 1) ∧ post (some (.inl 0)) (mh l) M))) :
    mv_Wp G 25 [.inr (.inr 6), .inl a, .inl b] (mh l) M post := mv_wp [] 38 ok_25 oc_25 rfl h
set_option maxRecDepth 100000 in
theorem vw_X1_wasteAcres {G : mv_G} {l : Nat} {post : Option mv_V → mv_SH → mv_Mem → Prop} {M : mv_Mem} (h : mv_Run G 29 87 4749 4 [(0, .inr (.inr 6)), (1, .inl 0), (2, .inl 0)] [] (mh l) M post) :
    mv_Wp G 29 [.inr (.inr 6)] (mh l) M post := mv_wp [(4, [0, 1, 2])] 45 ok_29 oc_29 rfl h
set_option maxRecDepth 100000 in
theorem vr_X1_wasteAcres_4 {G : mv_G} {l : Nat} {post : Option mv_V → mv_SH → mv_Mem → Prop} {M : mv_Mem} {v1 v2 : Int} (h : (if (M 8 2) ≤ v2 then
    post (some (.inl v1)) (mh l) M
  else
    (0 ≤ (v2 : Int) ∧ (v2 : Int) < ((48 : Nat) : Int)) ∧
    (if (M 43 (Int.toNat v2)) = (-1) then
      mv_R32 (v1 + 1) ∧
      mv_R32 (v2 + 1) ∧
      mv_Run G 29 87 4749 4 [(0, .inr (.inr 6)), (1, .inl (v1 + 1)), (2, .inl (v2 + 1))] [] (mh l) M post
    else
      mv_R32 (v1 + 0) ∧
      mv_R32 (v2 + 1) ∧
      mv_Run G 29 87 4749 4 [(0, .inr (.inr 6)), (1, .inl (v1 + 0)), (2, .inl (v2 + 1))] [] (mh l) M post))) :
    mv_Run G 29 87 4749 4 [(0, .inr (.inr 6)), (1, .inl v1), (2, .inl v2)] [] (mh l) M post := mv_run [(4, [0, 1, 2])] 45 ok_29 h
set_option maxRecDepth 100000 in
theorem vw_X1_fallingWaste {G : mv_G} {l : Nat} {post : Option mv_V → mv_SH → mv_Mem → Prop} {M : mv_Mem} {a b : Int} (h : (0 ≤ (a : Int) ∧ (a : Int) < ((6 : Nat) : Int)) ∧
  (0 ≤ (a : Int) ∧ (a : Int) < ((6 : Nat) : Int)) ∧
  mv_Run G 30 87 4749 23 [(0, .inr (.inr 6)), (1, .inl a), (3, .inl (M 23 (Int.toNat a))), (4, .inl 0)] [] (mh l) (mv_up M 23 (Int.toNat a) b) post) :
    mv_Wp G 30 [.inr (.inr 6), .inl a, .inl b] (mh l) M post := mv_wp [(23, [0, 1, 3, 4]), (57, [0, 1, 3, 4, 5])] 79 ok_30 oc_30 rfl h
set_option maxRecDepth 100000 in
theorem vr_X1_fallingWaste_23 {G : mv_G} {l : Nat} {post : Option mv_V → mv_SH → mv_Mem → Prop} {M : mv_Mem} {a v3 v4 : Int} (h : (if (M 8 4) ≤ v4 then
    mv_Run G 30 87 4749 57 [(0, .inr (.inr 6)), (1, .inl a), (3, .inl v3), (4, .inl 0), (5, .inl 0)] [] (mh l) M post
  else
    mv_Wp G 131 [.inl a, .inl v4] (mh l) M (mv_qi (mh l) fun x1 M1 =>
    mv_Wp G 16 [.inr (.inr 6), .inl x1] (mh l) M1 (mv_qv (mh l) fun M2 =>
    mv_R32 (v4 + 1) ∧
    mv_Run G 30 87 4749 23 [(0, .inr (.inr 6)), (1, .inl a), (3, .inl v3), (4, .inl (v4 + 1))] [] (mh l) M2 post)))) :
    mv_Run G 30 87 4749 23 [(0, .inr (.inr 6)), (1, .inl a), (3, .inl v3), (4, .inl v4)] [] (mh l) M post := mv_run [(23, [0, 1, 3, 4]), (57, [0, 1, 3, 4, 5])] 79 ok_30 h
set_option maxRecDepth 100000 in
theorem vr_X1_fallingWaste_57 {G : mv_G} {l : Nat} {post : Option mv_V → mv_SH → mv_Mem → Prop} {M : mv_Mem} {a v3 v4 v5 : Int} (h : (if (M 8 2) ≤ v5 then
    (0 ≤ (a : Int) ∧ (a : Int) < ((6 : Nat) : Int)) ∧
    ((0 : Int) = 0 ∨ (0 : Int) = 1) ∧
    post (some (.inl v4)) (mh l) (mv_up (mv_up M 23 (Int.toNat a) v3) 6 7 0)
  else
    mv_Wp G 25 [.inr (.inr 6), .inl a, .inl v5] (mh l) M (mv_qi (mh l) fun x1 M1 =>
    (if x1 = 0 then
      mv_R32 (v5 + 1) ∧
      mv_Run G 30 87 4749 57 [(0, .inr (.inr 6)), (1, .inl a), (3, .inl v3), (4, .inl v4), (5, .inl (v5 + 1))] [] (mh l) M1 post
    else
      mv_Wp G 18 [.inr (.inr 6), .inl v5] (mh l) M1 (mv_qi (mh l) fun x2 M2 =>
      (if x2 = (-1) then
        mv_R32 (v4 + 1) ∧
        mv_R32 (v5 + 1) ∧
        mv_Run G 30 87 4749 57 [(0, .inr (.inr 6)), (1, .inl a), (3, .inl v3), (4, .inl (v4 + 1)), (5, .inl (v5 + 1))] [] (mh l) M2 post
      else
        mv_R32 (v5 + 1) ∧
        mv_Run G 30 87 4749 57 [(0, .inr (.inr 6)), (1, .inl a), (3, .inl v3), (4, .inl v4), (5, .inl (v5 + 1))] [] (mh l) M2 post)))))) :
    mv_Run G 30 87 4749 57 [(0, .inr (.inr 6)), (1, .inl a), (3, .inl v3), (4, .inl v4), (5, .inl v5)] [] (mh l) M post := mv_run [(23, [0, 1, 3, 4]), (57, [0, 1, 3, 4, 5])] 79 ok_30 h
set_option maxRecDepth 100000 in
theorem vw_X2_takeFrom_i {G : mv_G} {l : Nat} {post : Option mv_V → mv_SH → mv_Mem → Prop} {M : mv_Mem} (h : (0 ≤ (0 : Int) ∧ 0 ≤ (0 : Int) ∧ 0 ≤ (8 : Int) ∧ 0 + 8 ≤ ((8 : Nat) : Int) ∧ 0 + 8 ≤ ((8 : Nat) : Int)) ∧
  (0 ≤ (0 : Int) ∧ 0 ≤ (0 : Int) ∧ 0 ≤ (8 : Int) ∧ 0 + 8 ≤ ((8 : Nat) : Int) ∧ 0 + 8 ≤ ((8 : Nat) : Int)) ∧
  (0 ≤ (0 : Int) ∧ 0 ≤ (0 : Int) ∧ 0 ≤ (8 : Int) ∧ 0 + 8 ≤ ((8 : Nat) : Int) ∧ 0 + 8 ≤ ((8 : Nat) : Int)) ∧
  (0 ≤ (0 : Int) ∧ 0 ≤ (0 : Int) ∧ 0 ≤ (8 : Int) ∧ 0 + 8 ≤ ((8 : Nat) : Int) ∧ 0 + 8 ≤ ((8 : Nat) : Int)) ∧
  post none (mh l) (mv_cp (mv_cp (mv_cp (mv_cp (mv_up M 67 0 (M 30 0)) 31 (Int.toNat 0) 68 (Int.toNat 0) (Int.toNat 8)) 32 (Int.toNat 0) 69 (Int.toNat 0) (Int.toNat 8)) 33 (Int.toNat 0) 70 (Int.toNat 0) (Int.toNat 8)) 34 (Int.toNat 0) 71 (Int.toNat 0) (Int.toNat 8))) :
    mv_Wp G 33 [.inr (.inr 67), .inr (.inr 30)] (mh l) M post := mv_wp [] 57 ok_33 oc_33 rfl h
set_option maxRecDepth 100000 in
theorem vw_X2_takeFrom_o {G : mv_G} {l : Nat} {post : Option mv_V → mv_SH → mv_Mem → Prop} {M : mv_Mem} (h : (0 ≤ (0 : Int) ∧ 0 ≤ (0 : Int) ∧ 0 ≤ (8 : Int) ∧ 0 + 8 ≤ ((8 : Nat) : Int) ∧ 0 + 8 ≤ ((8 : Nat) : Int)) ∧
  (0 ≤ (0 : Int) ∧ 0 ≤ (0 : Int) ∧ 0 ≤ (8 : Int) ∧ 0 + 8 ≤ ((8 : Nat) : Int) ∧ 0 + 8 ≤ ((8 : Nat) : Int)) ∧
  (0 ≤ (0 : Int) ∧ 0 ≤ (0 : Int) ∧ 0 ≤ (8 : Int) ∧ 0 + 8 ≤ ((8 : Nat) : Int) ∧ 0 + 8 ≤ ((8 : Nat) : Int)) ∧
  (0 ≤ (0 : Int) ∧ 0 ≤ (0 : Int) ∧ 0 ≤ (8 : Int) ∧ 0 + 8 ≤ ((8 : Nat) : Int) ∧ 0 + 8 ≤ ((8 : Nat) : Int)) ∧
  post none (mh l) (mv_cp (mv_cp (mv_cp (mv_cp (mv_up M 30 0 (M 67 0)) 68 (Int.toNat 0) 31 (Int.toNat 0) (Int.toNat 8)) 69 (Int.toNat 0) 32 (Int.toNat 0) (Int.toNat 8)) 70 (Int.toNat 0) 33 (Int.toNat 0) (Int.toNat 8)) 71 (Int.toNat 0) 34 (Int.toNat 0) (Int.toNat 8))) :
    mv_Wp G 33 [.inr (.inr 30), .inr (.inr 67)] (mh l) M post := mv_wp [] 57 ok_33 oc_33 rfl h
set_option maxRecDepth 100000 in
theorem vw_X5_append {G : mv_G} {l : Nat} {post : Option mv_V → mv_SH → mv_Mem → Prop} {M : mv_Mem} {a b : Int} (h : mv_Run G 46 87 4749 6 [(0, .inr (.inr 2)), (1, .inl a), (4, .inr (.inl b)), (6, .inl 0)] [] (mh l) M post) :
    mv_Wp G 46 [.inr (.inr 2), .inl a, .inr (.inl b)] (mh l) M post := mv_wp [(6, [0, 1, 4, 6])] 53 ok_46 oc_46 rfl h
set_option maxRecDepth 100000 in
theorem vr_X5_append_6 {G : mv_G} {l : Nat} {post : Option mv_V → mv_SH → mv_Mem → Prop} {M : mv_Mem} {a v4 v6 : Int} (h : (if a ≤ v6 then
    post none (mh l) M
  else
    (if 60 ≤ (M 2 1) then
      post none (mh l) M
    else
      mv_R32 (mv_land v4 255) ∧
      (0 ≤ (M 2 1 : Int) ∧ (M 2 1 : Int) < ((60 : Nat) : Int)) ∧
      mv_R32 (((mv_up M 3 (Int.toNat (M 2 1)) (mv_land v4 255)) 2 1) + 1) ∧
      mv_R32 (v6 + 1) ∧
      mv_Run G 46 87 4749 6 [(0, .inr (.inr 2)), (1, .inl a), (4, .inr (.inl (mv_lushr v4 8))), (6, .inl (v6 + 1))] [] (mh l) (mv_up (mv_up M 3 (Int.toNat (M 2 1)) (mv_land v4 255)) 2 1 (((mv_up M 3 (Int.toNat (M 2 1)) (mv_land v4 255)) 2 1) + 1)) post))) :
    mv_Run G 46 87 4749 6 [(0, .inr (.inr 2)), (1, .inl a), (4, .inr (.inl v4)), (6, .inl v6)] [] (mh l) M post := mv_run [(6, [0, 1, 4, 6])] 53 ok_46 h
set_option maxRecDepth 100000 in
theorem vw_X5_firstFault {G : mv_G} {l : Nat} {post : Option mv_V → mv_SH → mv_Mem → Prop} {M : mv_Mem} (h : mv_Run G 47 87 4749 10 [(0, .inr (.inr 2)), (1, .inl 8), (2, .inl 0), (3, .inl 0), (4, .inl 0)] [] (mh l) M post) :
    mv_Wp G 47 [.inr (.inr 2)] (mh l) M post := mv_wp [(10, [0, 1, 2, 3, 4])] 84 ok_47 oc_47 rfl h
set_option maxRecDepth 100000 in
theorem vr_X5_firstFault_10 {G : mv_G} {l : Nat} {post : Option mv_V → mv_SH → mv_Mem → Prop} {M : mv_Mem} {v1 v2 v3 v4 : Int} (h : (if (M 2 1) ≤ v4 then
    (if v3 = 0 then
      post (some (.inl (M 2 1))) (mh l) M
    else
      (if v2 ≤ 0 then
        post (some (.inl (-1))) (mh l) M
      else
        (if v1 ≤ v3 then
          post (some (.inl (-1))) (mh l) M
        else
          post (some (.inl (M 2 1))) (mh l) M)))
  else
    (0 ≤ (v4 : Int) ∧ (v4 : Int) < ((60 : Nat) : Int)) ∧
    (if (M 3 (Int.toNat v4)) = 47 then
      (if v3 = 0 then
        post (some (.inl v4)) (mh l) M
      else
        (if v2 ≤ 0 then
          mv_R32 (v2 + 1) ∧
          (if (v2 + 1) = 6 then
            post (some (.inl v4)) (mh l) M
          else
            mv_R32 (v2 + 1) ∧
            mv_R32 (v4 + 1) ∧
            mv_Run G 47 87 4749 10 [(0, .inr (.inr 2)), (1, .inl v3), (2, .inl (v2 + 1)), (3, .inl 0), (4, .inl (v4 + 1))] [] (mh l) M post)
        else
          (if v3 < v1 then
            post (some (.inl v4)) (mh l) M
          else
            mv_R32 (v2 + 1) ∧
            (if (v2 + 1) = 6 then
              post (some (.inl v4)) (mh l) M
            else
              mv_R32 (v2 + 1) ∧
              mv_R32 (v4 + 1) ∧
              mv_Run G 47 87 4749 10 [(0, .inr (.inr 2)), (1, .inl v3), (2, .inl (v2 + 1)), (3, .inl 0), (4, .inl (v4 + 1))] [] (mh l) M post))))
    else
      (0 ≤ (v4 : Int) ∧ (v4 : Int) < ((60 : Nat) : Int)) ∧
      mv_Wp G 48 [.inl (M 3 (Int.toNat v4))] (mh l) M (mv_qi (mh l) fun x1 M1 =>
      (if x1 = 0 then
        post (some (.inl v4)) (mh l) M1
      else
        (if v3 = v1 then
          post (some (.inl v4)) (mh l) M1
        else
          mv_R32 (v3 + 1) ∧
          mv_R32 (v4 + 1) ∧
          mv_Run G 47 87 4749 10 [(0, .inr (.inr 2)), (1, .inl v1), (2, .inl v2), (3, .inl (v3 + 1)), (4, .inl (v4 + 1))] [] (mh l) M1 post)))))) :
    mv_Run G 47 87 4749 10 [(0, .inr (.inr 2)), (1, .inl v1), (2, .inl v2), (3, .inl v3), (4, .inl v4)] [] (mh l) M post := mv_run [(10, [0, 1, 2, 3, 4])] 84 ok_47 h
set_option maxRecDepth 100000 in
theorem vw_X5_isDigit {G : mv_G} {l : Nat} {post : Option mv_V → mv_SH → mv_Mem → Prop} {M : mv_Mem} {a : Int} (h : (if a < 48 then
    ((0 : Int) = 0 ∨ (0 : Int) = 1) ∧ post (some (.inl 0)) (mh l) M
  else
    (if 57 < a then
      ((0 : Int) = 0 ∨ (0 : Int) = 1) ∧ post (some (.inl 0)) (mh l) M
    else
      ((1 : Int) = 0 ∨ (1 : Int) = 1) ∧ post (some (.inl 1)) (mh l) M))) :
    mv_Wp G 48 [.inl a] (mh l) M post := mv_wp [] 30 ok_48 oc_48 rfl h
set_option maxRecDepth 100000 in
theorem vw_X6_clearingPrice {G : mv_G} {l : Nat} {post : Option mv_V → mv_SH → mv_Mem → Prop} {M : mv_Mem} {b : Int} (h : mv_Run G 50 87 4749 20 [(0, .inr (.inr 72)), (1, .inr (.inr 6)), (2, .inl b), (3, .inr (.inr 8)), (4, .inr (.inr 17)), (5, .inl 0)] [] (mh l) M post) :
    mv_Wp G 50 [.inr (.inr 72), .inr (.inr 6), .inl b] (mh l) M post := mv_wp [(20, [0, 1, 2, 3, 4, 5]), (80, [0, 2, 3, 4, 5, 6])] 97 ok_50 oc_50 rfl h
set_option maxRecDepth 100000 in
theorem vr_X6_clearingPrice_20 {G : mv_G} {l : Nat} {post : Option mv_V → mv_SH → mv_Mem → Prop} {M : mv_Mem} {b v5 : Int} (h : (if (M 8 2) ≤ v5 then
    mv_Run G 50 87 4749 80 [(0, .inr (.inr 72)), (2, .inl b), (3, .inr (.inr 8)), (4, .inr (.inr 17)), (5, .inl (-1)), (6, .inl 512)] [] (mh l) M post
  else
    (¬ (3 : Int) = 0 ∧ mv_R32 (Int.tdiv b 3)) ∧
    (0 ≤ (v5 : Int) ∧ (v5 : Int) < ((48 : Nat) : Int)) ∧
    mv_Wp G 61 [.inr (.inr 17), .inl (Int.tdiv b 3), .inl (M 10 (Int.toNat v5))] (mh l) M (mv_qi (mh l) fun x1 M1 =>
    (0 ≤ (v5 : Int) ∧ (v5 : Int) < ((48 : Nat) : Int)) ∧
    mv_Wp G 52 [.inr (.inr 72), .inr (.inr 6), .inl b, .inl v5] (mh l) (mv_up M1 74 (Int.toNat v5) x1) (mv_qi (mh l) fun x2 M2 =>
    (0 ≤ (v5 : Int) ∧ (v5 : Int) < ((48 : Nat) : Int)) ∧
    mv_R32 (v5 + 1) ∧
    mv_Run G 50 87 4749 20 [(0, .inr (.inr 72)), (1, .inr (.inr 6)), (2, .inl b), (3, .inr (.inr 8)), (4, .inr (.inr 17)), (5, .inl (v5 + 1))] [] (mh l) (mv_up M2 73 (Int.toNat v5) x2) post)))) :
    mv_Run G 50 87 4749 20 [(0, .inr (.inr 72)), (1, .inr (.inr 6)), (2, .inl b), (3, .inr (.inr 8)), (4, .inr (.inr 17)), (5, .inl v5)] [] (mh l) M post := mv_run [(20, [0, 1, 2, 3, 4, 5]), (80, [0, 2, 3, 4, 5, 6])] 97 ok_50 h
set_option maxRecDepth 100000 in
theorem vr_X6_clearingPrice_80 {G : mv_G} {l : Nat} {post : Option mv_V → mv_SH → mv_Mem → Prop} {M : mv_Mem} {b v5 v6 : Int} (h : (if v6 ≤ 0 then
    (if v5 = 999 then
      post (some (.inl (-9))) (mh l) M
    else
      mv_R32 (v5 + 1) ∧
      post (some (.inl (v5 + 1))) (mh l) M)
  else
    mv_R32 (v5 + v6) ∧
    (if 999 < (v5 + v6) then
      (¬ (2 : Int) = 0 ∧ mv_R32 (Int.tdiv v6 2)) ∧
      mv_Run G 50 87 4749 80 [(0, .inr (.inr 72)), (2, .inl b), (3, .inr (.inr 8)), (4, .inr (.inr 17)), (5, .inl v5), (6, .inl (Int.tdiv v6 2))] [] (mh l) M post
    else
      mv_Wp G 51 [.inr (.inr 72), .inl (v5 + v6), .inl (M 8 2)] (mh l) M (mv_qi (mh l) fun x1 M1 =>
      mv_Wp G 66 [.inr (.inr 17), .inl b, .inl (v5 + v6)] (mh l) M1 (mv_qi (mh l) fun x2 M2 =>
      (if x2 ≤ x1 then
        (¬ (2 : Int) = 0 ∧ mv_R32 (Int.tdiv v6 2)) ∧
        mv_Run G 50 87 4749 80 [(0, .inr (.inr 72)), (2, .inl b), (3, .inr (.inr 8)), (4, .inr (.inr 17)), (5, .inl v5), (6, .inl (Int.tdiv v6 2))] [] (mh l) M2 post
      else
        (¬ (2 : Int) = 0 ∧ mv_R32 (Int.tdiv v6 2)) ∧
        mv_Run G 50 87 4749 80 [(0, .inr (.inr 72)), (2, .inl b), (3, .inr (.inr 8)), (4, .inr (.inr 17)), (5, .inl (v5 + v6)), (6, .inl (Int.tdiv v6 2))] [] (mh l) M2 post)))))) :
    mv_Run G 50 87 4749 80 [(0, .inr (.inr 72)), (2, .inl b), (3, .inr (.inr 8)), (4, .inr (.inr 17)), (5, .inl v5), (6, .inl v6)] [] (mh l) M post := mv_run [(20, [0, 1, 2, 3, 4, 5]), (80, [0, 2, 3, 4, 5, 6])] 97 ok_50 h
set_option maxRecDepth 100000 in
theorem vw_X6_comingAt {G : mv_G} {l : Nat} {post : Option mv_V → mv_SH → mv_Mem → Prop} {M : mv_Mem} {a b : Int} (h : mv_Run G 51 87 4749 5 [(0, .inr (.inr 72)), (1, .inl a), (2, .inl b), (3, .inl 0), (4, .inl 0)] [] (mh l) M post) :
    mv_Wp G 51 [.inr (.inr 72), .inl a, .inl b] (mh l) M post := mv_wp [(5, [0, 1, 2, 3, 4])] 44 ok_51 oc_51 rfl h
set_option maxRecDepth 100000 in
theorem vr_X6_comingAt_5 {G : mv_G} {l : Nat} {post : Option mv_V → mv_SH → mv_Mem → Prop} {M : mv_Mem} {a b v3 v4 : Int} (h : (if b ≤ v4 then
    post (some (.inl v3)) (mh l) M
  else
    (0 ≤ (v4 : Int) ∧ (v4 : Int) < ((48 : Nat) : Int)) ∧
    (if a < (M 73 (Int.toNat v4)) then
      mv_R32 (v4 + 1) ∧
      mv_Run G 51 87 4749 5 [(0, .inr (.inr 72)), (1, .inl a), (2, .inl b), (3, .inl v3), (4, .inl (v4 + 1))] [] (mh l) M post
    else
      (0 ≤ (v4 : Int) ∧ (v4 : Int) < ((48 : Nat) : Int)) ∧
      mv_R32 (v3 + (M 74 (Int.toNat v4))) ∧
      mv_R32 (v4 + 1) ∧
      mv_Run G 51 87 4749 5 [(0, .inr (.inr 72)), (1, .inl a), (2, .inl b), (3, .inl (v3 + (M 74 (Int.toNat v4)))), (4, .inl (v4 + 1))] [] (mh l) M post))) :
    mv_Run G 51 87 4749 5 [(0, .inr (.inr 72)), (1, .inl a), (2, .inl b), (3, .inl v3), (4, .inl v4)] [] (mh l) M post := mv_run [(5, [0, 1, 2, 3, 4])] 44 ok_51 h
set_option maxRecDepth 100000 in
theorem vw_X6_leastPriceFor {G : mv_G} {l : Nat} {post : Option mv_V → mv_SH → mv_Mem → Prop} {M : mv_Mem} {b c : Int} (h : mv_Wp G 17 [.inr (.inr 6), .inl b, .inl c] (mh l) M (mv_qi (mh l) fun x1 M1 =>
  (0 ≤ (c : Int) ∧ (c : Int) < ((48 : Nat) : Int)) ∧
  (if (M1 13 (Int.toNat c)) = 0 then
    (0 ≤ (c : Int) ∧ (c : Int) < ((48 : Nat) : Int)) ∧
    (if (M1 74 (Int.toNat c)) ≤ 0 then
      post (some (.inl 1000)) (mh l) M1
    else
      (¬ (3 : Int) = 0 ∧ mv_R32 (Int.tdiv b 3)) ∧
      mv_Wp G 65 [.inr (.inr 17), .inl (Int.tdiv b 3), .inl x1] (mh l) M1 (mv_qi (mh l) fun x2 M2 =>
      (if x2 = 0 then
        post (some (.inl 1000)) (mh l) M2
      else
        mv_Wp G 19 [.inr (.inr 6), .inl c, .inl b] (mh l) M2 (mv_qi (mh l) fun x3 M3 =>
        (if x3 = (-1) then
          mv_R32 (b * 48) ∧
          mv_R32 ((b * 48) + c) ∧
          (0 ≤ ((b * 48) + c : Int) ∧ ((b * 48) + c : Int) < ((864 : Nat) : Int)) ∧
          mv_R64 (1 - (M3 42 (Int.toNat ((b * 48) + c)))) ∧
          (0 ≤ (b : Int) ∧ (b : Int) < ((18 : Nat) : Int)) ∧
          mv_R64 (-(1 - (M3 42 (Int.toNat ((b * 48) + c))))) ∧
          (0 ≤ (c : Int) ∧ (c : Int) < ((48 : Nat) : Int)) ∧
          mv_R64 (100 * (M3 74 (Int.toNat c))) ∧
          mv_Wp G 222 [.inr (.inl (-(1 - (M3 42 (Int.toNat ((b * 48) + c)))))), .inr (.inl (100 * (M3 74 (Int.toNat c))))] (mh l) M3 (mv_ql (mh l) fun x4 M4 =>
          mv_R64 ((M3 26 (Int.toNat b)) - x4) ∧
          mv_Wp G 225 [.inr (.inl 1000), .inr (.inl ((M3 26 (Int.toNat b)) - x4))] (mh l) M4 (mv_ql (mh l) fun x5 M5 =>
          mv_Wp G 224 [.inr (.inl 0), .inr (.inl x5)] (mh l) M5 (mv_ql (mh l) fun x6 M6 =>
          mv_R32 x6 ∧
          post (some (.inl x6)) (mh l) M6)))
        else
          mv_R32 (x3 * 48) ∧
          mv_R32 ((x3 * 48) + c) ∧
          (0 ≤ ((x3 * 48) + c : Int) ∧ ((x3 * 48) + c : Int) < ((864 : Nat) : Int)) ∧
          (if b ≤ x3 then
            mv_R64 ((M3 42 (Int.toNat ((x3 * 48) + c))) + 0) ∧
            mv_R32 (b * 48) ∧
            mv_R32 ((b * 48) + c) ∧
            (0 ≤ ((b * 48) + c : Int) ∧ ((b * 48) + c : Int) < ((864 : Nat) : Int)) ∧
            mv_R64 (((M3 42 (Int.toNat ((x3 * 48) + c))) + 0) - (M3 42 (Int.toNat ((b * 48) + c)))) ∧
            (0 ≤ (b : Int) ∧ (b : Int) < ((18 : Nat) : Int)) ∧
            mv_R64 (-(((M3 42 (Int.toNat ((x3 * 48) + c))) + 0) - (M3 42 (Int.toNat ((b * 48) + c))))) ∧
            (0 ≤ (c : Int) ∧ (c : Int) < ((48 : Nat) : Int)) ∧
            mv_R64 (100 * (M3 74 (Int.toNat c))) ∧
            mv_Wp G 222 [.inr (.inl (-(((M3 42 (Int.toNat ((x3 * 48) + c))) + 0) - (M3 42 (Int.toNat ((b * 48) + c)))))), .inr (.inl (100 * (M3 74 (Int.toNat c))))] (mh l) M3 (mv_ql (mh l) fun x7 M7 =>
            mv_R64 ((M3 26 (Int.toNat b)) - x7) ∧
            mv_Wp G 225 [.inr (.inl 1000), .inr (.inl ((M3 26 (Int.toNat b)) - x7))] (mh l) M7 (mv_ql (mh l) fun x8 M8 =>
            mv_Wp G 224 [.inr (.inl 0), .inr (.inl x8)] (mh l) M8 (mv_ql (mh l) fun x9 M9 =>
            mv_R32 x9 ∧
            post (some (.inl x9)) (mh l) M9)))
          else
            mv_R64 ((M3 42 (Int.toNat ((x3 * 48) + c))) + 1) ∧
            mv_R32 (b * 48) ∧
            mv_R32 ((b * 48) + c) ∧
            (0 ≤ ((b * 48) + c : Int) ∧ ((b * 48) + c : Int) < ((864 : Nat) : Int)) ∧
            mv_R64 (((M3 42 (Int.toNat ((x3 * 48) + c))) + 1) - (M3 42 (Int.toNat ((b * 48) + c)))) ∧
            (0 ≤ (b : Int) ∧ (b : Int) < ((18 : Nat) : Int)) ∧
            mv_R64 (-(((M3 42 (Int.toNat ((x3 * 48) + c))) + 1) - (M3 42 (Int.toNat ((b * 48) + c))))) ∧
            (0 ≤ (c : Int) ∧ (c : Int) < ((48 : Nat) : Int)) ∧
            mv_R64 (100 * (M3 74 (Int.toNat c))) ∧
            mv_Wp G 222 [.inr (.inl (-(((M3 42 (Int.toNat ((x3 * 48) + c))) + 1) - (M3 42 (Int.toNat ((b * 48) + c)))))), .inr (.inl (100 * (M3 74 (Int.toNat c))))] (mh l) M3 (mv_ql (mh l) fun x10 M10 =>
            mv_R64 ((M3 26 (Int.toNat b)) - x10) ∧
            mv_Wp G 225 [.inr (.inl 1000), .inr (.inl ((M3 26 (Int.toNat b)) - x10))] (mh l) M10 (mv_ql (mh l) fun x11 M11 =>
            mv_Wp G 224 [.inr (.inl 0), .inr (.inl x11)] (mh l) M11 (mv_ql (mh l) fun x12 M12 =>
            mv_R32 x12 ∧
            post (some (.inl x12)) (mh l) M12)))))))))
  else
    post (some (.inl 1000)) (mh l) M1))) :
    mv_Wp G 52 [.inr (.inr 72), .inr (.inr 6), .inl b, .inl c] (mh l) M post := mv_wp [] 112 ok_52 oc_52 rfl h
set_option maxRecDepth 100000 in
theorem vw_X6_runRounds {G : mv_G} {l : Nat} {post : Option mv_V → mv_SH → mv_Mem → Prop} {M : mv_Mem} {b : Int} (h : mv_Run G 53 87 4749 2 [(0, .inr (.inr 72)), (1, .inr (.inr 6)), (2, .inl b), (3, .inl 1)] [] (mh l) M post) :
    mv_Wp G 53 [.inr (.inr 72), .inr (.inr 6), .inl b] (mh l) M post := mv_wp [(2, [0, 1, 2, 3])] 35 ok_53 oc_53 rfl h
set_option maxRecDepth 100000 in
theorem vr_X6_runRounds_2 {G : mv_G} {l : Nat} {post : Option mv_V → mv_SH → mv_Mem → Prop} {M : mv_Mem} {b v3 : Int} (h : (if b < v3 then
    post (some (.inl b)) (mh l) M
  else
    mv_Wp G 54 [.inr (.inr 72), .inr (.inr 6)] (mh l) M (mv_qi (mh l) fun x1 M1 =>
    (if x1 = 0 then
      post (some (.inl v3)) (mh l) M1
    else
      mv_R32 (v3 + 1) ∧
      mv_Run G 53 87 4749 2 [(0, .inr (.inr 72)), (1, .inr (.inr 6)), (2, .inl b), (3, .inl (v3 + 1))] [] (mh l) M1 post)))) :
    mv_Run G 53 87 4749 2 [(0, .inr (.inr 72)), (1, .inr (.inr 6)), (2, .inl b), (3, .inl v3)] [] (mh l) M post := mv_run [(2, [0, 1, 2, 3])] 35 ok_53 h
set_option maxRecDepth 100000 in
theorem vw_X6_runRound {G : mv_G} {l : Nat} {post : Option mv_V → mv_SH → mv_Mem → Prop} {M : mv_Mem} (h : mv_Run G 54 87 4749 13 [(0, .inr (.inr 72)), (1, .inr (.inr 6)), (2, .inr (.inr 17)), (3, .inl 0), (4, .inl 0)] [] (mh l) M post) :
    mv_Wp G 54 [.inr (.inr 72), .inr (.inr 6)] (mh l) M post := mv_wp [(13, [0, 1, 2, 3, 4])] 75 ok_54 oc_54 rfl h
set_option maxRecDepth 100000 in
theorem vr_X6_runRound_13 {G : mv_G} {l : Nat} {post : Option mv_V → mv_SH → mv_Mem → Prop} {M : mv_Mem} {v3 v4 : Int} (h : mv_R32 ((M 17 0) * 3) ∧
  (if ((M 17 0) * 3) ≤ v4 then
    ((v3 : Int) = 0 ∨ (v3 : Int) = 1) ∧ post (some (.inl v3)) (mh l) M
  else
    (0 ≤ (v4 : Int) ∧ (v4 : Int) < ((18 : Nat) : Int)) ∧
    (if (M 27 (Int.toNat v4)) ≤ 0 then
      mv_R32 (v4 + 1) ∧
      mv_Run G 54 87 4749 13 [(0, .inr (.inr 72)), (1, .inr (.inr 6)), (2, .inr (.inr 17)), (3, .inl v3), (4, .inl (v4 + 1))] [] (mh l) M post
    else
      ¬ (3 : Int) = 0 ∧
      (if (M 8 4) ≤ (Int.tmod v4 3) then
        mv_R32 (v4 + 1) ∧
        mv_Run G 54 87 4749 13 [(0, .inr (.inr 72)), (1, .inr (.inr 6)), (2, .inr (.inr 17)), (3, .inl v3), (4, .inl (v4 + 1))] [] (mh l) M post
      else
        mv_Wp G 50 [.inr (.inr 72), .inr (.inr 6), .inl v4] (mh l) M (mv_qi (mh l) fun x1 M1 =>
        (if x1 = (-9) then
          mv_R32 (v4 + 1) ∧
          mv_Run G 54 87 4749 13 [(0, .inr (.inr 72)), (1, .inr (.inr 6)), (2, .inr (.inr 17)), (3, .inl v3), (4, .inl (v4 + 1))] [] (mh l) M1 post
        else
          (0 ≤ (v4 : Int) ∧ (v4 : Int) < ((18 : Nat) : Int)) ∧
          (if x1 = (M1 26 (Int.toNat v4)) then
            mv_R32 (v4 + 1) ∧
            mv_Run G 54 87 4749 13 [(0, .inr (.inr 72)), (1, .inr (.inr 6)), (2, .inr (.inr 17)), (3, .inl v3), (4, .inl (v4 + 1))] [] (mh l) M1 post
          else
            (0 ≤ (v4 : Int) ∧ (v4 : Int) < ((18 : Nat) : Int)) ∧
            mv_Wp G 16 [.inr (.inr 6), .inl v4] (mh l) (mv_up M1 26 (Int.toNat v4) x1) (mv_qv (mh l) fun M2 =>
            mv_R32 (v4 + 1) ∧
            mv_Run G 54 87 4749 13 [(0, .inr (.inr 72)), (1, .inr (.inr 6)), (2, .inr (.inr 17)), (3, .inl 1), (4, .inl (v4 + 1))] [] (mh l) M2 post)))))))) :
    mv_Run G 54 87 4749 13 [(0, .inr (.inr 72)), (1, .inr (.inr 6)), (2, .inr (.inr 17)), (3, .inl v3), (4, .inl v4)] [] (mh l) M post := mv_run [(13, [0, 1, 2, 3, 4])] 75 ok_54 h
set_option maxRecDepth 100000 in
theorem vw_X6_bestToHold {G : mv_G} {l : Nat} {post : Option mv_V → mv_SH → mv_Mem → Prop} {M : mv_Mem} {b : Int} (h : (0 ≤ (0 : Int) ∧ 0 ≤ (0 : Int) ∧ 0 ≤ (18 : Int) ∧ 0 + 18 ≤ ((18 : Nat) : Int) ∧ 0 + 18 ≤ ((18 : Nat) : Int)) ∧
  (0 ≤ (0 : Int) ∧ 0 ≤ (0 : Int) ∧ 0 ≤ (864 : Int) ∧ 0 + 864 ≤ ((864 : Nat) : Int) ∧ 0 + 864 ≤ ((864 : Nat) : Int)) ∧
  mv_Wp G 56 [.inr (.inr 72), .inr (.inr 6), .inl b] (mh l) (mv_cp (mv_cp M 26 (Int.toNat 0) 75 (Int.toNat 0) (Int.toNat 18)) 42 (Int.toNat 0) 76 (Int.toNat 0) (Int.toNat 864)) (mv_ql (mh l) fun x1 M1 =>
  mv_Run G 55 87 4749 60 [(0, .inr (.inr 72)), (1, .inr (.inr 6)), (2, .inl b), (3, .inr (.inr 8)), (4, .inr (.inl x1)), (6, .inl (-9)), (7, .inl 0)] [] (mh l) M1 post)) :
    mv_Wp G 55 [.inr (.inr 72), .inr (.inr 6), .inl b] (mh l) M post := mv_wp [(60, [0, 1, 2, 3, 4, 6, 7])] 103 ok_55 oc_55 rfl h
set_option maxRecDepth 100000 in
theorem vr_X6_bestToHold_60 {G : mv_G} {l : Nat} {post : Option mv_V → mv_SH → mv_Mem → Prop} {M : mv_Mem} {b v4 v6 v7 : Int} (h : mv_R32 (10 * (M 8 0)) ∧
  (if (10 * (M 8 0)) ≤ v7 then
    post (some (.inl v6)) (mh l) M
  else
    mv_Wp G 4 [.inr (.inr 8), .inl v7] (mh l) M (mv_qi (mh l) fun x1 M1 =>
    (if x1 = (-1) then
      mv_R32 (v7 + 1) ∧
      mv_Run G 55 87 4749 60 [(0, .inr (.inr 72)), (1, .inr (.inr 6)), (2, .inl b), (3, .inr (.inr 8)), (4, .inr (.inl v4)), (6, .inl v6), (7, .inl (v7 + 1))] [] (mh l) M1 post
    else
      (0 ≤ (x1 : Int) ∧ (x1 : Int) < ((48 : Nat) : Int)) ∧
      (if (M1 12 (Int.toNat x1)) = b then
        (0 ≤ (x1 : Int) ∧ (x1 : Int) < ((48 : Nat) : Int)) ∧
        (if (M1 43 (Int.toNat x1)) = (-1) then
          mv_R32 (v7 + 1) ∧
          mv_Run G 55 87 4749 60 [(0, .inr (.inr 72)), (1, .inr (.inr 6)), (2, .inl b), (3, .inr (.inr 8)), (4, .inr (.inl v4)), (6, .inl v6), (7, .inl (v7 + 1))] [] (mh l) M1 post
        else
          (0 ≤ (x1 : Int) ∧ (x1 : Int) < ((48 : Nat) : Int)) ∧
          mv_Wp G 56 [.inr (.inr 72), .inr (.inr 6), .inl b] (mh l) (mv_up M1 13 (Int.toNat x1) 1) (mv_ql (mh l) fun x2 M2 =>
          (0 ≤ (x1 : Int) ∧ (x1 : Int) < ((48 : Nat) : Int)) ∧
          (if (mv_cmp x2 v4) ≤ 0 then
            mv_R32 (v7 + 1) ∧
            mv_Run G 55 87 4749 60 [(0, .inr (.inr 72)), (1, .inr (.inr 6)), (2, .inl b), (3, .inr (.inr 8)), (4, .inr (.inl v4)), (6, .inl v6), (7, .inl (v7 + 1))] [] (mh l) (mv_up M2 13 (Int.toNat x1) 0) post
          else
            mv_R32 (v7 + 1) ∧
            mv_Run G 55 87 4749 60 [(0, .inr (.inr 72)), (1, .inr (.inr 6)), (2, .inl b), (3, .inr (.inr 8)), (4, .inr (.inl x2)), (6, .inl v7), (7, .inl (v7 + 1))] [] (mh l) (mv_up M2 13 (Int.toNat x1) 0) post)))
      else
        mv_R32 (v7 + 1) ∧
        mv_Run G 55 87 4749 60 [(0, .inr (.inr 72)), (1, .inr (.inr 6)), (2, .inl b), (3, .inr (.inr 8)), (4, .inr (.inl v4)), (6, .inl v6), (7, .inl (v7 + 1))] [] (mh l) M1 post))))) :
    mv_Run G 55 87 4749 60 [(0, .inr (.inr 72)), (1, .inr (.inr 6)), (2, .inl b), (3, .inr (.inr 8)), (4, .inr (.inl v4)), (6, .inl v6), (7, .inl v7)] [] (mh l) M post := mv_run [(60, [0, 1, 2, 3, 4, 6, 7])] 103 ok_55 h
set_option maxRecDepth 100000 in
theorem vw_X6_rentsAfterRound {G : mv_G} {l : Nat} {post : Option mv_V → mv_SH → mv_Mem → Prop} {M : mv_Mem} {b : Int} (h : mv_Wp G 54 [.inr (.inr 72), .inr (.inr 6)] (mh l) M (mv_qi (mh l) fun x1 M1 =>
  mv_Wp G 23 [.inr (.inr 6), .inl b] (mh l) M1 (mv_ql (mh l) fun x2 M2 =>
  (0 ≤ (0 : Int) ∧ 0 ≤ (0 : Int) ∧ 0 ≤ (18 : Int) ∧ 0 + 18 ≤ ((18 : Nat) : Int) ∧ 0 + 18 ≤ ((18 : Nat) : Int)) ∧
  (0 ≤ (0 : Int) ∧ 0 ≤ (0 : Int) ∧ 0 ≤ (864 : Int) ∧ 0 + 864 ≤ ((864 : Nat) : Int) ∧ 0 + 864 ≤ ((864 : Nat) : Int)) ∧
  post (some (.inr (.inl x2))) (mh l) (mv_cp (mv_cp M2 75 (Int.toNat 0) 26 (Int.toNat 0) (Int.toNat 18)) 76 (Int.toNat 0) 42 (Int.toNat 0) (Int.toNat 864))))) :
    mv_Wp G 56 [.inr (.inr 72), .inr (.inr 6), .inl b] (mh l) M post := mv_wp [] 48 ok_56 oc_56 rfl h
set_option maxRecDepth 100000 in
theorem vw_X7_append {G : mv_G} {l : Nat} {post : Option mv_V → mv_SH → mv_Mem → Prop} {M : mv_Mem} {a b c d e : Int} (h : (if (M 17 0) < 6 then
    (0 ≤ (M 17 0 : Int) ∧ (M 17 0 : Int) < ((6 : Nat) : Int)) ∧
    (0 ≤ (M 17 0 : Int) ∧ (M 17 0 : Int) < ((6 : Nat) : Int)) ∧
    (0 ≤ (M 17 0 : Int) ∧ (M 17 0 : Int) < ((6 : Nat) : Int)) ∧
    (0 ≤ (M 17 0 : Int) ∧ (M 17 0 : Int) < ((6 : Nat) : Int)) ∧
    (0 ≤ (M 17 0 : Int) ∧ (M 17 0 : Int) < ((6 : Nat) : Int)) ∧
    mv_R32 ((M 17 0) + 1) ∧
    post (some (.inl (M 17 0))) (mh l) (mv_up (mv_up (mv_up (mv_up (mv_up (mv_up M 18 (Int.toNat (M 17 0)) a) 19 (Int.toNat (M 17 0)) b) 20 (Int.toNat (M 17 0)) c) 21 (Int.toNat (M 17 0)) d) 22 (Int.toNat (M 17 0)) e) 17 0 ((M 17 0) + 1))
  else
    post (some (.inl (-9))) (mh l) M)) :
    mv_Wp G 58 [.inr (.inr 17), .inl a, .inl b, .inl c, .inl d, .inl e] (mh l) M post := mv_wp [] 60 ok_58 oc_58 rfl h
set_option maxRecDepth 100000 in
theorem vw_X7_appendPiece {G : mv_G} {l : Nat} {post : Option mv_V → mv_SH → mv_Mem → Prop} {M : mv_Mem} {a b c : Int} (h : (0 ≤ (a : Int) ∧ (a : Int) < ((18 : Nat) : Int)) ∧
  (if 6 ≤ (M 27 (Int.toNat a)) then
    post none (mh l) M
  else
    mv_R32 (a * 6) ∧
    mv_R32 ((a * 6) + (M 27 (Int.toNat a))) ∧
    (0 ≤ ((a * 6) + (M 27 (Int.toNat a)) : Int) ∧ ((a * 6) + (M 27 (Int.toNat a)) : Int) < ((108 : Nat) : Int)) ∧
    mv_R32 (a * 6) ∧
    mv_R32 ((a * 6) + (M 27 (Int.toNat a))) ∧
    (0 ≤ ((a * 6) + (M 27 (Int.toNat a)) : Int) ∧ ((a * 6) + (M 27 (Int.toNat a)) : Int) < ((108 : Nat) : Int)) ∧
    mv_R32 ((M 27 (Int.toNat a)) + 1) ∧
    (0 ≤ (a : Int) ∧ (a : Int) < ((18 : Nat) : Int)) ∧
    post none (mh l) (mv_up (mv_up (mv_up M 28 (Int.toNat ((a * 6) + (M 27 (Int.toNat a)))) b) 29 (Int.toNat ((a * 6) + (M 27 (Int.toNat a)))) c) 27 (Int.toNat a) ((M 27 (Int.toNat a)) + 1)))) :
    mv_Wp G 59 [.inr (.inr 17), .inl a, .inl b, .inl c] (mh l) M post := mv_wp [] 54 ok_59 oc_59 rfl h
set_option maxRecDepth 100000 in
theorem vw_X7_takeFrom_i {G : mv_G} {l : Nat} {post : Option mv_V → mv_SH → mv_Mem → Prop} {M : mv_Mem} (h : (0 ≤ (0 : Int) ∧ 0 ≤ (0 : Int) ∧ 0 ≤ (6 : Int) ∧ 0 + 6 ≤ ((6 : Nat) : Int) ∧ 0 + 6 ≤ ((6 : Nat) : Int)) ∧
  (0 ≤ (0 : Int) ∧ 0 ≤ (0 : Int) ∧ 0 ≤ (6 : Int) ∧ 0 + 6 ≤ ((6 : Nat) : Int) ∧ 0 + 6 ≤ ((6 : Nat) : Int)) ∧
  (0 ≤ (0 : Int) ∧ 0 ≤ (0 : Int) ∧ 0 ≤ (6 : Int) ∧ 0 + 6 ≤ ((6 : Nat) : Int) ∧ 0 + 6 ≤ ((6 : Nat) : Int)) ∧
  (0 ≤ (0 : Int) ∧ 0 ≤ (0 : Int) ∧ 0 ≤ (6 : Int) ∧ 0 + 6 ≤ ((6 : Nat) : Int) ∧ 0 + 6 ≤ ((6 : Nat) : Int)) ∧
  (0 ≤ (0 : Int) ∧ 0 ≤ (0 : Int) ∧ 0 ≤ (6 : Int) ∧ 0 + 6 ≤ ((6 : Nat) : Int) ∧ 0 + 6 ≤ ((6 : Nat) : Int)) ∧
  (0 ≤ (0 : Int) ∧ 0 ≤ (0 : Int) ∧ 0 ≤ (6 : Int) ∧ 0 + 6 ≤ ((6 : Nat) : Int) ∧ 0 + 6 ≤ ((6 : Nat) : Int)) ∧
  (0 ≤ (0 : Int) ∧ 0 ≤ (0 : Int) ∧ 0 ≤ (6 : Int) ∧ 0 + 6 ≤ ((6 : Nat) : Int) ∧ 0 + 6 ≤ ((6 : Nat) : Int)) ∧
  (0 ≤ (0 : Int) ∧ 0 ≤ (0 : Int) ∧ 0 ≤ (6 : Int) ∧ 0 + 6 ≤ ((6 : Nat) : Int) ∧ 0 + 6 ≤ ((6 : Nat) : Int)) ∧
  (0 ≤ (0 : Int) ∧ 0 ≤ (0 : Int) ∧ 0 ≤ (18 : Int) ∧ 0 + 18 ≤ ((18 : Nat) : Int) ∧ 0 + 18 ≤ ((18 : Nat) : Int)) ∧
  (0 ≤ (0 : Int) ∧ 0 ≤ (0 : Int) ∧ 0 ≤ (18 : Int) ∧ 0 + 18 ≤ ((18 : Nat) : Int) ∧ 0 + 18 ≤ ((18 : Nat) : Int)) ∧
  (0 ≤ (0 : Int) ∧ 0 ≤ (0 : Int) ∧ 0 ≤ (108 : Int) ∧ 0 + 108 ≤ ((108 : Nat) : Int) ∧ 0 + 108 ≤ ((108 : Nat) : Int)) ∧
  (0 ≤ (0 : Int) ∧ 0 ≤ (0 : Int) ∧ 0 ≤ (108 : Int) ∧ 0 + 108 ≤ ((108 : Nat) : Int) ∧ 0 + 108 ≤ ((108 : Nat) : Int)) ∧
  post none (mh l) (mv_cp (mv_cp (mv_cp (mv_cp (mv_cp (mv_cp (mv_cp (mv_cp (mv_cp (mv_cp (mv_cp (mv_cp (mv_up (mv_up M 54 0 (M 17 0)) 54 1 ((mv_up M 54 0 (M 17 0)) 17 1)) 18 (Int.toNat 0) 55 (Int.toNat 0) (Int.toNat 6)) 19 (Int.toNat 0) 56 (Int.toNat 0) (Int.toNat 6)) 20 (Int.toNat 0) 57 (Int.toNat 0) (Int.toNat 6)) 21 (Int.toNat 0) 58 (Int.toNat 0) (Int.toNat 6)) 22 (Int.toNat 0) 59 (Int.toNat 0) (Int.toNat 6)) 23 (Int.toNat 0) 60 (Int.toNat 0) (Int.toNat 6)) 24 (Int.toNat 0) 61 (Int.toNat 0) (Int.toNat 6)) 25 (Int.toNat 0) 62 (Int.toNat 0) (Int.toNat 6)) 26 (Int.toNat 0) 63 (Int.toNat 0) (Int.toNat 18)) 27 (Int.toNat 0) 64 (Int.toNat 0) (Int.toNat 18)) 28 (Int.toNat 0) 65 (Int.toNat 0) (Int.toNat 108)) 29 (Int.toNat 0) 66 (Int.toNat 0) (Int.toNat 108))) :
    mv_Wp G 60 [.inr (.inr 54), .inr (.inr 17)] (mh l) M post := mv_wp [] 125 ok_60 oc_60 rfl h
set_option maxRecDepth 100000 in
theorem vw_X7_takeFrom_o {G : mv_G} {l : Nat} {post : Option mv_V → mv_SH → mv_Mem → Prop} {M : mv_Mem} (h : (0 ≤ (0 : Int) ∧ 0 ≤ (0 : Int) ∧ 0 ≤ (6 : Int) ∧ 0 + 6 ≤ ((6 : Nat) : Int) ∧ 0 + 6 ≤ ((6 : Nat) : Int)) ∧
  (0 ≤ (0 : Int) ∧ 0 ≤ (0 : Int) ∧ 0 ≤ (6 : Int) ∧ 0 + 6 ≤ ((6 : Nat) : Int) ∧ 0 + 6 ≤ ((6 : Nat) : Int)) ∧
  (0 ≤ (0 : Int) ∧ 0 ≤ (0 : Int) ∧ 0 ≤ (6 : Int) ∧ 0 + 6 ≤ ((6 : Nat) : Int) ∧ 0 + 6 ≤ ((6 : Nat) : Int)) ∧
  (0 ≤ (0 : Int) ∧ 0 ≤ (0 : Int) ∧ 0 ≤ (6 : Int) ∧ 0 + 6 ≤ ((6 : Nat) : Int) ∧ 0 + 6 ≤ ((6 : Nat) : Int)) ∧
  (0 ≤ (0 : Int) ∧ 0 ≤ (0 : Int) ∧ 0 ≤ (6 : Int) ∧ 0 + 6 ≤ ((6 : Nat) : Int) ∧ 0 + 6 ≤ ((6 : Nat) : Int)) ∧
  (0 ≤ (0 : Int) ∧ 0 ≤ (0 : Int) ∧ 0 ≤ (6 : Int) ∧ 0 + 6 ≤ ((6 : Nat) : Int) ∧ 0 + 6 ≤ ((6 : Nat) : Int)) ∧
  (0 ≤ (0 : Int) ∧ 0 ≤ (0 : Int) ∧ 0 ≤ (6 : Int) ∧ 0 + 6 ≤ ((6 : Nat) : Int) ∧ 0 + 6 ≤ ((6 : Nat) : Int)) ∧
  (0 ≤ (0 : Int) ∧ 0 ≤ (0 : Int) ∧ 0 ≤ (6 : Int) ∧ 0 + 6 ≤ ((6 : Nat) : Int) ∧ 0 + 6 ≤ ((6 : Nat) : Int)) ∧
  (0 ≤ (0 : Int) ∧ 0 ≤ (0 : Int) ∧ 0 ≤ (18 : Int) ∧ 0 + 18 ≤ ((18 : Nat) : Int) ∧ 0 + 18 ≤ ((18 : Nat) : Int)) ∧
  (0 ≤ (0 : Int) ∧ 0 ≤ (0 : Int) ∧ 0 ≤ (18 : Int) ∧ 0 + 18 ≤ ((18 : Nat) : Int) ∧ 0 + 18 ≤ ((18 : Nat) : Int)) ∧
  (0 ≤ (0 : Int) ∧ 0 ≤ (0 : Int) ∧ 0 ≤ (108 : Int) ∧ 0 + 108 ≤ ((108 : Nat) : Int) ∧ 0 + 108 ≤ ((108 : Nat) : Int)) ∧
  (0 ≤ (0 : Int) ∧ 0 ≤ (0 : Int) ∧ 0 ≤ (108 : Int) ∧ 0 + 108 ≤ ((108 : Nat) : Int) ∧ 0 + 108 ≤ ((108 : Nat) : Int)) ∧
  post none (mh l) (mv_cp (mv_cp (mv_cp (mv_cp (mv_cp (mv_cp (mv_cp (mv_cp (mv_cp (mv_cp (mv_cp (mv_cp (mv_up (mv_up M 17 0 (M 54 0)) 17 1 ((mv_up M 17 0 (M 54 0)) 54 1)) 55 (Int.toNat 0) 18 (Int.toNat 0) (Int.toNat 6)) 56 (Int.toNat 0) 19 (Int.toNat 0) (Int.toNat 6)) 57 (Int.toNat 0) 20 (Int.toNat 0) (Int.toNat 6)) 58 (Int.toNat 0) 21 (Int.toNat 0) (Int.toNat 6)) 59 (Int.toNat 0) 22 (Int.toNat 0) (Int.toNat 6)) 60 (Int.toNat 0) 23 (Int.toNat 0) (Int.toNat 6)) 61 (Int.toNat 0) 24 (Int.toNat 0) (Int.toNat 6)) 62 (Int.toNat 0) 25 (Int.toNat 0) (Int.toNat 6)) 63 (Int.toNat 0) 26 (Int.toNat 0) (Int.toNat 18)) 64 (Int.toNat 0) 27 (Int.toNat 0) (Int.toNat 18)) 65 (Int.toNat 0) 28 (Int.toNat 0) (Int.toNat 108)) 66 (Int.toNat 0) 29 (Int.toNat 0) (Int.toNat 108))) :
    mv_Wp G 60 [.inr (.inr 17), .inr (.inr 54)] (mh l) M post := mv_wp [] 125 ok_60 oc_60 rfl h
set_option maxRecDepth 100000 in
theorem vw_X7_yieldOn {G : mv_G} {l : Nat} {post : Option mv_V → mv_SH → mv_Mem → Prop} {M : mv_Mem} {a b : Int} (h : (0 ≤ (a : Int) ∧ (a : Int) < ((6 : Nat) : Int)) ∧
  (if (M 18 (Int.toNat a)) = 4 then
    (0 ≤ (a : Int) ∧ (a : Int) < ((6 : Nat) : Int)) ∧
    post (some (.inl (M 19 (Int.toNat a)))) (mh l) M
  else
    (0 ≤ (a : Int) ∧ (a : Int) < ((6 : Nat) : Int)) ∧
    (0 ≤ (a : Int) ∧ (a : Int) < ((6 : Nat) : Int)) ∧
    mv_R32 ((M 20 (Int.toNat a)) * b) ∧
    mv_R32 ((M 19 (Int.toNat a)) + ((M 20 (Int.toNat a)) * b)) ∧
    post (some (.inl ((M 19 (Int.toNat a)) + ((M 20 (Int.toNat a)) * b)))) (mh l) M)) :
    mv_Wp G 61 [.inr (.inr 17), .inl a, .inl b] (mh l) M post := mv_wp [] 43 ok_61 oc_61 rfl h
set_option maxRecDepth 100000 in
theorem vw_X7_reckonedPrice {G : mv_G} {l : Nat} {post : Option mv_V → mv_SH → mv_Mem → Prop} {M : mv_Mem} {a : Int} (h : (¬ (3 : Int) = 0 ∧ mv_R32 (Int.tdiv a 3)) ∧
  (0 ≤ (Int.tdiv a 3 : Int) ∧ (Int.tdiv a 3 : Int) < ((6 : Nat) : Int)) ∧
  (if (M 24 (Int.toNat (Int.tdiv a 3))) = 0 then
    (0 ≤ (a : Int) ∧ (a : Int) < ((18 : Nat) : Int)) ∧
    post (some (.inl (M 26 (Int.toNat a)))) (mh l) M
  else
    (0 ≤ (a : Int) ∧ (a : Int) < ((18 : Nat) : Int)) ∧
    (0 ≤ (Int.tdiv a 3 : Int) ∧ (Int.tdiv a 3 : Int) < ((6 : Nat) : Int)) ∧
    (¬ (M 24 (Int.toNat (Int.tdiv a 3)) : Int) = 0 ∧ mv_R32 (Int.tdiv (M 25 (Int.toNat (Int.tdiv a 3))) (M 24 (Int.toNat (Int.tdiv a 3))))) ∧
    mv_R32 ((M 26 (Int.toNat a)) + (Int.tdiv (M 25 (Int.toNat (Int.tdiv a 3))) (M 24 (Int.toNat (Int.tdiv a 3))))) ∧
    post (some (.inl ((M 26 (Int.toNat a)) + (Int.tdiv (M 25 (Int.toNat (Int.tdiv a 3))) (M 24 (Int.toNat (Int.tdiv a 3))))))) (mh l) M)) :
    mv_Wp G 62 [.inr (.inr 17), .inl a] (mh l) M post := mv_wp [] 48 ok_62 oc_62 rfl h
set_option maxRecDepth 100000 in
theorem vw_X7_payAtHome {G : mv_G} {l : Nat} {post : Option mv_V → mv_SH → mv_Mem → Prop} {M : mv_Mem} {a b : Int} (h : (¬ (3 : Int) = 0 ∧ mv_R32 (Int.tdiv a 3)) ∧
  mv_Wp G 61 [.inr (.inr 17), .inl (Int.tdiv a 3), .inl b] (mh l) M (mv_qi (mh l) fun x1 M1 =>
  mv_Wp G 62 [.inr (.inr 17), .inl a] (mh l) M1 (mv_qi (mh l) fun x2 M2 =>
  mv_R64 (x1 * x2) ∧
  (0 ≤ (Int.tdiv a 3 : Int) ∧ (Int.tdiv a 3 : Int) < ((6 : Nat) : Int)) ∧
  mv_R64 ((x1 * x2) - (M2 21 (Int.toNat (Int.tdiv a 3)))) ∧
  (0 ≤ (Int.tdiv a 3 : Int) ∧ (Int.tdiv a 3 : Int) < ((6 : Nat) : Int)) ∧
  mv_R64 (((x1 * x2) - (M2 21 (Int.toNat (Int.tdiv a 3)))) - (M2 23 (Int.toNat (Int.tdiv a 3)))) ∧
  mv_R64 (100 * (((x1 * x2) - (M2 21 (Int.toNat (Int.tdiv a 3)))) - (M2 23 (Int.toNat (Int.tdiv a 3))))) ∧
  post (some (.inr (.inl (100 * (((x1 * x2) - (M2 21 (Int.toNat (Int.tdiv a 3)))) - (M2 23 (Int.toNat (Int.tdiv a 3)))))))) (mh l) M2))) :
    mv_Wp G 63 [.inr (.inr 17), .inl a, .inl b] (mh l) M post := mv_wp [] 51 ok_63 oc_63 rfl h
set_option maxRecDepth 100000 in
theorem vw_X7_carriage {G : mv_G} {l : Nat} {post : Option mv_V → mv_SH → mv_Mem → Prop} {M : mv_Mem} {a b : Int} (h : (0 ≤ (a : Int) ∧ (a : Int) < ((6 : Nat) : Int)) ∧
  (if (M 18 (Int.toNat a)) = 1 then
    (0 ≤ (a : Int) ∧ (a : Int) < ((6 : Nat) : Int)) ∧
    (¬ (2 : Int) = 0 ∧ mv_R32 (Int.tdiv (M 22 (Int.toNat a)) 2)) ∧
    mv_Wp G 61 [.inr (.inr 17), .inl a, .inl b] (mh l) M (mv_qi (mh l) fun x2 M2 =>
    mv_R64 ((Int.tdiv (M 22 (Int.toNat a)) 2) * x2) ∧
    post (some (.inr (.inl ((Int.tdiv (M 22 (Int.toNat a)) 2) * x2)))) (mh l) M2)
  else
    (0 ≤ (a : Int) ∧ (a : Int) < ((6 : Nat) : Int)) ∧
    mv_Wp G 61 [.inr (.inr 17), .inl a, .inl b] (mh l) M (mv_qi (mh l) fun x1 M1 =>
    mv_R64 ((M 22 (Int.toNat a)) * x1) ∧
    post (some (.inr (.inl ((M 22 (Int.toNat a)) * x1)))) (mh l) M1))) :
    mv_Wp G 64 [.inr (.inr 17), .inl a, .inl b] (mh l) M post := mv_wp [] 47 ok_64 oc_64 rfl h
set_option maxRecDepth 100000 in
theorem vw_X7_canGo {G : mv_G} {l : Nat} {post : Option mv_V → mv_SH → mv_Mem → Prop} {M : mv_Mem} {a b : Int} (h : (0 ≤ (a : Int) ∧ (a : Int) < ((6 : Nat) : Int)) ∧
  (if (M 18 (Int.toNat a)) = 5 then
    ((0 : Int) = 0 ∨ (0 : Int) = 1) ∧ post (some (.inl 0)) (mh l) M
  else
    (0 ≤ (a : Int) ∧ (a : Int) < ((6 : Nat) : Int)) ∧
    (if (M 18 (Int.toNat a)) = 2 then
      (if 60 < b then
        ((0 : Int) = 0 ∨ (0 : Int) = 1) ∧ post (some (.inl 0)) (mh l) M
      else
        ((1 : Int) = 0 ∨ (1 : Int) = 1) ∧ post (some (.inl 1)) (mh l) M)
    else
      ((1 : Int) = 0 ∨ (1 : Int) = 1) ∧ post (some (.inl 1)) (mh l) M))) :
    mv_Wp G 65 [.inr (.inr 17), .inl a, .inl b] (mh l) M post := mv_wp [] 41 ok_65 oc_65 rfl h
set_option maxRecDepth 100000 in
theorem vw_X7_boughtAt {G : mv_G} {l : Nat} {post : Option mv_V → mv_SH → mv_Mem → Prop} {M : mv_Mem} {a b : Int} (h : mv_R32 (a * 6) ∧
  mv_Run G 66 87 4749 8 [(0, .inr (.inr 17)), (1, .inl a), (2, .inl b), (3, .inl 0), (4, .inl (a * 6))] [] (mh l) M post) :
    mv_Wp G 66 [.inr (.inr 17), .inl a, .inl b] (mh l) M post := mv_wp [(8, [0, 1, 2, 3, 4])] 53 ok_66 oc_66 rfl h
set_option maxRecDepth 100000 in
theorem vr_X7_boughtAt_8 {G : mv_G} {l : Nat} {post : Option mv_V → mv_SH → mv_Mem → Prop} {M : mv_Mem} {a b v3 v4 : Int} (h : mv_R32 (a * 6) ∧
  (0 ≤ (a : Int) ∧ (a : Int) < ((18 : Nat) : Int)) ∧
  mv_R32 ((a * 6) + (M 27 (Int.toNat a))) ∧
  (if ((a * 6) + (M 27 (Int.toNat a))) ≤ v4 then
    post (some (.inl v3)) (mh l) M
  else
    (0 ≤ (v4 : Int) ∧ (v4 : Int) < ((108 : Nat) : Int)) ∧
    (if (M 29 (Int.toNat v4)) < b then
      mv_R32 (v4 + 1) ∧
      mv_Run G 66 87 4749 8 [(0, .inr (.inr 17)), (1, .inl a), (2, .inl b), (3, .inl v3), (4, .inl (v4 + 1))] [] (mh l) M post
    else
      (0 ≤ (v4 : Int) ∧ (v4 : Int) < ((108 : Nat) : Int)) ∧
      mv_R32 (v3 + (M 28 (Int.toNat v4))) ∧
      mv_R32 (v4 + 1) ∧
      mv_Run G 66 87 4749 8 [(0, .inr (.inr 17)), (1, .inl a), (2, .inl b), (3, .inl (v3 + (M 28 (Int.toNat v4)))), (4, .inl (v4 + 1))] [] (mh l) M post))) :
    mv_Run G 66 87 4749 8 [(0, .inr (.inr 17)), (1, .inl a), (2, .inl b), (3, .inl v3), (4, .inl v4)] [] (mh l) M post := mv_run [(8, [0, 1, 2, 3, 4])] 53 ok_66 h
set_option maxRecDepth 100000 in
theorem vw_X8_reckonFoot {G : mv_G} {l : Nat} {post : Option mv_V → mv_SH → mv_Mem → Prop} {M : mv_Mem} (h : mv_Run G 68 87 4749 2 [(0, .inr (.inr 35)), (1, .inr (.inr 8)), (2, .inl 0)] [] (mh l) M post) :
    mv_Wp G 68 [.inr (.inr 35), .inr (.inr 8)] (mh l) M post := mv_wp [(2, [0, 1, 2]), (12, [0, 1, 2, 3]), (81, [0, 1, 2])] 92 ok_68 oc_68 rfl h
set_option maxRecDepth 100000 in
theorem vr_X8_reckonFoot_2 {G : mv_G} {l : Nat} {post : Option mv_V → mv_SH → mv_Mem → Prop} {M : mv_Mem} {v2 : Int} (h : (if (M 8 2) ≤ v2 then
    mv_Run G 68 87 4749 81 [(0, .inr (.inr 35)), (1, .inr (.inr 8)), (2, .inl 0)] [] (mh l) M post
  else
    mv_Run G 68 87 4749 12 [(0, .inr (.inr 35)), (1, .inr (.inr 8)), (2, .inl v2), (3, .inl 0)] [] (mh l) M post)) :
    mv_Run G 68 87 4749 2 [(0, .inr (.inr 35)), (1, .inr (.inr 8)), (2, .inl v2)] [] (mh l) M post := mv_run [(2, [0, 1, 2]), (12, [0, 1, 2, 3]), (81, [0, 1, 2])] 92 ok_68 h
set_option maxRecDepth 100000 in
theorem vr_X8_reckonFoot_12 {G : mv_G} {l : Nat} {post : Option mv_V → mv_SH → mv_Mem → Prop} {M : mv_Mem} {v2 v3 : Int} (h : (if 4 ≤ v3 then
    mv_R32 (v2 + 1) ∧
    mv_Run G 68 87 4749 2 [(0, .inr (.inr 35)), (1, .inr (.inr 8)), (2, .inl (v2 + 1))] [] (mh l) M post
  else
    mv_Wp G 5 [.inr (.inr 8), .inl v2, .inl v3] (mh l) M (mv_qi (mh l) fun x1 M1 =>
    mv_R32 (v2 * 4) ∧
    mv_R32 ((v2 * 4) + v3) ∧
    (0 ≤ ((v2 * 4) + v3 : Int) ∧ ((v2 * 4) + v3 : Int) < ((192 : Nat) : Int)) ∧
    mv_R32 (v2 * 4) ∧
    mv_R32 ((v2 * 4) + v3) ∧
    (if x1 = (-1) then
      (0 ≤ ((v2 * 4) + v3 : Int) ∧ ((v2 * 4) + v3 : Int) < ((192 : Nat) : Int)) ∧
      mv_R32 (v3 + 1) ∧
      mv_Run G 68 87 4749 12 [(0, .inr (.inr 35)), (1, .inr (.inr 8)), (2, .inl v2), (3, .inl (v3 + 1))] [] (mh l) (mv_up (mv_up M1 39 (Int.toNat ((v2 * 4) + v3)) x1) 41 (Int.toNat ((v2 * 4) + v3)) 0) post
    else
      (0 ≤ (x1 : Int) ∧ (x1 : Int) < ((48 : Nat) : Int)) ∧
      mv_R32 (10 + ((mv_up M1 39 (Int.toNat ((v2 * 4) + v3)) x1) 11 (Int.toNat x1))) ∧
      (0 ≤ ((v2 * 4) + v3 : Int) ∧ ((v2 * 4) + v3 : Int) < ((192 : Nat) : Int)) ∧
      mv_R32 (v3 + 1) ∧
      mv_Run G 68 87 4749 12 [(0, .inr (.inr 35)), (1, .inr (.inr 8)), (2, .inl v2), (3, .inl (v3 + 1))] [] (mh l) (mv_up (mv_up M1 39 (Int.toNat ((v2 * 4) + v3)) x1) 41 (Int.toNat ((v2 * 4) + v3)) (10 + ((mv_up M1 39 (Int.toNat ((v2 * 4) + v3)) x1) 11 (Int.toNat x1)))) post)))) :
    mv_Run G 68 87 4749 12 [(0, .inr (.inr 35)), (1, .inr (.inr 8)), (2, .inl v2), (3, .inl v3)] [] (mh l) M post := mv_run [(2, [0, 1, 2]), (12, [0, 1, 2, 3]), (81, [0, 1, 2])] 92 ok_68 h
set_option maxRecDepth 100000 in
theorem vr_X8_reckonFoot_81 {G : mv_G} {l : Nat} {post : Option mv_V → mv_SH → mv_Mem → Prop} {M : mv_Mem} {v2 : Int} (h : (if (M 8 4) ≤ v2 then
    post none (mh l) M
  else
    (0 ≤ (v2 : Int) ∧ (v2 : Int) < ((3 : Nat) : Int)) ∧
    mv_R32 (v2 * 48) ∧
    mv_Wp G 71 [.inr (.inr 35), .inl (M 8 2), .inl (M 15 (Int.toNat v2)), .inr (.inr 41), .inr (.inr 37), .inl (v2 * 48)] (mh l) M (mv_qv (mh l) fun M1 =>
    mv_R32 (v2 + 1) ∧
    mv_Run G 68 87 4749 81 [(0, .inr (.inr 35)), (1, .inr (.inr 8)), (2, .inl (v2 + 1))] [] (mh l) M1 post))) :
    mv_Run G 68 87 4749 81 [(0, .inr (.inr 35)), (1, .inr (.inr 8)), (2, .inl v2)] [] (mh l) M post := mv_run [(2, [0, 1, 2]), (12, [0, 1, 2, 3]), (81, [0, 1, 2])] 92 ok_68 h
set_option maxRecDepth 100000 in
theorem vw_X8_reckonRoads {G : mv_G} {l : Nat} {post : Option mv_V → mv_SH → mv_Mem → Prop} {M : mv_Mem} (h : mv_Run G 69 87 4749 2 [(0, .inr (.inr 35)), (1, .inr (.inr 8)), (2, .inl 0)] [] (mh l) M post) :
    mv_Wp G 69 [.inr (.inr 35), .inr (.inr 8)] (mh l) M post := mv_wp [(2, [0, 1, 2]), (78, [0, 1, 2])] 90 ok_69 oc_69 rfl h
set_option maxRecDepth 100000 in
theorem vr_X8_reckonRoads_2 {G : mv_G} {l : Nat} {post : Option mv_V → mv_SH → mv_Mem → Prop} {M : mv_Mem} {v2 : Int} (h : mv_R32 ((M 8 2) * 4) ∧
  (if ((M 8 2) * 4) ≤ v2 then
    mv_Run G 69 87 4749 78 [(0, .inr (.inr 35)), (1, .inr (.inr 8)), (2, .inl 0)] [] (mh l) M post
  else
    (0 ≤ (v2 : Int) ∧ (v2 : Int) < ((192 : Nat) : Int)) ∧
    (0 ≤ (v2 : Int) ∧ (v2 : Int) < ((192 : Nat) : Int)) ∧
    (if (M 14 (Int.toNat v2)) = 4 then
      (if (M 39 (Int.toNat v2)) = (-1) then
        (0 ≤ (v2 : Int) ∧ (v2 : Int) < ((192 : Nat) : Int)) ∧
        mv_R32 (v2 + 1) ∧
        mv_Run G 69 87 4749 2 [(0, .inr (.inr 35)), (1, .inr (.inr 8)), (2, .inl (v2 + 1))] [] (mh l) (mv_up M 40 (Int.toNat v2) 0) post
      else
        (0 ≤ (0 : Int) ∧ (0 : Int) < ((4 : Nat) : Int)) ∧
        (0 ≤ (M 39 (Int.toNat v2) : Int) ∧ (M 39 (Int.toNat v2) : Int) < ((48 : Nat) : Int)) ∧
        mv_R32 ((M 16 (Int.toNat 0)) + (M 11 (Int.toNat (M 39 (Int.toNat v2))))) ∧
        (0 ≤ (v2 : Int) ∧ (v2 : Int) < ((192 : Nat) : Int)) ∧
        mv_R32 (v2 + 1) ∧
        mv_Run G 69 87 4749 2 [(0, .inr (.inr 35)), (1, .inr (.inr 8)), (2, .inl (v2 + 1))] [] (mh l) (mv_up M 40 (Int.toNat v2) ((M 16 (Int.toNat 0)) + (M 11 (Int.toNat (M 39 (Int.toNat v2)))))) post)
    else
      (0 ≤ (v2 : Int) ∧ (v2 : Int) < ((192 : Nat) : Int)) ∧
      (if (M 39 (Int.toNat v2)) = (-1) then
        (0 ≤ (v2 : Int) ∧ (v2 : Int) < ((192 : Nat) : Int)) ∧
        mv_R32 (v2 + 1) ∧
        mv_Run G 69 87 4749 2 [(0, .inr (.inr 35)), (1, .inr (.inr 8)), (2, .inl (v2 + 1))] [] (mh l) (mv_up M 40 (Int.toNat v2) 0) post
      else
        (0 ≤ (M 14 (Int.toNat v2) : Int) ∧ (M 14 (Int.toNat v2) : Int) < ((4 : Nat) : Int)) ∧
        (0 ≤ (M 39 (Int.toNat v2) : Int) ∧ (M 39 (Int.toNat v2) : Int) < ((48 : Nat) : Int)) ∧
        mv_R32 ((M 16 (Int.toNat (M 14 (Int.toNat v2)))) + (M 11 (Int.toNat (M 39 (Int.toNat v2))))) ∧
        (0 ≤ (v2 : Int) ∧ (v2 : Int) < ((192 : Nat) : Int)) ∧
        mv_R32 (v2 + 1) ∧
        mv_Run G 69 87 4749 2 [(0, .inr (.inr 35)), (1, .inr (.inr 8)), (2, .inl (v2 + 1))] [] (mh l) (mv_up M 40 (Int.toNat v2) ((M 16 (Int.toNat (M 14 (Int.toNat v2)))) + (M 11 (Int.toNat (M 39 (Int.toNat v2)))))) post)))) :
    mv_Run G 69 87 4749 2 [(0, .inr (.inr 35)), (1, .inr (.inr 8)), (2, .inl v2)] [] (mh l) M post := mv_run [(2, [0, 1, 2]), (78, [0, 1, 2])] 90 ok_69 h
set_option maxRecDepth 100000 in
theorem vr_X8_reckonRoads_78 {G : mv_G} {l : Nat} {post : Option mv_V → mv_SH → mv_Mem → Prop} {M : mv_Mem} {v2 : Int} (h : (if (M 8 4) ≤ v2 then
    post none (mh l) M
  else
    (0 ≤ (v2 : Int) ∧ (v2 : Int) < ((3 : Nat) : Int)) ∧
    mv_R32 (v2 * 48) ∧
    mv_Wp G 71 [.inr (.inr 35), .inl (M 8 2), .inl (M 15 (Int.toNat v2)), .inr (.inr 40), .inr (.inr 36), .inl (v2 * 48)] (mh l) M (mv_qv (mh l) fun M1 =>
    mv_R32 (v2 + 1) ∧
    mv_Run G 69 87 4749 78 [(0, .inr (.inr 35)), (1, .inr (.inr 8)), (2, .inl (v2 + 1))] [] (mh l) M1 post))) :
    mv_Run G 69 87 4749 78 [(0, .inr (.inr 35)), (1, .inr (.inr 8)), (2, .inl v2)] [] (mh l) M post := mv_run [(2, [0, 1, 2]), (78, [0, 1, 2])] 90 ok_69 h
set_option maxRecDepth 100000 in
theorem vw_X8_search {G : mv_G} {l : Nat} {post : Option mv_V → mv_SH → mv_Mem → Prop} {M : mv_Mem} {a b e : Int} {c d : Nat} (h : mv_Run G 71 87 4749 3 [(0, .inr (.inr 35)), (1, .inl a), (2, .inl b), (3, .inr (.inr c)), (4, .inr (.inr d)), (5, .inl e), (6, .inl 0)] [] (mh l) M post) :
    mv_Wp G 71 [.inr (.inr 35), .inl a, .inl b, .inr (.inr c), .inr (.inr d), .inl e] (mh l) M post := mv_wp [(3, [0, 1, 2, 3, 4, 5, 6]), (39, [0, 1, 3, 4, 5, 6, 7]), (57, [0, 1, 3, 4, 5, 6, 7, 8])] 94 ok_71 oc_71 rfl h
set_option maxRecDepth 100000 in
theorem vr_X8_search_3 {G : mv_G} {l : Nat} {post : Option mv_V → mv_SH → mv_Mem → Prop} {M : mv_Mem} {a b e v6 : Int} {c d : Nat} (h : (if a ≤ v6 then
    mv_R32 (e + b) ∧
    (if 1 ≤ d ∧ d ≤ (mh l).1 ∧ (mh l).2.2.1 d = 100 then (0 ≤ (e + b : Int) ∧ (e + b : Int) < (((mh l).2.2.2.1 d : Nat) : Int)) ∧
    mv_Run G 71 87 4749 39 [(0, .inr (.inr 35)), (1, .inl a), (3, .inr (.inr c)), (4, .inr (.inr d)), (5, .inl e), (6, .inl 1), (7, .inl 0)] [] (mh l) (mv_up M d (Int.toNat (e + b)) 0) post else False)
  else
    mv_R32 (e + v6) ∧
    (if 1 ≤ d ∧ d ≤ (mh l).1 ∧ (mh l).2.2.1 d = 100 then (0 ≤ (e + v6 : Int) ∧ (e + v6 : Int) < (((mh l).2.2.2.1 d : Nat) : Int)) ∧
    mv_R32 (v6 + 1) ∧
    mv_Run G 71 87 4749 3 [(0, .inr (.inr 35)), (1, .inl a), (2, .inl b), (3, .inr (.inr c)), (4, .inr (.inr d)), (5, .inl e), (6, .inl (v6 + 1))] [] (mh l) (mv_up M d (Int.toNat (e + v6)) 268435456) post else False))) :
    mv_Run G 71 87 4749 3 [(0, .inr (.inr 35)), (1, .inl a), (2, .inl b), (3, .inr (.inr c)), (4, .inr (.inr d)), (5, .inl e), (6, .inl v6)] [] (mh l) M post := mv_run [(3, [0, 1, 2, 3, 4, 5, 6]), (39, [0, 1, 3, 4, 5, 6, 7]), (57, [0, 1, 3, 4, 5, 6, 7, 8])] 94 ok_71 h
set_option maxRecDepth 100000 in
theorem vr_X8_search_39 {G : mv_G} {l : Nat} {post : Option mv_V → mv_SH → mv_Mem → Prop} {M : mv_Mem} {a e v6 v7 : Int} {c d : Nat} (h : (if 48 ≤ v7 then
    post none (mh l) M
  else
    (if v6 = 0 then
      post none (mh l) M
    else
      mv_Run G 71 87 4749 57 [(0, .inr (.inr 35)), (1, .inl a), (3, .inr (.inr c)), (4, .inr (.inr d)), (5, .inl e), (6, .inl 0), (7, .inl v7), (8, .inl 0)] [] (mh l) M post))) :
    mv_Run G 71 87 4749 39 [(0, .inr (.inr 35)), (1, .inl a), (3, .inr (.inr c)), (4, .inr (.inr d)), (5, .inl e), (6, .inl v6), (7, .inl v7)] [] (mh l) M post := mv_run [(3, [0, 1, 2, 3, 4, 5, 6]), (39, [0, 1, 3, 4, 5, 6, 7]), (57, [0, 1, 3, 4, 5, 6, 7, 8])] 94 ok_71 h
set_option maxRecDepth 100000 in
theorem vr_X8_search_57 {G : mv_G} {l : Nat} {post : Option mv_V → mv_SH → mv_Mem → Prop} {M : mv_Mem} {a e v6 v7 v8 : Int} {c d : Nat} (h : (if a ≤ v8 then
    mv_R32 (v7 + 1) ∧
    mv_Run G 71 87 4749 39 [(0, .inr (.inr 35)), (1, .inl a), (3, .inr (.inr c)), (4, .inr (.inr d)), (5, .inl e), (6, .inl v6), (7, .inl (v7 + 1))] [] (mh l) M post
  else
    (if (mv_and v7 1) = 0 then
      mv_Wp G 72 [.inr (.inr 35), .inl v8, .inr (.inr c), .inr (.inr d), .inl e] (mh l) M (mv_qi (mh l) fun x2 M2 =>
      mv_R32 (e + v8) ∧
      (if d ≤ (mh l).1 ∧ (mh l).2.2.1 d = 100 then (0 ≤ (e + v8 : Int) ∧ (e + v8 : Int) < (((mh l).2.2.2.1 d : Nat) : Int)) ∧
      (if (M2 d (Int.toNat (e + v8))) ≤ x2 then
        mv_R32 (v8 + 1) ∧
        mv_Run G 71 87 4749 57 [(0, .inr (.inr 35)), (1, .inl a), (3, .inr (.inr c)), (4, .inr (.inr d)), (5, .inl e), (6, .inl v6), (7, .inl v7), (8, .inl (v8 + 1))] [] (mh l) M2 post
      else
        mv_R32 (e + v8) ∧
        (if 1 ≤ d ∧ d ≤ (mh l).1 ∧ (mh l).2.2.1 d = 100 then (0 ≤ (e + v8 : Int) ∧ (e + v8 : Int) < (((mh l).2.2.2.1 d : Nat) : Int)) ∧
        mv_R32 (v8 + 1) ∧
        mv_Run G 71 87 4749 57 [(0, .inr (.inr 35)), (1, .inl a), (3, .inr (.inr c)), (4, .inr (.inr d)), (5, .inl e), (6, .inl 1), (7, .inl v7), (8, .inl (v8 + 1))] [] (mh l) (mv_up M2 d (Int.toNat (e + v8)) x2) post else False)) else False))
    else
      mv_R32 (a - 1) ∧
      mv_R32 ((a - 1) - v8) ∧
      mv_Wp G 72 [.inr (.inr 35), .inl ((a - 1) - v8), .inr (.inr c), .inr (.inr d), .inl e] (mh l) M (mv_qi (mh l) fun x1 M1 =>
      mv_R32 (e + ((a - 1) - v8)) ∧
      (if d ≤ (mh l).1 ∧ (mh l).2.2.1 d = 100 then (0 ≤ (e + ((a - 1) - v8) : Int) ∧ (e + ((a - 1) - v8) : Int) < (((mh l).2.2.2.1 d : Nat) : Int)) ∧
      (if (M1 d (Int.toNat (e + ((a - 1) - v8)))) ≤ x1 then
        mv_R32 (v8 + 1) ∧
        mv_Run G 71 87 4749 57 [(0, .inr (.inr 35)), (1, .inl a), (3, .inr (.inr c)), (4, .inr (.inr d)), (5, .inl e), (6, .inl v6), (7, .inl v7), (8, .inl (v8 + 1))] [] (mh l) M1 post
      else
        mv_R32 (e + ((a - 1) - v8)) ∧
        (if 1 ≤ d ∧ d ≤ (mh l).1 ∧ (mh l).2.2.1 d = 100 then (0 ≤ (e + ((a - 1) - v8) : Int) ∧ (e + ((a - 1) - v8) : Int) < (((mh l).2.2.2.1 d : Nat) : Int)) ∧
        mv_R32 (v8 + 1) ∧
        mv_Run G 71 87 4749 57 [(0, .inr (.inr 35)), (1, .inl a), (3, .inr (.inr c)), (4, .inr (.inr d)), (5, .inl e), (6, .inl 1), (7, .inl v7), (8, .inl (v8 + 1))] [] (mh l) (mv_up M1 d (Int.toNat (e + ((a - 1) - v8))) x1) post else False)) else False))))) :
    mv_Run G 71 87 4749 57 [(0, .inr (.inr 35)), (1, .inl a), (3, .inr (.inr c)), (4, .inr (.inr d)), (5, .inl e), (6, .inl v6), (7, .inl v7), (8, .inl v8)] [] (mh l) M post := mv_run [(3, [0, 1, 2, 3, 4, 5, 6]), (39, [0, 1, 3, 4, 5, 6, 7]), (57, [0, 1, 3, 4, 5, 6, 7, 8])] 94 ok_71 h
set_option maxRecDepth 100000 in
theorem vw_X8_leastFrom {G : mv_G} {l : Nat} {post : Option mv_V → mv_SH → mv_Mem → Prop} {M : mv_Mem} {a d : Int} {b c : Nat} (h : mv_R32 (a * 4) ∧
  mv_Run G 72 87 4749 9 [(0, .inr (.inr 35)), (1, .inl a), (2, .inr (.inr b)), (3, .inr (.inr c)), (4, .inl d), (5, .inl 268435456), (6, .inl (a * 4))] [] (mh l) M post) :
    mv_Wp G 72 [.inr (.inr 35), .inl a, .inr (.inr b), .inr (.inr c), .inl d] (mh l) M post := mv_wp [(9, [0, 1, 2, 3, 4, 5, 6])] 66 ok_72 oc_72 rfl h
set_option maxRecDepth 100000 in
theorem vr_X8_leastFrom_9 {G : mv_G} {l : Nat} {post : Option mv_V → mv_SH → mv_Mem → Prop} {M : mv_Mem} {a d v5 v6 : Int} {b c : Nat} (h : mv_R32 (a * 4) ∧
  mv_R32 ((a * 4) + 4) ∧
  (if ((a * 4) + 4) ≤ v6 then
    post (some (.inl v5)) (mh l) M
  else
    (0 ≤ (v6 : Int) ∧ (v6 : Int) < ((192 : Nat) : Int)) ∧
    (if (M 39 (Int.toNat v6)) = (-1) then
      mv_R32 (v6 + 1) ∧
      mv_Run G 72 87 4749 9 [(0, .inr (.inr 35)), (1, .inl a), (2, .inr (.inr b)), (3, .inr (.inr c)), (4, .inl d), (5, .inl v5), (6, .inl (v6 + 1))] [] (mh l) M post
    else
      (if b ≤ (mh l).1 ∧ (mh l).2.2.1 b = 100 then (0 ≤ (v6 : Int) ∧ (v6 : Int) < (((mh l).2.2.2.1 b : Nat) : Int)) ∧
      mv_R32 (d + (M 39 (Int.toNat v6))) ∧
      (if c ≤ (mh l).1 ∧ (mh l).2.2.1 c = 100 then (0 ≤ (d + (M 39 (Int.toNat v6)) : Int) ∧ (d + (M 39 (Int.toNat v6)) : Int) < (((mh l).2.2.2.1 c : Nat) : Int)) ∧
      mv_R32 ((M b (Int.toNat v6)) + (M c (Int.toNat (d + (M 39 (Int.toNat v6)))))) ∧
      (if v5 ≤ ((M b (Int.toNat v6)) + (M c (Int.toNat (d + (M 39 (Int.toNat v6)))))) then
        mv_R32 (v6 + 1) ∧
        mv_Run G 72 87 4749 9 [(0, .inr (.inr 35)), (1, .inl a), (2, .inr (.inr b)), (3, .inr (.inr c)), (4, .inl d), (5, .inl v5), (6, .inl (v6 + 1))] [] (mh l) M post
      else
        (if b ≤ (mh l).1 ∧ (mh l).2.2.1 b = 100 then (0 ≤ (v6 : Int) ∧ (v6 : Int) < (((mh l).2.2.2.1 b : Nat) : Int)) ∧
        mv_R32 (d + (M 39 (Int.toNat v6))) ∧
        (if c ≤ (mh l).1 ∧ (mh l).2.2.1 c = 100 then (0 ≤ (d + (M 39 (Int.toNat v6)) : Int) ∧ (d + (M 39 (Int.toNat v6)) : Int) < (((mh l).2.2.2.1 c : Nat) : Int)) ∧
        mv_R32 ((M b (Int.toNat v6)) + (M c (Int.toNat (d + (M 39 (Int.toNat v6)))))) ∧
        mv_R32 (v6 + 1) ∧
        mv_Run G 72 87 4749 9 [(0, .inr (.inr 35)), (1, .inl a), (2, .inr (.inr b)), (3, .inr (.inr c)), (4, .inl d), (5, .inl ((M b (Int.toNat v6)) + (M c (Int.toNat (d + (M 39 (Int.toNat v6))))))), (6, .inl (v6 + 1))] [] (mh l) M post else False) else False)) else False) else False)))) :
    mv_Run G 72 87 4749 9 [(0, .inr (.inr 35)), (1, .inl a), (2, .inr (.inr b)), (3, .inr (.inr c)), (4, .inl d), (5, .inl v5), (6, .inl v6)] [] (mh l) M post := mv_run [(9, [0, 1, 2, 3, 4, 5, 6])] 66 ok_72 h
set_option maxRecDepth 100000 in
theorem vw_X10_takeFrom_i {G : mv_G} {l : Nat} {post : Option mv_V → mv_SH → mv_Mem → Prop} {M : mv_Mem} (h : mv_Wp G 3 [.inr (.inr 45), .inr (.inr 8)] (mh l) M (mv_qv (mh l) fun M1 =>
  mv_Wp G 60 [.inr (.inr 54), .inr (.inr 17)] (mh l) M1 (mv_qv (mh l) fun M2 =>
  mv_Wp G 33 [.inr (.inr 67), .inr (.inr 30)] (mh l) M2 (mv_qv (mh l) fun M3 =>
  post none (mh l) M3)))) :
    mv_Wp G 84 [.inr (.inr 44), .inr (.inr 7)] (mh l) M post := mv_wp [] 36 ok_84 oc_84 rfl h
set_option maxRecDepth 100000 in
theorem vw_X10_takeFrom_o {G : mv_G} {l : Nat} {post : Option mv_V → mv_SH → mv_Mem → Prop} {M : mv_Mem} (h : mv_Wp G 3 [.inr (.inr 8), .inr (.inr 45)] (mh l) M (mv_qv (mh l) fun M1 =>
  mv_Wp G 60 [.inr (.inr 17), .inr (.inr 54)] (mh l) M1 (mv_qv (mh l) fun M2 =>
  mv_Wp G 33 [.inr (.inr 30), .inr (.inr 67)] (mh l) M2 (mv_qv (mh l) fun M3 =>
  post none (mh l) M3)))) :
    mv_Wp G 84 [.inr (.inr 7), .inr (.inr 44)] (mh l) M post := mv_wp [] 36 ok_84 oc_84 rfl h
set_option maxRecDepth 100000 in
theorem vw_X11_feed {G : mv_G} {l : Nat} {post : Option mv_V → mv_SH → mv_Mem → Prop} {M : mv_Mem} {a b : Int} (h : (if 1 ≤ a then
    (if 8 < a then
      mv_Wp G 126 [.inr (.inr 1), .inl (-6)] (mh l) M (mv_qi (mh l) fun x1 M1 =>
      post (some (.inl x1)) (mh l) M1)
    else
      mv_R32 ((M 2 1) + a) ∧
      (if ((M 2 1) + a) ≤ 60 then
        mv_Wp G 46 [.inr (.inr 2), .inl a, .inr (.inl b)] (mh l) M (mv_qv (mh l) fun M2 =>
        post (some (.inl (M2 2 1))) (mh l) M2)
      else
        mv_Wp G 126 [.inr (.inr 1), .inl (-6)] (mh l) M (mv_qi (mh l) fun x3 M3 =>
        post (some (.inl x3)) (mh l) M3)))
  else
    mv_Wp G 126 [.inr (.inr 1), .inl (-4)] (mh l) M (mv_qi (mh l) fun x4 M4 =>
    post (some (.inl x4)) (mh l) M4))) :
    mv_Wp G 86 [.inr (.inr 1), .inl a, .inr (.inl b)] (mh l) M post := mv_wp [] 50 ok_86 oc_86 rfl h
set_option maxRecDepth 100000 in
theorem vw_X11_read {G : mv_G} {l : Nat} {post : Option mv_V → mv_SH → mv_Mem → Prop} {M : mv_Mem} (h : mv_Wp G 47 [.inr (.inr 2)] (mh l) M (mv_qi (mh l) fun x1 M1 =>
  (if x1 = (-1) then
    mv_Wp G 1 [.inr (.inr 8), .inr (.inr 2)] (mh l) M1 (mv_qv (mh l) fun M2 =>
    mv_Wp G 12 [.inr (.inr 6)] (mh l) (mv_up (mv_up M2 30 0 0) 2 1 0) (mv_qv (mh l) fun M3 =>
    post (some (.inl (M3 8 2))) (mh l) M3))
  else
    mv_R32 ((-20) - x1) ∧
    post (some (.inl ((-20) - x1))) (mh l) (mv_up M1 2 1 0)))) :
    mv_Wp G 87 [.inr (.inr 1)] (mh l) M post := mv_wp [] 55 ok_87 oc_87 rfl h
set_option maxRecDepth 100000 in
theorem vw_X11_acre {G : mv_G} {l : Nat} {post : Option mv_V → mv_SH → mv_Mem → Prop} {M : mv_Mem} {a b : Int} (h : mv_Wp G 4 [.inr (.inr 8), .inl a] (mh l) M (mv_qi (mh l) fun x1 M1 =>
  (if x1 = (-1) then
    mv_Wp G 126 [.inr (.inr 1), .inl (-1)] (mh l) M1 (mv_qi (mh l) fun x4 M4 =>
    post (some (.inl x4)) (mh l) M4)
  else
    (if b = 0 then
      (0 ≤ (x1 : Int) ∧ (x1 : Int) < ((48 : Nat) : Int)) ∧
      post (some (.inl (M1 10 (Int.toNat x1)))) (mh l) M1
    else
      (if b = (0 + 1) then
      (0 ≤ (x1 : Int) ∧ (x1 : Int) < ((48 : Nat) : Int)) ∧
      post (some (.inl (M1 11 (Int.toNat x1)))) (mh l) M1
    else
      (if b = (0 + 1 + 1) then
      (0 ≤ (x1 : Int) ∧ (x1 : Int) < ((48 : Nat) : Int)) ∧
      post (some (.inl (M1 13 (Int.toNat x1)))) (mh l) M1
    else
      (if b = (0 + 1 + 1 + 1) then
      (0 ≤ (x1 : Int) ∧ (x1 : Int) < ((48 : Nat) : Int)) ∧
      (if 0 ≤ (M1 12 (Int.toNat x1)) then
        (0 ≤ (x1 : Int) ∧ (x1 : Int) < ((48 : Nat) : Int)) ∧
        post (some (.inl (M1 12 (Int.toNat x1)))) (mh l) M1
      else
        post (some (.inl (-9))) (mh l) M1)
    else
      (if b = (0 + 1 + 1 + 1 + 1) then
      mv_Wp G 9 [.inr (.inr 8), .inl x1] (mh l) M1 (mv_qi (mh l) fun x3 M3 =>
      post (some (.inl x3)) (mh l) M3)
    else
      mv_Wp G 126 [.inr (.inr 1), .inl (-2)] (mh l) M1 (mv_qi (mh l) fun x2 M2 =>
    post (some (.inl x2)) (mh l) M2))))))))) :
    mv_Wp G 88 [.inr (.inr 1), .inl a, .inl b] (mh l) M post := mv_wp [] 75 ok_88 oc_88 rfl h
set_option maxRecDepth 100000 in
theorem vw_X11_road {G : mv_G} {l : Nat} {post : Option mv_V → mv_SH → mv_Mem → Prop} {M : mv_Mem} {a b c : Int} (h : mv_Wp G 4 [.inr (.inr 8), .inl a] (mh l) M (mv_qi (mh l) fun x1 M1 =>
  mv_Wp G 4 [.inr (.inr 8), .inl b] (mh l) M1 (mv_qi (mh l) fun x2 M2 =>
  mv_Wp G 6 [.inr (.inr 8), .inl x1, .inl x2] (mh l) M2 (mv_qi (mh l) fun x3 M3 =>
  (if x3 = (-1) then
    mv_Wp G 126 [.inr (.inr 1), .inl (-1)] (mh l) M3 (mv_qi (mh l) fun x32 M32 =>
    post (some (.inl x32)) (mh l) M32)
  else
    (if c < 0 then
      mv_Wp G 126 [.inr (.inr 1), .inl (-2)] (mh l) M3 (mv_qi (mh l) fun x4 M4 =>
      post (some (.inl x4)) (mh l) M4)
    else
      (if c ≤ 3 then
        mv_Wp G 7 [.inr (.inr 8), .inl x1, .inl x3] (mh l) M3 (mv_qi (mh l) fun x5 M5 =>
        (if x5 = 0 then
          (if c = 0 then
            (if c = 0 then
              (if x5 = 0 then
                mv_R32 (0 - 0) ∧
                mv_R32 ((M5 8 3) + (0 - 0)) ∧
                mv_Wp G 8 [.inr (.inr 8), .inl x1, .inl x3, .inl c] (mh l) (mv_up M5 8 3 ((M5 8 3) + (0 - 0))) (mv_qv (mh l) fun M20 =>
                mv_Wp G 12 [.inr (.inr 6)] (mh l) M20 (mv_qv (mh l) fun M21 =>
                post (some (.inl x5)) (mh l) M21))
              else
                mv_R32 (0 - 1) ∧
                mv_R32 ((M5 8 3) + (0 - 1)) ∧
                mv_Wp G 8 [.inr (.inr 8), .inl x1, .inl x3, .inl c] (mh l) (mv_up M5 8 3 ((M5 8 3) + (0 - 1))) (mv_qv (mh l) fun M18 =>
                mv_Wp G 12 [.inr (.inr 6)] (mh l) M18 (mv_qv (mh l) fun M19 =>
                post (some (.inl x5)) (mh l) M19)))
            else
              (if x5 = 0 then
                mv_R32 (1 - 0) ∧
                mv_R32 ((M5 8 3) + (1 - 0)) ∧
                mv_Wp G 8 [.inr (.inr 8), .inl x1, .inl x3, .inl c] (mh l) (mv_up M5 8 3 ((M5 8 3) + (1 - 0))) (mv_qv (mh l) fun M16 =>
                mv_Wp G 12 [.inr (.inr 6)] (mh l) M16 (mv_qv (mh l) fun M17 =>
                post (some (.inl x5)) (mh l) M17))
              else
                mv_R32 (1 - 1) ∧
                mv_R32 ((M5 8 3) + (1 - 1)) ∧
                mv_Wp G 8 [.inr (.inr 8), .inl x1, .inl x3, .inl c] (mh l) (mv_up M5 8 3 ((M5 8 3) + (1 - 1))) (mv_qv (mh l) fun M14 =>
                mv_Wp G 12 [.inr (.inr 6)] (mh l) M14 (mv_qv (mh l) fun M15 =>
                post (some (.inl x5)) (mh l) M15))))
          else
            (if (M5 8 3) < 12 then
              (if c = 0 then
                (if x5 = 0 then
                  mv_R32 (0 - 0) ∧
                  mv_R32 ((M5 8 3) + (0 - 0)) ∧
                  mv_Wp G 8 [.inr (.inr 8), .inl x1, .inl x3, .inl c] (mh l) (mv_up M5 8 3 ((M5 8 3) + (0 - 0))) (mv_qv (mh l) fun M28 =>
                  mv_Wp G 12 [.inr (.inr 6)] (mh l) M28 (mv_qv (mh l) fun M29 =>
                  post (some (.inl x5)) (mh l) M29))
                else
                  mv_R32 (0 - 1) ∧
                  mv_R32 ((M5 8 3) + (0 - 1)) ∧
                  mv_Wp G 8 [.inr (.inr 8), .inl x1, .inl x3, .inl c] (mh l) (mv_up M5 8 3 ((M5 8 3) + (0 - 1))) (mv_qv (mh l) fun M26 =>
                  mv_Wp G 12 [.inr (.inr 6)] (mh l) M26 (mv_qv (mh l) fun M27 =>
                  post (some (.inl x5)) (mh l) M27)))
              else
                (if x5 = 0 then
                  mv_R32 (1 - 0) ∧
                  mv_R32 ((M5 8 3) + (1 - 0)) ∧
                  mv_Wp G 8 [.inr (.inr 8), .inl x1, .inl x3, .inl c] (mh l) (mv_up M5 8 3 ((M5 8 3) + (1 - 0))) (mv_qv (mh l) fun M24 =>
                  mv_Wp G 12 [.inr (.inr 6)] (mh l) M24 (mv_qv (mh l) fun M25 =>
                  post (some (.inl x5)) (mh l) M25))
                else
                  mv_R32 (1 - 1) ∧
                  mv_R32 ((M5 8 3) + (1 - 1)) ∧
                  mv_Wp G 8 [.inr (.inr 8), .inl x1, .inl x3, .inl c] (mh l) (mv_up M5 8 3 ((M5 8 3) + (1 - 1))) (mv_qv (mh l) fun M22 =>
                  mv_Wp G 12 [.inr (.inr 6)] (mh l) M22 (mv_qv (mh l) fun M23 =>
                  post (some (.inl x5)) (mh l) M23))))
            else
              mv_Wp G 126 [.inr (.inr 1), .inl (-6)] (mh l) M5 (mv_qi (mh l) fun x30 M30 =>
              post (some (.inl x30)) (mh l) M30)))
        else
          (if c = 0 then
            (if x5 = 0 then
              mv_R32 (0 - 0) ∧
              mv_R32 ((M5 8 3) + (0 - 0)) ∧
              mv_Wp G 8 [.inr (.inr 8), .inl x1, .inl x3, .inl c] (mh l) (mv_up M5 8 3 ((M5 8 3) + (0 - 0))) (mv_qv (mh l) fun M12 =>
              mv_Wp G 12 [.inr (.inr 6)] (mh l) M12 (mv_qv (mh l) fun M13 =>
              post (some (.inl x5)) (mh l) M13))
            else
              mv_R32 (0 - 1) ∧
              mv_R32 ((M5 8 3) + (0 - 1)) ∧
              mv_Wp G 8 [.inr (.inr 8), .inl x1, .inl x3, .inl c] (mh l) (mv_up M5 8 3 ((M5 8 3) + (0 - 1))) (mv_qv (mh l) fun M10 =>
              mv_Wp G 12 [.inr (.inr 6)] (mh l) M10 (mv_qv (mh l) fun M11 =>
              post (some (.inl x5)) (mh l) M11)))
          else
            (if x5 = 0 then
              mv_R32 (1 - 0) ∧
              mv_R32 ((M5 8 3) + (1 - 0)) ∧
              mv_Wp G 8 [.inr (.inr 8), .inl x1, .inl x3, .inl c] (mh l) (mv_up M5 8 3 ((M5 8 3) + (1 - 0))) (mv_qv (mh l) fun M8 =>
              mv_Wp G 12 [.inr (.inr 6)] (mh l) M8 (mv_qv (mh l) fun M9 =>
              post (some (.inl x5)) (mh l) M9))
            else
              mv_R32 (1 - 1) ∧
              mv_R32 ((M5 8 3) + (1 - 1)) ∧
              mv_Wp G 8 [.inr (.inr 8), .inl x1, .inl x3, .inl c] (mh l) (mv_up M5 8 3 ((M5 8 3) + (1 - 1))) (mv_qv (mh l) fun M6 =>
              mv_Wp G 12 [.inr (.inr 6)] (mh l) M6 (mv_qv (mh l) fun M7 =>
              post (some (.inl x5)) (mh l) M7))))))
      else
        mv_Wp G 126 [.inr (.inr 1), .inl (-2)] (mh l) M3 (mv_qi (mh l) fun x31 M31 =>
        post (some (.inl x31)) (mh l) M31)))))))) :
    mv_Wp G 89 [.inr (.inr 1), .inl a, .inl b, .inl c] (mh l) M post := mv_wp [] 97 ok_89 oc_89 rfl h
set_option maxRecDepth 100000 in
theorem vw_X11_toll {G : mv_G} {l : Nat} {post : Option mv_V → mv_SH → mv_Mem → Prop} {M : mv_Mem} {a b : Int} (h : mv_Wp G 4 [.inr (.inr 8), .inl a] (mh l) M (mv_qi (mh l) fun x1 M1 =>
  (if x1 = (-1) then
    mv_Wp G 126 [.inr (.inr 1), .inl (-1)] (mh l) M1 (mv_qi (mh l) fun x5 M5 =>
    post (some (.inl x5)) (mh l) M5)
  else
    mv_Wp G 128 [.inl b, .inl 0, .inl 99] (mh l) M1 (mv_qi (mh l) fun x2 M2 =>
    (if x2 = 0 then
      (0 ≤ (x1 : Int) ∧ (x1 : Int) < ((48 : Nat) : Int)) ∧
      (0 ≤ (x1 : Int) ∧ (x1 : Int) < ((48 : Nat) : Int)) ∧
      mv_Wp G 12 [.inr (.inr 6)] (mh l) (mv_up M2 11 (Int.toNat x1) b) (mv_qv (mh l) fun M3 =>
      post (some (.inl (M2 11 (Int.toNat x1)))) (mh l) M3)
    else
      mv_Wp G 126 [.inr (.inr 1), .inl x2] (mh l) M2 (mv_qi (mh l) fun x4 M4 =>
      post (some (.inl x4)) (mh l) M4)))))) :
    mv_Wp G 91 [.inr (.inr 1), .inl a, .inl b] (mh l) M post := mv_wp [] 60 ok_91 oc_91 rfl h
set_option maxRecDepth 100000 in
theorem vw_X11_market {G : mv_G} {l : Nat} {post : Option mv_V → mv_SH → mv_Mem → Prop} {M : mv_Mem} {a : Int} (h : mv_Wp G 4 [.inr (.inr 8), .inl a] (mh l) M (mv_qi (mh l) fun x1 M1 =>
  (if x1 = (-1) then
    mv_Wp G 126 [.inr (.inr 1), .inl (-1)] (mh l) M1 (mv_qi (mh l) fun x6 M6 =>
    post (some (.inl x6)) (mh l) M6)
  else
    mv_Wp G 9 [.inr (.inr 8), .inl x1] (mh l) M1 (mv_qi (mh l) fun x2 M2 =>
    (if x2 = (-9) then
      (if (M2 8 4) < 3 then
        (0 ≤ (M2 8 4 : Int) ∧ (M2 8 4 : Int) < ((3 : Nat) : Int)) ∧
        mv_R32 ((M2 8 4) + 1) ∧
        mv_Wp G 12 [.inr (.inr 6)] (mh l) (mv_up (mv_up M2 15 (Int.toNat (M2 8 4)) x1) 8 4 ((M2 8 4) + 1)) (mv_qv (mh l) fun M3 =>
        post (some (.inl (M2 8 4))) (mh l) M3)
      else
        mv_Wp G 126 [.inr (.inr 1), .inl (-6)] (mh l) M2 (mv_qi (mh l) fun x4 M4 =>
        post (some (.inl x4)) (mh l) M4))
    else
      mv_Wp G 126 [.inr (.inr 1), .inl (-3)] (mh l) M2 (mv_qi (mh l) fun x5 M5 =>
      post (some (.inl x5)) (mh l) M5)))))) :
    mv_Wp G 93 [.inr (.inr 1), .inl a] (mh l) M post := mv_wp [] 72 ok_93 oc_93 rfl h
set_option maxRecDepth 100000 in
theorem vw_X11_use {G : mv_G} {l : Nat} {post : Option mv_V → mv_SH → mv_Mem → Prop} {M : mv_Mem} {a b c d e : Int} (h : (if a < 0 then
    mv_Wp G 126 [.inr (.inr 1), .inl (-2)] (mh l) M (mv_qi (mh l) fun x1 M1 =>
    post (some (.inl x1)) (mh l) M1)
  else
    (if a ≤ 5 then
      (if b < 0 then
        mv_Wp G 126 [.inr (.inr 1), .inl (-4)] (mh l) M (mv_qi (mh l) fun x2 M2 =>
        post (some (.inl x2)) (mh l) M2)
      else
        (if c < 0 then
          mv_Wp G 126 [.inr (.inr 1), .inl (-4)] (mh l) M (mv_qi (mh l) fun x3 M3 =>
          post (some (.inl x3)) (mh l) M3)
        else
          (if d < 0 then
            mv_Wp G 126 [.inr (.inr 1), .inl (-4)] (mh l) M (mv_qi (mh l) fun x4 M4 =>
            post (some (.inl x4)) (mh l) M4)
          else
            (if 0 ≤ e then
              (if 99 < b then
                mv_Wp G 126 [.inr (.inr 1), .inl (-6)] (mh l) M (mv_qi (mh l) fun x5 M5 =>
                post (some (.inl x5)) (mh l) M5)
              else
                (if 99 < c then
                  mv_Wp G 126 [.inr (.inr 1), .inl (-6)] (mh l) M (mv_qi (mh l) fun x6 M6 =>
                  post (some (.inl x6)) (mh l) M6)
                else
                  (if 9999 < d then
                    mv_Wp G 126 [.inr (.inr 1), .inl (-6)] (mh l) M (mv_qi (mh l) fun x7 M7 =>
                    post (some (.inl x7)) (mh l) M7)
                  else
                    (if 99 < e then
                      mv_Wp G 126 [.inr (.inr 1), .inl (-6)] (mh l) M (mv_qi (mh l) fun x8 M8 =>
                      post (some (.inl x8)) (mh l) M8)
                    else
                      (if (M 17 0) < 6 then
                        mv_Wp G 58 [.inr (.inr 17), .inl a, .inl b, .inl c, .inl d, .inl e] (mh l) M (mv_qi (mh l) fun x9 M9 =>
                        mv_Wp G 13 [.inr (.inr 6)] (mh l) M9 (mv_qv (mh l) fun M10 =>
                        post (some (.inl x9)) (mh l) M10))
                      else
                        mv_Wp G 126 [.inr (.inr 1), .inl (-6)] (mh l) M (mv_qi (mh l) fun x11 M11 =>
                        post (some (.inl x11)) (mh l) M11))))))
            else
              mv_Wp G 126 [.inr (.inr 1), .inl (-4)] (mh l) M (mv_qi (mh l) fun x12 M12 =>
              post (some (.inl x12)) (mh l) M12)))))
    else
      mv_Wp G 126 [.inr (.inr 1), .inl (-2)] (mh l) M (mv_qi (mh l) fun x13 M13 =>
      post (some (.inl x13)) (mh l) M13)))) :
    mv_Wp G 94 [.inr (.inr 1), .inl a, .inl b, .inl c, .inl d, .inl e] (mh l) M post := mv_wp [] 76 ok_94 oc_94 rfl h
set_option maxRecDepth 100000 in
theorem vw_X11_year {G : mv_G} {l : Nat} {post : Option mv_V → mv_SH → mv_Mem → Prop} {M : mv_Mem} {a b : Int} (h : mv_Wp G 129 [.inr (.inr 1), .inl a] (mh l) M (mv_qi (mh l) fun x1 M1 =>
  (if x1 = 0 then
    (0 ≤ (a : Int) ∧ (a : Int) < ((6 : Nat) : Int)) ∧
    (if (M1 18 (Int.toNat a)) = 3 then
      (if (-99) ≤ b then
        (if 99 < b then
          mv_Wp G 126 [.inr (.inr 1), .inl (-6)] (mh l) M1 (mv_qi (mh l) fun x2 M2 =>
          post (some (.inl x2)) (mh l) M2)
        else
          (0 ≤ (a : Int) ∧ (a : Int) < ((6 : Nat) : Int)) ∧
          (if (M1 24 (Int.toNat a)) < 6 then
            (0 ≤ (a : Int) ∧ (a : Int) < ((6 : Nat) : Int)) ∧
            mv_R32 ((M1 24 (Int.toNat a)) + 1) ∧
            (0 ≤ (a : Int) ∧ (a : Int) < ((6 : Nat) : Int)) ∧
            (0 ≤ (a : Int) ∧ (a : Int) < ((6 : Nat) : Int)) ∧
            mv_R32 (((mv_up M1 24 (Int.toNat a) ((M1 24 (Int.toNat a)) + 1)) 25 (Int.toNat a)) + b) ∧
            (0 ≤ (a : Int) ∧ (a : Int) < ((6 : Nat) : Int)) ∧
            mv_Wp G 13 [.inr (.inr 6)] (mh l) (mv_up (mv_up M1 24 (Int.toNat a) ((M1 24 (Int.toNat a)) + 1)) 25 (Int.toNat a) (((mv_up M1 24 (Int.toNat a) ((M1 24 (Int.toNat a)) + 1)) 25 (Int.toNat a)) + b)) (mv_qv (mh l) fun M3 =>
            (0 ≤ (a : Int) ∧ (a : Int) < ((6 : Nat) : Int)) ∧
            post (some (.inl (M3 24 (Int.toNat a)))) (mh l) M3)
          else
            mv_Wp G 126 [.inr (.inr 1), .inl (-6)] (mh l) M1 (mv_qi (mh l) fun x4 M4 =>
            post (some (.inl x4)) (mh l) M4)))
      else
        mv_Wp G 126 [.inr (.inr 1), .inl (-4)] (mh l) M1 (mv_qi (mh l) fun x5 M5 =>
        post (some (.inl x5)) (mh l) M5))
    else
      mv_Wp G 126 [.inr (.inr 1), .inl (-3)] (mh l) M1 (mv_qi (mh l) fun x6 M6 =>
      post (some (.inl x6)) (mh l) M6))
  else
    mv_Wp G 126 [.inr (.inr 1), .inl (-1)] (mh l) M1 (mv_qi (mh l) fun x7 M7 =>
    post (some (.inl x7)) (mh l) M7)))) :
    mv_Wp G 95 [.inr (.inr 1), .inl a, .inl b] (mh l) M post := mv_wp [] 87 ok_95 oc_95 rfl h
set_option maxRecDepth 100000 in
theorem vw_X11_price {G : mv_G} {l : Nat} {post : Option mv_V → mv_SH → mv_Mem → Prop} {M : mv_Mem} {a b c : Int} (h : mv_Wp G 129 [.inr (.inr 1), .inl a] (mh l) M (mv_qi (mh l) fun x1 M1 =>
  (if x1 = 0 then
    mv_Wp G 130 [.inr (.inr 1), .inl b] (mh l) M1 (mv_qi (mh l) fun x3 M3 =>
    (if x3 = 0 then
      mv_Wp G 128 [.inl c, .inl 0, .inl 999] (mh l) M3 (mv_qi (mh l) fun x4 M4 =>
      (if x4 = 0 then
        mv_Wp G 131 [.inl a, .inl b] (mh l) M4 (mv_qi (mh l) fun x5 M5 =>
        (0 ≤ (x5 : Int) ∧ (x5 : Int) < ((18 : Nat) : Int)) ∧
        (0 ≤ (x5 : Int) ∧ (x5 : Int) < ((18 : Nat) : Int)) ∧
        mv_Wp G 13 [.inr (.inr 6)] (mh l) (mv_up M5 26 (Int.toNat x5) c) (mv_qv (mh l) fun M6 =>
        post (some (.inl (M5 26 (Int.toNat x5)))) (mh l) M6))
      else
        mv_Wp G 126 [.inr (.inr 1), .inl x4] (mh l) M4 (mv_qi (mh l) fun x7 M7 =>
        post (some (.inl x7)) (mh l) M7)))
    else
      mv_Wp G 126 [.inr (.inr 1), .inl (-1)] (mh l) M3 (mv_qi (mh l) fun x8 M8 =>
      post (some (.inl x8)) (mh l) M8)))
  else
    mv_Wp G 126 [.inr (.inr 1), .inl (-1)] (mh l) M1 (mv_qi (mh l) fun x2 M2 =>
    post (some (.inl x2)) (mh l) M2)))) :
    mv_Wp G 96 [.inr (.inr 1), .inl a, .inl b, .inl c] (mh l) M post := mv_wp [] 64 ok_96 oc_96 rfl h
set_option maxRecDepth 100000 in
theorem vw_X11_tax {G : mv_G} {l : Nat} {post : Option mv_V → mv_SH → mv_Mem → Prop} {M : mv_Mem} {a b : Int} (h : (if a = (-1) then
    mv_Wp G 98 [.inr (.inr 1), .inl b] (mh l) M (mv_qi (mh l) fun x6 M6 =>
    post (some (.inl x6)) (mh l) M6)
  else
    mv_Wp G 129 [.inr (.inr 1), .inl a] (mh l) M (mv_qi (mh l) fun x1 M1 =>
    (if x1 = 0 then
      mv_Wp G 128 [.inl b, .inl 0, .inl 9999] (mh l) M1 (mv_qi (mh l) fun x2 M2 =>
      (if x2 = 0 then
        (0 ≤ (a : Int) ∧ (a : Int) < ((6 : Nat) : Int)) ∧
        (0 ≤ (a : Int) ∧ (a : Int) < ((6 : Nat) : Int)) ∧
        mv_Wp G 13 [.inr (.inr 6)] (mh l) (mv_up M2 23 (Int.toNat a) b) (mv_qv (mh l) fun M3 =>
        post (some (.inl (M2 23 (Int.toNat a)))) (mh l) M3)
      else
        mv_Wp G 126 [.inr (.inr 1), .inl x2] (mh l) M2 (mv_qi (mh l) fun x4 M4 =>
        post (some (.inl x4)) (mh l) M4)))
    else
      mv_Wp G 126 [.inr (.inr 1), .inl (-1)] (mh l) M1 (mv_qi (mh l) fun x5 M5 =>
      post (some (.inl x5)) (mh l) M5))))) :
    mv_Wp G 97 [.inr (.inr 1), .inl a, .inl b] (mh l) M post := mv_wp [] 63 ok_97 oc_97 rfl h
set_option maxRecDepth 100000 in
theorem vw_X11_rentTax {G : mv_G} {l : Nat} {post : Option mv_V → mv_SH → mv_Mem → Prop} {M : mv_Mem} {a : Int} (h : mv_Wp G 128 [.inl a, .inl 0, .inl 100] (mh l) M (mv_qi (mh l) fun x1 M1 =>
  (if x1 = 0 then
    post (some (.inl (M1 17 1))) (mh l) (mv_up M1 17 1 a)
  else
    mv_Wp G 126 [.inr (.inr 1), .inl x1] (mh l) M1 (mv_qi (mh l) fun x2 M2 =>
    post (some (.inl x2)) (mh l) M2)))) :
    mv_Wp G 98 [.inr (.inr 1), .inl a] (mh l) M post := mv_wp [] 41 ok_98 oc_98 rfl h
set_option maxRecDepth 100000 in
theorem vw_X11_goes {G : mv_G} {l : Nat} {post : Option mv_V → mv_SH → mv_Mem → Prop} {M : mv_Mem} {a b : Int} (h : mv_Wp G 4 [.inr (.inr 8), .inl a] (mh l) M (mv_qi (mh l) fun x1 M1 =>
  (if x1 = (-1) then
    mv_Wp G 126 [.inr (.inr 1), .inl (-1)] (mh l) M1 (mv_qi (mh l) fun x5 M5 =>
    post (some (.inl x5)) (mh l) M5)
  else
    (if b < 0 then
      mv_Wp G 126 [.inr (.inr 1), .inl (-2)] (mh l) M1 (mv_qi (mh l) fun x2 M2 =>
      post (some (.inl x2)) (mh l) M2)
    else
      (if b ≤ 1 then
        mv_Wp G 14 [.inr (.inr 6)] (mh l) M1 (mv_qv (mh l) fun M3 =>
        (0 ≤ (x1 : Int) ∧ (x1 : Int) < ((48 : Nat) : Int)) ∧
        (if (M3 43 (Int.toNat x1)) = (-1) then
          post (some (.inl (-9))) (mh l) M3
        else
          (if b = 0 then
            (¬ (3 : Int) = 0 ∧ mv_R32 (Int.tdiv (M3 43 (Int.toNat x1)) 3)) ∧
            post (some (.inl (Int.tdiv (M3 43 (Int.toNat x1)) 3))) (mh l) M3
          else
            ¬ (3 : Int) = 0 ∧
            post (some (.inl (Int.tmod (M3 43 (Int.toNat x1)) 3))) (mh l) M3)))
      else
        mv_Wp G 126 [.inr (.inr 1), .inl (-2)] (mh l) M1 (mv_qi (mh l) fun x4 M4 =>
        post (some (.inl x4)) (mh l) M4)))))) :
    mv_Wp G 100 [.inr (.inr 1), .inl a, .inl b] (mh l) M post := mv_wp [] 65 ok_100 oc_100 rfl h
set_option maxRecDepth 100000 in
theorem vw_X11_rent {G : mv_G} {l : Nat} {post : Option mv_V → mv_SH → mv_Mem → Prop} {M : mv_Mem} {a : Int} (h : mv_Wp G 4 [.inr (.inr 8), .inl a] (mh l) M (mv_qi (mh l) fun x1 M1 =>
  (if a = (-1) then
    mv_Wp G 14 [.inr (.inr 6)] (mh l) M1 (mv_qv (mh l) fun M2 =>
    (if a = (-1) then
      mv_Wp G 22 [.inr (.inr 6)] (mh l) M2 (mv_ql (mh l) fun x4 M4 =>
      post (some (.inr (.inl x4))) (mh l) M4)
    else
      mv_Wp G 20 [.inr (.inr 6), .inl x1] (mh l) M2 (mv_ql (mh l) fun x3 M3 =>
      post (some (.inr (.inl x3))) (mh l) M3)))
  else
    (if x1 = (-1) then
      mv_Wp G 127 [.inr (.inr 1), .inl (-1)] (mh l) M1 (mv_ql (mh l) fun x8 M8 =>
      post (some (.inr (.inl x8))) (mh l) M8)
    else
      mv_Wp G 14 [.inr (.inr 6)] (mh l) M1 (mv_qv (mh l) fun M5 =>
      (if a = (-1) then
        mv_Wp G 22 [.inr (.inr 6)] (mh l) M5 (mv_ql (mh l) fun x7 M7 =>
        post (some (.inr (.inl x7))) (mh l) M7)
      else
        mv_Wp G 20 [.inr (.inr 6), .inl x1] (mh l) M5 (mv_ql (mh l) fun x6 M6 =>
        post (some (.inr (.inl x6))) (mh l) M6))))))) :
    mv_Wp G 101 [.inr (.inr 1), .inl a] (mh l) M post := mv_wp [] 50 ok_101 oc_101 rfl h
set_option maxRecDepth 100000 in
theorem vw_X11_piece {G : mv_G} {l : Nat} {post : Option mv_V → mv_SH → mv_Mem → Prop} {M : mv_Mem} {a b c d : Int} (h : mv_Wp G 129 [.inr (.inr 1), .inl a] (mh l) M (mv_qi (mh l) fun x1 M1 =>
  (if x1 = 0 then
    mv_Wp G 130 [.inr (.inr 1), .inl b] (mh l) M1 (mv_qi (mh l) fun x3 M3 =>
    (if x3 = 0 then
      (if c < 0 then
        mv_Wp G 126 [.inr (.inr 1), .inl (-4)] (mh l) M3 (mv_qi (mh l) fun x4 M4 =>
        post (some (.inl x4)) (mh l) M4)
      else
        (if 0 ≤ d then
          mv_Wp G 131 [.inl a, .inl b] (mh l) M3 (mv_qi (mh l) fun x5 M5 =>
          (if 9999 < c then
            mv_Wp G 126 [.inr (.inr 1), .inl (-6)] (mh l) M5 (mv_qi (mh l) fun x6 M6 =>
            post (some (.inl x6)) (mh l) M6)
          else
            (if 999 < d then
              mv_Wp G 126 [.inr (.inr 1), .inl (-6)] (mh l) M5 (mv_qi (mh l) fun x7 M7 =>
              post (some (.inl x7)) (mh l) M7)
            else
              (0 ≤ (x5 : Int) ∧ (x5 : Int) < ((18 : Nat) : Int)) ∧
              (if (M5 27 (Int.toNat x5)) < 6 then
                mv_Wp G 59 [.inr (.inr 17), .inl x5, .inl c, .inl d] (mh l) M5 (mv_qv (mh l) fun M8 =>
                (0 ≤ (x5 : Int) ∧ (x5 : Int) < ((18 : Nat) : Int)) ∧
                post (some (.inl (M8 27 (Int.toNat x5)))) (mh l) M8)
              else
                mv_Wp G 126 [.inr (.inr 1), .inl (-6)] (mh l) M5 (mv_qi (mh l) fun x9 M9 =>
                post (some (.inl x9)) (mh l) M9)))))
        else
          mv_Wp G 126 [.inr (.inr 1), .inl (-4)] (mh l) M3 (mv_qi (mh l) fun x10 M10 =>
          post (some (.inl x10)) (mh l) M10)))
    else
      mv_Wp G 126 [.inr (.inr 1), .inl (-1)] (mh l) M3 (mv_qi (mh l) fun x11 M11 =>
      post (some (.inl x11)) (mh l) M11)))
  else
    mv_Wp G 126 [.inr (.inr 1), .inl (-1)] (mh l) M1 (mv_qi (mh l) fun x2 M2 =>
    post (some (.inl x2)) (mh l) M2)))) :
    mv_Wp G 103 [.inr (.inr 1), .inl a, .inl b, .inl c, .inl d] (mh l) M post := mv_wp [] 73 ok_103 oc_103 rfl h
set_option maxRecDepth 100000 in
theorem vw_X11_rounds {G : mv_G} {l : Nat} {post : Option mv_V → mv_SH → mv_Mem → Prop} {M : mv_Mem} {a : Int} (h : mv_Wp G 128 [.inl a, .inl 1, .inl 20] (mh l) M (mv_qi (mh l) fun x1 M1 =>
  (if x1 = 0 then
    mv_Wp G 14 [.inr (.inr 6)] (mh l) M1 (mv_qv (mh l) fun M2 =>
    mv_Wp G 53 [.inr (.inr 72), .inr (.inr 6), .inl a] (mh l) M2 (mv_qi (mh l) fun x3 M3 =>
    mv_Wp G 13 [.inr (.inr 6)] (mh l) M3 (mv_qv (mh l) fun M4 =>
    post (some (.inl x3)) (mh l) M4)))
  else
    mv_Wp G 126 [.inr (.inr 1), .inl x1] (mh l) M1 (mv_qi (mh l) fun x5 M5 =>
    post (some (.inl x5)) (mh l) M5)))) :
    mv_Wp G 106 [.inr (.inr 1), .inl a] (mh l) M post := mv_wp [] 46 ok_106 oc_106 rfl h
set_option maxRecDepth 100000 in
theorem vw_X11_falls {G : mv_G} {l : Nat} {post : Option mv_V → mv_SH → mv_Mem → Prop} {M : mv_Mem} {a b : Int} (h : mv_Wp G 129 [.inr (.inr 1), .inl a] (mh l) M (mv_qi (mh l) fun x1 M1 =>
  (if x1 = 0 then
    mv_Wp G 128 [.inl b, .inl 0, .inl 9999] (mh l) M1 (mv_qi (mh l) fun x2 M2 =>
    (if x2 = 0 then
      mv_Wp G 14 [.inr (.inr 6)] (mh l) M2 (mv_qv (mh l) fun M3 =>
      mv_Wp G 30 [.inr (.inr 6), .inl a, .inl b] (mh l) M3 (mv_qi (mh l) fun x4 M4 =>
      post (some (.inl x4)) (mh l) M4))
    else
      mv_Wp G 126 [.inr (.inr 1), .inl x2] (mh l) M2 (mv_qi (mh l) fun x5 M5 =>
      post (some (.inl x5)) (mh l) M5)))
  else
    mv_Wp G 126 [.inr (.inr 1), .inl (-1)] (mh l) M1 (mv_qi (mh l) fun x6 M6 =>
    post (some (.inl x6)) (mh l) M6)))) :
    mv_Wp G 117 [.inr (.inr 1), .inl a, .inl b] (mh l) M post := mv_wp [] 48 ok_117 oc_117 rfl h
set_option maxRecDepth 100000 in
theorem vw_X11_own {G : mv_G} {l : Nat} {post : Option mv_V → mv_SH → mv_Mem → Prop} {M : mv_Mem} {a b : Int} (h : mv_Wp G 4 [.inr (.inr 8), .inl a] (mh l) M (mv_qi (mh l) fun x1 M1 =>
  (if x1 = (-1) then
    mv_Wp G 126 [.inr (.inr 1), .inl (-1)] (mh l) M1 (mv_qi (mh l) fun x4 M4 =>
    post (some (.inl x4)) (mh l) M4)
  else
    mv_Wp G 128 [.inl b, .inl (-1), .inl 3] (mh l) M1 (mv_qi (mh l) fun x2 M2 =>
    (if x2 = 0 then
      (0 ≤ (x1 : Int) ∧ (x1 : Int) < ((48 : Nat) : Int)) ∧
      (if (M2 12 (Int.toNat x1)) = b then
        post (some (.inl 0)) (mh l) M2
      else
        (0 ≤ (x1 : Int) ∧ (x1 : Int) < ((48 : Nat) : Int)) ∧
        post (some (.inl 1)) (mh l) (mv_up M2 12 (Int.toNat x1) b))
    else
      mv_Wp G 126 [.inr (.inr 1), .inl x2] (mh l) M2 (mv_qi (mh l) fun x3 M3 =>
      post (some (.inl x3)) (mh l) M3)))))) :
    mv_Wp G 118 [.inr (.inr 1), .inl a, .inl b] (mh l) M post := mv_wp [] 60 ok_118 oc_118 rfl h
set_option maxRecDepth 100000 in
theorem vw_X11_held {G : mv_G} {l : Nat} {post : Option mv_V → mv_SH → mv_Mem → Prop} {M : mv_Mem} {a b : Int} (h : mv_Wp G 4 [.inr (.inr 8), .inl a] (mh l) M (mv_qi (mh l) fun x1 M1 =>
  (if x1 = (-1) then
    mv_Wp G 126 [.inr (.inr 1), .inl (-1)] (mh l) M1 (mv_qi (mh l) fun x4 M4 =>
    post (some (.inl x4)) (mh l) M4)
  else
    (if b = 0 then
      (0 ≤ (x1 : Int) ∧ (x1 : Int) < ((48 : Nat) : Int)) ∧
      (if (M1 13 (Int.toNat x1)) = 0 then
        post (some (.inl 0)) (mh l) M1
      else
        (0 ≤ (x1 : Int) ∧ (x1 : Int) < ((48 : Nat) : Int)) ∧
        mv_Wp G 13 [.inr (.inr 6)] (mh l) (mv_up M1 13 (Int.toNat x1) 0) (mv_qv (mh l) fun M2 =>
        post (some (.inl 1)) (mh l) M2))
    else
      (0 ≤ (x1 : Int) ∧ (x1 : Int) < ((48 : Nat) : Int)) ∧
      (if (M1 13 (Int.toNat x1)) = 1 then
        post (some (.inl 0)) (mh l) M1
      else
        (0 ≤ (x1 : Int) ∧ (x1 : Int) < ((48 : Nat) : Int)) ∧
        mv_Wp G 13 [.inr (.inr 6)] (mh l) (mv_up M1 13 (Int.toNat x1) 1) (mv_qv (mh l) fun M3 =>
        post (some (.inl 1)) (mh l) M3)))))) :
    mv_Wp G 119 [.inr (.inr 1), .inl a, .inl b] (mh l) M post := mv_wp [] 58 ok_119 oc_119 rfl h
set_option maxRecDepth 100000 in
theorem vw_X11_hold {G : mv_G} {l : Nat} {post : Option mv_V → mv_SH → mv_Mem → Prop} {M : mv_Mem} {a : Int} (h : mv_Wp G 128 [.inl a, .inl 0, .inl 3] (mh l) M (mv_qi (mh l) fun x1 M1 =>
  (if x1 = 0 then
    mv_Wp G 14 [.inr (.inr 6)] (mh l) M1 (mv_qv (mh l) fun M2 =>
    mv_Wp G 55 [.inr (.inr 72), .inr (.inr 6), .inl a] (mh l) M2 (mv_qi (mh l) fun x3 M3 =>
    post (some (.inl x3)) (mh l) M3))
  else
    mv_Wp G 126 [.inr (.inr 1), .inl x1] (mh l) M1 (mv_qi (mh l) fun x4 M4 =>
    post (some (.inl x4)) (mh l) M4)))) :
    mv_Wp G 120 [.inr (.inr 1), .inl a] (mh l) M post := mv_wp [] 41 ok_120 oc_120 rfl h
set_option maxRecDepth 100000 in
theorem vw_X11_image {G : mv_G} {l : Nat} {post : Option mv_V → mv_SH → mv_Mem → Prop} {M : mv_Mem} (h : mv_Wp G 84 [.inr (.inr 44), .inr (.inr 7)] (mh l) M (mv_qv (mh l) fun M1 =>
  ((1 : Int) = 0 ∨ (1 : Int) = 1) ∧
  post (some (.inl ((mv_up M1 1 8 1) 8 2))) (mh l) (mv_up M1 1 8 1))) :
    mv_Wp G 123 [.inr (.inr 1)] (mh l) M post := mv_wp [] 32 ok_123 oc_123 rfl h
set_option maxRecDepth 100000 in
theorem vw_X11_on {G : mv_G} {l : Nat} {post : Option mv_V → mv_SH → mv_Mem → Prop} {M : mv_Mem} (h : (if (M 1 8) = 0 then
    mv_Wp G 126 [.inr (.inr 1), .inl (-3)] (mh l) M (mv_qi (mh l) fun x3 M3 =>
    post (some (.inl x3)) (mh l) M3)
  else
    mv_Wp G 84 [.inr (.inr 7), .inr (.inr 44)] (mh l) M (mv_qv (mh l) fun M1 =>
    mv_Wp G 12 [.inr (.inr 6)] (mh l) M1 (mv_qv (mh l) fun M2 =>
    post (some (.inl (M2 8 2))) (mh l) M2)))) :
    mv_Wp G 124 [.inr (.inr 1)] (mh l) M post := mv_wp [] 39 ok_124 oc_124 rfl h
set_option maxRecDepth 100000 in
theorem vw_X11_count {G : mv_G} {l : Nat} {post : Option mv_V → mv_SH → mv_Mem → Prop} {M : mv_Mem} {a : Int} (h : (if a = 0 then
    post (some (.inl (M 8 0))) (mh l) M
  else
    (if a = (0 + 1) then
    post (some (.inl (M 8 1))) (mh l) M
  else
    (if a = (0 + 1 + 1) then
    post (some (.inl (M 8 4))) (mh l) M
  else
    (if a = (0 + 1 + 1 + 1) then
    post (some (.inl (M 17 0))) (mh l) M
  else
    (if a = (0 + 1 + 1 + 1 + 1) then
    post (some (.inl (M 8 3))) (mh l) M
  else
    (if a = (0 + 1 + 1 + 1 + 1 + 1) then
    post (some (.inl (M 30 0))) (mh l) M
  else
    (if a = (0 + 1 + 1 + 1 + 1 + 1 + 1) then
    mv_Wp G 14 [.inr (.inr 6)] (mh l) M (mv_qv (mh l) fun M2 =>
    mv_Wp G 29 [.inr (.inr 6)] (mh l) M2 (mv_qi (mh l) fun x3 M3 =>
    post (some (.inl x3)) (mh l) M3))
  else
    (if a = (0 + 1 + 1 + 1 + 1 + 1 + 1 + 1) then
    mv_Wp G 10 [.inr (.inr 8)] (mh l) M (mv_qi (mh l) fun x1 M1 =>
    post (some (.inl x1)) (mh l) M1)
  else
    (if a = (0 + 1 + 1 + 1 + 1 + 1 + 1 + 1 + 1) then
    post (some (.inl (M 2 1))) (mh l) M
  else
    (if a = (0 + 1 + 1 + 1 + 1 + 1 + 1 + 1 + 1 + 1) then
    post (some (.inl (M 4 1))) (mh l) M
  else
    (if a < 11 then
    post (some (.inl (-9))) (mh l) M
  else
    (if 16 < a then
      post (some (.inl (-9))) (mh l) M
    else
      mv_R32 (a - 10) ∧
      (0 ≤ (a - 10 : Int) ∧ (a - 10 : Int) < ((7 : Nat) : Int)) ∧
      post (some (.inl (M 87 (Int.toNat (a - 10))))) (mh l) M))))))))))))) :
    mv_Wp G 125 [.inr (.inr 1), .inl a] (mh l) M post := mv_wp [] 80 ok_125 oc_125 rfl h
set_option maxRecDepth 100000 in
theorem vw_X11_refuse {G : mv_G} {l : Nat} {post : Option mv_V → mv_SH → mv_Mem → Prop} {M : mv_Mem} {a : Int} (h : (if (-1) < a then
    post (some (.inl a)) (mh l) M
  else
    (if a < (-6) then
      post (some (.inl a)) (mh l) M
    else
      mv_R32 (-a) ∧
      (0 ≤ (-a : Int) ∧ (-a : Int) < ((7 : Nat) : Int)) ∧
      mv_R32 ((M 87 (Int.toNat (-a))) + 1) ∧
      (0 ≤ (-a : Int) ∧ (-a : Int) < ((7 : Nat) : Int)) ∧
      post (some (.inl a)) (mh l) (mv_up M 87 (Int.toNat (-a)) ((M 87 (Int.toNat (-a))) + 1))))) :
    mv_Wp G 126 [.inr (.inr 1), .inl a] (mh l) M post := mv_wp [] 37 ok_126 oc_126 rfl h
set_option maxRecDepth 100000 in
theorem vw_X11_refuseLong {G : mv_G} {l : Nat} {post : Option mv_V → mv_SH → mv_Mem → Prop} {M : mv_Mem} {a : Int} (h : mv_Wp G 126 [.inr (.inr 1), .inl a] (mh l) M (mv_qi (mh l) fun x1 M1 =>
  mv_R64 (4000000000000000000 - x1) ∧
  post (some (.inr (.inl (4000000000000000000 - x1)))) (mh l) M1)) :
    mv_Wp G 127 [.inr (.inr 1), .inl a] (mh l) M post := mv_wp [] 27 ok_127 oc_127 rfl h
set_option maxRecDepth 100000 in
theorem vw_X11_unfit {G : mv_G} {l : Nat} {post : Option mv_V → mv_SH → mv_Mem → Prop} {M : mv_Mem} {a b c : Int} (h : (if b ≤ a then
    (if a ≤ c then
      post (some (.inl 0)) (mh l) M
    else
      post (some (.inl (-6))) (mh l) M)
  else
    post (some (.inl (-4))) (mh l) M)) :
    mv_Wp G 128 [.inl a, .inl b, .inl c] (mh l) M post := mv_wp [] 32 ok_128 oc_128 rfl h
set_option maxRecDepth 100000 in
theorem vw_X11_isNoUse {G : mv_G} {l : Nat} {post : Option mv_V → mv_SH → mv_Mem → Prop} {M : mv_Mem} {a : Int} (h : (if a < 0 then
    ((1 : Int) = 0 ∨ (1 : Int) = 1) ∧ post (some (.inl 1)) (mh l) M
  else
    (if a < (M 17 0) then
      ((0 : Int) = 0 ∨ (0 : Int) = 1) ∧ post (some (.inl 0)) (mh l) M
    else
      ((1 : Int) = 0 ∨ (1 : Int) = 1) ∧ post (some (.inl 1)) (mh l) M))) :
    mv_Wp G 129 [.inr (.inr 1), .inl a] (mh l) M post := mv_wp [] 31 ok_129 oc_129 rfl h
set_option maxRecDepth 100000 in
theorem vw_X11_isNoMarket {G : mv_G} {l : Nat} {post : Option mv_V → mv_SH → mv_Mem → Prop} {M : mv_Mem} {a : Int} (h : (if a < 0 then
    ((1 : Int) = 0 ∨ (1 : Int) = 1) ∧ post (some (.inl 1)) (mh l) M
  else
    (if a < (M 8 4) then
      ((0 : Int) = 0 ∨ (0 : Int) = 1) ∧ post (some (.inl 0)) (mh l) M
    else
      ((1 : Int) = 0 ∨ (1 : Int) = 1) ∧ post (some (.inl 1)) (mh l) M))) :
    mv_Wp G 130 [.inr (.inr 1), .inl a] (mh l) M post := mv_wp [] 31 ok_130 oc_130 rfl h
set_option maxRecDepth 100000 in
theorem vw_X11_offerOf {G : mv_G} {l : Nat} {post : Option mv_V → mv_SH → mv_Mem → Prop} {M : mv_Mem} {a b : Int} (h : mv_R32 (a * 3) ∧
  mv_R32 ((a * 3) + b) ∧
  post (some (.inl ((a * 3) + b))) (mh l) M) :
    mv_Wp G 131 [.inl a, .inl b] (mh l) M post := mv_wp [] 26 ok_131 oc_131 rfl h
end
section
/-! WHAT IS TO BE SHOWN of the methods (by program: wip/p40/allvc.py) -/
set_option maxRecDepth 100000 in
theorem vw_J9_floorDiv_f86c9 {G : mv_G} {l : Nat} {post : Option mv_V → mv_SH → mv_Mem → Prop} {M : mv_Mem} {a b : Int} (h : (¬ (b : Int) = 0 ∧ mv_R64 (Int.tdiv a b)) ∧
  (if 0 ≤ (mv_cmp (mv_lxor a b) 0) then
    post (some (.inr (.inl (Int.tdiv a b)))) (mh l) M
  else
    mv_R64 ((Int.tdiv a b) * b) ∧
    (if (mv_cmp ((Int.tdiv a b) * b) a) = 0 then
      post (some (.inr (.inl (Int.tdiv a b)))) (mh l) M
    else
      mv_R64 ((Int.tdiv a b) - 1) ∧
      post (some (.inr (.inl ((Int.tdiv a b) - 1)))) (mh l) M))) :
    mv_Wp G 222 [.inr (.inl a), .inr (.inl b)] (mh l) M post := mv_wp [] 42 ok_222 oc_222 rfl h
set_option maxRecDepth 100000 in
theorem vw_J9_max_f86c9 {G : mv_G} {l : Nat} {post : Option mv_V → mv_SH → mv_Mem → Prop} {M : mv_Mem} {a b : Int} (h : (if (mv_cmp a b) < 0 then
    post (some (.inr (.inl b))) (mh l) M
  else
    post (some (.inr (.inl a))) (mh l) M)) :
    mv_Wp G 224 [.inr (.inl a), .inr (.inl b)] (mh l) M post := mv_wp [] 28 ok_224 oc_224 rfl h
set_option maxRecDepth 100000 in
theorem vw_J9_min_f86c9 {G : mv_G} {l : Nat} {post : Option mv_V → mv_SH → mv_Mem → Prop} {M : mv_Mem} {a b : Int} (h : (if 0 < (mv_cmp a b) then
    post (some (.inr (.inl b))) (mh l) M
  else
    post (some (.inr (.inl a))) (mh l) M)) :
    mv_Wp G 225 [.inr (.inl a), .inr (.inl b)] (mh l) M post := mv_wp [] 28 ok_225 oc_225 rfl h
end
section
/-! THE STATE IN NUMBERS: S 0: wide, high, markets, uses, rent tax, plans, roads; S 1 .. 4: soil, toll, owner (-1), held of the acre k = 8 y + x; S 5 (4 k + d): the road from k towards d (east, west, south, north; 4: a river's way up);
S 6: steps; S 7: the markets' acres; S 8 .. 13: kind, base, more, cost, fare, tax; S 14 (6 u + i): years, S 15 how many; S 16: prices (3 u + m); S 17, 18, 19: pieces (much, price, how many); S 20 .. 23: plans (acre, direction, kind, cost) -/
def sg_ok (S : mv_Mem) (k : Nat) : Prop := ((k % 8 : Nat) : Int) < S 0 0 ∧ ((k / 8 : Nat) : Int) < S 0 1
def sg_nx (k d : Nat) : Nat := if d = 0 then k + 1 else if d = 1 then k - 1 else if d = 2 then k + 8 else k - 8
def sg_has (S : mv_Mem) (k d : Nat) : Prop := if d = 0 then ((k % 8 + 1 : Nat) : Int) < S 0 0 else if d = 1 then 0 < k % 8 else if d = 2 then ((k / 8 + 1 : Nat) : Int) < S 0 1 else 0 < k / 8
/-- an acre's place, line by line -/
def sg_pl (S : mv_Mem) (k : Nat) : Nat := (k / 8) * (S 0 0).toNat + k % 8
/-- the acre that is told; -1 -/
def sg_ac (S : mv_Mem) (xy : Int) : Int := if 0 ≤ xy ∧ xy / 10 < S 0 0 ∧ xy % 10 < S 0 1 then 8 * (xy % 10) + xy / 10 else -1
/-- .. as a place -/
def sg_pa (S : mv_Mem) (xy : Int) : Int := if 0 ≤ sg_ac S xy then (sg_pl S (sg_ac S xy).toNat : Int) else -1
def sg_ys (S : mv_Mem) (u : Nat) : Nat → Int
  | 0 => 0
  | n + 1 => sg_ys S u n + S 14 (6 * u + n)
def sg_B (S : mv_Mem) (a n : Nat) (lo hi : Int) : Prop := ∀ i, i < n → lo ≤ S a i ∧ S a i ≤ hi
/-- what is so of every state -/
def sg_wf (S : mv_Mem) : Prop :=
  ((1 ≤ S 0 0 ∧ S 0 0 ≤ 8) ∧ (1 ≤ S 0 1 ∧ S 0 1 ≤ 6) ∧ (0 ≤ S 0 2 ∧ S 0 2 ≤ 3) ∧ (0 ≤ S 0 3 ∧ S 0 3 ≤ 6) ∧ (0 ≤ S 0 4 ∧ S 0 4 ≤ 100) ∧ (0 ≤ S 0 5 ∧ S 0 5 ≤ 8) ∧ (0 ≤ S 0 6 ∧ S 0 6 ≤ 12)) ∧
  (sg_B S 1 48 0 9 ∧ sg_B S 2 48 0 99 ∧ sg_B S 3 48 (-1) 3 ∧ sg_B S 4 48 0 1 ∧ sg_B S 5 192 0 4 ∧ sg_B S 6 4 1 99) ∧
  (∀ m : Nat, (m : Int) < S 0 2 → 0 ≤ S 7 m ∧ S 7 m < 48 ∧ sg_ok S (S 7 m).toNat) ∧ (∀ m m' : Nat, (m : Int) < S 0 2 → (m' : Int) < S 0 2 → S 7 m = S 7 m' → m = m') ∧
  (sg_B S 8 6 0 5 ∧ sg_B S 9 6 0 99 ∧ sg_B S 10 6 0 99 ∧ sg_B S 11 6 0 9999 ∧ sg_B S 12 6 0 99 ∧ sg_B S 13 6 0 9999 ∧ sg_B S 14 36 (-99) 99 ∧ sg_B S 15 6 0 6) ∧
  (sg_B S 16 18 0 999 ∧ sg_B S 17 108 0 9999 ∧ sg_B S 18 108 0 999 ∧ sg_B S 19 18 0 6) ∧
  (∀ p : Nat, (p : Int) < S 0 5 → (0 ≤ S 20 p ∧ S 20 p < 48 ∧ sg_ok S (S 20 p).toNat) ∧ (0 ≤ S 21 p ∧ S 21 p < 4 ∧ sg_has S (S 20 p).toNat (S 21 p).toNat) ∧ (1 ≤ S 22 p ∧ S 22 p ≤ 3) ∧ (0 ≤ S 23 p ∧ S 23 p ≤ 99999)) ∧
  (∀ k d : Nat, sg_ok S k → d < 4 → sg_has S k d → S 5 (4 * sg_nx k d + (if d = 0 then 1 else if d = 1 then 0 else if d = 2 then 3 else 2)) = (if S 5 (4 * k + d) = 3 then 4 else if S 5 (4 * k + d) = 4 then 3 else S 5 (4 * k + d))) ∧
  (∀ u : Nat, u < 6 → S 8 u ≠ 3 → S 15 u = 0) ∧ (∀ u : Nat, S 0 3 ≤ (u : Int) → u < 6 → S 13 u = 0 ∧ S 15 u = 0)
/-- the class's cells hold a state: the world at o = 0, what is kept at o = 37 -/
def sg_C (o : Nat) (S M : mv_Mem) : Prop :=
  (M (8 + o) 0 = S 0 0 ∧ M (8 + o) 1 = S 0 1 ∧ M (8 + o) 2 = S 0 0 * S 0 1 ∧ M (8 + o) 3 = S 0 6 ∧ M (8 + o) 4 = S 0 2) ∧
  (∀ k, sg_ok S k → M (9 + o) (sg_pl S k) = ((10 * (k % 8) + k / 8 : Nat) : Int) ∧ M (10 + o) (sg_pl S k) = S 1 k ∧ M (11 + o) (sg_pl S k) = S 2 k ∧ M (12 + o) (sg_pl S k) = S 3 k ∧ M (13 + o) (sg_pl S k) = S 4 k ∧ ∀ d, d < 4 → M (14 + o) (4 * sg_pl S k + d) = S 5 (4 * k + d)) ∧
  (∀ m : Nat, (m : Int) < S 0 2 → M (15 + o) m = (sg_pl S (S 7 m).toNat : Int)) ∧ (∀ i, i < 4 → M (16 + o) i = S 6 i) ∧
  (M (17 + o) 0 = S 0 3 ∧ M (17 + o) 1 = S 0 4) ∧
  (∀ i, i < 6 → M (18 + o) i = S 8 i ∧ M (19 + o) i = S 9 i ∧ M (20 + o) i = S 10 i ∧ M (21 + o) i = S 11 i ∧ M (22 + o) i = S 12 i ∧ M (23 + o) i = S 13 i ∧ M (24 + o) i = S 15 i ∧ M (25 + o) i = sg_ys S i (S 15 i).toNat) ∧
  (∀ i, i < 18 → M (26 + o) i = S 16 i ∧ M (27 + o) i = S 19 i) ∧ (∀ i, i < 108 → M (28 + o) i = S 17 i ∧ M (29 + o) i = S 18 i) ∧
  M (30 + o) 0 = S 0 5 ∧ (∀ p : Nat, (p : Int) < S 0 5 → M (31 + o) p = (sg_pl S (S 20 p).toNat : Int) ∧ M (32 + o) p = S 21 p ∧ M (33 + o) p = S 22 p ∧ M (34 + o) p = S 23 p)
theorem sg_C_fr {o : Nat} {S M M' : mv_Mem} (h : sg_C o S M) (hm : ∀ c, 8 + o ≤ c → c ≤ 34 + o → ∀ i, M' c i = M c i) : sg_C o S M' := by
  obtain ⟨⟨a1, a2, a3, a4, a5⟩, b, c, d, ⟨e1, e2⟩, f, g, hh, i, j⟩ := h
  refine ⟨⟨?_, ?_, ?_, ?_, ?_⟩, fun k hk => ⟨?_, ?_, ?_, ?_, ?_, fun d hd => ?_⟩, fun m hk => ?_, fun m hk => ?_, ⟨?_, ?_⟩, fun m hk => ⟨?_, ?_, ?_, ?_, ?_, ?_, ?_, ?_⟩, fun m hk => ⟨?_, ?_⟩, fun m hk => ⟨?_, ?_⟩, ?_, fun p hk => ⟨?_, ?_, ?_, ?_⟩⟩ <;> rw [hm _ (by omega) (by omega)]
  · exact a1
  · exact a2
  · exact a3
  · exact a4
  · exact a5
  · exact (b k hk).1
  · exact (b k hk).2.1
  · exact (b k hk).2.2.1
  · exact (b k hk).2.2.2.1
  · exact (b k hk).2.2.2.2.1
  · exact (b k hk).2.2.2.2.2 d hd
  · exact c m hk
  · exact d m hk
  · exact e1
  · exact e2
  · exact (f m hk).1
  · exact (f m hk).2.1
  · exact (f m hk).2.2.1
  · exact (f m hk).2.2.2.1
  · exact (f m hk).2.2.2.2.1
  · exact (f m hk).2.2.2.2.2.1
  · exact (f m hk).2.2.2.2.2.2.1
  · exact (f m hk).2.2.2.2.2.2.2
  · exact (g m hk).1
  · exact (g m hk).2
  · exact (hh m hk).1
  · exact (hh m hk).2
  · exact i
  · exact (j p hk).1
  · exact (j p hk).2.1
  · exact (j p hk).2.2.1
  · exact (j p hk).2.2.2
/-! small facts -/
theorem sg_td {a b : Int} (h : 0 ≤ a) : a.tdiv b = a / b := Int.tdiv_eq_ediv_of_nonneg h
theorem sg_tm {a b : Int} (h : 0 ≤ a) : a.tmod b = a % b := Int.tmod_eq_emod_of_nonneg h
theorem mv_cmp_le (x y : Int) : mv_cmp x y ≤ 0 ↔ x ≤ y := by
  unfold mv_cmp
  split
  · omega
  · split <;> omega
theorem mv_cmp_lt (x y : Int) : mv_cmp x y < 0 ↔ x < y := by
  unfold mv_cmp
  split
  · omega
  · split <;> omega
theorem mv_cmp_ge (x y : Int) : 0 ≤ mv_cmp x y ↔ y ≤ x := by
  unfold mv_cmp
  split
  · omega
  · split <;> omega
theorem mv_cmp_gt (x y : Int) : 0 < mv_cmp x y ↔ y < x := by
  unfold mv_cmp
  split
  · omega
  · split <;> omega
theorem mv_cmp_eq (x y : Int) : mv_cmp x y = 0 ↔ x = y := by
  unfold mv_cmp
  split
  · omega
  · split <;> omega
theorem sg_ac_ok {S : mv_Mem} {xy : Int} (hw : sg_wf S) (h : 0 ≤ sg_ac S xy) : sg_ok S (sg_ac S xy).toNat ∧ (sg_ac S xy).toNat < 48 ∧ 0 ≤ xy ∧ xy / 10 < S 0 0 ∧ xy % 10 < S 0 1 ∧ sg_ac S xy = 8 * (xy % 10) + xy / 10 := by
  obtain ⟨⟨⟨w1, w2⟩, ⟨h1, h2⟩, -⟩, -⟩ := hw
  unfold sg_ac at h ⊢
  split at h
  · rename_i hc
    rw [if_pos hc]
    refine ⟨⟨?_, ?_⟩, ?_, hc.1, hc.2.1, hc.2.2, rfl⟩ <;> omega
  · omega
theorem sg_nat {x : Int} (h : 0 ≤ x) : ∃ n : Nat, x = (n : Int) := ⟨x.toNat, by omega⟩
theorem sg_pl_lt {S : mv_Mem} {k : Nat} (hw : sg_wf S) (hk : sg_ok S k) : (sg_pl S k : Int) < S 0 0 * S 0 1 ∧ sg_pl S k < 48 := by
  obtain ⟨⟨⟨w1, w2⟩, ⟨h1, h2⟩, -⟩, -⟩ := hw
  obtain ⟨k1, k2⟩ := hk
  unfold sg_pl
  obtain ⟨w, ew⟩ := sg_nat (show 0 ≤ S 0 0 by omega)
  obtain ⟨h, eh⟩ := sg_nat (show 0 ≤ S 0 1 by omega)
  rw [ew] at w1 w2 k1
  rw [eh] at h1 h2 k2
  rw [ew, eh, Int.toNat_natCast]
  have hm : (k / 8 + 1) * w ≤ h * w := Nat.mul_le_mul_right w (by omega)
  have hm2 : h * w ≤ 6 * 8 := Nat.mul_le_mul (by omega) (by omega)
  rw [Nat.add_mul, Nat.one_mul] at hm
  refine ⟨?_, by omega⟩
  have hm4 : ((k / 8 * w + k % 8 : Nat) : Int) < ((h * w : Nat) : Int) := by omega
  rw [Int.natCast_mul] at hm4
  rw [Int.mul_comm]
  exact hm4
end
section
/-! THE CLASS's LAND -/
theorem sg_ac_no {S : mv_Mem} {a : Int} (h : ¬ (0 ≤ a ∧ a / 10 < S 0 0 ∧ a % 10 < S 0 1)) : sg_ac S a = -1 := if_neg h
theorem sg_ac_yes {S : mv_Mem} {a : Int} (h : 0 ≤ a ∧ a / 10 < S 0 0 ∧ a % 10 < S 0 1) : sg_ac S a = 8 * (a % 10) + a / 10 := if_pos h
theorem sg_pa_no {S : mv_Mem} {a : Int} (h : ¬ (0 ≤ a ∧ a / 10 < S 0 0 ∧ a % 10 < S 0 1)) : sg_pa S a = -1 := by
  unfold sg_pa
  rw [sg_ac_no h]
  rfl
theorem sg_pa_yes {S : mv_Mem} (hw : sg_wf S) {a : Int} (h : 0 ≤ a ∧ a / 10 < S 0 0 ∧ a % 10 < S 0 1) : sg_pa S a = (a % 10) * S 0 0 + a / 10 := by
  obtain ⟨⟨⟨w1, w2⟩, ⟨h1, h2⟩, -⟩, -⟩ := hw
  unfold sg_pa sg_pl
  rw [sg_ac_yes h, if_pos (by omega)]
  have e1 : (8 * (a % 10) + a / 10).toNat / 8 = (a % 10).toNat := by omega
  have e2 : (8 * (a % 10) + a / 10).toNat % 8 = (a / 10).toNat := by omega
  rw [e1, e2, Int.natCast_add, Int.natCast_mul, Int.toNat_of_nonneg (by omega), Int.toNat_of_nonneg (by omega), Int.toNat_of_nonneg (by omega)]
theorem sg_pa_lt {S : mv_Mem} (hw : sg_wf S) (a : Int) : -1 ≤ sg_pa S a ∧ sg_pa S a < 48 := by
  unfold sg_pa
  split
  · rename_i h
    have := (sg_pl_lt hw (sg_ac_ok hw h).1).2
    omega
  · omega
theorem cl_placeOf {G : mv_G} {l : Nat} {S M : mv_Mem} {F : Int → mv_Mem → Prop} {a : Int} (hw : sg_wf S) (hC : sg_C 0 S M) (ha : mv_R32 a) (h : F (sg_pa S a) M) : mv_Wp G 4 [.inr (.inr 8), .inl a] (mh l) M (mv_qi (mh l) F) := by
  refine vw_X0_placeOf ?_
  have c1 : M 8 0 = S 0 0 := hC.1.1
  have c2 : M 8 1 = S 0 1 := hC.1.2.1
  obtain ⟨⟨⟨w1, w2⟩, ⟨h1, h2⟩, -⟩, -⟩ := id hw
  rw [c1, c2]
  by_cases h0 : a < 0
  · rw [if_pos h0]
    rw [sg_pa_no (by omega)] at h
    exact mv_qi_i h
  · rw [if_neg h0, sg_td (by omega), sg_tm (by omega)]
    refine ⟨⟨by decide, by omega⟩, ?_⟩
    split
    · rw [sg_pa_no (by omega)] at h
      exact mv_qi_i h
    · refine ⟨by decide, ?_⟩
      split
      · rw [sg_pa_yes hw ⟨by omega, by omega, by omega⟩] at h
        have hm : 0 ≤ (a % 10) * S 0 0 := Int.mul_nonneg (by omega) (by omega)
        have hm2 : (a % 10) * S 0 0 ≤ 9 * 8 := Int.mul_le_mul (by omega) (by omega) (by omega) (by omega)
        exact ⟨by decide, by omega, ⟨by decide, by omega⟩, by omega, mv_qi_i h⟩
      · rw [sg_pa_no (by omega)] at h
        exact mv_qi_i h
/-- the place beside a place; -1 -/
def sg_pb (S : mv_Mem) (k : Nat) (d : Nat) : Int := if d = 0 then (if ((k % 8 + 1 : Nat) : Int) < S 0 0 then (sg_pl S k : Int) + 1 else -1) else if d = 1 then (if 0 < k % 8 then (sg_pl S k : Int) - 1 else -1)
  else if d = 2 then (if ((k / 8 + 1 : Nat) : Int) < S 0 1 then (sg_pl S k : Int) + S 0 0 else -1) else (if 0 < k / 8 then (sg_pl S k : Int) - S 0 0 else -1)
theorem sg_pb_yes {S : mv_Mem} {k d : Nat} (hw : sg_wf S) (hk : sg_ok S k) (hh : sg_has S k d) (hd : d < 4) : sg_pb S k d = (sg_pl S (sg_nx k d) : Int) ∧ sg_ok S (sg_nx k d) := by
  obtain ⟨⟨⟨w1, w2⟩, ⟨h1, h2⟩, -⟩, -⟩ := hw
  obtain ⟨k1, k2⟩ := hk
  have ew : ((S 0 0).toNat : Int) = S 0 0 := Int.toNat_of_nonneg (by omega)
  unfold sg_has at hh
  unfold sg_pb sg_nx sg_ok sg_pl
  rcases (show d = 0 ∨ d = 1 ∨ d = 2 ∨ d = 3 by omega) with rfl | rfl | rfl | rfl
  · simp only [if_true] at hh ⊢
    rw [if_pos hh, show (k + 1) / 8 = k / 8 by omega, show (k + 1) % 8 = k % 8 + 1 by omega]
    exact ⟨by omega, hh, k2⟩
  · simp only [if_true, show ¬ (1 = 0) by decide, if_false] at hh ⊢
    rw [if_pos hh, show (k - 1) / 8 = k / 8 by omega, show (k - 1) % 8 = k % 8 - 1 by omega]
    exact ⟨by omega, by omega, k2⟩
  · simp only [if_true, show ¬ (2 = 0) by decide, show ¬ (2 = 1) by decide, if_false] at hh ⊢
    rw [if_pos hh, show (k + 8) / 8 = k / 8 + 1 by omega, show (k + 8) % 8 = k % 8 by omega, Nat.add_mul]
    exact ⟨by omega, k1, hh⟩
  · simp only [show ¬ (3 = 0) by decide, show ¬ (3 = 1) by decide, show ¬ (3 = 2) by decide, if_false] at hh ⊢
    obtain ⟨j, hj⟩ : ∃ j, k / 8 = j + 1 := ⟨k / 8 - 1, by omega⟩
    rw [if_pos hh, show (k - 8) / 8 = j by omega, show (k - 8) % 8 = k % 8 by omega, hj, Nat.add_mul]
    exact ⟨by omega, k1, by omega⟩
theorem sg_pb_no {S : mv_Mem} {k d : Nat} (hh : ¬ sg_has S k d) : sg_pb S k d = -1 := by
  unfold sg_has at hh
  unfold sg_pb
  by_cases h0 : d = 0
  · rw [if_pos h0] at hh ⊢; exact if_neg hh
  · rw [if_neg h0] at hh ⊢
    by_cases h1 : d = 1
    · rw [if_pos h1] at hh ⊢; exact if_neg hh
    · rw [if_neg h1] at hh ⊢
      by_cases h2 : d = 2
      · rw [if_pos h2] at hh ⊢; exact if_neg hh
      · rw [if_neg h2] at hh ⊢; exact if_neg hh
theorem cl_beside {G : mv_G} {l : Nat} {S M : mv_Mem} {F : Int → mv_Mem → Prop} {k d : Nat} (hw : sg_wf S) (hC : sg_C 0 S M) (hk : sg_ok S k) (hd : d < 4) (h : F (sg_pb S k d) M) : mv_Wp G 5 [.inr (.inr 8), .inl (sg_pl S k : Int), .inl (d : Int)] (mh l) M (mv_qi (mh l) F) := by
  refine vw_X0_beside ?_
  have c1 : M 8 0 = S 0 0 := hC.1.1
  have c2 : M 8 1 = S 0 1 := hC.1.2.1
  have c3 : M 9 (sg_pl S k) = ((10 * (k % 8) + k / 8 : Nat) : Int) := (hC.2.1 k hk).1
  obtain ⟨⟨⟨w1, w2⟩, ⟨h1, h2⟩, -⟩, -⟩ := id hw
  obtain ⟨k1, k2⟩ := id hk
  have hp := (sg_pl_lt hw hk).2
  rw [Int.toNat_natCast, c3, c1, c2, sg_td (by omega), sg_tm (by omega)]
  have e1 : ((10 * (k % 8) + k / 8 : Nat) : Int) / 10 = ((k % 8 : Nat) : Int) := by omega
  have e2 : ((10 * (k % 8) + k / 8 : Nat) : Int) % 10 = ((k / 8 : Nat) : Int) := by omega
  rw [e1, e2]
  unfold sg_pb at h
  refine ⟨by omega, ⟨by decide, by omega⟩, by omega, by decide, ?_⟩
  rcases (show d = 0 ∨ d = 1 ∨ d = 2 ∨ d = 3 by omega) with rfl | rfl | rfl | rfl
  · simp only [if_true] at h
    rw [if_pos (by rfl)]
    refine ⟨by omega, ?_⟩
    split
    · rw [if_neg (by omega)] at h
      exact mv_qi_i h
    · rw [if_pos (by omega)] at h
      exact ⟨by omega, mv_qi_i h⟩
  · simp only [if_true, show ¬ (1 = 0) by decide, if_false] at h
    rw [if_neg (by decide), if_pos (by rfl)]
    split
    · rw [if_neg (by omega)] at h
      exact mv_qi_i h
    · rw [if_pos (by omega)] at h
      exact ⟨by omega, mv_qi_i h⟩
  · simp only [if_true, show ¬ (2 = 0) by decide, show ¬ (2 = 1) by decide, if_false] at h
    rw [if_neg (by decide), if_neg (by decide), if_pos (by rfl)]
    refine ⟨by omega, ?_⟩
    split
    · rw [if_neg (by omega)] at h
      exact mv_qi_i h
    · rw [if_pos (by omega)] at h
      exact ⟨by omega, mv_qi_i h⟩
  · simp only [show ¬ (3 = 0) by decide, show ¬ (3 = 1) by decide, show ¬ (3 = 2) by decide, if_false] at h
    rw [if_neg (by decide), if_neg (by decide), if_neg (by decide)]
    split
    · rw [if_neg (by omega)] at h
      exact mv_qi_i h
    · rw [if_pos (by omega)] at h
      exact ⟨by omega, mv_qi_i h⟩
/-- the direction from an acre to one beside it; -1 -/
def sg_dir (k k' : Nat) : Int := if k' / 8 = k / 8 ∧ k' % 8 = k % 8 + 1 then 0 else if k' / 8 = k / 8 ∧ k' % 8 + 1 = k % 8 then 1 else if k' % 8 = k % 8 ∧ k' / 8 = k / 8 + 1 then 2 else if k' % 8 = k % 8 ∧ k' / 8 + 1 = k / 8 then 3 else -1
theorem sg_pl_inj {S : mv_Mem} {k k' : Nat} (hw : sg_wf S) (hk : sg_ok S k) (hk' : sg_ok S k') (h : sg_pl S k = sg_pl S k') : k = k' := by
  obtain ⟨⟨⟨w1, w2⟩, ⟨h1, h2⟩, -⟩, -⟩ := hw
  obtain ⟨k1, k2⟩ := hk
  obtain ⟨j1, j2⟩ := hk'
  unfold sg_pl at h
  obtain ⟨w, hw⟩ := sg_nat (show 0 ≤ S 0 0 by omega)
  rw [hw] at h k1 j1 w1
  rw [Int.toNat_natCast] at h
  have a1 : k % 8 < w := by omega
  have a2 : k' % 8 < w := by omega
  have e1 : (k / 8 * w + k % 8) / w = k / 8 := by rw [Nat.mul_comm, Nat.mul_add_div (by omega), Nat.div_eq_of_lt a1, Nat.add_zero]
  have e2 : (k' / 8 * w + k' % 8) / w = k' / 8 := by rw [Nat.mul_comm, Nat.mul_add_div (by omega), Nat.div_eq_of_lt a2, Nat.add_zero]
  have e3 : k / 8 = k' / 8 := by rw [← e1, ← e2, h]
  rw [e3] at h
  omega
theorem sg_pb_dir {S : mv_Mem} {k k' d : Nat} (hw : sg_wf S) (hk : sg_ok S k) (hk' : sg_ok S k') (hd : d < 4) : sg_pb S k d = (sg_pl S k' : Int) ↔ sg_dir k k' = d := by
  have hdir : sg_dir k k' = d ↔ sg_has S k d ∧ sg_nx k d = k' := by
    obtain ⟨⟨⟨w1, w2⟩, ⟨h1, h2⟩, -⟩, -⟩ := id hw
    obtain ⟨k1, k2⟩ := id hk
    obtain ⟨j1, j2⟩ := id hk'
    unfold sg_dir sg_has sg_nx
    rcases (show d = 0 ∨ d = 1 ∨ d = 2 ∨ d = 3 by omega) with rfl | rfl | rfl | rfl
    · simp only [if_true]
      constructor
      · intro h
        split at h
        · omega
        · split at h
          · omega
          · split at h
            · omega
            · split at h <;> omega
      · rintro ⟨h1, rfl⟩
        rw [if_pos (by omega)]
        rfl
    · simp only [if_true, show ¬ (1 = 0) by decide, if_false]
      constructor
      · intro h
        split at h
        · omega
        · split at h
          · omega
          · split at h
            · omega
            · split at h <;> omega
      · rintro ⟨h1, rfl⟩
        rw [if_neg (by omega), if_pos (by omega)]
        rfl
    · simp only [if_true, show ¬ (2 = 0) by decide, show ¬ (2 = 1) by decide, if_false]
      constructor
      · intro h
        split at h
        · omega
        · split at h
          · omega
          · split at h
            · omega
            · split at h <;> omega
      · rintro ⟨h1, rfl⟩
        rw [if_neg (by omega), if_neg (by omega), if_pos (by omega)]
        rfl
    · simp only [show ¬ (3 = 0) by decide, show ¬ (3 = 1) by decide, show ¬ (3 = 2) by decide, if_false]
      constructor
      · intro h
        split at h
        · omega
        · split at h
          · omega
          · split at h
            · omega
            · split at h <;> omega
      · rintro ⟨h1, rfl⟩
        rw [if_neg (by omega), if_neg (by omega), if_neg (by omega), if_pos (by omega)]
        rfl
  rw [hdir]
  by_cases hh : sg_has S k d
  · obtain ⟨e, ho⟩ := sg_pb_yes hw hk hh hd
    rw [e]
    constructor
    · intro q
      exact ⟨hh, sg_pl_inj hw ho hk' (by omega)⟩
    · rintro ⟨-, rfl⟩
      rfl
  · rw [sg_pb_no hh]
    constructor
    · intro q
      omega
    · intro q
      exact absurd q.1 hh
theorem sg_dir_r (k k' : Nat) : -1 ≤ sg_dir k k' ∧ sg_dir k k' < 4 := by
  unfold sg_dir
  split
  · omega
  · split
    · omega
    · split
      · omega
      · split <;> omega
theorem cl_sideTowards {G : mv_G} {l : Nat} {S M : mv_Mem} {F : Int → mv_Mem → Prop} {k k' : Nat} (hw : sg_wf S) (hC : sg_C 0 S M) (hk : sg_ok S k) (hk' : sg_ok S k') (h : F (sg_dir k k') M) : mv_Wp G 6 [.inr (.inr 8), .inl (sg_pl S k : Int), .inl (sg_pl S k' : Int)] (mh l) M (mv_qi (mh l) F) := by
  have hr := sg_dir_r k k'
  have key : ∀ (n d : Nat), d + n = 4 → (∀ j, j < d → ¬ sg_dir k k' = (j : Int)) → mv_Run G 6 87 4749 14 [(0, .inr (.inr 8)), (1, .inl (sg_pl S k : Int)), (2, .inl (sg_pl S k' : Int)), (3, .inl (d : Int))] [] (mh l) M (mv_qi (mh l) F) := by
    intro n
    induction n with
    | zero =>
      intro d hd hno
      refine vr_X0_sideTowards_14 ?_
      rw [if_pos (by omega)]
      have h0 := hno 0 (by omega)
      have h1 := hno 1 (by omega)
      have h2 := hno 2 (by omega)
      have h3 := hno 3 (by omega)
      rw [show sg_dir k k' = -1 by omega] at h
      exact mv_qi_i h
    | succ n ih =>
      intro d hd hno
      refine vr_X0_sideTowards_14 ?_
      rw [if_neg (by omega)]
      refine cl_beside hw hC hk (by omega) ?_
      by_cases he : sg_pb S k d = (sg_pl S k' : Int)
      · rw [if_pos he]
        rw [(sg_pb_dir hw hk hk' (by omega)).mp he] at h
        exact mv_qi_i h
      · rw [if_neg he]
        refine ⟨by omega, ih (d + 1) (by omega) (fun j hj => ?_)⟩
        rcases Nat.lt_or_ge j d with q | q
        · exact hno j q
        · rw [show j = d by omega]
          exact fun z => he ((sg_pb_dir hw hk hk' (by omega)).mpr z)
  refine vw_X0_sideTowards ?_
  rw [if_neg (by omega), if_neg (by omega)]
  exact key 4 0 rfl (fun j hj => by omega)
theorem cl_sideTowards_no {G : mv_G} {l : Nat} {M : mv_Mem} {F : Int → mv_Mem → Prop} {a b : Int} (hab : a = -1 ∨ b = -1) (h : F (-1) M) : mv_Wp G 6 [.inr (.inr 8), .inl a, .inl b] (mh l) M (mv_qi (mh l) F) := by
  refine vw_X0_sideTowards ?_
  split
  · exact mv_qi_i h
  · split
    · exact mv_qi_i h
    · omega
theorem cl_roadAt {G : mv_G} {l : Nat} {S M : mv_Mem} {F : Int → mv_Mem → Prop} {k d : Nat} (hw : sg_wf S) (hC : sg_C 0 S M) (hk : sg_ok S k) (hd : d < 4) (h : F (if S 5 (4 * k + d) = 4 then 3 else S 5 (4 * k + d)) M) : mv_Wp G 7 [.inr (.inr 8), .inl (sg_pl S k : Int), .inl (d : Int)] (mh l) M (mv_qi (mh l) F) := by
  refine vw_X0_roadAt ?_
  have hp := (sg_pl_lt hw hk).2
  have c : M 14 (4 * sg_pl S k + d) = S 5 (4 * k + d) := (hC.2.1 k hk).2.2.2.2.2 d hd
  rw [show Int.toNat ((sg_pl S k : Int) * 4 + (d : Int)) = 4 * sg_pl S k + d by omega, c]
  refine ⟨by omega, by omega, by omega, ?_⟩
  split
  · rename_i q
    rw [if_pos q] at h
    exact mv_qi_i h
  · rename_i q
    rw [if_neg q] at h
    exact mv_qi_i h
/-- the market on an acre; -9 -/
def sg_mo (S : mv_Mem) (k : Nat) : Nat → Nat → Int
  | 0, _ => -9
  | n + 1, m => if S 7 m = (k : Int) then (m : Int) else sg_mo S k n (m + 1)
def sg_on (S : mv_Mem) (k : Nat) : Int := sg_mo S k (S 0 2).toNat 0
theorem sg_wf_m {S : mv_Mem} (hw : sg_wf S) {m : Nat} (hm : (m : Int) < S 0 2) : 0 ≤ S 7 m ∧ S 7 m < 48 ∧ sg_ok S (S 7 m).toNat := hw.2.2.1 m hm
theorem cl_marketOn {G : mv_G} {l : Nat} {S M : mv_Mem} {F : Int → mv_Mem → Prop} {k : Nat} (hw : sg_wf S) (hC : sg_C 0 S M) (hk : sg_ok S k) (h : F (sg_on S k) M) : mv_Wp G 9 [.inr (.inr 8), .inl (sg_pl S k : Int)] (mh l) M (mv_qi (mh l) F) := by
  have c1 : M 8 4 = S 0 2 := hC.1.2.2.2.2
  have hm := hw.1.2.2.1
  have key : ∀ (n m : Nat), ((m + n : Nat) : Int) = S 0 2 → F (sg_mo S k n m) M → mv_Run G 9 87 4749 2 [(0, .inr (.inr 8)), (1, .inl (sg_pl S k : Int)), (2, .inl (m : Int))] [] (mh l) M (mv_qi (mh l) F) := by
    intro n
    induction n with
    | zero =>
      intro m hmn hF
      refine vr_X0_marketOn_2 ?_
      rw [c1, if_pos (by omega)]
      exact mv_qi_i hF
    | succ n ih =>
      intro m hmn hF
      refine vr_X0_marketOn_2 ?_
      have c2 : M 15 m = (sg_pl S (S 7 m).toNat : Int) := hC.2.2.1 m (by omega)
      obtain ⟨g1, g2, g3⟩ := sg_wf_m hw (show (m : Int) < S 0 2 by omega)
      rw [c1, if_neg (by omega), Int.toNat_natCast, c2]
      refine ⟨by omega, ?_⟩
      unfold sg_mo at hF
      by_cases he : S 7 m = (k : Int)
      · rw [if_pos he] at hF
        rw [he, Int.toNat_natCast, if_pos rfl]
        exact mv_qi_i hF
      · rw [if_neg he] at hF
        rw [if_neg (fun q => he (by have := sg_pl_inj hw g3 hk (by omega); omega))]
        exact ⟨by omega, ih (m + 1) (by omega) hF⟩
  refine vw_X0_marketOn ?_
  exact key (S 0 2).toNat 0 (by omega) h
end
section
/-! THE CLASS's USES -/
def sg_yl (S : mv_Mem) (u : Nat) (s : Int) : Int := if S 8 u = 4 then S 9 u else S 9 u + S 10 u * s
def sg_mn (S : mv_Mem) (u : Nat) : Int := if S 15 u = 0 then 0 else (sg_ys S u (S 15 u).toNat).tdiv (S 15 u)
/-- what a use is worth on a soil at a market, without ways -/
def sg_wt (S : mv_Mem) (o : Nat) (s : Int) : Int := 100 * (sg_yl S (o / 3) s * (S 16 o + sg_mn S (o / 3)) - S 11 (o / 3) - S 13 (o / 3))
def sg_fa (S : mv_Mem) (u : Nat) : Int := if S 8 u = 1 then S 12 u / 2 else S 12 u
def sg_cr (S : mv_Mem) (u : Nat) (s : Int) : Int := sg_fa S u * sg_yl S u s
def sg_cg (S : mv_Mem) (u : Nat) (w : Int) : Prop := S 8 u ≠ 5 ∧ (S 8 u = 2 → w ≤ 60)
/-- how much of the pieces from i on, n of them, is bought at a price -/
def sg_bs (S : mv_Mem) (v : Int) : Nat → Nat → Int
  | 0, _ => 0
  | n + 1, i => (if v ≤ S 18 i then S 17 i else 0) + sg_bs S v n (i + 1)
def sg_bo (S : mv_Mem) (o : Nat) (v : Int) : Int := sg_bs S v (S 19 o).toNat (6 * o)
section US
variable {S : mv_Mem}
theorem sg_w8 (hw : sg_wf S) {i : Nat} (hi : i < 6) : (0 ≤ S 8 i ∧ S 8 i ≤ 5) ∧ (0 ≤ S 9 i ∧ S 9 i ≤ 99) ∧ (0 ≤ S 10 i ∧ S 10 i ≤ 99) ∧ (0 ≤ S 11 i ∧ S 11 i ≤ 9999) ∧ (0 ≤ S 12 i ∧ S 12 i ≤ 99) ∧ (0 ≤ S 13 i ∧ S 13 i ≤ 9999) ∧ (0 ≤ S 15 i ∧ S 15 i ≤ 6) :=
  have h := hw.2.2.2.2.1
  ⟨h.1 i hi, h.2.1 i hi, h.2.2.1 i hi, h.2.2.2.1 i hi, h.2.2.2.2.1 i hi, h.2.2.2.2.2.1 i hi, h.2.2.2.2.2.2.2 i hi⟩
theorem sg_w16 (hw : sg_wf S) {i : Nat} (hi : i < 18) : (0 ≤ S 16 i ∧ S 16 i ≤ 999) ∧ (0 ≤ S 19 i ∧ S 19 i ≤ 6) :=
  have h := hw.2.2.2.2.2.1
  ⟨h.1 i hi, h.2.2.2 i hi⟩
theorem sg_w17 (hw : sg_wf S) {i : Nat} (hi : i < 108) : (0 ≤ S 17 i ∧ S 17 i ≤ 9999) ∧ (0 ≤ S 18 i ∧ S 18 i ≤ 999) :=
  have h := hw.2.2.2.2.2.1
  ⟨h.2.1 i hi, h.2.2.1 i hi⟩
theorem sg_ys_b (hw : sg_wf S) {u : Nat} (hu : u < 6) : ∀ n : Nat, n ≤ 6 → -(99 * (n : Int)) ≤ sg_ys S u n ∧ sg_ys S u n ≤ 99 * (n : Int) := by
  intro n
  induction n with
  | zero => intro _; unfold sg_ys; omega
  | succ n ih =>
    intro hn
    have h1 := ih (by omega)
    have h2 := hw.2.2.2.2.1.2.2.2.2.2.2.1 (6 * u + n) (by omega)
    unfold sg_ys
    omega
theorem sg_mn_b (hw : sg_wf S) {u : Nat} (hu : u < 6) : -594 ≤ sg_mn S u ∧ sg_mn S u ≤ 594 := by
  unfold sg_mn
  split
  · omega
  · have h1 := (sg_w8 hw hu).2.2.2.2.2.2
    have h2 := sg_ys_b hw hu (S 15 u).toNat (by omega)
    have h3 : ((sg_ys S u (S 15 u).toNat).tdiv (S 15 u)).natAbs ≤ (sg_ys S u (S 15 u).toNat).natAbs := by
      rw [Int.natAbs_tdiv]
      exact Nat.div_le_self _ _
    omega
theorem sg_yl_b (hw : sg_wf S) {u : Nat} (hu : u < 6) {s : Int} (hs : 0 ≤ s ∧ s ≤ 9) : 0 ≤ sg_yl S u s ∧ sg_yl S u s ≤ 990 := by
  have h := sg_w8 hw hu
  have h1 : 0 ≤ S 10 u * s := Int.mul_nonneg h.2.2.1.1 hs.1
  have h2 : S 10 u * s ≤ 99 * 9 := Int.mul_le_mul h.2.2.1.2 hs.2 hs.1 (by omega)
  unfold sg_yl
  split <;> omega
theorem sg_fa_b (hw : sg_wf S) {u : Nat} (hu : u < 6) : 0 ≤ sg_fa S u ∧ sg_fa S u ≤ 99 := by
  have h := (sg_w8 hw hu).2.2.2.2.1
  unfold sg_fa
  split <;> omega
theorem sg_cr_b (hw : sg_wf S) {u : Nat} (hu : u < 6) {s : Int} (hs : 0 ≤ s ∧ s ≤ 9) : 0 ≤ sg_cr S u s ∧ sg_cr S u s ≤ 98010 := by
  have h1 := sg_fa_b hw hu
  have h2 := sg_yl_b hw hu hs
  have h3 : 0 ≤ sg_fa S u * sg_yl S u s := Int.mul_nonneg h1.1 h2.1
  have h4 : sg_fa S u * sg_yl S u s ≤ 99 * 990 := Int.mul_le_mul h1.2 h2.2 h2.1 (by omega)
  unfold sg_cr
  omega
theorem sg_mul_b {x y a b : Int} (hx : 0 ≤ x ∧ x ≤ a) (hy : -b ≤ y ∧ y ≤ b) : -(a * b) ≤ x * y ∧ x * y ≤ a * b := by
  have hb : 0 ≤ b := by omega
  have h1 : x * y ≤ x * b := Int.mul_le_mul_of_nonneg_left hy.2 hx.1
  have h2 : x * b ≤ a * b := Int.mul_le_mul_of_nonneg_right hx.2 hb
  have h3 : x * (-b) ≤ x * y := Int.mul_le_mul_of_nonneg_left hy.1 hx.1
  rw [Int.mul_neg] at h3
  omega
theorem sg_yp_b (hw : sg_wf S) {o : Nat} (ho : o < 18) {s : Int} (hs : 0 ≤ s ∧ s ≤ 9) : -1577070 ≤ sg_yl S (o / 3) s * (S 16 o + sg_mn S (o / 3)) ∧ sg_yl S (o / 3) s * (S 16 o + sg_mn S (o / 3)) ≤ 1577070 := by
  have h1 := sg_yl_b hw (show o / 3 < 6 by omega) hs
  have h2 := sg_mn_b hw (show o / 3 < 6 by omega)
  have h3 := (sg_w16 hw ho).1
  have h4 := sg_mul_b (a := 990) (b := 1593) h1 (y := S 16 o + sg_mn S (o / 3)) (by omega)
  omega
theorem sg_wt_b (hw : sg_wf S) {o : Nat} (ho : o < 18) {s : Int} (hs : 0 ≤ s ∧ s ≤ 9) : -160000000 ≤ sg_wt S o s ∧ sg_wt S o s ≤ 160000000 := by
  have h1 := sg_yp_b hw ho hs
  have h2 := sg_w8 hw (show o / 3 < 6 by omega)
  unfold sg_wt
  omega
theorem sg_bs_b (hw : sg_wf S) (v : Int) : ∀ (n i : Nat), i + n ≤ 108 → 0 ≤ sg_bs S v n i ∧ sg_bs S v n i ≤ 9999 * (n : Int) := by
  intro n
  induction n with
  | zero => intro i _; unfold sg_bs; omega
  | succ n ih =>
    intro i hi
    have h1 := ih (i + 1) (by omega)
    have h2 := sg_w17 hw (show i < 108 by omega)
    unfold sg_bs
    split <;> omega
variable {G : mv_G} {l : Nat} {M : mv_Mem} {F : Int → mv_Mem → Prop}
theorem cl_yieldOn (hw : sg_wf S) (hC : sg_C 0 S M) {u : Nat} {s : Int} (hu : u < 6) (hs : 0 ≤ s ∧ s ≤ 9) (h : F (sg_yl S u s) M) : mv_Wp G 61 [.inr (.inr 17), .inl (u : Int), .inl s] (mh l) M (mv_qi (mh l) F) := by
  refine vw_X7_yieldOn ?_
  have c := hC.2.2.2.2.2.1 u hu
  have c1 : M 18 u = S 8 u := c.1
  have c2 : M 19 u = S 9 u := c.2.1
  have c3 : M 20 u = S 10 u := c.2.2.1
  have hb := sg_w8 hw hu
  have h1 : 0 ≤ S 10 u * s := Int.mul_nonneg hb.2.2.1.1 hs.1
  have h2 : S 10 u * s ≤ 99 * 9 := Int.mul_le_mul hb.2.2.1.2 hs.2 hs.1 (by omega)
  rw [Int.toNat_natCast, c1, c2, c3]
  unfold sg_yl at h
  refine ⟨by omega, ?_⟩
  split
  · rename_i q
    rw [if_pos q] at h
    exact ⟨by omega, mv_qi_i h⟩
  · rename_i q
    rw [if_neg q] at h
    exact ⟨by omega, by omega, by omega, by omega, mv_qi_i h⟩
theorem cl_reckonedPrice (hw : sg_wf S) (hC : sg_C 0 S M) {o : Nat} (ho : o < 18) (h : F (S 16 o + sg_mn S (o / 3)) M) : mv_Wp G 62 [.inr (.inr 17), .inl (o : Int)] (mh l) M (mv_qi (mh l) F) := by
  refine vw_X7_reckonedPrice ?_
  have hu : o / 3 < 6 := by omega
  have c := hC.2.2.2.2.2.1 (o / 3) hu
  have c1 : M 24 (o / 3) = S 15 (o / 3) := c.2.2.2.2.2.2.1
  have c2 : M 25 (o / 3) = sg_ys S (o / 3) (S 15 (o / 3)).toNat := c.2.2.2.2.2.2.2
  have c3 : M 26 o = S 16 o := (hC.2.2.2.2.2.2.1 o ho).1
  have e1 : Int.tdiv (o : Int) 3 = ((o / 3 : Nat) : Int) := by rw [sg_td (by omega)]; omega
  rw [e1, Int.toNat_natCast, Int.toNat_natCast, c1, c2, c3]
  have hm := sg_mn_b hw hu
  have hp := (sg_w16 hw ho).1
  unfold sg_mn at h hm
  refine ⟨⟨by decide, by omega⟩, by omega, ?_⟩
  split
  · rename_i q
    rw [if_pos q, Int.add_zero] at h
    exact ⟨by omega, mv_qi_i h⟩
  · rename_i q
    rw [if_neg q] at h hm
    exact ⟨by omega, by omega, ⟨q, by omega⟩, by omega, mv_qi_i h⟩
theorem cl_payAtHome (hw : sg_wf S) (hC : sg_C 0 S M) {o : Nat} {s : Int} (ho : o < 18) (hs : 0 ≤ s ∧ s ≤ 9) (h : F (sg_wt S o s) M) : mv_Wp G 63 [.inr (.inr 17), .inl (o : Int), .inl s] (mh l) M (mv_ql (mh l) F) := by
  refine vw_X7_payAtHome ?_
  have hu : o / 3 < 6 := by omega
  have c := hC.2.2.2.2.2.1 (o / 3) hu
  have c1 : M 21 (o / 3) = S 11 (o / 3) := c.2.2.2.1
  have c2 : M 23 (o / 3) = S 13 (o / 3) := c.2.2.2.2.2.1
  have e1 : Int.tdiv (o : Int) 3 = ((o / 3 : Nat) : Int) := by rw [sg_td (by omega)]; omega
  have hb := sg_w8 hw hu
  have h1 := sg_yp_b hw ho hs
  rw [e1, Int.toNat_natCast]
  refine ⟨⟨by decide, by omega⟩, cl_yieldOn hw hC hu hs (cl_reckonedPrice hw hC ho ?_)⟩
  rw [c1, c2]
  unfold sg_wt at h
  exact ⟨by omega, by omega, by omega, by omega, by omega, by omega, mv_ql_i h⟩
theorem cl_carriage (hw : sg_wf S) (hC : sg_C 0 S M) {u : Nat} {s : Int} (hu : u < 6) (hs : 0 ≤ s ∧ s ≤ 9) (h : F (sg_cr S u s) M) : mv_Wp G 64 [.inr (.inr 17), .inl (u : Int), .inl s] (mh l) M (mv_ql (mh l) F) := by
  refine vw_X7_carriage ?_
  have c := hC.2.2.2.2.2.1 u hu
  have c1 : M 18 u = S 8 u := c.1
  have c2 : M 22 u = S 12 u := c.2.2.2.2.1
  have hb := sg_w8 hw hu
  have h1 := sg_cr_b hw hu hs
  unfold sg_cr sg_fa at h h1
  rw [Int.toNat_natCast, c1, c2, sg_td hb.2.2.2.2.1.1]
  refine ⟨by omega, ?_⟩
  split
  · rename_i q
    rw [if_pos q] at h h1
    exact ⟨by omega, ⟨by decide, by omega⟩, cl_yieldOn hw hC hu hs ⟨by omega, mv_ql_i h⟩⟩
  · rename_i q
    rw [if_neg q] at h h1
    exact ⟨by omega, cl_yieldOn hw hC hu hs ⟨by omega, mv_ql_i h⟩⟩
theorem cl_canGo (hC : sg_C 0 S M) {u : Nat} {w : Int} (hu : u < 6) (h1 : sg_cg S u w → F 1 M) (h0 : ¬ sg_cg S u w → F 0 M) : mv_Wp G 65 [.inr (.inr 17), .inl (u : Int), .inl w] (mh l) M (mv_qi (mh l) F) := by
  refine vw_X7_canGo ?_
  have c1 : M 18 u = S 8 u := (hC.2.2.2.2.2.1 u hu).1
  rw [Int.toNat_natCast, c1]
  refine ⟨by omega, ?_⟩
  split
  · rename_i q
    exact ⟨by omega, mv_qi_i (h0 (fun z => z.1 q))⟩
  · rename_i q
    refine ⟨by omega, ?_⟩
    split
    · rename_i q2
      split
      · rename_i q3
        exact ⟨by omega, mv_qi_i (h0 (fun z => by have := z.2 q2; omega))⟩
      · rename_i q3
        exact ⟨by omega, mv_qi_i (h1 ⟨q, fun _ => by omega⟩)⟩
    · rename_i q2
      exact ⟨by omega, mv_qi_i (h1 ⟨q, fun z => absurd z q2⟩)⟩
theorem cl_boughtAt (hw : sg_wf S) (hC : sg_C 0 S M) {o : Nat} {v : Int} (ho : o < 18) (h : F (sg_bo S o v) M) : mv_Wp G 66 [.inr (.inr 17), .inl (o : Int), .inl v] (mh l) M (mv_qi (mh l) F) := by
  have c1 : M 27 o = S 19 o := (hC.2.2.2.2.2.2.1 o ho).2
  have hb := (sg_w16 hw ho).2
  have key : ∀ (n i : Nat) (x : Int), 6 * o ≤ i → ((i + n : Nat) : Int) = ((6 * o : Nat) : Int) + S 19 o → 0 ≤ x → x ≤ 9999 * ((i : Int) - 6 * o) → F (x + sg_bs S v n i) M →
      mv_Run G 66 87 4749 8 [(0, .inr (.inr 17)), (1, .inl (o : Int)), (2, .inl v), (3, .inl x), (4, .inl (i : Int))] [] (mh l) M (mv_qi (mh l) F) := by
    intro n
    induction n with
    | zero =>
      intro i x hi hn hx hx2 hF
      refine vr_X7_boughtAt_8 ?_
      rw [Int.toNat_natCast, c1, if_pos (by omega)]
      unfold sg_bs at hF
      rw [Int.add_zero] at hF
      exact ⟨by omega, by omega, by omega, mv_qi_i hF⟩
    | succ n ih =>
      intro i x hi hn hx hx2 hF
      refine vr_X7_boughtAt_8 ?_
      have c := hC.2.2.2.2.2.2.2.1 i (by omega)
      have c2 : M 28 i = S 17 i := c.1
      have c3 : M 29 i = S 18 i := c.2
      have hb2 := sg_w17 hw (show i < 108 by omega)
      rw [Int.toNat_natCast, Int.toNat_natCast, c1, c2, c3, if_neg (by omega)]
      unfold sg_bs at hF
      refine ⟨by omega, by omega, by omega, by omega, ?_⟩
      split
      · rename_i q
        rw [if_neg (by omega), Int.zero_add] at hF
        exact ⟨by omega, ih (i + 1) x (by omega) (by omega) hx (by omega) hF⟩
      · rename_i q
        rw [if_pos (by omega), ← Int.add_assoc] at hF
        exact ⟨by omega, by omega, by omega, ih (i + 1) _ (by omega) (by omega) (by omega) (by omega) hF⟩
  refine vw_X7_boughtAt ?_
  refine ⟨by omega, ?_⟩
  have K := key (S 19 o).toNat (6 * o) 0 (Nat.le_refl _) (by omega) (by omega) (by omega) (by rw [Int.zero_add]; exact h)
  rw [show ((6 * o : Nat) : Int) = (o : Int) * 6 by omega] at K
  exact K
end US
end
section
/-! WAYS: the least sums, as the only solution of what they must fulfil -/
def sg_fee (S : mv_Mem) (wk : Bool) (k d : Nat) : Int := (if wk = true then 10 else S 6 (if S 5 (4 * k + d) = 4 then 0 else (S 5 (4 * k + d)).toNat)) + S 2 (sg_nx k d)
def sg_cls (S : mv_Mem) (wk : Bool) (g : Nat → Int) : Prop := ∀ k d, sg_ok S k → d < 4 → sg_has S k d → g k ≤ sg_fee S wk k d + g (sg_nx k d)
def sg_tig (S : mv_Mem) (wk : Bool) (to : Nat) (big : Int) (f : Nat → Int) : Prop := ∀ k, sg_ok S k → k ≠ to → f k = big ∨ ∃ d, d < 4 ∧ sg_has S k d ∧ sg_fee S wk k d + f (sg_nx k d) ≤ f k
/-- f is the way to an acre -/
def sg_IW (S : mv_Mem) (wk : Bool) (to : Nat) (f : Nat → Int) : Prop := f to = 0 ∧ (∀ k, sg_ok S k → 0 ≤ f k) ∧ sg_cls S wk f ∧ ∀ k, sg_ok S k → k ≠ to → ∃ d, d < 4 ∧ sg_has S k d ∧ sg_fee S wk k d + f (sg_nx k d) ≤ f k
section WY
variable {S : mv_Mem} {wk : Bool}
theorem sg_ok_48 (hw : sg_wf S) {k : Nat} (hk : sg_ok S k) : k < 48 := by
  have h := hw.1.2.1
  obtain ⟨k1, k2⟩ := hk
  omega
theorem sg_nx_ok (hw : sg_wf S) {k d : Nat} (hk : sg_ok S k) (hd : d < 4) (hh : sg_has S k d) : sg_ok S (sg_nx k d) := (sg_pb_yes hw hk hh hd).2
theorem sg_fee_b (hw : sg_wf S) {k d : Nat} (hk : sg_ok S k) (hd : d < 4) (hh : sg_has S k d) : 1 ≤ sg_fee S wk k d ∧ sg_fee S wk k d ≤ 198 := by
  have h48 := sg_ok_48 hw hk
  have hn := sg_ok_48 hw (sg_nx_ok hw hk hd hh)
  have h2 := hw.2.1.2.1 (sg_nx k d) hn
  have h5 := hw.2.1.2.2.2.2.1 (4 * k + d) (by omega)
  unfold sg_fee
  split
  · omega
  · have h6 := hw.2.1.2.2.2.2.2 (if S 5 (4 * k + d) = 4 then 0 else (S 5 (4 * k + d)).toNat) (by split <;> omega)
    omega
/-- a closed one is at most a tight one -/
theorem sg_least (hw : sg_wf S) {to : Nat} {f g : Nat → Int} (hg0 : g to = 0) (hg : sg_cls S wk g) (hf0 : ∀ k, sg_ok S k → 0 ≤ f k) (hf : ∀ k, sg_ok S k → k ≠ to → ∃ d, d < 4 ∧ sg_has S k d ∧ sg_fee S wk k d + f (sg_nx k d) ≤ f k) :
    ∀ (n k : Nat), sg_ok S k → f k < (n : Int) → g k ≤ f k := by
  intro n
  induction n with
  | zero => intro k hk hn; have := hf0 k hk; omega
  | succ n ih =>
    intro k hk hn
    by_cases hto : k = to
    · subst hto
      rw [hg0]
      exact hf0 k hk
    · obtain ⟨d, hd, hh, hle⟩ := hf k hk hto
      have hb := sg_fee_b hw (wk := wk) hk hd hh
      have h1 := ih (sg_nx k d) (sg_nx_ok hw hk hd hh) (by omega)
      have h2 := hg k d hk hd hh
      omega
theorem sg_uniq (hw : sg_wf S) {to : Nat} {f g : Nat → Int} (hf : sg_IW S wk to f) (hg : sg_IW S wk to g) {k : Nat} (hk : sg_ok S k) : f k = g k := by
  obtain ⟨f0, f1, f2, f3⟩ := hf
  obtain ⟨g0, g1, g2, g3⟩ := hg
  have h1 := sg_least hw g0 g2 f1 f3 ((f k).toNat + 1) k hk (by have := f1 k hk; omega)
  have h2 := sg_least hw f0 f2 g1 g3 ((g k).toNat + 1) k hk (by have := g1 k hk; omega)
  omega
/-- along a line of the grid a closed one grows by at most 198 an acre -/
theorem sg_far (hw : sg_wf S) {to : Nat} {g : Nat → Int} (hto : sg_ok S to) (hg0 : g to = 0) (hg : sg_cls S wk g) : ∀ (n k : Nat), sg_ok S k → (k % 8 - to % 8) + (to % 8 - k % 8) + (k / 8 - to / 8) + (to / 8 - k / 8) = n → g k ≤ 198 * (n : Int) := by
  intro n
  induction n with
  | zero =>
    intro k hk hn
    have : k = to := by omega
    rw [this, hg0]
    decide
  | succ n ih =>
    intro k hk hn
    have hk48 := sg_ok_48 hw hk
    have step : ∀ d, d < 4 → sg_has S k d → (sg_nx k d % 8 - to % 8) + (to % 8 - sg_nx k d % 8) + (sg_nx k d / 8 - to / 8) + (to / 8 - sg_nx k d / 8) = n → g k ≤ 198 * ((n + 1 : Nat) : Int) := by
      intro d hd hh hn2
      have h1 := ih (sg_nx k d) (sg_nx_ok hw hk hd hh) hn2
      have h2 := hg k d hk hd hh
      have h3 := sg_fee_b hw (wk := wk) hk hd hh
      omega
    obtain ⟨t1, t2⟩ := hto
    obtain ⟨k1, k2⟩ := hk
    have hw8 := hw.1.1
    by_cases c0 : k % 8 < to % 8
    · refine step 0 (by omega) ?_ ?_
      · unfold sg_has
        rw [if_pos rfl]
        omega
      · unfold sg_nx
        rw [if_pos rfl]
        omega
    · by_cases c1 : to % 8 < k % 8
      · refine step 1 (by omega) ?_ ?_
        · unfold sg_has
          rw [if_neg (by decide), if_pos rfl]
          omega
        · unfold sg_nx
          rw [if_neg (by decide), if_pos rfl]
          omega
      · by_cases c2 : k / 8 < to / 8
        · refine step 2 (by omega) ?_ ?_
          · unfold sg_has
            rw [if_neg (by decide), if_neg (by decide), if_pos rfl]
            omega
          · unfold sg_nx
            rw [if_neg (by decide), if_neg (by decide), if_pos rfl]
            omega
        · refine step 3 (by omega) ?_ ?_
          · unfold sg_has
            rw [if_neg (by decide), if_neg (by decide), if_neg (by decide)]
            omega
          · unfold sg_nx
            rw [if_neg (by decide), if_neg (by decide), if_neg (by decide)]
            omega
theorem sg_far_b (hw : sg_wf S) {to : Nat} {g : Nat → Int} (hto : sg_ok S to) (hg0 : g to = 0) (hg : sg_cls S wk g) {k : Nat} (hk : sg_ok S k) : g k ≤ 2376 := by
  have h1 := sg_far hw hto hg0 hg _ k hk rfl
  have := sg_ok_48 hw hk
  have := sg_ok_48 hw hto
  omega
/-- a closed one that is tight but for what is big yet is the way -/
theorem sg_IW_of (hw : sg_wf S) {to : Nat} {g : Nat → Int} {big : Int} (hbig : 2376 < big) (hto : sg_ok S to) (hg0 : g to = 0) (h0 : ∀ k, sg_ok S k → 0 ≤ g k) (hg : sg_cls S wk g) (ht : sg_tig S wk to big g) : sg_IW S wk to g := by
  refine ⟨hg0, h0, hg, fun k hk hne => ?_⟩
  rcases ht k hk hne with h | h
  · have := sg_far_b hw hto hg0 hg hk
    omega
  · exact h
def sg_upf (f : Nat → Int) (k : Nat) (v : Int) : Nat → Int := fun j => if j = k then v else f j
theorem sg_upf_s {f : Nat → Int} {k : Nat} {v : Int} : sg_upf f k v k = v := if_pos rfl
theorem sg_upf_n {f : Nat → Int} {k j : Nat} {v : Int} (h : j ≠ k) : sg_upf f k v j = f j := if_neg h
/-- a step of the search keeps what is so of it -/
theorem sg_step (hw : sg_wf S) {to k d : Nat} {f : Nat → Int} {big : Int} (h0 : ∀ j, sg_ok S j → 0 ≤ f j) (hf0 : f to = 0) (ht : sg_tig S wk to big f) (hk : sg_ok S k) (hd : d < 4) (hh : sg_has S k d) (hlt : sg_fee S wk k d + f (sg_nx k d) < f k) :
    k ≠ to ∧ (∀ j, sg_ok S j → 0 ≤ sg_upf f k (sg_fee S wk k d + f (sg_nx k d)) j) ∧ sg_upf f k (sg_fee S wk k d + f (sg_nx k d)) to = 0 ∧ (f k ≤ big → sg_tig S wk to big (sg_upf f k (sg_fee S wk k d + f (sg_nx k d)))) := by
  have hb := sg_fee_b hw (wk := wk) hk hd hh
  have hn := sg_nx_ok hw hk hd hh
  have hn0 := h0 _ hn
  have hne : k ≠ to := by
    intro q
    rw [q] at hlt
    rw [q] at hb hn0
    omega
  have hnk : sg_nx k d ≠ k := by
    intro q
    rw [q] at hlt
    omega
  refine ⟨hne, fun j hj => ?_, by rw [sg_upf_n (Ne.symm hne)]; exact hf0, fun hkb j hj hjt => ?_⟩
  · unfold sg_upf
    split
    · omega
    · exact h0 j hj
  · by_cases hjk : j = k
    · subst hjk
      refine Or.inr ⟨d, hd, hh, ?_⟩
      rw [sg_upf_s, sg_upf_n hnk]
      omega
    · rw [sg_upf_n hjk]
      rcases ht j hj hjt with h | ⟨d', hd', hh', h⟩
      · exact Or.inl h
      · refine Or.inr ⟨d', hd', hh', ?_⟩
        by_cases q : sg_nx j d' = k
        · rw [q, sg_upf_s]
          rw [q] at h
          omega
        · rw [sg_upf_n q]
          exact h
end WY
def sg_sum (f : Nat → Int) : Nat → Nat
  | 0 => 0
  | n + 1 => sg_sum f n + (f n).toNat
theorem sg_sum_c {f g : Nat → Int} : ∀ n, (∀ k, k < n → f k = g k) → sg_sum f n = sg_sum g n
  | 0, _ => rfl
  | n + 1, h => by
    unfold sg_sum
    rw [sg_sum_c n (fun k hk => h k (by omega)), h n (by omega)]
theorem sg_sum_u {f : Nat → Int} {k : Nat} {v : Int} (h0 : 0 ≤ v) (h : v < f k) : ∀ n, k < n → sg_sum (sg_upf f k v) n < sg_sum f n
  | 0, h => by omega
  | n + 1, hk => by
    unfold sg_sum
    by_cases q : k = n
    · subst q
      rw [sg_sum_c (g := f) k (fun j hj => sg_upf_n (by omega)), sg_upf_s]
      omega
    · rw [sg_upf_n (Ne.symm q)]
      have := sg_sum_u h0 h n (by omega)
      omega
theorem sg_IW_ex {S : mv_Mem} (hw : sg_wf S) (wk : Bool) {to : Nat} (hto : sg_ok S to) : ∃ f, sg_IW S wk to f := by
  have key : ∀ (n : Nat) (f : Nat → Int), sg_sum f 48 = n → f to = 0 → (∀ j, sg_ok S j → 0 ≤ f j ∧ f j ≤ 100000) → sg_tig S wk to 100000 f → ∃ g, sg_IW S wk to g := by
    intro n
    induction n using Nat.strongRecOn with
    | ind n ih =>
      intro f hn h0 hb ht
      by_cases hc : sg_cls S wk f
      · exact ⟨f, sg_IW_of hw (by decide) hto h0 (fun k hk => (hb k hk).1) hc ht⟩
      · unfold sg_cls at hc
        simp only [Classical.not_forall] at hc
        obtain ⟨k, d, hk, hd, hh, hlt⟩ := hc
        have hlt : sg_fee S wk k d + f (sg_nx k d) < f k := by omega
        obtain ⟨s1, s2, s3, s4⟩ := sg_step hw (fun j hj => (hb j hj).1) h0 ht hk hd hh hlt
        have hfb := sg_fee_b hw (wk := wk) hk hd hh
        have hn0 := (hb _ (sg_nx_ok hw hk hd hh)).1
        refine ih _ ?_ _ rfl s3 (fun j hj => ⟨s2 j hj, ?_⟩) (s4 (hb k hk).2)
        · rw [← hn]
          exact sg_sum_u (by omega) hlt 48 (sg_ok_48 hw hk)
        · unfold sg_upf
          split
          · have := (hb k hk).2
            omega
          · exact (hb j hj).2
  refine key _ (fun k => if k = to then 0 else 100000) rfl (if_pos rfl) (fun j _ => ?_) (fun k _ hne => Or.inl (if_neg hne))
  split <;> omega
/-- the way from an acre to another one: by roads, or (wk) on foot -/
noncomputable def sg_way (S : mv_Mem) (wk : Bool) (to k : Nat) : Int := Classical.epsilon (fun f => sg_IW S wk to f) k
theorem sg_way_IW {S : mv_Mem} (hw : sg_wf S) (wk : Bool) {to : Nat} (hto : sg_ok S to) : sg_IW S wk to (sg_way S wk to) := Classical.epsilon_spec (sg_IW_ex hw wk hto)
theorem sg_way_eq {S : mv_Mem} (hw : sg_wf S) {wk : Bool} {to : Nat} (hto : sg_ok S to) {f : Nat → Int} (hf : sg_IW S wk to f) {k : Nat} (hk : sg_ok S k) : f k = sg_way S wk to k := sg_uniq hw hf (sg_way_IW hw wk hto) hk
theorem sg_way_b {S : mv_Mem} (hw : sg_wf S) (wk : Bool) {to k : Nat} (hto : sg_ok S to) (hk : sg_ok S k) : 0 ≤ sg_way S wk to k ∧ sg_way S wk to k ≤ 2376 :=
  have h := sg_way_IW hw wk hto
  ⟨h.2.1 k hk, sg_far_b hw hto h.1 h.2.2.1 hk⟩
end
section
/-! THE CLASS's SEARCH OF WAYS -/
/-- the tables of the search: what lies beside, what a step costs (in the cell b) -/
def sg_tb (S M : mv_Mem) (wk : Bool) (b : Nat) : Prop := ∀ k d, sg_ok S k → d < 4 → M 39 (4 * sg_pl S k + d) = sg_pb S k d ∧ (sg_has S k d → M b (4 * sg_pl S k + d) = sg_fee S wk k d)
/-- a cell that may be searched in: of at least n ints -/
def sg_ar (l b n : Nat) : Prop := 1 ≤ b ∧ b ≤ (mh l).1 ∧ (mh l).2.2.1 b = 100 ∧ n ≤ (mh l).2.2.2.1 b
/-- far holds f from e on; all else is as in M0 -/
def sg_fr (S M0 M : mv_Mem) (c e : Nat) (f : Nat → Int) : Prop := (∀ k, sg_ok S k → M c (e + sg_pl S k) = f k) ∧ ∀ a i, ¬ (a = c ∧ e ≤ i ∧ (i : Int) < e + S 0 0 * S 0 1) → M a i = M0 a i
section SE
variable {S : mv_Mem} {wk : Bool} {G : mv_G} {l : Nat}
theorem sg_fr_tb {M0 M : mv_Mem} {b c e : Nat} {f : Nat → Int} (hf : sg_fr S M0 M c e f) (hb : b ≠ c) (h39 : 39 ≠ c) (h : sg_tb S M0 wk b) : sg_tb S M wk b := by
  intro k d hk hd
  rw [hf.2 39 _ (fun q => h39 q.1), hf.2 b _ (fun q => hb q.1)]
  exact h k d hk hd
theorem sg_fr_u (hw : sg_wf S) {M0 M : mv_Mem} {c e k : Nat} {f : Nat → Int} {v : Int} (hf : sg_fr S M0 M c e f) (hk : sg_ok S k) : sg_fr S M0 (mv_up M c (e + sg_pl S k) v) c e (sg_upf f k v) := by
  refine ⟨fun j hj => ?_, fun a i h => ?_⟩
  · by_cases q : j = k
    · subst q
      rw [mv_up_s, sg_upf_s]
    · rw [mv_up_n (fun z => q (sg_pl_inj hw hj hk (by omega))), sg_upf_n q]
      exact hf.1 j hj
  · rw [mv_up_n (fun z => h ⟨z.1, by omega, by have := (sg_pl_lt hw hk).1; omega⟩)]
    exact hf.2 a i h
theorem cl_leastFrom (hw : sg_wf S) {M : mv_Mem} {F : Int → mv_Mem → Prop} {b c e k : Nat} {f : Nat → Int} (hk : sg_ok S k) (ht : sg_tb S M wk b) (hb : sg_ar l b 192) (hc : sg_ar l c (e + 48)) (he : e ≤ 96) (hf : ∀ j, sg_ok S j → M c (e + sg_pl S j) = f j) (hf0 : ∀ j, sg_ok S j → 0 ≤ f j ∧ f j ≤ 268435456)
    (h : ∀ x, x ≤ 268435456 → (∀ d, d < 4 → sg_has S k d → x ≤ sg_fee S wk k d + f (sg_nx k d)) → (x = 268435456 ∨ ∃ d, d < 4 ∧ sg_has S k d ∧ x = sg_fee S wk k d + f (sg_nx k d)) → F x M) :
    mv_Wp G 72 [.inr (.inr 35), .inl (sg_pl S k : Int), .inr (.inr b), .inr (.inr c), .inl (e : Int)] (mh l) M (mv_qi (mh l) F) := by
  have hp := (sg_pl_lt hw hk).2
  obtain ⟨b1, b2, b3, b4⟩ := hb
  obtain ⟨c1, c2, c3, c4⟩ := hc
  have key : ∀ (n d : Nat) (x : Int), d + n = 4 → x ≤ 268435456 → (∀ j, j < d → sg_has S k j → x ≤ sg_fee S wk k j + f (sg_nx k j)) → (x = 268435456 ∨ ∃ j, j < 4 ∧ sg_has S k j ∧ x = sg_fee S wk k j + f (sg_nx k j)) →
      mv_Run G 72 87 4749 9 [(0, .inr (.inr 35)), (1, .inl (sg_pl S k : Int)), (2, .inr (.inr b)), (3, .inr (.inr c)), (4, .inl (e : Int)), (5, .inl x), (6, .inl ((4 * sg_pl S k + d : Nat) : Int))] [] (mh l) M (mv_qi (mh l) F) := by
    intro n
    induction n with
    | zero =>
      intro d x hd hx h1 h2
      refine vr_X8_leastFrom_9 ?_
      rw [if_pos (by omega)]
      exact ⟨by omega, by omega, mv_qi_i (h x hx (fun j hj => h1 j (by omega)) h2)⟩
    | succ n ih =>
      intro d x hd hx h1 h2
      refine vr_X8_leastFrom_9 ?_
      obtain ⟨t1, t2⟩ := ht k d hk (by omega)
      rw [if_neg (by omega), Int.toNat_natCast, t1]
      refine ⟨by omega, by omega, by omega, ?_⟩
      by_cases hh : sg_has S k d
      · obtain ⟨e1, ho⟩ := sg_pb_yes hw hk hh (by omega)
        have hq := (sg_pl_lt hw ho).2
        have hfn := hf _ ho
        have hf1 := hf0 _ ho
        have hfee := sg_fee_b hw (wk := wk) hk (by omega) hh
        have gb : b ≤ (mh l).1 ∧ (mh l).2.2.1 b = 100 := ⟨b2, b3⟩
        have gc : c ≤ (mh l).1 ∧ (mh l).2.2.1 c = 100 := ⟨c2, c3⟩
        rw [e1, if_neg (by omega)]
        simp only [if_pos gb, if_pos gc]
        rw [show Int.toNat ((e : Int) + (sg_pl S (sg_nx k d) : Int)) = e + sg_pl S (sg_nx k d) by omega, hfn, t2 hh]
        refine ⟨by omega, by omega, by omega, by omega, ?_⟩
        split
        · rename_i q
          refine ⟨by omega, ih (d + 1) x (by omega) hx (fun j hj hjh => ?_) h2⟩
          rcases Nat.lt_or_ge j d with z | z
          · exact h1 j z hjh
          · rw [show j = d by omega]
            exact q
        · rename_i q
          refine ⟨by omega, by omega, by omega, by omega, by omega, ih (d + 1) _ (by omega) (by omega) (fun j hj hjh => ?_) (Or.inr ⟨d, by omega, hh, rfl⟩)⟩
          rcases Nat.lt_or_ge j d with z | z
          · have := h1 j z hjh
            omega
          · rw [show j = d by omega]
            exact Int.le_refl _
      · rw [sg_pb_no hh, if_pos rfl]
        refine ⟨by omega, ih (d + 1) x (by omega) hx (fun j hj hjh => ?_) h2⟩
        rcases Nat.lt_or_ge j d with z | z
        · exact h1 j z hjh
        · rw [show j = d by omega] at hjh
          exact absurd hjh hh
  refine vw_X8_leastFrom ?_
  have K := key 4 0 268435456 rfl (by omega) (fun j hj => by omega) (Or.inl rfl)
  rw [show ((4 * sg_pl S k + 0 : Nat) : Int) = (sg_pl S k : Int) * 4 by omega] at K
  exact ⟨by omega, K⟩
end SE
/-! how many are not yet exact -/
def sg_cnt (S : mv_Mem) (f D : Nat → Int) : Nat → Nat
  | 0 => 0
  | n + 1 => sg_cnt S f D n + (if ((n % 8 : Nat) : Int) < S 0 0 ∧ ((n / 8 : Nat) : Int) < S 0 1 ∧ ¬ f n ≤ D n then 1 else 0)
theorem sg_cnt_n (S : mv_Mem) (f D : Nat → Int) : ∀ n, sg_cnt S f D n ≤ n
  | 0 => Nat.le_refl 0
  | n + 1 => by
    have := sg_cnt_n S f D n
    unfold sg_cnt
    split <;> omega
theorem sg_cnt_1 {S : mv_Mem} {f D : Nat → Int} {k : Nat} (h : f k ≤ D k) : ∀ n, k < n → sg_cnt S f D n + 1 ≤ n
  | 0, hk => by omega
  | n + 1, hk => by
    unfold sg_cnt
    by_cases q : k = n
    · subst q
      rw [if_neg (fun z => z.2.2 h)]
      have := sg_cnt_n S f D k
      omega
    · have := sg_cnt_1 h (S := S) n (by omega)
      split <;> omega
theorem sg_cnt_le {S : mv_Mem} {f f' D : Nat → Int} (h : ∀ k, sg_ok S k → f' k ≤ f k) : ∀ n, sg_cnt S f' D n ≤ sg_cnt S f D n
  | 0 => Nat.le_refl 0
  | n + 1 => by
    have h1 := sg_cnt_le h (D := D) n
    unfold sg_cnt
    by_cases q : ((n % 8 : Nat) : Int) < S 0 0 ∧ ((n / 8 : Nat) : Int) < S 0 1 ∧ ¬ f' n ≤ D n
    · have h2 := h n ⟨q.1, q.2.1⟩
      rw [if_pos q, if_pos ⟨q.1, q.2.1, by omega⟩]
      omega
    · rw [if_neg q]
      split <;> omega
theorem sg_cnt_lt {S : mv_Mem} {f f' D : Nat → Int} (h : ∀ k, sg_ok S k → f' k ≤ f k) {k : Nat} (hk : sg_ok S k) (h1 : ¬ f k ≤ D k) (h2 : f' k ≤ D k) : ∀ n, k < n → sg_cnt S f' D n < sg_cnt S f D n
  | 0, hk => by omega
  | n + 1, hkn => by
    unfold sg_cnt
    by_cases q : k = n
    · subst q
      have h3 := sg_cnt_le h (D := D) k
      rw [if_neg (fun z => z.2.2 h2), if_pos ⟨hk.1, hk.2, h1⟩]
      omega
    · have h3 := sg_cnt_lt h hk h1 h2 n (by omega)
      by_cases q2 : ((n % 8 : Nat) : Int) < S 0 0 ∧ ((n / 8 : Nat) : Int) < S 0 1 ∧ ¬ f' n ≤ D n
      · have h4 := h n ⟨q2.1, q2.2.1⟩
        rw [if_pos q2, if_pos ⟨q2.1, q2.2.1, by omega⟩]
        omega
      · rw [if_neg q2]
        split <;> omega
theorem sg_cnt_0 {S : mv_Mem} {f D : Nat → Int} : ∀ n, sg_cnt S f D n = 0 → ∀ k, k < n → sg_ok S k → f k ≤ D k
  | 0, _, k, hk, _ => by omega
  | n + 1, h, k, hk, ho => by
    unfold sg_cnt at h
    by_cases q : k = n
    · subst q
      by_cases z : f k ≤ D k
      · exact z
      · rw [if_pos ⟨ho.1, ho.2, z⟩] at h
        omega
    · exact sg_cnt_0 n (by omega) k (by omega) ho
/-- if some are not exact, one of the nearest has its forerunner exact -/
theorem sg_next {S : mv_Mem} (hw : sg_wf S) {wk : Bool} {to : Nat} {f : Nat → Int} (hto : sg_ok S to) (hf0 : f to = 0) (hn : ¬ ∀ k, sg_ok S k → f k ≤ sg_way S wk to k) :
    ∃ k, sg_ok S k ∧ ¬ f k ≤ sg_way S wk to k ∧ ∃ d, d < 4 ∧ sg_has S k d ∧ sg_fee S wk k d + sg_way S wk to (sg_nx k d) ≤ sg_way S wk to k ∧ f (sg_nx k d) ≤ sg_way S wk to (sg_nx k d) := by
  obtain ⟨D0, D1, D2, D3⟩ := sg_way_IW hw wk hto
  have key : ∀ (n k : Nat), sg_ok S k → ¬ f k ≤ sg_way S wk to k → sg_way S wk to k < (n : Int) → ∃ k, sg_ok S k ∧ ¬ f k ≤ sg_way S wk to k ∧ ∃ d, d < 4 ∧ sg_has S k d ∧ sg_fee S wk k d + sg_way S wk to (sg_nx k d) ≤ sg_way S wk to k ∧ f (sg_nx k d) ≤ sg_way S wk to (sg_nx k d) := by
    intro n
    induction n with
    | zero => intro k hk _ h; have := D1 k hk; omega
    | succ n ih =>
      intro k hk hne hlt
      have hkt : k ≠ to := by
        intro q
        subst q
        rw [hf0, D0] at hne
        exact hne (Int.le_refl _)
      obtain ⟨d, hd, hh, hle⟩ := D3 k hk hkt
      by_cases q : f (sg_nx k d) ≤ sg_way S wk to (sg_nx k d)
      · exact ⟨k, hk, hne, d, hd, hh, hle, q⟩
      · have hfee := sg_fee_b hw (wk := wk) hk hd hh
        exact ih (sg_nx k d) (sg_nx_ok hw hk hd hh) q (by omega)
  obtain ⟨k, hk⟩ := Classical.not_forall.mp hn
  obtain ⟨hk, hne⟩ := Classical.not_imp.mp hk
  exact key ((sg_way S wk to k).toNat + 1) k hk hne (by omega)
theorem sg_low {S : mv_Mem} (hw : sg_wf S) {wk : Bool} {to : Nat} {f : Nat → Int} {big : Int} (hbig : 2376 < big) (hto : sg_ok S to) (hf0 : ∀ k, sg_ok S k → 0 ≤ f k) (ht : sg_tig S wk to big f) : ∀ (n k : Nat), sg_ok S k → f k < (n : Int) → sg_way S wk to k ≤ f k := by
  obtain ⟨D0, D1, D2, D3⟩ := sg_way_IW hw wk hto
  intro n
  induction n with
  | zero => intro k hk hn; have := hf0 k hk; omega
  | succ n ih =>
    intro k hk hn
    by_cases hkt : k = to
    · subst hkt
      rw [D0]
      exact hf0 k hk
    · rcases ht k hk hkt with h | ⟨d, hd, hh, hle⟩
      · have := (sg_way_b hw wk hto hk).2
        omega
      · have hb := sg_fee_b hw (wk := wk) hk hd hh
        have h1 := ih (sg_nx k d) (sg_nx_ok hw hk hd hh) (by omega)
        have h2 := D2 k d hk hd hh
        omega
theorem sg_pl_sur {S : mv_Mem} (hw : sg_wf S) {p : Nat} (hp : (p : Int) < S 0 0 * S 0 1) : ∃ k, sg_ok S k ∧ sg_pl S k = p := by
  obtain ⟨⟨⟨w1, w2⟩, ⟨h1, h2⟩, -⟩, -⟩ := hw
  obtain ⟨w, ew⟩ := sg_nat (show 0 ≤ S 0 0 by omega)
  obtain ⟨h, eh⟩ := sg_nat (show 0 ≤ S 0 1 by omega)
  rw [ew, eh, ← Int.natCast_mul] at hp
  have hp2 : p < w * h := by omega
  rw [ew] at w1 w2
  have hm := Nat.mod_lt p (show 0 < w by omega)
  have hd : p / w < h := Nat.div_lt_of_lt_mul hp2
  refine ⟨8 * (p / w) + p % w, ⟨by rw [ew]; omega, by rw [eh]; omega⟩, ?_⟩
  unfold sg_pl
  rw [ew, Int.toNat_natCast, show (8 * (p / w) + p % w) / 8 = p / w by omega, show (8 * (p / w) + p % w) % 8 = p % w by omega, Nat.mul_comm]
  exact Nat.div_add_mod p w
/-- what stays so during a search -/
def sg_iv (S : mv_Mem) (wk : Bool) (to : Nat) (f : Nat → Int) : Prop := f to = 0 ∧ (∀ k, sg_ok S k → 0 ≤ f k ∧ f k ≤ 268435456) ∧ sg_tig S wk to 268435456 f
/-- an acre that a sweep makes exact -/
def sg_qq (S : mv_Mem) (wk : Bool) (to : Nat) (f0 : Nat → Int) (k : Nat) : Prop := ∃ d, d < 4 ∧ sg_has S k d ∧ sg_fee S wk k d + sg_way S wk to (sg_nx k d) ≤ sg_way S wk to k ∧ f0 (sg_nx k d) ≤ sg_way S wk to (sg_nx k d)
section SF
variable {S : mv_Mem} {wk : Bool} {G : mv_G} {l : Nat}
/-- one acre of a sweep -/
theorem sg_turn (hw : sg_wf S) {to k : Nat} {f f0 : Nat → Int} {x : Int} (hto : sg_ok S to) (hk : sg_ok S k) (hi : sg_iv S wk to f) (hle : ∀ j, sg_ok S j → f j ≤ f0 j) (hx1 : ∀ d, d < 4 → sg_has S k d → x ≤ sg_fee S wk k d + f (sg_nx k d)) (hx2 : x = 268435456 ∨ ∃ d, d < 4 ∧ sg_has S k d ∧ x = sg_fee S wk k d + f (sg_nx k d)) :
    (f k ≤ x → (sg_qq S wk to f0 k → f k ≤ sg_way S wk to k)) ∧ (x < f k → sg_iv S wk to (sg_upf f k x) ∧ (∀ j, sg_ok S j → sg_upf f k x j ≤ f j) ∧ (sg_qq S wk to f0 k → x ≤ sg_way S wk to k)) := by
  obtain ⟨i0, i1, i2⟩ := hi
  have hq : sg_qq S wk to f0 k → x ≤ sg_way S wk to k := by
    rintro ⟨d, hd, hh, h1, h2⟩
    have h3 := hx1 d hd hh
    have h4 := hle _ (sg_nx_ok hw hk hd hh)
    omega
  refine ⟨fun h q => Int.le_trans h (hq q), fun h => ⟨?_, fun j hj => ?_, hq⟩⟩
  · rcases hx2 with hx2 | ⟨d, hd, hh, hx2⟩
    · have := (i1 k hk).2
      omega
    · rw [hx2] at h ⊢
      obtain ⟨s1, s2, s3, s4⟩ := sg_step hw (fun j hj => (i1 j hj).1) i0 i2 hk hd hh h
      refine ⟨s3, fun j hj => ⟨s2 j hj, ?_⟩, s4 (i1 k hk).2⟩
      unfold sg_upf
      split
      · have := (i1 k hk).2
        omega
      · exact (i1 j hj).2
  · unfold sg_upf
    split
    · rename_i q
      subst q
      omega
    · exact Int.le_refl _
/-- a sweep -/
theorem cl_sweep (hw : sg_wf S) {M0 : mv_Mem} {post : Option mv_V → mv_SH → mv_Mem → Prop} {b c e to n s : Nat} {f0 : Nat → Int} (hto : sg_ok S to) (hn : (n : Int) = S 0 0 * S 0 1) (ht : sg_tb S M0 wk b) (hb : sg_ar l b 192) (hc : sg_ar l c (e + 48)) (he : e ≤ 96) (hbc : b ≠ c) (h39 : 39 ≠ c) (hs : s < 48)
    (h : ∀ (M : mv_Mem) (f : Nat → Int) (x : Int), sg_fr S M0 M c e f → sg_iv S wk to f → (∀ j, sg_ok S j → f j ≤ f0 j) → (∀ k, sg_ok S k → sg_qq S wk to f0 k → f k ≤ sg_way S wk to k) → (x = 0 → sg_cls S wk f) →
      mv_Run G 71 87 4749 39 [(0, .inr (.inr 35)), (1, .inl (n : Int)), (3, .inr (.inr b)), (4, .inr (.inr c)), (5, .inl (e : Int)), (6, .inl x), (7, .inl ((s + 1 : Nat) : Int))] [] (mh l) M post) :
    ∀ (m i : Nat) (M : mv_Mem) (f : Nat → Int) (x : Int), i + m = n → sg_fr S M0 M c e f → sg_iv S wk to f → (∀ j, sg_ok S j → f j ≤ f0 j) →
      (∀ k, sg_ok S k → (if mv_and (s : Int) 1 = 0 then sg_pl S k < i else n - i ≤ sg_pl S k) → sg_qq S wk to f0 k → f k ≤ sg_way S wk to k) →
      (x = 0 → ∀ k d, sg_ok S k → (if mv_and (s : Int) 1 = 0 then sg_pl S k < i else n - i ≤ sg_pl S k) → d < 4 → sg_has S k d → f k ≤ sg_fee S wk k d + f (sg_nx k d)) →
      mv_Run G 71 87 4749 57 [(0, .inr (.inr 35)), (1, .inl (n : Int)), (3, .inr (.inr b)), (4, .inr (.inr c)), (5, .inl (e : Int)), (6, .inl x), (7, .inl (s : Int)), (8, .inl (i : Int))] [] (mh l) M post := by
  have hn48 : n ≤ 48 := by
    obtain ⟨⟨⟨w1, w2⟩, ⟨h1, h2⟩, -⟩, -⟩ := hw
    have : S 0 0 * S 0 1 ≤ 8 * 6 := Int.mul_le_mul w2 h2 (by omega) (by omega)
    omega
  obtain ⟨c1, c2, c3, c4⟩ := id hc
  intro m
  induction m with
  | zero =>
    intro i M f x him hf hi hle hq hx
    refine vr_X8_search_57 ?_
    rw [if_pos (by omega)]
    refine ⟨by omega, ?_⟩
    have hall : ∀ k, sg_ok S k → (if mv_and (s : Int) 1 = 0 then sg_pl S k < i else n - i ≤ sg_pl S k) := fun k hk => by
      have := (sg_pl_lt hw hk).1
      split <;> omega
    exact h M f x hf hi hle (fun k hk q => hq k hk (hall k hk) q) (fun q k d hk hd hh => hx q k d hk (hall k hk) hd hh)
  | succ m ih =>
    intro i M f x him hf hi hle hq hx
    refine vr_X8_search_57 ?_
    rw [if_neg (by omega)]
    have htM := sg_fr_tb hf hbc h39 ht
    have hgo : ∀ p : Nat, p < n → (if mv_and (s : Int) 1 = 0 then p = i else p = n - 1 - i) →
        mv_Wp G 72 [.inr (.inr 35), .inl (p : Int), .inr (.inr b), .inr (.inr c), .inl (e : Int)] (mh l) M (mv_qi (mh l) fun x2 M2 =>
          mv_R32 ((e : Int) + (p : Int)) ∧
          (if c ≤ (mh l).1 ∧ (mh l).2.2.1 c = 100 then (0 ≤ ((e : Int) + (p : Int) : Int) ∧ ((e : Int) + (p : Int) : Int) < (((mh l).2.2.2.1 c : Nat) : Int)) ∧
          (if (M2 c (Int.toNat ((e : Int) + (p : Int)))) ≤ x2 then
            mv_R32 ((i : Int) + 1) ∧
            mv_Run G 71 87 4749 57 [(0, .inr (.inr 35)), (1, .inl (n : Int)), (3, .inr (.inr b)), (4, .inr (.inr c)), (5, .inl (e : Int)), (6, .inl x), (7, .inl (s : Int)), (8, .inl ((i : Int) + 1))] [] (mh l) M2 post
          else
            mv_R32 ((e : Int) + (p : Int)) ∧
            (if 1 ≤ c ∧ c ≤ (mh l).1 ∧ (mh l).2.2.1 c = 100 then (0 ≤ ((e : Int) + (p : Int) : Int) ∧ ((e : Int) + (p : Int) : Int) < (((mh l).2.2.2.1 c : Nat) : Int)) ∧
            mv_R32 ((i : Int) + 1) ∧
            mv_Run G 71 87 4749 57 [(0, .inr (.inr 35)), (1, .inl (n : Int)), (3, .inr (.inr b)), (4, .inr (.inr c)), (5, .inl (e : Int)), (6, .inl 1), (7, .inl (s : Int)), (8, .inl ((i : Int) + 1))] [] (mh l) (mv_up M2 c (Int.toNat ((e : Int) + (p : Int))) x2) post else False)) else False)) := by
      intro p hp hpi
      obtain ⟨k, hk, hkp⟩ := sg_pl_sur hw (p := p) (by omega)
      subst hkp
      have hdone : ∀ j, sg_ok S j → (if mv_and (s : Int) 1 = 0 then sg_pl S j < i + 1 else n - (i + 1) ≤ sg_pl S j) → j = k ∨ (if mv_and (s : Int) 1 = 0 then sg_pl S j < i else n - i ≤ sg_pl S j) := by
        intro j hj hz
        by_cases q : mv_and (s : Int) 1 = 0
        · rw [if_pos q] at hpi hz ⊢
          by_cases z : sg_pl S j < i
          · exact Or.inr z
          · exact Or.inl (sg_pl_inj hw hj hk (by omega))
        · rw [if_neg q] at hpi hz ⊢
          by_cases z : n - i ≤ sg_pl S j
          · exact Or.inr z
          · exact Or.inl (sg_pl_inj hw hj hk (by omega))
      refine cl_leastFrom hw hk htM hb hc he hf.1 hi.2.1 (fun x2 hx0 hx1 hx2 => ?_)
      obtain ⟨g1, g2⟩ := sg_turn hw hto hk hi hle hx1 hx2
      have gc : c ≤ (mh l).1 ∧ (mh l).2.2.1 c = 100 := ⟨c2, c3⟩
      have gd : 1 ≤ c ∧ c ≤ (mh l).1 ∧ (mh l).2.2.1 c = 100 := ⟨c1, c2, c3⟩
      simp only [if_pos gc, if_pos gd]
      rw [show Int.toNat ((e : Int) + (sg_pl S k : Int)) = e + sg_pl S k by omega, hf.1 k hk]
      refine ⟨by omega, by omega, ?_⟩
      split
      · rename_i hcmp
        refine ⟨by omega, ih (i + 1) M f x (by omega) hf hi hle (fun j hj hz q => ?_) (fun q j d hj hz hd hh => ?_)⟩
        · rcases hdone j hj hz with rfl | z
          · exact g1 hcmp q
          · exact hq j hj z q
        · rcases hdone j hj hz with rfl | z
          · have := hx1 d hd hh
            omega
          · exact hx q j d hj z hd hh
      · rename_i hcmp
        obtain ⟨t1, t2, t3⟩ := g2 (by omega)
        refine ⟨by omega, by omega, by omega, ih (i + 1) _ (sg_upf f k x2) 1 (by omega) (sg_fr_u hw hf hk) t1 (fun j hj => Int.le_trans (t2 j hj) (hle j hj)) (fun j hj hz q => ?_) (fun q => by omega)⟩
        rcases hdone j hj hz with rfl | z
        · rw [sg_upf_s]
          exact t3 q
        · exact Int.le_trans (t2 j hj) (hq j hj z q)
    by_cases q : mv_and (s : Int) 1 = 0
    · rw [if_pos q]
      exact hgo i (by omega) (by rw [if_pos q])
    · rw [if_neg q]
      have K := hgo (n - 1 - i) (by omega) (by rw [if_neg q])
      rw [show ((n - 1 - i : Nat) : Int) = (n : Int) - 1 - (i : Int) by omega] at K
      exact ⟨by omega, by omega, K⟩
/-- all sweeps -/
theorem cl_sweeps (hw : sg_wf S) {M0 : mv_Mem} {F : mv_Mem → Prop} {b c e to n : Nat} (hto : sg_ok S to) (hn : (n : Int) = S 0 0 * S 0 1) (ht : sg_tb S M0 wk b) (hb : sg_ar l b 192) (hc : sg_ar l c (e + 48)) (he : e ≤ 96) (hbc : b ≠ c) (h39 : 39 ≠ c)
    (h : ∀ M, sg_fr S M0 M c e (sg_way S wk to) → F M) :
    ∀ (m s : Nat) (M : mv_Mem) (f : Nat → Int) (x : Int), s + m = 48 → sg_fr S M0 M c e f → sg_iv S wk to f → (sg_cnt S f (sg_way S wk to) 48 + s ≤ 47 ∨ sg_cnt S f (sg_way S wk to) 48 = 0) → (x = 0 → sg_cls S wk f) →
      mv_Run G 71 87 4749 39 [(0, .inr (.inr 35)), (1, .inl (n : Int)), (3, .inr (.inr b)), (4, .inr (.inr c)), (5, .inl (e : Int)), (6, .inl x), (7, .inl (s : Int))] [] (mh l) M (mv_qv (mh l) F) := by
  have hend : ∀ (M : mv_Mem) (f : Nat → Int), sg_fr S M0 M c e f → (∀ k, sg_ok S k → f k = sg_way S wk to k) → F M := fun M f hf hq => h M ⟨fun k hk => (hf.1 k hk).trans (hq k hk), hf.2⟩
  intro m
  induction m with
  | zero =>
    intro s M f x hsm hf hi hcnt hx
    refine vr_X8_search_39 ?_
    rw [if_pos (by omega)]
    refine mv_qv_i (hend M f hf (fun k hk => ?_))
    have h0 : sg_cnt S f (sg_way S wk to) 48 = 0 := by omega
    have h1 := sg_cnt_0 48 h0 k (sg_ok_48 hw hk) hk
    have h2 := sg_low hw (by decide) hto (fun k hk => (hi.2.1 k hk).1) hi.2.2 ((f k).toNat + 1) k hk (by have := (hi.2.1 k hk).1; omega)
    omega
  | succ m ih =>
    intro s M f x hsm hf hi hcnt hx
    refine vr_X8_search_39 ?_
    rw [if_neg (by omega)]
    split
    · rename_i q
      refine mv_qv_i (hend M f hf (fun k hk => ?_))
      exact sg_way_eq hw hto (sg_IW_of hw (big := 268435456) (by decide) hto hi.1 (fun k hk => (hi.2.1 k hk).1) (hx q) hi.2.2) hk
    · refine cl_sweep hw hto hn ht hb hc he hbc h39 (by omega) (f0 := f) (fun M' f' x' hf' hi' hle hq hx' => ?_) n 0 M f 0 (by omega) hf hi (fun j _ => Int.le_refl _) (fun k hk hz => ?_) (fun _ k d hk hz => ?_)
      · refine ih (s + 1) M' f' x' (by omega) hf' hi' ?_ hx'
        by_cases hall : ∀ k, sg_ok S k → f k ≤ sg_way S wk to k
        · refine Or.inr ?_
          have hz : ∀ j, sg_cnt S f' (sg_way S wk to) j = 0 := by
            intro j
            induction j with
            | zero => rfl
            | succ j ihj =>
              unfold sg_cnt
              rw [ihj, if_neg (fun z => z.2.2 (Int.le_trans (hle j ⟨z.1, z.2.1⟩) (hall j ⟨z.1, z.2.1⟩)))]
          exact hz 48
        · obtain ⟨k, hk, hne, d, hd, hh, g1, g2⟩ := sg_next hw hto hi.1 hall
          have hlt := sg_cnt_lt hle hk hne (hq k hk ⟨d, hd, hh, g1, g2⟩) 48 (sg_ok_48 hw hk)
          omega
      · have := (sg_pl_lt hw hk).1
        split at hz <;> omega
      · have := (sg_pl_lt hw hk).1
        split at hz <;> omega
theorem cl_search (hw : sg_wf S) {M0 : mv_Mem} {F : mv_Mem → Prop} {b c e to n : Nat} (hto : sg_ok S to) (hn : (n : Int) = S 0 0 * S 0 1) (ht : sg_tb S M0 wk b) (hb : sg_ar l b 192) (hc : sg_ar l c (e + 48)) (he : e ≤ 96) (hbc : b ≠ c) (h39 : 39 ≠ c)
    (h : ∀ M, sg_fr S M0 M c e (sg_way S wk to) → F M) : mv_Wp G 71 [.inr (.inr 35), .inl (n : Int), .inl (sg_pl S to : Int), .inr (.inr b), .inr (.inr c), .inl (e : Int)] (mh l) M0 (mv_qv (mh l) F) := by
  have hn48 : n ≤ 48 := by
    obtain ⟨⟨⟨w1, w2⟩, ⟨h1, h2⟩, -⟩, -⟩ := hw
    have : S 0 0 * S 0 1 ≤ 8 * 6 := Int.mul_le_mul w2 h2 (by omega) (by omega)
    omega
  obtain ⟨c1, c2, c3, c4⟩ := id hc
  have hpt := (sg_pl_lt hw hto).1
  have key : ∀ (m i : Nat) (M : mv_Mem), i + m = n → (∀ p, p < i → M c (e + p) = 268435456) → (∀ a j, ¬ (a = c ∧ e ≤ j ∧ (j : Int) < e + S 0 0 * S 0 1) → M a j = M0 a j) →
      mv_Run G 71 87 4749 3 [(0, .inr (.inr 35)), (1, .inl (n : Int)), (2, .inl (sg_pl S to : Int)), (3, .inr (.inr b)), (4, .inr (.inr c)), (5, .inl (e : Int)), (6, .inl (i : Int))] [] (mh l) M (mv_qv (mh l) F) := by
    intro m
    induction m with
    | zero =>
      intro i M him hp ho
      refine vr_X8_search_3 ?_
      have gd : 1 ≤ c ∧ c ≤ (mh l).1 ∧ (mh l).2.2.1 c = 100 := ⟨c1, c2, c3⟩
      simp only [if_pos gd]
      rw [if_pos (by omega), show Int.toNat ((e : Int) + (sg_pl S to : Int)) = e + sg_pl S to by omega]
      refine ⟨by omega, by omega, ?_⟩
      have hf : sg_fr S M0 (mv_up M c (e + sg_pl S to) 0) c e (fun k => if k = to then 0 else 268435456) := by
        refine ⟨fun k hk => ?_, fun a j hj => ?_⟩
        · dsimp only
          by_cases q : k = to
          · subst q
            rw [mv_up_s, if_pos rfl]
          · rw [if_neg q, mv_up_n (fun z => q (sg_pl_inj hw hk hto (by omega)))]
            have := (sg_pl_lt hw hk).1
            exact hp _ (by omega)
        · rw [mv_up_n (fun z => hj ⟨z.1, by omega, by omega⟩)]
          exact ho a j hj
      have hiv : sg_iv S wk to (fun k => if k = to then 0 else 268435456) := by
        refine ⟨if_pos rfl, fun k _ => ?_, fun k _ hne => Or.inl (if_neg hne)⟩
        dsimp only
        split <;> omega
      refine cl_sweeps hw hto hn ht hb hc he hbc h39 h 48 0 _ _ 1 (by omega) hf hiv (Or.inl ?_) (fun q => by omega)
      have D0 := (sg_way_IW hw wk hto).1
      have := sg_cnt_1 (S := S) (f := fun k => if k = to then 0 else 268435456) (D := sg_way S wk to) (k := to) (by rw [D0]; exact Int.le_of_eq (if_pos rfl)) 48 (sg_ok_48 hw hto)
      omega
    | succ m ih =>
      intro i M him hp ho
      refine vr_X8_search_3 ?_
      have gd : 1 ≤ c ∧ c ≤ (mh l).1 ∧ (mh l).2.2.1 c = 100 := ⟨c1, c2, c3⟩
      simp only [if_pos gd]
      rw [if_neg (by omega), show Int.toNat ((e : Int) + (i : Int)) = e + i by omega]
      refine ⟨by omega, by omega, by omega, ih (i + 1) _ (by omega) (fun p hp2 => ?_) (fun a j hj => ?_)⟩
      · by_cases q : p = i
        · subst q
          exact mv_up_s
        · rw [mv_up_n (fun z => q (by omega))]
          exact hp p (by omega)
      · rw [mv_up_n (fun z => hj ⟨z.1, by omega, by omega⟩)]
        exact ho a j hj
  refine vw_X8_search ?_
  exact key n 0 M0 (by omega) (fun p hp => by omega) (fun _ _ _ => rfl)
end SF
end
section
/-! THE CLASS's TABLES OF WAYS -/
/-- the ways to the markets stand in the cells -/
def sg_W (S M : mv_Mem) : Prop := sg_tb S M true 41 ∧ sg_tb S M false 40 ∧ ∀ m k : Nat, (m : Int) < S 0 2 → sg_ok S k → M 36 (48 * m + sg_pl S k) = sg_way S false (S 7 m).toNat k ∧ M 37 (48 * m + sg_pl S k) = sg_way S true (S 7 m).toNat k
theorem sg_tb_fr {S M M' : mv_Mem} {wk : Bool} {b : Nat} (h : sg_tb S M wk b) (h1 : ∀ i, M' 39 i = M 39 i) (h2 : ∀ i, M' b i = M b i) : sg_tb S M' wk b := by
  intro k d hk hd
  rw [h1, h2]
  exact h k d hk hd
theorem sg_W_fr {S M M' : mv_Mem} (h : sg_W S M) (hm : ∀ c, 36 ≤ c → c ≤ 41 → c ≠ 38 → ∀ i, M' c i = M c i) : sg_W S M' := by
  refine ⟨sg_tb_fr h.1 (hm 39 (by omega) (by omega) (by omega)) (hm 41 (by omega) (by omega) (by omega)), sg_tb_fr h.2.1 (hm 39 (by omega) (by omega) (by omega)) (hm 40 (by omega) (by omega) (by omega)), fun m k h1 h2 => ?_⟩
  rw [hm 36 (by omega) (by omega) (by omega), hm 37 (by omega) (by omega) (by omega)]
  exact h.2.2 m k h1 h2
section TB
variable {S : mv_Mem} {G : mv_G} {l : Nat}
theorem sg_n48 (hw : sg_wf S) : ∃ n : Nat, (n : Int) = S 0 0 * S 0 1 ∧ n ≤ 48 := by
  obtain ⟨⟨⟨w1, w2⟩, ⟨h1, h2⟩, -⟩, -⟩ := hw
  have h3 : S 0 0 * S 0 1 ≤ 8 * 6 := Int.mul_le_mul w2 h2 (by omega) (by omega)
  have h4 : 0 ≤ S 0 0 * S 0 1 := Int.mul_nonneg (by omega) (by omega)
  exact ⟨(S 0 0 * S 0 1).toNat, by omega, by omega⟩
theorem sg_ar_i {b n : Nat} (h1 : 1 ≤ b) (h2 : b ≤ 87) (h3 : mh_t b = 100) (h4 : n ≤ mh_lens.getD b 0) : sg_ar l b n := by
  refine ⟨h1, h2, h3, ?_⟩
  show n ≤ (if b = 0 then l else mh_lens.getD b 0)
  rw [if_neg (by omega)]
  exact h4
/-- searches from each market, into the cell c -/
theorem cl_markets (hw : sg_wf S) (pc mi : Nat) (b c : Nat) (wk : Bool) {M0 : mv_Mem} {F : mv_Mem → Prop} (hC : sg_C 0 S M0) (ht : sg_tb S M0 wk b) (hb : sg_ar l b 192) (hc : sg_ar l c 144) (hbc : b ≠ c) (h39 : 39 ≠ c) (hcu : 35 ≤ c)
    (hrun : ∀ (M : mv_Mem) (v : Int), (if (M 8 4) ≤ v then mv_qv (mh l) F none (mh l) M
      else
        (0 ≤ (v : Int) ∧ (v : Int) < ((3 : Nat) : Int)) ∧
        mv_R32 (v * 48) ∧
        mv_Wp G 71 [.inr (.inr 35), .inl (M 8 2), .inl (M 15 (Int.toNat v)), .inr (.inr b), .inr (.inr c), .inl (v * 48)] (mh l) M (mv_qv (mh l) fun M1 =>
        mv_R32 (v + 1) ∧
        mv_Run G mi 87 4749 pc [(0, .inr (.inr 35)), (1, .inr (.inr 8)), (2, .inl (v + 1))] [] (mh l) M1 (mv_qv (mh l) F))) → mv_Run G mi 87 4749 pc [(0, .inr (.inr 35)), (1, .inr (.inr 8)), (2, .inl v)] [] (mh l) M (mv_qv (mh l) F))
    (h : ∀ M, (∀ a i, a ≠ c → M a i = M0 a i) → (∀ m k : Nat, (m : Int) < S 0 2 → sg_ok S k → M c (48 * m + sg_pl S k) = sg_way S wk (S 7 m).toNat k) → F M) :
    ∀ (n m : Nat) (M : mv_Mem), ((m + n : Nat) : Int) = S 0 2 → (∀ a i, a ≠ c → M a i = M0 a i) → (∀ j k : Nat, j < m → sg_ok S k → M c (48 * j + sg_pl S k) = sg_way S wk (S 7 j).toNat k) →
      mv_Run G mi 87 4749 pc [(0, .inr (.inr 35)), (1, .inr (.inr 8)), (2, .inl (m : Int))] [] (mh l) M (mv_qv (mh l) F) := by
  have hm3 := hw.1.2.2.1
  obtain ⟨n48, hn1, hn2⟩ := sg_n48 hw
  intro n
  induction n with
  | zero =>
    intro m M hmn ho hd
    refine hrun M m ?_
    have c1 : M 8 4 = S 0 2 := (ho 8 4 (by omega)).trans hC.1.2.2.2.2
    rw [c1, if_pos (by omega)]
    exact mv_qv_i (h M ho (fun j k hj hk => hd j k (by omega) hk))
  | succ n ih =>
    intro m M hmn ho hd
    refine hrun M m ?_
    have c1 : M 8 4 = S 0 2 := (ho 8 4 (by omega)).trans hC.1.2.2.2.2
    have c2 : M 8 2 = (n48 : Int) := ((ho 8 2 (by omega)).trans hC.1.2.2.1).trans hn1.symm
    have c3 : M 15 m = (sg_pl S (S 7 m).toNat : Int) := (ho 15 m (by omega)).trans (hC.2.2.1 m (by omega))
    obtain ⟨g1, g2, g3⟩ := sg_wf_m hw (show (m : Int) < S 0 2 by omega)
    rw [c1, if_neg (by omega), Int.toNat_natCast, c2, c3, show (m : Int) * 48 = ((48 * m : Nat) : Int) by omega]
    refine ⟨by omega, by omega, ?_⟩
    have hc' : sg_ar l c (48 * m + 48) := ⟨hc.1, hc.2.1, hc.2.2.1, Nat.le_trans (by omega) hc.2.2.2⟩
    refine cl_search hw (wk := wk) g3 hn1 (sg_tb_fr ht (fun i => ho 39 i h39) (fun i => ho b i hbc)) hb hc' (by omega) hbc h39 (fun M1 hf => ⟨by omega, ih (m + 1) M1 (by omega) (fun a i ha => ?_) (fun j k hj hk => ?_)⟩)
    · rw [hf.2 a i (fun q => ha q.1)]
      exact ho a i ha
    · by_cases q : j = m
      · subst q
        exact hf.1 k hk
      · have hp := (sg_pl_lt hw hk).2
        rw [hf.2 c _ (fun z => by omega)]
        exact hd j k (by omega) hk
theorem cl_reckonFoot (hw : sg_wf S) {M0 : mv_Mem} {F : mv_Mem → Prop} (hC : sg_C 0 S M0)
    (h : ∀ M, (∀ a i, a ≠ 37 → a ≠ 39 → a ≠ 41 → M a i = M0 a i) → sg_tb S M true 41 → (∀ m k : Nat, (m : Int) < S 0 2 → sg_ok S k → M 37 (48 * m + sg_pl S k) = sg_way S true (S 7 m).toNat k) → F M) :
    mv_Wp G 68 [.inr (.inr 35), .inr (.inr 8)] (mh l) M0 (mv_qv (mh l) F) := by
  obtain ⟨n48, hn1, hn2⟩ := sg_n48 hw
  have hCM : ∀ M : mv_Mem, (∀ a i, a ≠ 39 → a ≠ 41 → M a i = M0 a i) → sg_C 0 S M := fun M ho => sg_C_fr hC (fun c h1 h2 i => ho c i (by omega) (by omega))
  -- the entries of the places before p, and of p's directions before d
  have key : ∀ (n p : Nat) (M : mv_Mem), p + n = n48 → (∀ a i, a ≠ 39 → a ≠ 41 → M a i = M0 a i) →
      (∀ k d, sg_ok S k → d < 4 → sg_pl S k < p → M 39 (4 * sg_pl S k + d) = sg_pb S k d ∧ (sg_has S k d → M 41 (4 * sg_pl S k + d) = sg_fee S true k d)) →
      mv_Run G 68 87 4749 2 [(0, .inr (.inr 35)), (1, .inr (.inr 8)), (2, .inl (p : Int))] [] (mh l) M (mv_qv (mh l) F) := by
    intro n
    induction n with
    | zero =>
      intro p M hpn ho hd
      refine vr_X8_reckonFoot_2 ?_
      have c2 : M 8 2 = (n48 : Int) := ((ho 8 2 (by omega) (by omega)).trans hC.1.2.2.1).trans hn1.symm
      rw [c2, if_pos (by omega)]
      have ht : sg_tb S M true 41 := fun k d hk hdd => hd k d hk hdd (by have := (sg_pl_lt hw hk).1; omega)
      refine cl_markets hw 81 68 41 37 true (hCM M ho) ht (sg_ar_i (by decide) (by decide) (by decide) (by decide)) (sg_ar_i (by decide) (by decide) (by decide) (by decide)) (by decide) (by decide) (by decide) (fun M v => vr_X8_reckonFoot_81) (fun M' h1 h2 => ?_) (S 0 2).toNat 0 M (by have := hw.1.2.2.1; omega) (fun _ _ _ => rfl) (fun j k hj => by omega)
      exact h M' (fun a i a1 a2 a3 => (h1 a i a1).trans (ho a i a2 a3)) (sg_tb_fr ht (fun i => h1 39 i (by decide)) (fun i => h1 41 i (by decide))) h2
    | succ n ih =>
      intro p M hpn ho hd
      refine vr_X8_reckonFoot_2 ?_
      have c2 : M 8 2 = (n48 : Int) := ((ho 8 2 (by omega) (by omega)).trans hC.1.2.2.1).trans hn1.symm
      rw [c2, if_neg (by omega)]
      obtain ⟨k, hk, rfl⟩ := sg_pl_sur hw (p := p) (by omega)
      have inner : ∀ (m d : Nat) (M : mv_Mem), d + m = 4 → (∀ a i, a ≠ 39 → a ≠ 41 → M a i = M0 a i) →
          (∀ j e, sg_ok S j → e < 4 → sg_pl S j < sg_pl S k ∨ (j = k ∧ e < d) → M 39 (4 * sg_pl S j + e) = sg_pb S j e ∧ (sg_has S j e → M 41 (4 * sg_pl S j + e) = sg_fee S true j e)) →
          mv_Run G 68 87 4749 12 [(0, .inr (.inr 35)), (1, .inr (.inr 8)), (2, .inl (sg_pl S k : Int)), (3, .inl (d : Int))] [] (mh l) M (mv_qv (mh l) F) := by
        intro m
        induction m with
        | zero =>
          intro d M hdm ho hd
          refine vr_X8_reckonFoot_12 ?_
          rw [if_pos (by omega)]
          refine ⟨by omega, ih (sg_pl S k + 1) M (by omega) ho (fun j e hj he hlt => hd j e hj he ?_)⟩
          by_cases q : sg_pl S j < sg_pl S k
          · exact Or.inl q
          · exact Or.inr ⟨sg_pl_inj hw hj hk (by omega), by omega⟩
        | succ m ihm =>
          intro d M hdm ho hd
          refine vr_X8_reckonFoot_12 ?_
          rw [if_neg (by omega)]
          refine cl_beside hw (hCM M ho) hk (by omega) ?_
          rw [show Int.toNat ((sg_pl S k : Int) * 4 + (d : Int)) = 4 * sg_pl S k + d by omega]
          have hp := (sg_pl_lt hw hk).2
          refine ⟨by omega, by omega, by omega, by omega, by omega, ?_⟩
          have hold : ∀ (v w : Int) (j e : Nat), sg_ok S j → ¬ (j = k ∧ e = d) → e < 4 → (mv_up (mv_up M 39 (4 * sg_pl S k + d) v) 41 (4 * sg_pl S k + d) w) 39 (4 * sg_pl S j + e) = M 39 (4 * sg_pl S j + e) ∧ (mv_up (mv_up M 39 (4 * sg_pl S k + d) v) 41 (4 * sg_pl S k + d) w) 41 (4 * sg_pl S j + e) = M 41 (4 * sg_pl S j + e) := by
            intro v w j e hj hne he
            have hne2 : ¬ (4 * sg_pl S j + e = 4 * sg_pl S k + d) := fun q => hne ⟨sg_pl_inj hw hj hk (by omega), by omega⟩
            exact ⟨by rw [mv_up_n (fun q => by omega), mv_up_n (fun q => hne2 q.2)], by rw [mv_up_n (fun q => hne2 q.2), mv_up_n (fun q => by omega)]⟩
          have hnext : ∀ (w : Int), (sg_has S k d → w = sg_fee S true k d) → mv_Run G 68 87 4749 12 [(0, .inr (.inr 35)), (1, .inr (.inr 8)), (2, .inl (sg_pl S k : Int)), (3, .inl ((d : Int) + 1))] [] (mh l) (mv_up (mv_up M 39 (4 * sg_pl S k + d) (sg_pb S k d)) 41 (4 * sg_pl S k + d) w) (mv_qv (mh l) F) := by
            intro w hwv
            refine ihm (d + 1) _ (by omega) (fun a i a1 a2 => by rw [mv_up_n (fun q => a2 q.1), mv_up_n (fun q => a1 q.1)]; exact ho a i a1 a2) (fun j e hj he hlt => ?_)
            by_cases q : j = k ∧ e = d
            · obtain ⟨rfl, rfl⟩ := q
              rw [mv_up_n (fun q => by omega), mv_up_s, mv_up_s]
              exact ⟨rfl, hwv⟩
            · obtain ⟨z1, z2⟩ := hold (sg_pb S k d) w j e hj q he
              rw [z1, z2]
              refine hd j e hj he ?_
              rcases hlt with hlt | ⟨rfl, hlt⟩
              · exact Or.inl hlt
              · exact Or.inr ⟨rfl, by omega⟩
          by_cases hh : sg_has S k d
          · obtain ⟨e1, ho1⟩ := sg_pb_yes hw hk hh (by omega)
            have hn := (sg_pl_lt hw ho1).2
            have ct : M 11 (sg_pl S (sg_nx k d)) = S 2 (sg_nx k d) := ((hCM M ho).2.1 _ ho1).2.2.1
            have hfee := sg_fee_b hw (wk := true) hk (by omega) hh
            have hfe : sg_fee S true k d = 10 + S 2 (sg_nx k d) := by
              unfold sg_fee
              rw [if_pos rfl]
            rw [if_neg (by omega), mv_up_n (fun q => by omega), show (sg_pb S k d).toNat = sg_pl S (sg_nx k d) by omega, ct]
            exact ⟨by omega, by omega, by omega, by omega, hnext _ (fun _ => hfe.symm)⟩
          · rw [if_pos (sg_pb_no hh)]
            exact ⟨by omega, by omega, hnext 0 (fun q => absurd q hh)⟩
      exact inner 4 0 M (by omega) ho (fun j e hj he hlt => by
        rcases hlt with hlt | ⟨-, hlt⟩
        · exact hd j e hj he hlt
        · omega)
  refine vw_X8_reckonFoot ?_
  exact key n48 0 M0 (by omega) (fun _ _ _ _ => rfl) (fun k d _ _ hlt => by omega)
theorem cl_reckonRoads (hw : sg_wf S) {M0 : mv_Mem} {F : mv_Mem → Prop} (hC : sg_C 0 S M0) (hN : ∀ k d, sg_ok S k → d < 4 → M0 39 (4 * sg_pl S k + d) = sg_pb S k d)
    (h : ∀ M, (∀ a i, a ≠ 36 → a ≠ 40 → M a i = M0 a i) → sg_tb S M false 40 → (∀ m k : Nat, (m : Int) < S 0 2 → sg_ok S k → M 36 (48 * m + sg_pl S k) = sg_way S false (S 7 m).toNat k) → F M) :
    mv_Wp G 69 [.inr (.inr 35), .inr (.inr 8)] (mh l) M0 (mv_qv (mh l) F) := by
  obtain ⟨n48, hn1, hn2⟩ := sg_n48 hw
  have hCM : ∀ M : mv_Mem, (∀ a i, a ≠ 40 → M a i = M0 a i) → sg_C 0 S M := fun M ho => sg_C_fr hC (fun c h1 h2 i => ho c i (by omega))
  have key : ∀ (n i : Nat) (M : mv_Mem), i + n = 4 * n48 → (∀ a i, a ≠ 40 → M a i = M0 a i) →
      (∀ k d, sg_ok S k → d < 4 → 4 * sg_pl S k + d < i → sg_has S k d → M 40 (4 * sg_pl S k + d) = sg_fee S false k d) →
      mv_Run G 69 87 4749 2 [(0, .inr (.inr 35)), (1, .inr (.inr 8)), (2, .inl (i : Int))] [] (mh l) M (mv_qv (mh l) F) := by
    intro n
    induction n with
    | zero =>
      intro i M hin ho hd
      refine vr_X8_reckonRoads_2 ?_
      have c2 : M 8 2 = (n48 : Int) := ((ho 8 2 (by omega)).trans hC.1.2.2.1).trans hn1.symm
      rw [c2, if_pos (by omega)]
      have ht : sg_tb S M false 40 := fun k d hk hdd => ⟨(ho 39 _ (by omega)).trans (hN k d hk hdd), hd k d hk hdd (by have := (sg_pl_lt hw hk).1; omega)⟩
      refine ⟨by omega, cl_markets hw 78 69 40 36 false (hCM M ho) ht (sg_ar_i (by decide) (by decide) (by decide) (by decide)) (sg_ar_i (by decide) (by decide) (by decide) (by decide)) (by decide) (by decide) (by decide) (fun M v => vr_X8_reckonRoads_78) (fun M' h1 h2 => ?_) (S 0 2).toNat 0 M (by have := hw.1.2.2.1; omega) (fun _ _ _ => rfl) (fun j k hj => by omega)⟩
      exact h M' (fun a i a1 a2 => (h1 a i a1).trans (ho a i a2)) (sg_tb_fr ht (fun i => h1 39 i (by decide)) (fun i => h1 40 i (by decide))) h2
    | succ n ih =>
      intro i M hin ho hd
      refine vr_X8_reckonRoads_2 ?_
      have c2 : M 8 2 = (n48 : Int) := ((ho 8 2 (by omega)).trans hC.1.2.2.1).trans hn1.symm
      obtain ⟨k, hk, hkp⟩ := sg_pl_sur hw (p := i / 4) (by omega)
      have hd4 : i % 4 < 4 := by omega
      have ei : i = 4 * sg_pl S k + i % 4 := by omega
      generalize i % 4 = d at hd4 ei
      subst ei
      have c14 : M 14 (4 * sg_pl S k + d) = S 5 (4 * k + d) := ((hCM M ho).2.1 k hk).2.2.2.2.2 d hd4
      have c39 : M 39 (4 * sg_pl S k + d) = sg_pb S k d := (ho 39 _ (by omega)).trans (hN k d hk hd4)
      have hk48 := sg_ok_48 hw hk
      have h5 := hw.2.1.2.2.2.2.1 (4 * k + d) (by omega)
      have hp := (sg_pl_lt hw hk).2
      rw [c2, if_neg (by omega), Int.toNat_natCast, c14, c39]
      have hnext : ∀ (w : Int), (sg_has S k d → w = sg_fee S false k d) → mv_Run G 69 87 4749 2 [(0, .inr (.inr 35)), (1, .inr (.inr 8)), (2, .inl (((4 * sg_pl S k + d : Nat) : Int) + 1))] [] (mh l) (mv_up M 40 (4 * sg_pl S k + d) w) (mv_qv (mh l) F) := by
        intro w hwv
        refine ih (4 * sg_pl S k + d + 1) _ (by omega) (fun a i a1 => by rw [mv_up_n (fun q => a1 q.1)]; exact ho a i a1) (fun j e hj he hlt hh => ?_)
        by_cases q : 4 * sg_pl S j + e = 4 * sg_pl S k + d
        · have hjk : j = k := sg_pl_inj hw hj hk (by omega)
          have hed : e = d := by rw [hjk] at q; omega
          subst hjk
          subst hed
          rw [mv_up_s]
          exact hwv hh
        · rw [mv_up_n (fun z => q z.2)]
          exact hd j e hj he (by omega) hh
      refine ⟨by omega, by omega, by omega, ?_⟩
      by_cases hh : sg_has S k d
      · obtain ⟨e1, ho1⟩ := sg_pb_yes hw hk hh hd4
        have hn := (sg_pl_lt hw ho1).2
        have ct : M 11 (sg_pl S (sg_nx k d)) = S 2 (sg_nx k d) := ((hCM M ho).2.1 _ ho1).2.2.1
        have hfee := sg_fee_b hw (wk := false) hk hd4 hh
        have hne : ¬ sg_pb S k d = -1 := by omega
        rw [if_neg hne, if_neg hne, show (sg_pb S k d).toNat = sg_pl S (sg_nx k d) by omega, ct]
        split
        · rename_i q
          have hfe : sg_fee S false k d = S 6 0 + S 2 (sg_nx k d) := by
            unfold sg_fee
            rw [if_neg (by decide), if_pos q]
          have c16 : M 16 (Int.toNat 0) = S 6 0 := (hCM M ho).2.2.2.1 0 (by omega)
          rw [c16]
          exact ⟨by omega, by omega, by omega, by omega, by omega, hnext _ (fun _ => hfe.symm)⟩
        · rename_i q
          have hfe : sg_fee S false k d = S 6 (S 5 (4 * k + d)).toNat + S 2 (sg_nx k d) := by
            unfold sg_fee
            rw [if_neg (by decide), if_neg q]
          have c16 : M 16 (S 5 (4 * k + d)).toNat = S 6 (S 5 (4 * k + d)).toNat := (hCM M ho).2.2.2.1 _ (by omega)
          rw [c16]
          exact ⟨by omega, by omega, by omega, by omega, by omega, by omega, hnext _ (fun _ => hfe.symm)⟩
      · rw [if_pos (sg_pb_no hh), if_pos (sg_pb_no hh)]
        split
        · exact ⟨by omega, by omega, hnext 0 (fun q => absurd q hh)⟩
        · exact ⟨by omega, by omega, by omega, hnext 0 (fun q => absurd q hh)⟩
  refine vw_X8_reckonRoads ?_
  exact key (4 * n48) 0 M0 (by omega) (fun _ _ _ => rfl) (fun k d _ _ hlt => by omega)
end TB
end
section
/-! THE CLASS's BIDS: what an offer (o = 3 use + market) bids for an acre, which offer takes it -/
noncomputable def sg_if (P : Prop) (a b : Int) : Int := @ite Int P (Classical.propDecidable P) a b
theorem sg_if_y {P : Prop} {a b : Int} (h : P) : sg_if P a b = a := if_pos h
theorem sg_if_n {P : Prop} {a b : Int} (h : ¬ P) : sg_if P a b = b := if_neg h
/-- an offer's way to an acre -/
noncomputable def sg_wo (S : mv_Mem) (o k : Nat) : Int := sg_way S (decide (S 8 (o / 3) = 1)) (S 7 (o % 3)).toNat k
noncomputable def sg_bid (S : mv_Mem) (o k : Nat) : Int := sg_if (sg_cg S (o / 3) (sg_wo S o k)) (sg_wt S o (S 1 k) - sg_cr S (o / 3) (S 1 k) * sg_wo S o k) 0
/-- the offer with the greatest bid above 0 among the first n, one (w) left out; its bid -/
noncomputable def sg_g (S : mv_Mem) (w : Int) (k : Nat) : Nat → Int × Int
  | 0 => (-1, 0)
  | n + 1 => if ((n % 3 : Nat) : Int) < S 0 2 ∧ (n : Int) ≠ w ∧ (sg_g S w k n).2 < sg_bid S n k then ((n : Int), sg_bid S n k) else sg_g S w k n
noncomputable def sg_tk (S : mv_Mem) (k : Nat) : Int := if S 4 k = 0 then (sg_g S (-1) k (3 * (S 0 3).toNat)).1 else -1
noncomputable def sg_mx (S : mv_Mem) (k : Nat) : Int := if S 4 k = 0 then (sg_g S (-1) k (3 * (S 0 3).toNat)).2 else 0
noncomputable def sg_rt (S : mv_Mem) (k : Nat) : Int := sg_mx S k - (sg_mx S k * S 0 4).tdiv 100
/-- the bids, the takers stand in the cells -/
def sg_Bd (S M : mv_Mem) : Prop := ∀ o k : Nat, (o : Int) < 3 * S 0 3 → ((o % 3 : Nat) : Int) < S 0 2 → sg_ok S k → M 42 (48 * o + sg_pl S k) = sg_bid S o k
def sg_Tk (S M : mv_Mem) : Prop := ∀ k, sg_ok S k → M 43 (sg_pl S k) = sg_tk S k
section BI
variable {S : mv_Mem} {G : mv_G} {l : Nat}
theorem sg_wo_b (hw : sg_wf S) {o k : Nat} (hm : ((o % 3 : Nat) : Int) < S 0 2) (hk : sg_ok S k) : 0 ≤ sg_wo S o k ∧ sg_wo S o k ≤ 2376 :=
  sg_way_b hw _ (hw.2.2.1 (o % 3) hm).2.2 hk
theorem sg_s1 (hw : sg_wf S) {k : Nat} (hk : sg_ok S k) : 0 ≤ S 1 k ∧ S 1 k ≤ 9 := hw.2.1.1 k (sg_ok_48 hw hk)
theorem sg_bid_b (hw : sg_wf S) {o k : Nat} (ho : o < 18) (hm : ((o % 3 : Nat) : Int) < S 0 2) (hk : sg_ok S k) : -400000000 ≤ sg_bid S o k ∧ sg_bid S o k ≤ 160000000 := by
  have h1 := sg_wo_b hw hm hk
  have h2 := sg_wt_b hw ho (sg_s1 hw hk)
  have h3 := sg_cr_b hw (show o / 3 < 6 by omega) (sg_s1 hw hk)
  have h4 : 0 ≤ sg_cr S (o / 3) (S 1 k) * sg_wo S o k := Int.mul_nonneg h3.1 h1.1
  have h5 : sg_cr S (o / 3) (S 1 k) * sg_wo S o k ≤ 98010 * 2376 := Int.mul_le_mul h3.2 h1.2 h1.1 (by omega)
  by_cases q : sg_cg S (o / 3) (sg_wo S o k)
  · unfold sg_bid
    rw [sg_if_y q]
    omega
  · unfold sg_bid
    rw [sg_if_n q]
    omega
/-- what is so of the greatest -/
theorem sg_g_i (S : mv_Mem) (w : Int) (k : Nat) : ∀ n, (sg_g S w k n = (-1, 0) ∨ ∃ o : Nat, o < n ∧ ((o % 3 : Nat) : Int) < S 0 2 ∧ (o : Int) ≠ w ∧ sg_g S w k n = ((o : Int), sg_bid S o k) ∧ 0 < sg_bid S o k) := by
  intro n
  induction n with
  | zero => exact Or.inl rfl
  | succ n ih =>
    have h0 : 0 ≤ (sg_g S w k n).2 := by
      rcases ih with h | ⟨o, h1, h2, h3, h4, h5⟩
      · rw [h]; exact Int.le_refl _
      · rw [h4]; exact Int.le_of_lt h5
    unfold sg_g
    split
    · rename_i q
      exact Or.inr ⟨n, by omega, q.1, q.2.1, rfl, by omega⟩
    · rcases ih with h | ⟨o, h1, h2, h3, h4, h5⟩
      · exact Or.inl h
      · exact Or.inr ⟨o, by omega, h2, h3, h4, h5⟩
theorem sg_g_0 (S : mv_Mem) (w : Int) (k : Nat) (n : Nat) : 0 ≤ (sg_g S w k n).2 := by
  rcases sg_g_i S w k n with h | ⟨o, h1, h2, h3, h4, h5⟩
  · rw [h]; exact Int.le_refl _
  · rw [h4]; exact Int.le_of_lt h5
variable {M : mv_Mem} {F : Int → mv_Mem → Prop}
theorem sg_nu (hw : sg_wf S) : 0 ≤ S 0 3 ∧ S 0 3 ≤ 6 := hw.1.2.2.2.1
theorem sg_n3 (hw : sg_wf S) : ((3 * (S 0 3).toNat : Nat) : Int) = 3 * S 0 3 := by
  have := sg_nu hw
  omega
theorem cl_wayOf (hw : sg_wf S) (hC : sg_C 0 S M) (hW : sg_W S M) {o k : Nat} (ho : o < 18) (hm : ((o % 3 : Nat) : Int) < S 0 2) (hk : sg_ok S k) (h : F (sg_wo S o k) M) : mv_Wp G 17 [.inr (.inr 6), .inl (o : Int), .inl (sg_pl S k : Int)] (mh l) M (mv_qi (mh l) F) := by
  refine vw_X1_wayOf ?_
  have hp := (sg_pl_lt hw hk).2
  have c1 : M 18 (o / 3) = S 8 (o / 3) := (hC.2.2.2.2.2.1 (o / 3) (by omega)).1
  obtain ⟨c2, c3⟩ := hW.2.2 (o % 3) k hm hk
  have e1 : Int.tdiv (o : Int) 3 = ((o / 3 : Nat) : Int) := by rw [sg_td (by omega)]; omega
  have e2 : Int.tmod (o : Int) 3 = ((o % 3 : Nat) : Int) := by rw [sg_tm (by omega)]; omega
  rw [e1, e2, Int.toNat_natCast, c1, show Int.toNat (((o % 3 : Nat) : Int) * 48 + (sg_pl S k : Int)) = 48 * (o % 3) + sg_pl S k by omega, c2, c3]
  unfold sg_wo at h
  refine ⟨by decide, by omega, by omega, ⟨by decide, by omega⟩, by omega, ?_⟩
  split
  · rename_i q
    rw [decide_eq_true q] at h
    exact ⟨by omega, mv_qi_i h⟩
  · rename_i q
    rw [decide_eq_false q] at h
    exact ⟨by omega, mv_qi_i h⟩
theorem cl_greatest (hw : sg_wf S) (hC : sg_C 0 S M) (hB : sg_Bd S M) {k : Nat} {w : Int} (hk : sg_ok S k) (hwr : mv_R32 w) (h : F (sg_g S w k (3 * (S 0 3).toNat)).1 M) : mv_Wp G 19 [.inr (.inr 6), .inl (sg_pl S k : Int), .inl w] (mh l) M (mv_qi (mh l) F) := by
  have hp := (sg_pl_lt hw hk).2
  have c1 : M 17 0 = S 0 3 := hC.2.2.2.2.1.1
  have c2 : M 8 4 = S 0 2 := hC.1.2.2.2.2
  have hu := sg_nu hw
  have key : ∀ (n o : Nat), ((o + n : Nat) : Int) = 3 * S 0 3 →
      mv_Run G 19 87 4749 8 [(0, .inr (.inr 6)), (1, .inl (sg_pl S k : Int)), (2, .inl w), (3, .inl (sg_g S w k o).1), (4, .inr (.inl (sg_g S w k o).2)), (6, .inl (o : Int))] [] (mh l) M (mv_qi (mh l) F) := by
    intro n
    induction n with
    | zero =>
      intro o ho
      refine vr_X1_greatest_8 ?_
      rw [c1, if_pos (by omega)]
      have : o = 3 * (S 0 3).toNat := by omega
      subst this
      exact ⟨by omega, mv_qi_i h⟩
    | succ n ih =>
      intro o ho
      refine vr_X1_greatest_8 ?_
      have e2 : Int.tmod (o : Int) 3 = ((o % 3 : Nat) : Int) := by rw [sg_tm (by omega)]; omega
      rw [c1, c2, if_neg (by omega), e2, show Int.toNat ((o : Int) * 48 + (sg_pl S k : Int)) = 48 * o + sg_pl S k by omega]
      have nxt : ¬ (((o % 3 : Nat) : Int) < S 0 2 ∧ (o : Int) ≠ w ∧ (sg_g S w k o).2 < sg_bid S o k) → mv_Run G 19 87 4749 8 [(0, .inr (.inr 6)), (1, .inl (sg_pl S k : Int)), (2, .inl w), (3, .inl (sg_g S w k o).1), (4, .inr (.inl (sg_g S w k o).2)), (6, .inl ((o : Int) + 1))] [] (mh l) M (mv_qi (mh l) F) := by
        intro q
        have K := ih (o + 1) (by omega)
        have e : sg_g S w k (o + 1) = sg_g S w k o := by
          conv => lhs; unfold sg_g
          rw [if_neg q]
        rw [e] at K
        exact K
      refine ⟨by omega, by omega, by omega, by omega, ?_⟩
      split
      · rename_i q
        rw [mv_cmp_le] at q
        refine ⟨by omega, nxt (fun z => ?_)⟩
        rw [hB o k (by omega) z.1 hk] at q
        omega
      · rename_i q
        rw [mv_cmp_le] at q
        split
        · rename_i q2
          exact ⟨by omega, nxt (fun z => z.2.1 q2)⟩
        · rename_i q2
          refine ⟨by decide, ?_⟩
          split
          · rename_i q3
            exact ⟨by omega, nxt (fun z => by have := z.1; omega)⟩
          · rename_i q3
            have hb := hB o k (by omega) (by omega) hk
            rw [hb] at q ⊢
            have K := ih (o + 1) (by omega)
            have e : sg_g S w k (o + 1) = ((o : Int), sg_bid S o k) := by
              conv => lhs; unfold sg_g
              rw [if_pos ⟨by omega, q2, by omega⟩]
            rw [e] at K
            exact ⟨by omega, K⟩
  refine vw_X1_greatest ?_
  exact key (3 * (S 0 3).toNat) 0 (by omega)
theorem cl_takerOf (hw : sg_wf S) (hC : sg_C 0 S M) (hB : sg_Bd S M) {k : Nat} (hk : sg_ok S k) (h : F (sg_tk S k) M) : mv_Wp G 18 [.inr (.inr 6), .inl (sg_pl S k : Int)] (mh l) M (mv_qi (mh l) F) := by
  refine vw_X1_takerOf ?_
  have hp := (sg_pl_lt hw hk).2
  have c1 : M 13 (sg_pl S k) = S 4 k := (hC.2.1 k hk).2.2.2.2.1
  unfold sg_tk at h
  rw [Int.toNat_natCast, c1]
  refine ⟨by omega, ?_⟩
  split
  · rename_i q
    rw [if_pos q] at h
    exact cl_greatest hw hC hB hk (by omega) (mv_qi_i h)
  · rename_i q
    rw [if_neg q] at h
    exact mv_qi_i h
theorem cl_reckonOffer (hw : sg_wf S) {M0 : mv_Mem} {F : mv_Mem → Prop} (hC : sg_C 0 S M0) (hW : sg_W S M0) {o : Nat} (ho : o < 18) (hm : ((o % 3 : Nat) : Int) < S 0 2)
    (h : ∀ M, (∀ a i, ¬ (a = 42 ∧ 48 * o ≤ i ∧ i < 48 * o + 48) → M a i = M0 a i) → (∀ k, sg_ok S k → M 42 (48 * o + sg_pl S k) = sg_bid S o k) → F M) :
    mv_Wp G 16 [.inr (.inr 6), .inl (o : Int)] (mh l) M0 (mv_qv (mh l) F) := by
  obtain ⟨n48, hn1, hn2⟩ := sg_n48 hw
  have e1 : Int.tdiv (o : Int) 3 = ((o / 3 : Nat) : Int) := by rw [sg_td (by omega)]; omega
  have key : ∀ (n p : Nat) (M : mv_Mem), p + n = n48 → (∀ a i, ¬ (a = 42 ∧ 48 * o ≤ i ∧ i < 48 * o + 48) → M a i = M0 a i) → (∀ k, sg_ok S k → sg_pl S k < p → M 42 (48 * o + sg_pl S k) = sg_bid S o k) →
      mv_Run G 16 87 4749 6 [(0, .inr (.inr 6)), (1, .inl (o : Int)), (2, .inl ((o / 3 : Nat) : Int)), (3, .inl (p : Int))] [] (mh l) M (mv_qv (mh l) F) := by
    intro n
    induction n with
    | zero =>
      intro p M hpn hfr hd
      refine vr_X1_reckonOffer_6 ?_
      have c2 : M 8 2 = (n48 : Int) := ((hfr 8 2 (fun z => by omega)).trans hC.1.2.2.1).trans hn1.symm
      rw [c2, if_pos (by omega)]
      exact mv_qv_i (h M hfr (fun k hk => hd k hk (by have := (sg_pl_lt hw hk).1; omega)))
    | succ n ih =>
      intro p M hpn hfr hd
      refine vr_X1_reckonOffer_6 ?_
      have hCM : sg_C 0 S M := sg_C_fr hC (fun c h1 h2 i => hfr c i (fun z => by omega))
      have hWM : sg_W S M := sg_W_fr hW (fun c h1 h2 _ i => hfr c i (fun z => by omega))
      have c2 : M 8 2 = (n48 : Int) := hCM.1.2.2.1.trans hn1.symm
      obtain ⟨k, hk, rfl⟩ := sg_pl_sur hw (p := p) (by omega)
      have hp := (sg_pl_lt hw hk).2
      have cs : M 10 (sg_pl S k) = S 1 k := (hCM.2.1 k hk).2.1
      rw [c2, if_neg (by omega), show Int.toNat ((o : Int) * 48 + (sg_pl S k : Int)) = 48 * o + sg_pl S k by omega, Int.toNat_natCast]
      have hs := sg_s1 hw hk
      have hwo := sg_wo_b hw hm hk
      have hcr := sg_cr_b hw (show o / 3 < 6 by omega) hs
      have hwt := sg_wt_b hw ho hs
      have hbb := sg_bid_b hw ho hm hk
      have h4 : 0 ≤ sg_cr S (o / 3) (S 1 k) * sg_wo S o k := Int.mul_nonneg hcr.1 hwo.1
      have h5 : sg_cr S (o / 3) (S 1 k) * sg_wo S o k ≤ 98010 * 2376 := Int.mul_le_mul hcr.2 hwo.2 hwo.1 (by omega)
      have nxt : mv_Run G 16 87 4749 6 [(0, .inr (.inr 6)), (1, .inl (o : Int)), (2, .inl ((o / 3 : Nat) : Int)), (3, .inl ((sg_pl S k : Int) + 1))] [] (mh l) (mv_up M 42 (48 * o + sg_pl S k) (sg_bid S o k)) (mv_qv (mh l) F) := by
        refine ih (sg_pl S k + 1) _ (by omega) (fun a i hai => by rw [mv_up_n (fun z => hai ⟨z.1, by omega, by omega⟩)]; exact hfr a i hai) (fun j hj hlt => ?_)
        by_cases q : j = k
        · rw [q, mv_up_s]
        · rw [mv_up_n (fun z => q (sg_pl_inj hw hj hk (by omega)))]
          have : sg_pl S j ≠ sg_pl S k := fun z => q (sg_pl_inj hw hj hk z)
          exact hd j hj (by omega)
      refine cl_wayOf hw hCM hWM ho hm hk (cl_canGo hCM (by omega) (fun hg => ?_) (fun hg => ?_))
      · rw [if_neg (by decide), cs]
        refine ⟨by omega, cl_payAtHome hw hCM ho hs (cl_carriage hw hCM (by omega) hs ?_)⟩
        have e : sg_bid S o k = sg_wt S o (S 1 k) - sg_cr S (o / 3) (S 1 k) * sg_wo S o k := sg_if_y hg
        rw [← e]
        exact ⟨by omega, by omega, by omega, by omega, by omega, by omega, nxt⟩
      · rw [if_pos rfl]
        have e : sg_bid S o k = 0 := sg_if_n hg
        rw [e] at nxt
        exact ⟨by omega, by omega, by omega, by omega, nxt⟩
  refine vw_X1_reckonOffer ?_
  rw [e1]
  exact ⟨⟨by decide, by omega⟩, key n48 0 M0 (by omega) (fun _ _ _ => rfl) (fun _ _ hlt => by omega)⟩
theorem cl_reckonBids (hw : sg_wf S) {M0 : mv_Mem} {F : mv_Mem → Prop} (hC : sg_C 0 S M0) (hW : sg_W S M0)
    (h : ∀ M, (∀ a i, a ≠ 42 → a ≠ 43 → M a i = M0 a i) → sg_Bd S M → sg_Tk S M → F M) :
    mv_Wp G 15 [.inr (.inr 6)] (mh l) M0 (mv_qv (mh l) F) := by
  obtain ⟨n48, hn1, hn2⟩ := sg_n48 hw
  have hu := sg_nu hw
  have key2 : ∀ (n p : Nat) (M : mv_Mem), p + n = n48 → (∀ a i, a ≠ 42 → a ≠ 43 → M a i = M0 a i) → sg_Bd S M → (∀ k, sg_ok S k → sg_pl S k < p → M 43 (sg_pl S k) = sg_tk S k) →
      mv_Run G 15 87 4749 41 [(0, .inr (.inr 6)), (1, .inl (p : Int))] [] (mh l) M (mv_qv (mh l) F) := by
    intro n
    induction n with
    | zero =>
      intro p M hpn hfr hB hd
      refine vr_X1_reckonBids_41 ?_
      have c2 : M 8 2 = (n48 : Int) := ((hfr 8 2 (by decide) (by decide)).trans hC.1.2.2.1).trans hn1.symm
      rw [c2, if_pos (by omega)]
      exact mv_qv_i (h M hfr hB (fun k hk => hd k hk (by have := (sg_pl_lt hw hk).1; omega)))
    | succ n ih =>
      intro p M hpn hfr hB hd
      refine vr_X1_reckonBids_41 ?_
      have hCM : sg_C 0 S M := sg_C_fr hC (fun c h1 h2 i => hfr c i (by omega) (by omega))
      have c2 : M 8 2 = (n48 : Int) := hCM.1.2.2.1.trans hn1.symm
      obtain ⟨k, hk, rfl⟩ := sg_pl_sur hw (p := p) (by omega)
      have hp := (sg_pl_lt hw hk).2
      rw [c2, if_neg (by omega), Int.toNat_natCast]
      refine cl_takerOf hw hCM hB hk ⟨by omega, by omega, ih (sg_pl S k + 1) _ (by omega) (fun a i a1 a2 => by rw [mv_up_n (fun z => a2 z.1)]; exact hfr a i a1 a2) (fun o j h1 h2 h3 => by rw [mv_up_n (fun z => by omega)]; exact hB o j h1 h2 h3) (fun j hj hlt => ?_)⟩
      by_cases q : j = k
      · rw [q, mv_up_s]
      · have : sg_pl S j ≠ sg_pl S k := fun z => q (sg_pl_inj hw hj hk z)
        rw [mv_up_n (fun z => this z.2)]
        exact hd j hj (by omega)
  have key : ∀ (n o : Nat) (M : mv_Mem), ((o + n : Nat) : Int) = 3 * S 0 3 → (∀ a i, a ≠ 42 → M a i = M0 a i) → (∀ j k : Nat, j < o → ((j % 3 : Nat) : Int) < S 0 2 → sg_ok S k → M 42 (48 * j + sg_pl S k) = sg_bid S j k) →
      mv_Run G 15 87 4749 2 [(0, .inr (.inr 6)), (1, .inl (o : Int))] [] (mh l) M (mv_qv (mh l) F) := by
    intro n
    induction n with
    | zero =>
      intro o M hon hfr hd
      refine vr_X1_reckonBids_2 ?_
      have c1 : M 17 0 = S 0 3 := (hfr 17 0 (by decide)).trans hC.2.2.2.2.1.1
      rw [c1, if_pos (by omega)]
      exact ⟨by omega, key2 n48 0 M (by omega) (fun a i a1 _ => hfr a i a1) (fun j k h1 h2 h3 => hd j k (by omega) h2 h3) (fun _ _ hlt => by omega)⟩
    | succ n ih =>
      intro o M hon hfr hd
      refine vr_X1_reckonBids_2 ?_
      have hCM : sg_C 0 S M := sg_C_fr hC (fun c h1 h2 i => hfr c i (by omega))
      have hWM : sg_W S M := sg_W_fr hW (fun c h1 h2 _ i => hfr c i (by omega))
      have c1 : M 17 0 = S 0 3 := hCM.2.2.2.2.1.1
      have c2 : M 8 4 = S 0 2 := hCM.1.2.2.2.2
      have e2 : Int.tmod (o : Int) 3 = ((o % 3 : Nat) : Int) := by rw [sg_tm (by omega)]; omega
      rw [c1, c2, if_neg (by omega), e2]
      refine ⟨by omega, by decide, ?_⟩
      split
      · rename_i q
        exact ⟨by omega, ih (o + 1) M (by omega) hfr (fun j k hj h2 h3 => hd j k (by
          rcases Nat.lt_or_ge j o with z | z
          · exact z
          · exfalso
            have : j = o := by omega
            subst this
            omega) h2 h3)⟩
      · rename_i q
        refine cl_reckonOffer hw hCM hWM (by omega) (by omega) (fun M1 h1 h2 => ⟨by omega, ih (o + 1) M1 (by omega) (fun a i a1 => by rw [h1 a i (fun z => a1 z.1)]; exact hfr a i a1) (fun j k hj hm hk => ?_)⟩)
        by_cases z : j = o
        · rw [z]
          exact h2 k hk
        · have hp := (sg_pl_lt hw hk).2
          rw [h1 42 _ (fun y => by omega)]
          exact hd j k (by omega) hm hk
  refine vw_X1_reckonBids ?_
  exact key (3 * (S 0 3).toNat) 0 M0 (by omega) (fun _ _ _ => rfl) (fun j k hj => by omega)
end BI
end
section
/-! SUMS OVER THE ACRES -/
noncomputable def sg_fo (S : mv_Mem) (f : Nat → Int → Int) (a : Int) : Nat → Int
  | 0 => a
  | n + 1 => sg_if (sg_ok S n) (f n (sg_fo S f a n)) (sg_fo S f a n)
/-- the acre of a place -/
def sg_in (S : mv_Mem) (p : Nat) : Nat := 8 * (p / (S 0 0).toNat) + p % (S 0 0).toNat
def sg_fp (S : mv_Mem) (f : Nat → Int → Int) (a : Int) : Nat → Int
  | 0 => a
  | n + 1 => f (sg_in S n) (sg_fp S f a n)
section SU
variable {S : mv_Mem} {f : Nat → Int → Int} {a : Int}
theorem sg_in_pl (hw : sg_wf S) {k : Nat} (hk : sg_ok S k) : sg_in S (sg_pl S k) = k := by
  obtain ⟨⟨⟨w1, w2⟩, ⟨h1, h2⟩, -⟩, -⟩ := hw
  obtain ⟨k1, k2⟩ := hk
  unfold sg_in sg_pl
  obtain ⟨w, ew⟩ := sg_nat (show 0 ≤ S 0 0 by omega)
  rw [ew] at w1 w2 k1
  rw [ew, Int.toNat_natCast]
  have hw0 : 0 < w := by omega
  rw [Nat.mul_comm (k / 8) w, Nat.mul_add_div hw0, Nat.mul_add_mod, Nat.div_eq_of_lt (show k % 8 < w by omega), Nat.mod_eq_of_lt (show k % 8 < w by omega)]
  omega
theorem sg_fo_s {n : Nat} (h : sg_ok S n) : sg_fo S f a (n + 1) = f n (sg_fo S f a n) := sg_if_y h
theorem sg_fo_n {n : Nat} (h : ¬ sg_ok S n) : sg_fo S f a (n + 1) = sg_fo S f a n := sg_if_n h
theorem sg_fo_no {n : Nat} : ∀ m, (∀ k, n ≤ k → k < n + m → ¬ sg_ok S k) → sg_fo S f a (n + m) = sg_fo S f a n
  | 0, _ => rfl
  | m + 1, h => (sg_fo_n (h (n + m) (by omega) (by omega))).trans (sg_fo_no m (fun k h1 h2 => h k h1 (by omega)))
theorem sg_fo_fp (hw : sg_wf S) {n : Nat} (hn : (n : Int) = S 0 0 * S 0 1) : sg_fo S f a 48 = sg_fp S f a n := by
  obtain ⟨⟨⟨w1, w2⟩, ⟨h1, h2⟩, -⟩, -⟩ := id hw
  obtain ⟨w, ew⟩ := sg_nat (show 0 ≤ S 0 0 by omega)
  obtain ⟨h, eh⟩ := sg_nat (show 0 ≤ S 0 1 by omega)
  have row : ∀ y, y < h → sg_fo S f a (8 * y) = sg_fp S f a (y * w) → ∀ x, x ≤ w → sg_fo S f a (8 * y + x) = sg_fp S f a (y * w + x) := by
    intro y hy h0 x
    induction x with
    | zero => intro _; exact h0
    | succ x ih =>
      intro hx
      have hok : sg_ok S (8 * y + x) := ⟨by omega, by omega⟩
      have hp : sg_pl S (8 * y + x) = y * w + x := by
        unfold sg_pl
        rw [ew, Int.toNat_natCast, show (8 * y + x) / 8 = y by omega, show (8 * y + x) % 8 = x by omega]
      have e1 : sg_fo S f a (8 * y + (x + 1)) = f (8 * y + x) (sg_fo S f a (8 * y + x)) := sg_fo_s hok
      have e2 : sg_fp S f a (y * w + (x + 1)) = f (sg_in S (y * w + x)) (sg_fp S f a (y * w + x)) := rfl
      rw [e1, e2, ih (by omega), ← hp, sg_in_pl hw hok, hp]
  have all : ∀ y, y ≤ h → sg_fo S f a (8 * y) = sg_fp S f a (y * w) := by
    intro y
    induction y with
    | zero => intro _; rw [Nat.zero_mul]; rfl
    | succ y ih =>
      intro hy
      have r := row y (by omega) (ih (by omega)) w (Nat.le_refl _)
      rw [show (y + 1) * w = y * w + w from Nat.succ_mul y w, ← r, show 8 * (y + 1) = (8 * y + w) + (8 - w) by omega]
      exact sg_fo_no (8 - w) (fun k k1 k2 hk => by
        obtain ⟨q1, q2⟩ := hk
        omega)
  have e := all h (Nat.le_refl _)
  have en : n = h * w := by
    rw [ew, eh, ← Int.natCast_mul] at hn
    rw [Nat.mul_comm]
    exact Int.ofNat.inj hn
  rw [en, ← e, show (48 : Nat) = 8 * h + (48 - 8 * h) by omega]
  exact sg_fo_no (48 - 8 * h) (fun k k1 k2 hk => by
    obtain ⟨q1, q2⟩ := hk
    omega)
theorem sg_fp_pl (hw : sg_wf S) {k : Nat} (hk : sg_ok S k) : sg_fp S f a (sg_pl S k + 1) = f k (sg_fp S f a (sg_pl S k)) := by
  have e : sg_fp S f a (sg_pl S k + 1) = f (sg_in S (sg_pl S k)) (sg_fp S f a (sg_pl S k)) := rfl
  rw [e, sg_in_pl hw hk]
theorem sg_in_ok (hw : sg_wf S) {p : Nat} (hp : (p : Int) < S 0 0 * S 0 1) : sg_ok S (sg_in S p) ∧ sg_pl S (sg_in S p) = p := by
  obtain ⟨k, hk, rfl⟩ := sg_pl_sur hw hp
  rw [sg_in_pl hw hk]
  exact ⟨hk, rfl⟩
/-- a sum of what lies between 0 and b -/
theorem sg_fp_b (hw : sg_wf S) {b : Int} (hb : 0 ≤ b) (hf : ∀ k x, sg_ok S k → x ≤ f k x ∧ f k x ≤ x + b) : ∀ n : Nat, (n : Int) ≤ S 0 0 * S 0 1 → a ≤ sg_fp S f a n ∧ sg_fp S f a n ≤ a + b * (n : Int) := by
  intro n
  induction n with
  | zero =>
    intro _
    have : sg_fp S f a 0 = a := rfl
    rw [this]
    omega
  | succ n ih =>
    intro hn
    have h1 := ih (by omega)
    have h2 := hf (sg_in S n) (sg_fp S f a n) (sg_in_ok hw (by omega)).1
    have e : sg_fp S f a (n + 1) = f (sg_in S n) (sg_fp S f a n) := rfl
    have e2 : b * ((n + 1 : Nat) : Int) = b * (n : Int) + b := by rw [Int.natCast_add, Int.mul_add]; omega
    rw [e, e2]
    omega
theorem sg_fo_c {g : Nat → Int → Int} (h : ∀ k x, sg_ok S k → f k x = g k x) : ∀ n, sg_fo S f a n = sg_fo S g a n
  | 0 => rfl
  | n + 1 => by
    by_cases q : sg_ok S n
    · rw [sg_fo_s q, sg_fo_s q, sg_fo_c h n, h n _ q]
    · rw [sg_fo_n q, sg_fo_n q, sg_fo_c h n]
end SU
/-! WHAT IS ASKED OF THE OFFERS -/
noncomputable def sg_all (S : mv_Mem) : Int := sg_fo S (fun k x => x + sg_rt S k) 0 48
noncomputable def sg_own (S : mv_Mem) (w : Int) : Int := sg_fo S (fun k x => if S 3 k = w then x + sg_rt S k else x) 0 48
noncomputable def sg_arr (S : mv_Mem) (o : Nat) : Int := sg_fo S (fun k x => if sg_tk S k = o then x + sg_yl S (o / 3) (S 1 k) else x) 0 48
noncomputable def sg_out (S : mv_Mem) (u : Int) : Int := sg_fo S (fun k x => if sg_tk S k ≠ -1 ∧ sg_tk S k / 3 = u then (if x < sg_wo S (sg_tk S k).toNat k then sg_wo S (sg_tk S k).toNat k else x) else x) (-9) 48
noncomputable def sg_bd (S : mv_Mem) (k d : Nat) : Int := sg_if (sg_has S k d ∧ sg_tk S k ≠ -1 ∧ sg_tk S (sg_nx k d) ≠ -1 ∧ sg_tk S k % 3 ≠ sg_tk S (sg_nx k d) % 3) 1 0
noncomputable def sg_bds (S : mv_Mem) : Int := sg_fo S (fun k x => x + sg_bd S k 0 + sg_bd S k 2) 0 48
noncomputable def sg_was (S : mv_Mem) : Int := sg_fo S (fun k x => if sg_tk S k = -1 then x + 1 else x) 0 48
noncomputable def sg_fal (S : mv_Mem) (u : Int) (S' : mv_Mem) : Int := sg_fo S (fun k x => if (sg_tk S k ≠ -1 ∧ sg_tk S k / 3 = u) ∧ sg_tk S' k = -1 then x + 1 else x) 0 48
section OF
variable {S : mv_Mem} {G : mv_G} {l : Nat} {M : mv_Mem} {F : Int → mv_Mem → Prop}
theorem sg_tk_i (hw : sg_wf S) (k : Nat) : (sg_tk S k = -1 ∧ sg_mx S k = 0) ∨ ∃ o : Nat, o < 18 ∧ (o : Int) < 3 * S 0 3 ∧ ((o % 3 : Nat) : Int) < S 0 2 ∧ sg_tk S k = (o : Int) ∧ sg_mx S k = sg_bid S o k ∧ 0 < sg_bid S o k := by
  have hu := sg_nu hw
  unfold sg_tk sg_mx
  split
  · rcases sg_g_i S (-1) k (3 * (S 0 3).toNat) with h | ⟨o, h1, h2, h3, h4, h5⟩
    · rw [h]
      exact Or.inl ⟨rfl, rfl⟩
    · rw [h4]
      exact Or.inr ⟨o, by omega, by omega, h2, rfl, rfl, h5⟩
  · exact Or.inl ⟨rfl, rfl⟩
theorem sg_mx_b (hw : sg_wf S) {k : Nat} (hk : sg_ok S k) : 0 ≤ sg_mx S k ∧ sg_mx S k ≤ 160000000 := by
  rcases sg_tk_i hw k with h | ⟨o, h1, h2, h3, h4, h5, h6⟩
  · omega
  · have := sg_bid_b hw h1 h3 hk
    omega
theorem sg_rt_b (hw : sg_wf S) {k : Nat} (hk : sg_ok S k) : 0 ≤ sg_rt S k ∧ sg_rt S k ≤ 160000000 ∧ 0 ≤ sg_mx S k * S 0 4 ∧ sg_mx S k * S 0 4 ≤ 16000000000 ∧ (sg_mx S k * S 0 4).tdiv 100 = sg_mx S k * S 0 4 / 100 := by
  have h1 := sg_mx_b hw hk
  have h2 := hw.1.2.2.2.2.1
  have h3 : 0 ≤ sg_mx S k * S 0 4 := Int.mul_nonneg h1.1 h2.1
  have h4 : sg_mx S k * S 0 4 ≤ sg_mx S k * 100 := Int.mul_le_mul_of_nonneg_left h2.2 h1.1
  have h5 : (sg_mx S k * S 0 4).tdiv 100 = sg_mx S k * S 0 4 / 100 := sg_td h3
  unfold sg_rt
  rw [h5]
  refine ⟨?_, ?_, h3, ?_, rfl⟩ <;> omega
theorem cl_rentBy (hw : sg_wf S) (hC : sg_C 0 S M) (hB : sg_Bd S M) {k : Nat} (hk : sg_ok S k) {F : Int → mv_Mem → Prop} (h : F (sg_rt S k) M) : mv_Wp G 21 [.inr (.inr 6), .inl (sg_tk S k), .inl (sg_pl S k : Int)] (mh l) M (mv_ql (mh l) F) := by
  refine vw_X1_rentBy ?_
  have hp := (sg_pl_lt hw hk).2
  have c1 : M 17 1 = S 0 4 := hC.2.2.2.2.1.2
  obtain ⟨r1, r2, r3, r4, r5⟩ := sg_rt_b hw hk
  rcases sg_tk_i hw k with ⟨e, e2⟩ | ⟨o, h1, h2, h3, h4, h5, h6⟩
  · rw [if_pos e]
    unfold sg_rt at h
    rw [e2, Int.zero_mul] at h
    exact mv_ql_i h
  · have hb := hB o k h2 h3 hk
    have hbb := sg_mx_b hw hk
    rw [if_neg (by omega), h4, show Int.toNat ((o : Int) * 48 + (sg_pl S k : Int)) = 48 * o + sg_pl S k by omega, hb, ← h5, c1, r5]
    unfold sg_rt at h r1 r2
    rw [r5] at h r1 r2
    exact ⟨by omega, by omega, by omega, by omega, ⟨by decide, by omega⟩, by omega, mv_ql_i h⟩
theorem cl_rentAt (hw : sg_wf S) (hC : sg_C 0 S M) (hB : sg_Bd S M) (hT : sg_Tk S M) {k : Nat} (hk : sg_ok S k) {F : Int → mv_Mem → Prop} (h : F (sg_rt S k) M) : mv_Wp G 20 [.inr (.inr 6), .inl (sg_pl S k : Int)] (mh l) M (mv_ql (mh l) F) := by
  refine vw_X1_rentAt ?_
  have hp := (sg_pl_lt hw hk).2
  rw [Int.toNat_natCast, hT k hk]
  exact ⟨by omega, cl_rentBy hw hC hB hk (mv_ql_i h)⟩
theorem cl_allRents (hw : sg_wf S) (hC : sg_C 0 S M) (hB : sg_Bd S M) (hT : sg_Tk S M) (h : F (sg_all S) M) : mv_Wp G 22 [.inr (.inr 6)] (mh l) M (mv_ql (mh l) F) := by
  obtain ⟨n48, hn1, hn2⟩ := sg_n48 hw
  have c2 : M 8 2 = (n48 : Int) := hC.1.2.2.1.trans hn1.symm
  have hb := fun n hn => sg_fp_b (f := fun k x => x + sg_rt S k) (a := 0) hw (b := 160000000) (by omega) (fun k x hk => by have := sg_rt_b hw hk; omega) n hn
  have key : ∀ (n p : Nat), p + n = n48 → mv_Run G 22 87 4749 4 [(0, .inr (.inr 6)), (1, .inr (.inl (sg_fp S (fun k x => x + sg_rt S k) 0 p))), (3, .inl (p : Int))] [] (mh l) M (mv_ql (mh l) F) := by
    intro n
    induction n with
    | zero =>
      intro p hp
      refine vr_X1_allRents_4 ?_
      rw [c2, if_pos (by omega), show p = n48 by omega, ← sg_fo_fp hw hn1]
      exact mv_ql_i h
    | succ n ih =>
      intro p hp
      refine vr_X1_allRents_4 ?_
      obtain ⟨k, hk, rfl⟩ := sg_pl_sur hw (p := p) (by omega)
      have h1 := hb (sg_pl S k) (by omega)
      have h2 := sg_rt_b hw hk
      have e := sg_fp_pl (f := fun k x => x + sg_rt S k) (a := 0) hw hk
      have K := ih (sg_pl S k + 1) (by omega)
      rw [e] at K
      rw [c2, if_neg (by omega)]
      exact cl_rentAt hw hC hB hT hk ⟨by omega, by omega, K⟩
  refine vw_X1_allRents ?_
  exact key n48 0 (by omega)
theorem cl_rentsOf (hw : sg_wf S) (hC : sg_C 0 S M) (hB : sg_Bd S M) {w : Int} (h : F (sg_own S w) M) : mv_Wp G 23 [.inr (.inr 6), .inl w] (mh l) M (mv_ql (mh l) F) := by
  obtain ⟨n48, hn1, hn2⟩ := sg_n48 hw
  have c2 : M 8 2 = (n48 : Int) := hC.1.2.2.1.trans hn1.symm
  have hb := fun n hn => sg_fp_b (f := fun k x => if S 3 k = w then x + sg_rt S k else x) (a := 0) hw (b := 160000000) (by omega) (fun k x hk => by have := sg_rt_b hw hk; split <;> omega) n hn
  have key : ∀ (n p : Nat), p + n = n48 → mv_Run G 23 87 4749 5 [(0, .inr (.inr 6)), (1, .inl w), (2, .inr (.inl (sg_fp S (fun k x => if S 3 k = w then x + sg_rt S k else x) 0 p))), (4, .inl (p : Int))] [] (mh l) M (mv_ql (mh l) F) := by
    intro n
    induction n with
    | zero =>
      intro p hp
      refine vr_X1_rentsOf_5 ?_
      rw [c2, if_pos (by omega), show p = n48 by omega, ← sg_fo_fp hw hn1]
      exact mv_ql_i h
    | succ n ih =>
      intro p hp
      refine vr_X1_rentsOf_5 ?_
      obtain ⟨k, hk, rfl⟩ := sg_pl_sur hw (p := p) (by omega)
      have h1 := hb (sg_pl S k) (by omega)
      have h2 := sg_rt_b hw hk
      have e := sg_fp_pl (f := fun k x => if S 3 k = w then x + sg_rt S k else x) (a := 0) hw hk
      have c3 : M 12 (sg_pl S k) = S 3 k := (hC.2.1 k hk).2.2.2.1
      have K := ih (sg_pl S k + 1) (by omega)
      rw [e] at K
      rw [c2, if_neg (by omega), Int.toNat_natCast, c3]
      refine ⟨by omega, ?_⟩
      split
      · rename_i q
        rw [if_pos q] at K
        exact cl_takerOf hw hC hB hk (cl_rentBy hw hC hB hk ⟨by omega, by omega, K⟩)
      · rename_i q
        rw [if_neg q] at K
        exact ⟨by omega, K⟩
  refine vw_X1_rentsOf ?_
  exact key n48 0 (by omega)
theorem cl_isTakenBy (hw : sg_wf S) (hT : sg_Tk S M) {k : Nat} {u : Int} (hk : sg_ok S k) (h1 : sg_tk S k ≠ -1 ∧ sg_tk S k / 3 = u → F 1 M) (h0 : ¬ (sg_tk S k ≠ -1 ∧ sg_tk S k / 3 = u) → F 0 M) : mv_Wp G 25 [.inr (.inr 6), .inl u, .inl (sg_pl S k : Int)] (mh l) M (mv_qi (mh l) F) := by
  refine vw_X1_isTakenBy ?_
  have hp := (sg_pl_lt hw hk).2
  rw [Int.toNat_natCast, hT k hk]
  refine ⟨by omega, ?_⟩
  split
  · rename_i q
    exact ⟨by decide, mv_qi_i (h0 (fun z => z.1 q))⟩
  · rename_i q
    have h3 : 0 ≤ sg_tk S k ∧ sg_tk S k < 18 := by
      rcases sg_tk_i hw k with z | ⟨o, z1, z2, z3, z4, z5⟩
      · exact absurd z.1 q
      · omega
    rw [sg_td h3.1]
    refine ⟨by omega, ⟨by decide, by omega⟩, ?_⟩
    split
    · rename_i q2
      exact ⟨by decide, mv_qi_i (h1 ⟨q, q2⟩)⟩
    · rename_i q2
      exact ⟨by decide, mv_qi_i (h0 (fun z => q2 z.2))⟩
theorem cl_wasteAcres (hw : sg_wf S) (hC : sg_C 0 S M) (hT : sg_Tk S M) (h : F (sg_was S) M) : mv_Wp G 29 [.inr (.inr 6)] (mh l) M (mv_qi (mh l) F) := by
  obtain ⟨n48, hn1, hn2⟩ := sg_n48 hw
  have c2 : M 8 2 = (n48 : Int) := hC.1.2.2.1.trans hn1.symm
  have hb := fun n hn => sg_fp_b (f := fun k x => if sg_tk S k = -1 then x + 1 else x) (a := 0) hw (b := 1) (by omega) (fun k x hk => by split <;> omega) n hn
  have key : ∀ (n p : Nat), p + n = n48 → mv_Run G 29 87 4749 4 [(0, .inr (.inr 6)), (1, .inl (sg_fp S (fun k x => if sg_tk S k = -1 then x + 1 else x) 0 p)), (2, .inl (p : Int))] [] (mh l) M (mv_qi (mh l) F) := by
    intro n
    induction n with
    | zero =>
      intro p hp
      refine vr_X1_wasteAcres_4 ?_
      rw [c2, if_pos (by omega), show p = n48 by omega, ← sg_fo_fp hw hn1]
      exact mv_qi_i h
    | succ n ih =>
      intro p hp
      refine vr_X1_wasteAcres_4 ?_
      obtain ⟨k, hk, rfl⟩ := sg_pl_sur hw (p := p) (by omega)
      have h1 := hb (sg_pl S k) (by omega)
      have e := sg_fp_pl (f := fun k x => if sg_tk S k = -1 then x + 1 else x) (a := 0) hw hk
      have K := ih (sg_pl S k + 1) (by omega)
      rw [e] at K
      rw [c2, if_neg (by omega), Int.toNat_natCast, hT k hk]
      refine ⟨by omega, ?_⟩
      split
      · rename_i q
        rw [if_pos q] at K
        exact ⟨by omega, by omega, K⟩
      · rename_i q
        rw [if_neg q] at K
        rw [Int.add_zero]
        exact ⟨by omega, by omega, K⟩
  refine vw_X1_wasteAcres ?_
  exact key n48 0 (by omega)
theorem sg_bd_01 (S : mv_Mem) (k d : Nat) : sg_bd S k d = 0 ∨ sg_bd S k d = 1 := by
  unfold sg_bd
  by_cases q : sg_has S k d ∧ sg_tk S k ≠ -1 ∧ sg_tk S (sg_nx k d) ≠ -1 ∧ sg_tk S k % 3 ≠ sg_tk S (sg_nx k d) % 3
  · exact Or.inr (sg_if_y q)
  · exact Or.inl (sg_if_n q)
end OF
end
section
/-! THE CLASS's CLEARING PRICES -/
/-- an acre goes to an offer, the others as they are -/
def sg_go (S : mv_Mem) (o k : Nat) : Prop := S 4 k = 0 ∧ 0 < sg_bid S o k ∧ ((sg_g S o k (3 * (S 0 3).toNat)).2 < sg_bid S o k ∨ (sg_bid S o k = (sg_g S o k (3 * (S 0 3).toNat)).2 ∧ (o : Int) < (sg_g S o k (3 * (S 0 3).toNat)).1))
noncomputable def sg_cm (S : mv_Mem) (o : Nat) : Int := sg_fo S (fun k x => sg_if (sg_go S o k) (x + sg_yl S (o / 3) (S 1 k)) x) 0 48
/-- the first of the first n for which P holds; -9 -/
noncomputable def sg_cf (P : Nat → Prop) : Nat → Int
  | 0 => -9
  | n + 1 => sg_if (sg_cf P n = -9 ∧ P n) (n : Int) (sg_cf P n)
noncomputable def sg_clr (S : mv_Mem) (o : Nat) : Int := sg_cf (fun v => sg_bo S o (v : Int) ≤ sg_cm (mv_up S 16 o (v : Int)) o) 1000
theorem sg_cf_i (P : Nat → Prop) : ∀ n, (sg_cf P n = -9 ∧ ∀ w, w < n → ¬ P w) ∨ ∃ v : Nat, v < n ∧ sg_cf P n = (v : Int) ∧ P v ∧ ∀ w, w < v → ¬ P w := by
  intro n
  induction n with
  | zero => exact Or.inl ⟨rfl, fun w hw => by omega⟩
  | succ n ih =>
    by_cases q : sg_cf P n = -9 ∧ P n
    · have e : sg_cf P (n + 1) = (n : Int) := sg_if_y q
      refine Or.inr ⟨n, by omega, e, q.2, fun w hw => ?_⟩
      rcases ih with h | ⟨v, h1, h2, h3⟩
      · exact h.2 w hw
      · omega
    · have e : sg_cf P (n + 1) = sg_cf P n := sg_if_n q
      rw [e]
      rcases ih with h | ⟨v, h1, h2, h3⟩
      · refine Or.inl ⟨h.1, fun w hw => ?_⟩
        by_cases z : w = n
        · rw [z]
          exact fun y => q ⟨h.1, y⟩
        · exact h.2 w (by omega)
      · exact Or.inr ⟨v, by omega, h2, h3⟩
theorem sg_cf_y {P : Nat → Prop} {n v : Nat} (h1 : v < n) (h2 : P v) (h3 : ∀ w, w < v → ¬ P w) : sg_cf P n = (v : Int) := by
  rcases sg_cf_i P n with h | ⟨w, q1, q2, q3, q4⟩
  · exact absurd h2 (h.2 v h1)
  · rw [q2]
    rcases Nat.lt_trichotomy v w with z | z | z
    · exact absurd h2 (q4 v z)
    · rw [z]
    · exact absurd q3 (h3 w z)
theorem sg_cf_n {P : Nat → Prop} {n : Nat} (h3 : ∀ w, w < n → ¬ P w) : sg_cf P n = -9 := by
  rcases sg_cf_i P n with h | ⟨w, q1, q2, q3, q4⟩
  · exact h.1
  · exact absurd q3 (h3 w q1)
theorem sg_lxor {a b : Int} (ha : mv_R64 a) (hb : 0 < b ∧ b ≤ 9223372036854775807) : 0 ≤ mv_lxor a b ↔ 0 ≤ a := by
  have m : ∀ x : BitVec 64, 0 ≤ x.toInt ↔ x.msb = false := fun x => by
    rw [BitVec.msb_eq_toInt, decide_eq_false_iff_not]
    omega
  have e1 : (Int64.ofInt a).toBitVec.toInt = a := Int64.toInt_ofInt_of_le ha.1 (by have := ha.2; omega)
  have e2 : (Int64.ofInt b).toBitVec.toInt = b := Int64.toInt_ofInt_of_le (by omega) (by omega)
  show 0 ≤ ((Int64.ofInt a) ^^^ (Int64.ofInt b)).toBitVec.toInt ↔ _
  rw [Int64.toBitVec_xor, m, BitVec.msb_xor]
  have h2 : (Int64.ofInt b).toBitVec.msb = false := (m _).1 (by rw [e2]; omega)
  rw [h2, Bool.xor_false, ← m, e1]
theorem sg_fdiv {a b : Int} (hb : 0 < b) : (0 ≤ a → a.tdiv b = a / b) ∧ (a < 0 → a.tdiv b * b = a → a.tdiv b = a / b) ∧ (a < 0 → a.tdiv b * b ≠ a → a.tdiv b - 1 = a / b) := by
  refine ⟨fun h => sg_td h, fun h q => ?_, fun h q => ?_⟩
  · conv => rhs; rw [← q]
    exact (Int.mul_ediv_cancel _ (by omega)).symm
  · have h1 := Int.mul_tdiv_add_tmod a b
    have h2 : a.tmod b ≤ 0 := by
      have := Int.tmod_nonneg (a := -a) b (by omega)
      rw [Int.neg_tmod] at this
      omega
    have h3 : -b < a.tmod b := by
      have := Int.tmod_lt_of_pos (-a) hb
      rw [Int.neg_tmod] at this
      omega
    have h4 : a.tmod b ≠ 0 := fun z => q (by rw [Int.mul_comm]; omega)
    have h5 : a = b * (a.tdiv b - 1) + (a.tmod b + b) := by rw [Int.mul_sub]; omega
    conv => rhs; rw [h5]
    rw [Int.mul_add_ediv_left _ _ (by omega), Int.ediv_eq_zero_of_lt (by omega) (by omega)]
    omega
section PR
variable {S : mv_Mem} {G : mv_G} {l : Nat} {M : mv_Mem} {F : Int → mv_Mem → Prop}
theorem cl_floorDiv {a b : Int} (ha : -4000000000000 ≤ a ∧ a ≤ 4000000000000) (hb : 0 < b ∧ b ≤ 4000000000000) (h : F (a / b) M) : mv_Wp G 222 [.inr (.inl a), .inr (.inl b)] (mh l) M (mv_ql (mh l) F) := by
  refine vw_J9_floorDiv_f86c9 ?_
  obtain ⟨f1, f2, f3⟩ := sg_fdiv (a := a) hb.1
  have hd : (a.tdiv b).natAbs ≤ a.natAbs := by
    rw [Int.natAbs_tdiv]
    exact Nat.div_le_self _ _
  have hm := Int.mul_tdiv_add_tmod a b
  have hm2 := Int.tmod_lt_of_pos a hb.1
  have hm3 : -b < a.tmod b := by
    have := Int.tmod_lt_of_pos (-a) hb.1
    rw [Int.neg_tmod] at this
    omega
  have hc : a.tdiv b * b = b * a.tdiv b := Int.mul_comm _ _
  simp only [mv_cmp_ge, mv_cmp_eq]
  refine ⟨⟨by omega, by omega⟩, ?_⟩
  have hx := sg_lxor (a := a) (b := b) (by omega) (by omega)
  split
  · rename_i q
    rw [f1 (hx.1 q)]
    exact mv_ql_i h
  · rename_i q
    have hneg : a < 0 := by
      have := fun z => q (hx.2 z)
      omega
    refine ⟨by omega, ?_⟩
    split
    · rename_i q2
      rw [f2 hneg q2]
      exact mv_ql_i h
    · rename_i q2
      rw [f3 hneg q2]
      refine ⟨?_, mv_ql_i h⟩
      have := f3 hneg q2
      omega
theorem cl_minl {x y : Int} (h : F (if y < x then y else x) M) : mv_Wp G 225 [.inr (.inl x), .inr (.inl y)] (mh l) M (mv_ql (mh l) F) := by
  refine vw_J9_min_f86c9 ?_
  simp only [mv_cmp_gt]
  split
  · rename_i q
    rw [if_pos q] at h
    exact mv_ql_i h
  · rename_i q
    rw [if_neg q] at h
    exact mv_ql_i h
theorem cl_maxl {x y : Int} (h : F (if x < y then y else x) M) : mv_Wp G 224 [.inr (.inl x), .inr (.inl y)] (mh l) M (mv_ql (mh l) F) := by
  refine vw_J9_max_f86c9 ?_
  simp only [mv_cmp_lt]
  split
  · rename_i q
    rw [if_pos q] at h
    exact mv_ql_i h
  · rename_i q
    rw [if_neg q] at h
    exact mv_ql_i h
/-! another price -/
theorem sg_ys_u {c i u : Nat} {v : Int} (h : c ≠ 14) : ∀ n, sg_ys (mv_up S c i v) u n = sg_ys S u n
  | 0 => rfl
  | n + 1 => by
    unfold sg_ys
    rw [sg_ys_u h n, mv_up_n (fun q => h q.1.symm)]
theorem sg_mn_u {c i u : Nat} {v : Int} (h : c ≠ 14) (h2 : c ≠ 15) : sg_mn (mv_up S c i v) u = sg_mn S u := by
  unfold sg_mn
  rw [sg_ys_u h, mv_up_n (fun q => h2 q.1.symm)]
theorem sg_C_ys {c i j : Nat} {v : Int} (h : c ≠ 14) (h2 : c ≠ 15) (hq : M 25 j = sg_ys S j (S 15 j).toNat) : M 25 j = sg_ys (mv_up S c i v) j (mv_up S c i v 15 j).toNat := by
  rw [sg_ys_u h, mv_up_n (fun q => h2 q.1.symm)]
  exact hq
theorem sg_wf_16 (hw : sg_wf S) {i : Nat} {v : Int} (hv : 0 ≤ v ∧ v ≤ 999) : sg_wf (mv_up S 16 i v) := by
  refine ⟨hw.1, hw.2.1, hw.2.2.1, hw.2.2.2.1, hw.2.2.2.2.1, ⟨fun j hj => ?_, hw.2.2.2.2.2.1.2⟩, hw.2.2.2.2.2.2⟩
  by_cases q : j = i
  · rw [q, mv_up_s]
    exact hv
  · rw [mv_up_n (fun z => q z.2)]
    exact hw.2.2.2.2.2.1.1 j hj
theorem mv_up_sm {S M : mv_Mem} {a b i j : Nat} {v : Int} (h : M a j = S b j) : mv_up M a i v a j = mv_up S b i v b j := by
  by_cases q : j = i
  · rw [q, mv_up_s, mv_up_s]
  · rw [mv_up_n (fun z => q z.2), mv_up_n (fun z => q z.2)]
    exact h
theorem sg_C_16 (hC : sg_C 0 S M) {i : Nat} {v : Int} : sg_C 0 (mv_up S 16 i v) (mv_up M 26 i v) :=
  ⟨hC.1, hC.2.1, hC.2.2.1, hC.2.2.2.1, hC.2.2.2.2.1, fun j hj => have q := hC.2.2.2.2.2.1 j hj; ⟨q.1, q.2.1, q.2.2.1, q.2.2.2.1, q.2.2.2.2.1, q.2.2.2.2.2.1, q.2.2.2.2.2.2.1, sg_C_ys (M := M) (by decide) (by decide) q.2.2.2.2.2.2.2⟩, fun j hj => ⟨mv_up_sm (hC.2.2.2.2.2.2.1 j hj).1, (hC.2.2.2.2.2.2.1 j hj).2⟩, hC.2.2.2.2.2.2.2⟩
theorem sg_W_16 (hW : sg_W S M) {i : Nat} {v : Int} : sg_W (mv_up S 16 i v) M := hW
theorem sg_bid_16n {o i k : Nat} {v : Int} (h : o ≠ i) : sg_bid (mv_up S 16 i v) o k = sg_bid S o k := by
  have e : mv_up S 16 i v 16 o = S 16 o := mv_up_n (fun q => h q.2)
  show sg_if (sg_cg S (o / 3) (sg_wo S o k)) (100 * (sg_yl S (o / 3) (S 1 k) * (mv_up S 16 i v 16 o + sg_mn (mv_up S 16 i v) (o / 3)) - S 11 (o / 3) - S 13 (o / 3)) - sg_cr S (o / 3) (S 1 k) * sg_wo S o k) 0 = _
  rw [e, sg_mn_u (by decide) (by decide)]
  rfl
theorem sg_bid_16y {o k : Nat} {v : Int} (h : sg_cg S (o / 3) (sg_wo S o k)) : sg_bid (mv_up S 16 o v) o k = sg_bid S o k + 100 * sg_yl S (o / 3) (S 1 k) * (v - S 16 o) := by
  have e : mv_up S 16 o v 16 o = v := mv_up_s
  have e1 : sg_bid S o k = sg_wt S o (S 1 k) - sg_cr S (o / 3) (S 1 k) * sg_wo S o k := sg_if_y h
  have e2 : sg_bid (mv_up S 16 o v) o k = 100 * (sg_yl S (o / 3) (S 1 k) * (mv_up S 16 o v 16 o + sg_mn (mv_up S 16 o v) (o / 3)) - S 11 (o / 3) - S 13 (o / 3)) - sg_cr S (o / 3) (S 1 k) * sg_wo S o k := sg_if_y h
  rw [e2, e1, e, sg_mn_u (by decide) (by decide)]
  unfold sg_wt
  have h1 : sg_yl S (o / 3) (S 1 k) * (v + sg_mn S (o / 3)) = sg_yl S (o / 3) (S 1 k) * (S 16 o + sg_mn S (o / 3)) + sg_yl S (o / 3) (S 1 k) * (v - S 16 o) := by
    rw [← Int.mul_add]
    congr 1
    omega
  have h2 : 100 * sg_yl S (o / 3) (S 1 k) * (v - S 16 o) = 100 * (sg_yl S (o / 3) (S 1 k) * (v - S 16 o)) := Int.mul_assoc _ _ _
  rw [h1, h2]
  omega
theorem sg_bid_16c {o k : Nat} {v : Int} (h : ¬ sg_cg S (o / 3) (sg_wo S o k)) : sg_bid (mv_up S 16 o v) o k = 0 := sg_if_n h
theorem sg_g_16 {o k : Nat} {v : Int} : ∀ n, sg_g (mv_up S 16 o v) o k n = sg_g S o k n
  | 0 => rfl
  | n + 1 => by
    show (if ((n % 3 : Nat) : Int) < S 0 2 ∧ (n : Int) ≠ (o : Int) ∧ (sg_g (mv_up S 16 o v) o k n).2 < sg_bid (mv_up S 16 o v) n k then ((n : Int), sg_bid (mv_up S 16 o v) n k) else sg_g (mv_up S 16 o v) o k n) = (if ((n % 3 : Nat) : Int) < S 0 2 ∧ (n : Int) ≠ (o : Int) ∧ (sg_g S o k n).2 < sg_bid S n k then ((n : Int), sg_bid S n k) else sg_g S o k n)
    rw [sg_g_16 n]
    by_cases q : n = o
    · rw [if_neg (fun z => z.2.1 (by omega)), if_neg (fun z => z.2.1 (by omega))]
    · rw [sg_bid_16n q]
theorem cl_leastPriceFor (hw : sg_wf S) (hC : sg_C 0 S M) (hW : sg_W S M) (hB : sg_Bd S M) {o k : Nat} (ho : o < 18) (hou : (o : Int) < 3 * S 0 3) (hm : ((o % 3 : Nat) : Int) < S 0 2) (hk : sg_ok S k) (hy : M 74 (sg_pl S k) = sg_yl S (o / 3) (S 1 k))
    (h : ∀ x, 0 ≤ x → x ≤ 1000 → (∀ v, 0 ≤ v → v ≤ 999 → 0 < sg_yl S (o / 3) (S 1 k) → (x ≤ v ↔ sg_go (mv_up S 16 o v) o k)) → F x M) :
    mv_Wp G 52 [.inr (.inr 72), .inr (.inr 6), .inl (o : Int), .inl (sg_pl S k : Int)] (mh l) M (mv_qi (mh l) F) := by
  refine vw_X6_leastPriceFor ?_
  have hp := (sg_pl_lt hw hk).2
  have c1 : M 13 (sg_pl S k) = S 4 k := (hC.2.1 k hk).2.2.2.2.1
  have c2 : M 26 o = S 16 o := (hC.2.2.2.2.2.2.1 o ho).1
  have e1 : Int.tdiv (o : Int) 3 = ((o / 3 : Nat) : Int) := by rw [sg_td (by omega)]; omega
  have hyb := sg_yl_b hw (show o / 3 < 6 by omega) (sg_s1 hw hk)
  have hbb := sg_bid_b hw ho hm hk
  have hpr := (sg_w16 hw ho).1
  have hb := hB o k hou hm hk
  have e2 : Int.toNat ((o : Int) * 48 + (sg_pl S k : Int)) = 48 * o + sg_pl S k := by omega
  refine cl_wayOf hw hC hW ho hm hk ?_
  rw [Int.toNat_natCast, c1, hy, e1, e2, Int.toNat_natCast]
  refine ⟨by omega, ?_⟩
  split
  case isFalse q0 =>
    refine mv_qi_i (h 1000 (by omega) (by omega) (fun v h0 h9 _ => ⟨fun z => by omega, fun z => absurd z.1 q0⟩))
  rename_i q0
  refine ⟨by omega, ?_⟩
  split
  · rename_i q1
    exact mv_qi_i (h 1000 (by omega) (by omega) (fun v h0 h9 hyp => by omega))
  rename_i q1
  refine ⟨⟨by decide, by omega⟩, cl_canGo hC (by omega) (fun hg => ?_) (fun hg => ?_)⟩
  case refine_2 =>
    rw [if_pos rfl]
    exact mv_qi_i (h 1000 (by omega) (by omega) (fun v h0 h9 _ => ⟨fun z => by omega, fun z => by
      have z2 := z.2.1
      rw [sg_bid_16c hg] at z2
      omega⟩))
  rw [if_neg (by decide)]
  -- what is needed at least
  have fin : ∀ need : Int, 0 < need → need ≤ 160000001 → (∀ b : Int, need ≤ b ↔ (0 < b ∧ ((sg_g S o k (3 * (S 0 3).toNat)).2 < b ∨ (b = (sg_g S o k (3 * (S 0 3).toNat)).2 ∧ (o : Int) < (sg_g S o k (3 * (S 0 3).toNat)).1)))) →
      mv_R64 (need - sg_bid S o k) ∧ (0 ≤ (o : Int) ∧ (o : Int) < ((18 : Nat) : Int)) ∧ mv_R64 (-(need - sg_bid S o k)) ∧ (0 ≤ (sg_pl S k : Int) ∧ (sg_pl S k : Int) < ((48 : Nat) : Int)) ∧ mv_R64 (100 * sg_yl S (o / 3) (S 1 k)) ∧
      mv_Wp G 222 [.inr (.inl (-(need - sg_bid S o k))), .inr (.inl (100 * sg_yl S (o / 3) (S 1 k)))] (mh l) M (mv_ql (mh l) fun x4 M4 =>
        mv_R64 (S 16 o - x4) ∧
        mv_Wp G 225 [.inr (.inl 1000), .inr (.inl (S 16 o - x4))] (mh l) M4 (mv_ql (mh l) fun x5 M5 =>
        mv_Wp G 224 [.inr (.inl 0), .inr (.inl x5)] (mh l) M5 (mv_ql (mh l) fun x6 M6 =>
        mv_R32 x6 ∧ mv_qi (mh l) F (some (.inl x6)) (mh l) M6))) := by
    intro need hn0 hn1 hn2
    refine ⟨by omega, by omega, by omega, by omega, by omega, cl_floorDiv (by omega) (by omega) ?_⟩
    have hD : 0 < 100 * sg_yl S (o / 3) (S 1 k) := by omega
    have hq1 := Int.mul_ediv_self_le (x := -(need - sg_bid S o k)) (k := 100 * sg_yl S (o / 3) (S 1 k)) (by omega)
    have hq2 := Int.lt_mul_ediv_self_add (x := -(need - sg_bid S o k)) hD
    have hg2 : ∀ v : Int, S 16 o - (-(need - sg_bid S o k)) / (100 * sg_yl S (o / 3) (S 1 k)) ≤ v ↔ need ≤ sg_bid S o k + 100 * sg_yl S (o / 3) (S 1 k) * (v - S 16 o) := by
      intro v
      generalize hqq : (-(need - sg_bid S o k)) / (100 * sg_yl S (o / 3) (S 1 k)) = qq
      have t : qq ≥ S 16 o - v ↔ (S 16 o - v) * (100 * sg_yl S (o / 3) (S 1 k)) ≤ -(need - sg_bid S o k) := by
        rw [← hqq]
        exact Int.le_ediv_iff_mul_le hD
      have t2 : (S 16 o - v) * (100 * sg_yl S (o / 3) (S 1 k)) = -(100 * sg_yl S (o / 3) (S 1 k) * (v - S 16 o)) := by
        rw [Int.mul_comm, ← Int.mul_neg]
        congr 1
        omega
      rw [t2] at t
      constructor
      · intro z
        have := t.1 (by omega)
        omega
      · intro z
        have := t.2 (by omega)
        omega
    have hbig : ((-(need - sg_bid S o k)) / (100 * sg_yl S (o / 3) (S 1 k))).natAbs ≤ 600000000 := by
      have a1 : (-600000000 : Int) ≤ (-(need - sg_bid S o k)) / (100 * sg_yl S (o / 3) (S 1 k)) := (Int.le_ediv_iff_mul_le hD).2 (by
        have : (600000000 : Int) * 1 ≤ 600000000 * (100 * sg_yl S (o / 3) (S 1 k)) := Int.mul_le_mul_of_nonneg_left (by omega) (by omega)
        rw [Int.neg_mul]
        omega)
      have a2 : (-(need - sg_bid S o k)) / (100 * sg_yl S (o / 3) (S 1 k)) < 600000000 := (Int.ediv_lt_iff_lt_mul hD).2 (by
        have : (600000000 : Int) * 1 ≤ 600000000 * (100 * sg_yl S (o / 3) (S 1 k)) := Int.mul_le_mul_of_nonneg_left (by omega) (by omega)
        omega)
      omega
    generalize hz : S 16 o - (-(need - sg_bid S o k)) / (100 * sg_yl S (o / 3) (S 1 k)) = z at hg2
    refine ⟨by omega, cl_minl (cl_maxl ?_)⟩
    have hgo : ∀ v, sg_go (mv_up S 16 o v) o k ↔ z ≤ v := by
      intro v
      rw [hg2 v, hn2, ← sg_bid_16y hg]
      unfold sg_go
      rw [show (3 * (mv_up S 16 o v 0 3).toNat) = 3 * (S 0 3).toNat from rfl, sg_g_16]
      exact ⟨fun y => y.2, fun y => ⟨q0, y⟩⟩
    refine ⟨?_, mv_qi_i (h _ ?_ ?_ (fun v h0 h9 _ => ?_))⟩
    · split <;> split <;> omega
    · split <;> split <;> omega
    · split <;> split <;> omega
    · rw [hgo v]
      split <;> split <;> omega
  refine cl_greatest hw hC hB hk (by omega) ?_
  rw [hb, hy, c2]
  rcases sg_g_i S o k (3 * (S 0 3).toNat) with hgi | ⟨j, j1, j2, j3, j4, j5⟩
  · rw [hgi, if_pos rfl]
    rw [hgi] at fin
    refine ⟨by omega, by omega, by omega, fin 1 (by omega) (by omega) (fun b => ?_)⟩
    show _ ↔ 0 < b ∧ (0 < b ∨ (b = 0 ∧ (o : Int) < -1))
    omega
  · have hu := sg_nu hw
    have hbj := hB j k (by omega) j2 hk
    have hbjb := sg_bid_b hw (show j < 18 by omega) j2 hk
    rw [j4] at fin ⊢
    have hF : ∀ need : Int, (∀ b : Int, need ≤ b ↔ 0 < b ∧ (sg_bid S j k < b ∨ (b = sg_bid S j k ∧ (o : Int) < (j : Int)))) → (0 < need → need ≤ 160000001 → _) := fun need hn a b => fin need a b hn
    show (if (j : Int) = -1 then _ else _)
    rw [if_neg (by omega), show Int.toNat ((j : Int) * 48 + (sg_pl S k : Int)) = 48 * j + sg_pl S k by omega, hbj]
    refine ⟨by omega, by omega, by omega, ?_⟩
    split
    · rename_i q
      exact ⟨by omega, by omega, by omega, by omega, fin _ (by omega) (by omega) (fun b => by
        show _ ↔ 0 < b ∧ (sg_bid S j k < b ∨ (b = sg_bid S j k ∧ (o : Int) < (j : Int)))
        omega)⟩
    · rename_i q
      exact ⟨by omega, by omega, by omega, by omega, fin _ (by omega) (by omega) (fun b => by
        show _ ↔ 0 < b ∧ (sg_bid S j k < b ∨ (b = sg_bid S j k ∧ (o : Int) < (j : Int)))
        omega)⟩
end PR
end
section
/-! THE CLASS's CLEARING PRICE, BY HALVING -/
section CL
variable {S : mv_Mem} {G : mv_G} {l : Nat} {M : mv_Mem} {F : Int → mv_Mem → Prop}
theorem sg_fo_S {S' : mv_Mem} {f : Nat → Int → Int} {a : Int} (h : ∀ k, sg_ok S' k = sg_ok S k) : ∀ n, sg_fo S' f a n = sg_fo S f a n
  | 0 => rfl
  | n + 1 => by
    show sg_if (sg_ok S' n) _ _ = sg_if (sg_ok S n) _ _
    rw [sg_fo_S h n, h n]
theorem sg_fo_mono {f g : Nat → Int → Int} {a : Int} (h : ∀ k x y, sg_ok S k → x ≤ y → f k x ≤ g k y) : ∀ n, sg_fo S f a n ≤ sg_fo S g a n
  | 0 => Int.le_refl _
  | n + 1 => by
    by_cases q : sg_ok S n
    · rw [sg_fo_s q, sg_fo_s q]
      exact h n _ _ q (sg_fo_mono h n)
    · rw [sg_fo_n q, sg_fo_n q]
      exact sg_fo_mono h n
theorem sg_bs_mono (hw : sg_wf S) {v w : Int} (h : v ≤ w) : ∀ (n i : Nat), i + n ≤ 108 → sg_bs S w n i ≤ sg_bs S v n i
  | 0, _, _ => Int.le_refl _
  | n + 1, i, hi => by
    have h1 := sg_bs_mono hw h n (i + 1) (by omega)
    have h2 := sg_w17 hw (show i < 108 by omega)
    unfold sg_bs
    split <;> split <;> omega
theorem sg_bo_mono (hw : sg_wf S) {o : Nat} (ho : o < 18) {v w : Int} (h : v ≤ w) : sg_bo S o w ≤ sg_bo S o v := by
  have := (sg_w16 hw ho).2
  exact sg_bs_mono hw h _ _ (by omega)
/-- what lies in the cells 73, 74: least prices, yields -/
def sg_lp (S M : mv_Mem) (o k : Nat) : Prop := (0 ≤ M 73 (sg_pl S k) ∧ M 73 (sg_pl S k) ≤ 1000) ∧ M 74 (sg_pl S k) = sg_yl S (o / 3) (S 1 k) ∧ ∀ v, 0 ≤ v → v ≤ 999 → 0 < sg_yl S (o / 3) (S 1 k) → (M 73 (sg_pl S k) ≤ v ↔ sg_go (mv_up S 16 o v) o k)
def sg_cmf (S M : mv_Mem) (o : Nat) (v : Int) : Nat → Int → Int := fun k x => if v < M 73 (sg_pl S k) then x else x + sg_yl S (o / 3) (S 1 k)
theorem sg_cm_e (hw : sg_wf S) {o : Nat} (ho : o < 18) (hl : ∀ k, sg_ok S k → sg_lp S M o k) {v : Int} (h0 : 0 ≤ v) (h9 : v ≤ 999) : sg_fo S (sg_cmf S M o v) 0 48 = sg_cm (mv_up S 16 o v) o := by
  unfold sg_cm
  rw [sg_fo_S (S := S) (S' := mv_up S 16 o v) (fun k => rfl)]
  refine sg_fo_c (fun k x hk => ?_) 48
  obtain ⟨l1, l2, l3⟩ := hl k hk
  have hy := sg_yl_b hw (show o / 3 < 6 by omega) (sg_s1 hw hk)
  show (if v < M 73 (sg_pl S k) then x else x + sg_yl S (o / 3) (S 1 k)) = sg_if (sg_go (mv_up S 16 o v) o k) (x + sg_yl S (o / 3) (S 1 k)) x
  by_cases z : 0 < sg_yl S (o / 3) (S 1 k)
  · have l4 := l3 v h0 h9 z
    split
    · rename_i q
      rw [sg_if_n (fun y => by have := l4.2 y; omega)]
    · rename_i q
      rw [sg_if_y (l4.1 (by omega))]
  · rw [show sg_yl S (o / 3) (S 1 k) = 0 by omega, Int.add_zero]
    unfold sg_if
    split <;> split <;> rfl
theorem cl_comingAt (hw : sg_wf S) {o : Nat} (ho : o < 18) {n48 : Nat} (hn1 : (n48 : Int) = S 0 0 * S 0 1) (hl : ∀ k, sg_ok S k → sg_lp S M o k) {v : Int} (h0 : 0 ≤ v) (h9 : v ≤ 999) (h : F (sg_cm (mv_up S 16 o v) o) M) : mv_Wp G 51 [.inr (.inr 72), .inl v, .inl (n48 : Int)] (mh l) M (mv_qi (mh l) F) := by
  rw [← sg_cm_e hw ho hl h0 h9] at h
  have hn2 : n48 ≤ 48 := by
    obtain ⟨n, q1, q2⟩ := sg_n48 hw
    omega
  have hb := fun n hn => sg_fp_b (f := sg_cmf S M o v) (a := 0) hw (b := 990) (by omega) (fun k x hk => by have := sg_yl_b hw (show o / 3 < 6 by omega) (sg_s1 hw hk); unfold sg_cmf; split <;> omega) n hn
  have key : ∀ (n p : Nat), p + n = n48 → mv_Run G 51 87 4749 5 [(0, .inr (.inr 72)), (1, .inl v), (2, .inl (n48 : Int)), (3, .inl (sg_fp S (sg_cmf S M o v) 0 p)), (4, .inl (p : Int))] [] (mh l) M (mv_qi (mh l) F) := by
    intro n
    induction n with
    | zero =>
      intro p hp
      refine vr_X6_comingAt_5 ?_
      rw [if_pos (by omega), show p = n48 by omega, ← sg_fo_fp hw hn1]
      exact mv_qi_i h
    | succ n ih =>
      intro p hp
      refine vr_X6_comingAt_5 ?_
      obtain ⟨k, hk, rfl⟩ := sg_pl_sur hw (p := p) (by omega)
      obtain ⟨l1, l2, l3⟩ := hl k hk
      have h1 := hb (sg_pl S k) (by omega)
      have h2 := sg_yl_b hw (show o / 3 < 6 by omega) (sg_s1 hw hk)
      have e := sg_fp_pl (f := sg_cmf S M o v) (a := 0) hw hk
      have K := ih (sg_pl S k + 1) (by omega)
      rw [e] at K
      unfold sg_cmf at K
      rw [if_neg (by omega), Int.toNat_natCast, l2]
      refine ⟨by omega, ?_⟩
      split
      · rename_i q
        rw [if_pos q] at K
        exact ⟨by omega, K⟩
      · rename_i q
        rw [if_neg q] at K
        exact ⟨by omega, by omega, by omega, K⟩
  refine vw_X6_comingAt ?_
  exact key n48 0 (by omega)
theorem sg_Bd_fr {M' : mv_Mem} (hB : sg_Bd S M) (h : ∀ i, M' 42 i = M 42 i) : sg_Bd S M' := fun o k h1 h2 h3 => (h _).trans (hB o k h1 h2 h3)
theorem sg_Tk_fr {M' : mv_Mem} (hT : sg_Tk S M) (h : ∀ i, M' 43 i = M 43 i) : sg_Tk S M' := fun k h3 => (h _).trans (hT k h3)
theorem cl_clearingPrice (hw : sg_wf S) {M0 : mv_Mem} (hC : sg_C 0 S M0) (hW : sg_W S M0) (hB : sg_Bd S M0) {o : Nat} (ho : o < 18) (hou : (o : Int) < 3 * S 0 3) (hm : ((o % 3 : Nat) : Int) < S 0 2)
    (h : ∀ M, (∀ a i, a ≠ 73 → a ≠ 74 → M a i = M0 a i) → F (sg_clr S o) M) : mv_Wp G 50 [.inr (.inr 72), .inr (.inr 6), .inl (o : Int)] (mh l) M0 (mv_qi (mh l) F) := by
  obtain ⟨n48, hn1, hn2⟩ := sg_n48 hw
  have e1 : Int.tdiv (o : Int) 3 = ((o / 3 : Nat) : Int) := by rw [sg_td (by omega)]; omega
  -- the halving
  have half : ∀ (M : mv_Mem), (∀ a i, a ≠ 73 → a ≠ 74 → M a i = M0 a i) → (∀ k, sg_ok S k → sg_lp S M o k) → ∀ (j : Nat) (t : Int), j ≤ 10 → (t = -1 ∨ (0 ≤ t ∧ t ≤ 999 ∧ sg_cm (mv_up S 16 o t) o < sg_bo S o t)) → (∀ w, 0 ≤ w → w ≤ 999 → t + ((2 ^ j : Nat) : Int) ≤ w → ¬ sg_cm (mv_up S 16 o w) o < sg_bo S o w) →
      mv_Run G 50 87 4749 80 [(0, .inr (.inr 72)), (2, .inl (o : Int)), (3, .inr (.inr 8)), (4, .inr (.inr 17)), (5, .inl t), (6, .inl ((2 ^ j / 2 : Nat) : Int))] [] (mh l) M (mv_qi (mh l) F) := by
    intro M hfr hl j
    have hCM : sg_C 0 S M := sg_C_fr hC (fun c h1 h2 i => hfr c i (by omega) (by omega))
    have c2 : M 8 2 = (n48 : Int) := hCM.1.2.2.1.trans hn1.symm
    have mono : ∀ v w : Int, 0 ≤ v → v ≤ w → w ≤ 999 → sg_cm (mv_up S 16 o w) o < sg_bo S o w → sg_cm (mv_up S 16 o v) o < sg_bo S o v := by
      intro v w h0 h1 h9 hlt
      have a1 := sg_bo_mono hw ho h1
      have a2 : sg_fo S (sg_cmf S M o v) 0 48 ≤ sg_fo S (sg_cmf S M o w) 0 48 := sg_fo_mono (fun k x y hk hxy => by
        have := sg_yl_b hw (show o / 3 < 6 by omega) (sg_s1 hw hk)
        unfold sg_cmf
        split <;> split <;> omega) 48
      rw [sg_cm_e hw ho hl h0 (by omega), sg_cm_e hw ho hl (by omega) h9] at a2
      omega
    induction j with
    | zero =>
      intro t hj ht hup
      refine vr_X6_clearingPrice_80 ?_
      rw [if_pos (by decide)]
      have hall : ∀ w : Nat, (w : Int) ≤ t → ¬ sg_bo S o (w : Int) ≤ sg_cm (mv_up S 16 o (w : Int)) o := by
        intro w hwt
        rcases ht with z | ⟨z1, z2, z3⟩
        · omega
        · have := mono (w : Int) t (by omega) hwt z2 z3
          omega
      split
      · rename_i q
        have e : sg_clr S o = -9 := sg_cf_n (fun w hw1 => hall w (by omega))
        have hh := h M hfr
        rw [e] at hh
        exact mv_qi_i hh
      · rename_i q
        obtain ⟨v, hv⟩ := sg_nat (show 0 ≤ t + 1 by omega)
        have e : sg_clr S o = (v : Int) := sg_cf_y (by omega) (by
          have := hup (v : Int) (by omega) (by omega) (by omega)
          show sg_bo S o (v : Int) ≤ sg_cm (mv_up S 16 o (v : Int)) o
          omega) (fun w hw1 => hall w (by omega))
        have hh := h M hfr
        rw [e, ← hv] at hh
        exact ⟨by omega, mv_qi_i hh⟩
    | succ j ih =>
      intro t hj ht hup
      refine vr_X6_clearingPrice_80 ?_
      have e2 : 2 ^ (j + 1) / 2 = 2 ^ j := by rw [Nat.pow_succ]; omega
      have hpos : 0 < 2 ^ j := Nat.pow_pos (by decide)
      have hle : 2 ^ j ≤ 2 ^ 9 := Nat.pow_le_pow_right (by decide) (by omega)
      have e4 : ((2 ^ (j + 1) : Nat) : Int) = 2 * ((2 ^ j : Nat) : Int) := by rw [Nat.pow_succ, Int.natCast_mul, Int.mul_comm]; rfl
      rw [e4] at hup
      rw [e2]
      clear e2 e4
      generalize hS : 2 ^ j = s at *
      have e3 : Int.tdiv ((s : Nat) : Int) 2 = ((s / 2 : Nat) : Int) := by rw [sg_td (by omega)]; omega
      rw [e3]
      rw [if_neg (by omega)]
      refine ⟨by omega, ?_⟩
      split
      · rename_i q
        exact ⟨⟨by decide, by omega⟩, ih t (by omega) ht (fun w h0 h9 hge => by omega)⟩
      · rename_i q
        rw [c2]
        refine cl_comingAt hw ho hn1 hl (by omega) (by omega) (cl_boughtAt hw hCM ho ?_)
        split
        · rename_i q2
          refine ⟨⟨by decide, by omega⟩, ih t (by omega) ht (fun w h0 h9 hge hlt => ?_)⟩
          have := mono (t + (s : Int)) w (by omega) hge h9 hlt
          omega
        · rename_i q2
          exact ⟨⟨by decide, by omega⟩, ih (t + (s : Int)) (by omega) (Or.inr ⟨by omega, by omega, by omega⟩) (fun w h0 h9 hge => hup w h0 h9 (by omega))⟩
  have key : ∀ (n p : Nat) (M : mv_Mem), p + n = n48 → (∀ a i, a ≠ 73 → a ≠ 74 → M a i = M0 a i) → (∀ k, sg_ok S k → sg_pl S k < p → sg_lp S M o k) →
      mv_Run G 50 87 4749 20 [(0, .inr (.inr 72)), (1, .inr (.inr 6)), (2, .inl (o : Int)), (3, .inr (.inr 8)), (4, .inr (.inr 17)), (5, .inl (p : Int))] [] (mh l) M (mv_qi (mh l) F) := by
    intro n
    induction n with
    | zero =>
      intro p M hp hfr hd
      refine vr_X6_clearingPrice_20 ?_
      have c2 : M 8 2 = (n48 : Int) := ((hfr 8 2 (by decide) (by decide)).trans hC.1.2.2.1).trans hn1.symm
      rw [c2, if_pos (by omega)]
      exact half M hfr (fun k hk => hd k hk (by have := (sg_pl_lt hw hk).1; omega)) 10 (-1) (by omega) (Or.inl rfl) (fun w h0 h9 hge => by
        have : ((2 ^ 10 : Nat) : Int) = 1024 := rfl
        omega)
    | succ n ih =>
      intro p M hp hfr hd
      refine vr_X6_clearingPrice_20 ?_
      have hCM : sg_C 0 S M := sg_C_fr hC (fun c h1 h2 i => hfr c i (by omega) (by omega))
      have c2 : M 8 2 = (n48 : Int) := hCM.1.2.2.1.trans hn1.symm
      obtain ⟨k, hk, rfl⟩ := sg_pl_sur hw (p := p) (by omega)
      have hq := (sg_pl_lt hw hk).2
      have c3 : M 10 (sg_pl S k) = S 1 k := (hCM.2.1 k hk).2.1
      rw [c2, if_neg (by omega), Int.toNat_natCast, c3, e1]
      refine ⟨⟨by decide, by omega⟩, by omega, cl_yieldOn hw hCM (by omega) (sg_s1 hw hk) ⟨by omega, ?_⟩⟩
      have hfr1 : ∀ a i, a ≠ 73 → a ≠ 74 → (mv_up M 74 (sg_pl S k) (sg_yl S (o / 3) (S 1 k))) a i = M0 a i := fun a i a1 a2 => by rw [mv_up_n (fun z => a2 z.1)]; exact hfr a i a1 a2
      refine cl_leastPriceFor hw (sg_C_fr hC (fun c h1 h2 i => hfr1 c i (by omega) (by omega))) (sg_W_fr hW (fun c h1 h2 _ i => hfr1 c i (by omega) (by omega))) (sg_Bd_fr hB (fun i => hfr1 42 i (by decide) (by decide))) ho hou hm hk mv_up_s (fun x x0 x1 hx => ⟨by omega, by omega, ih (sg_pl S k + 1) _ (by omega) (fun a i a1 a2 => by rw [mv_up_n (fun z => a1 z.1)]; exact hfr1 a i a1 a2) (fun j hj hlt => ?_)⟩)
      by_cases q : j = k
      · subst q
        refine ⟨?_, ?_, ?_⟩
        · rw [mv_up_s]
          omega
        · rw [mv_up_n (fun z => by omega), mv_up_s]
        · rw [mv_up_s]
          exact hx
      · have hne : sg_pl S j ≠ sg_pl S k := fun z => q (sg_pl_inj hw hj hk z)
        have g1 : (mv_up (mv_up M 74 (sg_pl S k) (sg_yl S (o / 3) (S 1 k))) 73 (sg_pl S k) x) 73 (sg_pl S j) = M 73 (sg_pl S j) := by rw [mv_up_n (fun z => hne z.2), mv_up_n (fun z => hne z.2)]
        have g2 : (mv_up (mv_up M 74 (sg_pl S k) (sg_yl S (o / 3) (S 1 k))) 73 (sg_pl S k) x) 74 (sg_pl S j) = M 74 (sg_pl S j) := by rw [mv_up_n (fun z => hne z.2), mv_up_n (fun z => hne z.2)]
        unfold sg_lp
        rw [g1, g2]
        exact hd j hj (by omega)
  refine vw_X6_clearingPrice ?_
  exact key n48 0 M0 (by omega) (fun _ _ _ _ => rfl) (fun _ _ hlt => by omega)
end CL
end
section
/-! THE CLASS's ROUNDS, WHAT IT HOLDS, WHAT FALLS -/
def sg_rc (S : mv_Mem) (n : Nat) : Prop := 0 < S 19 n ∧ ((n % 3 : Nat) : Int) < S 0 2
noncomputable def sg_r1 (S : mv_Mem) (n : Nat) : mv_Mem × Int := if (0 < S 19 n ∧ ((n % 3 : Nat) : Int) < S 0 2) ∧ sg_clr S n ≠ -9 ∧ sg_clr S n ≠ S 16 n then (mv_up S 16 n (sg_clr S n), 1) else (S, 0)
/-- a round over the first n offers: the state behind it, whether a price changed -/
noncomputable def sg_ro (S : mv_Mem) : Nat → mv_Mem × Int
  | 0 => (S, 0)
  | n + 1 => ((sg_r1 (sg_ro S n).1 n).1, if (sg_r1 (sg_ro S n).1 n).2 = 1 then 1 else (sg_ro S n).2)
noncomputable def sg_rd (S : mv_Mem) : mv_Mem × Int := sg_ro S (3 * (S 0 3).toNat)
/-- at most n rounds: the state, how many went -/
noncomputable def sg_rn (S : mv_Mem) : Nat → mv_Mem × Int
  | 0 => (S, 0)
  | n + 1 => if (sg_rd S).2 = 0 then ((sg_rd S).1, 1) else ((sg_rn (sg_rd S).1 n).1, (sg_rn (sg_rd S).1 n).2 + 1)
/-- an owner's rents behind a round -/
noncomputable def sg_rb (S : mv_Mem) (w : Int) : Int := sg_own (sg_rd S).1 w
noncomputable def sg_hd (S : mv_Mem) (w : Int) : Nat → Int × Int
  | 0 => (sg_rb S w, -9)
  | n + 1 => if 0 ≤ sg_ac S n ∧ S 3 (sg_ac S n).toNat = w ∧ sg_tk S (sg_ac S n).toNat ≠ -1 ∧ (sg_hd S w n).1 < sg_rb (mv_up S 4 (sg_ac S n).toNat 1) w then (sg_rb (mv_up S 4 (sg_ac S n).toNat 1) w, (n : Int)) else sg_hd S w n
/-- S' is S but for prices -/
def sg_pq (S S' : mv_Mem) : Prop := ∀ a i, a ≠ 16 → S' a i = S a i
section RO
variable {S : mv_Mem} {G : mv_G} {l : Nat} {M : mv_Mem} {F : Int → mv_Mem → Prop}
theorem sg_clr_b (S : mv_Mem) (n : Nat) : sg_clr S n = -9 ∨ (0 ≤ sg_clr S n ∧ sg_clr S n ≤ 999) := by
  rcases sg_cf_i (fun v => sg_bo S n (v : Int) ≤ sg_cm (mv_up S 16 n (v : Int)) n) 1000 with h | ⟨v, h1, h2, h3⟩
  · exact Or.inl h.1
  · refine Or.inr ?_
    show 0 ≤ sg_cf _ 1000 ∧ sg_cf _ 1000 ≤ 999
    rw [h2]
    omega
theorem sg_r1_i (S : mv_Mem) (n : Nat) : (sg_r1 S n = (S, 0) ∨ ∃ v, 0 ≤ v ∧ v ≤ 999 ∧ sg_r1 S n = (mv_up S 16 n v, 1)) := by
  unfold sg_r1
  split
  · rename_i q
    rcases sg_clr_b S n with z | z
    · exact absurd z q.2.1
    · exact Or.inr ⟨_, z.1, z.2, rfl⟩
  · exact Or.inl rfl
theorem sg_ro_wf (hw : sg_wf S) : ∀ n, sg_wf (sg_ro S n).1
  | 0 => hw
  | n + 1 => by
    show sg_wf (sg_r1 (sg_ro S n).1 n).1
    rcases sg_r1_i (sg_ro S n).1 n with h | ⟨v, h0, h1, h⟩
    · rw [h]
      exact sg_ro_wf hw n
    · rw [h]
      exact sg_wf_16 (sg_ro_wf hw n) ⟨h0, h1⟩
theorem sg_ro_pq (S : mv_Mem) : ∀ n, sg_pq S (sg_ro S n).1
  | 0 => fun _ _ _ => rfl
  | n + 1 => by
    intro a i ha
    show (sg_r1 (sg_ro S n).1 n).1 a i = S a i
    rcases sg_r1_i (sg_ro S n).1 n with h | ⟨v, h0, h1, h⟩
    · rw [h]
      exact sg_ro_pq S n a i ha
    · rw [h]
      exact (mv_up_n (fun z => ha z.1)).trans (sg_ro_pq S n a i ha)
theorem sg_ro_01 (S : mv_Mem) : ∀ n, (sg_ro S n).2 = 0 ∨ (sg_ro S n).2 = 1
  | 0 => Or.inl rfl
  | n + 1 => by
    show (if (sg_r1 (sg_ro S n).1 n).2 = 1 then (1 : Int) else (sg_ro S n).2) = 0 ∨ (if (sg_r1 (sg_ro S n).1 n).2 = 1 then (1 : Int) else (sg_ro S n).2) = 1
    split
    · exact Or.inr rfl
    · exact sg_ro_01 S n
theorem sg_rd_wf (hw : sg_wf S) : sg_wf (sg_rd S).1 := sg_ro_wf hw _
/-- cells that a round leaves as they are -/
def sg_ru (M0 M : mv_Mem) : Prop := ∀ a i, a ≠ 26 → a ≠ 42 → a ≠ 73 → a ≠ 74 → M a i = M0 a i
theorem cl_runRound (hw : sg_wf S) {M0 : mv_Mem} (hC : sg_C 0 S M0) (hW : sg_W S M0) (hB : sg_Bd S M0)
    (h : ∀ M, sg_ru M0 M → sg_C 0 (sg_rd S).1 M → sg_W (sg_rd S).1 M → sg_Bd (sg_rd S).1 M → F (sg_rd S).2 M) : mv_Wp G 54 [.inr (.inr 72), .inr (.inr 6)] (mh l) M0 (mv_qi (mh l) F) := by
  have hu := sg_nu hw
  have key : ∀ (n o : Nat) (M : mv_Mem), o + n = 3 * (S 0 3).toNat → sg_ru M0 M → sg_C 0 (sg_ro S o).1 M → sg_W (sg_ro S o).1 M → sg_Bd (sg_ro S o).1 M →
      mv_Run G 54 87 4749 13 [(0, .inr (.inr 72)), (1, .inr (.inr 6)), (2, .inr (.inr 17)), (3, .inl (sg_ro S o).2), (4, .inl (o : Int))] [] (mh l) M (mv_qi (mh l) F) := by
    intro n
    induction n with
    | zero =>
      intro o M hn hfr hC hW hB
      refine vr_X6_runRound_13 ?_
      have c1 : M 17 0 = S 0 3 := hC.2.2.2.2.1.1.trans (sg_ro_pq S o 0 3 (by decide))
      have e : o = 3 * (S 0 3).toNat := by omega
      rw [c1, if_pos (by omega)]
      refine ⟨by omega, sg_ro_01 S o, mv_qi_i ?_⟩
      subst e
      exact h M hfr hC hW hB
    | succ n ih =>
      intro o M hn hfr hC hW hB
      refine vr_X6_runRound_13 ?_
      have hwo := sg_ro_wf hw o
      have pq := sg_ro_pq S o
      have hnu : (sg_ro S o).1 0 3 = S 0 3 := pq 0 3 (by decide)
      have ho : o < 18 := by omega
      have c1 : M 17 0 = S 0 3 := hC.2.2.2.2.1.1.trans hnu
      have c2 : M 8 4 = (sg_ro S o).1 0 2 := hC.1.2.2.2.2
      have c3 : M 27 o = (sg_ro S o).1 19 o := (hC.2.2.2.2.2.2.1 o ho).2
      have e2 : Int.tmod (o : Int) 3 = ((o % 3 : Nat) : Int) := by rw [sg_tm (by omega)]; omega
      have K := ih (o + 1)
      have e3 : sg_ro S (o + 1) = ((sg_r1 (sg_ro S o).1 o).1, if (sg_r1 (sg_ro S o).1 o).2 = 1 then 1 else (sg_ro S o).2) := rfl
      rw [e3] at K
      unfold sg_r1 at K
      rw [c1, if_neg (by omega), Int.toNat_natCast, c3, c2, e2]
      generalize sg_ro S o = R at hC hW hB hwo pq c2 c3 K hnu
      refine ⟨by omega, by omega, ?_⟩
      have skip : ¬ ((0 < R.1 19 o ∧ ((o % 3 : Nat) : Int) < R.1 0 2) ∧ sg_clr R.1 o ≠ -9 ∧ sg_clr R.1 o ≠ R.1 16 o) → ∀ M1, sg_ru M0 M1 → sg_C 0 R.1 M1 → sg_W R.1 M1 → sg_Bd R.1 M1 →
          mv_Run G 54 87 4749 13 [(0, .inr (.inr 72)), (1, .inr (.inr 6)), (2, .inr (.inr 17)), (3, .inl R.2), (4, .inl ((o : Int) + 1))] [] (mh l) M1 (mv_qi (mh l) F) := by
        intro q M1 g1 g2 g3 g4
        have K1 := K M1 (by omega) g1
        rw [if_neg q] at K1
        rw [if_neg (show ¬ (0 : Int) = 1 by decide)] at K1
        exact K1 g2 g3 g4
      split
      · rename_i q
        exact ⟨by omega, skip (fun z => by have := z.1.1; omega) M hfr hC hW hB⟩
      · rename_i q
        refine ⟨by decide, ?_⟩
        split
        · rename_i q2
          exact ⟨by omega, skip (fun z => by have := z.1.2; omega) M hfr hC hW hB⟩
        · rename_i q2
          refine cl_clearingPrice hwo hC hW hB ho (by omega) (by omega) (fun M1 h1 => ?_)
          have hfr1 : sg_ru M0 M1 := fun a i a1 a2 a3 a4 => (h1 a i a3 a4).trans (hfr a i a1 a2 a3 a4)
          have hC1 : sg_C 0 R.1 M1 := sg_C_fr hC (fun c d1 d2 i => h1 c i (by omega) (by omega))
          have hW1 : sg_W R.1 M1 := sg_W_fr hW (fun c d1 d2 _ i => h1 c i (by omega) (by omega))
          have hB1 : sg_Bd R.1 M1 := sg_Bd_fr hB (fun i => h1 42 i (by decide) (by decide))
          have c4 : M1 26 o = R.1 16 o := (hC1.2.2.2.2.2.2.1 o ho).1
          rw [c4]
          split
          · rename_i q3
            exact ⟨by omega, skip (fun z => z.2.1 q3) M1 hfr1 hC1 hW1 hB1⟩
          · rename_i q3
            refine ⟨by omega, ?_⟩
            split
            · rename_i q4
              exact ⟨by omega, skip (fun z => z.2.2 q4) M1 hfr1 hC1 hW1 hB1⟩
            · rename_i q4
              have hx : 0 ≤ sg_clr R.1 o ∧ sg_clr R.1 o ≤ 999 := by
                rcases sg_clr_b R.1 o with z | z
                · exact absurd z q3
                · exact z
              have hw2 := sg_wf_16 (i := o) hwo hx
              refine ⟨by omega, cl_reckonOffer hw2 (sg_C_16 hC1) (sg_W_16 (sg_W_fr hW1 (fun c d1 d2 _ i => mv_up_n (fun z => by omega)))) ho (show ((o % 3 : Nat) : Int) < R.1 0 2 by omega) (fun M2 g1 g2 => ⟨by omega, ?_⟩)⟩
              have K1 := K M2 (by omega) (fun a i a1 a2 a3 a4 => by rw [g1 a i (fun z => a2 z.1), mv_up_n (fun z => a1 z.1)]; exact hfr1 a i a1 a2 a3 a4)
              rw [if_pos ⟨⟨by omega, by omega⟩, q3, q4⟩] at K1
              rw [if_pos (show (1 : Int) = 1 from rfl)] at K1
              refine K1 (sg_C_fr (sg_C_16 hC1) (fun c d1 d2 i => g1 c i (fun z => by omega))) (sg_W_fr (sg_W_16 hW1) (fun c d1 d2 _ i => by rw [g1 c i (fun z => by omega), mv_up_n (fun z => by omega)])) (fun j k j1 j2 j3 => ?_)
              by_cases z : j = o
              · rw [z]
                exact g2 k j3
              · have hp : sg_pl R.1 k < 48 := (sg_pl_lt hwo j3).2
                have hpe : sg_pl (mv_up R.1 16 o (sg_clr R.1 o)) k = sg_pl R.1 k := rfl
                rw [g1 42 _ (fun y => by rw [hpe] at y; omega), mv_up_n (fun y => by omega)]
                have b1 := hB1 j k j1 j2 j3
                rw [hpe, b1]
                exact (sg_bid_16n z).symm
  refine vw_X6_runRound ?_
  exact key (3 * (S 0 3).toNat) 0 M0 (by omega) (fun _ _ _ _ _ _ => rfl) hC hW hB
theorem cl_runRounds {M0 : mv_Mem} (hw : sg_wf S) (hC : sg_C 0 S M0) (hW : sg_W S M0) (hB : sg_Bd S M0) {N : Nat} (hN : 1 ≤ N ∧ N ≤ 20)
    (h : ∀ M, sg_ru M0 M → sg_wf (sg_rn S N).1 → sg_C 0 (sg_rn S N).1 M → sg_W (sg_rn S N).1 M → F (sg_rn S N).2 M) : mv_Wp G 53 [.inr (.inr 72), .inr (.inr 6), .inl (N : Int)] (mh l) M0 (mv_qi (mh l) F) := by
  have key : ∀ (n g : Nat) (S : mv_Mem) (M : mv_Mem), g + n = N → sg_ru M0 M → sg_wf S → sg_C 0 S M → sg_W S M → sg_Bd S M → (∀ M, sg_ru M0 M → sg_wf (sg_rn S n).1 → sg_C 0 (sg_rn S n).1 M → sg_W (sg_rn S n).1 M → F ((g : Int) + (sg_rn S n).2) M) →
      mv_Run G 53 87 4749 2 [(0, .inr (.inr 72)), (1, .inr (.inr 6)), (2, .inl (N : Int)), (3, .inl ((g : Int) + 1))] [] (mh l) M (mv_qi (mh l) F) := by
    intro n
    induction n with
    | zero =>
      intro g S M hn hfr hw hC hW hB h
      refine vr_X6_runRounds_2 ?_
      rw [if_pos (by omega)]
      have hh := h M hfr hw hC hW
      have e : (sg_rn S 0).2 = 0 := rfl
      rw [e, Int.add_zero, show (g : Int) = (N : Int) by omega] at hh
      exact mv_qi_i hh
    | succ n ih =>
      intro g S M hn hfr hw hC hW hB h
      refine vr_X6_runRounds_2 ?_
      rw [if_neg (by omega)]
      refine cl_runRound hw hC hW hB (fun M1 f1 hC1 hW1 hB1 => ?_)
      have hfr1 : sg_ru M0 M1 := fun a i a1 a2 a3 a4 => (f1 a i a1 a2 a3 a4).trans (hfr a i a1 a2 a3 a4)
      have e : sg_rn S (n + 1) = (if (sg_rd S).2 = 0 then ((sg_rd S).1, 1) else ((sg_rn (sg_rd S).1 n).1, (sg_rn (sg_rd S).1 n).2 + 1)) := rfl
      rw [e] at h
      split
      · rename_i q
        rw [if_pos q] at h
        exact mv_qi_i (h M1 hfr1 (sg_rd_wf hw) hC1 hW1)
      · rename_i q
        rw [if_neg q] at h
        refine ⟨by omega, ih (g + 1) (sg_rd S).1 M1 (by omega) hfr1 (sg_rd_wf hw) hC1 hW1 hB1 (fun M2 a b c d => ?_)⟩
        have := h M2 a b c d
        rw [show (((g + 1 : Nat)) : Int) + (sg_rn (sg_rd S).1 n).2 = (g : Int) + ((sg_rn (sg_rd S).1 n).2 + 1) by omega]
        exact this
  refine vw_X6_runRounds ?_
  exact key N 0 S M0 (by omega) (fun _ _ _ _ _ _ => rfl) hw hC hW hB (fun M a b c d => by
    rw [show ((0 : Nat) : Int) + (sg_rn S N).2 = (sg_rn S N).2 by omega]
    exact h M a b c d)
/-- the cell of the prices is put back -/
theorem sg_C_26 {M' : mv_Mem} (hC : sg_C 0 S M) (hm : ∀ c, 8 ≤ c → c ≤ 34 → c ≠ 26 → ∀ i, M' c i = M c i) (h26 : ∀ i, i < 18 → M' 26 i = S 16 i) : sg_C 0 S M' := by
  have h := sg_C_fr (M' := fun c i => if c = 26 then M c i else M' c i) hC (fun c h1 h2 i => by
    show (if c = 26 then M c i else M' c i) = M c i
    split
    · rfl
    · rename_i q
      exact hm c (by omega) (by omega) q i)
  exact ⟨h.1, h.2.1, h.2.2.1, h.2.2.2.1, h.2.2.2.2.1, h.2.2.2.2.2.1, fun i hi => ⟨h26 i hi, (h.2.2.2.2.2.2.1 i hi).2⟩, h.2.2.2.2.2.2.2⟩
theorem cl_rentsAfterRound (hw : sg_wf S) {M0 : mv_Mem} (hC : sg_C 0 S M0) (hW : sg_W S M0) (hB : sg_Bd S M0) {w : Int} (hp : ∀ i, i < 18 → M0 75 i = S 16 i) (hb : ∀ o k : Nat, (o : Int) < 3 * S 0 3 → ((o % 3 : Nat) : Int) < S 0 2 → sg_ok S k → M0 76 (48 * o + sg_pl S k) = sg_bid S o k)
    (h : ∀ M, sg_ru M0 M → sg_C 0 S M → sg_Bd S M → (∀ o k : Nat, (o : Int) < 3 * S 0 3 → ((o % 3 : Nat) : Int) < S 0 2 → sg_ok S k → M 42 (48 * o + sg_pl S k) = M0 76 (48 * o + sg_pl S k)) → F (sg_rb S w) M) :
    mv_Wp G 56 [.inr (.inr 72), .inr (.inr 6), .inl w] (mh l) M0 (mv_ql (mh l) F) := by
  refine vw_X6_rentsAfterRound ?_
  refine cl_runRound hw hC hW hB (fun M1 f1 hC1 hW1 hB1 => cl_rentsOf (sg_rd_wf hw) hC1 hB1 ⟨by decide, by decide, mv_ql_i ?_⟩)
  have hu := sg_nu hw
  have g42 : ∀ o k : Nat, (o : Int) < 3 * S 0 3 → ((o % 3 : Nat) : Int) < S 0 2 → sg_ok S k → (mv_cp (mv_cp M1 75 (Int.toNat 0) 26 (Int.toNat 0) (Int.toNat 18)) 76 (Int.toNat 0) 42 (Int.toNat 0) (Int.toNat 864)) 42 (48 * o + sg_pl S k) = M0 76 (48 * o + sg_pl S k) := by
    intro o k h1 h2 h3
    have hpl := (sg_pl_lt hw h3).2
    unfold mv_cp
    rw [if_pos ⟨rfl, Nat.zero_le _, show 48 * o + sg_pl S k < 0 + 864 by omega⟩]
    show (if (76 = 26 ∧ _) then _ else M1 76 (0 + (48 * o + sg_pl S k - 0))) = _
    rw [if_neg (fun z => by omega), Nat.zero_add, Nat.sub_zero]
    exact f1 76 _ (by decide) (by decide) (by decide) (by decide)
  have g26 : ∀ i, i < 18 → (mv_cp (mv_cp M1 75 (Int.toNat 0) 26 (Int.toNat 0) (Int.toNat 18)) 76 (Int.toNat 0) 42 (Int.toNat 0) (Int.toNat 864)) 26 i = S 16 i := by
    intro i hi
    unfold mv_cp
    rw [if_neg (fun z => by omega)]
    show (if (26 = 26 ∧ 0 ≤ i ∧ i < 0 + 18) then M1 75 (0 + (i - 0)) else _) = _
    rw [if_pos ⟨rfl, Nat.zero_le _, by omega⟩, Nat.zero_add, Nat.sub_zero]
    exact (f1 75 _ (by decide) (by decide) (by decide) (by decide)).trans (hp i hi)
  have gno : ∀ a i, a ≠ 26 → a ≠ 42 → (mv_cp (mv_cp M1 75 (Int.toNat 0) 26 (Int.toNat 0) (Int.toNat 18)) 76 (Int.toNat 0) 42 (Int.toNat 0) (Int.toNat 864)) a i = M1 a i := by
    intro a i a1 a2
    unfold mv_cp
    rw [if_neg (fun z => a2 z.1), if_neg (fun z => a1 z.1)]
  refine h _ (fun a i a1 a2 a3 a4 => (gno a i a1 a2).trans (f1 a i a1 a2 a3 a4)) (sg_C_26 hC (fun c d1 d2 d3 i => (gno c i d3 (by omega)).trans (f1 c i d3 (by omega) (by omega) (by omega))) g26) (fun o k h1 h2 h3 => (g42 o k h1 h2 h3).trans (hb o k h1 h2 h3)) g42
/-! an acre that is held -/
theorem sg_wf_4 (hw : sg_wf S) {i : Nat} {v : Int} (hv : 0 ≤ v ∧ v ≤ 1) : sg_wf (mv_up S 4 i v) := by
  refine ⟨hw.1, ⟨hw.2.1.1, hw.2.1.2.1, hw.2.1.2.2.1, fun j hj => ?_, hw.2.1.2.2.2.2⟩, hw.2.2⟩
  by_cases q : j = i
  · rw [q, mv_up_s]
    exact hv
  · rw [mv_up_n (fun z => q z.2)]
    exact hw.2.1.2.2.2.1 j hj
theorem sg_C_4 (hw : sg_wf S) (hC : sg_C 0 S M) {k : Nat} {v : Int} (hk : sg_ok S k) : sg_C 0 (mv_up S 4 k v) (mv_up M 13 (sg_pl S k) v) := by
  refine ⟨hC.1, fun j hj => ?_, hC.2.2.1, hC.2.2.2.1, hC.2.2.2.2.1, fun j hj => have q := hC.2.2.2.2.2.1 j hj; ⟨q.1, q.2.1, q.2.2.1, q.2.2.2.1, q.2.2.2.2.1, q.2.2.2.2.2.1, q.2.2.2.2.2.2.1, sg_C_ys (M := M) (by decide) (by decide) q.2.2.2.2.2.2.2⟩, hC.2.2.2.2.2.2⟩
  obtain ⟨q1, q2, q3, q4, q5, q6⟩ := hC.2.1 j hj
  refine ⟨q1, q2, q3, q4, ?_, q6⟩
  show mv_up M 13 (sg_pl S k) v 13 (sg_pl S j) = mv_up S 4 k v 4 j
  by_cases q : j = k
  · rw [q, mv_up_s, mv_up_s]
  · rw [mv_up_n (fun z => q z.2), mv_up_n (fun z => q (sg_pl_inj hw hj hk z.2))]
    exact q5
theorem sg_bid_u {c i o k : Nat} {v : Int} (h : c = 4 ∨ c = 3) : sg_bid (mv_up S c i v) o k = sg_bid S o k := by
  rcases h with rfl | rfl
  · show sg_if (sg_cg S (o / 3) (sg_wo S o k)) (100 * (sg_yl S (o / 3) (S 1 k) * (S 16 o + sg_mn (mv_up S 4 i v) (o / 3)) - S 11 (o / 3) - S 13 (o / 3)) - sg_cr S (o / 3) (S 1 k) * sg_wo S o k) 0 = _
    rw [sg_mn_u (by decide) (by decide)]
    rfl
  · show sg_if (sg_cg S (o / 3) (sg_wo S o k)) (100 * (sg_yl S (o / 3) (S 1 k) * (S 16 o + sg_mn (mv_up S 3 i v) (o / 3)) - S 11 (o / 3) - S 13 (o / 3)) - sg_cr S (o / 3) (S 1 k) * sg_wo S o k) 0 = _
    rw [sg_mn_u (by decide) (by decide)]
    rfl
theorem sg_hd_no {w : Int} {n : Nat} (h : sg_ac S n = -1) : sg_hd S w (n + 1) = sg_hd S w n := if_neg (fun z => by have := z.1; omega)
theorem sg_hd_w (hw : sg_wf S) {w : Int} : ∀ m n : Nat, 10 * S 0 0 ≤ (n : Int) → sg_hd S w (n + m) = sg_hd S w n
  | 0, _, _ => rfl
  | m + 1, n, h => by
    rw [show n + (m + 1) = (n + m) + 1 by omega, sg_hd_no (sg_ac_no (fun z => by have := z.2.1; omega))]
    exact sg_hd_w hw m n h
theorem cl_bestToHold (hw : sg_wf S) {M0 : mv_Mem} (hC : sg_C 0 S M0) (hW : sg_W S M0) (hB : sg_Bd S M0) (hT : sg_Tk S M0) {w : Int}
    (h : ∀ M, (∀ a i, a ≠ 26 → a ≠ 42 → a ≠ 13 → ¬ (73 ≤ a ∧ a ≤ 76) → M a i = M0 a i) → sg_C 0 S M → sg_Bd S M → F (sg_hd S w 80).2 M) :
    mv_Wp G 55 [.inr (.inr 72), .inr (.inr 6), .inl w] (mh l) M0 (mv_qi (mh l) F) := by
  have hu := sg_nu hw
  have hwd := hw.1.1
  refine vw_X6_bestToHold ?_
  refine ⟨by decide, by decide, ?_⟩
  -- what is so through all
  have key : ∀ (n x : Nat) (M : mv_Mem), (x : Int) + n = 10 * S 0 0 → (∀ a i, a ≠ 26 → a ≠ 42 → a ≠ 13 → ¬ (73 ≤ a ∧ a ≤ 76) → M a i = M0 a i) → sg_C 0 S M → sg_Bd S M → (∀ i, i < 18 → M 75 i = S 16 i) → (∀ o k : Nat, (o : Int) < 3 * S 0 3 → ((o % 3 : Nat) : Int) < S 0 2 → sg_ok S k → M 76 (48 * o + sg_pl S k) = sg_bid S o k) →
      mv_Run G 55 87 4749 60 [(0, .inr (.inr 72)), (1, .inr (.inr 6)), (2, .inl w), (3, .inr (.inr 8)), (4, .inr (.inl (sg_hd S w x).1)), (6, .inl (sg_hd S w x).2), (7, .inl (x : Int))] [] (mh l) M (mv_qi (mh l) F) := by
    intro n
    induction n with
    | zero =>
      intro x M hn hfr hCM hBM h75 h76
      refine vr_X6_bestToHold_60 ?_
      have c1 : M 8 0 = S 0 0 := hCM.1.1
      have hh := h M hfr hCM hBM
      have e := sg_hd_w hw (w := w) (80 - x) x (by omega)
      rw [show x + (80 - x) = 80 by omega] at e
      rw [e] at hh
      rw [c1, if_pos (by omega)]
      exact ⟨by omega, mv_qi_i hh⟩
    | succ n ih =>
      intro x M hn hfr hCM hBM h75 h76
      refine vr_X6_bestToHold_60 ?_
      have c1 : M 8 0 = S 0 0 := hCM.1.1
      have hTM : sg_Tk S M := sg_Tk_fr hT (fun i => hfr 43 i (by decide) (by decide) (by decide) (by omega))
      have hWM : sg_W S M := sg_W_fr hW (fun c d1 d2 _ i => hfr c i (by omega) (by omega) (by omega) (by omega))
      rw [c1, if_neg (by omega)]
      have e : sg_hd S w (x + 1) = (if 0 ≤ sg_ac S x ∧ S 3 (sg_ac S x).toNat = w ∧ sg_tk S (sg_ac S x).toNat ≠ -1 ∧ (sg_hd S w x).1 < sg_rb (mv_up S 4 (sg_ac S x).toNat 1) w then (sg_rb (mv_up S 4 (sg_ac S x).toNat 1) w, (x : Int)) else sg_hd S w x) := rfl
      have K := fun M' => ih (x + 1) M' (by omega)
      rw [e] at K
      have skip : ¬ (0 ≤ sg_ac S x ∧ S 3 (sg_ac S x).toNat = w ∧ sg_tk S (sg_ac S x).toNat ≠ -1 ∧ (sg_hd S w x).1 < sg_rb (mv_up S 4 (sg_ac S x).toNat 1) w) → mv_R32 ((x : Int) + 1) ∧ mv_Run G 55 87 4749 60 [(0, .inr (.inr 72)), (1, .inr (.inr 6)), (2, .inl w), (3, .inr (.inr 8)), (4, .inr (.inl (sg_hd S w x).1)), (6, .inl (sg_hd S w x).2), (7, .inl ((x : Int) + 1))] [] (mh l) M (mv_qi (mh l) F) := by
        intro q
        have K1 := K M hfr hCM hBM h75 h76
        rw [if_neg q] at K1
        exact ⟨by omega, K1⟩
      refine ⟨by omega, cl_placeOf hw hCM (by omega) ?_⟩
      unfold sg_pa
      by_cases hac : 0 ≤ sg_ac S x
      · obtain ⟨hk, hk48, -⟩ := sg_ac_ok hw hac
        generalize (sg_ac S x).toNat = k at hk hk48 e K skip
        have hp := (sg_pl_lt hw hk).2
        have c2 : M 12 (sg_pl S k) = S 3 k := (hCM.2.1 k hk).2.2.2.1
        rw [if_pos hac, if_neg (by omega), Int.toNat_natCast, c2, hTM k hk]
        refine ⟨by omega, ?_⟩
        split
        · rename_i q1
          refine ⟨by omega, ?_⟩
          split
          · rename_i q2
            exact skip (fun z => z.2.2.1 q2)
          · rename_i q2
            have hh0 : S 4 k = 0 := by
              have q3 := q2
              unfold sg_tk at q3
              split at q3
              · assumption
              · exact absurd rfl q3
            have hw' := sg_wf_4 (i := k) hw (show (0 : Int) ≤ 1 ∧ (1 : Int) ≤ 1 by decide)
            have hC' : sg_C 0 (mv_up S 4 k 1) (mv_up M 13 (sg_pl S k) 1) := sg_C_4 hw hCM hk
            have hW' : sg_W (mv_up S 4 k 1) (mv_up M 13 (sg_pl S k) 1) := by
              have : sg_W S (mv_up M 13 (sg_pl S k) 1) := sg_W_fr hWM (fun c d1 d2 _ i => mv_up_n (fun z => by omega))
              exact this
            have hB' : sg_Bd (mv_up S 4 k 1) (mv_up M 13 (sg_pl S k) 1) := by
              intro o j h1 h2 h3
              rw [sg_bid_u (Or.inl rfl), mv_up_n (fun z => by omega)]
              exact hBM o j h1 h2 h3
            refine ⟨by omega, cl_rentsAfterRound hw' hC' hW' hB' (fun i hi => h75 i hi) (fun o j h1 h2 h3 => by rw [sg_bid_u (Or.inl rfl)]; exact h76 o j h1 h2 h3) (fun M2 f2 hC2 hB2 g42 => ⟨by omega, ?_⟩)⟩
            have hfr2 : ∀ a i, a ≠ 26 → a ≠ 42 → a ≠ 13 → ¬ (73 ≤ a ∧ a ≤ 76) → (mv_up M2 13 (sg_pl S k) 0) a i = M0 a i := by
              intro a i a1 a2 a3 a4
              rw [mv_up_n (fun z => a3 z.1), f2 a i a1 a2 (by omega) (by omega), mv_up_n (fun z => a3 z.1)]
              exact hfr a i a1 a2 a3 a4
            have hCb : sg_C 0 S (mv_up M2 13 (sg_pl S k) 0) := by
              have h1 := sg_C_4 (v := 0) hw' hC2 (k := k) hk
              have h2 : mv_up (mv_up S 4 k 1) 4 k 0 = S := by
                funext a i
                unfold mv_up
                by_cases z : a = 4 ∧ i = k
                · rw [if_pos z, z.1, z.2, hh0]
                · rw [if_neg z, if_neg z]
              rw [h2] at h1
              exact h1
            have hBb : sg_Bd S (mv_up M2 13 (sg_pl S k) 0) := by
              intro o j h1 h2 h3
              rw [mv_up_n (fun z => by omega)]
              have := hB2 o j h1 h2 h3
              rw [sg_bid_u (Or.inl rfl)] at this
              exact this
            have h75b : ∀ i, i < 18 → (mv_up M2 13 (sg_pl S k) 0) 75 i = S 16 i := fun i hi => by
              rw [mv_up_n (fun z => by omega), f2 75 i (by decide) (by decide) (by decide) (by decide)]
              exact h75 i hi
            have h76b : ∀ o j : Nat, (o : Int) < 3 * S 0 3 → ((o % 3 : Nat) : Int) < S 0 2 → sg_ok S j → (mv_up M2 13 (sg_pl S k) 0) 76 (48 * o + sg_pl S j) = sg_bid S o j := fun o j h1 h2 h3 => by
              rw [mv_up_n (fun z => by omega), f2 76 _ (by decide) (by decide) (by decide) (by decide)]
              exact h76 o j h1 h2 h3
            have K1 := K _ hfr2 hCb hBb h75b h76b
            simp only [mv_cmp_le]
            split
            · rename_i q3
              rw [if_neg (fun z => by have := z.2.2.2; omega)] at K1
              exact ⟨by omega, K1⟩
            · rename_i q3
              rw [if_pos ⟨hac, q1, q2, by omega⟩] at K1
              exact ⟨by omega, K1⟩
        · rename_i q1
          exact skip (fun z => q1 z.2.1)
      · rw [if_neg hac, if_pos rfl]
        exact skip (fun z => hac z.1)
  have h75 : ∀ i, i < 18 → (mv_cp (mv_cp M0 26 (Int.toNat 0) 75 (Int.toNat 0) (Int.toNat 18)) 42 (Int.toNat 0) 76 (Int.toNat 0) (Int.toNat 864)) 75 i = S 16 i := by
    intro i hi
    unfold mv_cp
    rw [if_neg (fun z => by omega)]
    show (if (75 = 75 ∧ 0 ≤ i ∧ i < 0 + 18) then M0 26 (0 + (i - 0)) else _) = _
    rw [if_pos ⟨rfl, Nat.zero_le _, by omega⟩, Nat.zero_add, Nat.sub_zero]
    exact (hC.2.2.2.2.2.2.1 i hi).1
  have gno : ∀ a i, a ≠ 75 → a ≠ 76 → (mv_cp (mv_cp M0 26 (Int.toNat 0) 75 (Int.toNat 0) (Int.toNat 18)) 42 (Int.toNat 0) 76 (Int.toNat 0) (Int.toNat 864)) a i = M0 a i := by
    intro a i a1 a2
    unfold mv_cp
    rw [if_neg (fun z => a2 z.1), if_neg (fun z => a1 z.1)]
  have h76 : ∀ o k : Nat, (o : Int) < 3 * S 0 3 → ((o % 3 : Nat) : Int) < S 0 2 → sg_ok S k → (mv_cp (mv_cp M0 26 (Int.toNat 0) 75 (Int.toNat 0) (Int.toNat 18)) 42 (Int.toNat 0) 76 (Int.toNat 0) (Int.toNat 864)) 76 (48 * o + sg_pl S k) = sg_bid S o k := by
    intro o k h1 h2 h3
    have hpl := (sg_pl_lt hw h3).2
    unfold mv_cp
    rw [if_pos ⟨rfl, Nat.zero_le _, show 48 * o + sg_pl S k < 0 + 864 by omega⟩]
    show (if (42 = 75 ∧ _) then _ else M0 42 (0 + (48 * o + sg_pl S k - 0))) = _
    rw [if_neg (fun z => by omega), Nat.zero_add, Nat.sub_zero]
    exact hB o k h1 h2 h3
  have hC1 := sg_C_fr hC (fun c d1 d2 i => gno c i (by omega) (by omega))
  have hB1 : sg_Bd S _ := sg_Bd_fr hB (fun i => gno 42 i (by decide) (by decide))
  refine cl_rentsAfterRound hw hC1 (sg_W_fr hW (fun c d1 d2 _ i => gno c i (by omega) (by omega))) hB1 h75 h76 (fun M1 f1 hC2 hB2 g42 => ?_)
  exact key (10 * S 0 0).toNat 0 M1 (by omega) (fun a i a1 a2 a3 a4 => (f1 a i a1 a2 (by omega) (by omega)).trans (gno a i (by omega) (by omega))) hC2 hB2 (fun i hi => (f1 75 i (by decide) (by decide) (by decide) (by decide)).trans (h75 i hi)) (fun o k h1 h2 h3 => (f1 76 _ (by decide) (by decide) (by decide) (by decide)).trans (h76 o k h1 h2 h3))
end RO
end
section
/-! THE CLASS: WHAT FALLS WASTE, THE WAY BETWEEN TWO ACRES, WHAT IS HELD, SETTLING -/
noncomputable def sg_hel (S : mv_Mem) : Int := sg_fo S (fun k x => x + S 4 k) 0 48
/-- all is settled -/
def sg_Z (S M : mv_Mem) : Prop := sg_W S M ∧ sg_Bd S M ∧ sg_Tk S M
/-- what is so of the class between two calls -/
def sg_K (S M : mv_Mem) : Prop := sg_C 0 S M ∧ (M 6 6 = 0 ∨ M 6 6 = 1) ∧ (M 6 7 = 0 ∨ M 6 7 = 1) ∧ (M 6 6 = 1 → sg_W S M) ∧ (M 6 6 = 0 → M 6 7 = 0) ∧ (M 6 7 = 1 → sg_Bd S M ∧ sg_Tk S M)
section FA
variable {S : mv_Mem} {G : mv_G} {l : Nat} {M : mv_Mem} {F : Int → mv_Mem → Prop}
theorem cl_offerOf {u m : Nat} (hu : u < 6) (hm : m < 3) (h : F ((3 * u + m : Nat) : Int) M) : mv_Wp G 131 [.inl (u : Int), .inl (m : Int)] (mh l) M (mv_qi (mh l) F) := by
  refine vw_X11_offerOf ?_
  rw [show (u : Int) * 3 + (m : Int) = ((3 * u + m : Nat) : Int) by omega]
  exact ⟨by omega, by omega, mv_qi_i h⟩
theorem cl_idleAcres (hw : sg_wf S) (hC : sg_C 0 S M) (h : F (sg_hel S) M) : mv_Wp G 10 [.inr (.inr 8)] (mh l) M (mv_qi (mh l) F) := by
  obtain ⟨n48, hn1, hn2⟩ := sg_n48 hw
  have c2 : M 8 2 = (n48 : Int) := hC.1.2.2.1.trans hn1.symm
  have h4 : ∀ k, sg_ok S k → 0 ≤ S 4 k ∧ S 4 k ≤ 1 := fun k hk => hw.2.1.2.2.2.1 k (sg_ok_48 hw hk)
  have hb := fun n hn => sg_fp_b (f := fun k x => x + S 4 k) (a := 0) hw (b := 1) (by omega) (fun k x hk => by have := h4 k hk; omega) n hn
  have key : ∀ (n p : Nat), p + n = n48 → mv_Run G 10 87 4749 4 [(0, .inr (.inr 8)), (1, .inl (sg_fp S (fun k x => x + S 4 k) 0 p)), (2, .inl (p : Int))] [] (mh l) M (mv_qi (mh l) F) := by
    intro n
    induction n with
    | zero =>
      intro p hp
      refine vr_X0_idleAcres_4 ?_
      rw [c2, if_pos (by omega), show p = n48 by omega, ← sg_fo_fp hw hn1]
      exact mv_qi_i h
    | succ n ih =>
      intro p hp
      refine vr_X0_idleAcres_4 ?_
      obtain ⟨k, hk, rfl⟩ := sg_pl_sur hw (p := p) (by omega)
      have h1 := hb (sg_pl S k) (by omega)
      have h2 := h4 k hk
      have e := sg_fp_pl (f := fun k x => x + S 4 k) (a := 0) hw hk
      have K := ih (sg_pl S k + 1) (by omega)
      rw [e] at K
      have c3 : M 13 (sg_pl S k) = S 4 k := (hC.2.1 k hk).2.2.2.2.1
      rw [c2, if_neg (by omega), Int.toNat_natCast, c3]
      exact ⟨by omega, by omega, by omega, K⟩
  refine vw_X0_idleAcres ?_
  exact key n48 0 (by omega)
/-! another tax -/
theorem sg_wf_13 (hw : sg_wf S) {i : Nat} {v : Int} (hi : (i : Int) < S 0 3) (hv : 0 ≤ v ∧ v ≤ 9999) : sg_wf (mv_up S 13 i v) := by
  refine ⟨hw.1, hw.2.1, hw.2.2.1, hw.2.2.2.1, ⟨hw.2.2.2.2.1.1, hw.2.2.2.2.1.2.1, hw.2.2.2.2.1.2.2.1, hw.2.2.2.2.1.2.2.2.1, hw.2.2.2.2.1.2.2.2.2.1, fun j hj => ?_, hw.2.2.2.2.1.2.2.2.2.2.2⟩, hw.2.2.2.2.2.1, hw.2.2.2.2.2.2.1, hw.2.2.2.2.2.2.2.1, hw.2.2.2.2.2.2.2.2.1, fun u h1 h2 => ?_⟩
  · by_cases q : j = i
    · rw [q, mv_up_s]
      exact hv
    · rw [mv_up_n (fun z => q z.2)]
      exact hw.2.2.2.2.1.2.2.2.2.2.1 j hj
  · have h3 : S 0 3 ≤ (u : Int) := h1
    rw [mv_up_n (fun z => by omega)]
    exact hw.2.2.2.2.2.2.2.2.2 u h1 h2
theorem sg_C_13 (hC : sg_C 0 S M) {i : Nat} {v : Int} : sg_C 0 (mv_up S 13 i v) (mv_up M 23 i v) :=
  ⟨hC.1, hC.2.1, hC.2.2.1, hC.2.2.2.1, hC.2.2.2.2.1, fun j hj => have q := hC.2.2.2.2.2.1 j hj; ⟨q.1, q.2.1, q.2.2.1, q.2.2.2.1, q.2.2.2.2.1, mv_up_sm q.2.2.2.2.2.1, q.2.2.2.2.2.2.1, sg_C_ys (M := M) (by decide) (by decide) q.2.2.2.2.2.2.2⟩, hC.2.2.2.2.2.2⟩
theorem sg_bid_13n {o i k : Nat} {v : Int} (h : o / 3 ≠ i) : sg_bid (mv_up S 13 i v) o k = sg_bid S o k := by
  have e : mv_up S 13 i v 13 (o / 3) = S 13 (o / 3) := mv_up_n (fun q => h q.2)
  show sg_if (sg_cg S (o / 3) (sg_wo S o k)) (100 * (sg_yl S (o / 3) (S 1 k) * (S 16 o + sg_mn (mv_up S 13 i v) (o / 3)) - S 11 (o / 3) - mv_up S 13 i v 13 (o / 3)) - sg_cr S (o / 3) (S 1 k) * sg_wo S o k) 0 = _
  rw [e, sg_mn_u (by decide) (by decide)]
  rfl
theorem cl_fallingWaste (hw : sg_wf S) {M0 : mv_Mem} (hC : sg_C 0 S M0) (hW : sg_W S M0) (hB : sg_Bd S M0) (hT : sg_Tk S M0) {u : Nat} {v : Int} (hu : (u : Int) < S 0 3) (hv : 0 ≤ v ∧ v ≤ 9999)
    (h : ∀ M, (∀ a i, a ≠ 42 → a ≠ 6 → a ≠ 23 → M a i = M0 a i) → sg_C 0 S M → M 6 6 = M0 6 6 → M 6 7 = 0 → F (sg_fal S u (mv_up S 13 u v)) M) :
    mv_Wp G 30 [.inr (.inr 6), .inl (u : Int), .inl v] (mh l) M0 (mv_qi (mh l) F) := by
  obtain ⟨n48, hn1, hn2⟩ := sg_n48 hw
  have hnu := sg_nu hw
  have hmk := hw.1.2.2.1
  have hw' := sg_wf_13 hw hu hv
  have c23 : M0 23 u = S 13 u := (hC.2.2.2.2.2.1 u (by omega)).2.2.2.2.2.1
  refine vw_X1_fallingWaste ?_
  rw [Int.toNat_natCast, c23]
  refine ⟨by omega, by omega, ?_⟩
  have hb := fun n hn => sg_fp_b (f := fun k x => if (sg_tk S k ≠ -1 ∧ sg_tk S k / 3 = (u : Int)) ∧ sg_tk (mv_up S 13 u v) k = -1 then x + 1 else x) (a := 0) hw (b := 1) (by omega) (fun k x hk => by split <;> omega) n hn
  have count : ∀ (M : mv_Mem), (∀ a i, a ≠ 42 → a ≠ 23 → M a i = M0 a i) → sg_C 0 (mv_up S 13 u v) M → sg_Bd (mv_up S 13 u v) M → ∀ (n p : Nat), p + n = n48 →
      mv_Run G 30 87 4749 57 [(0, .inr (.inr 6)), (1, .inl (u : Int)), (3, .inl (S 13 u)), (4, .inl (sg_fp S (fun k x => if (sg_tk S k ≠ -1 ∧ sg_tk S k / 3 = (u : Int)) ∧ sg_tk (mv_up S 13 u v) k = -1 then x + 1 else x) 0 p)), (5, .inl (p : Int))] [] (mh l) M (mv_qi (mh l) F) := by
    intro M hfr hCM hBM n
    have c2 : M 8 2 = (n48 : Int) := ((hfr 8 2 (by decide) (by decide)).trans hC.1.2.2.1).trans hn1.symm
    have hTM : sg_Tk S M := sg_Tk_fr hT (fun i => hfr 43 i (by decide) (by decide))
    induction n with
    | zero =>
      intro p hp
      refine vr_X1_fallingWaste_57 ?_
      rw [c2, if_pos (by omega), show p = n48 by omega, ← sg_fo_fp hw hn1, Int.toNat_natCast]
      refine ⟨by omega, by omega, mv_qi_i (h _ (fun a i a1 a2 a3 => ?_) ?_ ?_ ?_)⟩
      · rw [mv_up_n (fun z => a2 z.1), mv_up_n (fun z => a3 z.1)]
        exact hfr a i a1 a3
      · have h1 := sg_C_13 (i := u) (v := S 13 u) hCM
        have h2 : mv_up (mv_up S 13 u v) 13 u (S 13 u) = S := by
          funext a i
          unfold mv_up
          by_cases z : a = 13 ∧ i = u
          · rw [if_pos z, z.1, z.2]
          · rw [if_neg z, if_neg z]
        rw [h2] at h1
        exact sg_C_fr h1 (fun c d1 d2 i => mv_up_n (fun z => by omega))
      · rw [mv_up_n (fun z => by omega), mv_up_n (fun z => by omega)]
        exact hfr 6 6 (by decide) (by decide)
      · rw [mv_up_s]
    | succ n ih =>
      intro p hp
      refine vr_X1_fallingWaste_57 ?_
      obtain ⟨k, hk, rfl⟩ := sg_pl_sur hw (p := p) (by omega)
      have h1 := hb (sg_pl S k) (by omega)
      have e := sg_fp_pl (f := fun k x => if (sg_tk S k ≠ -1 ∧ sg_tk S k / 3 = (u : Int)) ∧ sg_tk (mv_up S 13 u v) k = -1 then x + 1 else x) (a := 0) hw hk
      have K := ih (sg_pl S k + 1) (by omega)
      rw [e] at K
      rw [c2, if_neg (by omega)]
      refine cl_isTakenBy hw hTM hk (fun q => ?_) (fun q => ?_)
      · rw [if_neg (by decide)]
        refine cl_takerOf (k := k) hw' hCM hBM hk ?_
        split
        · rename_i q2
          rw [if_pos ⟨q, q2⟩] at K
          exact ⟨by omega, by omega, K⟩
        · rename_i q2
          rw [if_neg (fun z => q2 z.2)] at K
          exact ⟨by omega, K⟩
      · rw [if_neg (fun z => q z.1)] at K
        rw [if_pos rfl]
        exact ⟨by omega, K⟩
  have key : ∀ (n m : Nat) (M : mv_Mem), ((m + n : Nat) : Int) = S 0 2 → (∀ a i, a ≠ 42 → a ≠ 23 → M a i = M0 a i) → sg_C 0 (mv_up S 13 u v) M → sg_W (mv_up S 13 u v) M →
      (∀ o k : Nat, (o : Int) < 3 * S 0 3 → ((o % 3 : Nat) : Int) < S 0 2 → sg_ok S k → (o / 3 ≠ u ∨ o % 3 < m) → M 42 (48 * o + sg_pl S k) = sg_bid (mv_up S 13 u v) o k) →
      mv_Run G 30 87 4749 23 [(0, .inr (.inr 6)), (1, .inl (u : Int)), (3, .inl (S 13 u)), (4, .inl (m : Int))] [] (mh l) M (mv_qi (mh l) F) := by
    intro n
    induction n with
    | zero =>
      intro m M hmn hfr hCM hWM hd
      refine vr_X1_fallingWaste_23 ?_
      have c1 : M 8 4 = S 0 2 := hCM.1.2.2.2.2
      rw [c1, if_pos (by omega)]
      exact count M hfr hCM (fun o k h1 h2 h3 => hd o k h1 h2 h3 (by
        have h2' : ((o % 3 : Nat) : Int) < S 0 2 := h2
        exact Or.inr (by omega))) n48 0 (by omega)
    | succ n ih =>
      intro m M hmn hfr hCM hWM hd
      refine vr_X1_fallingWaste_23 ?_
      have c1 : M 8 4 = S 0 2 := hCM.1.2.2.2.2
      rw [c1, if_neg (by omega)]
      refine cl_offerOf (by omega) (by omega) (cl_reckonOffer hw' hCM hWM (by omega) (show (((3 * u + m) % 3 : Nat) : Int) < S 0 2 by omega) (fun M1 f1 g1 => ⟨by omega, ih (m + 1) M1 (by omega) (fun a i a1 a2 => (f1 a i (fun z => a1 z.1)).trans (hfr a i a1 a2)) (sg_C_fr hCM (fun c d1 d2 i => f1 c i (fun z => by omega))) (sg_W_fr hWM (fun c d1 d2 _ i => f1 c i (fun z => by omega))) (fun o k h1 h2 h3 h4 => ?_)⟩))
      by_cases q : o = 3 * u + m
      · rw [q]
        exact g1 k h3
      · have hp := (sg_pl_lt hw h3).2
        have hpe : sg_pl (mv_up S 13 u v) k = sg_pl S k := rfl
        rw [f1 42 _ (fun z => by omega)]
        exact hd o k h1 h2 h3 (by omega)
  refine key (S 0 2).toNat 0 _ (by omega) (fun a i a1 a2 => mv_up_n (fun z => a2 z.1)) (sg_C_13 hC) ?_ (fun o k h1 h2 h3 h4 => ?_)
  · have : sg_W S (mv_up M0 23 u v) := sg_W_fr hW (fun c d1 d2 _ i => mv_up_n (fun z => by omega))
    exact this
  · rw [mv_up_n (fun z => by omega), sg_bid_13n (by omega)]
    exact hB o k h1 h2 h3
theorem cl_settle (hw : sg_wf S) {M0 : mv_Mem} {F : mv_Mem → Prop} (hK : sg_K S M0)
    (h : ∀ M, (∀ a i, ¬ (36 ≤ a ∧ a ≤ 43) → a ≠ 6 → M a i = M0 a i) → sg_C 0 S M → sg_Z S M → M 6 6 = 1 → M 6 7 = 1 → F M) :
    mv_Wp G 14 [.inr (.inr 6)] (mh l) M0 (mv_qv (mh l) F) := by
  obtain ⟨hC, f6, f7, k6, k0, k7⟩ := hK
  refine vw_X1_settle ?_
  split
  · rename_i q
    refine cl_reckonFoot hw hC (fun M1 f1 t1 w1 => cl_reckonRoads hw (sg_C_fr hC (fun c d1 d2 i => f1 c i (by omega) (by omega) (by omega))) (fun k d hk hd => (t1 k d hk hd).1) (fun M2 f2 t2 w2 => ⟨by decide, ?_⟩))
    have e7 : (mv_up M2 6 6 1) 6 7 = 0 := by
      rw [mv_up_n (fun z => by omega), f2 6 7 (by decide) (by decide), f1 6 7 (by decide) (by decide) (by decide)]
      exact k0 q
    rw [if_pos e7]
    have hfr : ∀ a i, ¬ (36 ≤ a ∧ a ≤ 43) → a ≠ 6 → (mv_up M2 6 6 1) a i = M0 a i := fun a i a1 a2 => by
      rw [mv_up_n (fun z => a2 z.1), f2 a i (by omega) (by omega), f1 a i (by omega) (by omega) (by omega)]
    have hC2 := sg_C_fr hC (fun c d1 d2 i => hfr c i (by omega) (by omega))
    have hW2 : sg_W S (mv_up M2 6 6 1) := by
      refine ⟨sg_tb_fr t1 (fun i => ?_) (fun i => ?_), sg_tb_fr t2 (fun i => mv_up_n (fun z => by omega)) (fun i => mv_up_n (fun z => by omega)), fun m k h1 h2 => ⟨?_, ?_⟩⟩
      · rw [mv_up_n (fun z => by omega), f2 39 i (by decide) (by decide)]
      · rw [mv_up_n (fun z => by omega), f2 41 i (by decide) (by decide)]
      · rw [mv_up_n (fun z => by omega)]
        exact w2 m k h1 h2
      · rw [mv_up_n (fun z => by omega), f2 37 _ (by decide) (by decide)]
        exact w1 m k h1 h2
    refine cl_reckonBids hw hC2 hW2 (fun M3 f3 b3 t3 => ⟨by decide, mv_qv_i (h _ (fun a i a1 a2 => ?_) ?_ ⟨?_, ?_, ?_⟩ ?_ ?_)⟩)
    · rw [mv_up_n (fun z => a2 z.1), f3 a i (by omega) (by omega)]
      exact hfr a i a1 a2
    · exact sg_C_fr hC2 (fun c d1 d2 i => by rw [mv_up_n (fun z => by omega), f3 c i (by omega) (by omega)])
    · exact sg_W_fr hW2 (fun c d1 d2 _ i => by rw [mv_up_n (fun z => by omega), f3 c i (by omega) (by omega)])
    · exact sg_Bd_fr b3 (fun i => mv_up_n (fun z => by omega))
    · exact sg_Tk_fr t3 (fun i => mv_up_n (fun z => by omega))
    · rw [mv_up_n (fun z => by omega), f3 6 6 (by decide) (by decide), mv_up_s]
    · rw [mv_up_s]
  · rename_i q
    have e6 : M0 6 6 = 1 := by omega
    have hW := k6 e6
    split
    · rename_i q2
      refine cl_reckonBids hw hC hW (fun M3 f3 b3 t3 => ⟨by decide, mv_qv_i (h _ (fun a i a1 a2 => ?_) ?_ ⟨?_, ?_, ?_⟩ ?_ ?_)⟩)
      · rw [mv_up_n (fun z => a2 z.1), f3 a i (by omega) (by omega)]
      · exact sg_C_fr hC (fun c d1 d2 i => by rw [mv_up_n (fun z => by omega), f3 c i (by omega) (by omega)])
      · exact sg_W_fr hW (fun c d1 d2 _ i => by rw [mv_up_n (fun z => by omega), f3 c i (by omega) (by omega)])
      · exact sg_Bd_fr b3 (fun i => mv_up_n (fun z => by omega))
      · exact sg_Tk_fr t3 (fun i => mv_up_n (fun z => by omega))
      · rw [mv_up_n (fun z => by omega), f3 6 6 (by decide) (by decide)]
        exact e6
      · rw [mv_up_s]
    · rename_i q2
      have e7 : M0 6 7 = 1 := by omega
      exact mv_qv_i (h M0 (fun _ _ _ _ => rfl) hC ⟨hW, (k7 e7).1, (k7 e7).2⟩ e6 e7)
theorem cl_forgetBids {F : mv_Mem → Prop} (h : F (mv_up M 6 7 0)) : mv_Wp G 13 [.inr (.inr 6)] (mh l) M (mv_qv (mh l) F) :=
  vw_X1_forgetBids ⟨by decide, mv_qv_i h⟩
theorem cl_forgetWays {F : mv_Mem → Prop} (h : F (mv_up (mv_up M 6 6 0) 6 7 0)) : mv_Wp G 12 [.inr (.inr 6)] (mh l) M (mv_qv (mh l) F) :=
  vw_X1_forgetWays ⟨by decide, by decide, mv_qv_i h⟩
end FA
end
section
/-! THE CLASS's WORKS: states with plans built -/
def sg_dd (d : Nat) : Nat := if d = 0 then 1 else if d = 1 then 0 else if d = 2 then 3 else 2
/-- a road is laid (0: taken away) from k towards d -/
def sg_lay (S : mv_Mem) (k d : Nat) (c : Int) : mv_Mem := mv_up (mv_up S 5 (4 * k + d) c) 5 (4 * sg_nx k d + sg_dd d) (if c = 3 then 4 else c)
/-- a set holds a plan -/
def sg_bt (s n : Nat) : Prop := s / 2 ^ n % 2 = 1
noncomputable def sg_pm (P : Prop) (A B : mv_Mem) : mv_Mem := @ite mv_Mem P (Classical.propDecidable P) A B
/-- the first n plans of a set are built (b), torn down -/
noncomputable def sg_bl (S : mv_Mem) (s : Nat) (b : Bool) : Nat → mv_Mem
  | 0 => S
  | n + 1 => sg_pm (sg_bt s n) (sg_lay (sg_bl S s b n) (S 20 n).toNat (S 21 n).toNat (if b = true then S 22 n else 0)) (sg_bl S s b n)
noncomputable def sg_wi (S : mv_Mem) (s : Nat) : mv_Mem := sg_bl S s true (S 0 5).toNat
noncomputable def sg_co (S : mv_Mem) (s : Nat) : Nat → Int
  | 0 => 0
  | n + 1 => sg_if (sg_bt s n) (sg_co S s n + S 23 n) (sg_co S s n)
/-- a plan stands -/
def sg_bu (S : mv_Mem) (p : Nat) : Prop := S 5 (4 * (S 20 p).toNat + (S 21 p).toNat) ≠ 0
noncomputable def sg_gain (S : mv_Mem) (p : Nat) : Int := sg_all (sg_wi S (2 ^ p)) - sg_all S - 100 * S 23 p
noncomputable def sg_los (S : mv_Mem) (s : Nat) : Int := sg_fo S (fun k x => if sg_rt (sg_wi S s) k < sg_rt S k then x + 1 else x) 0 48
/-- the best of the sets 0 .. n: it, its rents, its cost -/
noncomputable def sg_be (S : mv_Mem) (sum : Int) : Nat → Int × Int × Int
  | 0 => (0, sg_all S, 0)
  | n + 1 => sg_be1 (n + 1) sum (sg_co S (n + 1) (S 0 5).toNat) (sg_all (sg_wi S (n + 1))) (sg_be S sum n)
where sg_be1 (n : Nat) (sum c v : Int) (q : Int × Int × Int) : Int × Int × Int := if c ≤ sum ∧ (q.2.1 < v ∨ (v = q.2.1 ∧ c < q.2.2)) then ((n : Int), v, c) else q
theorem sg_pm_y {P : Prop} {A B : mv_Mem} (h : P) : sg_pm P A B = A := if_pos h
theorem sg_pm_n {P : Prop} {A B : mv_Mem} (h : ¬ P) : sg_pm P A B = B := if_neg h
set_option maxRecDepth 100000 in
theorem sg_bits : ∀ s : Fin 256, ∀ n : Fin 8, mv_and (mv_shr (s.1 : Int) (n.1 : Int)) 1 = ((s.1 / 2 ^ n.1 % 2 : Nat) : Int) := by decide +kernel
theorem sg_bit {s n : Nat} (hs : s < 256) (hn : n < 8) : mv_and (mv_shr (s : Int) (n : Int)) 1 = ((s / 2 ^ n % 2 : Nat) : Int) := sg_bits ⟨s, hs⟩ ⟨n, hn⟩
theorem sg_shls : ∀ n : Fin 9, mv_shl 1 (n.1 : Int) = ((2 ^ n.1 : Nat) : Int) := by decide +kernel
theorem sg_shl {n : Nat} (hn : n < 9) : mv_shl 1 (n : Int) = ((2 ^ n : Nat) : Int) := sg_shls ⟨n, hn⟩
theorem sg_xor1 {d : Nat} (hd : d < 4) : mv_xor (d : Int) 1 = (sg_dd d : Int) := by
  have : ∀ d : Fin 4, mv_xor (d.1 : Int) 1 = (sg_dd d.1 : Int) := by decide +kernel
  exact this ⟨d, hd⟩
theorem sg_dd_lt {d : Nat} (hd : d < 4) : sg_dd d < 4 ∧ sg_dd (sg_dd d) = d := by
  have : ∀ d : Fin 4, sg_dd d.1 < 4 ∧ sg_dd (sg_dd d.1) = d.1 := by decide
  exact this ⟨d, hd⟩
section WO
variable {S : mv_Mem} {G : mv_G} {l : Nat} {M : mv_Mem} {F : Int → mv_Mem → Prop}
/-- going back is the other way -/
theorem sg_back (hw : sg_wf S) {k d : Nat} (hk : sg_ok S k) (hd : d < 4) (hh : sg_has S k d) : sg_has S (sg_nx k d) (sg_dd d) ∧ sg_nx (sg_nx k d) (sg_dd d) = k ∧ sg_nx k d ≠ k := by
  obtain ⟨⟨⟨w1, w2⟩, ⟨h1, h2⟩, -⟩, -⟩ := hw
  obtain ⟨k1, k2⟩ := hk
  unfold sg_has at hh
  rcases (show d = 0 ∨ d = 1 ∨ d = 2 ∨ d = 3 by omega) with rfl | rfl | rfl | rfl
  · simp only [if_true] at hh
    refine ⟨?_, ?_, ?_⟩
    · show 0 < (k + 1) % 8
      omega
    · show k + 1 - 1 = k
      omega
    · show k + 1 ≠ k
      omega
  · simp only [if_true, show ¬ (1 = 0) by decide, if_false] at hh
    refine ⟨?_, ?_, ?_⟩
    · show (((k - 1) % 8 + 1 : Nat) : Int) < S 0 0
      omega
    · show k - 1 + 1 = k
      omega
    · show k - 1 ≠ k
      omega
  · simp only [if_true, show ¬ (2 = 0) by decide, show ¬ (2 = 1) by decide, if_false] at hh
    refine ⟨?_, ?_, ?_⟩
    · show 0 < (k + 8) / 8
      omega
    · show k + 8 - 8 = k
      omega
    · show k + 8 ≠ k
      omega
  · simp only [show ¬ (3 = 0) by decide, show ¬ (3 = 1) by decide, show ¬ (3 = 2) by decide, if_false] at hh
    refine ⟨?_, ?_, ?_⟩
    · show (((k - 8) / 8 + 1 : Nat) : Int) < S 0 1
      omega
    · show k - 8 + 8 = k
      omega
    · show k - 8 ≠ k
      omega
theorem sg_opp (hw : sg_wf S) {k d : Nat} (hk : sg_ok S k) (hd : d < 4) (hh : sg_has S k d) : S 5 (4 * sg_nx k d + sg_dd d) = (if S 5 (4 * k + d) = 3 then 4 else if S 5 (4 * k + d) = 4 then 3 else S 5 (4 * k + d)) := hw.2.2.2.2.2.2.2.1 k d hk hd hh
theorem sg_wf_lay (hw : sg_wf S) {k d : Nat} {c : Int} (hk : sg_ok S k) (hd : d < 4) (hh : sg_has S k d) (hc : 0 ≤ c ∧ c ≤ 3) : sg_wf (sg_lay S k d c) := by
  obtain ⟨b1, b2, b3⟩ := sg_back hw hk hd hh
  obtain ⟨dd1, dd2⟩ := sg_dd_lt hd
  refine ⟨hw.1, ⟨hw.2.1.1, hw.2.1.2.1, hw.2.1.2.2.1, hw.2.1.2.2.2.1, fun j hj => ?_, hw.2.1.2.2.2.2.2⟩, hw.2.2.1, hw.2.2.2.1, hw.2.2.2.2.1, hw.2.2.2.2.2.1, hw.2.2.2.2.2.2.1, fun j e hj he hje => ?_, hw.2.2.2.2.2.2.2.2⟩
  · unfold sg_lay
    by_cases q : j = 4 * sg_nx k d + sg_dd d
    · rw [q, mv_up_s]
      split <;> omega
    · rw [mv_up_n (fun z => q z.2)]
      by_cases q2 : j = 4 * k + d
      · rw [q2, mv_up_s]
        omega
      · rw [mv_up_n (fun z => q2 z.2)]
        exact hw.2.1.2.2.2.2.1 j hj
  · obtain ⟨c1, c2, c3⟩ := sg_back hw (k := j) (d := e) hj he hje
    obtain ⟨ee1, ee2⟩ := sg_dd_lt he
    show sg_lay S k d c 5 (4 * sg_nx j e + sg_dd e) = (if sg_lay S k d c 5 (4 * j + e) = 3 then 4 else if sg_lay S k d c 5 (4 * j + e) = 4 then 3 else sg_lay S k d c 5 (4 * j + e))
    unfold sg_lay
    by_cases q1 : j = k ∧ e = d
    · obtain ⟨rfl, rfl⟩ := q1
      rw [mv_up_s, mv_up_n (fun z => by omega), mv_up_s]
      split
      · rfl
      · rw [if_neg (by omega)]
    · by_cases q2 : j = sg_nx k d ∧ e = sg_dd d
      · obtain ⟨rfl, rfl⟩ := q2
        rw [b2, dd2, mv_up_n (fun z => by omega), mv_up_s, mv_up_s]
        by_cases z : c = 3
        · rw [if_pos z, if_neg (by omega), if_pos rfl]
          exact z
        · rw [if_neg z, if_neg z, if_neg (by omega)]
      · have n1 : ¬ (4 * j + e = 4 * k + d) := fun z => q1 ⟨by omega, by omega⟩
        have n2 : ¬ (4 * j + e = 4 * sg_nx k d + sg_dd d) := fun z => q2 ⟨by omega, by omega⟩
        have n3 : ¬ (4 * sg_nx j e + sg_dd e = 4 * k + d) := fun z => by
          have z1 : sg_nx j e = k := by omega
          have z2 : sg_dd e = d := by omega
          exact q2 ⟨by rw [← z1, ← z2, c2], by rw [← z2, ee2]⟩
        have n4 : ¬ (4 * sg_nx j e + sg_dd e = 4 * sg_nx k d + sg_dd d) := fun z => by
          have z1 : sg_nx j e = sg_nx k d := by omega
          have z2 : sg_dd e = sg_dd d := by omega
          have z3 : e = d := by rw [← ee2, ← dd2, z2]
          exact q1 ⟨by rw [← c2, ← b2, z1, z2], z3⟩
        rw [mv_up_n (fun z => n4 z.2), mv_up_n (fun z => n3 z.2), mv_up_n (fun z => n2 z.2), mv_up_n (fun z => n1 z.2)]
        exact sg_opp hw hj he hje
theorem sg_lay_o {k d : Nat} {c : Int} {a i : Nat} (h : a ≠ 5) : sg_lay S k d c a i = S a i := by
  unfold sg_lay
  rw [mv_up_n (fun z => h z.1), mv_up_n (fun z => h z.1)]
theorem sg_C_lay (hw : sg_wf S) (hC : sg_C 0 S M) {k d : Nat} {c c' : Int} (hk : sg_ok S k) (hd : d < 4) (hh : sg_has S k d) (hc : c' = (if c = 3 then 4 else c)) : sg_C 0 (sg_lay S k d c) (mv_up (mv_up M 14 (4 * sg_pl S k + d) c) 14 (4 * sg_pl S (sg_nx k d) + sg_dd d) c') := by
  have hn := sg_nx_ok hw hk hd hh
  obtain ⟨dd1, dd2⟩ := sg_dd_lt hd
  subst hc
  refine ⟨hC.1, fun j hj => ?_, hC.2.2.1, hC.2.2.2.1, hC.2.2.2.2.1, fun j hj => ?_, hC.2.2.2.2.2.2⟩
  · obtain ⟨q1, q2, q3, q4, q5, q6⟩ := hC.2.1 j hj
    refine ⟨q1, q2, q3, q4, q5, fun e he => ?_⟩
    show mv_up (mv_up M 14 (4 * sg_pl S k + d) c) 14 (4 * sg_pl S (sg_nx k d) + sg_dd d) (if c = 3 then 4 else c) 14 (4 * sg_pl S j + e) = sg_lay S k d c 5 (4 * j + e)
    unfold sg_lay
    by_cases r1 : j = sg_nx k d ∧ e = sg_dd d
    · rw [r1.1, r1.2, mv_up_s, mv_up_s]
    · have r1' : ¬ (4 * sg_pl S j + e = 4 * sg_pl S (sg_nx k d) + sg_dd d) := fun z => r1 ⟨sg_pl_inj hw hj hn (by omega), by omega⟩
      by_cases r2 : j = k ∧ e = d
      · obtain ⟨rfl, rfl⟩ := r2
        rw [mv_up_n (fun z => r1' z.2), mv_up_s, mv_up_n (fun z => r1 ⟨by omega, by omega⟩), mv_up_s]
      · have r2' : ¬ (4 * sg_pl S j + e = 4 * sg_pl S k + d) := fun z => r2 ⟨sg_pl_inj hw hj hk (by omega), by omega⟩
        rw [mv_up_n (fun z => r1' z.2), mv_up_n (fun z => r2' z.2), mv_up_n (fun z => r1 ⟨by omega, by omega⟩), mv_up_n (fun z => r2 ⟨by omega, by omega⟩)]
        exact q6 e he
  · obtain ⟨q1, q2, q3, q4, q5, q6, q7, q8⟩ := hC.2.2.2.2.2.1 j hj
    have e : ∀ n, sg_ys (sg_lay S k d c) j n = sg_ys S j n := fun n => by
      unfold sg_lay
      rw [sg_ys_u (by decide), sg_ys_u (by decide)]
    refine ⟨q1, q2, q3, q4, q5, q6, q7, ?_⟩
    rw [e, sg_lay_o (by decide)]
    exact q8
theorem cl_layRoad (hw : sg_wf S) (hC : sg_C 0 S M) {F : mv_Mem → Prop} {k d : Nat} {c : Int} (hk : sg_ok S k) (hd : d < 4) (hh : sg_has S k d) (h : ∀ M', (∀ a i, a ≠ 14 → M' a i = M a i) → sg_C 0 (sg_lay S k d c) M' → F M') :
    mv_Wp G 8 [.inr (.inr 8), .inl (sg_pl S k : Int), .inl (d : Int), .inl c] (mh l) M (mv_qv (mh l) F) := by
  refine vw_X0_layRoad (cl_beside hw hC hk hd ?_)
  obtain ⟨e1, hn⟩ := sg_pb_yes hw hk hh hd
  obtain ⟨dd1, dd2⟩ := sg_dd_lt hd
  have hp := (sg_pl_lt hw hk).2
  have hq := (sg_pl_lt hw hn).2
  rw [if_neg (by omega), e1, sg_xor1 hd, show Int.toNat ((sg_pl S k : Int) * 4 + (d : Int)) = 4 * sg_pl S k + d by omega, show Int.toNat ((sg_pl S (sg_nx k d) : Int) * 4 + (sg_dd d : Int)) = 4 * sg_pl S (sg_nx k d) + sg_dd d by omega]
  refine ⟨by omega, by omega, by omega, by omega, by omega, ?_⟩
  split
  · rename_i q
    exact ⟨by omega, mv_qv_i (h _ (fun a i ha => by rw [mv_up_n (fun z => ha z.1), mv_up_n (fun z => ha z.1)]) (sg_C_lay hw hC hk hd hh (by rw [if_pos q])))⟩
  · rename_i q
    exact ⟨by omega, mv_qv_i (h _ (fun a i ha => by rw [mv_up_n (fun z => ha z.1), mv_up_n (fun z => ha z.1)]) (sg_C_lay hw hC hk hd hh (by rw [if_neg q])))⟩
/-! sets of plans -/
theorem sg_bl_o (S : mv_Mem) (s : Nat) (b : Bool) : ∀ n, ∀ a i, a ≠ 5 → sg_bl S s b n a i = S a i
  | 0, _, _, _ => rfl
  | n + 1, a, i, h => by
    show sg_pm (sg_bt s n) _ _ a i = S a i
    by_cases q : sg_bt s n
    · rw [sg_pm_y q, sg_lay_o h]
      exact sg_bl_o S s b n a i h
    · rw [sg_pm_n q]
      exact sg_bl_o S s b n a i h
theorem sg_wfp (hw : sg_wf S) {p : Nat} (hp : (p : Int) < S 0 5) : sg_ok S (S 20 p).toNat ∧ (S 21 p).toNat < 4 ∧ sg_has S (S 20 p).toNat (S 21 p).toNat ∧ 1 ≤ S 22 p ∧ S 22 p ≤ 3 ∧ 0 ≤ S 23 p ∧ S 23 p ≤ 99999 ∧ 0 ≤ S 21 p := by
  obtain ⟨⟨a1, a2, a3⟩, ⟨b1, b2, b3⟩, c, d⟩ := hw.2.2.2.2.2.2.1 p hp
  exact ⟨a3, by omega, b3, c.1, c.2, d.1, d.2, b1⟩
theorem sg_bl_wf (hw : sg_wf S) (s : Nat) (b : Bool) : ∀ n : Nat, (n : Int) ≤ S 0 5 → sg_wf (sg_bl S s b n)
  | 0, _ => hw
  | n + 1, h => by
    have ih := sg_bl_wf hw s b n (by omega)
    have ho := sg_bl_o S s b n
    show sg_wf (sg_pm (sg_bt s n) _ _)
    by_cases q : sg_bt s n
    · rw [sg_pm_y q]
      obtain ⟨p1, p2, p3, p4, p5, -⟩ := sg_wfp hw (p := n) (by omega)
      refine sg_wf_lay ih ?_ p2 ?_ (by split <;> omega)
      · exact ⟨by rw [ho 0 0 (by decide)]; exact p1.1, by rw [ho 0 1 (by decide)]; exact p1.2⟩
      · unfold sg_has
        rw [ho 0 0 (by decide), ho 0 1 (by decide)]
        exact p3
    · rw [sg_pm_n q]
      exact ih
theorem sg_ok_bl {s : Nat} {b : Bool} {n k : Nat} : sg_ok (sg_bl S s b n) k ↔ sg_ok S k := by
  unfold sg_ok
  rw [sg_bl_o S s b n 0 0 (by decide), sg_bl_o S s b n 0 1 (by decide)]
theorem sg_has_bl {s : Nat} {b : Bool} {n k d : Nat} : sg_has (sg_bl S s b n) k d ↔ sg_has S k d := by
  unfold sg_has
  rw [sg_bl_o S s b n 0 0 (by decide), sg_bl_o S s b n 0 1 (by decide)]
theorem sg_pl_bl {s : Nat} {b : Bool} {n k : Nat} : sg_pl (sg_bl S s b n) k = sg_pl S k := by
  unfold sg_pl
  rw [sg_bl_o S s b n 0 0 (by decide)]
/-- what is touched by the first n plans of a set -/
def sg_tc (S : mv_Mem) (s n i : Nat) : Prop := ∃ p, p < n ∧ sg_bt s p ∧ (i = 4 * (S 20 p).toNat + (S 21 p).toNat ∨ i = 4 * sg_nx (S 20 p).toNat (S 21 p).toNat + sg_dd (S 21 p).toNat)
theorem sg_bl_n {s : Nat} {b : Bool} : ∀ {n i : Nat}, ¬ sg_tc S s n i → sg_bl S s b n 5 i = S 5 i
  | 0, _, _ => rfl
  | n + 1, i, h => by
    have ih : sg_bl S s b n 5 i = S 5 i := sg_bl_n (fun ⟨p, p1, p2⟩ => h ⟨p, by omega, p2⟩)
    show sg_pm (sg_bt s n) _ _ 5 i = S 5 i
    by_cases q : sg_bt s n
    · rw [sg_pm_y q]
      unfold sg_lay
      rw [mv_up_n (fun z => h ⟨n, by omega, q, Or.inr z.2⟩), mv_up_n (fun z => h ⟨n, by omega, q, Or.inl z.2⟩)]
      exact ih
    · rw [sg_pm_n q]
      exact ih
theorem sg_bl_0 {s : Nat} : ∀ {n i : Nat}, sg_tc S s n i → sg_bl S s false n 5 i = 0
  | 0, _, ⟨_, h, _⟩ => by omega
  | n + 1, i, h => by
    show sg_pm (sg_bt s n) _ _ 5 i = 0
    by_cases q : sg_bt s n
    · rw [sg_pm_y q]
      show mv_up (mv_up _ 5 _ (if false = true then S 22 n else 0)) 5 _ (if (if false = true then S 22 n else 0) = 3 then 4 else (if false = true then S 22 n else 0)) 5 i = 0
      rw [if_neg (show ¬ (false = true) by decide), if_neg (show ¬ ((0 : Int) = 3) by decide)]
      by_cases q1 : i = 4 * sg_nx (S 20 n).toNat (S 21 n).toNat + sg_dd (S 21 n).toNat
      · rw [q1, mv_up_s]
      · rw [mv_up_n (fun z => q1 z.2)]
        by_cases q2 : i = 4 * (S 20 n).toNat + (S 21 n).toNat
        · rw [q2, mv_up_s]
        · rw [mv_up_n (fun z => q2 z.2)]
          obtain ⟨p, p1, p2, p3⟩ := h
          refine sg_bl_0 ⟨p, ?_, p2, p3⟩
          rcases Nat.lt_or_ge p n with z | z
          · exact z
          · exfalso
            have : p = n := by omega
            subst this
            rcases p3 with p3 | p3
            · exact q2 p3
            · exact q1 p3
    · rw [sg_pm_n q]
      obtain ⟨p, p1, p2, p3⟩ := h
      refine sg_bl_0 ⟨p, ?_, p2, p3⟩
      rcases Nat.lt_or_ge p n with z | z
      · exact z
      · exfalso
        have : p = n := by omega
        subst this
        exact q p2
/-- built and torn down: as it was, if nothing stood there -/
theorem sg_bl_b (hw : sg_wf S) {s n : Nat} (hn : (n : Int) ≤ S 0 5) (h : ∀ p, p < n → sg_bt s p → ¬ sg_bu S p) : sg_bl (sg_bl S s true n) s false n = S := by
  have ho := sg_bl_o S s true n
  have ht : ∀ i, sg_tc (sg_bl S s true n) s n i ↔ sg_tc S s n i := fun i => by
    unfold sg_tc
    constructor
    · rintro ⟨p, p1, p2, p3⟩
      rw [ho 20 p (by decide), ho 21 p (by decide)] at p3
      exact ⟨p, p1, p2, p3⟩
    · rintro ⟨p, p1, p2, p3⟩
      refine ⟨p, p1, p2, ?_⟩
      rw [ho 20 p (by decide), ho 21 p (by decide)]
      exact p3
  funext a i
  by_cases q : a = 5
  · subst q
    by_cases t : sg_tc S s n i
    · rw [sg_bl_0 ((ht i).2 t)]
      obtain ⟨p, p1, p2, p3⟩ := t
      obtain ⟨k1, k2, k3, -⟩ := sg_wfp hw (p := p) (by omega)
      have h0 : S 5 (4 * (S 20 p).toNat + (S 21 p).toNat) = 0 := Classical.byContradiction (fun z => h p p1 p2 z)
      rcases p3 with p3 | p3
      · rw [p3, h0]
      · rw [p3, sg_opp hw k1 k2 k3, h0]
        decide
    · rw [sg_bl_n (fun z => t ((ht i).1 z)), sg_bl_n t]
  · rw [sg_bl_o _ s false n a i q, ho a i q]
/-- the ways on foot stand in the cells -/
def sg_Wf (S M : mv_Mem) : Prop := sg_tb S M true 41 ∧ ∀ m k : Nat, (m : Int) < S 0 2 → sg_ok S k → M 37 (48 * m + sg_pl S k) = sg_way S true (S 7 m).toNat k
theorem sg_Wf_fr {M' : mv_Mem} (h : sg_Wf S M) (hm : ∀ c, c = 37 ∨ c = 39 ∨ c = 41 → ∀ i, M' c i = M c i) : sg_Wf S M' :=
  ⟨sg_tb_fr h.1 (hm 39 (by omega)) (hm 41 (by omega)), fun m k h1 h2 => (hm 37 (by omega) _).trans (h.2 m k h1 h2)⟩
theorem sg_way_c {S S' : mv_Mem} {wk : Bool} (h0 : ∀ k, sg_ok S' k ↔ sg_ok S k) (hh : ∀ k d, sg_has S' k d ↔ sg_has S k d) (hf : ∀ k d, sg_fee S' wk k d = sg_fee S wk k d) (to k : Nat) : sg_way S' wk to k = sg_way S wk to k := by
  unfold sg_way
  have : (fun f => sg_IW S' wk to f) = (fun f => sg_IW S wk to f) := by
    funext f
    unfold sg_IW sg_cls
    simp only [h0, hh, hf]
  rw [this]
theorem sg_Wf_bl {s : Nat} {b : Bool} {n : Nat} (h : sg_Wf S M) : sg_Wf (sg_bl S s b n) M := by
  have ho := sg_bl_o S s b n
  have hf : ∀ k d, sg_fee (sg_bl S s b n) true k d = sg_fee S true k d := fun k d => by
    unfold sg_fee
    rw [if_pos rfl, if_pos rfl, ho 2 _ (by decide)]
  have hpb : ∀ k d, sg_pb (sg_bl S s b n) k d = sg_pb S k d := fun k d => by
    unfold sg_pb
    rw [sg_pl_bl, ho 0 0 (by decide), ho 0 1 (by decide)]
  refine ⟨fun k d hk hd => ?_, fun m k hm hk => ?_⟩
  · rw [sg_pl_bl, hpb, hf, sg_has_bl]
    exact h.1 k d (sg_ok_bl.1 hk) hd
  · rw [ho 0 2 (by decide)] at hm
    rw [sg_pl_bl, ho 7 m (by decide), sg_way_c (fun k => sg_ok_bl) (fun k d => sg_has_bl) hf]
    exact h.2 m k hm (sg_ok_bl.1 hk)
theorem sg_all_b (hw : sg_wf S) : 0 ≤ sg_all S ∧ sg_all S ≤ 7680000000 := by
  obtain ⟨n48, hn1, hn2⟩ := sg_n48 hw
  unfold sg_all
  rw [sg_fo_fp hw hn1]
  have := sg_fp_b (f := fun k x => x + sg_rt S k) (a := 0) hw (b := 160000000) (by omega) (fun k x hk => by have := sg_rt_b hw hk; omega) n48 (by omega)
  omega
theorem sg_bt_1 {p q : Nat} (h : sg_bt (2 ^ p) q) (hp : p < 8) (hq : q < 8) : q = p := by
  have : ∀ p : Fin 8, ∀ q : Fin 8, 2 ^ p.1 / 2 ^ q.1 % 2 = 1 → q.1 = p.1 := by decide
  exact this ⟨p, hp⟩ ⟨q, hq⟩ h
theorem sg_p2 {p : Nat} (hp : p < 8) : 2 ^ p < 256 := by
  have := Nat.pow_lt_pow_right (a := 2) (by decide) hp
  omega
/-- what works leave as it is -/
def sg_wu (M0 M : mv_Mem) : Prop := ∀ a i, a ≠ 14 → a ≠ 36 → a ≠ 40 → a ≠ 42 → a ≠ 43 → a ≠ 6 → a ≠ 78 → M a i = M0 a i
end WO
end
section
/-! THE CLASS: THE BEST SET OF PLANS, THE ROW, THE TAPE -/
def sg_du (S : mv_Mem) (f : Nat → Int) (k : Nat) : Int := if f k = -1 then -1 else f k / 3
/-- the acre at which a row (r, of len) is wrong, from the place p on, n places -/
noncomputable def sg_jf (S : mv_Mem) (len : Int) (r : Nat → Int) : Nat → Nat → Int
  | 0, _ => if S 0 0 * S 0 1 < len then 99 else -9
  | n + 1, p => if len ≤ (p : Int) ∨ r p ≠ sg_du S (sg_tk S) (sg_in S p) then ((10 * (sg_in S p % 8) + sg_in S p / 8 : Nat) : Int) else sg_jf S len r n (p + 1)
noncomputable def sg_jd (S : mv_Mem) (len : Int) (r : Nat → Int) : Int := sg_jf S len r (S 0 0 * S 0 1).toNat 0
/-- the byte k of a long -/
def sg_by (b : Int) (k : Nat) : Int := b / 256 ^ k % 256
/-- what a text says: a fault's place (-1), width, height -/
def sg_pr (t : Nat → Int) (n : Nat) : Nat → Nat → Int → Int → Int → Int × Int × Int
  | 0, _, w, line, col => if col = 0 ∨ (0 < line ∧ col < w) then ((n : Int), 0, 0) else (-1, (if line = 0 then col else w), line + 1)
  | f + 1, i, w, line, col => if t i = 47 then (if col = 0 ∨ (0 < line ∧ col < w) ∨ line + 1 = 6 then ((i : Int), 0, 0) else sg_pr t n f (i + 1) col (line + 1) 0)
    else if (48 ≤ t i ∧ t i ≤ 57) ∧ col ≠ w then sg_pr t n f (i + 1) w line (col + 1) else ((i : Int), 0, 0)
def sg_prs (t : Nat → Int) (n : Nat) : Int × Int × Int := sg_pr t n n 0 8 0 0
section RW
variable {S : mv_Mem} {G : mv_G} {l : Nat} {M : mv_Mem} {F : Int → mv_Mem → Prop}
/-! the row -/
/-! the tape -/
theorem sg_land255 {x : Int} (hx : mv_R64 x) : mv_land x 255 = x % 256 := by
  have e1 : (Int64.ofInt x).toBitVec = BitVec.ofInt 64 x := rfl
  show ((Int64.ofInt x &&& Int64.ofInt 255).toBitVec).toInt = x % 256
  rw [Int64.toBitVec_and, e1]
  have e2 : (Int64.ofInt 255).toBitVec = 255#64 := rfl
  rw [e2]
  have h1 : (BitVec.ofInt 64 x &&& 255#64).toNat = (x % 256).toNat := by
    rw [BitVec.toNat_and, BitVec.toNat_ofInt]
    have : (255#64).toNat = 2 ^ 8 - 1 := rfl
    rw [this, Nat.and_two_pow_sub_one_eq_mod]
    have h2 : (2 : Int) ^ 64 = 18446744073709551616 := by decide
    omega
  rw [BitVec.toInt_eq_toNat_of_lt (by rw [h1]; omega), h1]
  omega
theorem sg_lushr8 {x : Int} (hx : mv_R64 x) : mv_lushr x 8 = x % 18446744073709551616 / 256 := by
  have e1 : (Int64.ofInt x).toBitVec = BitVec.ofInt 64 x := rfl
  show (BitVec.ofInt 64 x >>> (8 : Nat)).toInt = _
  have h1 : (BitVec.ofInt 64 x >>> (8 : Nat)).toNat = (x % 18446744073709551616 / 256).toNat := by
    rw [BitVec.toNat_ushiftRight, BitVec.toNat_ofInt, Nat.shiftRight_eq_div_pow]
    have h2 : (2 : Int) ^ 64 = 18446744073709551616 := by decide
    omega
  rw [BitVec.toInt_eq_toNat_of_lt (by rw [h1]; omega), h1]
  omega
/-- what the tape's long is after k bytes -/
def sg_ls (b : Int) (k : Nat) : Int := if k = 0 then b else b % 18446744073709551616 / 256 ^ k
theorem sg_p256 : ∀ k : Nat, 0 < (256 : Int) ^ k
  | 0 => by decide
  | k + 1 => by
    rw [Int.pow_succ]
    have := sg_p256 k
    omega
theorem sg_ls_r {b : Int} (hb : mv_R64 b) (k : Nat) : mv_R64 (sg_ls b k) ∧ (0 < k → sg_ls b k < 18446744073709551616 / 256 ∧ 0 ≤ sg_ls b k) := by
  unfold sg_ls
  split
  · rename_i q
    exact ⟨hb, fun z => by omega⟩
  · rename_i q
    obtain ⟨j, hj⟩ : ∃ j, k = j + 1 := ⟨k - 1, by omega⟩
    subst hj
    have h1 : b % 18446744073709551616 / 256 ^ (j + 1) = b % 18446744073709551616 / 256 / 256 ^ j := by
      rw [Int.pow_succ, Int.mul_comm, Int.ediv_ediv_of_nonneg (by decide)]
    rw [h1]
    have h2 : 0 ≤ b % 18446744073709551616 / 256 := by omega
    have h3 : b % 18446744073709551616 / 256 < 72057594037927936 := by omega
    have h4 : b % 18446744073709551616 / 256 / 256 ^ j ≤ b % 18446744073709551616 / 256 := Int.ediv_le_self _ h2
    have h5 : 0 ≤ b % 18446744073709551616 / 256 / 256 ^ j := Int.ediv_nonneg h2 (Int.le_of_lt (sg_p256 j))
    refine ⟨by omega, fun _ => by omega⟩
theorem sg_ls_s {b : Int} (hb : mv_R64 b) (k : Nat) : mv_lushr (sg_ls b k) 8 = sg_ls b (k + 1) := by
  have h := sg_ls_r hb k
  rw [sg_lushr8 h.1]
  by_cases q : k = 0
  · subst q
    unfold sg_ls
    rw [if_pos rfl, if_neg (by omega)]
    rfl
  · have h1 := h.2 (by omega)
    have e : sg_ls b (k + 1) = sg_ls b k / 256 := by
      unfold sg_ls
      rw [if_neg (by omega), if_neg q, Int.pow_succ, Int.ediv_ediv_of_nonneg (Int.le_of_lt (sg_p256 k))]
    rw [e, Int.emod_eq_of_lt h1.2 (by omega)]
theorem sg_ls_b {b : Int} (hb : mv_R64 b) {k : Nat} (hk : k < 8) : mv_land (sg_ls b k) 255 = sg_by b k := by
  rw [sg_land255 (sg_ls_r hb k).1]
  unfold sg_ls sg_by
  rcases (show k = 0 ∨ k = 1 ∨ k = 2 ∨ k = 3 ∨ k = 4 ∨ k = 5 ∨ k = 6 ∨ k = 7 by omega) with rfl | rfl | rfl | rfl | rfl | rfl | rfl | rfl
  · rw [if_pos rfl, show (256 : Int) ^ 0 = 1 by decide]
    omega
  all_goals rw [if_neg (by decide)]
  · rw [show (256 : Int) ^ 1 = 256 by decide]; omega
  · rw [show (256 : Int) ^ 2 = 65536 by decide]; omega
  · rw [show (256 : Int) ^ 3 = 16777216 by decide]; omega
  · rw [show (256 : Int) ^ 4 = 4294967296 by decide]; omega
  · rw [show (256 : Int) ^ 5 = 1099511627776 by decide]; omega
  · rw [show (256 : Int) ^ 6 = 281474976710656 by decide]; omega
  · rw [show (256 : Int) ^ 7 = 72057594037927936 by decide]; omega
theorem cl_tapeAppend {M0 : mv_Mem} {F : mv_Mem → Prop} {n len : Nat} {b : Int} (hb : mv_R64 b) (hn : n ≤ 8) (hl : M0 2 1 = (len : Int)) (hl2 : len + n ≤ 60)
    (h : ∀ M, (∀ a i, a ≠ 2 → a ≠ 3 → M a i = M0 a i) → (∀ i, i < len → M 3 i = M0 3 i) → (∀ i, i < n → M 3 (len + i) = sg_by b i) → M 2 1 = ((len + n : Nat) : Int) → F M) :
    mv_Wp G 46 [.inr (.inr 2), .inl (n : Int), .inr (.inl b)] (mh l) M0 (mv_qv (mh l) F) := by
  have key : ∀ (m k : Nat) (M : mv_Mem), k + m = n → (∀ a i, a ≠ 2 → a ≠ 3 → M a i = M0 a i) → (∀ i, i < len → M 3 i = M0 3 i) → (∀ i, i < k → M 3 (len + i) = sg_by b i) → M 2 1 = ((len + k : Nat) : Int) →
      mv_Run G 46 87 4749 6 [(0, .inr (.inr 2)), (1, .inl (n : Int)), (4, .inr (.inl (sg_ls b k))), (6, .inl (k : Int))] [] (mh l) M (mv_qv (mh l) F) := by
    intro m
    induction m with
    | zero =>
      intro k M hk hfr h1 h2 h3
      refine vr_X5_append_6 ?_
      rw [if_pos (by omega)]
      have e : k = n := by omega
      subst e
      exact mv_qv_i (h M hfr h1 h2 h3)
    | succ m ih =>
      intro k M hk hfr h1 h2 h3
      refine vr_X5_append_6 ?_
      have e : ∀ v, (mv_up M 3 (len + k) v) 2 1 = ((len + k : Nat) : Int) := fun v => by
        rw [mv_up_n (fun z => by omega)]
        exact h3
      rw [if_neg (by omega), h3, if_neg (by omega), Int.toNat_natCast, e, sg_ls_b hb (by omega), sg_ls_s hb]
      have hby : 0 ≤ sg_by b k ∧ sg_by b k < 256 := by
        unfold sg_by
        omega
      refine ⟨by omega, by omega, by omega, by omega, ih (k + 1) _ (by omega) (fun a i a1 a2 => by rw [mv_up_n (fun z => a1 z.1), mv_up_n (fun z => a2 z.1)]; exact hfr a i a1 a2) (fun i hi => by rw [mv_up_n (fun z => by omega), mv_up_n (fun z => by omega)]; exact h1 i hi) (fun i hi => ?_) (by rw [mv_up_s]; omega)⟩
      rw [mv_up_n (fun z => by omega)]
      by_cases q : i = k
      · rw [q, mv_up_s]
      · rw [mv_up_n (fun z => by omega)]
        exact h2 i (by omega)
  refine vw_X5_append ?_
  exact key n 0 M0 (by omega) (fun _ _ _ _ => rfl) (fun _ _ => rfl) (fun i hi => by omega) (by rw [hl]; rfl)
theorem cl_isDigit {x : Int} (h1 : 48 ≤ x ∧ x ≤ 57 → F 1 M) (h0 : ¬ (48 ≤ x ∧ x ≤ 57) → F 0 M) : mv_Wp G 48 [.inl x] (mh l) M (mv_qi (mh l) F) := by
  refine vw_X5_isDigit ?_
  split
  · exact ⟨by decide, mv_qi_i (h0 (by omega))⟩
  · split
    · exact ⟨by decide, mv_qi_i (h0 (by omega))⟩
    · exact ⟨by decide, mv_qi_i (h1 (by omega))⟩
theorem cl_firstFault {n : Nat} (hl : M 2 1 = (n : Int)) (hn : n ≤ 60) (h : F (sg_prs (M 3) n).1 M) : mv_Wp G 47 [.inr (.inr 2)] (mh l) M (mv_qi (mh l) F) := by
  have key : ∀ (f i : Nat) (w line col : Int), i + f = n → 0 ≤ w → w ≤ 8 → 0 ≤ line → line ≤ 5 → 0 ≤ col → col ≤ w → F (sg_pr (M 3) n f i w line col).1 M →
      mv_Run G 47 87 4749 10 [(0, .inr (.inr 2)), (1, .inl w), (2, .inl line), (3, .inl col), (4, .inl (i : Int))] [] (mh l) M (mv_qi (mh l) F) := by
    intro f
    induction f with
    | zero =>
      intro i w line col hi hw0 hw hl0 hl5 hc hcw hF
      refine vr_X5_firstFault_10 ?_
      unfold sg_pr at hF
      rw [hl, if_pos (by omega)]
      split
      · rw [if_pos (by omega)] at hF
        exact mv_qi_i hF
      · split
        · rw [if_neg (by omega)] at hF
          exact mv_qi_i hF
        · split
          · rw [if_neg (by omega)] at hF
            exact mv_qi_i hF
          · rw [if_pos (by omega)] at hF
            exact mv_qi_i hF
    | succ f ih =>
      intro i w line col hi hw0 hw hl0 hl5 hc hcw hF
      refine vr_X5_firstFault_10 ?_
      unfold sg_pr at hF
      rw [hl, if_neg (by omega), Int.toNat_natCast]
      refine ⟨by omega, ?_⟩
      split
      · rename_i q
        rw [if_pos q] at hF
        split
        · rw [if_pos (by omega)] at hF
          exact mv_qi_i hF
        · split
          · refine ⟨by omega, ?_⟩
            split
            · rw [if_pos (by omega)] at hF
              exact mv_qi_i hF
            · rw [if_neg (by omega)] at hF
              exact ⟨by omega, by omega, ih (i + 1) col (line + 1) 0 (by omega) (by omega) (by omega) (by omega) (by omega) (by omega) (by omega) hF⟩
          · split
            · rw [if_pos (by omega)] at hF
              exact mv_qi_i hF
            · refine ⟨by omega, ?_⟩
              split
              · rw [if_pos (by omega)] at hF
                exact mv_qi_i hF
              · rw [if_neg (by omega)] at hF
                exact ⟨by omega, by omega, ih (i + 1) col (line + 1) 0 (by omega) (by omega) (by omega) (by omega) (by omega) (by omega) (by omega) hF⟩
      · rename_i q
        rw [if_neg q] at hF
        refine ⟨by omega, cl_isDigit (fun q2 => ?_) (fun q2 => ?_)⟩
        · rw [if_neg (by decide)]
          split
          · rename_i q3
            rw [if_neg (fun z => z.2 q3)] at hF
            exact mv_qi_i hF
          · rename_i q3
            rw [if_pos ⟨q2, q3⟩] at hF
            exact ⟨by omega, by omega, ih (i + 1) w line (col + 1) (by omega) (by omega) (by omega) (by omega) (by omega) (by omega) (by omega) hF⟩
        · rw [if_neg (fun z => q2 z.1)] at hF
          rw [if_pos rfl]
          exact mv_qi_i hF
  refine vw_X5_firstFault ?_
  exact key n 0 8 0 0 (by omega) (by omega) (by omega) (by omega) (by omega) (by omega) (by omega) h
end RW
end
section
/-! THE CLASS: A LAND OF A TEXT, IMAGES -/
/-- t, of n, is a text of H lines of W digits -/
def sg_tx (t : Nat → Int) (n W H : Nat) : Prop := (1 ≤ W ∧ W ≤ 8) ∧ (1 ≤ H ∧ H ≤ 6) ∧ n + 1 = H * (W + 1) ∧ (∀ y x, y < H → x < W → 48 ≤ t (y * (W + 1) + x) ∧ t (y * (W + 1) + x) ≤ 57) ∧ ∀ y, y + 1 < H → t (y * (W + 1) + W) = 47
/-- the state behind a text that was read -/
noncomputable def sg_rdS (S : mv_Mem) (t : Nat → Int) (W H : Nat) : mv_Mem := fun a i =>
  if a = 0 then (if i = 0 then (W : Int) else if i = 1 then (H : Int) else if i = 2 ∨ i = 5 ∨ i = 6 then 0 else S 0 i)
  else if a = 1 then (if i % 8 < W ∧ i / 8 < H then t (i / 8 * (W + 1) + i % 8) - 48 else 0)
  else if a = 2 ∨ a = 4 ∨ a = 5 then 0 else if a = 3 then -1 else S a i
theorem sg_prs_i (t : Nat → Int) (n : Nat) : ∀ (f i Y X W : Nat) (w : Int), i + f = n → Y ≤ 5 → (if Y = 0 then w = 8 ∧ X ≤ 8 else w = (W : Int) ∧ 1 ≤ W ∧ W ≤ 8 ∧ X ≤ W) → i = (if Y = 0 then X else Y * (W + 1) + X) →
    (∀ y x, y < Y → x < W → 48 ≤ t (y * (W + 1) + x) ∧ t (y * (W + 1) + x) ≤ 57) → (∀ y, y < Y → t (y * (W + 1) + W) = 47) → (∀ x, x < X → 48 ≤ t ((if Y = 0 then 0 else Y * (W + 1)) + x) ∧ t ((if Y = 0 then 0 else Y * (W + 1)) + x) ≤ 57) →
    (∃ j : Nat, j ≤ n ∧ sg_pr t n f i w Y X = ((j : Int), 0, 0)) ∨ ∃ W H : Nat, sg_pr t n f i w Y X = (-1, (W : Int), (H : Int)) ∧ sg_tx t n W H := by
  intro f
  induction f with
  | zero =>
    intro i Y X W w hi hY hw hp h1 h2 h3
    unfold sg_pr
    split
    · exact Or.inl ⟨n, Nat.le_refl _, rfl⟩
    · rename_i q
      refine Or.inr ?_
      by_cases y0 : Y = 0
      · subst y0
        simp only [if_true] at hw hp h3
        refine ⟨X, 1, ?_, ⟨by omega, by omega⟩, by omega, by omega, fun y x hy hx => ?_, fun y hy => by omega⟩
        · rw [if_pos (show ((0 : Nat) : Int) = 0 from rfl)]
          rfl
        · have hy0 : y = 0 := by omega
          subst hy0
          have := h3 x hx
          rw [Nat.zero_add] at this
          rw [Nat.zero_mul, Nat.zero_add]
          exact this
      · rw [if_neg y0] at hw hp
        rw [if_neg y0] at h3
        have hX : X = W := by omega
        subst hX
        refine ⟨X, Y + 1, ?_, ⟨by omega, by omega⟩, by omega, ?_, fun y x hy hx => ?_, fun y hy => h2 y (by omega)⟩
        · rw [if_neg (by omega), hw.1]
          rfl
        · rw [Nat.succ_mul]
          omega
        · by_cases z : y = Y
          · rw [z]
            exact h3 x hx
          · exact h1 y x (by omega) hx
  | succ f ih =>
    intro i Y X W w hi hY hw hp h1 h2 h3
    unfold sg_pr
    split
    · rename_i q
      split
      · exact Or.inl ⟨i, by omega, rfl⟩
      · rename_i q2
        have hx := ih (i + 1) (Y + 1) 0 X (X : Int) (by omega) (by omega) (by
          rw [if_neg (by omega)]
          by_cases y0 : Y = 0
          · rw [if_pos y0] at hw
            omega
          · rw [if_neg y0] at hw
            omega) (by
          rw [if_neg (by omega), Nat.succ_mul]
          by_cases y0 : Y = 0
          · rw [if_pos y0] at hp
            rw [y0, Nat.zero_mul]
            omega
          · rw [if_neg y0] at hp hw
            have : X = W := by omega
            rw [this]
            omega) (fun y x hy hx => by
          by_cases y0 : Y = 0
          · subst y0
            simp only [if_true] at h3
            have hy0 : y = 0 := by omega
            subst hy0
            have := h3 x hx
            rw [Nat.zero_add] at this
            rw [Nat.zero_mul, Nat.zero_add]
            exact this
          · rw [if_neg y0] at hw h3
            have hX : X = W := by omega
            rw [hX] at hx ⊢
            by_cases z : y = Y
            · rw [z]
              exact h3 x (by omega)
            · exact h1 y x (by omega) hx) (fun y hy => by
          by_cases y0 : Y = 0
          · subst y0
            simp only [if_true] at hp
            have hy0 : y = 0 := by omega
            subst hy0
            rw [Nat.zero_mul, Nat.zero_add, ← hp]
            exact q
          · rw [if_neg y0] at hw hp
            have hX : X = W := by omega
            rw [hX]
            by_cases z : y = Y
            · rw [z, ← hX]
              rw [← hX] at hp
              rw [← hp]
              exact q
            · exact h2 y (by omega)) (fun x hx => by omega)
        exact hx
    · rename_i q
      split
      · rename_i q2
        have hx := ih (i + 1) Y (X + 1) W w (by omega) hY (by
          by_cases y0 : Y = 0
          · rw [if_pos y0] at hw ⊢
            omega
          · rw [if_neg y0] at hw ⊢
            omega) (by
          by_cases y0 : Y = 0
          · rw [if_pos y0] at hp ⊢
            omega
          · rw [if_neg y0] at hp ⊢
            omega) h1 h2 (fun x hx => by
          by_cases z : x = X
          · have e : (if Y = 0 then 0 else Y * (W + 1)) + x = i := by
              rw [z]
              by_cases y0 : Y = 0
              · rw [if_pos y0] at hp ⊢
                omega
              · rw [if_neg y0] at hp ⊢
                omega
            rw [e]
            exact q2.1
          · exact h3 x (by omega))
        exact hx
      · exact Or.inl ⟨i, by omega, rfl⟩
theorem sg_prs_c (t : Nat → Int) (n : Nat) : (∃ j : Nat, j ≤ n ∧ sg_prs t n = ((j : Int), 0, 0)) ∨ ∃ W H : Nat, sg_prs t n = (-1, (W : Int), (H : Int)) ∧ sg_tx t n W H :=
  sg_prs_i t n n 0 0 0 0 8 (by omega) (by omega) ⟨rfl, by omega⟩ rfl (fun y x hy => by omega) (fun y hy => by omega) (fun x hx => by omega)
section TX
variable {S : mv_Mem} {G : mv_G} {l : Nat} {M : mv_Mem}
theorem sg_wf_rd (hw : sg_wf S) {t : Nat → Int} {n W H : Nat} (ht : sg_tx t n W H) : sg_wf (sg_rdS S t W H) := by
  obtain ⟨t1, t2, t3, t4, t5⟩ := ht
  have e0 : sg_rdS S t W H 0 0 = (W : Int) := rfl
  have e1 : sg_rdS S t W H 0 1 = (H : Int) := rfl
  refine ⟨⟨?_, ?_, ?_, hw.1.2.2.2.1, hw.1.2.2.2.2.1, ?_, ?_⟩, ⟨fun i hi => ?_, fun i hi => ?_, fun i hi => ?_, fun i hi => ?_, fun i hi => ?_, hw.2.1.2.2.2.2.2⟩, fun m hm => ?_, fun m m' hm => ?_, hw.2.2.2.2.1, hw.2.2.2.2.2.1, fun p hp => ?_, fun k d hk hd hh => ?_, hw.2.2.2.2.2.2.2.2⟩
  · rw [e0]; omega
  · rw [e1]; omega
  · show (0 : Int) ≤ 0 ∧ (0 : Int) ≤ 3
    decide
  · show (0 : Int) ≤ 0 ∧ (0 : Int) ≤ 8
    decide
  · show (0 : Int) ≤ 0 ∧ (0 : Int) ≤ 12
    decide
  · show 0 ≤ (if i % 8 < W ∧ i / 8 < H then t (i / 8 * (W + 1) + i % 8) - 48 else 0) ∧ (if i % 8 < W ∧ i / 8 < H then t (i / 8 * (W + 1) + i % 8) - 48 else 0) ≤ 9
    split
    · rename_i q
      have := t4 (i / 8) (i % 8) q.2 q.1
      omega
    · decide
  · show (0 : Int) ≤ 0 ∧ (0 : Int) ≤ 99
    decide
  · show (-1 : Int) ≤ -1 ∧ (-1 : Int) ≤ 3
    decide
  · show (0 : Int) ≤ 0 ∧ (0 : Int) ≤ 1
    decide
  · show (0 : Int) ≤ 0 ∧ (0 : Int) ≤ 4
    decide
  · have : (m : Int) < 0 := hm
    omega
  · have : (m : Int) < 0 := hm
    omega
  · have : (p : Int) < 0 := hp
    omega
  · show (0 : Int) = (if (0 : Int) = 3 then 4 else if (0 : Int) = 4 then 3 else 0)
    decide
theorem cl_clearAway {M0 : mv_Mem} {F : mv_Mem → Prop} (h : ∀ M, (∀ a i, a ≠ 8 → a ≠ 11 → a ≠ 12 → a ≠ 13 → a ≠ 14 → M a i = M0 a i) → (M 8 2 = 0 ∧ M 8 3 = 0 ∧ M 8 4 = 0) → (∀ i, i < 48 → M 11 i = 0 ∧ M 12 i = -1 ∧ M 13 i = 0) → (∀ i, i < 192 → M 14 i = 0) → F M) :
    mv_Wp G 2 [.inr (.inr 8)] (mh l) M0 (mv_qv (mh l) F) := by
  have key2 : ∀ (n p : Nat) (M : mv_Mem), p + n = 192 → (∀ a i, a ≠ 8 → a ≠ 11 → a ≠ 12 → a ≠ 13 → a ≠ 14 → M a i = M0 a i) → (M 8 2 = 0 ∧ M 8 3 = 0 ∧ M 8 4 = 0) → (∀ i, i < 48 → M 11 i = 0 ∧ M 12 i = -1 ∧ M 13 i = 0) → (∀ i, i < p → M 14 i = 0) →
      mv_Run G 2 87 4749 52 [(0, .inr (.inr 8)), (1, .inl (p : Int))] [] (mh l) M (mv_qv (mh l) F) := by
    intro n
    induction n with
    | zero =>
      intro p M hn hfr h1 h2 h3
      refine vr_X0_clearAway_52 ?_
      rw [if_pos (by omega)]
      exact mv_qv_i (h M hfr h1 h2 (fun i hi => h3 i (by omega)))
    | succ n ih =>
      intro p M hn hfr h1 h2 h3
      refine vr_X0_clearAway_52 ?_
      rw [if_neg (by omega), Int.toNat_natCast]
      refine ⟨by omega, by omega, ih (p + 1) _ (by omega) (fun a i a1 a2 a3 a4 a5 => by rw [mv_up_n (fun z => a5 z.1)]; exact hfr a i a1 a2 a3 a4 a5) ?_ (fun i hi => ?_) (fun i hi => ?_)⟩
      · rw [mv_up_n (fun z => by omega), mv_up_n (fun z => by omega), mv_up_n (fun z => by omega)]
        exact h1
      · rw [mv_up_n (fun z => by omega), mv_up_n (fun z => by omega), mv_up_n (fun z => by omega)]
        exact h2 i hi
      · by_cases q : i = p
        · rw [q, mv_up_s]
        · rw [mv_up_n (fun z => q z.2)]
          exact h3 i (by omega)
  have key : ∀ (n p : Nat) (M : mv_Mem), p + n = 48 → (∀ a i, a ≠ 8 → a ≠ 11 → a ≠ 12 → a ≠ 13 → a ≠ 14 → M a i = M0 a i) → (M 8 2 = 0 ∧ M 8 3 = 0 ∧ M 8 4 = 0) → (∀ i, i < p → M 11 i = 0 ∧ M 12 i = -1 ∧ M 13 i = 0) →
      mv_Run G 2 87 4749 17 [(0, .inr (.inr 8)), (1, .inl (p : Int))] [] (mh l) M (mv_qv (mh l) F) := by
    intro n
    induction n with
    | zero =>
      intro p M hn hfr h1 h2
      refine vr_X0_clearAway_17 ?_
      rw [if_pos (by omega)]
      exact key2 192 0 M (by omega) hfr h1 (fun i hi => h2 i (by omega)) (fun i hi => by omega)
    | succ n ih =>
      intro p M hn hfr h1 h2
      refine vr_X0_clearAway_17 ?_
      rw [if_neg (by omega), Int.toNat_natCast]
      refine ⟨by omega, by omega, by omega, by omega, ih (p + 1) _ (by omega) (fun a i a1 a2 a3 a4 a5 => by rw [mv_up_n (fun z => a4 z.1), mv_up_n (fun z => a3 z.1), mv_up_n (fun z => a2 z.1)]; exact hfr a i a1 a2 a3 a4 a5) ?_ (fun i hi => ?_)⟩
      · have e : ∀ i, (mv_up (mv_up (mv_up M 11 p 0) 12 p (-1)) 13 p 0) 8 i = M 8 i := fun i => by
          rw [mv_up_n (fun z => by omega), mv_up_n (fun z => by omega), mv_up_n (fun z => by omega)]
        rw [e, e, e]
        exact h1
      · by_cases q : i = p
        · subst q
          refine ⟨?_, ?_, ?_⟩
          · rw [mv_up_n (fun z => by omega), mv_up_n (fun z => by omega), mv_up_s]
          · rw [mv_up_n (fun z => by omega), mv_up_s]
          · rw [mv_up_s]
        · obtain ⟨g1, g2, g3⟩ := h2 i (by omega)
          refine ⟨?_, ?_, ?_⟩
          · rw [mv_up_n (fun z => by omega), mv_up_n (fun z => by omega), mv_up_n (fun z => by omega)]
            exact g1
          · rw [mv_up_n (fun z => by omega), mv_up_n (fun z => by omega), mv_up_n (fun z => by omega)]
            exact g2
          · rw [mv_up_n (fun z => by omega), mv_up_n (fun z => by omega), mv_up_n (fun z => by omega)]
            exact g3
  refine vw_X0_clearAway ?_
  refine key 48 0 _ (by omega) (fun a i a1 _ _ _ _ => by rw [mv_up_n (fun z => a1 z.1), mv_up_n (fun z => a1 z.1), mv_up_n (fun z => a1 z.1)]) ⟨?_, ?_, ?_⟩ (fun i hi => by omega)
  · rw [mv_up_n (fun z => by omega), mv_up_n (fun z => by omega), mv_up_s]
  · rw [mv_up_n (fun z => by omega), mv_up_s]
  · rw [mv_up_s]
theorem cl_layOut (hw : sg_wf S) {M0 : mv_Mem} (hC : sg_C 0 S M0) {F : mv_Mem → Prop} {n W H : Nat} (hl : M0 2 1 = (n : Int)) (hn : n ≤ 60) (ht : sg_tx (M0 3) n W H)
    (h : ∀ M, (∀ a i, ¬ (8 ≤ a ∧ a ≤ 14) → M a i = M0 a i) → sg_C 0 (sg_rdS S (M0 3) W H) (mv_up M 30 0 0) → F M) :
    mv_Wp G 1 [.inr (.inr 8), .inr (.inr 2)] (mh l) M0 (mv_qv (mh l) F) := by
  obtain ⟨tW, tH, tn, tdig, tsl⟩ := id ht
  have hwd := hw.1.1
  have key : ∀ (m y x : Nat) (M : mv_Mem), y * (W + 1) + x + m = n → y < H → x ≤ W → (∀ a i, ¬ (8 ≤ a ∧ a ≤ 14) → M a i = M0 a i) → (M 8 2 = ((y * W + x : Nat) : Int) ∧ M 8 3 = 0 ∧ M 8 4 = 0) → (∀ i, i < 48 → M 11 i = 0 ∧ M 12 i = -1 ∧ M 13 i = 0) → (∀ i, i < 192 → M 14 i = 0) →
      (∀ y' x', x' < W → y' * W + x' < y * W + x → M 10 (y' * W + x') = M0 3 (y' * (W + 1) + x') - 48 ∧ M 9 (y' * W + x') = ((10 * x' + y' : Nat) : Int)) →
      mv_Run G 1 87 4749 11 [(0, .inr (.inr 8)), (1, .inr (.inr 2)), (2, .inl (x : Int)), (3, .inl (y : Int)), (4, .inl ((y * (W + 1) + x : Nat) : Int))] [] (mh l) M (mv_qv (mh l) F) := by
    intro m
    induction m with
    | zero =>
      intro y x M hm hy hx hfr h8 h11 h14 hd
      refine vr_X0_layOut_11 ?_
      have c1 : M 2 1 = (n : Int) := (hfr 2 1 (by omega)).trans hl
      rw [c1, if_pos (by omega)]
      -- it is the end of the last line
      have hyH : y + 1 = H := by
        rcases Nat.lt_or_ge (y + 1) H with z | z
        · exfalso
          have z2 : (y + 1 + 1) * (W + 1) ≤ H * (W + 1) := Nat.mul_le_mul_right _ z
          rw [Nat.succ_mul, Nat.succ_mul] at z2
          omega
        · omega
      have hxW : x = W := by
        rw [← hyH, Nat.succ_mul] at tn
        omega
      subst hxW
      have hyW : y * x + x = H * x := by rw [← hyH, Nat.succ_mul]
      refine ⟨by omega, mv_qv_i (h _ (fun a i ha => by rw [mv_up_n (fun z => ha (by omega)), mv_up_n (fun z => ha (by omega))]; exact hfr a i ha) ?_)⟩
      have g : ∀ a i, a ≠ 8 → a ≠ 30 → (mv_up (mv_up (mv_up M 8 0 (x : Int)) 8 1 ((y : Int) + 1)) 30 0 0) a i = M a i := fun a i a1 a2 => by
        rw [mv_up_n (fun z => a2 z.1), mv_up_n (fun z => a1 z.1), mv_up_n (fun z => a1 z.1)]
      have gM : ∀ a i, ¬ (8 ≤ a ∧ a ≤ 14) → a ≠ 30 → (mv_up (mv_up (mv_up M 8 0 (x : Int)) 8 1 ((y : Int) + 1)) 30 0 0) a i = M0 a i := fun a i a1 a2 => (g a i (by omega) a2).trans (hfr a i a1)
      refine ⟨⟨?_, ?_, ?_, ?_, ?_⟩, fun k hk => ?_, fun m hm => ?_, fun i hi => (gM 16 i (by omega) (by decide)).trans (hC.2.2.2.1 i hi), ⟨(gM 17 0 (by omega) (by decide)).trans hC.2.2.2.2.1.1, (gM 17 1 (by omega) (by decide)).trans hC.2.2.2.2.1.2⟩, fun i hi => ?_, fun i hi => ?_, fun i hi => ?_, ?_, fun p hp => ?_⟩
      · show (mv_up (mv_up (mv_up M 8 0 (x : Int)) 8 1 ((y : Int) + 1)) 30 0 0) 8 0 = (x : Int)
        rw [mv_up_n (fun z => by omega), mv_up_n (fun z => by omega), mv_up_s]
      · show (mv_up (mv_up (mv_up M 8 0 (x : Int)) 8 1 ((y : Int) + 1)) 30 0 0) 8 1 = (H : Int)
        rw [mv_up_n (fun z => by omega), mv_up_s]
        omega
      · show (mv_up (mv_up (mv_up M 8 0 (x : Int)) 8 1 ((y : Int) + 1)) 30 0 0) 8 2 = (x : Int) * (H : Int)
        rw [mv_up_n (fun z => by omega), mv_up_n (fun z => by omega), mv_up_n (fun z => by omega), h8.1, hyW, Int.natCast_mul, Int.mul_comm]
      · show (mv_up (mv_up (mv_up M 8 0 (x : Int)) 8 1 ((y : Int) + 1)) 30 0 0) 8 3 = 0
        rw [mv_up_n (fun z => by omega), mv_up_n (fun z => by omega), mv_up_n (fun z => by omega), h8.2.1]
      · show (mv_up (mv_up (mv_up M 8 0 (x : Int)) 8 1 ((y : Int) + 1)) 30 0 0) 8 4 = 0
        rw [mv_up_n (fun z => by omega), mv_up_n (fun z => by omega), mv_up_n (fun z => by omega), h8.2.2]
      · have hk1 : k % 8 < x := by
          have : ((k % 8 : Nat) : Int) < (x : Int) := hk.1
          omega
        have hk2 : k / 8 < H := by
          have : ((k / 8 : Nat) : Int) < (H : Int) := hk.2
          omega
        have epl : sg_pl (sg_rdS S (M0 3) x H) k = k / 8 * x + k % 8 := rfl
        have hlt : k / 8 * x + k % 8 < y * x + x := by
          have z : (k / 8 + 1) * x ≤ (y + 1) * x := Nat.mul_le_mul_right _ (by omega)
          rw [Nat.succ_mul, Nat.succ_mul] at z
          omega
        have h48 : y * x + x ≤ 48 := by
          rw [hyW]
          exact Nat.le_trans (Nat.mul_le_mul tH.2 tW.2) (by decide)
        obtain ⟨q1, q2⟩ := hd (k / 8) (k % 8) hk1 hlt
        obtain ⟨q3, q4, q5⟩ := h11 (k / 8 * x + k % 8) (by omega)
        have es : sg_rdS S (M0 3) x H 1 k = M0 3 (k / 8 * (x + 1) + k % 8) - 48 := by
          show (if k % 8 < x ∧ k / 8 < H then M0 3 (k / 8 * (x + 1) + k % 8) - 48 else 0) = _
          rw [if_pos ⟨hk1, hk2⟩]
        rw [epl, es]
        refine ⟨(g 9 _ (by decide) (by decide)).trans q2, (g 10 _ (by decide) (by decide)).trans q1, (g 11 _ (by decide) (by decide)).trans q3, (g 12 _ (by decide) (by decide)).trans q4, (g 13 _ (by decide) (by decide)).trans q5, fun d hd4 => (g 14 _ (by decide) (by decide)).trans (h14 _ (by omega))⟩
      · have : (m : Int) < 0 := hm
        omega
      · have q := hC.2.2.2.2.2.1 i hi
        have ey : ∀ n, sg_ys (sg_rdS S (M0 3) x H) i n = sg_ys S i n := by
          intro n
          induction n with
          | zero => rfl
          | succ n ihn =>
            show sg_ys (sg_rdS S (M0 3) x H) i n + S 14 (6 * i + n) = sg_ys S i n + S 14 (6 * i + n)
            rw [ihn]
        exact ⟨(gM 18 i (by omega) (by decide)).trans q.1, (gM 19 i (by omega) (by decide)).trans q.2.1, (gM 20 i (by omega) (by decide)).trans q.2.2.1, (gM 21 i (by omega) (by decide)).trans q.2.2.2.1, (gM 22 i (by omega) (by decide)).trans q.2.2.2.2.1, (gM 23 i (by omega) (by decide)).trans q.2.2.2.2.2.1, (gM 24 i (by omega) (by decide)).trans q.2.2.2.2.2.2.1, (gM 25 i (by omega) (by decide)).trans (q.2.2.2.2.2.2.2.trans (ey _).symm)⟩
      · have q := hC.2.2.2.2.2.2.1 i hi
        exact ⟨(gM 26 i (by omega) (by decide)).trans q.1, (gM 27 i (by omega) (by decide)).trans q.2⟩
      · have q := hC.2.2.2.2.2.2.2.1 i hi
        exact ⟨(gM 28 i (by omega) (by decide)).trans q.1, (gM 29 i (by omega) (by decide)).trans q.2⟩
      · show (mv_up (mv_up (mv_up M 8 0 (x : Int)) 8 1 ((y : Int) + 1)) 30 0 0) 30 0 = 0
        rw [mv_up_s]
      · have : (p : Int) < 0 := hp
        omega
    | succ m ih =>
      intro y x M hm hy hx hfr h8 h11 h14 hd
      refine vr_X0_layOut_11 ?_
      have c1 : M 2 1 = (n : Int) := (hfr 2 1 (by omega)).trans hl
      have c3 : M 3 (y * (W + 1) + x) = M0 3 (y * (W + 1) + x) := hfr 3 _ (by omega)
      rw [c1, if_neg (by omega), Int.toNat_natCast, c3]
      refine ⟨by omega, ?_⟩
      by_cases hxW : x = W
      · subst hxW
        have hyH : y + 1 < H := by
          rcases Nat.lt_or_ge (y + 1) H with z | z
          · exact z
          · exfalso
            have : H = y + 1 := by omega
            rw [this, Nat.succ_mul] at tn
            omega
        rw [if_pos (tsl y hyH)]
        have K := ih (y + 1) 0 M (by rw [Nat.succ_mul]; omega) hyH (by omega) hfr (by rw [Nat.succ_mul, Nat.add_zero]; exact h8) h11 h14 (fun y' x' h1 h2 => hd y' x' h1 (by rw [Nat.succ_mul] at h2; omega))
        have e : (((y + 1) * (x + 1) + 0 : Nat) : Int) = ((y * (x + 1) + x : Nat) : Int) + 1 := by
          rw [Nat.succ_mul]
          omega
        rw [e] at K
        exact ⟨by omega, by omega, K⟩
      · have hdg := tdig y x hy (by omega)
        have hlt : y * W + x < 48 := by
          have z : (y + 1) * W ≤ H * W := Nat.mul_le_mul_right _ (by omega)
          have z2 : H * W ≤ 6 * 8 := Nat.mul_le_mul tH.2 tW.2
          rw [Nat.succ_mul] at z
          omega
        have e8 : ∀ v, (mv_up M 10 (y * W + x) v) 8 2 = ((y * W + x : Nat) : Int) := fun v => by
          rw [mv_up_n (fun z => by omega)]
          exact h8.1
        have e9 : ∀ v w, (mv_up (mv_up M 10 (y * W + x) v) 9 (y * W + x) w) 8 2 = ((y * W + x : Nat) : Int) := fun v w => by
          rw [mv_up_n (fun z => by omega)]
          exact e8 v
        rw [if_neg (by omega), h8.1, if_neg (by omega), Int.toNat_natCast, e8, Int.toNat_natCast, e9]
        refine ⟨by omega, by omega, by omega, by omega, by omega, by omega, by omega, by omega, by omega, ?_⟩
        have K := ih y (x + 1) (mv_up (mv_up (mv_up M 10 (y * W + x) (M0 3 (y * (W + 1) + x) - 48)) 9 (y * W + x) (10 * (x : Int) + (y : Int))) 8 2 (((y * W + x : Nat) : Int) + 1)) (by omega) hy (by omega) (fun a i ha => by
          rw [mv_up_n (fun z => by omega), mv_up_n (fun z => by omega), mv_up_n (fun z => by omega)]
          exact hfr a i ha) ⟨by rw [mv_up_s]; omega, by rw [mv_up_n (fun z => by omega), mv_up_n (fun z => by omega), mv_up_n (fun z => by omega)]; exact h8.2.1, by rw [mv_up_n (fun z => by omega), mv_up_n (fun z => by omega), mv_up_n (fun z => by omega)]; exact h8.2.2⟩ (fun i hi => by
          have e : ∀ a, a ≠ 8 → a ≠ 9 → a ≠ 10 → (mv_up (mv_up (mv_up M 10 (y * W + x) (M0 3 (y * (W + 1) + x) - 48)) 9 (y * W + x) (10 * (x : Int) + (y : Int))) 8 2 (((y * W + x : Nat) : Int) + 1)) a i = M a i := fun a a1 a2 a3 => by
            rw [mv_up_n (fun z => a1 z.1), mv_up_n (fun z => a2 z.1), mv_up_n (fun z => a3 z.1)]
          rw [e 11 (by decide) (by decide) (by decide), e 12 (by decide) (by decide) (by decide), e 13 (by decide) (by decide) (by decide)]
          exact h11 i hi) (fun i hi => by
          rw [mv_up_n (fun z => by omega), mv_up_n (fun z => by omega), mv_up_n (fun z => by omega)]
          exact h14 i hi) (fun y' x' h1 h2 => by
          by_cases q : y' * W + x' = y * W + x
          · have hyy : y' = y := by
              rcases Nat.lt_trichotomy y' y with z | z | z
              · exfalso
                have : (y' + 1) * W ≤ y * W := Nat.mul_le_mul_right _ z
                rw [Nat.succ_mul] at this
                omega
              · exact z
              · exfalso
                have : (y + 1) * W ≤ y' * W := Nat.mul_le_mul_right _ z
                rw [Nat.succ_mul] at this
                omega
            subst hyy
            have hxx : x' = x := by omega
            subst hxx
            refine ⟨?_, ?_⟩
            · rw [mv_up_n (fun z => by omega), mv_up_n (fun z => by omega), mv_up_s]
            · rw [mv_up_n (fun z => by omega), mv_up_s]
              omega
          · obtain ⟨g1, g2⟩ := hd y' x' h1 (by omega)
            refine ⟨?_, ?_⟩
            · rw [mv_up_n (fun z => by omega), mv_up_n (fun z => by omega), mv_up_n (fun z => q z.2)]
              exact g1
            · rw [mv_up_n (fun z => by omega), mv_up_n (fun z => q z.2), mv_up_n (fun z => by omega)]
              exact g2)
        have e : ((y * (W + 1) + (x + 1) : Nat) : Int) = ((y * (W + 1) + x : Nat) : Int) + 1 := by omega
        rw [e] at K
        exact K
  refine vw_X0_layOut ?_
  refine cl_clearAway (fun M1 f1 g1 g2 g3 => ?_)
  have K := key n 0 0 M1 (by omega) (by omega) (by omega) (fun a i ha => f1 a i (by omega) (by omega) (by omega) (by omega) (by omega)) (by rw [Nat.zero_mul]; exact g1) g2 g3 (fun y' x' h1 h2 => by omega)
  rw [Nat.zero_mul] at K
  exact K
/-! images -/
theorem mv_cp_n {s a d b n c i : Nat} (h : c ≠ d) : mv_cp M s a d b n c i = M c i := if_neg (fun z => h z.1)
theorem mv_up_c {a j c i : Nat} {v : Int} (h : c ≠ a) : mv_up M a j v c i = M c i := if_neg (fun z => h z.1)
theorem mv_up_j {a j i : Nat} {v : Int} (h : i ≠ j) : mv_up M a j v a i = M a i := if_neg (fun z => h z.2)
theorem mv_cp_y {s d i : Nat} {n : Int} (hi : (i : Int) < n) : mv_cp M s (Int.toNat 0) d (Int.toNat 0) (Int.toNat n) d i = M s i := by
  unfold mv_cp
  rw [if_pos ⟨rfl, Nat.zero_le _, show i < 0 + n.toNat by omega⟩]
  show M s (0 + (i - 0)) = M s i
  rw [Nat.zero_add, Nat.sub_zero]
end TX
end
section
/-! THE CLASS's IMAGES -/
def mv_cps (X : mv_Mem) : List (Nat × Nat × Nat) → mv_Mem
  | [] => X
  | q :: r => mv_cps (mv_cp X q.1 0 q.2.1 0 q.2.2) r
theorem mv_cps_n {c i : Nat} : ∀ (L : List (Nat × Nat × Nat)) (X : mv_Mem), c ∉ L.map (fun q => q.2.1) → mv_cps X L c i = X c i
  | [], _, _ => rfl
  | q :: r, X, h => by
    rw [List.map_cons, List.mem_cons, not_or] at h
    exact (mv_cps_n r _ h.2).trans (mv_cp_n h.1)
theorem mv_cps_y {i : Nat} : ∀ (L : List (Nat × Nat × Nat)) (X : mv_Mem), (L.map (fun q => q.2.1)).Nodup → (∀ q, q ∈ L → q.1 ∉ L.map (fun q => q.2.1)) → ∀ q, q ∈ L → i < q.2.2 → mv_cps X L q.2.1 i = X q.1 i
  | [], _, _, _, q, h, _ => by cases h
  | p :: r, X, h1, h2, q, h, hi => by
    rw [List.map_cons, List.nodup_cons] at h1
    rcases List.mem_cons.1 h with z | z
    · subst z
      refine (mv_cps_n r _ h1.1).trans ?_
      show mv_cp X q.1 0 q.2.1 0 q.2.2 q.2.1 i = X q.1 i
      unfold mv_cp
      rw [if_pos ⟨rfl, Nat.zero_le _, by omega⟩, Nat.sub_zero, Nat.zero_add]
    · refine (mv_cps_y r _ h1.2 (fun q' hq' hm => h2 q' (List.mem_cons_of_mem _ hq') (by rw [List.map_cons]; exact List.mem_cons_of_mem _ hm)) q z hi).trans (mv_cp_n (fun e => h2 q h (by rw [List.map_cons, e]; exact List.mem_cons_self ..)))
/-- the cells of a world and how much of them counts -/
def sg_Ll : List (Nat × Nat) := [(8, 5), (9, 48), (10, 48), (11, 48), (12, 48), (13, 48), (14, 192), (15, 3), (16, 4)]
def sg_Lu : List (Nat × Nat) := [(17, 2), (18, 6), (19, 6), (20, 6), (21, 6), (22, 6), (23, 6), (24, 6), (25, 6), (26, 18), (27, 18), (28, 108), (29, 108)]
def sg_Lp : List (Nat × Nat) := [(30, 1), (31, 8), (32, 8), (33, 8), (34, 8)]
def sg_cq (L : List (Nat × Nat)) (o o' : Nat) (M M' : mv_Mem) : Prop := ∀ q, q ∈ L → ∀ i, i < q.2 → M' (q.1 + o') i = M (q.1 + o) i
theorem sg_cq_m {L : List (Nat × Nat)} {o o' : Nat} {M M' : mv_Mem} (h : sg_cq L o o' M M') (c n : Nat) (hm : (c, n) ∈ L) {i : Nat} (hi : i < n) : M' (c + o') i = M (c + o) i := h (c, n) hm i hi
section IM
variable {S : mv_Mem} {G : mv_G} {l : Nat} {M : mv_Mem}
theorem sg_C_cp {o o' : Nat} {M' : mv_Mem} (hw : sg_wf S) (hC : sg_C o S M) (hl : sg_cq sg_Ll o o' M M') (hu : sg_cq sg_Lu o o' M M') (hp : sg_cq sg_Lp o o' M M') : sg_C o' S M' := by
  have hm3 := hw.1.2.2.1
  have hp8 := hw.1.2.2.2.2.2.1
  refine ⟨⟨?_, ?_, ?_, ?_, ?_⟩, fun k hk => ?_, fun m hm => ?_, fun i hi => ?_, ⟨?_, ?_⟩, fun i hi => ?_, fun i hi => ?_, fun i hi => ?_, ?_, fun p hpp => ?_⟩
  · exact (sg_cq_m hl 8 5 (by decide) (by decide)).trans hC.1.1
  · exact (sg_cq_m hl 8 5 (by decide) (by decide)).trans hC.1.2.1
  · exact (sg_cq_m hl 8 5 (by decide) (by decide)).trans hC.1.2.2.1
  · exact (sg_cq_m hl 8 5 (by decide) (by decide)).trans hC.1.2.2.2.1
  · exact (sg_cq_m hl 8 5 (by decide) (by decide)).trans hC.1.2.2.2.2
  · have h48 := (sg_pl_lt hw hk).2
    obtain ⟨q1, q2, q3, q4, q5, q6⟩ := hC.2.1 k hk
    exact ⟨(sg_cq_m hl 9 48 (by decide) h48).trans q1, (sg_cq_m hl 10 48 (by decide) h48).trans q2, (sg_cq_m hl 11 48 (by decide) h48).trans q3, (sg_cq_m hl 12 48 (by decide) h48).trans q4, (sg_cq_m hl 13 48 (by decide) h48).trans q5, fun d hd => (sg_cq_m hl 14 192 (by decide) (by omega)).trans (q6 d hd)⟩
  · exact (sg_cq_m hl 15 3 (by decide) (by omega)).trans (hC.2.2.1 m hm)
  · exact (sg_cq_m hl 16 4 (by decide) hi).trans (hC.2.2.2.1 i hi)
  · exact (sg_cq_m hu 17 2 (by decide) (by decide)).trans hC.2.2.2.2.1.1
  · exact (sg_cq_m hu 17 2 (by decide) (by decide)).trans hC.2.2.2.2.1.2
  · obtain ⟨q1, q2, q3, q4, q5, q6, q7, q8⟩ := hC.2.2.2.2.2.1 i hi
    exact ⟨(sg_cq_m hu 18 6 (by decide) hi).trans q1, (sg_cq_m hu 19 6 (by decide) hi).trans q2, (sg_cq_m hu 20 6 (by decide) hi).trans q3, (sg_cq_m hu 21 6 (by decide) hi).trans q4, (sg_cq_m hu 22 6 (by decide) hi).trans q5, (sg_cq_m hu 23 6 (by decide) hi).trans q6, (sg_cq_m hu 24 6 (by decide) hi).trans q7, (sg_cq_m hu 25 6 (by decide) hi).trans q8⟩
  · obtain ⟨q1, q2⟩ := hC.2.2.2.2.2.2.1 i hi
    exact ⟨(sg_cq_m hu 26 18 (by decide) hi).trans q1, (sg_cq_m hu 27 18 (by decide) hi).trans q2⟩
  · obtain ⟨q1, q2⟩ := hC.2.2.2.2.2.2.2.1 i hi
    exact ⟨(sg_cq_m hu 28 108 (by decide) hi).trans q1, (sg_cq_m hu 29 108 (by decide) hi).trans q2⟩
  · exact (sg_cq_m hp 30 1 (by decide) (by decide)).trans hC.2.2.2.2.2.2.2.2.1
  · obtain ⟨q1, q2, q3, q4⟩ := hC.2.2.2.2.2.2.2.2.2 p hpp
    have h8 : p < 8 := by omega
    exact ⟨(sg_cq_m hp 31 8 (by decide) h8).trans q1, (sg_cq_m hp 32 8 (by decide) h8).trans q2, (sg_cq_m hp 33 8 (by decide) h8).trans q3, (sg_cq_m hp 34 8 (by decide) h8).trans q4⟩
theorem cl_landTake_i {F : mv_Mem → Prop} (h : ∀ M', (∀ a i, ¬ (45 ≤ a ∧ a ≤ 53) → M' a i = M a i) → sg_cq sg_Ll 0 37 M M' → F M') : mv_Wp G 3 [.inr (.inr 45), .inr (.inr 8)] (mh l) M (mv_qv (mh l) F) := by
  have key : F (mv_cps (mv_up (mv_up (mv_up (mv_up (mv_up M 45 0 (M 8 0)) 45 1 ((mv_up M 45 0 (M 8 0)) 8 1)) 45 2 ((mv_up (mv_up M 45 0 (M 8 0)) 45 1 ((mv_up M 45 0 (M 8 0)) 8 1)) 8 2)) 45 3 ((mv_up (mv_up (mv_up M 45 0 (M 8 0)) 45 1 ((mv_up M 45 0 (M 8 0)) 8 1)) 45 2 ((mv_up (mv_up M 45 0 (M 8 0)) 45 1 ((mv_up M 45 0 (M 8 0)) 8 1)) 8 2)) 8 3)) 45 4 ((mv_up (mv_up (mv_up (mv_up M 45 0 (M 8 0)) 45 1 ((mv_up M 45 0 (M 8 0)) 8 1)) 45 2 ((mv_up (mv_up M 45 0 (M 8 0)) 45 1 ((mv_up M 45 0 (M 8 0)) 8 1)) 8 2)) 45 3 ((mv_up (mv_up (mv_up M 45 0 (M 8 0)) 45 1 ((mv_up M 45 0 (M 8 0)) 8 1)) 45 2 ((mv_up (mv_up M 45 0 (M 8 0)) 45 1 ((mv_up M 45 0 (M 8 0)) 8 1)) 8 2)) 8 3)) 8 4)) [(9, 46, 48), (10, 47, 48), (11, 48, 48), (12, 49, 48), (13, 50, 48), (14, 51, 192), (15, 52, 3), (16, 53, 4)]) := by
    refine h _ (fun a i ha => ?_) (fun q hq i hi => ?_)
    · refine (mv_cps_n _ _ (fun hm => ?_)).trans ?_
      · simp only [List.map_cons, List.map_nil, List.mem_cons, List.not_mem_nil, or_false] at hm
        omega
      · rw [mv_up_c (show a ≠ 45 by omega), mv_up_c (show a ≠ 45 by omega), mv_up_c (show a ≠ 45 by omega), mv_up_c (show a ≠ 45 by omega), mv_up_c (show a ≠ 45 by omega)]
    · simp only [sg_Ll, List.mem_cons, List.not_mem_nil, or_false] at hq
      rcases hq with rfl | rfl | rfl | rfl | rfl | rfl | rfl | rfl | rfl
      · refine (mv_cps_n _ _ (by decide)).trans ?_
        have hi2 : i < 5 := hi
        show (mv_up (mv_up (mv_up (mv_up (mv_up M 45 0 (M 8 0)) 45 1 ((mv_up M 45 0 (M 8 0)) 8 1)) 45 2 ((mv_up (mv_up M 45 0 (M 8 0)) 45 1 ((mv_up M 45 0 (M 8 0)) 8 1)) 8 2)) 45 3 ((mv_up (mv_up (mv_up M 45 0 (M 8 0)) 45 1 ((mv_up M 45 0 (M 8 0)) 8 1)) 45 2 ((mv_up (mv_up M 45 0 (M 8 0)) 45 1 ((mv_up M 45 0 (M 8 0)) 8 1)) 8 2)) 8 3)) 45 4 ((mv_up (mv_up (mv_up (mv_up M 45 0 (M 8 0)) 45 1 ((mv_up M 45 0 (M 8 0)) 8 1)) 45 2 ((mv_up (mv_up M 45 0 (M 8 0)) 45 1 ((mv_up M 45 0 (M 8 0)) 8 1)) 8 2)) 45 3 ((mv_up (mv_up (mv_up M 45 0 (M 8 0)) 45 1 ((mv_up M 45 0 (M 8 0)) 8 1)) 45 2 ((mv_up (mv_up M 45 0 (M 8 0)) 45 1 ((mv_up M 45 0 (M 8 0)) 8 1)) 8 2)) 8 3)) 8 4)) 45 i = M 8 i
        rcases (show i = 0 ∨ i = 1 ∨ i = 2 ∨ i = 3 ∨ i = 4 by omega) with rfl | rfl | rfl | rfl | rfl
        · rw [mv_up_j (by decide), mv_up_j (by decide), mv_up_j (by decide), mv_up_j (by decide), mv_up_s]
        · rw [mv_up_j (by decide), mv_up_j (by decide), mv_up_j (by decide), mv_up_s, mv_up_c (by decide)]
        · rw [mv_up_j (by decide), mv_up_j (by decide), mv_up_s, mv_up_c (by decide), mv_up_c (by decide)]
        · rw [mv_up_j (by decide), mv_up_s, mv_up_c (by decide), mv_up_c (by decide), mv_up_c (by decide)]
        · rw [mv_up_s, mv_up_c (by decide), mv_up_c (by decide), mv_up_c (by decide), mv_up_c (by decide)]
      · refine (mv_cps_y _ _ (by decide) (by decide) (9, 46, 48) (by decide) hi).trans ?_
        show (mv_up (mv_up (mv_up (mv_up (mv_up M 45 0 (M 8 0)) 45 1 ((mv_up M 45 0 (M 8 0)) 8 1)) 45 2 ((mv_up (mv_up M 45 0 (M 8 0)) 45 1 ((mv_up M 45 0 (M 8 0)) 8 1)) 8 2)) 45 3 ((mv_up (mv_up (mv_up M 45 0 (M 8 0)) 45 1 ((mv_up M 45 0 (M 8 0)) 8 1)) 45 2 ((mv_up (mv_up M 45 0 (M 8 0)) 45 1 ((mv_up M 45 0 (M 8 0)) 8 1)) 8 2)) 8 3)) 45 4 ((mv_up (mv_up (mv_up (mv_up M 45 0 (M 8 0)) 45 1 ((mv_up M 45 0 (M 8 0)) 8 1)) 45 2 ((mv_up (mv_up M 45 0 (M 8 0)) 45 1 ((mv_up M 45 0 (M 8 0)) 8 1)) 8 2)) 45 3 ((mv_up (mv_up (mv_up M 45 0 (M 8 0)) 45 1 ((mv_up M 45 0 (M 8 0)) 8 1)) 45 2 ((mv_up (mv_up M 45 0 (M 8 0)) 45 1 ((mv_up M 45 0 (M 8 0)) 8 1)) 8 2)) 8 3)) 8 4)) 9 i = M 9 i
        rw [mv_up_c (by decide), mv_up_c (by decide), mv_up_c (by decide), mv_up_c (by decide), mv_up_c (by decide)]
      · refine (mv_cps_y _ _ (by decide) (by decide) (10, 47, 48) (by decide) hi).trans ?_
        show (mv_up (mv_up (mv_up (mv_up (mv_up M 45 0 (M 8 0)) 45 1 ((mv_up M 45 0 (M 8 0)) 8 1)) 45 2 ((mv_up (mv_up M 45 0 (M 8 0)) 45 1 ((mv_up M 45 0 (M 8 0)) 8 1)) 8 2)) 45 3 ((mv_up (mv_up (mv_up M 45 0 (M 8 0)) 45 1 ((mv_up M 45 0 (M 8 0)) 8 1)) 45 2 ((mv_up (mv_up M 45 0 (M 8 0)) 45 1 ((mv_up M 45 0 (M 8 0)) 8 1)) 8 2)) 8 3)) 45 4 ((mv_up (mv_up (mv_up (mv_up M 45 0 (M 8 0)) 45 1 ((mv_up M 45 0 (M 8 0)) 8 1)) 45 2 ((mv_up (mv_up M 45 0 (M 8 0)) 45 1 ((mv_up M 45 0 (M 8 0)) 8 1)) 8 2)) 45 3 ((mv_up (mv_up (mv_up M 45 0 (M 8 0)) 45 1 ((mv_up M 45 0 (M 8 0)) 8 1)) 45 2 ((mv_up (mv_up M 45 0 (M 8 0)) 45 1 ((mv_up M 45 0 (M 8 0)) 8 1)) 8 2)) 8 3)) 8 4)) 10 i = M 10 i
        rw [mv_up_c (by decide), mv_up_c (by decide), mv_up_c (by decide), mv_up_c (by decide), mv_up_c (by decide)]
      · refine (mv_cps_y _ _ (by decide) (by decide) (11, 48, 48) (by decide) hi).trans ?_
        show (mv_up (mv_up (mv_up (mv_up (mv_up M 45 0 (M 8 0)) 45 1 ((mv_up M 45 0 (M 8 0)) 8 1)) 45 2 ((mv_up (mv_up M 45 0 (M 8 0)) 45 1 ((mv_up M 45 0 (M 8 0)) 8 1)) 8 2)) 45 3 ((mv_up (mv_up (mv_up M 45 0 (M 8 0)) 45 1 ((mv_up M 45 0 (M 8 0)) 8 1)) 45 2 ((mv_up (mv_up M 45 0 (M 8 0)) 45 1 ((mv_up M 45 0 (M 8 0)) 8 1)) 8 2)) 8 3)) 45 4 ((mv_up (mv_up (mv_up (mv_up M 45 0 (M 8 0)) 45 1 ((mv_up M 45 0 (M 8 0)) 8 1)) 45 2 ((mv_up (mv_up M 45 0 (M 8 0)) 45 1 ((mv_up M 45 0 (M 8 0)) 8 1)) 8 2)) 45 3 ((mv_up (mv_up (mv_up M 45 0 (M 8 0)) 45 1 ((mv_up M 45 0 (M 8 0)) 8 1)) 45 2 ((mv_up (mv_up M 45 0 (M 8 0)) 45 1 ((mv_up M 45 0 (M 8 0)) 8 1)) 8 2)) 8 3)) 8 4)) 11 i = M 11 i
        rw [mv_up_c (by decide), mv_up_c (by decide), mv_up_c (by decide), mv_up_c (by decide), mv_up_c (by decide)]
      · refine (mv_cps_y _ _ (by decide) (by decide) (12, 49, 48) (by decide) hi).trans ?_
        show (mv_up (mv_up (mv_up (mv_up (mv_up M 45 0 (M 8 0)) 45 1 ((mv_up M 45 0 (M 8 0)) 8 1)) 45 2 ((mv_up (mv_up M 45 0 (M 8 0)) 45 1 ((mv_up M 45 0 (M 8 0)) 8 1)) 8 2)) 45 3 ((mv_up (mv_up (mv_up M 45 0 (M 8 0)) 45 1 ((mv_up M 45 0 (M 8 0)) 8 1)) 45 2 ((mv_up (mv_up M 45 0 (M 8 0)) 45 1 ((mv_up M 45 0 (M 8 0)) 8 1)) 8 2)) 8 3)) 45 4 ((mv_up (mv_up (mv_up (mv_up M 45 0 (M 8 0)) 45 1 ((mv_up M 45 0 (M 8 0)) 8 1)) 45 2 ((mv_up (mv_up M 45 0 (M 8 0)) 45 1 ((mv_up M 45 0 (M 8 0)) 8 1)) 8 2)) 45 3 ((mv_up (mv_up (mv_up M 45 0 (M 8 0)) 45 1 ((mv_up M 45 0 (M 8 0)) 8 1)) 45 2 ((mv_up (mv_up M 45 0 (M 8 0)) 45 1 ((mv_up M 45 0 (M 8 0)) 8 1)) 8 2)) 8 3)) 8 4)) 12 i = M 12 i
        rw [mv_up_c (by decide), mv_up_c (by decide), mv_up_c (by decide), mv_up_c (by decide), mv_up_c (by decide)]
      · refine (mv_cps_y _ _ (by decide) (by decide) (13, 50, 48) (by decide) hi).trans ?_
        show (mv_up (mv_up (mv_up (mv_up (mv_up M 45 0 (M 8 0)) 45 1 ((mv_up M 45 0 (M 8 0)) 8 1)) 45 2 ((mv_up (mv_up M 45 0 (M 8 0)) 45 1 ((mv_up M 45 0 (M 8 0)) 8 1)) 8 2)) 45 3 ((mv_up (mv_up (mv_up M 45 0 (M 8 0)) 45 1 ((mv_up M 45 0 (M 8 0)) 8 1)) 45 2 ((mv_up (mv_up M 45 0 (M 8 0)) 45 1 ((mv_up M 45 0 (M 8 0)) 8 1)) 8 2)) 8 3)) 45 4 ((mv_up (mv_up (mv_up (mv_up M 45 0 (M 8 0)) 45 1 ((mv_up M 45 0 (M 8 0)) 8 1)) 45 2 ((mv_up (mv_up M 45 0 (M 8 0)) 45 1 ((mv_up M 45 0 (M 8 0)) 8 1)) 8 2)) 45 3 ((mv_up (mv_up (mv_up M 45 0 (M 8 0)) 45 1 ((mv_up M 45 0 (M 8 0)) 8 1)) 45 2 ((mv_up (mv_up M 45 0 (M 8 0)) 45 1 ((mv_up M 45 0 (M 8 0)) 8 1)) 8 2)) 8 3)) 8 4)) 13 i = M 13 i
        rw [mv_up_c (by decide), mv_up_c (by decide), mv_up_c (by decide), mv_up_c (by decide), mv_up_c (by decide)]
      · refine (mv_cps_y _ _ (by decide) (by decide) (14, 51, 192) (by decide) hi).trans ?_
        show (mv_up (mv_up (mv_up (mv_up (mv_up M 45 0 (M 8 0)) 45 1 ((mv_up M 45 0 (M 8 0)) 8 1)) 45 2 ((mv_up (mv_up M 45 0 (M 8 0)) 45 1 ((mv_up M 45 0 (M 8 0)) 8 1)) 8 2)) 45 3 ((mv_up (mv_up (mv_up M 45 0 (M 8 0)) 45 1 ((mv_up M 45 0 (M 8 0)) 8 1)) 45 2 ((mv_up (mv_up M 45 0 (M 8 0)) 45 1 ((mv_up M 45 0 (M 8 0)) 8 1)) 8 2)) 8 3)) 45 4 ((mv_up (mv_up (mv_up (mv_up M 45 0 (M 8 0)) 45 1 ((mv_up M 45 0 (M 8 0)) 8 1)) 45 2 ((mv_up (mv_up M 45 0 (M 8 0)) 45 1 ((mv_up M 45 0 (M 8 0)) 8 1)) 8 2)) 45 3 ((mv_up (mv_up (mv_up M 45 0 (M 8 0)) 45 1 ((mv_up M 45 0 (M 8 0)) 8 1)) 45 2 ((mv_up (mv_up M 45 0 (M 8 0)) 45 1 ((mv_up M 45 0 (M 8 0)) 8 1)) 8 2)) 8 3)) 8 4)) 14 i = M 14 i
        rw [mv_up_c (by decide), mv_up_c (by decide), mv_up_c (by decide), mv_up_c (by decide), mv_up_c (by decide)]
      · refine (mv_cps_y _ _ (by decide) (by decide) (15, 52, 3) (by decide) hi).trans ?_
        show (mv_up (mv_up (mv_up (mv_up (mv_up M 45 0 (M 8 0)) 45 1 ((mv_up M 45 0 (M 8 0)) 8 1)) 45 2 ((mv_up (mv_up M 45 0 (M 8 0)) 45 1 ((mv_up M 45 0 (M 8 0)) 8 1)) 8 2)) 45 3 ((mv_up (mv_up (mv_up M 45 0 (M 8 0)) 45 1 ((mv_up M 45 0 (M 8 0)) 8 1)) 45 2 ((mv_up (mv_up M 45 0 (M 8 0)) 45 1 ((mv_up M 45 0 (M 8 0)) 8 1)) 8 2)) 8 3)) 45 4 ((mv_up (mv_up (mv_up (mv_up M 45 0 (M 8 0)) 45 1 ((mv_up M 45 0 (M 8 0)) 8 1)) 45 2 ((mv_up (mv_up M 45 0 (M 8 0)) 45 1 ((mv_up M 45 0 (M 8 0)) 8 1)) 8 2)) 45 3 ((mv_up (mv_up (mv_up M 45 0 (M 8 0)) 45 1 ((mv_up M 45 0 (M 8 0)) 8 1)) 45 2 ((mv_up (mv_up M 45 0 (M 8 0)) 45 1 ((mv_up M 45 0 (M 8 0)) 8 1)) 8 2)) 8 3)) 8 4)) 15 i = M 15 i
        rw [mv_up_c (by decide), mv_up_c (by decide), mv_up_c (by decide), mv_up_c (by decide), mv_up_c (by decide)]
      · refine (mv_cps_y _ _ (by decide) (by decide) (16, 53, 4) (by decide) hi).trans ?_
        show (mv_up (mv_up (mv_up (mv_up (mv_up M 45 0 (M 8 0)) 45 1 ((mv_up M 45 0 (M 8 0)) 8 1)) 45 2 ((mv_up (mv_up M 45 0 (M 8 0)) 45 1 ((mv_up M 45 0 (M 8 0)) 8 1)) 8 2)) 45 3 ((mv_up (mv_up (mv_up M 45 0 (M 8 0)) 45 1 ((mv_up M 45 0 (M 8 0)) 8 1)) 45 2 ((mv_up (mv_up M 45 0 (M 8 0)) 45 1 ((mv_up M 45 0 (M 8 0)) 8 1)) 8 2)) 8 3)) 45 4 ((mv_up (mv_up (mv_up (mv_up M 45 0 (M 8 0)) 45 1 ((mv_up M 45 0 (M 8 0)) 8 1)) 45 2 ((mv_up (mv_up M 45 0 (M 8 0)) 45 1 ((mv_up M 45 0 (M 8 0)) 8 1)) 8 2)) 45 3 ((mv_up (mv_up (mv_up M 45 0 (M 8 0)) 45 1 ((mv_up M 45 0 (M 8 0)) 8 1)) 45 2 ((mv_up (mv_up M 45 0 (M 8 0)) 45 1 ((mv_up M 45 0 (M 8 0)) 8 1)) 8 2)) 8 3)) 8 4)) 16 i = M 16 i
        rw [mv_up_c (by decide), mv_up_c (by decide), mv_up_c (by decide), mv_up_c (by decide), mv_up_c (by decide)]
  refine vw_X0_takeFrom_i ?_
  exact ⟨by decide, by decide, by decide, by decide, by decide, by decide, by decide, by decide, mv_qv_i key⟩
theorem cl_landTake_o {F : mv_Mem → Prop} (h : ∀ M', (∀ a i, ¬ (8 ≤ a ∧ a ≤ 16) → M' a i = M a i) → sg_cq sg_Ll 37 0 M M' → F M') : mv_Wp G 3 [.inr (.inr 8), .inr (.inr 45)] (mh l) M (mv_qv (mh l) F) := by
  have key : F (mv_cps (mv_up (mv_up (mv_up (mv_up (mv_up M 8 0 (M 45 0)) 8 1 ((mv_up M 8 0 (M 45 0)) 45 1)) 8 2 ((mv_up (mv_up M 8 0 (M 45 0)) 8 1 ((mv_up M 8 0 (M 45 0)) 45 1)) 45 2)) 8 3 ((mv_up (mv_up (mv_up M 8 0 (M 45 0)) 8 1 ((mv_up M 8 0 (M 45 0)) 45 1)) 8 2 ((mv_up (mv_up M 8 0 (M 45 0)) 8 1 ((mv_up M 8 0 (M 45 0)) 45 1)) 45 2)) 45 3)) 8 4 ((mv_up (mv_up (mv_up (mv_up M 8 0 (M 45 0)) 8 1 ((mv_up M 8 0 (M 45 0)) 45 1)) 8 2 ((mv_up (mv_up M 8 0 (M 45 0)) 8 1 ((mv_up M 8 0 (M 45 0)) 45 1)) 45 2)) 8 3 ((mv_up (mv_up (mv_up M 8 0 (M 45 0)) 8 1 ((mv_up M 8 0 (M 45 0)) 45 1)) 8 2 ((mv_up (mv_up M 8 0 (M 45 0)) 8 1 ((mv_up M 8 0 (M 45 0)) 45 1)) 45 2)) 45 3)) 45 4)) [(46, 9, 48), (47, 10, 48), (48, 11, 48), (49, 12, 48), (50, 13, 48), (51, 14, 192), (52, 15, 3), (53, 16, 4)]) := by
    refine h _ (fun a i ha => ?_) (fun q hq i hi => ?_)
    · refine (mv_cps_n _ _ (fun hm => ?_)).trans ?_
      · simp only [List.map_cons, List.map_nil, List.mem_cons, List.not_mem_nil, or_false] at hm
        omega
      · rw [mv_up_c (show a ≠ 8 by omega), mv_up_c (show a ≠ 8 by omega), mv_up_c (show a ≠ 8 by omega), mv_up_c (show a ≠ 8 by omega), mv_up_c (show a ≠ 8 by omega)]
    · simp only [sg_Ll, List.mem_cons, List.not_mem_nil, or_false] at hq
      rcases hq with rfl | rfl | rfl | rfl | rfl | rfl | rfl | rfl | rfl
      · refine (mv_cps_n _ _ (by decide)).trans ?_
        have hi2 : i < 5 := hi
        show (mv_up (mv_up (mv_up (mv_up (mv_up M 8 0 (M 45 0)) 8 1 ((mv_up M 8 0 (M 45 0)) 45 1)) 8 2 ((mv_up (mv_up M 8 0 (M 45 0)) 8 1 ((mv_up M 8 0 (M 45 0)) 45 1)) 45 2)) 8 3 ((mv_up (mv_up (mv_up M 8 0 (M 45 0)) 8 1 ((mv_up M 8 0 (M 45 0)) 45 1)) 8 2 ((mv_up (mv_up M 8 0 (M 45 0)) 8 1 ((mv_up M 8 0 (M 45 0)) 45 1)) 45 2)) 45 3)) 8 4 ((mv_up (mv_up (mv_up (mv_up M 8 0 (M 45 0)) 8 1 ((mv_up M 8 0 (M 45 0)) 45 1)) 8 2 ((mv_up (mv_up M 8 0 (M 45 0)) 8 1 ((mv_up M 8 0 (M 45 0)) 45 1)) 45 2)) 8 3 ((mv_up (mv_up (mv_up M 8 0 (M 45 0)) 8 1 ((mv_up M 8 0 (M 45 0)) 45 1)) 8 2 ((mv_up (mv_up M 8 0 (M 45 0)) 8 1 ((mv_up M 8 0 (M 45 0)) 45 1)) 45 2)) 45 3)) 45 4)) 8 i = M 45 i
        rcases (show i = 0 ∨ i = 1 ∨ i = 2 ∨ i = 3 ∨ i = 4 by omega) with rfl | rfl | rfl | rfl | rfl
        · rw [mv_up_j (by decide), mv_up_j (by decide), mv_up_j (by decide), mv_up_j (by decide), mv_up_s]
        · rw [mv_up_j (by decide), mv_up_j (by decide), mv_up_j (by decide), mv_up_s, mv_up_c (by decide)]
        · rw [mv_up_j (by decide), mv_up_j (by decide), mv_up_s, mv_up_c (by decide), mv_up_c (by decide)]
        · rw [mv_up_j (by decide), mv_up_s, mv_up_c (by decide), mv_up_c (by decide), mv_up_c (by decide)]
        · rw [mv_up_s, mv_up_c (by decide), mv_up_c (by decide), mv_up_c (by decide), mv_up_c (by decide)]
      · refine (mv_cps_y _ _ (by decide) (by decide) (46, 9, 48) (by decide) hi).trans ?_
        show (mv_up (mv_up (mv_up (mv_up (mv_up M 8 0 (M 45 0)) 8 1 ((mv_up M 8 0 (M 45 0)) 45 1)) 8 2 ((mv_up (mv_up M 8 0 (M 45 0)) 8 1 ((mv_up M 8 0 (M 45 0)) 45 1)) 45 2)) 8 3 ((mv_up (mv_up (mv_up M 8 0 (M 45 0)) 8 1 ((mv_up M 8 0 (M 45 0)) 45 1)) 8 2 ((mv_up (mv_up M 8 0 (M 45 0)) 8 1 ((mv_up M 8 0 (M 45 0)) 45 1)) 45 2)) 45 3)) 8 4 ((mv_up (mv_up (mv_up (mv_up M 8 0 (M 45 0)) 8 1 ((mv_up M 8 0 (M 45 0)) 45 1)) 8 2 ((mv_up (mv_up M 8 0 (M 45 0)) 8 1 ((mv_up M 8 0 (M 45 0)) 45 1)) 45 2)) 8 3 ((mv_up (mv_up (mv_up M 8 0 (M 45 0)) 8 1 ((mv_up M 8 0 (M 45 0)) 45 1)) 8 2 ((mv_up (mv_up M 8 0 (M 45 0)) 8 1 ((mv_up M 8 0 (M 45 0)) 45 1)) 45 2)) 45 3)) 45 4)) 46 i = M 46 i
        rw [mv_up_c (by decide), mv_up_c (by decide), mv_up_c (by decide), mv_up_c (by decide), mv_up_c (by decide)]
      · refine (mv_cps_y _ _ (by decide) (by decide) (47, 10, 48) (by decide) hi).trans ?_
        show (mv_up (mv_up (mv_up (mv_up (mv_up M 8 0 (M 45 0)) 8 1 ((mv_up M 8 0 (M 45 0)) 45 1)) 8 2 ((mv_up (mv_up M 8 0 (M 45 0)) 8 1 ((mv_up M 8 0 (M 45 0)) 45 1)) 45 2)) 8 3 ((mv_up (mv_up (mv_up M 8 0 (M 45 0)) 8 1 ((mv_up M 8 0 (M 45 0)) 45 1)) 8 2 ((mv_up (mv_up M 8 0 (M 45 0)) 8 1 ((mv_up M 8 0 (M 45 0)) 45 1)) 45 2)) 45 3)) 8 4 ((mv_up (mv_up (mv_up (mv_up M 8 0 (M 45 0)) 8 1 ((mv_up M 8 0 (M 45 0)) 45 1)) 8 2 ((mv_up (mv_up M 8 0 (M 45 0)) 8 1 ((mv_up M 8 0 (M 45 0)) 45 1)) 45 2)) 8 3 ((mv_up (mv_up (mv_up M 8 0 (M 45 0)) 8 1 ((mv_up M 8 0 (M 45 0)) 45 1)) 8 2 ((mv_up (mv_up M 8 0 (M 45 0)) 8 1 ((mv_up M 8 0 (M 45 0)) 45 1)) 45 2)) 45 3)) 45 4)) 47 i = M 47 i
        rw [mv_up_c (by decide), mv_up_c (by decide), mv_up_c (by decide), mv_up_c (by decide), mv_up_c (by decide)]
      · refine (mv_cps_y _ _ (by decide) (by decide) (48, 11, 48) (by decide) hi).trans ?_
        show (mv_up (mv_up (mv_up (mv_up (mv_up M 8 0 (M 45 0)) 8 1 ((mv_up M 8 0 (M 45 0)) 45 1)) 8 2 ((mv_up (mv_up M 8 0 (M 45 0)) 8 1 ((mv_up M 8 0 (M 45 0)) 45 1)) 45 2)) 8 3 ((mv_up (mv_up (mv_up M 8 0 (M 45 0)) 8 1 ((mv_up M 8 0 (M 45 0)) 45 1)) 8 2 ((mv_up (mv_up M 8 0 (M 45 0)) 8 1 ((mv_up M 8 0 (M 45 0)) 45 1)) 45 2)) 45 3)) 8 4 ((mv_up (mv_up (mv_up (mv_up M 8 0 (M 45 0)) 8 1 ((mv_up M 8 0 (M 45 0)) 45 1)) 8 2 ((mv_up (mv_up M 8 0 (M 45 0)) 8 1 ((mv_up M 8 0 (M 45 0)) 45 1)) 45 2)) 8 3 ((mv_up (mv_up (mv_up M 8 0 (M 45 0)) 8 1 ((mv_up M 8 0 (M 45 0)) 45 1)) 8 2 ((mv_up (mv_up M 8 0 (M 45 0)) 8 1 ((mv_up M 8 0 (M 45 0)) 45 1)) 45 2)) 45 3)) 45 4)) 48 i = M 48 i
        rw [mv_up_c (by decide), mv_up_c (by decide), mv_up_c (by decide), mv_up_c (by decide), mv_up_c (by decide)]
      · refine (mv_cps_y _ _ (by decide) (by decide) (49, 12, 48) (by decide) hi).trans ?_
        show (mv_up (mv_up (mv_up (mv_up (mv_up M 8 0 (M 45 0)) 8 1 ((mv_up M 8 0 (M 45 0)) 45 1)) 8 2 ((mv_up (mv_up M 8 0 (M 45 0)) 8 1 ((mv_up M 8 0 (M 45 0)) 45 1)) 45 2)) 8 3 ((mv_up (mv_up (mv_up M 8 0 (M 45 0)) 8 1 ((mv_up M 8 0 (M 45 0)) 45 1)) 8 2 ((mv_up (mv_up M 8 0 (M 45 0)) 8 1 ((mv_up M 8 0 (M 45 0)) 45 1)) 45 2)) 45 3)) 8 4 ((mv_up (mv_up (mv_up (mv_up M 8 0 (M 45 0)) 8 1 ((mv_up M 8 0 (M 45 0)) 45 1)) 8 2 ((mv_up (mv_up M 8 0 (M 45 0)) 8 1 ((mv_up M 8 0 (M 45 0)) 45 1)) 45 2)) 8 3 ((mv_up (mv_up (mv_up M 8 0 (M 45 0)) 8 1 ((mv_up M 8 0 (M 45 0)) 45 1)) 8 2 ((mv_up (mv_up M 8 0 (M 45 0)) 8 1 ((mv_up M 8 0 (M 45 0)) 45 1)) 45 2)) 45 3)) 45 4)) 49 i = M 49 i
        rw [mv_up_c (by decide), mv_up_c (by decide), mv_up_c (by decide), mv_up_c (by decide), mv_up_c (by decide)]
      · refine (mv_cps_y _ _ (by decide) (by decide) (50, 13, 48) (by decide) hi).trans ?_
        show (mv_up (mv_up (mv_up (mv_up (mv_up M 8 0 (M 45 0)) 8 1 ((mv_up M 8 0 (M 45 0)) 45 1)) 8 2 ((mv_up (mv_up M 8 0 (M 45 0)) 8 1 ((mv_up M 8 0 (M 45 0)) 45 1)) 45 2)) 8 3 ((mv_up (mv_up (mv_up M 8 0 (M 45 0)) 8 1 ((mv_up M 8 0 (M 45 0)) 45 1)) 8 2 ((mv_up (mv_up M 8 0 (M 45 0)) 8 1 ((mv_up M 8 0 (M 45 0)) 45 1)) 45 2)) 45 3)) 8 4 ((mv_up (mv_up (mv_up (mv_up M 8 0 (M 45 0)) 8 1 ((mv_up M 8 0 (M 45 0)) 45 1)) 8 2 ((mv_up (mv_up M 8 0 (M 45 0)) 8 1 ((mv_up M 8 0 (M 45 0)) 45 1)) 45 2)) 8 3 ((mv_up (mv_up (mv_up M 8 0 (M 45 0)) 8 1 ((mv_up M 8 0 (M 45 0)) 45 1)) 8 2 ((mv_up (mv_up M 8 0 (M 45 0)) 8 1 ((mv_up M 8 0 (M 45 0)) 45 1)) 45 2)) 45 3)) 45 4)) 50 i = M 50 i
        rw [mv_up_c (by decide), mv_up_c (by decide), mv_up_c (by decide), mv_up_c (by decide), mv_up_c (by decide)]
      · refine (mv_cps_y _ _ (by decide) (by decide) (51, 14, 192) (by decide) hi).trans ?_
        show (mv_up (mv_up (mv_up (mv_up (mv_up M 8 0 (M 45 0)) 8 1 ((mv_up M 8 0 (M 45 0)) 45 1)) 8 2 ((mv_up (mv_up M 8 0 (M 45 0)) 8 1 ((mv_up M 8 0 (M 45 0)) 45 1)) 45 2)) 8 3 ((mv_up (mv_up (mv_up M 8 0 (M 45 0)) 8 1 ((mv_up M 8 0 (M 45 0)) 45 1)) 8 2 ((mv_up (mv_up M 8 0 (M 45 0)) 8 1 ((mv_up M 8 0 (M 45 0)) 45 1)) 45 2)) 45 3)) 8 4 ((mv_up (mv_up (mv_up (mv_up M 8 0 (M 45 0)) 8 1 ((mv_up M 8 0 (M 45 0)) 45 1)) 8 2 ((mv_up (mv_up M 8 0 (M 45 0)) 8 1 ((mv_up M 8 0 (M 45 0)) 45 1)) 45 2)) 8 3 ((mv_up (mv_up (mv_up M 8 0 (M 45 0)) 8 1 ((mv_up M 8 0 (M 45 0)) 45 1)) 8 2 ((mv_up (mv_up M 8 0 (M 45 0)) 8 1 ((mv_up M 8 0 (M 45 0)) 45 1)) 45 2)) 45 3)) 45 4)) 51 i = M 51 i
        rw [mv_up_c (by decide), mv_up_c (by decide), mv_up_c (by decide), mv_up_c (by decide), mv_up_c (by decide)]
      · refine (mv_cps_y _ _ (by decide) (by decide) (52, 15, 3) (by decide) hi).trans ?_
        show (mv_up (mv_up (mv_up (mv_up (mv_up M 8 0 (M 45 0)) 8 1 ((mv_up M 8 0 (M 45 0)) 45 1)) 8 2 ((mv_up (mv_up M 8 0 (M 45 0)) 8 1 ((mv_up M 8 0 (M 45 0)) 45 1)) 45 2)) 8 3 ((mv_up (mv_up (mv_up M 8 0 (M 45 0)) 8 1 ((mv_up M 8 0 (M 45 0)) 45 1)) 8 2 ((mv_up (mv_up M 8 0 (M 45 0)) 8 1 ((mv_up M 8 0 (M 45 0)) 45 1)) 45 2)) 45 3)) 8 4 ((mv_up (mv_up (mv_up (mv_up M 8 0 (M 45 0)) 8 1 ((mv_up M 8 0 (M 45 0)) 45 1)) 8 2 ((mv_up (mv_up M 8 0 (M 45 0)) 8 1 ((mv_up M 8 0 (M 45 0)) 45 1)) 45 2)) 8 3 ((mv_up (mv_up (mv_up M 8 0 (M 45 0)) 8 1 ((mv_up M 8 0 (M 45 0)) 45 1)) 8 2 ((mv_up (mv_up M 8 0 (M 45 0)) 8 1 ((mv_up M 8 0 (M 45 0)) 45 1)) 45 2)) 45 3)) 45 4)) 52 i = M 52 i
        rw [mv_up_c (by decide), mv_up_c (by decide), mv_up_c (by decide), mv_up_c (by decide), mv_up_c (by decide)]
      · refine (mv_cps_y _ _ (by decide) (by decide) (53, 16, 4) (by decide) hi).trans ?_
        show (mv_up (mv_up (mv_up (mv_up (mv_up M 8 0 (M 45 0)) 8 1 ((mv_up M 8 0 (M 45 0)) 45 1)) 8 2 ((mv_up (mv_up M 8 0 (M 45 0)) 8 1 ((mv_up M 8 0 (M 45 0)) 45 1)) 45 2)) 8 3 ((mv_up (mv_up (mv_up M 8 0 (M 45 0)) 8 1 ((mv_up M 8 0 (M 45 0)) 45 1)) 8 2 ((mv_up (mv_up M 8 0 (M 45 0)) 8 1 ((mv_up M 8 0 (M 45 0)) 45 1)) 45 2)) 45 3)) 8 4 ((mv_up (mv_up (mv_up (mv_up M 8 0 (M 45 0)) 8 1 ((mv_up M 8 0 (M 45 0)) 45 1)) 8 2 ((mv_up (mv_up M 8 0 (M 45 0)) 8 1 ((mv_up M 8 0 (M 45 0)) 45 1)) 45 2)) 8 3 ((mv_up (mv_up (mv_up M 8 0 (M 45 0)) 8 1 ((mv_up M 8 0 (M 45 0)) 45 1)) 8 2 ((mv_up (mv_up M 8 0 (M 45 0)) 8 1 ((mv_up M 8 0 (M 45 0)) 45 1)) 45 2)) 45 3)) 45 4)) 53 i = M 53 i
        rw [mv_up_c (by decide), mv_up_c (by decide), mv_up_c (by decide), mv_up_c (by decide), mv_up_c (by decide)]
  refine vw_X0_takeFrom_o ?_
  exact ⟨by decide, by decide, by decide, by decide, by decide, by decide, by decide, by decide, mv_qv_i key⟩
theorem cl_usesTake_i {F : mv_Mem → Prop} (h : ∀ M', (∀ a i, ¬ (54 ≤ a ∧ a ≤ 66) → M' a i = M a i) → sg_cq sg_Lu 0 37 M M' → F M') : mv_Wp G 60 [.inr (.inr 54), .inr (.inr 17)] (mh l) M (mv_qv (mh l) F) := by
  have key : F (mv_cps (mv_up (mv_up M 54 0 (M 17 0)) 54 1 ((mv_up M 54 0 (M 17 0)) 17 1)) [(18, 55, 6), (19, 56, 6), (20, 57, 6), (21, 58, 6), (22, 59, 6), (23, 60, 6), (24, 61, 6), (25, 62, 6), (26, 63, 18), (27, 64, 18), (28, 65, 108), (29, 66, 108)]) := by
    refine h _ (fun a i ha => ?_) (fun q hq i hi => ?_)
    · refine (mv_cps_n _ _ (fun hm => ?_)).trans ?_
      · simp only [List.map_cons, List.map_nil, List.mem_cons, List.not_mem_nil, or_false] at hm
        omega
      · rw [mv_up_c (show a ≠ 54 by omega), mv_up_c (show a ≠ 54 by omega)]
    · simp only [sg_Lu, List.mem_cons, List.not_mem_nil, or_false] at hq
      rcases hq with rfl | rfl | rfl | rfl | rfl | rfl | rfl | rfl | rfl | rfl | rfl | rfl | rfl
      · refine (mv_cps_n _ _ (by decide)).trans ?_
        have hi2 : i < 2 := hi
        show (mv_up (mv_up M 54 0 (M 17 0)) 54 1 ((mv_up M 54 0 (M 17 0)) 17 1)) 54 i = M 17 i
        rcases (show i = 0 ∨ i = 1 by omega) with rfl | rfl
        · rw [mv_up_j (by decide), mv_up_s]
        · rw [mv_up_s, mv_up_c (by decide)]
      · refine (mv_cps_y _ _ (by decide) (by decide) (18, 55, 6) (by decide) hi).trans ?_
        show (mv_up (mv_up M 54 0 (M 17 0)) 54 1 ((mv_up M 54 0 (M 17 0)) 17 1)) 18 i = M 18 i
        rw [mv_up_c (by decide), mv_up_c (by decide)]
      · refine (mv_cps_y _ _ (by decide) (by decide) (19, 56, 6) (by decide) hi).trans ?_
        show (mv_up (mv_up M 54 0 (M 17 0)) 54 1 ((mv_up M 54 0 (M 17 0)) 17 1)) 19 i = M 19 i
        rw [mv_up_c (by decide), mv_up_c (by decide)]
      · refine (mv_cps_y _ _ (by decide) (by decide) (20, 57, 6) (by decide) hi).trans ?_
        show (mv_up (mv_up M 54 0 (M 17 0)) 54 1 ((mv_up M 54 0 (M 17 0)) 17 1)) 20 i = M 20 i
        rw [mv_up_c (by decide), mv_up_c (by decide)]
      · refine (mv_cps_y _ _ (by decide) (by decide) (21, 58, 6) (by decide) hi).trans ?_
        show (mv_up (mv_up M 54 0 (M 17 0)) 54 1 ((mv_up M 54 0 (M 17 0)) 17 1)) 21 i = M 21 i
        rw [mv_up_c (by decide), mv_up_c (by decide)]
      · refine (mv_cps_y _ _ (by decide) (by decide) (22, 59, 6) (by decide) hi).trans ?_
        show (mv_up (mv_up M 54 0 (M 17 0)) 54 1 ((mv_up M 54 0 (M 17 0)) 17 1)) 22 i = M 22 i
        rw [mv_up_c (by decide), mv_up_c (by decide)]
      · refine (mv_cps_y _ _ (by decide) (by decide) (23, 60, 6) (by decide) hi).trans ?_
        show (mv_up (mv_up M 54 0 (M 17 0)) 54 1 ((mv_up M 54 0 (M 17 0)) 17 1)) 23 i = M 23 i
        rw [mv_up_c (by decide), mv_up_c (by decide)]
      · refine (mv_cps_y _ _ (by decide) (by decide) (24, 61, 6) (by decide) hi).trans ?_
        show (mv_up (mv_up M 54 0 (M 17 0)) 54 1 ((mv_up M 54 0 (M 17 0)) 17 1)) 24 i = M 24 i
        rw [mv_up_c (by decide), mv_up_c (by decide)]
      · refine (mv_cps_y _ _ (by decide) (by decide) (25, 62, 6) (by decide) hi).trans ?_
        show (mv_up (mv_up M 54 0 (M 17 0)) 54 1 ((mv_up M 54 0 (M 17 0)) 17 1)) 25 i = M 25 i
        rw [mv_up_c (by decide), mv_up_c (by decide)]
      · refine (mv_cps_y _ _ (by decide) (by decide) (26, 63, 18) (by decide) hi).trans ?_
        show (mv_up (mv_up M 54 0 (M 17 0)) 54 1 ((mv_up M 54 0 (M 17 0)) 17 1)) 26 i = M 26 i
        rw [mv_up_c (by decide), mv_up_c (by decide)]
      · refine (mv_cps_y _ _ (by decide) (by decide) (27, 64, 18) (by decide) hi).trans ?_
        show (mv_up (mv_up M 54 0 (M 17 0)) 54 1 ((mv_up M 54 0 (M 17 0)) 17 1)) 27 i = M 27 i
        rw [mv_up_c (by decide), mv_up_c (by decide)]
      · refine (mv_cps_y _ _ (by decide) (by decide) (28, 65, 108) (by decide) hi).trans ?_
        show (mv_up (mv_up M 54 0 (M 17 0)) 54 1 ((mv_up M 54 0 (M 17 0)) 17 1)) 28 i = M 28 i
        rw [mv_up_c (by decide), mv_up_c (by decide)]
      · refine (mv_cps_y _ _ (by decide) (by decide) (29, 66, 108) (by decide) hi).trans ?_
        show (mv_up (mv_up M 54 0 (M 17 0)) 54 1 ((mv_up M 54 0 (M 17 0)) 17 1)) 29 i = M 29 i
        rw [mv_up_c (by decide), mv_up_c (by decide)]
  refine vw_X7_takeFrom_i ?_
  exact ⟨by decide, by decide, by decide, by decide, by decide, by decide, by decide, by decide, by decide, by decide, by decide, by decide, mv_qv_i key⟩
theorem cl_usesTake_o {F : mv_Mem → Prop} (h : ∀ M', (∀ a i, ¬ (17 ≤ a ∧ a ≤ 29) → M' a i = M a i) → sg_cq sg_Lu 37 0 M M' → F M') : mv_Wp G 60 [.inr (.inr 17), .inr (.inr 54)] (mh l) M (mv_qv (mh l) F) := by
  have key : F (mv_cps (mv_up (mv_up M 17 0 (M 54 0)) 17 1 ((mv_up M 17 0 (M 54 0)) 54 1)) [(55, 18, 6), (56, 19, 6), (57, 20, 6), (58, 21, 6), (59, 22, 6), (60, 23, 6), (61, 24, 6), (62, 25, 6), (63, 26, 18), (64, 27, 18), (65, 28, 108), (66, 29, 108)]) := by
    refine h _ (fun a i ha => ?_) (fun q hq i hi => ?_)
    · refine (mv_cps_n _ _ (fun hm => ?_)).trans ?_
      · simp only [List.map_cons, List.map_nil, List.mem_cons, List.not_mem_nil, or_false] at hm
        omega
      · rw [mv_up_c (show a ≠ 17 by omega), mv_up_c (show a ≠ 17 by omega)]
    · simp only [sg_Lu, List.mem_cons, List.not_mem_nil, or_false] at hq
      rcases hq with rfl | rfl | rfl | rfl | rfl | rfl | rfl | rfl | rfl | rfl | rfl | rfl | rfl
      · refine (mv_cps_n _ _ (by decide)).trans ?_
        have hi2 : i < 2 := hi
        show (mv_up (mv_up M 17 0 (M 54 0)) 17 1 ((mv_up M 17 0 (M 54 0)) 54 1)) 17 i = M 54 i
        rcases (show i = 0 ∨ i = 1 by omega) with rfl | rfl
        · rw [mv_up_j (by decide), mv_up_s]
        · rw [mv_up_s, mv_up_c (by decide)]
      · refine (mv_cps_y _ _ (by decide) (by decide) (55, 18, 6) (by decide) hi).trans ?_
        show (mv_up (mv_up M 17 0 (M 54 0)) 17 1 ((mv_up M 17 0 (M 54 0)) 54 1)) 55 i = M 55 i
        rw [mv_up_c (by decide), mv_up_c (by decide)]
      · refine (mv_cps_y _ _ (by decide) (by decide) (56, 19, 6) (by decide) hi).trans ?_
        show (mv_up (mv_up M 17 0 (M 54 0)) 17 1 ((mv_up M 17 0 (M 54 0)) 54 1)) 56 i = M 56 i
        rw [mv_up_c (by decide), mv_up_c (by decide)]
      · refine (mv_cps_y _ _ (by decide) (by decide) (57, 20, 6) (by decide) hi).trans ?_
        show (mv_up (mv_up M 17 0 (M 54 0)) 17 1 ((mv_up M 17 0 (M 54 0)) 54 1)) 57 i = M 57 i
        rw [mv_up_c (by decide), mv_up_c (by decide)]
      · refine (mv_cps_y _ _ (by decide) (by decide) (58, 21, 6) (by decide) hi).trans ?_
        show (mv_up (mv_up M 17 0 (M 54 0)) 17 1 ((mv_up M 17 0 (M 54 0)) 54 1)) 58 i = M 58 i
        rw [mv_up_c (by decide), mv_up_c (by decide)]
      · refine (mv_cps_y _ _ (by decide) (by decide) (59, 22, 6) (by decide) hi).trans ?_
        show (mv_up (mv_up M 17 0 (M 54 0)) 17 1 ((mv_up M 17 0 (M 54 0)) 54 1)) 59 i = M 59 i
        rw [mv_up_c (by decide), mv_up_c (by decide)]
      · refine (mv_cps_y _ _ (by decide) (by decide) (60, 23, 6) (by decide) hi).trans ?_
        show (mv_up (mv_up M 17 0 (M 54 0)) 17 1 ((mv_up M 17 0 (M 54 0)) 54 1)) 60 i = M 60 i
        rw [mv_up_c (by decide), mv_up_c (by decide)]
      · refine (mv_cps_y _ _ (by decide) (by decide) (61, 24, 6) (by decide) hi).trans ?_
        show (mv_up (mv_up M 17 0 (M 54 0)) 17 1 ((mv_up M 17 0 (M 54 0)) 54 1)) 61 i = M 61 i
        rw [mv_up_c (by decide), mv_up_c (by decide)]
      · refine (mv_cps_y _ _ (by decide) (by decide) (62, 25, 6) (by decide) hi).trans ?_
        show (mv_up (mv_up M 17 0 (M 54 0)) 17 1 ((mv_up M 17 0 (M 54 0)) 54 1)) 62 i = M 62 i
        rw [mv_up_c (by decide), mv_up_c (by decide)]
      · refine (mv_cps_y _ _ (by decide) (by decide) (63, 26, 18) (by decide) hi).trans ?_
        show (mv_up (mv_up M 17 0 (M 54 0)) 17 1 ((mv_up M 17 0 (M 54 0)) 54 1)) 63 i = M 63 i
        rw [mv_up_c (by decide), mv_up_c (by decide)]
      · refine (mv_cps_y _ _ (by decide) (by decide) (64, 27, 18) (by decide) hi).trans ?_
        show (mv_up (mv_up M 17 0 (M 54 0)) 17 1 ((mv_up M 17 0 (M 54 0)) 54 1)) 64 i = M 64 i
        rw [mv_up_c (by decide), mv_up_c (by decide)]
      · refine (mv_cps_y _ _ (by decide) (by decide) (65, 28, 108) (by decide) hi).trans ?_
        show (mv_up (mv_up M 17 0 (M 54 0)) 17 1 ((mv_up M 17 0 (M 54 0)) 54 1)) 65 i = M 65 i
        rw [mv_up_c (by decide), mv_up_c (by decide)]
      · refine (mv_cps_y _ _ (by decide) (by decide) (66, 29, 108) (by decide) hi).trans ?_
        show (mv_up (mv_up M 17 0 (M 54 0)) 17 1 ((mv_up M 17 0 (M 54 0)) 54 1)) 66 i = M 66 i
        rw [mv_up_c (by decide), mv_up_c (by decide)]
  refine vw_X7_takeFrom_o ?_
  exact ⟨by decide, by decide, by decide, by decide, by decide, by decide, by decide, by decide, by decide, by decide, by decide, by decide, mv_qv_i key⟩
theorem cl_plansTake_i {F : mv_Mem → Prop} (h : ∀ M', (∀ a i, ¬ (67 ≤ a ∧ a ≤ 71) → M' a i = M a i) → sg_cq sg_Lp 0 37 M M' → F M') : mv_Wp G 33 [.inr (.inr 67), .inr (.inr 30)] (mh l) M (mv_qv (mh l) F) := by
  have key : F (mv_cps (mv_up M 67 0 (M 30 0)) [(31, 68, 8), (32, 69, 8), (33, 70, 8), (34, 71, 8)]) := by
    refine h _ (fun a i ha => ?_) (fun q hq i hi => ?_)
    · refine (mv_cps_n _ _ (fun hm => ?_)).trans ?_
      · simp only [List.map_cons, List.map_nil, List.mem_cons, List.not_mem_nil, or_false] at hm
        omega
      · rw [mv_up_c (show a ≠ 67 by omega)]
    · simp only [sg_Lp, List.mem_cons, List.not_mem_nil, or_false] at hq
      rcases hq with rfl | rfl | rfl | rfl | rfl
      · refine (mv_cps_n _ _ (by decide)).trans ?_
        have hi2 : i < 1 := hi
        show (mv_up M 67 0 (M 30 0)) 67 i = M 30 i
        obtain rfl : i = 0 := by omega
        rw [mv_up_s]
      · refine (mv_cps_y _ _ (by decide) (by decide) (31, 68, 8) (by decide) hi).trans ?_
        show (mv_up M 67 0 (M 30 0)) 31 i = M 31 i
        rw [mv_up_c (by decide)]
      · refine (mv_cps_y _ _ (by decide) (by decide) (32, 69, 8) (by decide) hi).trans ?_
        show (mv_up M 67 0 (M 30 0)) 32 i = M 32 i
        rw [mv_up_c (by decide)]
      · refine (mv_cps_y _ _ (by decide) (by decide) (33, 70, 8) (by decide) hi).trans ?_
        show (mv_up M 67 0 (M 30 0)) 33 i = M 33 i
        rw [mv_up_c (by decide)]
      · refine (mv_cps_y _ _ (by decide) (by decide) (34, 71, 8) (by decide) hi).trans ?_
        show (mv_up M 67 0 (M 30 0)) 34 i = M 34 i
        rw [mv_up_c (by decide)]
  refine vw_X2_takeFrom_i ?_
  exact ⟨by decide, by decide, by decide, by decide, mv_qv_i key⟩
theorem cl_plansTake_o {F : mv_Mem → Prop} (h : ∀ M', (∀ a i, ¬ (30 ≤ a ∧ a ≤ 34) → M' a i = M a i) → sg_cq sg_Lp 37 0 M M' → F M') : mv_Wp G 33 [.inr (.inr 30), .inr (.inr 67)] (mh l) M (mv_qv (mh l) F) := by
  have key : F (mv_cps (mv_up M 30 0 (M 67 0)) [(68, 31, 8), (69, 32, 8), (70, 33, 8), (71, 34, 8)]) := by
    refine h _ (fun a i ha => ?_) (fun q hq i hi => ?_)
    · refine (mv_cps_n _ _ (fun hm => ?_)).trans ?_
      · simp only [List.map_cons, List.map_nil, List.mem_cons, List.not_mem_nil, or_false] at hm
        omega
      · rw [mv_up_c (show a ≠ 30 by omega)]
    · simp only [sg_Lp, List.mem_cons, List.not_mem_nil, or_false] at hq
      rcases hq with rfl | rfl | rfl | rfl | rfl
      · refine (mv_cps_n _ _ (by decide)).trans ?_
        have hi2 : i < 1 := hi
        show (mv_up M 30 0 (M 67 0)) 30 i = M 67 i
        obtain rfl : i = 0 := by omega
        rw [mv_up_s]
      · refine (mv_cps_y _ _ (by decide) (by decide) (68, 31, 8) (by decide) hi).trans ?_
        show (mv_up M 30 0 (M 67 0)) 68 i = M 68 i
        rw [mv_up_c (by decide)]
      · refine (mv_cps_y _ _ (by decide) (by decide) (69, 32, 8) (by decide) hi).trans ?_
        show (mv_up M 30 0 (M 67 0)) 69 i = M 69 i
        rw [mv_up_c (by decide)]
      · refine (mv_cps_y _ _ (by decide) (by decide) (70, 33, 8) (by decide) hi).trans ?_
        show (mv_up M 30 0 (M 67 0)) 70 i = M 70 i
        rw [mv_up_c (by decide)]
      · refine (mv_cps_y _ _ (by decide) (by decide) (71, 34, 8) (by decide) hi).trans ?_
        show (mv_up M 30 0 (M 67 0)) 71 i = M 71 i
        rw [mv_up_c (by decide)]
  refine vw_X2_takeFrom_o ?_
  exact ⟨by decide, by decide, by decide, by decide, mv_qv_i key⟩
theorem sg_cq_fr {L : List (Nat × Nat)} {o o' : Nat} {M1 M2 M1' M2' : mv_Mem} (h : sg_cq L o o' M1 M2) (h1 : ∀ q, q ∈ L → ∀ i, M1' (q.1 + o) i = M1 (q.1 + o) i) (h2 : ∀ q, q ∈ L → ∀ i, M2' (q.1 + o') i = M2 (q.1 + o') i) : sg_cq L o o' M1' M2' := fun q hq i hi => by
  rw [h2 q hq i, h1 q hq i]
  exact h q hq i hi
theorem sg_Ll_r : ∀ q, q ∈ sg_Ll → 8 ≤ q.1 ∧ q.1 ≤ 16 := by decide
theorem sg_Lu_r : ∀ q, q ∈ sg_Lu → 17 ≤ q.1 ∧ q.1 ≤ 29 := by decide
theorem sg_Lp_r : ∀ q, q ∈ sg_Lp → 30 ≤ q.1 ∧ q.1 ≤ 34 := by decide
theorem cl_take_i (hw : sg_wf S) (hC : sg_C 0 S M) {F : mv_Mem → Prop} (h : ∀ M', (∀ a i, ¬ (45 ≤ a ∧ a ≤ 71) → M' a i = M a i) → sg_C 37 S M' → F M') : mv_Wp G 84 [.inr (.inr 44), .inr (.inr 7)] (mh l) M (mv_qv (mh l) F) := by
  refine vw_X10_takeFrom_i (cl_landTake_i (fun M1 f1 c1 => cl_usesTake_i (fun M2 f2 c2 => cl_plansTake_i (fun M3 f3 c3 => mv_qv_i (h M3 (fun a i ha => ?_) (sg_C_cp hw hC ?_ ?_ ?_))))))
  · rw [f3 a i (by omega), f2 a i (by omega), f1 a i (by omega)]
  · exact sg_cq_fr c1 (fun q hq i => rfl) (fun q hq i => by have := sg_Ll_r q hq; rw [f3 _ i (by omega), f2 _ i (by omega)])
  · exact sg_cq_fr c2 (fun q hq i => by have := sg_Lu_r q hq; rw [f1 _ i (by omega)]) (fun q hq i => by have := sg_Lu_r q hq; rw [f3 _ i (by omega)])
  · exact sg_cq_fr c3 (fun q hq i => by have := sg_Lp_r q hq; rw [f2 _ i (by omega), f1 _ i (by omega)]) (fun q hq i => rfl)
theorem cl_take_o (hw : sg_wf S) (hC : sg_C 37 S M) {F : mv_Mem → Prop} (h : ∀ M', (∀ a i, ¬ (8 ≤ a ∧ a ≤ 34) → M' a i = M a i) → sg_C 0 S M' → F M') : mv_Wp G 84 [.inr (.inr 7), .inr (.inr 44)] (mh l) M (mv_qv (mh l) F) := by
  refine vw_X10_takeFrom_o (cl_landTake_o (fun M1 f1 c1 => cl_usesTake_o (fun M2 f2 c2 => cl_plansTake_o (fun M3 f3 c3 => mv_qv_i (h M3 (fun a i ha => ?_) (sg_C_cp hw hC ?_ ?_ ?_))))))
  · rw [f3 a i (by omega), f2 a i (by omega), f1 a i (by omega)]
  · exact sg_cq_fr c1 (fun q hq i => rfl) (fun q hq i => by have := sg_Ll_r q hq; rw [f3 _ i (by omega), f2 _ i (by omega)])
  · exact sg_cq_fr c2 (fun q hq i => by have := sg_Lu_r q hq; rw [f1 _ i (by omega)]) (fun q hq i => by have := sg_Lu_r q hq; rw [f3 _ i (by omega)])
  · exact sg_cq_fr c3 (fun q hq i => by have := sg_Lp_r q hq; rw [f2 _ i (by omega), f1 _ i (by omega)]) (fun q hq i => rfl)
end IM
end
section
/-! THE WHOLE STATE: S 30, 31: the tape (how long, bytes), S 32, 33: the row, S 34: refusals, S 35 0: whether an image is kept, S 40 ..: the image -/
def sg_kp (S : mv_Mem) : mv_Mem := fun a i => S (40 + a) i
/-- what is so of the whole state behind c calls -/
def sg_oo (c : Nat) (S : mv_Mem) : Prop := sg_wf S ∧ (0 ≤ S 30 0 ∧ S 30 0 ≤ 60) ∧ (∀ i, 0 ≤ S 31 i ∧ S 31 i ≤ 255) ∧ (0 ≤ S 32 0 ∧ S 32 0 ≤ 48) ∧ (∀ i, i < 7 → 0 ≤ S 34 i ∧ S 34 i ≤ (c : Int)) ∧ (S 35 0 = 0 ∨ S 35 0 = 1) ∧ (S 35 0 = 1 → sg_wf (sg_kp S))
/-- the class's cells hold the whole state -/
def sg_CC (S M : mv_Mem) : Prop := sg_K S M ∧ M 2 1 = S 30 0 ∧ (∀ i : Nat, (i : Int) < S 30 0 → M 3 i = S 31 i) ∧ M 4 1 = S 32 0 ∧ (∀ i : Nat, (i : Int) < S 32 0 → M 5 i = S 33 i) ∧ (∀ i, i < 7 → M 87 i = S 34 i) ∧ M 1 8 = S 35 0 ∧ (S 35 0 = 1 → sg_C 37 (sg_kp S) M)
def sg_X (M M' : mv_Mem) : Prop := ∀ a i, a = 0 ∨ 88 ≤ a → M' a i = M a i
/-- what lies around the world of the class is as it was -/
def sg_Q (M M' : mv_Mem) : Prop := ∀ a i, (a ≤ 5 ∨ (44 ≤ a ∧ a ≤ 71) ∨ 87 ≤ a) → M' a i = M a i
def sg_no (S : mv_Mem) (r : Int) : mv_Mem := mv_up S 34 (-r).toNat (S 34 (-r).toNat + 1)
def sg_un (v lo hi : Int) : Int := if v < lo then -4 else if hi < v then -6 else 0
section OU
variable {S : mv_Mem} {G : mv_G} {l c : Nat} {M : mv_Mem} {F : Int → mv_Mem → Prop}
theorem sg_Q_X {M' : mv_Mem} (h : sg_Q M M') : sg_X M M' := fun a i ha => h a i (by omega)
theorem sg_Q_r : sg_Q M M := fun _ _ _ => rfl
theorem sg_Q_t {M' M'' : mv_Mem} (h : sg_Q M M') (h2 : sg_Q M' M'') : sg_Q M M'' := fun a i ha => (h2 a i ha).trans (h a i ha)
theorem sg_X_r : sg_X M M := fun _ _ _ => rfl
theorem sg_X_t {M' M'' : mv_Mem} (h : sg_X M M') (h2 : sg_X M' M'') : sg_X M M'' := fun a i ha => (h2 a i ha).trans (h a i ha)
theorem sg_CC_q {S' M' : mv_Mem} (h : sg_CC S M) (hq : sg_Q M M') (hs : ∀ a i, 30 ≤ a → S' a i = S a i) (hk : sg_K S' M') : sg_CC S' M' := by
  obtain ⟨-, h2, h3, h4, h5, h6, h7, h8⟩ := h
  have e : sg_kp S' = sg_kp S := by
    funext a i
    exact hs (40 + a) i (by omega)
  refine ⟨hk, ?_, fun i hi => ?_, ?_, fun i hi => ?_, fun i hi => ?_, ?_, fun hk => ?_⟩
  · rw [hq 2 1 (by omega), hs 30 0 (by omega)]
    exact h2
  · rw [hs 30 0 (by omega)] at hi
    rw [hq 3 i (by omega), hs 31 i (by omega)]
    exact h3 i hi
  · rw [hq 4 1 (by omega), hs 32 0 (by omega)]
    exact h4
  · rw [hs 32 0 (by omega)] at hi
    rw [hq 5 i (by omega), hs 33 i (by omega)]
    exact h5 i hi
  · rw [hq 87 i (by omega), hs 34 i (by omega)]
    exact h6 i hi
  · rw [hq 1 8 (by omega), hs 35 0 (by omega)]
    exact h7
  · rw [hs 35 0 (by omega)] at hk
    rw [e]
    exact sg_C_fr (h8 hk) (fun c d1 d2 i => hq c i (by omega))
theorem sg_K_0 (hC : sg_C 0 S M) (h6 : M 6 6 = 0) (h7 : M 6 7 = 0) : sg_K S M := ⟨hC, Or.inl h6, Or.inl h7, fun z => by omega, fun _ => h7, fun z => by omega⟩
theorem sg_K_1 (hC : sg_C 0 S M) (hZ : sg_Z S M) (h6 : M 6 6 = 1) (h7 : M 6 7 = 1) : sg_K S M := ⟨hC, Or.inr h6, Or.inr h7, fun _ => hZ.1, fun z => by omega, fun _ => hZ.2⟩
theorem sg_K_b (hC : sg_C 0 S M) (h6 : M 6 6 = 0 ∨ M 6 6 = 1) (hW : M 6 6 = 1 → sg_W S M) (h7 : M 6 7 = 0) : sg_K S M := ⟨hC, h6, Or.inl h7, hW, fun _ => h7, fun z => by omega⟩
/-- .. when the flags and tables stay -/
theorem sg_K_fr {M' : mv_Mem} (hK : sg_K S M) (h : ∀ a i, (6 ≤ a ∧ a ≤ 43) → M' a i = M a i) : sg_K S M' := by
  obtain ⟨k1, k2, k3, k4, k5, k6⟩ := hK
  have e6 := h 6 6 (by omega)
  have e7 := h 6 7 (by omega)
  refine ⟨sg_C_fr k1 (fun c d1 d2 i => h c i (by omega)), by rw [e6]; exact k2, by rw [e7]; exact k3, fun z => ?_, fun z => ?_, fun z => ?_⟩
  · rw [e6] at z
    exact sg_W_fr (k4 z) (fun c d1 d2 _ i => h c i (by omega))
  · rw [e6] at z
    rw [e7]
    exact k5 z
  · rw [e7] at z
    exact ⟨sg_Bd_fr (k6 z).1 (fun i => h 42 i (by omega)), sg_Tk_fr (k6 z).2 (fun i => h 43 i (by omega))⟩
theorem sg_CC_no (h : sg_CC S M) {r : Int} (hr : -6 ≤ r ∧ r ≤ -1) : sg_CC (sg_no S r) (mv_up M 87 (-r).toNat (M 87 (-r).toNat + 1)) ∧ sg_X M (mv_up M 87 (-r).toNat (M 87 (-r).toNat + 1)) := by
  obtain ⟨h1, h2, h3, h4, h5, h6, h7, h8⟩ := h
  have hx : ∀ a i, a ≠ 87 → (mv_up M 87 (-r).toNat (M 87 (-r).toNat + 1)) a i = M a i := fun a i ha => mv_up_c ha
  have hs : ∀ a i, a ≠ 34 → (sg_no S r) a i = S a i := fun a i ha => mv_up_c ha
  have hk : sg_K (sg_no S r) (mv_up M 87 (-r).toNat (M 87 (-r).toNat + 1)) := by
    have := sg_K_fr (M' := mv_up M 87 (-r).toNat (M 87 (-r).toNat + 1)) h1 (fun a i ha => hx a i (by omega))
    have eq : ∀ {P : mv_Mem → Prop}, True := fun {_} => trivial
    obtain ⟨k1, k2, k3, k4, k5, k6⟩ := this
    have ys : ∀ u n, sg_ys (sg_no S r) u n = sg_ys S u n := fun u n => sg_ys_u (by decide) n
    have mn : ∀ u, sg_mn (sg_no S r) u = sg_mn S u := fun u => sg_mn_u (by decide) (by decide)
    have bid : ∀ o k, sg_bid (sg_no S r) o k = sg_bid S o k := fun o k => by
      show sg_if (sg_cg S (o / 3) (sg_wo S o k)) (100 * (sg_yl S (o / 3) (S 1 k) * (S 16 o + sg_mn (sg_no S r) (o / 3)) - S 11 (o / 3) - S 13 (o / 3)) - sg_cr S (o / 3) (S 1 k) * sg_wo S o k) 0 = _
      rw [mn]
      rfl
    have gg : ∀ w k n, sg_g (sg_no S r) w k n = sg_g S w k n := fun w k n => by
      induction n with
      | zero => rfl
      | succ n ih =>
        show (if ((n % 3 : Nat) : Int) < S 0 2 ∧ (n : Int) ≠ w ∧ (sg_g (sg_no S r) w k n).2 < sg_bid (sg_no S r) n k then ((n : Int), sg_bid (sg_no S r) n k) else sg_g (sg_no S r) w k n) = (if ((n % 3 : Nat) : Int) < S 0 2 ∧ (n : Int) ≠ w ∧ (sg_g S w k n).2 < sg_bid S n k then ((n : Int), sg_bid S n k) else sg_g S w k n)
        rw [ih, bid]
    have tk : ∀ k, sg_tk (sg_no S r) k = sg_tk S k := fun k => by
      show (if S 4 k = 0 then (sg_g (sg_no S r) (-1) k (3 * (S 0 3).toNat)).1 else -1) = _
      rw [gg]
      rfl
    refine ⟨⟨k1.1, k1.2.1, k1.2.2.1, k1.2.2.2.1, k1.2.2.2.2.1, fun j hj => ?_, k1.2.2.2.2.2.2⟩, k2, k3, fun z => ?_, k5, fun z => ⟨fun o k z1 z2 z3 => ?_, fun k z1 => ?_⟩⟩
    · obtain ⟨q1, q2, q3, q4, q5, q6, q7, q8⟩ := k1.2.2.2.2.2.1 j hj
      refine ⟨q1, q2, q3, q4, q5, q6, q7, ?_⟩
      rw [ys]
      exact q8
    · exact k4 z
    · rw [bid]
      exact (k6 z).1 o k z1 z2 z3
    · rw [tk]
      exact (k6 z).2 k z1
  refine ⟨⟨hk, ?_, fun i hi => ?_, ?_, fun i hi => ?_, fun i hi => ?_, ?_, fun z => ?_⟩, fun a i ha => hx a i (by omega)⟩
  · rw [hx 2 1 (by decide)]
    exact h2
  · rw [hx 3 i (by decide)]
    exact h3 i hi
  · rw [hx 4 1 (by decide)]
    exact h4
  · rw [hx 5 i (by decide)]
    exact h5 i hi
  · unfold sg_no
    rw [← h6 (-r).toNat (by omega)]
    exact mv_up_sm (h6 i hi)
  · rw [hx 1 8 (by decide)]
    exact h7
  · have e : sg_kp (sg_no S r) = sg_kp S := by
      funext a i
      exact hs (40 + a) i (by omega)
    rw [e]
    exact sg_C_fr (h8 z) (fun c d1 d2 i => hx c i (by omega))
theorem sg_oo_s (h : sg_oo c S) : sg_oo (c + 1) S := ⟨h.1, h.2.1, h.2.2.1, h.2.2.2.1, fun i hi => by have := h.2.2.2.2.1 i hi; omega, h.2.2.2.2.2⟩
theorem sg_oo_no (h : sg_oo c S) {r : Int} (hr : -6 ≤ r ∧ r ≤ -1) : sg_oo (c + 1) (sg_no S r) := by
  obtain ⟨h1, h2, h3, h4, h5, h6, h7⟩ := h
  refine ⟨h1, h2, h3, h4, fun i hi => ?_, h6, h7⟩
  unfold sg_no
  have h8 := h5 (-r).toNat (by omega)
  by_cases q : i = (-r).toNat
  · rw [q, mv_up_s]
    omega
  · rw [mv_up_j q]
    have := h5 i hi
    omega
theorem cl_refuse (hS : sg_oo c S) (hc : c ≤ 100000) (h : sg_CC S M) {r : Int} (hr : -6 ≤ r ∧ r ≤ -1) (hF : ∀ M', sg_X M M' → sg_CC (sg_no S r) M' → F r M') : mv_Wp G 126 [.inr (.inr 1), .inl r] (mh l) M (mv_qi (mh l) F) := by
  refine vw_X11_refuse ?_
  have h6 := h.2.2.2.2.2.1 (-r).toNat (by omega)
  have h5 := hS.2.2.2.2.1 (-r).toNat (by omega)
  rw [if_neg (by omega), if_neg (by omega)]
  obtain ⟨a, b⟩ := sg_CC_no h hr
  exact ⟨by omega, by omega, by omega, by omega, mv_qi_i (hF _ b a)⟩
theorem cl_refuseLong (hS : sg_oo c S) (hc : c ≤ 100000) (h : sg_CC S M) {r : Int} (hr : -6 ≤ r ∧ r ≤ -1) (hF : ∀ M', sg_X M M' → sg_CC (sg_no S r) M' → F (4000000000000000000 - r) M') : mv_Wp G 127 [.inr (.inr 1), .inl r] (mh l) M (mv_ql (mh l) F) :=
  vw_X11_refuseLong (cl_refuse hS hc h hr (fun M' a b => ⟨by omega, mv_ql_i (hF M' a b)⟩))
theorem cl_unfit {v lo hi : Int} (h : F (sg_un v lo hi) M) : mv_Wp G 128 [.inl v, .inl lo, .inl hi] (mh l) M (mv_qi (mh l) F) := by
  refine vw_X11_unfit ?_
  unfold sg_un at h
  split
  · rw [if_neg (by omega)] at h
    split
    · rw [if_neg (by omega)] at h
      exact mv_qi_i h
    · rw [if_pos (by omega)] at h
      exact mv_qi_i h
  · rw [if_pos (by omega)] at h
    exact mv_qi_i h
theorem cl_isNoUse (hC : sg_C 0 S M) {u : Int} (h1 : ¬ (0 ≤ u ∧ u < S 0 3) → F 1 M) (h0 : 0 ≤ u ∧ u < S 0 3 → F 0 M) : mv_Wp G 129 [.inr (.inr 1), .inl u] (mh l) M (mv_qi (mh l) F) := by
  refine vw_X11_isNoUse ?_
  have c1 : M 17 0 = S 0 3 := hC.2.2.2.2.1.1
  rw [c1]
  split
  · exact ⟨by decide, mv_qi_i (h1 (by omega))⟩
  · split
    · exact ⟨by decide, mv_qi_i (h0 (by omega))⟩
    · exact ⟨by decide, mv_qi_i (h1 (by omega))⟩
theorem cl_isNoMarket (hC : sg_C 0 S M) {u : Int} (h1 : ¬ (0 ≤ u ∧ u < S 0 2) → F 1 M) (h0 : 0 ≤ u ∧ u < S 0 2 → F 0 M) : mv_Wp G 130 [.inr (.inr 1), .inl u] (mh l) M (mv_qi (mh l) F) := by
  refine vw_X11_isNoMarket ?_
  have c1 : M 8 4 = S 0 2 := hC.1.2.2.2.2
  rw [c1]
  split
  · exact ⟨by decide, mv_qi_i (h1 (by omega))⟩
  · split
    · exact ⟨by decide, mv_qi_i (h0 (by omega))⟩
    · exact ⟨by decide, mv_qi_i (h1 (by omega))⟩
theorem cl_settled (hw : sg_wf S) (h : sg_CC S M) {F : mv_Mem → Prop} (hF : ∀ M', sg_X M M' → sg_CC S M' → sg_C 0 S M' → sg_Z S M' → M' 6 6 = 1 → M' 6 7 = 1 → F M') : mv_Wp G 14 [.inr (.inr 6)] (mh l) M (mv_qv (mh l) F) := by
  refine cl_settle hw h.1 (fun M' f C Z f6 f7 => ?_)
  have hq : sg_Q M M' := fun a i ha => f a i (by omega) (by omega)
  exact hF M' (sg_Q_X hq) (sg_CC_q h hq (fun _ _ _ => rfl) (sg_K_1 C Z f6 f7)) C Z f6 f7
/-- a state that is the same in what the world is -/
def sg_sw (S S' : mv_Mem) : Prop := ∀ a i, a ≤ 23 → S' a i = S a i
theorem sg_sw_C {o : Nat} {S' : mv_Mem} (h : sg_sw S S') (hC : sg_C o S M) : sg_C o S' M := by
  have ys : ∀ u n, sg_ys S' u n = sg_ys S u n := fun u n => by
    induction n with
    | zero => rfl
    | succ n ih =>
      unfold sg_ys
      rw [ih, h 14 _ (by decide)]
  have ok : ∀ k, sg_ok S' k ↔ sg_ok S k := fun k => by
    unfold sg_ok
    rw [h 0 0 (by decide), h 0 1 (by decide)]
  have pl : ∀ k, sg_pl S' k = sg_pl S k := fun k => by
    unfold sg_pl
    rw [h 0 0 (by decide)]
  obtain ⟨⟨a1, a2, a3, a4, a5⟩, b, c, d, ⟨e1, e2⟩, f, g, hh, i, j⟩ := hC
  refine ⟨⟨?_, ?_, ?_, ?_, ?_⟩, fun k hk => ?_, fun m hk => ?_, fun m hk => ?_, ⟨?_, ?_⟩, fun m hk => ?_, fun m hk => ?_, fun m hk => ?_, ?_, fun p hk => ?_⟩
  · rw [h 0 0 (by decide)]; exact a1
  · rw [h 0 1 (by decide)]; exact a2
  · rw [h 0 0 (by decide), h 0 1 (by decide)]; exact a3
  · rw [h 0 6 (by decide)]; exact a4
  · rw [h 0 2 (by decide)]; exact a5
  · obtain ⟨q1, q2, q3, q4, q5, q6⟩ := b k ((ok k).1 hk)
    rw [pl, h 1 k (by decide), h 2 k (by decide), h 3 k (by decide), h 4 k (by decide)]
    exact ⟨q1, q2, q3, q4, q5, fun d hd => by rw [h 5 _ (by decide)]; exact q6 d hd⟩
  · rw [h 0 2 (by decide)] at hk
    rw [pl, h 7 m (by decide)]
    exact c m hk
  · rw [h 6 m (by decide)]
    exact d m hk
  · rw [h 0 3 (by decide)]; exact e1
  · rw [h 0 4 (by decide)]; exact e2
  · obtain ⟨q1, q2, q3, q4, q5, q6, q7, q8⟩ := f m hk
    rw [h 8 m (by decide), h 9 m (by decide), h 10 m (by decide), h 11 m (by decide), h 12 m (by decide), h 13 m (by decide), h 15 m (by decide), ys]
    exact ⟨q1, q2, q3, q4, q5, q6, q7, q8⟩
  · rw [h 16 m (by decide), h 19 m (by decide)]
    exact g m hk
  · rw [h 17 m (by decide), h 18 m (by decide)]
    exact hh m hk
  · rw [h 0 5 (by decide)]; exact i
  · rw [h 0 5 (by decide)] at hk
    rw [pl, h 20 p (by decide), h 21 p (by decide), h 22 p (by decide), h 23 p (by decide)]
    exact j p hk
theorem sg_sw_wf {S' : mv_Mem} (h : sg_sw S S') (hw : sg_wf S) : sg_wf S' := by
  have e : ∀ a, a ≤ 23 → S' a = S a := fun a ha => funext fun i => h a i ha
  have ok : ∀ k, sg_ok S' k ↔ sg_ok S k := fun k => by
    unfold sg_ok
    rw [e 0 (by decide)]
  have has : ∀ k d, sg_has S' k d ↔ sg_has S k d := fun k d => by
    unfold sg_has
    rw [e 0 (by decide)]
  obtain ⟨h1, ⟨a1, a2, a3, a4, a5, a6⟩, h3, h4, ⟨b1, b2, b3, b4, b5, b6, b7, b8⟩, ⟨c1, c2, c3, c4⟩, h7, h8, h9, h10⟩ := hw
  unfold sg_wf sg_B
  simp only [ok, has, e 0 (by decide), e 1 (by decide), e 2 (by decide), e 3 (by decide), e 4 (by decide), e 5 (by decide), e 6 (by decide), e 7 (by decide), e 8 (by decide), e 9 (by decide), e 10 (by decide), e 11 (by decide), e 12 (by decide), e 13 (by decide), e 14 (by decide), e 15 (by decide), e 16 (by decide), e 17 (by decide), e 18 (by decide), e 19 (by decide), e 20 (by decide), e 21 (by decide), e 22 (by decide), e 23 (by decide)]
  exact ⟨h1, ⟨a1, a2, a3, a4, a5, a6⟩, h3, h4, ⟨b1, b2, b3, b4, b5, b6, b7, b8⟩, ⟨c1, c2, c3, c4⟩, h7, h8, h9, h10⟩
end OU
end
section
/-! WHAT EACH CALL ANSWERS AND LEAVES (as the document asks): of a state and its arguments -/
def sa_feed (S : mv_Mem) (n b : Int) : Int × mv_Mem :=
  if n < 1 then (-4, sg_no S (-4)) else if 8 < n ∨ 60 < S 30 0 + n then (-6, sg_no S (-6))
  else (S 30 0 + n, fun a i => if a = 30 ∧ i = 0 then S 30 0 + n else if a = 31 ∧ (S 30 0).toNat ≤ i ∧ i < (S 30 0).toNat + n.toNat then sg_by b (i - (S 30 0).toNat) else S a i)
noncomputable def sa_read (S : mv_Mem) : Int × mv_Mem :=
  if (sg_prs (S 31) (S 30 0).toNat).1 = -1 then ((sg_prs (S 31) (S 30 0).toNat).2.1 * (sg_prs (S 31) (S 30 0).toNat).2.2, mv_up (sg_rdS S (S 31) (sg_prs (S 31) (S 30 0).toNat).2.1.toNat (sg_prs (S 31) (S 30 0).toNat).2.2.toNat) 30 0 0)
  else (-20 - (sg_prs (S 31) (S 30 0).toNat).1, mv_up S 30 0 0)
def sa_acre (S : mv_Mem) (xy w : Int) : Int × mv_Mem :=
  if sg_ac S xy < 0 then (-1, sg_no S (-1)) else if w = 0 then (S 1 (sg_ac S xy).toNat, S) else if w = 1 then (S 2 (sg_ac S xy).toNat, S) else if w = 2 then (S 4 (sg_ac S xy).toNat, S)
  else if w = 3 then ((if S 3 (sg_ac S xy).toNat < 0 then -9 else S 3 (sg_ac S xy).toNat), S) else if w = 4 then (sg_on S (sg_ac S xy).toNat, S) else (-2, sg_no S (-2))
def sg_ra (S : mv_Mem) (k d : Nat) : Int := if S 5 (4 * k + d) = 4 then 3 else S 5 (4 * k + d)
def sa_road (S : mv_Mem) (a b c : Int) : Int × mv_Mem :=
  if sg_ac S a < 0 ∨ sg_ac S b < 0 ∨ sg_dir (sg_ac S a).toNat (sg_ac S b).toNat = -1 then (-1, sg_no S (-1)) else if c < 0 ∨ 3 < c then (-2, sg_no S (-2))
  else if sg_ra S (sg_ac S a).toNat (sg_dir (sg_ac S a).toNat (sg_ac S b).toNat).toNat = 0 ∧ c ≠ 0 ∧ 12 ≤ S 0 6 then (-6, sg_no S (-6))
  else (sg_ra S (sg_ac S a).toNat (sg_dir (sg_ac S a).toNat (sg_ac S b).toNat).toNat, mv_up (sg_lay S (sg_ac S a).toNat (sg_dir (sg_ac S a).toNat (sg_ac S b).toNat).toNat c) 0 6 (S 0 6 + ((if c = 0 then 0 else 1) - (if sg_ra S (sg_ac S a).toNat (sg_dir (sg_ac S a).toNat (sg_ac S b).toNat).toNat = 0 then 0 else 1))))
def sa_step (S : mv_Mem) (k v : Int) : Int × mv_Mem :=
  if k < 0 ∨ 3 < k then (-2, sg_no S (-2)) else if sg_un v 1 99 ≠ 0 then (sg_un v 1 99, sg_no S (sg_un v 1 99)) else (S 6 k.toNat, mv_up S 6 k.toNat v)
def sa_toll (S : mv_Mem) (xy v : Int) : Int × mv_Mem :=
  if sg_ac S xy < 0 then (-1, sg_no S (-1)) else if sg_un v 0 99 ≠ 0 then (sg_un v 0 99, sg_no S (sg_un v 0 99)) else (S 2 (sg_ac S xy).toNat, mv_up S 2 (sg_ac S xy).toNat v)
noncomputable def sa_way (S : mv_Mem) (a b : Int) : Int × mv_Mem :=
  if sg_ac S a < 0 ∨ sg_ac S b < 0 then (-1, sg_no S (-1)) else (sg_way S false (sg_ac S b).toNat (sg_ac S a).toNat, S)
def sa_market (S : mv_Mem) (xy : Int) : Int × mv_Mem :=
  if sg_ac S xy < 0 then (-1, sg_no S (-1)) else if sg_on S (sg_ac S xy).toNat ≠ -9 then (-3, sg_no S (-3)) else if 3 ≤ S 0 2 then (-6, sg_no S (-6))
  else (S 0 2, mv_up (mv_up S 7 (S 0 2).toNat (sg_ac S xy)) 0 2 (S 0 2 + 1))
def sa_use (S : mv_Mem) (a b c d e : Int) : Int × mv_Mem :=
  if a < 0 ∨ 5 < a then (-2, sg_no S (-2)) else if b < 0 ∨ c < 0 ∨ d < 0 ∨ e < 0 then (-4, sg_no S (-4)) else if 99 < b ∨ 99 < c ∨ 9999 < d ∨ 99 < e ∨ 6 ≤ S 0 3 then (-6, sg_no S (-6))
  else (S 0 3, mv_up (mv_up (mv_up (mv_up (mv_up (mv_up S 8 (S 0 3).toNat a) 9 (S 0 3).toNat b) 10 (S 0 3).toNat c) 11 (S 0 3).toNat d) 12 (S 0 3).toNat e) 0 3 (S 0 3 + 1))
def sa_year (S : mv_Mem) (u v : Int) : Int × mv_Mem :=
  if ¬ (0 ≤ u ∧ u < S 0 3) then (-1, sg_no S (-1)) else if S 8 u.toNat ≠ 3 then (-3, sg_no S (-3)) else if v < -99 then (-4, sg_no S (-4)) else if 99 < v ∨ 6 ≤ S 15 u.toNat then (-6, sg_no S (-6))
  else (S 15 u.toNat + 1, mv_up (mv_up S 14 (6 * u.toNat + (S 15 u.toNat).toNat) v) 15 u.toNat (S 15 u.toNat + 1))
def sg_of (u m : Int) : Nat := 3 * u.toNat + m.toNat
def sg_nu2 (S : mv_Mem) (u m : Int) : Prop := (0 ≤ u ∧ u < S 0 3) ∧ (0 ≤ m ∧ m < S 0 2)
noncomputable def sg_ip (P : Prop) (a b : Int × mv_Mem) : Int × mv_Mem := @ite _ P (Classical.propDecidable P) a b
noncomputable def sa_price (S : mv_Mem) (u m v : Int) : Int × mv_Mem :=
  sg_ip (¬ sg_nu2 S u m) (-1, sg_no S (-1)) (if sg_un v 0 999 ≠ 0 then (sg_un v 0 999, sg_no S (sg_un v 0 999)) else (S 16 (sg_of u m), mv_up S 16 (sg_of u m) v))
def sa_tax (S : mv_Mem) (u v : Int) : Int × mv_Mem :=
  if u = -1 then (if sg_un v 0 100 ≠ 0 then (sg_un v 0 100, sg_no S (sg_un v 0 100)) else (S 0 4, mv_up S 0 4 v))
  else if ¬ (0 ≤ u ∧ u < S 0 3) then (-1, sg_no S (-1)) else if sg_un v 0 9999 ≠ 0 then (sg_un v 0 9999, sg_no S (sg_un v 0 9999)) else (S 13 u.toNat, mv_up S 13 u.toNat v)
noncomputable def sa_bid (S : mv_Mem) (u xy m : Int) : Int × mv_Mem :=
  sg_ip (¬ sg_nu2 S u m ∨ sg_ac S xy < 0) (4000000000000000001, sg_no S (-1)) (sg_bid S (sg_of u m) (sg_ac S xy).toNat, S)
noncomputable def sa_goes (S : mv_Mem) (xy w : Int) : Int × mv_Mem :=
  if sg_ac S xy < 0 then (-1, sg_no S (-1)) else if w < 0 ∨ 1 < w then (-2, sg_no S (-2))
  else ((if sg_tk S (sg_ac S xy).toNat = -1 then -9 else if w = 0 then sg_tk S (sg_ac S xy).toNat / 3 else sg_tk S (sg_ac S xy).toNat % 3), S)
noncomputable def sa_rent (S : mv_Mem) (xy : Int) : Int × mv_Mem :=
  if xy = -1 then (sg_all S, S) else if sg_ac S xy < 0 then (4000000000000000001, sg_no S (-1)) else (sg_rt S (sg_ac S xy).toNat, S)
noncomputable def sa_comes (S : mv_Mem) (u m : Int) : Int × mv_Mem := sg_ip (¬ sg_nu2 S u m) (-1, sg_no S (-1)) (sg_arr S (sg_of u m), S)
noncomputable def sa_piece (S : mv_Mem) (u m c d : Int) : Int × mv_Mem :=
  sg_ip (¬ sg_nu2 S u m) (-1, sg_no S (-1)) (if c < 0 ∨ d < 0 then (-4, sg_no S (-4)) else if 9999 < c ∨ 999 < d ∨ 6 ≤ S 19 (sg_of u m) then (-6, sg_no S (-6))
    else (S 19 (sg_of u m) + 1, mv_up (mv_up (mv_up S 17 (6 * sg_of u m + (S 19 (sg_of u m)).toNat) c) 18 (6 * sg_of u m + (S 19 (sg_of u m)).toNat) d) 19 (sg_of u m) (S 19 (sg_of u m) + 1)))
noncomputable def sa_bought (S : mv_Mem) (u m v : Int) : Int × mv_Mem :=
  sg_ip (¬ sg_nu2 S u m) (-1, sg_no S (-1)) (if sg_un v 0 999 ≠ 0 then (sg_un v 0 999, sg_no S (sg_un v 0 999)) else (sg_bo S (sg_of u m) v, S))
noncomputable def sa_clears (S : mv_Mem) (u m : Int) : Int × mv_Mem := sg_ip (¬ sg_nu2 S u m) (-1, sg_no S (-1)) (sg_clr S (sg_of u m), S)
noncomputable def sa_rounds (S : mv_Mem) (n : Int) : Int × mv_Mem :=
  if sg_un n 1 20 ≠ 0 then (sg_un n 1 20, sg_no S (sg_un n 1 20)) else ((sg_rn S n.toNat).2, (sg_rn S n.toNat).1)
noncomputable def sa_out (S : mv_Mem) (u : Int) : Int × mv_Mem := if ¬ (0 ≤ u ∧ u < S 0 3) then (-1, sg_no S (-1)) else (sg_out S u, S)
noncomputable def sa_borders (S : mv_Mem) : Int × mv_Mem := (sg_bds S, S)
def sa_plan (S : mv_Mem) (a b c d : Int) : Int × mv_Mem :=
  if sg_ac S a < 0 ∨ sg_ac S b < 0 ∨ sg_dir (sg_ac S a).toNat (sg_ac S b).toNat = -1 then (-1, sg_no S (-1)) else if c < 1 ∨ 3 < c then (-2, sg_no S (-2)) else if d < 0 then (-4, sg_no S (-4))
  else if 99999 < d ∨ 8 ≤ S 0 5 then (-6, sg_no S (-6)) else if sg_ra S (sg_ac S a).toNat (sg_dir (sg_ac S a).toNat (sg_ac S b).toNat).toNat ≠ 0 then (-3, sg_no S (-3))
  else (S 0 5, mv_up (mv_up (mv_up (mv_up (mv_up S 20 (S 0 5).toNat (sg_ac S a)) 21 (S 0 5).toNat (sg_dir (sg_ac S a).toNat (sg_ac S b).toNat)) 22 (S 0 5).toNat c) 23 (S 0 5).toNat d) 0 5 (S 0 5 + 1))
noncomputable def sg_up (S : mv_Mem) (p : Int) : Int := if p < 0 ∨ S 0 5 ≤ p then -1 else sg_if (sg_bu S p.toNat) (-3) 0
noncomputable def sa_gain (S : mv_Mem) (p : Int) : Int × mv_Mem := if sg_up S p ≠ 0 then (4000000000000000000 - sg_up S p, sg_no S (sg_up S p)) else (sg_gain S p.toNat, S)
noncomputable def sa_best (S : mv_Mem) (v : Int) : Int × mv_Mem :=
  if sg_un v 0 99999 ≠ 0 then (sg_un v 0 99999, sg_no S (sg_un v 0 99999)) else sg_ip (∃ p : Nat, (p : Int) < S 0 5 ∧ sg_bu S p) (-3, sg_no S (-3)) ((sg_be S v (2 ^ (S 0 5).toNat - 1)).1, S)
noncomputable def sa_losers (S : mv_Mem) (p : Int) : Int × mv_Mem := if sg_up S p ≠ 0 then (sg_up S p, sg_no S (sg_up S p)) else (sg_los S (2 ^ p.toNat), S)
noncomputable def sa_falls (S : mv_Mem) (u v : Int) : Int × mv_Mem :=
  if ¬ (0 ≤ u ∧ u < S 0 3) then (-1, sg_no S (-1)) else if sg_un v 0 9999 ≠ 0 then (sg_un v 0 9999, sg_no S (sg_un v 0 9999)) else (sg_fal S u (mv_up S 13 u.toNat v), S)
def sa_own (S : mv_Mem) (xy w : Int) : Int × mv_Mem :=
  if sg_ac S xy < 0 then (-1, sg_no S (-1)) else if sg_un w (-1) 3 ≠ 0 then (sg_un w (-1) 3, sg_no S (sg_un w (-1) 3)) else if S 3 (sg_ac S xy).toNat = w then (0, S) else (1, mv_up S 3 (sg_ac S xy).toNat w)
def sa_held (S : mv_Mem) (xy v : Int) : Int × mv_Mem :=
  if sg_ac S xy < 0 then (-1, sg_no S (-1)) else if S 4 (sg_ac S xy).toNat = (if v = 0 then 0 else 1) then (0, S) else (1, mv_up S 4 (sg_ac S xy).toNat (if v = 0 then 0 else 1))
noncomputable def sa_hold (S : mv_Mem) (w : Int) : Int × mv_Mem := if sg_un w 0 3 ≠ 0 then (sg_un w 0 3, sg_no S (sg_un w 0 3)) else ((sg_hd S w 80).2, S)
def sa_put (S : mv_Mem) (v : Int) : Int × mv_Mem :=
  if v < -1 then (-4, sg_no S (-4)) else if 99 < v ∨ 48 ≤ S 32 0 then (-6, sg_no S (-6)) else (S 32 0 + 1, mv_up (mv_up S 33 (S 32 0).toNat v) 32 0 (S 32 0 + 1))
noncomputable def sa_judge (S : mv_Mem) : Int × mv_Mem := (sg_jd S (S 32 0) (S 33), mv_up S 32 0 0)
def sa_image (S : mv_Mem) : Int × mv_Mem := (S 0 0 * S 0 1, fun a i => if a = 35 ∧ i = 0 then 1 else if 40 ≤ a ∧ a ≤ 63 then S (a - 40) i else S a i)
def sa_on (S : mv_Mem) : Int × mv_Mem := if S 35 0 = 0 then (-3, sg_no S (-3)) else (S 40 0 * S 40 1, fun a i => if a ≤ 23 then S (40 + a) i else S a i)
noncomputable def sa_count (S : mv_Mem) (w : Int) : Int × mv_Mem :=
  (if w = 0 then S 0 0 else if w = 1 then S 0 1 else if w = 2 then S 0 2 else if w = 3 then S 0 3 else if w = 4 then S 0 6 else if w = 5 then S 0 5 else if w = 6 then sg_was S else if w = 7 then sg_hel S
    else if w = 8 then S 30 0 else if w = 9 then S 32 0 else if 11 ≤ w ∧ w ≤ 16 then S 34 (w - 10).toNat else -9, S)
/-! what is the same of states that are the same in what the world is -/
def sg_ct (S : mv_Mem) : mv_Mem := fun a i => if a ≤ 23 then S a i else 0
theorem sg_sw_ct {S S' : mv_Mem} (h : sg_sw S S') : sg_ct S' = sg_ct S := by
  funext a i
  unfold sg_ct
  split
  · rename_i q
    exact h a i q
  · rfl
theorem sg_ys_ct (S : mv_Mem) (u : Nat) : ∀ n, sg_ys (sg_ct S) u n = sg_ys S u n
  | 0 => rfl
  | n + 1 => by
    show sg_ys (sg_ct S) u n + S 14 (6 * u + n) = sg_ys S u n + S 14 (6 * u + n)
    rw [sg_ys_ct S u n]
theorem sg_mn_ct (S : mv_Mem) (u : Nat) : sg_mn (sg_ct S) u = sg_mn S u := by
  show (if S 15 u = 0 then 0 else (sg_ys (sg_ct S) u (S 15 u).toNat).tdiv (S 15 u)) = _
  rw [sg_ys_ct]
  rfl
theorem sg_bid_ct (S : mv_Mem) (o k : Nat) : sg_bid (sg_ct S) o k = sg_bid S o k := by
  show sg_if (sg_cg S (o / 3) (sg_wo S o k)) (100 * (sg_yl S (o / 3) (S 1 k) * (S 16 o + sg_mn (sg_ct S) (o / 3)) - S 11 (o / 3) - S 13 (o / 3)) - sg_cr S (o / 3) (S 1 k) * sg_wo S o k) 0 = _
  rw [sg_mn_ct]
  rfl
theorem sg_g_ct (S : mv_Mem) (w : Int) (k : Nat) : ∀ n, sg_g (sg_ct S) w k n = sg_g S w k n
  | 0 => rfl
  | n + 1 => by
    show (if ((n % 3 : Nat) : Int) < S 0 2 ∧ (n : Int) ≠ w ∧ (sg_g (sg_ct S) w k n).2 < sg_bid (sg_ct S) n k then ((n : Int), sg_bid (sg_ct S) n k) else sg_g (sg_ct S) w k n) = (if ((n % 3 : Nat) : Int) < S 0 2 ∧ (n : Int) ≠ w ∧ (sg_g S w k n).2 < sg_bid S n k then ((n : Int), sg_bid S n k) else sg_g S w k n)
    rw [sg_g_ct S w k n, sg_bid_ct]
theorem sg_tk_ct (S : mv_Mem) (k : Nat) : sg_tk (sg_ct S) k = sg_tk S k := by
  show (if S 4 k = 0 then (sg_g (sg_ct S) (-1) k (3 * (S 0 3).toNat)).1 else -1) = _
  rw [sg_g_ct]
  rfl
theorem sg_sw_W {S S' M : mv_Mem} (h : sg_sw S S') (hW : sg_W S M) : sg_W S' M := by
  have h1 : sg_W (sg_ct S) M := hW
  rw [← sg_sw_ct h] at h1
  exact h1
theorem sg_sw_Bd {S S' M : mv_Mem} (h : sg_sw S S') (hB : sg_Bd S M) : sg_Bd S' M := by
  intro o k h1 h2 h3
  rw [← sg_bid_ct S', sg_sw_ct h, sg_bid_ct]
  have e0 : ∀ i, S' 0 i = S 0 i := fun i => h 0 i (by decide)
  rw [e0] at h1 h2
  have e : sg_pl S' k = sg_pl S k := by
    unfold sg_pl
    rw [e0]
  rw [e]
  exact hB o k h1 h2 (by unfold sg_ok at h3 ⊢; rw [← e0, ← e0]; exact h3)
theorem sg_sw_Tk {S S' M : mv_Mem} (h : sg_sw S S') (hT : sg_Tk S M) : sg_Tk S' M := by
  intro k h3
  rw [← sg_tk_ct S', sg_sw_ct h, sg_tk_ct]
  have e0 : ∀ i, S' 0 i = S 0 i := fun i => h 0 i (by decide)
  have e : sg_pl S' k = sg_pl S k := by
    unfold sg_pl
    rw [e0]
  rw [e]
  exact hT k (by unfold sg_ok at h3 ⊢; rw [← e0, ← e0]; exact h3)
theorem sg_sw_K {S S' M : mv_Mem} (h : sg_sw S S') (hK : sg_K S M) : sg_K S' M := by
  obtain ⟨k1, k2, k3, k4, k5, k6⟩ := hK
  exact ⟨sg_sw_C h k1, k2, k3, fun z => sg_sw_W h (k4 z), k5, fun z => ⟨sg_sw_Bd h (k6 z).1, sg_sw_Tk h (k6 z).2⟩⟩
theorem sg_ip_y {P : Prop} {a b : Int × mv_Mem} (h : P) : sg_ip P a b = a := if_pos h
theorem sg_ip_n {P : Prop} {a b : Int × mv_Mem} (h : ¬ P) : sg_ip P a b = b := if_neg h
end
section
/-! THE CLASS's CALLS, the plain ones -/
section CA
variable {S : mv_Mem} {G : mv_G} {l c : Nat} {M : mv_Mem} {F : Int → mv_Mem → Prop}
theorem cl_place (hw : sg_wf S) (hC : sg_C 0 S M) {a : Int} (ha : mv_R32 a) (h0 : sg_ac S a < 0 → F (-1) M) (h1 : ∀ k : Nat, sg_ok S k → k < 48 → sg_ac S a = (k : Int) → F (sg_pl S k : Int) M) : mv_Wp G 4 [.inr (.inr 8), .inl a] (mh l) M (mv_qi (mh l) F) := by
  refine cl_placeOf hw hC ha ?_
  unfold sg_pa
  split
  · rename_i q
    obtain ⟨z1, z2, -⟩ := sg_ac_ok hw q
    exact h1 _ z1 z2 (by omega)
  · rename_i q
    exact h0 (by omega)
theorem sg_un_r {v lo hi : Int} (h : sg_un v lo hi ≠ 0) : -6 ≤ sg_un v lo hi ∧ sg_un v lo hi ≤ -1 := by
  unfold sg_un at h ⊢
  split
  · decide
  · split
    · decide
    · rename_i a b
      rw [if_neg a, if_neg b] at h
      exact absurd rfl h
theorem sg_un_0 {v lo hi : Int} (h : sg_un v lo hi = 0) : lo ≤ v ∧ v ≤ hi := by
  unfold sg_un at h
  split at h
  · omega
  · split at h
    · omega
    · omega
theorem ca_feed (hS : sg_oo c S) (hc : c ≤ 100000) (h : sg_CC S M) {a b : Int} (ha : mv_R32 a) (hb : mv_R64 b) (hF : ∀ M', sg_X M M' → sg_CC (sa_feed S a b).2 M' → F (sa_feed S a b).1 M') : mv_Wp G 86 [.inr (.inr 1), .inl a, .inr (.inl b)] (mh l) M (mv_qi (mh l) F) := by
  refine vw_X11_feed ?_
  have hl := hS.2.1
  have c2 : M 2 1 = S 30 0 := h.2.1
  unfold sa_feed at hF
  rw [c2]
  split
  · rename_i q1
    rw [if_neg (by omega)] at hF
    split
    · rename_i q2
      rw [if_pos (Or.inl q2)] at hF
      exact cl_refuse hS hc h (by decide) (fun M' a b => mv_qi_i (hF M' a b))
    · rename_i q2
      refine ⟨by omega, ?_⟩
      split
      · rename_i q3
        rw [if_neg (by omega)] at hF
        obtain ⟨n, hn⟩ := sg_nat (show 0 ≤ a by omega)
        obtain ⟨len, hlen⟩ := sg_nat hl.1
        subst hn
        refine cl_tapeAppend (n := n) (len := len) hb (by omega) (by omega) (by omega) (fun M' f1 f2 f3 f4 => ?_)
        rw [f4, show ((len + n : Nat) : Int) = S 30 0 + (n : Int) by omega]
        refine mv_qi_i (hF M' (fun a i ha => f1 a i (by omega) (by omega)) ?_)
        have hsw : sg_sw S (fun a i => if a = 30 ∧ i = 0 then S 30 0 + (n : Int) else if a = 31 ∧ (S 30 0).toNat ≤ i ∧ i < (S 30 0).toNat + (n : Int).toNat then sg_by b (i - (S 30 0).toNat) else S a i) := fun a i ha => by
          show (if a = 30 ∧ i = 0 then _ else if a = 31 ∧ _ then _ else S a i) = S a i
          rw [if_neg (by omega), if_neg (fun z => by omega)]
        obtain ⟨h1, h2, h3, h4, h5, h6, h7, h8⟩ := h
        refine ⟨sg_sw_K hsw (sg_K_fr h1 (fun a i ha => f1 a i (by omega) (by omega))), ?_, fun i hi => ?_, ?_, fun i hi => ?_, fun i hi => ?_, ?_, fun z => ?_⟩
        · show M' 2 1 = S 30 0 + (n : Int)
          omega
        · have hi : (i : Int) < S 30 0 + (n : Int) := hi
          show M' 3 i = (if 31 = 30 ∧ i = 0 then S 30 0 + (n : Int) else if 31 = 31 ∧ (S 30 0).toNat ≤ i ∧ i < (S 30 0).toNat + (n : Int).toNat then sg_by b (i - (S 30 0).toNat) else S 31 i)
          rw [if_neg (fun z => by omega)]
          by_cases q : i < len
          · rw [if_neg (fun z => by omega), f2 i q]
            exact h3 i (by omega)
          · rw [if_pos ⟨rfl, by omega, by omega⟩]
            have := f3 (i - len) (by omega)
            rw [show len + (i - len) = i by omega] at this
            rw [this]
            congr 1
            omega
        · show M' 4 1 = S 32 0
          rw [f1 4 1 (by decide) (by decide)]
          exact h4
        · have hi : (i : Int) < S 32 0 := hi
          show M' 5 i = S 33 i
          rw [f1 5 i (by decide) (by decide)]
          exact h5 i hi
        · show M' 87 i = S 34 i
          rw [f1 87 i (by decide) (by decide)]
          exact h6 i hi
        · show M' 1 8 = S 35 0
          rw [f1 1 8 (by decide) (by decide)]
          exact h7
        · have z : S 35 0 = 1 := z
          refine sg_C_fr (M := M) ?_ (fun c d1 d2 i => f1 c i (by omega) (by omega))
          have e : sg_kp (fun a i => if a = 30 ∧ i = 0 then S 30 0 + (n : Int) else if a = 31 ∧ (S 30 0).toNat ≤ i ∧ i < (S 30 0).toNat + (n : Int).toNat then sg_by b (i - (S 30 0).toNat) else S a i) = sg_kp S := by
            funext a i
            show (if 40 + a = 30 ∧ i = 0 then _ else if 40 + a = 31 ∧ _ then _ else S (40 + a) i) = S (40 + a) i
            rw [if_neg (by omega), if_neg (fun z => by omega)]
          rw [e]
          exact h8 z
      · rename_i q3
        rw [if_pos (Or.inr (by omega))] at hF
        exact cl_refuse hS hc h (by decide) (fun M' a b => mv_qi_i (hF M' a b))
  · rename_i q1
    rw [if_pos (by omega)] at hF
    exact cl_refuse hS hc h (by decide) (fun M' a b => mv_qi_i (hF M' a b))
theorem ca_acre (hS : sg_oo c S) (hc : c ≤ 100000) (h : sg_CC S M) {a b : Int} (ha : mv_R32 a) (hF : ∀ M', sg_X M M' → sg_CC (sa_acre S a b).2 M' → F (sa_acre S a b).1 M') : mv_Wp G 88 [.inr (.inr 1), .inl a, .inl b] (mh l) M (mv_qi (mh l) F) := by
  have hw := hS.1
  have hC := h.1.1
  unfold sa_acre at hF
  refine vw_X11_acre (cl_place hw hC ha (fun q => ?_) (fun k hk k48 e => ?_))
  · rw [if_pos q] at hF
    rw [if_pos rfl]
    exact cl_refuse hS hc h (by decide) (fun M' a b => mv_qi_i (hF M' a b))
  · have hp := (sg_pl_lt hw hk).2
    obtain ⟨q1, q2, q3, q4, q5, q6⟩ := hC.2.1 k hk
    have q2 : M 10 (sg_pl S k) = S 1 k := q2
    have q3 : M 11 (sg_pl S k) = S 2 k := q3
    have q4 : M 12 (sg_pl S k) = S 3 k := q4
    have q5 : M 13 (sg_pl S k) = S 4 k := q5
    rw [if_neg (by omega), e, Int.toNat_natCast] at hF
    rw [if_neg (by omega), Int.toNat_natCast, q2, q3, q4, q5]
    split
    · rename_i z
      rw [if_pos z] at hF
      exact ⟨by omega, mv_qi_i (hF M sg_X_r h)⟩
    · rename_i z0
      rw [if_neg z0] at hF
      split
      · rename_i z
        rw [if_pos (by omega)] at hF
        exact ⟨by omega, mv_qi_i (hF M sg_X_r h)⟩
      · rename_i z1
        rw [if_neg (by omega)] at hF
        split
        · rename_i z
          rw [if_pos (by omega)] at hF
          exact ⟨by omega, mv_qi_i (hF M sg_X_r h)⟩
        · rename_i z2
          rw [if_neg (by omega)] at hF
          split
          · rename_i z
            rw [if_pos (by omega)] at hF
            refine ⟨by omega, ?_⟩
            split
            · rename_i y
              rw [if_neg (by omega)] at hF
              exact ⟨by omega, mv_qi_i (hF M sg_X_r h)⟩
            · rename_i y
              rw [if_pos (by omega)] at hF
              exact mv_qi_i (hF M sg_X_r h)
          · rename_i z3
            rw [if_neg (by omega)] at hF
            split
            · rename_i z
              rw [if_pos (by omega)] at hF
              exact cl_marketOn hw hC hk (mv_qi_i (hF M sg_X_r h))
            · rename_i z4
              rw [if_neg (by omega)] at hF
              exact cl_refuse hS hc h (by decide) (fun M' a b => mv_qi_i (hF M' a b))
/-- a change of the world, all forgotten -/
theorem sg_CC_w {S' M' : mv_Mem} (h : sg_CC S M) (hq : sg_Q M M') (hs : ∀ a i, 30 ≤ a → S' a i = S a i) (hC : sg_C 0 S' M') : sg_CC S' (mv_up (mv_up M' 6 6 0) 6 7 0) := by
  refine sg_CC_q h (fun a i ha => ?_) hs (sg_K_0 (sg_C_fr hC (fun c d1 d2 i => ?_)) ?_ ?_)
  · rw [mv_up_c (by omega), mv_up_c (by omega)]
    exact hq a i ha
  · rw [mv_up_c (by omega), mv_up_c (by omega)]
  · rw [mv_up_j (by decide), mv_up_s]
  · rw [mv_up_s]
/-- a change of the uses, the bids forgotten -/
theorem sg_CC_b {S' M' : mv_Mem} (h : sg_CC S M) (hq : sg_Q M M') (hs : ∀ a i, 30 ≤ a → S' a i = S a i) (hC : sg_C 0 S' M') (h6 : M' 6 6 = M 6 6) (hW : sg_W S M → sg_W S' M') : sg_CC S' (mv_up M' 6 7 0) := by
  have e6 : (mv_up M' 6 7 0) 6 6 = M 6 6 := by
    rw [mv_up_j (by decide)]
    exact h6
  refine sg_CC_q h (fun a i ha => ?_) hs (sg_K_b (sg_C_fr hC (fun c d1 d2 i => ?_)) ?_ (fun z => ?_) ?_)
  · rw [mv_up_c (by omega)]
    exact hq a i ha
  · rw [mv_up_c (by omega)]
  · rw [e6]
    exact h.1.2.1
  · rw [e6] at z
    exact sg_W_fr (hW (h.1.2.2.2.1 z)) (fun c d1 d2 _ i => mv_up_c (by omega))
  · rw [mv_up_s]
theorem sg_Q_up {a i : Nat} {v : Int} (h : 6 ≤ a ∧ a ≤ 43) : sg_Q M (mv_up M a i v) := fun b j hb => mv_up_c (by omega)
theorem ca_toll (hS : sg_oo c S) (hc : c ≤ 100000) (h : sg_CC S M) {a b : Int} (ha : mv_R32 a) (hF : ∀ M', sg_X M M' → sg_CC (sa_toll S a b).2 M' → F (sa_toll S a b).1 M') : mv_Wp G 91 [.inr (.inr 1), .inl a, .inl b] (mh l) M (mv_qi (mh l) F) := by
  have hw := hS.1
  have hC := h.1.1
  unfold sa_toll at hF
  refine vw_X11_toll (cl_place hw hC ha (fun q => ?_) (fun k hk k48 e => ?_))
  · rw [if_pos q] at hF
    rw [if_pos rfl]
    exact cl_refuse hS hc h (by decide) (fun M' a b => mv_qi_i (hF M' a b))
  · have hp := (sg_pl_lt hw hk).2
    have q3 : M 11 (sg_pl S k) = S 2 k := (hC.2.1 k hk).2.2.1
    rw [if_neg (by omega), e, Int.toNat_natCast] at hF
    rw [if_neg (by omega), Int.toNat_natCast]
    refine cl_unfit ?_
    split
    · rename_i q
      rw [if_neg (by omega)] at hF
      refine ⟨by omega, by omega, cl_forgetWays (mv_qi_i ?_)⟩
      rw [q3]
      have hC' : sg_C 0 (mv_up S 2 k b) (mv_up M 11 (sg_pl S k) b) := by
        refine ⟨hC.1, fun j hj => ?_, hC.2.2.1, hC.2.2.2.1, hC.2.2.2.2.1, fun j hj => have q := hC.2.2.2.2.2.1 j hj; ⟨q.1, q.2.1, q.2.2.1, q.2.2.2.1, q.2.2.2.2.1, q.2.2.2.2.2.1, q.2.2.2.2.2.2.1, sg_C_ys (M := M) (by decide) (by decide) q.2.2.2.2.2.2.2⟩, hC.2.2.2.2.2.2⟩
        obtain ⟨z1, z2, z3, z4, z5, z6⟩ := hC.2.1 j hj
        refine ⟨z1, z2, ?_, z4, z5, z6⟩
        show mv_up M 11 (sg_pl S k) b 11 (sg_pl S j) = mv_up S 2 k b 2 j
        by_cases q : j = k
        · rw [q, mv_up_s, mv_up_s]
        · rw [mv_up_j q, mv_up_j (fun z => q (sg_pl_inj hw hj hk z))]
          exact z3
      exact hF _ (fun a i ha => by rw [mv_up_c (by omega), mv_up_c (by omega), mv_up_c (by omega)]) (sg_CC_w h (sg_Q_up (by decide)) (fun a i ha => mv_up_c (by omega)) hC')
    · rename_i q
      rw [if_pos q] at hF
      exact cl_refuse hS hc h (sg_un_r q) (fun M' a b => mv_qi_i (hF M' a b))
theorem ca_market (hS : sg_oo c S) (hc : c ≤ 100000) (h : sg_CC S M) {a : Int} (ha : mv_R32 a) (hF : ∀ M', sg_X M M' → sg_CC (sa_market S a).2 M' → F (sa_market S a).1 M') : mv_Wp G 93 [.inr (.inr 1), .inl a] (mh l) M (mv_qi (mh l) F) := by
  have hw := hS.1
  have hC := h.1.1
  have hm3 := hw.1.2.2.1
  unfold sa_market at hF
  refine vw_X11_market (cl_place hw hC ha (fun q => ?_) (fun k hk k48 e => ?_))
  · rw [if_pos q] at hF
    rw [if_pos rfl]
    exact cl_refuse hS hc h (by decide) (fun M' a b => mv_qi_i (hF M' a b))
  · have hp := (sg_pl_lt hw hk).2
    have c1 : M 8 4 = S 0 2 := hC.1.2.2.2.2
    rw [if_neg (by omega), e, Int.toNat_natCast] at hF
    rw [if_neg (by omega)]
    refine cl_marketOn hw hC hk ?_
    split
    · rename_i q
      rw [if_neg (fun z => z q)] at hF
      rw [c1]
      split
      · rename_i q2
        rw [if_neg (by omega)] at hF
        refine ⟨by omega, by omega, cl_forgetWays (mv_qi_i ?_)⟩
        have hC' : sg_C 0 (mv_up (mv_up S 7 (S 0 2).toNat (k : Int)) 0 2 (S 0 2 + 1)) (mv_up (mv_up M 15 (S 0 2).toNat (sg_pl S k : Int)) 8 4 (S 0 2 + 1)) := by
          have e0 : ∀ i, i ≠ 2 → (mv_up (mv_up S 7 (S 0 2).toNat (k : Int)) 0 2 (S 0 2 + 1)) 0 i = S 0 i := fun i hi => by rw [mv_up_j hi, mv_up_c (by decide)]
          have epl : ∀ j, sg_pl (mv_up (mv_up S 7 (S 0 2).toNat (k : Int)) 0 2 (S 0 2 + 1)) j = sg_pl S j := fun j => rfl
          have e8 : ∀ i, i ≠ 4 → (mv_up (mv_up M 15 (S 0 2).toNat (sg_pl S k : Int)) 8 4 (S 0 2 + 1)) 8 i = M 8 i := fun i hi => by rw [mv_up_j hi, mv_up_c (by decide)]
          refine ⟨⟨hC.1.1, hC.1.2.1, hC.1.2.2.1, hC.1.2.2.2.1, ?_⟩, hC.2.1, fun m hm => ?_, hC.2.2.2.1, hC.2.2.2.2.1, fun j hj => have q := hC.2.2.2.2.2.1 j hj; ⟨q.1, q.2.1, q.2.2.1, q.2.2.2.1, q.2.2.2.2.1, q.2.2.2.2.2.1, q.2.2.2.2.2.2.1, ?_⟩, hC.2.2.2.2.2.2⟩
          · show mv_up _ 8 4 (S 0 2 + 1) 8 4 = mv_up _ 0 2 (S 0 2 + 1) 0 2
            rw [mv_up_s, mv_up_s]
          · have hm : (m : Int) < S 0 2 + 1 := hm
            rw [epl]
            show mv_up M 15 (S 0 2).toNat (sg_pl S k : Int) 15 m = (sg_pl S ((mv_up S 7 (S 0 2).toNat (k : Int)) 7 m).toNat : Int)
            by_cases z : m = (S 0 2).toNat
            · rw [z, mv_up_s, mv_up_s, Int.toNat_natCast]
            · rw [mv_up_j z, mv_up_j z]
              exact hC.2.2.1 m (by omega)
          · have : sg_ys (mv_up (mv_up S 7 (S 0 2).toNat (k : Int)) 0 2 (S 0 2 + 1)) j (S 15 j).toNat = sg_ys S j (S 15 j).toNat := by
              rw [sg_ys_u (by decide), sg_ys_u (by decide)]
            exact q.2.2.2.2.2.2.2.trans this.symm
        exact hF _ (fun a i ha => by rw [mv_up_c (by omega), mv_up_c (by omega), mv_up_c (by omega), mv_up_c (by omega)]) (sg_CC_w h (sg_Q_t (sg_Q_up (by decide)) (sg_Q_up (by decide))) (fun a i ha => (mv_up_c (by omega)).trans (mv_up_c (by omega))) hC')
      · rename_i q2
        rw [if_pos (by omega)] at hF
        exact cl_refuse hS hc h (by decide) (fun M' a b => mv_qi_i (hF M' a b))
    · rename_i q
      rw [if_pos q] at hF
      exact cl_refuse hS hc h (by decide) (fun M' a b => mv_qi_i (hF M' a b))
end CA
end
section
/-! THE CLASS's CALLS of the uses -/
section CB
variable {S : mv_Mem} {G : mv_G} {l c : Nat} {M : mv_Mem} {F : Int → mv_Mem → Prop}
theorem sg_ys_c {S' : mv_Mem} {u : Nat} (h : ∀ i, S' 14 i = S 14 i) : ∀ n, sg_ys S' u n = sg_ys S u n
  | 0 => rfl
  | n + 1 => by
    unfold sg_ys
    rw [sg_ys_c h n, h]
theorem ca_use (hS : sg_oo c S) (hc : c ≤ 100000) (h : sg_CC S M) {a b d e f : Int} (hF : ∀ M', sg_X M M' → sg_CC (sa_use S a b d e f).2 M' → F (sa_use S a b d e f).1 M') : mv_Wp G 94 [.inr (.inr 1), .inl a, .inl b, .inl d, .inl e, .inl f] (mh l) M (mv_qi (mh l) F) := by
  have hw := hS.1
  have hC := h.1.1
  have hu := sg_nu hw
  have c1 : M 17 0 = S 0 3 := hC.2.2.2.2.1.1
  unfold sa_use at hF
  have R : ∀ r : Int, -6 ≤ r ∧ r ≤ -1 → (∀ M', sg_X M M' → sg_CC (sg_no S r) M' → F r M') → mv_Wp G 126 [.inr (.inr 1), .inl r] (mh l) M (mv_qi (mh l) fun x M' => mv_qi (mh l) F (some (.inl x)) (mh l) M') := fun r hr hf => cl_refuse hS hc h hr (fun M' a b => mv_qi_i (hf M' a b))
  refine vw_X11_use ?_
  by_cases c10 : a < 0
  · rw [if_pos (by omega)] at hF
    rw [if_pos c10]
    exact R _ (by decide) hF
  rw [if_neg c10]
  by_cases c11 : a ≤ 5
  rotate_left
  · rw [if_pos (by omega)] at hF
    rw [if_neg c11]
    exact R _ (by decide) hF
  rw [if_pos c11]
  by_cases c12 : b < 0
  · rw [if_neg (by omega), if_pos (by omega)] at hF
    rw [if_pos c12]
    exact R _ (by decide) hF
  rw [if_neg c12]
  by_cases c13 : d < 0
  · rw [if_neg (by omega), if_pos (by omega)] at hF
    rw [if_pos c13]
    exact R _ (by decide) hF
  rw [if_neg c13]
  by_cases c14 : e < 0
  · rw [if_neg (by omega), if_pos (by omega)] at hF
    rw [if_pos c14]
    exact R _ (by decide) hF
  rw [if_neg c14]
  by_cases c15 : 0 ≤ f
  rotate_left
  · rw [if_neg (by omega), if_pos (by omega)] at hF
    rw [if_neg c15]
    exact R _ (by decide) hF
  rw [if_pos c15]
  by_cases c16 : 99 < b
  · rw [if_neg (by omega), if_neg (by omega), if_pos (by omega)] at hF
    rw [if_pos c16]
    exact R _ (by decide) hF
  rw [if_neg c16]
  by_cases c17 : 99 < d
  · rw [if_neg (by omega), if_neg (by omega), if_pos (by omega)] at hF
    rw [if_pos c17]
    exact R _ (by decide) hF
  rw [if_neg c17]
  by_cases c18 : 9999 < e
  · rw [if_neg (by omega), if_neg (by omega), if_pos (by omega)] at hF
    rw [if_pos c18]
    exact R _ (by decide) hF
  rw [if_neg c18]
  by_cases c19 : 99 < f
  · rw [if_neg (by omega), if_neg (by omega), if_pos (by omega)] at hF
    rw [if_pos c19]
    exact R _ (by decide) hF
  rw [if_neg c19]
  rw [c1]
  by_cases c20 : S 0 3 < 6
  rotate_left
  · rw [if_neg (by omega), if_neg (by omega), if_pos (by omega)] at hF
    rw [if_neg c20]
    exact R _ (by decide) hF
  rw [if_pos c20]
  rw [if_neg (by omega), if_neg (by omega), if_neg (by omega)] at hF
  refine vw_X7_append ?_
  rw [c1, if_pos (by omega)]
  refine ⟨by omega, by omega, by omega, by omega, by omega, by omega, mv_qi_i (cl_forgetBids (mv_qi_i ?_))⟩
  have hC' : sg_C 0 (mv_up (mv_up (mv_up (mv_up (mv_up (mv_up S 8 (S 0 3).toNat a) 9 (S 0 3).toNat b) 10 (S 0 3).toNat d) 11 (S 0 3).toNat e) 12 (S 0 3).toNat f) 0 3 (S 0 3 + 1)) (mv_up (mv_up (mv_up (mv_up (mv_up (mv_up M 18 (S 0 3).toNat a) 19 (S 0 3).toNat b) 20 (S 0 3).toNat d) 21 (S 0 3).toNat e) 22 (S 0 3).toNat f) 17 0 (S 0 3 + 1)) := by
    refine ⟨hC.1, hC.2.1, hC.2.2.1, hC.2.2.2.1, ⟨?_, hC.2.2.2.2.1.2⟩, fun j hj => ?_, hC.2.2.2.2.2.2⟩
    · show mv_up _ 17 0 (S 0 3 + 1) 17 0 = mv_up _ 0 3 (S 0 3 + 1) 0 3
      rw [mv_up_s, mv_up_s]
    · obtain ⟨q1, q2, q3, q4, q5, q6, q7, q8⟩ := hC.2.2.2.2.2.1 j hj
      refine ⟨mv_up_sm (M := M) (S := S) q1, mv_up_sm (M := M) (S := S) q2, mv_up_sm (M := M) (S := S) q3, mv_up_sm (M := M) (S := S) q4, mv_up_sm (M := M) (S := S) q5, q6, q7, ?_⟩
      refine Eq.trans q8 ?_
      exact (sg_ys_c (S := S) (S' := mv_up (mv_up (mv_up (mv_up (mv_up (mv_up S 8 (S 0 3).toNat a) 9 (S 0 3).toNat b) 10 (S 0 3).toNat d) 11 (S 0 3).toNat e) 12 (S 0 3).toNat f) 0 3 (S 0 3 + 1)) (fun i => rfl) _).symm
  refine hF _ (fun a i ha => by rw [mv_up_c (by omega), mv_up_c (by omega), mv_up_c (by omega), mv_up_c (by omega), mv_up_c (by omega), mv_up_c (by omega), mv_up_c (by omega)]) (sg_CC_b h (fun a i ha => ?_) (fun a i ha => ?_) hC' rfl (fun hW => ?_))
  · rw [mv_up_c (by omega), mv_up_c (by omega), mv_up_c (by omega), mv_up_c (by omega), mv_up_c (by omega), mv_up_c (by omega)]
  · exact (mv_up_c (by omega)).trans ((mv_up_c (by omega)).trans ((mv_up_c (by omega)).trans ((mv_up_c (by omega)).trans ((mv_up_c (by omega)).trans (mv_up_c (by omega))))))
  · have : sg_W S (mv_up (mv_up (mv_up (mv_up (mv_up (mv_up M 18 (S 0 3).toNat a) 19 (S 0 3).toNat b) 20 (S 0 3).toNat d) 21 (S 0 3).toNat e) 22 (S 0 3).toNat f) 17 0 (S 0 3 + 1)) := sg_W_fr hW (fun c d1 d2 _ i => by rw [mv_up_c (by omega), mv_up_c (by omega), mv_up_c (by omega), mv_up_c (by omega), mv_up_c (by omega), mv_up_c (by omega)])
    exact this
theorem ca_year (hS : sg_oo c S) (hc : c ≤ 100000) (h : sg_CC S M) {a b : Int} (hF : ∀ M', sg_X M M' → sg_CC (sa_year S a b).2 M' → F (sa_year S a b).1 M') : mv_Wp G 95 [.inr (.inr 1), .inl a, .inl b] (mh l) M (mv_qi (mh l) F) := by
  have hw := hS.1
  have hC := h.1.1
  have hu := sg_nu hw
  unfold sa_year at hF
  have R : ∀ r : Int, -6 ≤ r ∧ r ≤ -1 → (∀ M', sg_X M M' → sg_CC (sg_no S r) M' → F r M') → mv_Wp G 126 [.inr (.inr 1), .inl r] (mh l) M (mv_qi (mh l) fun x M' => mv_qi (mh l) F (some (.inl x)) (mh l) M') := fun r hr hf => cl_refuse hS hc h hr (fun M' a b => mv_qi_i (hf M' a b))
  refine vw_X11_year (cl_isNoUse hC (fun q => ?_) (fun q => ?_))
  · rw [if_pos q] at hF
    rw [if_neg (by decide)]
    exact R _ (by decide) hF
  · rw [if_neg (fun z => z q)] at hF
    rw [if_pos rfl]
    obtain ⟨u, hu2⟩ := sg_nat q.1
    subst hu2
    have h6 : u < 6 := by omega
    obtain ⟨q1, q2, q3, q4, q5, q6, q7, q8⟩ := hC.2.2.2.2.2.1 u h6
    have q1 : M 18 u = S 8 u := q1
    have q7 : M 24 u = S 15 u := q7
    have q8 : M 25 u = sg_ys S u (S 15 u).toNat := q8
    have hb := sg_w8 hw h6
    have hyb := sg_ys_b hw h6 (S 15 u).toNat (by omega)
    rw [Int.toNat_natCast] at hF
    rw [Int.toNat_natCast, q1, q7]
    refine ⟨by omega, ?_⟩
    split
    · rename_i z
      rw [if_neg (fun y => y z)] at hF
      split
      · rw [if_neg (by omega)] at hF
        split
        · rw [if_pos (by omega)] at hF
          exact R _ (by decide) hF
        · refine ⟨by omega, ?_⟩
          split
          · rename_i z2
            rw [if_neg (by omega)] at hF
            have e25 : (mv_up M 24 u (S 15 u + 1)) 25 u = sg_ys S u (S 15 u).toNat := (mv_up_c (by decide)).trans q8
            rw [e25]
            refine ⟨by omega, by omega, by omega, by omega, by omega, by omega, cl_forgetBids ⟨by omega, ?_⟩⟩
            have e24 : (mv_up (mv_up (mv_up M 24 u (S 15 u + 1)) 25 u (sg_ys S u (S 15 u).toNat + b)) 6 7 0) 24 u = S 15 u + 1 := by
              rw [mv_up_c (by decide), mv_up_c (by decide), mv_up_s]
            rw [e24]
            refine mv_qi_i ?_
            have hC' : sg_C 0 (mv_up (mv_up S 14 (6 * u + (S 15 u).toNat) b) 15 u (S 15 u + 1)) (mv_up (mv_up M 24 u (S 15 u + 1)) 25 u (sg_ys S u (S 15 u).toNat + b)) := by
              refine ⟨hC.1, hC.2.1, hC.2.2.1, hC.2.2.2.1, hC.2.2.2.2.1, fun j hj => ?_, hC.2.2.2.2.2.2⟩
              obtain ⟨p1, p2, p3, p4, p5, p6, p7, p8⟩ := hC.2.2.2.2.2.1 j hj
              refine ⟨p1, p2, p3, p4, p5, p6, mv_up_sm (M := M) (S := S) p7, ?_⟩
              show mv_up (mv_up M 24 u (S 15 u + 1)) 25 u (sg_ys S u (S 15 u).toNat + b) 25 j = sg_ys (mv_up (mv_up S 14 (6 * u + (S 15 u).toNat) b) 15 u (S 15 u + 1)) j (mv_up (mv_up S 14 (6 * u + (S 15 u).toNat) b) 15 u (S 15 u + 1) 15 j).toNat
              rw [sg_ys_u (by decide)]
              have ysb : ∀ n, n ≤ 6 → (j = u → n ≤ (S 15 u).toNat) → sg_ys (mv_up S 14 (6 * u + (S 15 u).toNat) b) j n = sg_ys S j n := by
                intro n
                induction n with
                | zero => intro _ _; rfl
                | succ n ih =>
                  intro hn hju
                  unfold sg_ys
                  rw [ih (by omega) (fun y => by have := hju y; omega), mv_up_j (fun y => by
                    have : j = u := by omega
                    have := hju this
                    omega)]
              by_cases y : j = u
              · subst y
                rw [mv_up_s, mv_up_s, show (S 15 j + 1).toNat = (S 15 j).toNat + 1 by omega]
                show sg_ys S j (S 15 j).toNat + b = sg_ys (mv_up S 14 (6 * j + (S 15 j).toNat) b) j (S 15 j).toNat + mv_up S 14 (6 * j + (S 15 j).toNat) b 14 (6 * j + (S 15 j).toNat)
                rw [mv_up_s, ysb _ (by omega) (fun _ => Nat.le_refl _)]
              · have hbj := sg_w8 hw hj
                rw [mv_up_j y, mv_up_j y, mv_up_c (show 25 ≠ 24 by decide), mv_up_c (show 15 ≠ 14 by decide), ysb _ (by omega) (fun z => absurd z y)]
                exact p8
            refine hF _ (fun a i ha => by rw [mv_up_c (by omega), mv_up_c (by omega), mv_up_c (by omega)]) (sg_CC_b h (sg_Q_t (sg_Q_up (by decide)) (sg_Q_up (by decide))) (fun a i ha => (mv_up_c (by omega)).trans (mv_up_c (by omega))) hC' rfl (fun hW => ?_))
            have : sg_W S (mv_up (mv_up M 24 u (S 15 u + 1)) 25 u (sg_ys S u (S 15 u).toNat + b)) := sg_W_fr hW (fun c d1 d2 _ i => by rw [mv_up_c (by omega), mv_up_c (by omega)])
            exact this
          · rw [if_pos (by omega)] at hF
            exact R _ (by decide) hF
      · rw [if_pos (by omega)] at hF
        exact R _ (by decide) hF
    · rename_i z
      rw [if_pos z] at hF
      exact R _ (by decide) hF
theorem ca_price (hS : sg_oo c S) (hc : c ≤ 100000) (h : sg_CC S M) {a b v : Int} (hF : ∀ M', sg_X M M' → sg_CC (sa_price S a b v).2 M' → F (sa_price S a b v).1 M') : mv_Wp G 96 [.inr (.inr 1), .inl a, .inl b, .inl v] (mh l) M (mv_qi (mh l) F) := by
  have hw := hS.1
  have hC := h.1.1
  have hu := sg_nu hw
  have hm3 := hw.1.2.2.1
  unfold sa_price at hF
  have R : ∀ r : Int, -6 ≤ r ∧ r ≤ -1 → (∀ M', sg_X M M' → sg_CC (sg_no S r) M' → F r M') → mv_Wp G 126 [.inr (.inr 1), .inl r] (mh l) M (mv_qi (mh l) fun x M' => mv_qi (mh l) F (some (.inl x)) (mh l) M') := fun r hr hf => cl_refuse hS hc h hr (fun M' a b => mv_qi_i (hf M' a b))
  refine vw_X11_price (cl_isNoUse hC (fun q => ?_) (fun q => ?_))
  · rw [sg_ip_y (fun z => q z.1)] at hF
    rw [if_neg (by decide)]
    exact R _ (by decide) hF
  · rw [if_pos rfl]
    refine cl_isNoMarket hC (fun q2 => ?_) (fun q2 => ?_)
    · rw [sg_ip_y (fun z => q2 z.2)] at hF
      rw [if_neg (by decide)]
      exact R _ (by decide) hF
    · rw [sg_ip_n (fun z => z ⟨q, q2⟩)] at hF
      rw [if_pos rfl]
      refine cl_unfit ?_
      split
      · rename_i z
        rw [if_neg (fun y => y z)] at hF
        obtain ⟨u, hu2⟩ := sg_nat q.1
        obtain ⟨m, hm2⟩ := sg_nat q2.1
        subst hu2
        subst hm2
        refine cl_offerOf (by omega) (by omega) ?_
        have e : sg_of (u : Int) (m : Int) = 3 * u + m := by
          unfold sg_of
          rw [Int.toNat_natCast, Int.toNat_natCast]
        rw [e] at hF
        have ho : 3 * u + m < 18 := by omega
        have q1 : M 26 (3 * u + m) = S 16 (3 * u + m) := (hC.2.2.2.2.2.2.1 _ ho).1
        rw [Int.toNat_natCast, q1]
        refine ⟨by omega, by omega, cl_forgetBids (mv_qi_i ?_)⟩
        refine hF _ (fun a i ha => by rw [mv_up_c (by omega), mv_up_c (by omega)]) (sg_CC_b h (sg_Q_up (by decide)) (fun a i ha => mv_up_c (by omega)) (sg_C_16 hC) rfl (fun hW => ?_))
        exact sg_W_16 (sg_W_fr hW (fun c d1 d2 _ i => mv_up_c (by omega)))
      · rename_i z
        rw [if_pos z] at hF
        exact R _ (sg_un_r z) hF
theorem ca_tax (hS : sg_oo c S) (hc : c ≤ 100000) (h : sg_CC S M) {a v : Int} (hF : ∀ M', sg_X M M' → sg_CC (sa_tax S a v).2 M' → F (sa_tax S a v).1 M') : mv_Wp G 97 [.inr (.inr 1), .inl a, .inl v] (mh l) M (mv_qi (mh l) F) := by
  have hw := hS.1
  have hC := h.1.1
  have hu := sg_nu hw
  unfold sa_tax at hF
  have R : ∀ r : Int, -6 ≤ r ∧ r ≤ -1 → (∀ M', sg_X M M' → sg_CC (sg_no S r) M' → F r M') → mv_Wp G 126 [.inr (.inr 1), .inl r] (mh l) M (mv_qi (mh l) fun x M' => mv_qi (mh l) F (some (.inl x)) (mh l) M') := fun r hr hf => cl_refuse hS hc h hr (fun M' a b => mv_qi_i (hf M' a b))
  refine vw_X11_tax ?_
  split
  · rename_i q
    rw [if_pos q] at hF
    refine vw_X11_rentTax (cl_unfit ?_)
    split
    · rename_i z
      rw [if_neg (fun y => y z)] at hF
      have c1 : M 17 1 = S 0 4 := hC.2.2.2.2.1.2
      rw [c1]
      refine mv_qi_i (mv_qi_i ?_)
      have hC' : sg_C 0 (mv_up S 0 4 v) (mv_up M 17 1 v) := by
        refine ⟨hC.1, hC.2.1, hC.2.2.1, hC.2.2.2.1, ⟨hC.2.2.2.2.1.1, ?_⟩, fun j hj => ?_, hC.2.2.2.2.2.2⟩
        · show mv_up M 17 1 v 17 1 = mv_up S 0 4 v 0 4
          rw [mv_up_s, mv_up_s]
        · obtain ⟨q1, q2, q3, q4, q5, q6, q7, q8⟩ := hC.2.2.2.2.2.1 j hj
          exact ⟨q1, q2, q3, q4, q5, q6, q7, Eq.trans q8 (sg_ys_c (S := S) (S' := mv_up S 0 4 v) (fun i => rfl) _).symm⟩
      obtain ⟨k1, k2, k3, k4, k5, k6⟩ := h.1
      have bd : ∀ o k, sg_bid (mv_up S 0 4 v) o k = sg_bid S o k := fun o k => by
        show sg_if (sg_cg S (o / 3) (sg_wo S o k)) (100 * (sg_yl S (o / 3) (S 1 k) * (S 16 o + sg_mn (mv_up S 0 4 v) (o / 3)) - S 11 (o / 3) - S 13 (o / 3)) - sg_cr S (o / 3) (S 1 k) * sg_wo S o k) 0 = _
        rw [sg_mn_u (by decide) (by decide)]
        rfl
      have gg : ∀ w k n, sg_g (mv_up S 0 4 v) w k n = sg_g S w k n := fun w k n => by
        induction n with
        | zero => rfl
        | succ n ih =>
          show (if ((n % 3 : Nat) : Int) < S 0 2 ∧ (n : Int) ≠ w ∧ (sg_g (mv_up S 0 4 v) w k n).2 < sg_bid (mv_up S 0 4 v) n k then ((n : Int), sg_bid (mv_up S 0 4 v) n k) else sg_g (mv_up S 0 4 v) w k n) = (if ((n % 3 : Nat) : Int) < S 0 2 ∧ (n : Int) ≠ w ∧ (sg_g S w k n).2 < sg_bid S n k then ((n : Int), sg_bid S n k) else sg_g S w k n)
          rw [ih, bd]
      have tk : ∀ k, sg_tk (mv_up S 0 4 v) k = sg_tk S k := fun k => by
        show (if S 4 k = 0 then (sg_g (mv_up S 0 4 v) (-1) k (3 * (S 0 3).toNat)).1 else -1) = _
        rw [gg]
        rfl
      have hK : sg_K (mv_up S 0 4 v) (mv_up M 17 1 v) := by
        refine ⟨hC', k2, k3, fun z => ?_, k5, fun z => ⟨fun o k z1 z2 z3 => ?_, fun k z1 => ?_⟩⟩
        · exact k4 z
        · rw [bd]
          exact (k6 z).1 o k z1 z2 z3
        · rw [tk]
          exact (k6 z).2 k z1
      exact hF _ (fun a i ha => mv_up_c (by omega)) (sg_CC_q h (sg_Q_up (by decide)) (fun a i ha => mv_up_c (by omega)) hK)
    · rename_i z
      rw [if_pos z] at hF
      exact cl_refuse hS hc h (sg_un_r z) (fun M' a b => mv_qi_i (mv_qi_i (hF M' a b)))
  · rename_i q
    rw [if_neg q] at hF
    refine cl_isNoUse hC (fun q => ?_) (fun q => ?_)
    · rw [if_pos q] at hF
      rw [if_neg (by decide)]
      exact R _ (by decide) hF
    · rw [if_neg (fun z => z q)] at hF
      rw [if_pos rfl]
      refine cl_unfit ?_
      split
      · rename_i z
        rw [if_neg (fun y => y z)] at hF
        obtain ⟨u, hu2⟩ := sg_nat q.1
        subst hu2
        have c1 : M 23 u = S 13 u := (hC.2.2.2.2.2.1 u (by omega)).2.2.2.2.2.1
        rw [Int.toNat_natCast] at hF
        rw [Int.toNat_natCast, c1]
        refine ⟨by omega, by omega, cl_forgetBids (mv_qi_i ?_)⟩
        refine hF _ (fun a i ha => by rw [mv_up_c (by omega), mv_up_c (by omega)]) (sg_CC_b h (sg_Q_up (by decide)) (fun a i ha => mv_up_c (by omega)) (sg_C_13 hC) rfl (fun hW => ?_))
        have : sg_W S (mv_up M 23 u v) := sg_W_fr hW (fun c d1 d2 _ i => mv_up_c (by omega))
        exact this
      · rename_i z
        rw [if_pos z] at hF
        exact R _ (sg_un_r z) hF
theorem ca_goes (hS : sg_oo c S) (hc : c ≤ 100000) (h : sg_CC S M) {a b : Int} (ha : mv_R32 a) (hF : ∀ M', sg_X M M' → sg_CC (sa_goes S a b).2 M' → F (sa_goes S a b).1 M') : mv_Wp G 100 [.inr (.inr 1), .inl a, .inl b] (mh l) M (mv_qi (mh l) F) := by
  have hw := hS.1
  have hC := h.1.1
  unfold sa_goes at hF
  have R : ∀ r : Int, -6 ≤ r ∧ r ≤ -1 → (∀ M', sg_X M M' → sg_CC (sg_no S r) M' → F r M') → mv_Wp G 126 [.inr (.inr 1), .inl r] (mh l) M (mv_qi (mh l) fun x M' => mv_qi (mh l) F (some (.inl x)) (mh l) M') := fun r hr hf => cl_refuse hS hc h hr (fun M' a b => mv_qi_i (hf M' a b))
  refine vw_X11_goes (cl_place hw hC ha (fun q => ?_) (fun k hk k48 e => ?_))
  · rw [if_pos q] at hF
    rw [if_pos rfl]
    exact R _ (by decide) hF
  · have hp := (sg_pl_lt hw hk).2
    rw [if_neg (by omega), e, Int.toNat_natCast] at hF
    rw [if_neg (by omega)]
    split
    · rw [if_pos (by omega)] at hF
      exact R _ (by decide) hF
    · split
      · rw [if_neg (by omega)] at hF
        refine cl_settled hw h (fun M1 x1 CC1 C1 Z1 f6 f7 => ?_)
        rw [Int.toNat_natCast, Z1.2.2 k hk]
        refine ⟨by omega, ?_⟩
        split
        · rename_i q
          rw [if_pos q] at hF
          exact mv_qi_i (hF M1 x1 CC1)
        · rename_i q
          rw [if_neg q] at hF
          have t0 : 0 ≤ sg_tk S k ∧ sg_tk S k < 18 := by
            rcases sg_tk_i hw k with z | ⟨o, z1, z2, z3, z4, z5⟩
            · exact absurd z.1 q
            · omega
          rw [sg_td t0.1, sg_tm t0.1]
          split
          · rename_i q2
            rw [if_pos q2] at hF
            exact ⟨⟨by decide, by omega⟩, mv_qi_i (hF M1 x1 CC1)⟩
          · rename_i q2
            rw [if_neg q2] at hF
            exact ⟨by decide, mv_qi_i (hF M1 x1 CC1)⟩
      · rw [if_pos (by omega)] at hF
        exact R _ (by decide) hF
theorem ca_rent (hS : sg_oo c S) (hc : c ≤ 100000) (h : sg_CC S M) {a : Int} (ha : mv_R32 a) (hF : ∀ M', sg_X M M' → sg_CC (sa_rent S a).2 M' → F (sa_rent S a).1 M') : mv_Wp G 101 [.inr (.inr 1), .inl a] (mh l) M (mv_ql (mh l) F) := by
  have hw := hS.1
  have hC := h.1.1
  unfold sa_rent at hF
  refine vw_X11_rent (cl_placeOf hw hC ha ?_)
  split
  · rename_i q
    rw [if_pos q] at hF
    refine cl_settled hw h (fun M1 x1 CC1 C1 Z1 f6 f7 => ?_)
    try rw [if_pos q]
    exact cl_allRents hw C1 Z1.2.1 Z1.2.2 (mv_ql_i (hF M1 x1 CC1))
  · rename_i q
    rw [if_neg q] at hF
    unfold sg_pa
    by_cases hac : 0 ≤ sg_ac S a
    · obtain ⟨hk, hk48, -⟩ := sg_ac_ok hw hac
      rw [if_neg (by omega)] at hF
      rw [if_pos hac, if_neg (by omega)]
      refine cl_settled hw h (fun M1 x1 CC1 C1 Z1 f6 f7 => ?_)
      try rw [if_neg q]
      exact cl_rentAt hw C1 Z1.2.1 Z1.2.2 hk (mv_ql_i (hF M1 x1 CC1))
    · rw [if_pos (by omega)] at hF
      rw [if_neg hac, if_pos rfl]
      exact cl_refuseLong hS hc h (by decide) (fun M' a b => mv_ql_i (hF M' a b))
end CB
end
section
/-! THE CLASS's CALLS of trade, plans, owners -/
section CD
variable {S : mv_Mem} {G : mv_G} {l c : Nat} {M : mv_Mem} {F : Int → mv_Mem → Prop}
theorem cl_R (hS : sg_oo c S) (hc : c ≤ 100000) (h : sg_CC S M) (r : Int) (hr : -6 ≤ r ∧ r ≤ -1) (hf : ∀ M', sg_X M M' → sg_CC (sg_no S r) M' → F r M') : mv_Wp G 126 [.inr (.inr 1), .inl r] (mh l) M (mv_qi (mh l) fun x M' => mv_qi (mh l) F (some (.inl x)) (mh l) M') := cl_refuse hS hc h hr (fun M' a b => mv_qi_i (hf M' a b))
theorem sg_of_n {u m : Nat} : sg_of (u : Int) (m : Int) = 3 * u + m := by
  unfold sg_of
  rw [Int.toNat_natCast, Int.toNat_natCast]
/-- all is settled; then scratch cells and the flags alone change -/
theorem sg_CC_z {M1 M2 : mv_Mem} (h : sg_CC S M1) (hZ : sg_Z S M1) (f6 : M1 6 6 = 1) (f7 : M1 6 7 = 1) (h2 : ∀ a i, a < 73 ∨ 76 < a → M2 a i = M1 a i) : sg_CC S M2 :=
  sg_CC_q h (fun a i ha => h2 a i (by omega)) (fun _ _ _ => rfl) (sg_K_1 (sg_C_fr h.1.1 (fun c d1 d2 i => h2 c i (by omega))) ⟨sg_W_fr hZ.1 (fun c d1 d2 d3 i => h2 c i (by omega)), sg_Bd_fr hZ.2.1 (fun i => h2 42 i (by omega)), sg_Tk_fr hZ.2.2 (fun i => h2 43 i (by omega))⟩ ((h2 6 6 (by omega)).trans f6) ((h2 6 7 (by omega)).trans f7))
theorem ca_piece (hS : sg_oo c S) (hc : c ≤ 100000) (h : sg_CC S M) {a b d e : Int} (hF : ∀ M', sg_X M M' → sg_CC (sa_piece S a b d e).2 M' → F (sa_piece S a b d e).1 M') : mv_Wp G 103 [.inr (.inr 1), .inl a, .inl b, .inl d, .inl e] (mh l) M (mv_qi (mh l) F) := by
  have hw := hS.1
  have hC := h.1.1
  have hu := sg_nu hw
  have hm3 := hw.1.2.2.1
  unfold sa_piece at hF
  refine vw_X11_piece (cl_isNoUse hC (fun q => ?_) (fun q => ?_))
  · rw [sg_ip_y (fun z => q z.1)] at hF
    rw [if_neg (by decide)]
    exact cl_R hS hc h _ (by decide) hF
  · rw [if_pos rfl]
    refine cl_isNoMarket hC (fun q2 => ?_) (fun q2 => ?_)
    · rw [sg_ip_y (fun z => q2 z.2)] at hF
      rw [if_neg (by decide)]
      exact cl_R hS hc h _ (by decide) hF
    · rw [sg_ip_n (fun z => z ⟨q, q2⟩)] at hF
      rw [if_pos rfl]
      obtain ⟨u, hu2⟩ := sg_nat q.1
      obtain ⟨m, hm2⟩ := sg_nat q2.1
      subst hu2
      subst hm2
      rw [sg_of_n] at hF
      have ho : 3 * u + m < 18 := by omega
      generalize hoo : 3 * u + m = o at hF ho
      have c27 : M 27 o = S 19 o := (hC.2.2.2.2.2.2.1 o ho).2
      have hb := (sg_w16 hw ho).2
      by_cases y1 : d < 0
      · rw [if_pos (by omega)] at hF
        rw [if_pos y1]
        exact cl_R hS hc h _ (by decide) hF
      rw [if_neg y1]
      by_cases y2 : 0 ≤ e
      rotate_left
      · rw [if_pos (by omega)] at hF
        rw [if_neg y2]
        exact cl_R hS hc h _ (by decide) hF
      rw [if_neg (by omega)] at hF
      rw [if_pos y2]
      refine cl_offerOf (by omega) (by omega) ?_
      rw [hoo]
      by_cases y3 : 9999 < d
      · rw [if_pos (by omega)] at hF
        rw [if_pos y3]
        exact cl_R hS hc h _ (by decide) hF
      rw [if_neg y3]
      by_cases y4 : 999 < e
      · rw [if_pos (by omega)] at hF
        rw [if_pos y4]
        exact cl_R hS hc h _ (by decide) hF
      rw [if_neg y4, Int.toNat_natCast, c27]
      refine ⟨by omega, ?_⟩
      by_cases y5 : S 19 o < 6
      rotate_left
      · rw [if_pos (by omega)] at hF
        rw [if_neg y5]
        exact cl_R hS hc h _ (by decide) hF
      rw [if_neg (by omega)] at hF
      rw [if_pos y5]
      refine vw_X7_appendPiece ?_
      rw [Int.toNat_natCast, c27, if_neg (by omega), show Int.toNat ((o : Int) * 6 + S 19 o) = 6 * o + (S 19 o).toNat by omega]
      refine ⟨by omega, by omega, by omega, by omega, by omega, by omega, by omega, by omega, by omega, mv_qv_i ⟨by omega, ?_⟩⟩
      rw [mv_up_s]
      refine mv_qi_i ?_
      have hC' : sg_C 0 (mv_up (mv_up (mv_up S 17 (6 * o + (S 19 o).toNat) d) 18 (6 * o + (S 19 o).toNat) e) 19 o (S 19 o + 1)) (mv_up (mv_up (mv_up M 28 (6 * o + (S 19 o).toNat) d) 29 (6 * o + (S 19 o).toNat) e) 27 o (S 19 o + 1)) := by
        refine ⟨hC.1, hC.2.1, hC.2.2.1, hC.2.2.2.1, hC.2.2.2.2.1, fun j hj => ?_, fun j hj => ⟨(hC.2.2.2.2.2.2.1 j hj).1, mv_up_sm (M := M) (S := S) (hC.2.2.2.2.2.2.1 j hj).2⟩, fun j hj => ⟨mv_up_sm (M := M) (S := S) (hC.2.2.2.2.2.2.2.1 j hj).1, mv_up_sm (M := M) (S := S) (hC.2.2.2.2.2.2.2.1 j hj).2⟩, hC.2.2.2.2.2.2.2.2⟩
        obtain ⟨q1, q2, q3, q4, q5, q6, q7, q8⟩ := hC.2.2.2.2.2.1 j hj
        exact ⟨q1, q2, q3, q4, q5, q6, q7, Eq.trans q8 (sg_ys_c (S := S) (S' := mv_up (mv_up (mv_up S 17 (6 * o + (S 19 o).toNat) d) 18 (6 * o + (S 19 o).toNat) e) 19 o (S 19 o + 1)) (fun i => rfl) _).symm⟩
      obtain ⟨k1, k2, k3, k4, k5, k6⟩ := h.1
      have e3 : ∀ a i, a ≤ 16 → (mv_up (mv_up (mv_up S 17 (6 * o + (S 19 o).toNat) d) 18 (6 * o + (S 19 o).toNat) e) 19 o (S 19 o + 1)) a i = S a i := fun a i ha => by rw [mv_up_c (by omega), mv_up_c (by omega), mv_up_c (by omega)]
      have bd : ∀ o' k, sg_bid (mv_up (mv_up (mv_up S 17 (6 * o + (S 19 o).toNat) d) 18 (6 * o + (S 19 o).toNat) e) 19 o (S 19 o + 1)) o' k = sg_bid S o' k := fun o' k => by
        show sg_if (sg_cg S (o' / 3) (sg_wo S o' k)) (100 * (sg_yl S (o' / 3) (S 1 k) * (S 16 o' + sg_mn (mv_up (mv_up (mv_up S 17 (6 * o + (S 19 o).toNat) d) 18 (6 * o + (S 19 o).toNat) e) 19 o (S 19 o + 1)) (o' / 3)) - S 11 (o' / 3) - S 13 (o' / 3)) - sg_cr S (o' / 3) (S 1 k) * sg_wo S o' k) 0 = _
        rw [sg_mn_u (by decide) (by decide), sg_mn_u (by decide) (by decide), sg_mn_u (by decide) (by decide)]
        rfl
      have tk : ∀ k, sg_tk (mv_up (mv_up (mv_up S 17 (6 * o + (S 19 o).toNat) d) 18 (6 * o + (S 19 o).toNat) e) 19 o (S 19 o + 1)) k = sg_tk S k := by
        generalize hS' : (mv_up (mv_up (mv_up S 17 (6 * o + (S 19 o).toNat) d) 18 (6 * o + (S 19 o).toNat) e) 19 o (S 19 o + 1)) = S' at e3 bd
        have gg : ∀ w k n, sg_g S' w k n = sg_g S w k n := fun w k n => by
          induction n with
          | zero => rfl
          | succ n ih =>
            unfold sg_g
            rw [ih, bd, e3 0 2 (by decide)]
        intro k
        unfold sg_tk
        rw [gg, e3 4 k (by decide), e3 0 3 (by decide)]
      have hK : sg_K (mv_up (mv_up (mv_up S 17 (6 * o + (S 19 o).toNat) d) 18 (6 * o + (S 19 o).toNat) e) 19 o (S 19 o + 1)) (mv_up (mv_up (mv_up M 28 (6 * o + (S 19 o).toNat) d) 29 (6 * o + (S 19 o).toNat) e) 27 o (S 19 o + 1)) := by
        refine ⟨hC', k2, k3, fun z => ?_, k5, fun z => ⟨fun o' k z1 z2 z3 => ?_, fun k z1 => ?_⟩⟩
        · have : sg_W S (mv_up (mv_up (mv_up M 28 (6 * o + (S 19 o).toNat) d) 29 (6 * o + (S 19 o).toNat) e) 27 o (S 19 o + 1)) := sg_W_fr (k4 z) (fun c d1 d2 _ i => by rw [mv_up_c (by omega), mv_up_c (by omega), mv_up_c (by omega)])
          exact this
        · rw [bd]
          exact (k6 z).1 o' k z1 z2 z3
        · rw [tk]
          exact (k6 z).2 k z1
      exact hF _ (fun a i ha => by rw [mv_up_c (by omega), mv_up_c (by omega), mv_up_c (by omega)]) (sg_CC_q h (fun a i ha => by rw [mv_up_c (by omega), mv_up_c (by omega), mv_up_c (by omega)]) (fun a i ha => (mv_up_c (by omega)).trans ((mv_up_c (by omega)).trans (mv_up_c (by omega)))) hK)
theorem sg_rn_pq : ∀ (n : Nat) (S : mv_Mem), sg_pq S (sg_rn S n).1
  | 0, _ => fun _ _ _ => rfl
  | n + 1, S => by
    intro a i ha
    have e : sg_rn S (n + 1) = (if (sg_rd S).2 = 0 then ((sg_rd S).1, 1) else ((sg_rn (sg_rd S).1 n).1, (sg_rn (sg_rd S).1 n).2 + 1)) := rfl
    rw [e]
    split
    · exact sg_ro_pq S _ a i ha
    · exact (sg_rn_pq n _ a i ha).trans (sg_ro_pq S _ a i ha)
theorem ca_rounds (hS : sg_oo c S) (hc : c ≤ 100000) (h : sg_CC S M) {a : Int} (hF : ∀ M', sg_X M M' → sg_CC (sa_rounds S a).2 M' → F (sa_rounds S a).1 M') : mv_Wp G 106 [.inr (.inr 1), .inl a] (mh l) M (mv_qi (mh l) F) := by
  have hw := hS.1
  unfold sa_rounds at hF
  refine vw_X11_rounds (cl_unfit ?_)
  split
  · rename_i z
    rw [if_neg (fun y => y z)] at hF
    have hr := sg_un_0 z
    obtain ⟨n, hn⟩ := sg_nat (show 0 ≤ a by omega)
    subst hn
    rw [Int.toNat_natCast] at hF
    refine cl_settled hw h (fun M1 x1 CC1 C1 Z1 f6 f7 => cl_runRounds hw C1 Z1.1 Z1.2.1 (by omega) (fun M2 f2 w2 C2 W2 => cl_forgetBids (mv_qi_i (hF _ (sg_X_t x1 (fun a i ha => ?_)) ?_))))
    · rw [mv_up_c (by omega)]
      exact f2 a i (by omega) (by omega) (by omega) (by omega)
    · exact sg_CC_b CC1 (fun a i ha => f2 a i (by omega) (by omega) (by omega) (by omega)) (fun a i ha => sg_rn_pq n S a i (by omega)) C2 (f2 6 6 (by decide) (by decide) (by decide) (by decide)) (fun _ => W2)
  · rename_i z
    rw [if_pos z] at hF
    exact cl_R hS hc h _ (sg_un_r z) hF
theorem sg_CC_wu {M1 M2 : mv_Mem} (h : sg_CC S M1) (hu : sg_wu M1 M2) (hC : sg_C 0 S M2) (h6 : M2 6 6 = 0) (h7 : M2 6 7 = 0) : sg_CC S M2 :=
  sg_CC_q h (fun a i ha => hu a i (by omega) (by omega) (by omega) (by omega) (by omega) (by omega) (by omega)) (fun _ _ _ => rfl) (sg_K_0 hC h6 h7)
theorem sg_wu_X {M1 M2 : mv_Mem} (hu : sg_wu M1 M2) : sg_X M1 M2 := fun a i ha => hu a i (by omega) (by omega) (by omega) (by omega) (by omega) (by omega) (by omega)
theorem sg_up_r {p : Int} (h : sg_up S p ≠ 0) : -6 ≤ sg_up S p ∧ sg_up S p ≤ -1 := by
  unfold sg_up at h ⊢
  split
  · decide
  · rename_i q
    rw [if_neg q] at h
    by_cases z : sg_bu S p.toNat
    · rw [sg_if_y z]
      decide
    · rw [sg_if_n z] at h
      exact absurd rfl h
theorem sg_up_0 {p : Int} (h : sg_up S p = 0) : 0 ≤ p ∧ p < S 0 5 ∧ ¬ sg_bu S p.toNat := by
  unfold sg_up at h
  split at h
  · omega
  · refine ⟨by omega, by omega, fun z => ?_⟩
    rw [sg_if_y z] at h
    omega
theorem ca_falls (hS : sg_oo c S) (hc : c ≤ 100000) (h : sg_CC S M) {a v : Int} (hF : ∀ M', sg_X M M' → sg_CC (sa_falls S a v).2 M' → F (sa_falls S a v).1 M') : mv_Wp G 117 [.inr (.inr 1), .inl a, .inl v] (mh l) M (mv_qi (mh l) F) := by
  have hw := hS.1
  have hC := h.1.1
  have hu := sg_nu hw
  unfold sa_falls at hF
  refine vw_X11_falls (cl_isNoUse hC (fun q => ?_) (fun q => ?_))
  · rw [if_pos q] at hF
    rw [if_neg (by decide)]
    exact cl_R hS hc h _ (by decide) hF
  · rw [if_neg (fun z => z q)] at hF
    rw [if_pos rfl]
    refine cl_unfit ?_
    split
    · rename_i z
      rw [if_neg (fun y => y z)] at hF
      have hv := sg_un_0 z
      obtain ⟨u, hu2⟩ := sg_nat q.1
      subst hu2
      rw [Int.toNat_natCast] at hF
      refine cl_settled hw h (fun M1 x1 CC1 C1 Z1 f6 f7 => cl_fallingWaste hw C1 Z1.1 Z1.2.1 Z1.2.2 q.2 hv (fun M2 f2 C2 g6 g7 => mv_qi_i (hF M2 (sg_X_t x1 (fun a i ha => f2 a i (by omega) (by omega) (by omega))) ?_)))
      exact sg_CC_q CC1 (fun a i ha => f2 a i (by omega) (by omega) (by omega)) (fun _ _ _ => rfl) (sg_K_b C2 (Or.inr (g6.trans f6)) (fun _ => sg_W_fr Z1.1 (fun c d1 d2 _ i => f2 c i (by omega) (by omega) (by omega))) g7)
    · rename_i z
      rw [if_pos z] at hF
      exact cl_R hS hc h _ (sg_un_r z) hF
end CD
end
section
/-! THE CLASS's CALLS: owners, rows, images, texts, roads -/
section CE
variable {S : mv_Mem} {G : mv_G} {l c : Nat} {M : mv_Mem} {F : Int → mv_Mem → Prop}
theorem sg_kp_up {a i : Nat} {v : Int} (h : a < 40) : sg_kp (mv_up S a i v) = sg_kp S := by
  funext b j
  exact mv_up_c (by omega)
theorem sg_C_3 (hw : sg_wf S) (hC : sg_C 0 S M) {k : Nat} {v : Int} (hk : sg_ok S k) : sg_C 0 (mv_up S 3 k v) (mv_up M 12 (sg_pl S k) v) := by
  refine ⟨hC.1, fun j hj => ?_, hC.2.2.1, hC.2.2.2.1, hC.2.2.2.2.1, fun j hj => have q := hC.2.2.2.2.2.1 j hj; ⟨q.1, q.2.1, q.2.2.1, q.2.2.2.1, q.2.2.2.2.1, q.2.2.2.2.2.1, q.2.2.2.2.2.2.1, sg_C_ys (M := M) (by decide) (by decide) q.2.2.2.2.2.2.2⟩, hC.2.2.2.2.2.2⟩
  obtain ⟨q1, q2, q3, q4, q5, q6⟩ := hC.2.1 j hj
  refine ⟨q1, q2, q3, ?_, q5, q6⟩
  show mv_up M 12 (sg_pl S k) v 12 (sg_pl S j) = mv_up S 3 k v 3 j
  by_cases q : j = k
  · rw [q, mv_up_s, mv_up_s]
  · rw [mv_up_j q, mv_up_j (fun z => q (sg_pl_inj hw hj hk z))]
    exact q4
theorem sg_g_u {a i : Nat} {v w : Int} {k : Nat} (h : a = 3) : ∀ n, sg_g (mv_up S a i v) w k n = sg_g S w k n := by
  subst h
  intro n
  induction n with
  | zero => rfl
  | succ n ih =>
    show (if ((n % 3 : Nat) : Int) < S 0 2 ∧ (n : Int) ≠ w ∧ (sg_g (mv_up S 3 i v) w k n).2 < sg_bid (mv_up S 3 i v) n k then ((n : Int), sg_bid (mv_up S 3 i v) n k) else sg_g (mv_up S 3 i v) w k n) = (if ((n % 3 : Nat) : Int) < S 0 2 ∧ (n : Int) ≠ w ∧ (sg_g S w k n).2 < sg_bid S n k then ((n : Int), sg_bid S n k) else sg_g S w k n)
    rw [ih, sg_bid_u (Or.inr rfl)]
theorem sg_tk_3 {i : Nat} {v : Int} {k : Nat} : sg_tk (mv_up S 3 i v) k = sg_tk S k := by
  show (if S 4 k = 0 then (sg_g (mv_up S 3 i v) (-1) k (3 * (S 0 3).toNat)).1 else -1) = _
  rw [sg_g_u rfl]
  rfl
theorem ca_own (hS : sg_oo c S) (hc : c ≤ 100000) (h : sg_CC S M) {a b : Int} (ha : mv_R32 a) (hF : ∀ M', sg_X M M' → sg_CC (sa_own S a b).2 M' → F (sa_own S a b).1 M') : mv_Wp G 118 [.inr (.inr 1), .inl a, .inl b] (mh l) M (mv_qi (mh l) F) := by
  have hw := hS.1
  have hC := h.1.1
  unfold sa_own at hF
  refine vw_X11_own (cl_place hw hC ha (fun q => ?_) (fun k hk k48 e => ?_))
  · rw [if_pos q] at hF
    rw [if_pos rfl]
    exact cl_R hS hc h _ (by decide) hF
  · have hp := (sg_pl_lt hw hk).2
    have q3 : M 12 (sg_pl S k) = S 3 k := (hC.2.1 k hk).2.2.2.1
    rw [if_neg (by omega), e, Int.toNat_natCast] at hF
    rw [if_neg (by omega), Int.toNat_natCast]
    refine cl_unfit ?_
    split
    · rename_i z
      rw [if_neg (fun y => y z)] at hF
      rw [q3]
      refine ⟨by omega, ?_⟩
      split
      · rename_i y
        rw [if_pos y] at hF
        exact mv_qi_i (hF M sg_X_r h)
      · rename_i y
        rw [if_neg y] at hF
        refine ⟨by omega, mv_qi_i ?_⟩
        obtain ⟨k1, k2, k3, k4, k5, k6⟩ := h.1
        have hK : sg_K (mv_up S 3 k b) (mv_up M 12 (sg_pl S k) b) := by
          refine ⟨sg_C_3 hw hC hk, k2, k3, fun z => ?_, k5, fun z => ⟨fun o' k z1 z2 z3 => ?_, fun k z1 => ?_⟩⟩
          · have : sg_W S (mv_up M 12 (sg_pl S k) b) := sg_W_fr (k4 z) (fun c d1 d2 _ i => mv_up_c (by omega))
            exact this
          · rw [sg_bid_u (Or.inr rfl)]
            exact (k6 z).1 o' k z1 z2 z3
          · rw [sg_tk_3]
            exact (k6 z).2 k z1
        exact hF _ (fun a i ha => mv_up_c (by omega)) (sg_CC_q h (sg_Q_up (by decide)) (fun a i ha => mv_up_c (by omega)) hK)
    · rename_i z
      rw [if_pos z] at hF
      exact cl_R hS hc h _ (sg_un_r z) hF
theorem ca_held (hS : sg_oo c S) (hc : c ≤ 100000) (h : sg_CC S M) {a b : Int} (ha : mv_R32 a) (hF : ∀ M', sg_X M M' → sg_CC (sa_held S a b).2 M' → F (sa_held S a b).1 M') : mv_Wp G 119 [.inr (.inr 1), .inl a, .inl b] (mh l) M (mv_qi (mh l) F) := by
  have hw := hS.1
  have hC := h.1.1
  unfold sa_held at hF
  refine vw_X11_held (cl_place hw hC ha (fun q => ?_) (fun k hk k48 e => ?_))
  · rw [if_pos q] at hF
    rw [if_pos rfl]
    exact cl_R hS hc h _ (by decide) hF
  · have hp := (sg_pl_lt hw hk).2
    have q3 : M 13 (sg_pl S k) = S 4 k := (hC.2.1 k hk).2.2.2.2.1
    rw [if_neg (by omega), e, Int.toNat_natCast] at hF
    rw [if_neg (by omega), Int.toNat_natCast, q3]
    have fin : ∀ v : Int, (∀ M', sg_X M M' → sg_CC (1, mv_up S 4 k v).2 M' → F (1, mv_up S 4 k v).1 M') → mv_Wp G 13 [.inr (.inr 6)] (mh l) (mv_up M 13 (sg_pl S k) v) (mv_qv (mh l) fun M2 => mv_qi (mh l) F (some (.inl 1)) (mh l) M2) := by
      intro v hf
      refine cl_forgetBids (mv_qi_i (hf _ (fun a i ha => by rw [mv_up_c (by omega), mv_up_c (by omega)]) (sg_CC_b h (sg_Q_up (by decide)) (fun a i ha => mv_up_c (by omega)) (sg_C_4 hw hC hk) rfl (fun hW => ?_))))
      have : sg_W S (mv_up M 13 (sg_pl S k) v) := sg_W_fr hW (fun c d1 d2 _ i => mv_up_c (by omega))
      exact this
    split
    · rename_i z
      rw [if_pos z] at hF
      refine ⟨by omega, ?_⟩
      split
      · rename_i y
        rw [if_pos y] at hF
        exact mv_qi_i (hF M sg_X_r h)
      · rename_i y
        rw [if_neg y] at hF
        exact ⟨by omega, fin 0 hF⟩
    · rename_i z
      rw [if_neg z] at hF
      refine ⟨by omega, ?_⟩
      split
      · rename_i y
        rw [if_pos y] at hF
        exact mv_qi_i (hF M sg_X_r h)
      · rename_i y
        rw [if_neg y] at hF
        exact ⟨by omega, fin 1 hF⟩
theorem ca_hold (hS : sg_oo c S) (hc : c ≤ 100000) (h : sg_CC S M) {a : Int} (hF : ∀ M', sg_X M M' → sg_CC (sa_hold S a).2 M' → F (sa_hold S a).1 M') : mv_Wp G 120 [.inr (.inr 1), .inl a] (mh l) M (mv_qi (mh l) F) := by
  have hw := hS.1
  unfold sa_hold at hF
  refine vw_X11_hold (cl_unfit ?_)
  split
  · rename_i z
    rw [if_neg (fun y => y z)] at hF
    refine cl_settled hw h (fun M1 x1 CC1 C1 Z1 f6 f7 => cl_bestToHold hw C1 Z1.1 Z1.2.1 Z1.2.2 (fun M2 f2 C2 B2 => mv_qi_i (hF M2 (sg_X_t x1 (fun a i ha => f2 a i (by omega) (by omega) (by omega) (by omega))) ?_)))
    exact sg_CC_q CC1 (fun a i ha => f2 a i (by omega) (by omega) (by omega) (by omega)) (fun _ _ _ => rfl) (sg_K_1 C2 ⟨sg_W_fr Z1.1 (fun c d1 d2 _ i => f2 c i (by omega) (by omega) (by omega) (by omega)), B2, sg_Tk_fr Z1.2.2 (fun i => f2 43 i (by decide) (by decide) (by decide) (by decide))⟩ ((f2 6 6 (by decide) (by decide) (by decide) (by decide)).trans f6) ((f2 6 7 (by decide) (by decide) (by decide) (by decide)).trans f7))
  · rename_i z
    rw [if_pos z] at hF
    exact cl_R hS hc h _ (sg_un_r z) hF
theorem sg_jf_c {len : Int} {r r' : Nat → Int} (h : ∀ i : Nat, (i : Int) < len → r i = r' i) : ∀ n p, sg_jf S len r n p = sg_jf S len r' n p
  | 0, _ => rfl
  | n + 1, p => by
    unfold sg_jf
    by_cases q : len ≤ (p : Int)
    · rw [if_pos (Or.inl q), if_pos (Or.inl q)]
    · rw [h p (by omega), sg_jf_c h n (p + 1)]
theorem sg_kp_i (S : mv_Mem) : sg_sw S (sg_kp (sa_image S).2) := fun a i ha => by
  show (if 40 + a = 35 ∧ i = 0 then 1 else if 40 ≤ 40 + a ∧ 40 + a ≤ 63 then S (40 + a - 40) i else S (40 + a) i) = S a i
  rw [if_neg (fun z => by omega), if_pos ⟨by omega, by omega⟩, show 40 + a - 40 = a by omega]
theorem ca_image (hS : sg_oo c S) (h : sg_CC S M) (hF : ∀ M', sg_X M M' → sg_CC (sa_image S).2 M' → F (sa_image S).1 M') : mv_Wp G 123 [.inr (.inr 1)] (mh l) M (mv_qi (mh l) F) := by
  have hw := hS.1
  refine vw_X11_image (cl_take_i hw h.1.1 (fun M1 f1 C1 => ⟨by decide, mv_qi_i ?_⟩))
  have e8 : (mv_up M1 1 8 1) 8 2 = S 0 0 * S 0 1 := by
    rw [mv_up_c (by decide), f1 8 2 (by decide)]
    exact h.1.1.1.2.2.1
  rw [e8]
  refine hF _ (fun a i ha => by rw [mv_up_c (by omega)]; exact f1 a i (by omega)) ?_
  have hsw : sg_sw S (sa_image S).2 := fun a i ha => by
    show (if a = 35 ∧ i = 0 then 1 else if 40 ≤ a ∧ a ≤ 63 then S (a - 40) i else S a i) = S a i
    rw [if_neg (fun z => by omega), if_neg (by omega)]
  obtain ⟨h1, h2, h3, h4, h5, h6, h7, h8⟩ := h
  refine ⟨sg_sw_K hsw (sg_K_fr h1 (fun a i ha => by rw [mv_up_c (by omega)]; exact f1 a i (by omega))), ?_, fun i hi => ?_, ?_, fun i hi => ?_, fun i hi => ?_, ?_, fun z => ?_⟩
  · rw [mv_up_c (by decide), f1 2 1 (by decide)]
    exact h2
  · rw [mv_up_c (by decide), f1 3 i (by decide)]
    exact h3 i hi
  · rw [mv_up_c (by decide), f1 4 1 (by decide)]
    exact h4
  · rw [mv_up_c (by decide), f1 5 i (by decide)]
    exact h5 i hi
  · rw [mv_up_c (by decide), f1 87 i (by decide)]
    exact h6 i hi
  · show mv_up M1 1 8 1 1 8 = 1
    rw [mv_up_s]
  · exact sg_C_fr (sg_sw_C (sg_kp_i S) C1) (fun c d1 d2 i => mv_up_c (by omega))
theorem ca_on (hS : sg_oo c S) (hc : c ≤ 100000) (h : sg_CC S M) (hF : ∀ M', sg_X M M' → sg_CC (sa_on S).2 M' → F (sa_on S).1 M') : mv_Wp G 124 [.inr (.inr 1)] (mh l) M (mv_qi (mh l) F) := by
  unfold sa_on at hF
  have c1 : M 1 8 = S 35 0 := h.2.2.2.2.2.2.1
  refine vw_X11_on ?_
  rw [c1]
  split
  · rename_i q
    rw [if_pos q] at hF
    exact cl_R hS hc h _ (by decide) hF
  · rename_i q
    rw [if_neg q] at hF
    have e1 : S 35 0 = 1 := by
      rcases hS.2.2.2.2.2.1 with z | z
      · exact absurd z q
      · exact z
    have hK := h.2.2.2.2.2.2.2 e1
    have hwk := hS.2.2.2.2.2.2 e1
    refine cl_take_o hwk hK (fun M1 f1 C1 => cl_forgetWays ?_)
    have e8 : (mv_up (mv_up M1 6 6 0) 6 7 0) 8 2 = S 40 0 * S 40 1 := by
      rw [mv_up_c (by decide), mv_up_c (by decide)]
      exact C1.1.2.2.1
    rw [e8]
    refine mv_qi_i (hF _ (fun a i ha => by rw [mv_up_c (by omega), mv_up_c (by omega)]; exact f1 a i (by omega)) ?_)
    have hsw : sg_sw (sg_kp S) (fun a i => if a ≤ 23 then S (40 + a) i else S a i) := fun a i ha => by
      show (if a ≤ 23 then S (40 + a) i else S a i) = S (40 + a) i
      rw [if_pos ha]
    exact sg_CC_w h (fun a i ha => f1 a i (by omega)) (fun a i ha => if_neg (by omega)) (sg_sw_C hsw C1)
theorem ca_count (hS : sg_oo c S) (h : sg_CC S M) {a : Int} (hF : ∀ M', sg_X M M' → sg_CC (sa_count S a).2 M' → F (sa_count S a).1 M') : mv_Wp G 125 [.inr (.inr 1), .inl a] (mh l) M (mv_qi (mh l) F) := by
  have hw := hS.1
  have hC := h.1.1
  have c0 : M 8 0 = S 0 0 := hC.1.1
  have c1 : M 8 1 = S 0 1 := hC.1.2.1
  have c2 : M 8 4 = S 0 2 := hC.1.2.2.2.2
  have c3 : M 17 0 = S 0 3 := hC.2.2.2.2.1.1
  have c4 : M 8 3 = S 0 6 := hC.1.2.2.2.1
  have c5 : M 30 0 = S 0 5 := hC.2.2.2.2.2.2.2.2.1
  have c8 : M 2 1 = S 30 0 := h.2.1
  have c9 : M 4 1 = S 32 0 := h.2.2.2.1
  unfold sa_count at hF
  refine vw_X11_count ?_
  rw [c0, c1, c2, c3, c4, c5, c8, c9]
  by_cases q0 : a = 0
  · rw [if_pos q0] at hF
    rw [if_pos q0]
    exact mv_qi_i (hF M sg_X_r h)
  rw [if_neg q0] at hF
  rw [if_neg q0]
  by_cases q1 : a = 1
  · rw [if_pos q1] at hF
    rw [if_pos (by omega)]
    exact mv_qi_i (hF M sg_X_r h)
  rw [if_neg q1] at hF
  rw [if_neg (by omega)]
  by_cases q2 : a = 2
  · rw [if_pos q2] at hF
    rw [if_pos (by omega)]
    exact mv_qi_i (hF M sg_X_r h)
  rw [if_neg q2] at hF
  rw [if_neg (by omega)]
  by_cases q3 : a = 3
  · rw [if_pos q3] at hF
    rw [if_pos (by omega)]
    exact mv_qi_i (hF M sg_X_r h)
  rw [if_neg q3] at hF
  rw [if_neg (by omega)]
  by_cases q4 : a = 4
  · rw [if_pos q4] at hF
    rw [if_pos (by omega)]
    exact mv_qi_i (hF M sg_X_r h)
  rw [if_neg q4] at hF
  rw [if_neg (by omega)]
  by_cases q5 : a = 5
  · rw [if_pos q5] at hF
    rw [if_pos (by omega)]
    exact mv_qi_i (hF M sg_X_r h)
  rw [if_neg q5] at hF
  rw [if_neg (by omega)]
  by_cases q6 : a = 6
  · rw [if_pos q6] at hF
    rw [if_pos (by omega)]
    exact cl_settled hw h (fun M1 x1 CC1 C1 Z1 f6 f7 => cl_wasteAcres hw C1 Z1.2.2 (mv_qi_i (hF M1 x1 CC1)))
  rw [if_neg q6] at hF
  rw [if_neg (by omega)]
  by_cases q7 : a = 7
  · rw [if_pos q7] at hF
    rw [if_pos (by omega)]
    exact cl_idleAcres hw hC (mv_qi_i (hF M sg_X_r h))
  rw [if_neg q7] at hF
  rw [if_neg (by omega)]
  by_cases q8 : a = 8
  · rw [if_pos q8] at hF
    rw [if_pos (by omega)]
    exact mv_qi_i (hF M sg_X_r h)
  rw [if_neg q8] at hF
  rw [if_neg (by omega)]
  by_cases q9 : a = 9
  · rw [if_pos q9] at hF
    rw [if_pos (by omega)]
    exact mv_qi_i (hF M sg_X_r h)
  rw [if_neg q9] at hF
  rw [if_neg (by omega)]
  split
  · rw [if_neg (by omega)] at hF
    exact mv_qi_i (hF M sg_X_r h)
  · split
    · rw [if_neg (by omega)] at hF
      exact mv_qi_i (hF M sg_X_r h)
    · rw [if_pos (by omega)] at hF
      have c87 : M 87 (a - 10).toNat = S 34 (a - 10).toNat := h.2.2.2.2.2.1 _ (by omega)
      rw [c87]
      exact ⟨by omega, by omega, mv_qi_i (hF M sg_X_r h)⟩
theorem ca_road (hS : sg_oo c S) (hc : c ≤ 100000) (h : sg_CC S M) {a b d : Int} (ha : mv_R32 a) (hb : mv_R32 b) (hF : ∀ M', sg_X M M' → sg_CC (sa_road S a b d).2 M' → F (sa_road S a b d).1 M') : mv_Wp G 89 [.inr (.inr 1), .inl a, .inl b, .inl d] (mh l) M (mv_qi (mh l) F) := by
  have hw := hS.1
  have hC := h.1.1
  have hr12 := hw.1.2.2.2.2.2.2
  unfold sa_road at hF
  refine vw_X11_road (cl_place hw hC ha (fun q => cl_placeOf hw hC hb (cl_sideTowards_no (Or.inl rfl) ?_)) (fun k hk k48 e1 => cl_place hw hC hb (fun q => cl_sideTowards_no (Or.inr rfl) ?_) (fun k' hk' k48' e2 => cl_sideTowards hw hC hk hk' ?_)))
  · rw [if_pos (Or.inl q)] at hF
    rw [if_pos rfl]
    exact cl_R hS hc h _ (by decide) hF
  · rw [if_pos (Or.inr (Or.inl q))] at hF
    rw [if_pos rfl]
    exact cl_R hS hc h _ (by decide) hF
  · rw [e1, e2, Int.toNat_natCast, Int.toNat_natCast] at hF
    by_cases y0 : sg_dir k k' = -1
    · rw [if_pos (Or.inr (Or.inr y0))] at hF
      rw [if_pos y0]
      exact cl_R hS hc h _ (by decide) hF
    rw [if_neg (by omega)] at hF
    rw [if_neg y0]
    have hr := sg_dir_r k k'
    obtain ⟨dd, hdd⟩ := sg_nat (show 0 ≤ sg_dir k k' by omega)
    rw [hdd, Int.toNat_natCast] at hF
    rw [hdd]
    have hpb := (sg_pb_dir hw hk hk' (show dd < 4 by omega)).2 hdd
    have hhs : sg_has S k dd := Classical.byContradiction (fun z => by rw [sg_pb_no z] at hpb; omega)
    by_cases y1 : d < 0
    · rw [if_pos (by omega)] at hF
      rw [if_pos y1]
      exact cl_R hS hc h _ (by decide) hF
    rw [if_neg y1]
    by_cases y2 : d ≤ 3
    rotate_left
    · rw [if_pos (by omega)] at hF
      rw [if_neg y2]
      exact cl_R hS hc h _ (by decide) hF
    rw [if_neg (by omega)] at hF
    rw [if_pos y2]
    refine cl_roadAt hw hC hk (by omega) ?_
    have era : (if S 5 (4 * k + dd) = 4 then (3 : Int) else S 5 (4 * k + dd)) = sg_ra S k dd := rfl
    rw [era]
    have c83 : M 8 3 = S 0 6 := hC.1.2.2.2.1
    rw [c83]
    have fin : ∀ n : Int, (∀ M', sg_X M M' → sg_CC (mv_up (sg_lay S k dd d) 0 6 n) M' → F (sg_ra S k dd) M') →
        mv_Wp G 8 [.inr (.inr 8), .inl (sg_pl S k : Int), .inl (dd : Int), .inl d] (mh l) (mv_up M 8 3 n) (mv_qv (mh l) fun M20 => mv_Wp G 12 [.inr (.inr 6)] (mh l) M20 (mv_qv (mh l) fun M21 => mv_qi (mh l) F (some (.inl (sg_ra S k dd))) (mh l) M21)) := by
      intro n hf
      have hok : sg_ok (mv_up S 0 6 n) k := hk
      -- the state with another number of roads
      have hC0 : sg_C 0 (mv_up S 0 6 n) (mv_up M 8 3 n) := by
        refine ⟨⟨hC.1.1, hC.1.2.1, hC.1.2.2.1, ?_, hC.1.2.2.2.2⟩, hC.2.1, hC.2.2.1, hC.2.2.2.1, hC.2.2.2.2.1, fun j hj => ?_, hC.2.2.2.2.2.2⟩
        · show mv_up M 8 3 n 8 3 = mv_up S 0 6 n 0 6
          rw [mv_up_s, mv_up_s]
        · obtain ⟨q1, q2, q3, q4, q5, q6, q7, q8⟩ := hC.2.2.2.2.2.1 j hj
          exact ⟨q1, q2, q3, q4, q5, q6, q7, Eq.trans q8 (sg_ys_c (S := S) (S' := mv_up S 0 6 n) (fun i => rfl) _).symm⟩
      refine vw_X0_layRoad ?_
      -- beside does not look at the number of roads
      have hbs : ∀ {F : Int → mv_Mem → Prop}, F (sg_pb S k dd) (mv_up M 8 3 n) → mv_Wp G 5 [.inr (.inr 8), .inl (sg_pl S k : Int), .inl (dd : Int)] (mh l) (mv_up M 8 3 n) (mv_qi (mh l) F) := by
        intro F hf
        refine vw_X0_beside ?_
        have := cl_beside (G := G) (l := l) (F := F) hw hC hk (show dd < 4 by omega)
        have cc1 : (mv_up M 8 3 n) 8 0 = S 0 0 := hC.1.1
        have cc2 : (mv_up M 8 3 n) 8 1 = S 0 1 := hC.1.2.1
        have cc3 : (mv_up M 8 3 n) 9 (sg_pl S k) = ((10 * (k % 8) + k / 8 : Nat) : Int) := (hC.2.1 k hk).1
        obtain ⟨⟨⟨w1, w2⟩, ⟨h1, h2⟩, -⟩, -⟩ := id hw
        obtain ⟨k1, k2⟩ := id hk
        have hp := (sg_pl_lt hw hk).2
        rw [Int.toNat_natCast, cc3, cc1, cc2, sg_td (by omega), sg_tm (by omega)]
        have e1 : ((10 * (k % 8) + k / 8 : Nat) : Int) / 10 = ((k % 8 : Nat) : Int) := by omega
        have e2 : ((10 * (k % 8) + k / 8 : Nat) : Int) % 10 = ((k / 8 : Nat) : Int) := by omega
        rw [e1, e2]
        unfold sg_pb at hf
        refine ⟨by omega, ⟨by decide, by omega⟩, by omega, by decide, ?_⟩
        rcases (show dd = 0 ∨ dd = 1 ∨ dd = 2 ∨ dd = 3 by omega) with rfl | rfl | rfl | rfl
        · simp only [if_true] at hf
          rw [if_pos (by rfl)]
          refine ⟨by omega, ?_⟩
          split
          · rw [if_neg (by omega)] at hf
            exact mv_qi_i hf
          · rw [if_pos (by omega)] at hf
            exact ⟨by omega, mv_qi_i hf⟩
        · simp only [if_true, show ¬ (1 = 0) by decide, if_false] at hf
          rw [if_neg (by decide), if_pos (by rfl)]
          split
          · rw [if_neg (by omega)] at hf
            exact mv_qi_i hf
          · rw [if_pos (by omega)] at hf
            exact ⟨by omega, mv_qi_i hf⟩
        · simp only [if_true, show ¬ (2 = 0) by decide, show ¬ (2 = 1) by decide, if_false] at hf
          rw [if_neg (by decide), if_neg (by decide), if_pos (by rfl)]
          refine ⟨by omega, ?_⟩
          split
          · rw [if_neg (by omega)] at hf
            exact mv_qi_i hf
          · rw [if_pos (by omega)] at hf
            exact ⟨by omega, mv_qi_i hf⟩
        · simp only [show ¬ (3 = 0) by decide, show ¬ (3 = 1) by decide, show ¬ (3 = 2) by decide, if_false] at hf
          rw [if_neg (by decide), if_neg (by decide), if_neg (by decide)]
          split
          · rw [if_neg (by omega)] at hf
            exact mv_qi_i hf
          · rw [if_pos (by omega)] at hf
            exact ⟨by omega, mv_qi_i hf⟩
      obtain ⟨e1', hn⟩ := sg_pb_yes hw hk hhs (show dd < 4 by omega)
      obtain ⟨dd1, dd2⟩ := sg_dd_lt (show dd < 4 by omega)
      have hp := (sg_pl_lt hw hk).2
      have hq := (sg_pl_lt hw hn).2
      refine hbs ?_
      rw [if_neg (by omega), e1', sg_xor1 (by omega), show Int.toNat ((sg_pl S k : Int) * 4 + (dd : Int)) = 4 * sg_pl S k + dd by omega, show Int.toNat ((sg_pl S (sg_nx k dd) : Int) * 4 + (sg_dd dd : Int)) = 4 * sg_pl S (sg_nx k dd) + sg_dd dd by omega]
      have done : ∀ c' : Int, c' = (if d = 3 then 4 else d) → mv_Wp G 12 [.inr (.inr 6)] (mh l) (mv_up (mv_up (mv_up M 8 3 n) 14 (4 * sg_pl S k + dd) d) 14 (4 * sg_pl S (sg_nx k dd) + sg_dd dd) c') (mv_qv (mh l) fun M21 => mv_qi (mh l) F (some (.inl (sg_ra S k dd))) (mh l) M21) := by
        intro c' hc'
        refine cl_forgetWays (mv_qi_i (hf _ (fun a i ha => by rw [mv_up_c (by omega), mv_up_c (by omega), mv_up_c (by omega), mv_up_c (by omega), mv_up_c (by omega)]) (sg_CC_w h (fun a i ha => by rw [mv_up_c (by omega), mv_up_c (by omega), mv_up_c (by omega)]) (fun a i ha => ?_) ?_)))
        · rw [mv_up_c (by omega)]
          exact sg_lay_o (by omega)
        · have L := sg_C_lay hw hC hk (show dd < 4 by omega) hhs hc'
          refine ⟨⟨L.1.1, L.1.2.1, L.1.2.2.1, ?_, L.1.2.2.2.2⟩, L.2.1, L.2.2.1, L.2.2.2.1, L.2.2.2.2.1, fun j hj => ?_, L.2.2.2.2.2.2⟩
          · show mv_up (mv_up (mv_up M 8 3 n) 14 _ d) 14 _ c' 8 3 = mv_up (sg_lay S k dd d) 0 6 n 0 6
            rw [mv_up_s, mv_up_c (by decide), mv_up_c (by decide), mv_up_s]
          · obtain ⟨q1, q2, q3, q4, q5, q6, q7, q8⟩ := L.2.2.2.2.2.1 j hj
            exact ⟨q1, q2, q3, q4, q5, q6, q7, Eq.trans q8 (sg_ys_c (S := sg_lay S k dd d) (S' := mv_up (sg_lay S k dd d) 0 6 n) (fun i => rfl) _).symm⟩
      refine ⟨by omega, by omega, by omega, by omega, by omega, ?_⟩
      split
      · rename_i q
        exact ⟨by omega, mv_qv_i (done 4 (by rw [if_pos q]))⟩
      · rename_i q
        exact ⟨by omega, mv_qv_i (done d (by rw [if_neg q]))⟩
    by_cases y3 : sg_ra S k dd = 0
    · rw [if_pos y3]
      by_cases y4 : d = 0
      · rw [if_neg (fun z => z.2.1 y4), if_pos y4, if_pos y3] at hF
        rw [if_pos y4, if_pos y4, if_pos y3]
        exact ⟨by omega, by omega, fin _ hF⟩
      · rw [if_neg y4]
        by_cases y5 : S 0 6 < 12
        · rw [if_neg (fun z => by omega), if_neg y4, if_pos y3] at hF
          rw [if_pos y5, if_neg y4, if_pos y3]
          exact ⟨by omega, by omega, fin _ hF⟩
        · rw [if_pos ⟨y3, y4, by omega⟩] at hF
          rw [if_neg y5]
          exact cl_R hS hc h _ (by decide) hF
    · rw [if_neg (fun z => y3 z.1)] at hF
      rw [if_neg y3]
      by_cases y4 : d = 0
      · rw [if_pos y4, if_neg y3] at hF
        rw [if_pos y4, if_neg y3]
        exact ⟨by omega, by omega, fin _ hF⟩
      · rw [if_neg y4, if_neg y3] at hF
        rw [if_neg y4, if_neg y3]
        exact ⟨by omega, by omega, fin _ hF⟩
/-! reading a text -/
theorem sg_pr_c {t t' : Nat → Int} {n : Nat} (h : ∀ i, i < n → t i = t' i) : ∀ (f i : Nat) (w line col : Int), i + f = n → sg_pr t n f i w line col = sg_pr t' n f i w line col
  | 0, _, _, _, _, _ => rfl
  | f + 1, i, w, line, col, hi => by
    unfold sg_pr
    rw [h i (by omega), sg_pr_c h f (i + 1) col (line + 1) 0 (by omega), sg_pr_c h f (i + 1) w line (col + 1) (by omega)]
theorem sg_rdS_c {t t' : Nat → Int} {n W H : Nat} (h : ∀ i, i < n → t i = t' i) (hn : n + 1 = H * (W + 1)) : sg_rdS S t W H = sg_rdS S t' W H := by
  funext a i
  unfold sg_rdS
  by_cases q : i % 8 < W ∧ i / 8 < H
  · have hlt : i / 8 * (W + 1) + i % 8 < n := by
      have z : (i / 8 + 1) * (W + 1) ≤ H * (W + 1) := Nat.mul_le_mul_right _ (by omega)
      rw [Nat.succ_mul] at z
      omega
    rw [h _ hlt]
  · rw [if_neg q, if_neg q]
theorem ca_read (hS : sg_oo c S) (h : sg_CC S M) (hF : ∀ M', sg_X M M' → sg_CC (sa_read S).2 M' → F (sa_read S).1 M') : mv_Wp G 87 [.inr (.inr 1)] (mh l) M (mv_qi (mh l) F) := by
  have hw := hS.1
  have hC := h.1.1
  have hl := hS.2.1
  obtain ⟨n, hn⟩ := sg_nat hl.1
  have c2 : M 2 1 = (n : Int) := h.2.1.trans hn
  have ht : ∀ i, i < n → M 3 i = S 31 i := fun i hi => h.2.2.1 i (by omega)
  have ep : sg_prs (M 3) n = sg_prs (S 31) n := sg_pr_c ht n 0 8 0 0 (by omega)
  unfold sa_read at hF
  rw [hn, Int.toNat_natCast] at hF
  refine vw_X11_read (cl_firstFault c2 (by omega) ?_)
  rw [ep]
  rcases sg_prs_c (S 31) n with ⟨j, hj, e⟩ | ⟨W, H, e, tx⟩
  · rw [e] at hF ⊢
    have e1 : ¬ (((j : Int), (0 : Int), (0 : Int)).1 = -1) := by
      show ¬ (j : Int) = -1
      omega
    rw [if_neg e1] at hF
    rw [if_neg e1]
    refine ⟨by show -2147483648 ≤ -20 - (j : Int) ∧ -20 - (j : Int) ≤ 2147483647; omega, mv_qi_i (hF _ (fun a i ha => mv_up_c (by omega)) ?_)⟩
    have hsw : sg_sw S (mv_up S 30 0 0) := fun b i hb => mv_up_c (by omega)
    obtain ⟨h1, h2, h3, h4, h5, h6, h7, h8⟩ := h
    refine ⟨sg_sw_K hsw (sg_K_fr h1 (fun a i ha => mv_up_c (by omega))), ?_, fun i hi => ?_, h4, h5, h6, h7, fun z => by dsimp only; rw [sg_kp_up (by decide)]; exact sg_C_fr (h8 z) (fun c d1 d2 i => mv_up_c (by omega))⟩
    · show mv_up M 2 1 0 2 1 = mv_up S 30 0 0 30 0
      rw [mv_up_s, mv_up_s]
    · have hi : (i : Int) < mv_up S 30 0 0 30 0 := hi
      rw [mv_up_s] at hi
      omega
  · rw [e] at hF ⊢
    rw [if_pos rfl] at hF
    rw [if_pos rfl]
    dsimp only at hF
    rw [Int.toNat_natCast, Int.toNat_natCast] at hF
    have txM : sg_tx (M 3) n W H := by
      obtain ⟨t1, t2, t3, t4, t5⟩ := tx
      refine ⟨t1, t2, t3, fun y x hy hx => ?_, fun y hy => ?_⟩
      · have hlt : y * (W + 1) + x < n := by
          have z : (y + 1) * (W + 1) ≤ H * (W + 1) := Nat.mul_le_mul_right _ (by omega)
          rw [Nat.succ_mul] at z
          omega
        rw [ht _ hlt]
        exact t4 y x hy hx
      · have hlt : y * (W + 1) + W < n := by
          have z : (y + 1 + 1) * (W + 1) ≤ H * (W + 1) := Nat.mul_le_mul_right _ (by omega)
          rw [Nat.succ_mul, Nat.succ_mul] at z
          omega
        rw [ht _ hlt]
        exact t5 y hy
    refine cl_layOut hw hC c2 (by omega) txM (fun M1 f1 C1 => cl_forgetWays ?_)
    rw [sg_rdS_c ht tx.2.2.1] at C1
    have e8 : (mv_up (mv_up (mv_up (mv_up M1 30 0 0) 2 1 0) 6 6 0) 6 7 0) 8 2 = (W : Int) * (H : Int) := by
      rw [mv_up_c (by decide), mv_up_c (by decide), mv_up_c (by decide)]
      exact C1.1.2.2.1
    rw [e8]
    refine mv_qi_i (hF _ (fun a i ha => by rw [mv_up_c (by omega), mv_up_c (by omega), mv_up_c (by omega), mv_up_c (by omega)]; exact f1 a i (by omega)) ?_)
    have hsw : sg_sw (sg_rdS S (S 31) W H) (mv_up (sg_rdS S (S 31) W H) 30 0 0) := fun b i hb => mv_up_c (by omega)
    have hs : ∀ a i, 30 ≤ a → sg_rdS S (S 31) W H a i = S a i := fun a i ha => by
      unfold sg_rdS
      rw [if_neg (by omega), if_neg (by omega), if_neg (by omega), if_neg (by omega)]
    have fr : ∀ a i, ¬ (8 ≤ a ∧ a ≤ 14) → a ≠ 30 → a ≠ 2 → a ≠ 6 → (mv_up (mv_up (mv_up (mv_up M1 30 0 0) 2 1 0) 6 6 0) 6 7 0) a i = M a i := fun a i a1 a2 a3 a4 => by
      rw [mv_up_c a4, mv_up_c a4, mv_up_c a3, mv_up_c a2]
      exact f1 a i a1
    obtain ⟨h1, h2, h3, h4, h5, h6, h7, h8⟩ := h
    refine ⟨sg_sw_K hsw (sg_K_0 (sg_C_fr C1 (fun c d1 d2 i => ?_)) ?_ ?_), ?_, fun i hi => ?_, ?_, fun i hi => ?_, fun i hi => ?_, ?_, fun z => ?_⟩
    · rw [mv_up_c (by omega), mv_up_c (by omega), mv_up_c (by omega)]
    · rw [mv_up_j (by decide), mv_up_s]
    · rw [mv_up_s]
    · rw [mv_up_c (by decide), mv_up_c (by decide), mv_up_s, mv_up_s]
    · rw [mv_up_s] at hi
      omega
    · rw [fr 4 1 (by decide) (by decide) (by decide) (by decide), mv_up_c (by decide), hs 32 0 (by decide)]
      exact h4
    · rw [mv_up_c (by decide), hs 32 0 (by decide)] at hi
      rw [fr 5 i (by decide) (by decide) (by decide) (by decide), mv_up_c (by decide), hs 33 i (by decide)]
      exact h5 i hi
    · rw [fr 87 i (by decide) (by decide) (by decide) (by decide), mv_up_c (by decide), hs 34 i (by decide)]
      exact h6 i hi
    · rw [fr 1 8 (by decide) (by decide) (by decide) (by decide), mv_up_c (by decide), hs 35 0 (by decide)]
      exact h7
    · rw [mv_up_c (by decide), hs 35 0 (by decide)] at z
      have e : sg_kp (mv_up (sg_rdS S (S 31) W H) 30 0 0) = sg_kp S := by
        funext a i
        exact (mv_up_c (by omega)).trans (hs (40 + a) i (by omega))
      rw [e]
      exact sg_C_fr (h8 z) (fun c d1 d2 i => fr c i (by omega) (by omega) (by omega) (by omega))
end CE
end
section
/-! WHAT IS SO OF EVERY STATE STAYS SO -/
section SO
variable {S : mv_Mem} {c : Nat}
theorem sg_dir_y (hw : sg_wf S) {k k' d : Nat} (hk : sg_ok S k) (hk' : sg_ok S k') (hd : d < 4) (h : sg_dir k k' = (d : Int)) : sg_has S k d ∧ sg_nx k d = k' := by
  have h1 := (sg_pb_dir hw hk hk' hd).2 h
  by_cases hh : sg_has S k d
  · obtain ⟨e, ho⟩ := sg_pb_yes hw hk hh hd
    exact ⟨hh, sg_pl_inj hw ho hk' (by omega)⟩
  · rw [sg_pb_no hh] at h1
    omega
theorem sg_B_up {a n i : Nat} {lo hi v : Int} (h : sg_B S a n lo hi) (hv : lo ≤ v ∧ v ≤ hi) : sg_B (mv_up S a i v) a n lo hi := by
  intro j hj
  by_cases q : j = i
  · rw [q, mv_up_s]
    exact hv
  · rw [mv_up_j q]
    exact h j hj
theorem sg_oo_w {S' : mv_Mem} (h : sg_oo c S) (hw : sg_wf S') (hs : ∀ a i, 30 ≤ a → S' a i = S a i) : sg_oo (c + 1) S' := by
  obtain ⟨-, h2, h3, h4, h5, h6, h7⟩ := sg_oo_s h
  have e : sg_kp S' = sg_kp S := by
    funext a i
    exact hs (40 + a) i (by omega)
  refine ⟨hw, by rw [hs 30 0 (by decide)]; exact h2, fun i => by rw [hs 31 i (by decide)]; exact h3 i, by rw [hs 32 0 (by decide)]; exact h4, fun i hi => by rw [hs 34 i (by decide)]; exact h5 i hi, by rw [hs 35 0 (by decide)]; exact h6, fun z => ?_⟩
  rw [hs 35 0 (by decide)] at z
  rw [e]
  exact h7 z
theorem so_acre (h : sg_oo c S) {a b : Int} : sg_oo (c + 1) (sa_acre S a b).2 := by
  unfold sa_acre
  repeat' split
  all_goals first | exact sg_oo_s h | exact sg_oo_no h (by decide)
theorem so_goes (h : sg_oo c S) {a b : Int} : sg_oo (c + 1) (sa_goes S a b).2 := by
  unfold sa_goes
  by_cases q1 : sg_ac S a < 0
  · rw [if_pos q1]
    exact sg_oo_no h (by decide)
  · rw [if_neg q1]
    by_cases q2 : b < 0 ∨ 1 < b
    · rw [if_pos q2]
      exact sg_oo_no h (by decide)
    · rw [if_neg q2]
      exact sg_oo_s h
theorem so_rent (h : sg_oo c S) {a : Int} : sg_oo (c + 1) (sa_rent S a).2 := by
  unfold sa_rent
  repeat' split
  all_goals first | exact sg_oo_s h | exact sg_oo_no h (by decide)
theorem so_falls (h : sg_oo c S) {a v : Int} : sg_oo (c + 1) (sa_falls S a v).2 := by
  unfold sa_falls
  split
  · exact sg_oo_no h (by decide)
  · split
    · rename_i z
      exact sg_oo_no h (sg_un_r z)
    · exact sg_oo_s h
theorem so_hold (h : sg_oo c S) {a : Int} : sg_oo (c + 1) (sa_hold S a).2 := by
  unfold sa_hold
  split
  · rename_i z
    exact sg_oo_no h (sg_un_r z)
  · exact sg_oo_s h
theorem so_count (h : sg_oo c S) {a : Int} : sg_oo (c + 1) (sa_count S a).2 := sg_oo_s h
theorem so_feed (h : sg_oo c S) {a b : Int} : sg_oo (c + 1) (sa_feed S a b).2 := by
  unfold sa_feed
  by_cases q1 : a < 1
  · rw [if_pos q1]
    exact sg_oo_no h (by decide)
  rw [if_neg q1]
  by_cases q2 : 8 < a ∨ 60 < S 30 0 + a
  · rw [if_pos q2]
    exact sg_oo_no h (by decide)
  rw [if_neg q2]
  obtain ⟨h1, h2, h3, h4, h5, h6, h7⟩ := sg_oo_s h
  have hsw : sg_sw S (fun d i => if d = 30 ∧ i = 0 then S 30 0 + a else if d = 31 ∧ (S 30 0).toNat ≤ i ∧ i < (S 30 0).toNat + a.toNat then sg_by b (i - (S 30 0).toNat) else S d i) := fun d i ha => by
    show (if d = 30 ∧ i = 0 then _ else if d = 31 ∧ _ then _ else S d i) = S d i
    rw [if_neg (by omega), if_neg (fun z => by omega)]
  have e : sg_kp (fun d i => if d = 30 ∧ i = 0 then S 30 0 + a else if d = 31 ∧ (S 30 0).toNat ≤ i ∧ i < (S 30 0).toNat + a.toNat then sg_by b (i - (S 30 0).toNat) else S d i) = sg_kp S := by
    funext d i
    show (if 40 + d = 30 ∧ i = 0 then _ else if 40 + d = 31 ∧ _ then _ else S (40 + d) i) = S (40 + d) i
    rw [if_neg (by omega), if_neg (fun z => by omega)]
  refine ⟨sg_sw_wf hsw h1, ?_, fun i => ?_, h4, h5, h6, fun z => ?_⟩
  · show 0 ≤ S 30 0 + a ∧ S 30 0 + a ≤ 60
    omega
  · show 0 ≤ (if 31 = 30 ∧ i = 0 then S 30 0 + a else if 31 = 31 ∧ (S 30 0).toNat ≤ i ∧ i < (S 30 0).toNat + a.toNat then sg_by b (i - (S 30 0).toNat) else S 31 i) ∧ (if 31 = 30 ∧ i = 0 then S 30 0 + a else if 31 = 31 ∧ (S 30 0).toNat ≤ i ∧ i < (S 30 0).toNat + a.toNat then sg_by b (i - (S 30 0).toNat) else S 31 i) ≤ 255
    rw [if_neg (fun z => by omega)]
    split
    · unfold sg_by
      omega
    · exact h3 i
  · dsimp only
    rw [e]
    exact h7 z
theorem so_read (h : sg_oo c S) : sg_oo (c + 1) (sa_read S).2 := by
  obtain ⟨h1, h2, h3, h4, h5, h6, h7⟩ := sg_oo_s h
  unfold sa_read
  rcases sg_prs_c (S 31) (S 30 0).toNat with ⟨j, j1, j2⟩ | ⟨W, H, e, ht⟩
  · rw [j2]
    dsimp only
    rw [if_neg (by omega)]
    have hsw : sg_sw S (mv_up S 30 0 0) := fun b i hb => mv_up_c (by omega)
    have hkp : sg_kp (mv_up S 30 0 0) = sg_kp S := sg_kp_up (by decide)
    refine ⟨sg_sw_wf hsw h1, ?_, h3, h4, h5, h6, fun z => ?_⟩
    · dsimp only
      rw [mv_up_s]
      decide
    · dsimp only
      rw [hkp]
      exact h7 z
  · rw [e]
    dsimp only
    rw [if_pos rfl, Int.toNat_natCast, Int.toNat_natCast]
    have w := sg_wf_rd h1 ht
    have hsw : sg_sw (sg_rdS S (S 31) W H) (mv_up (sg_rdS S (S 31) W H) 30 0 0) := fun b i hb => mv_up_c (by omega)
    have hkp : sg_kp (mv_up (sg_rdS S (S 31) W H) 30 0 0) = sg_kp S := by
      rw [sg_kp_up (by decide)]
      funext a i
      show sg_rdS S (S 31) W H (40 + a) i = S (40 + a) i
      unfold sg_rdS
      rw [if_neg (by omega), if_neg (by omega), if_neg (by omega), if_neg (by omega)]
    refine ⟨sg_sw_wf hsw w, ?_, h3, h4, h5, h6, fun z => ?_⟩
    · dsimp only
      rw [mv_up_s]
      decide
    · have z : S 35 0 = 1 := z
      dsimp only
      rw [hkp]
      exact h7 z
theorem so_road (h : sg_oo c S) {a b e : Int} (he : 1 ≤ e) : sg_oo (c + 1) (sa_road S a b e).2 := by
  have hw := h.1
  have hr12 := hw.1.2.2.2.2.2.2
  unfold sa_road
  by_cases q1 : sg_ac S a < 0 ∨ sg_ac S b < 0 ∨ sg_dir (sg_ac S a).toNat (sg_ac S b).toNat = -1
  · rw [if_pos q1]
    exact sg_oo_no h (by decide)
  rw [if_neg q1]
  by_cases q2 : e < 0 ∨ 3 < e
  · rw [if_pos q2]
    exact sg_oo_no h (by decide)
  rw [if_neg q2]
  by_cases q3 : sg_ra S (sg_ac S a).toNat (sg_dir (sg_ac S a).toNat (sg_ac S b).toNat).toNat = 0 ∧ e ≠ 0 ∧ 12 ≤ S 0 6
  · rw [if_pos q3]
    exact sg_oo_no h (by decide)
  rw [if_neg q3]
  obtain ⟨k1, -, -⟩ := sg_ac_ok hw (xy := a) (by omega)
  obtain ⟨k2, -, -⟩ := sg_ac_ok hw (xy := b) (by omega)
  generalize (sg_ac S a).toNat = k at *
  generalize (sg_ac S b).toNat = k' at *
  have dr := sg_dir_r k k'
  obtain ⟨d, ed⟩ := sg_nat (show 0 ≤ sg_dir k k' by omega)
  have hd : d < 4 := by omega
  obtain ⟨hh, hn⟩ := sg_dir_y hw k1 k2 hd ed
  rw [ed, Int.toNat_natCast] at q3 ⊢
  have wl := sg_wf_lay hw k1 hd hh (c := e) (by omega)
  refine sg_oo_w h ?_ (fun a i ha => (mv_up_c (by omega)).trans (sg_lay_o (by omega)))
  have num : 0 ≤ S 0 6 + ((if e = 0 then 0 else 1) - (if sg_ra S k d = 0 then 0 else 1)) ∧ S 0 6 + ((if e = 0 then 0 else 1) - (if sg_ra S k d = 0 then 0 else 1)) ≤ 12 := by
    by_cases y1 : sg_ra S k d = 0
    · rw [if_pos y1]
      by_cases y2 : e = 0
      · rw [if_pos y2]
        omega
      · rw [if_neg y2]
        have : ¬ 12 ≤ S 0 6 := fun y3 => q3 ⟨y1, y2, y3⟩
        omega
    · rw [if_neg y1]
      split <;> omega
  obtain ⟨⟨w1, w2, w3, w4, w5, w6, w7⟩, wr⟩ := wl
  exact ⟨⟨w1, w2, w3, w4, w5, w6, by dsimp only; rw [mv_up_s]; exact num⟩, wr⟩
theorem so_toll (h : sg_oo c S) {a v : Int} : sg_oo (c + 1) (sa_toll S a v).2 := by
  unfold sa_toll
  by_cases q1 : sg_ac S a < 0
  · rw [if_pos q1]
    exact sg_oo_no h (by decide)
  rw [if_neg q1]
  by_cases q2 : sg_un v 0 99 ≠ 0
  · rw [if_pos q2]
    exact sg_oo_no h (sg_un_r q2)
  rw [if_neg q2]
  obtain ⟨h1, ⟨a1, a2, a3, a4, a5, a6⟩, h3⟩ := h.1
  have hv := sg_un_0 (Classical.byContradiction q2)
  exact sg_oo_w h ⟨h1, ⟨a1, sg_B_up a2 hv, a3, a4, a5, a6⟩, h3⟩ (fun a i ha => mv_up_c (by omega))
theorem sg_mo_no {k : Nat} : ∀ (n m : Nat), sg_mo S k n m = -9 → ∀ j, m ≤ j → j < m + n → S 7 j ≠ (k : Int)
  | 0, m, _, j, h1, h2 => by omega
  | n + 1, m, h, j, h1, h2 => by
    unfold sg_mo at h
    by_cases q : S 7 m = (k : Int)
    · rw [if_pos q] at h
      omega
    · rw [if_neg q] at h
      by_cases e : j = m
      · rw [e]
        exact q
      · exact sg_mo_no n (m + 1) h j (by omega) (by omega)
theorem so_market (h : sg_oo c S) {a : Int} : sg_oo (c + 1) (sa_market S a).2 := by
  have hw := h.1
  unfold sa_market
  by_cases q1 : sg_ac S a < 0
  · rw [if_pos q1]
    exact sg_oo_no h (by decide)
  rw [if_neg q1]
  by_cases q2 : sg_on S (sg_ac S a).toNat ≠ -9
  · rw [if_pos q2]
    exact sg_oo_no h (by decide)
  rw [if_neg q2]
  by_cases q3 : 3 ≤ S 0 2
  · rw [if_pos q3]
    exact sg_oo_no h (by decide)
  rw [if_neg q3]
  obtain ⟨k1, k2, -⟩ := sg_ac_ok hw (xy := a) (by omega)
  have hno := sg_mo_no (S := S) (k := (sg_ac S a).toNat) (S 0 2).toNat 0 (Classical.byContradiction q2)
  obtain ⟨⟨w1, w2, w3, w4, w5, w6, w7⟩, h2, h3, h4, hr⟩ := hw
  refine sg_oo_w h ⟨⟨w1, w2, ?_, w4, w5, w6, w7⟩, h2, fun m hm => ?_, fun m m' hm hm' he => ?_, hr⟩ (fun a i ha => (mv_up_c (by omega)).trans (mv_up_c (by omega)))
  · dsimp only
    rw [mv_up_s]
    omega
  · have hm : (m : Int) < S 0 2 + 1 := hm
    show 0 ≤ mv_up S 7 (S 0 2).toNat (sg_ac S a) 7 m ∧ mv_up S 7 (S 0 2).toNat (sg_ac S a) 7 m < 48 ∧ sg_ok S (mv_up S 7 (S 0 2).toNat (sg_ac S a) 7 m).toNat
    by_cases e : m = (S 0 2).toNat
    · rw [e, mv_up_s]
      exact ⟨by omega, by omega, k1⟩
    · rw [mv_up_j e]
      exact h3 m (by omega)
  · have hm : (m : Int) < S 0 2 + 1 := hm
    have hm' : (m' : Int) < S 0 2 + 1 := hm'
    have he : mv_up S 7 (S 0 2).toNat (sg_ac S a) 7 m = mv_up S 7 (S 0 2).toNat (sg_ac S a) 7 m' := he
    by_cases e : m = (S 0 2).toNat
    · by_cases e' : m' = (S 0 2).toNat
      · omega
      · rw [e, mv_up_s, mv_up_j e'] at he
        exact absurd (show S 7 m' = ((sg_ac S a).toNat : Int) by omega) (hno m' (by omega) (by omega))
    · by_cases e' : m' = (S 0 2).toNat
      · rw [e', mv_up_s, mv_up_j e] at he
        exact absurd (show S 7 m = ((sg_ac S a).toNat : Int) by omega) (hno m (by omega) (by omega))
      · rw [mv_up_j e, mv_up_j e'] at he
        exact h4 m m' (by omega) (by omega) he
theorem so_use (h : sg_oo c S) {a b d e f : Int} : sg_oo (c + 1) (sa_use S a b d e f).2 := by
  have hw := h.1
  unfold sa_use
  by_cases q1 : a < 0 ∨ 5 < a
  · rw [if_pos q1]
    exact sg_oo_no h (by decide)
  rw [if_neg q1]
  by_cases q2 : b < 0 ∨ d < 0 ∨ e < 0 ∨ f < 0
  · rw [if_pos q2]
    exact sg_oo_no h (by decide)
  rw [if_neg q2]
  by_cases q3 : 99 < b ∨ 99 < d ∨ 9999 < e ∨ 99 < f ∨ 6 ≤ S 0 3
  · rw [if_pos q3]
    exact sg_oo_no h (by decide)
  rw [if_neg q3]
  obtain ⟨⟨w1, w2, w3, w4, w5, w6, w7⟩, h2, h3, h4, ⟨b1, b2, b3, b4, b5, b6, b7, b8⟩, h6, h7, h8, h9, h10⟩ := hw
  refine sg_oo_w h ⟨⟨w1, w2, w3, ?_, w5, w6, w7⟩, h2, h3, h4, ⟨sg_B_up (S := S) b1 (by omega), sg_B_up (S := S) b2 (by omega), sg_B_up (S := S) b3 (by omega), sg_B_up (S := S) b4 (by omega), sg_B_up (S := S) b5 (by omega), b6, b7, b8⟩, h6, h7, h8, fun u hu hk => ?_, fun u hu1 hu2 => ?_⟩ (fun a i ha => by dsimp only; rw [mv_up_c (by omega), mv_up_c (by omega), mv_up_c (by omega), mv_up_c (by omega), mv_up_c (by omega), mv_up_c (by omega)])
  · dsimp only
    rw [mv_up_s]
    omega
  · have hk : mv_up S 8 (S 0 3).toNat a 8 u ≠ 3 := hk
    show S 15 u = 0
    by_cases z : u = (S 0 3).toNat
    · exact (h10 u (by omega) hu).2
    · rw [mv_up_j z] at hk
      exact h9 u hu hk
  · have hu1 : S 0 3 + 1 ≤ (u : Int) := hu1
    exact h10 u (by omega) hu2
theorem so_year (h : sg_oo c S) {a v : Int} : sg_oo (c + 1) (sa_year S a v).2 := by
  have hw := h.1
  unfold sa_year
  by_cases q1 : ¬ (0 ≤ a ∧ a < S 0 3)
  · rw [if_pos q1]
    exact sg_oo_no h (by decide)
  rw [if_neg q1]
  by_cases q2 : S 8 a.toNat ≠ 3
  · rw [if_pos q2]
    exact sg_oo_no h (by decide)
  rw [if_neg q2]
  by_cases q3 : v < -99
  · rw [if_pos q3]
    exact sg_oo_no h (by decide)
  rw [if_neg q3]
  by_cases q4 : 99 < v ∨ 6 ≤ S 15 a.toNat
  · rw [if_pos q4]
    exact sg_oo_no h (by decide)
  rw [if_neg q4]
  have hu := sg_nu hw
  obtain ⟨h1, h2, h3, h4, ⟨b1, b2, b3, b4, b5, b6, b7, b8⟩, h6, h7, h8, h9, h10⟩ := hw
  have hb := b8 a.toNat (by omega)
  refine sg_oo_w h ⟨h1, h2, h3, h4, ⟨b1, b2, b3, b4, b5, b6, sg_B_up (S := S) b7 (by omega), sg_B_up (S := S) b8 (by omega)⟩, h6, h7, h8, fun u hu hk => ?_, fun u hu1 hu2 => ?_⟩ (fun a i ha => (mv_up_c (by omega)).trans (mv_up_c (by omega)))
  · have hk : S 8 u ≠ 3 := hk
    dsimp only
    have e : u ≠ a.toNat := fun z => q2 (by rw [← z]; exact hk)
    rw [mv_up_j e, mv_up_c (by decide)]
    exact h9 u hu hk
  · have hu1 : S 0 3 ≤ (u : Int) := hu1
    dsimp only
    rw [mv_up_j (show u ≠ a.toNat by omega), mv_up_c (by decide), mv_up_c (by decide), mv_up_c (by decide)]
    exact h10 u hu1 hu2
theorem so_price (h : sg_oo c S) {a b v : Int} : sg_oo (c + 1) (sa_price S a b v).2 := by
  unfold sa_price sg_ip
  split
  · exact sg_oo_no h (by decide)
  · by_cases q2 : sg_un v 0 999 ≠ 0
    · rw [if_pos q2]
      exact sg_oo_no h (sg_un_r q2)
    · rw [if_neg q2]
      exact sg_oo_w h (sg_wf_16 h.1 (sg_un_0 (Classical.byContradiction q2))) (fun a i ha => mv_up_c (by omega))
theorem so_tax (h : sg_oo c S) {a v : Int} : sg_oo (c + 1) (sa_tax S a v).2 := by
  unfold sa_tax
  by_cases q : a = -1
  · rw [if_pos q]
    by_cases q2 : sg_un v 0 100 ≠ 0
    · rw [if_pos q2]
      exact sg_oo_no h (sg_un_r q2)
    · rw [if_neg q2]
      have hv := sg_un_0 (Classical.byContradiction q2)
      obtain ⟨⟨w1, w2, w3, w4, w5, w6, w7⟩, hr⟩ := h.1
      exact sg_oo_w h ⟨⟨w1, w2, w3, w4, by dsimp only; rw [mv_up_s]; exact hv, w6, w7⟩, hr⟩ (fun a i ha => mv_up_c (by omega))
  · rw [if_neg q]
    by_cases q1 : ¬ (0 ≤ a ∧ a < S 0 3)
    · rw [if_pos q1]
      exact sg_oo_no h (by decide)
    rw [if_neg q1]
    by_cases q2 : sg_un v 0 9999 ≠ 0
    · rw [if_pos q2]
      exact sg_oo_no h (sg_un_r q2)
    · rw [if_neg q2]
      exact sg_oo_w h (sg_wf_13 h.1 (by omega) (sg_un_0 (Classical.byContradiction q2))) (fun a i ha => mv_up_c (by omega))
theorem so_piece (h : sg_oo c S) {a b d e : Int} : sg_oo (c + 1) (sa_piece S a b d e).2 := by
  have hw := h.1
  have hu := sg_nu hw
  have hm3 := hw.1.2.2.1
  unfold sa_piece sg_ip
  split
  · exact sg_oo_no h (by decide)
  · rename_i q
    by_cases q1 : d < 0 ∨ e < 0
    · rw [if_pos q1]
      exact sg_oo_no h (by decide)
    rw [if_neg q1]
    by_cases q2 : 9999 < d ∨ 999 < e ∨ 6 ≤ S 19 (sg_of a b)
    · rw [if_pos q2]
      exact sg_oo_no h (by decide)
    rw [if_neg q2]
    have nn : sg_nu2 S a b := Classical.byContradiction q
    have ho : sg_of a b < 18 := by
      unfold sg_nu2 at nn
      unfold sg_of
      omega
    obtain ⟨h1, h2, h3, h4, h5, ⟨b1, b2, b3, b4⟩, hr⟩ := hw
    have hb := b4 (sg_of a b) ho
    exact sg_oo_w h ⟨h1, h2, h3, h4, h5, ⟨b1, sg_B_up (S := S) b2 (by omega), sg_B_up (S := S) b3 (by omega), sg_B_up (S := S) b4 (by omega)⟩, hr⟩ (fun a i ha => by dsimp only; rw [mv_up_c (by omega), mv_up_c (by omega), mv_up_c (by omega)])
theorem sg_rn_wf : ∀ (n : Nat) (S : mv_Mem), sg_wf S → sg_wf (sg_rn S n).1
  | 0, S, hw => hw
  | n + 1, S, hw => by
    unfold sg_rn
    split
    · exact sg_rd_wf hw
    · exact sg_rn_wf n _ (sg_rd_wf hw)
theorem so_rounds (h : sg_oo c S) {a : Int} : sg_oo (c + 1) (sa_rounds S a).2 := by
  unfold sa_rounds
  by_cases q2 : sg_un a 1 20 ≠ 0
  · rw [if_pos q2]
    exact sg_oo_no h (sg_un_r q2)
  · rw [if_neg q2]
    exact sg_oo_w h (sg_rn_wf _ S h.1) (fun b i hb => sg_rn_pq a.toNat S b i (by omega))
theorem so_own (h : sg_oo c S) {a b : Int} : sg_oo (c + 1) (sa_own S a b).2 := by
  unfold sa_own
  by_cases q1 : sg_ac S a < 0
  · rw [if_pos q1]
    exact sg_oo_no h (by decide)
  rw [if_neg q1]
  by_cases q2 : sg_un b (-1) 3 ≠ 0
  · rw [if_pos q2]
    exact sg_oo_no h (sg_un_r q2)
  rw [if_neg q2]
  split
  · exact sg_oo_s h
  · obtain ⟨h1, ⟨a1, a2, a3, a4, a5, a6⟩, h3⟩ := h.1
    have hv := sg_un_0 (Classical.byContradiction q2)
    exact sg_oo_w h ⟨h1, ⟨a1, a2, sg_B_up a3 hv, a4, a5, a6⟩, h3⟩ (fun a i ha => mv_up_c (by omega))
theorem so_held (h : sg_oo c S) {a b : Int} : sg_oo (c + 1) (sa_held S a b).2 := by
  unfold sa_held
  by_cases q1 : sg_ac S a < 0
  · rw [if_pos q1]
    exact sg_oo_no h (by decide)
  rw [if_neg q1]
  by_cases q2 : S 4 (sg_ac S a).toNat = (if b = 0 then 0 else 1)
  · rw [if_pos q2]
    exact sg_oo_s h
  · rw [if_neg q2]
    exact sg_oo_w h (sg_wf_4 h.1 (by split <;> omega)) (fun a i ha => mv_up_c (by omega))
theorem so_image (h : sg_oo c S) : sg_oo (c + 1) (sa_image S).2 := by
  unfold sa_image
  obtain ⟨h1, h2, h3, h4, h5, h6, h7⟩ := sg_oo_s h
  have hsw : sg_sw S (fun a i => if a = 35 ∧ i = 0 then 1 else if 40 ≤ a ∧ a ≤ 63 then S (a - 40) i else S a i) := fun a i ha => by
    show (if a = 35 ∧ i = 0 then (1 : Int) else if 40 ≤ a ∧ a ≤ 63 then S (a - 40) i else S a i) = S a i
    rw [if_neg (by omega), if_neg (by omega)]
  have hkp : sg_sw S (sg_kp (fun a i => if a = 35 ∧ i = 0 then 1 else if 40 ≤ a ∧ a ≤ 63 then S (a - 40) i else S a i)) := fun a i ha => by
    show (if 40 + a = 35 ∧ i = 0 then (1 : Int) else if 40 ≤ 40 + a ∧ 40 + a ≤ 63 then S (40 + a - 40) i else S (40 + a) i) = S a i
    rw [if_neg (by omega), if_pos (by omega), show 40 + a - 40 = a by omega]
  exact ⟨sg_sw_wf hsw h1, h2, h3, h4, h5, Or.inr rfl, fun _ => sg_sw_wf hkp h1⟩
theorem so_on (h : sg_oo c S) : sg_oo (c + 1) (sa_on S).2 := by
  unfold sa_on
  by_cases q : S 35 0 = 0
  · rw [if_pos q]
    exact sg_oo_no h (by decide)
  · rw [if_neg q]
    obtain ⟨h1, h2, h3, h4, h5, h6, h7⟩ := sg_oo_s h
    have hsw : sg_sw (sg_kp S) (fun a i => if a ≤ 23 then S (40 + a) i else S a i) := fun a i ha => by
      show (if a ≤ 23 then S (40 + a) i else S a i) = S (40 + a) i
      rw [if_pos ha]
    have w := h7 (by omega)
    exact sg_oo_w h (sg_sw_wf hsw w) (fun a i ha => if_neg (by omega))
end SO
end
section
/-! THE CLASS'S CELLS AND SOME ROWS OF THE LAW BEHIND THEM -/
theorem sg_CC_fr {S M M' : mv_Mem} (h : sg_CC S M) (hm : ∀ a i, 1 ≤ a → a ≤ 87 → M' a i = M a i) : sg_CC S M' := by
  obtain ⟨h1, h2, h3, h4, h5, h6, h7, h8⟩ := h
  refine ⟨sg_K_fr h1 (fun a i ha => hm a i (by omega) (by omega)), ?_, fun i hi => ?_, ?_, fun i hi => ?_, fun i hi => ?_, ?_, fun z => sg_C_fr (h8 z) (fun c d1 d2 i => hm c i (by omega) (by omega))⟩
  · rw [hm 2 1 (by decide) (by decide)]; exact h2
  · rw [hm 3 i (by decide) (by decide)]; exact h3 i hi
  · rw [hm 4 1 (by decide) (by decide)]; exact h4
  · rw [hm 5 i (by decide) (by decide)]; exact h5 i hi
  · rw [hm 87 i (by decide) (by decide)]; exact h6 i hi
  · rw [hm 1 8 (by decide) (by decide)]; exact h7
/-- .. with e rows of 12 ints -/
def lh_t (e k : Nat) : Nat := if k ≤ 87 then mh_t k else if k ≤ e + 87 then 100 else 0
def lh_l (l e k : Nat) : Nat := if k ≤ 87 then mh_l l k else if k ≤ e + 87 then 12 else 0
def lh (l e : Nat) : mv_SH := (e + 87, 12 * e + 4749, lh_t e, lh_l l e, mh_r)
theorem mh_t_0 {k : Nat} (h : 87 < k) : mh_t k = 0 := by
  unfold mh_t
  have h2 : mh_tags.length = 88 := by decide +kernel
  rw [List.getD_eq_getElem?_getD, List.getElem?_eq_none (by omega)]
  rfl
theorem mh_l_0 {l k : Nat} (h : 87 < k) : mh_l l k = 0 := by
  unfold mh_l
  have h2 : mh_lens.length = 88 := by decide +kernel
  rw [if_neg (by omega), List.getD_eq_getElem?_getD, List.getElem?_eq_none (by omega)]
  rfl
theorem mh_r_le (k f : Nat) : mh_r k f ≤ 87 := by
  have h1 : mh_refs.all (fun r => r.all (fun x => Nat.ble x 87)) = true := by decide +kernel
  unfold mh_r
  rw [List.getD_eq_getElem?_getD (l := mh_refs.getD k []), List.getD_eq_getElem?_getD (l := mh_refs)]
  cases hr : mh_refs[k]? with
  | none => exact Nat.zero_le _
  | some r =>
    have h2 := List.all_eq_true.mp h1 r (List.mem_of_getElem? hr)
    show (r[f]?.getD 0) ≤ 87
    cases hx : r[f]? with
    | none => exact Nat.zero_le _
    | some x => exact Nat.le_of_ble_eq_true (List.all_eq_true.mp h2 x (List.mem_of_getElem? hx))
theorem lh_0 (l : Nat) : lh l 0 = mh l := by
  have e1 : lh_t 0 = mh_t := funext fun k => by
    unfold lh_t
    by_cases h : k ≤ 87
    · rw [if_pos h]
    · rw [if_neg h, if_neg (by omega), mh_t_0 (by omega)]
  have e2 : lh_l l 0 = mh_l l := funext fun k => by
    unfold lh_l
    by_cases h : k ≤ 87
    · rw [if_pos h]
    · rw [if_neg h, if_neg (by omega), mh_l_0 (by omega)]
  unfold lh mh
  rw [e1, e2]
theorem lh_nw (l e : Nat) : mv_nwA (lh l e) 100 12 = lh l (e + 1) := by
  have e1 : (fun k => if k = e + 87 + 1 then 100 else lh_t e k) = lh_t (e + 1) := funext fun k => by
    unfold lh_t
    by_cases h : k = e + 87 + 1
    · rw [if_pos h, if_neg (by omega), if_pos (by omega)]
    · rw [if_neg h]
      by_cases h2 : k ≤ 87
      · rw [if_pos h2, if_pos h2]
      · rw [if_neg h2, if_neg h2]
        by_cases h3 : k ≤ e + 87
        · rw [if_pos h3, if_pos (by omega)]
        · rw [if_neg h3, if_neg (by omega)]
  have e2 : (fun k => if k = e + 87 + 1 then 12 else lh_l l e k) = lh_l l (e + 1) := funext fun k => by
    unfold lh_l
    by_cases h : k = e + 87 + 1
    · rw [if_pos h, if_neg (by omega), if_pos (by omega)]
    · rw [if_neg h]
      by_cases h2 : k ≤ 87
      · rw [if_pos h2, if_pos h2]
      · rw [if_neg h2, if_neg h2]
        by_cases h3 : k ≤ e + 87
        · rw [if_pos h3, if_pos (by omega)]
        · rw [if_neg h3, if_neg (by omega)]
  show (e + 87 + 1, 12 * e + 4749 + 12, (fun k => if k = e + 87 + 1 then 100 else lh_t e k), (fun k => if k = e + 87 + 1 then 12 else lh_l l e k), mh_r) = _
  rw [e1, e2]
  unfold lh
  rw [show e + 87 + 1 = e + 1 + 87 by omega, show 12 * e + 4749 + 12 = 12 * (e + 1) + 4749 by omega]
def lh_io (e k : Nat) : Nat := if k ≤ 87 then k else k + e
def lh_ka (e k : Nat) : Nat := if k ≤ 87 then k else if k ≤ e + 87 then k else k - e
theorem lh_In (l e : Nat) : mv_In (lh_io e) (lh_ka e) (lh l e) (mh l) := by
  refine ⟨rfl, fun k => ?_, fun j => ?_, fun k hk => ?_, fun k hk => ?_, fun k hk => ?_, fun k f hk => ?_, fun k hk => ?_⟩
  · unfold lh_io lh_ka
    by_cases h : k ≤ 87
    · rw [if_pos h, if_pos h]
    · rw [if_neg h, if_neg (by omega), if_neg (by omega)]
      omega
  · show lh_io e (87 + 1 + j) = e + 87 + 1 + j
    unfold lh_io
    rw [if_neg (by omega)]
    omega
  · have hk : k ≤ 87 := hk
    show lh_io e k ≤ e + 87
    unfold lh_io
    rw [if_pos hk]
    omega
  · have hk : k ≤ 87 := hk
    show mh_t k = lh_t e (lh_io e k)
    unfold lh_io lh_t
    rw [if_pos hk, if_pos hk]
  · have hk : k ≤ 87 := hk
    show mh_l l k = lh_l l e (lh_io e k)
    unfold lh_io lh_l
    rw [if_pos hk, if_pos hk]
  · have hk : k ≤ 87 := hk
    show lh_io e (mh_r k f) = mh_r (lh_io e k) f
    unfold lh_io
    rw [if_pos hk, if_pos (mh_r_le k f)]
  · have hk : 87 < k := hk
    show mh_l l k ≤ 100000
    rw [mh_l_0 hk]
    omega
theorem lh_m1 {l : Nat} {e a : Nat} (h : a ≤ 87) : mv_im (lh_io e) (lh_ka e) (mh l) a ∧ lh_ka e a = a := by
  have e1 : lh_ka e a = a := by unfold lh_ka; rw [if_pos h]
  refine ⟨⟨?_, ?_⟩, e1⟩
  · rw [e1]; unfold lh_io; rw [if_pos h]
  · rw [e1]; exact h
theorem lh_m2 {l : Nat} {e a : Nat} (h : 88 ≤ a) : ¬ mv_im (lh_io e) (lh_ka e) (mh l) a := by
  intro ⟨h1, h2⟩
  have h2 : lh_ka e a ≤ 87 := h2
  unfold lh_io at h1
  rw [if_pos h2] at h1
  omega
theorem lh_M1 {l : Nat} {M Mm : mv_Mem} {e a : Nat} (h : a ≤ 87) (i : Nat) : mv_lM (lh_io e) (lh_ka e) (mh l) M Mm a i = Mm a i := by
  unfold mv_lM
  rw [if_pos (lh_m1 h).1, (lh_m1 (l := l) h).2]
theorem lh_M2 {l : Nat} {M Mm : mv_Mem} {e a : Nat} (h : 88 ≤ a) (i : Nat) : mv_lM (lh_io e) (lh_ka e) (mh l) M Mm a i = M a i := by
  unfold mv_lM
  rw [if_neg (lh_m2 h)]
theorem lh_S1 {l : Nat} {M : mv_Mem} {e a : Nat} (h : a ≤ 87) (i : Nat) : mv_mS (lh_io e) (mh l) M a i = M a i := by
  show (if a ≤ 87 then M (lh_io e a) i else 0) = M a i
  rw [if_pos h]
  unfold lh_io
  rw [if_pos h]
theorem lh_X {l : Nat} {M Mm : mv_Mem} {e : Nat} (h : sg_X (mv_mS (lh_io e) (mh l) M) Mm) : sg_X M (mv_lM (lh_io e) (lh_ka e) (mh l) M Mm) := by
  intro a i ha
  rcases ha with rfl | ha
  · rw [lh_M1 (by decide), h 0 i (Or.inl rfl), lh_S1 (by decide)]
  · exact lh_M2 ha i
section LX
variable {G : mv_G} {l e : Nat} {S S' M : mv_Mem} {x : Int} {F : Int → mv_Mem → Prop} {c : Nat} {as : List mv_V}
/-- a call of the class that answers an int, with rows behind the class's cells -/
theorem lx_i (hc : mt_mc (mv_r c) = 0) (has : as.map (mv_tr (lh_io e)) = as)
    (H : ∀ (G : mv_G) (M : mv_Mem) (F : Int → mv_Mem → Prop), sg_CC S M → (∀ M', sg_X M M' → sg_CC S' M' → F x M') → mv_Wp G c as (mh l) M (mv_qi (mh l) F))
    (h : sg_CC S M) (hF : ∀ M', sg_X M M' → sg_CC S' M' → F x M') : mv_Wp G c as (lh l e) M (mv_qi (lh l e) F) := by
  rw [← has]
  refine mv_frame_i (lh_In l e) (by rw [hc]; omega) (H _ _ _ (sg_CC_fr h (fun a i _ ha => lh_S1 ha i)) (fun Mm hx hq => hF _ (lh_X hx) (sg_CC_fr hq (fun a i _ ha => lh_M1 ha i))))
theorem lx_l (hc : mt_mc (mv_r c) = 0) (has : as.map (mv_tr (lh_io e)) = as)
    (H : ∀ (G : mv_G) (M : mv_Mem) (F : Int → mv_Mem → Prop), sg_CC S M → (∀ M', sg_X M M' → sg_CC S' M' → F x M') → mv_Wp G c as (mh l) M (mv_ql (mh l) F))
    (h : sg_CC S M) (hF : ∀ M', sg_X M M' → sg_CC S' M' → F x M') : mv_Wp G c as (lh l e) M (mv_ql (lh l e) F) := by
  rw [← has]
  refine mv_frame_l (lh_In l e) (by rw [hc]; omega) (H _ _ _ (sg_CC_fr h (fun a i _ ha => lh_S1 ha i)) (fun Mm hx hq => hF _ (lh_X hx) (sg_CC_fr hq (fun a i _ ha => lh_M1 ha i))))
/-! the law's three small methods, in any world -/
theorem ll_and (x : Int) : 0 ≤ mv_and x 2147483647 := by
  unfold mv_and
  have e : (Int32.ofInt x &&& Int32.ofInt 2147483647).toInt = ((Int32.ofInt x).toBitVec &&& (Int32.ofInt 2147483647).toBitVec).toInt := rfl
  rw [e, BitVec.toInt_eq_msb_cond, BitVec.msb_and, show (Int32.ofInt 2147483647).toBitVec.msb = false by decide, Bool.and_false, if_neg (by decide)]
  exact Int.natCast_nonneg _
theorem ll_if {sh : mv_SH} {P : Prop} (h : P) : if 150 ≤ 0 ∨ (sh.1 = sh.1 + 0 ∧ sh.2.1 = sh.2.1 + 0) then P else False := by
  rw [if_pos (Or.inr ⟨rfl, rfl⟩)]
  exact h
theorem ll_pick {sh : mv_SH} {v n : Int} (hn : 1 ≤ n ∧ n ≤ 2147483647) (h : ∀ x, 0 ≤ x → x < n → F x M) : mv_Wp G 228 [.inl v, .inl n] sh M (mv_qi sh F) := by
  refine mv_wp [] 20 ok_228 oc_228 rfl ?_
  show ¬ n = 0 ∧ (if 150 ≤ 0 ∨ (sh.1 = sh.1 + 0 ∧ sh.2.1 = sh.2.1 + 0) then mv_qi sh F (some (.inl (Int.tmod (mv_and v 2147483647) n))) sh M else False)
  refine ⟨by omega, ?_⟩
  have h0 := ll_and v
  exact ll_if (mv_qi_i (h _ (Int.tmod_nonneg _ h0) (Int.tmod_lt_of_pos _ (by omega))))
theorem ll_cellOf {sh : mv_SH} {k w : Int} (hk : 0 ≤ k ∧ k ≤ 100) (hw : 1 ≤ w ∧ w ≤ 8) (h : F (10 * (k % w) + k / w) M) : mv_Wp G 229 [.inl k, .inl w] sh M (mv_qi sh F) := by
  refine mv_wp [] 20 ok_229 oc_229 rfl ?_
  have e1 : Int.tmod k w = k % w := sg_tm hk.1
  have e2 : Int.tdiv k w = k / w := sg_td hk.1
  have b1 := Int.emod_nonneg k (show w ≠ 0 by omega)
  have b2 := Int.emod_lt_of_pos k (show 0 < w by omega)
  have b3 := Int.ediv_nonneg hk.1 (show 0 ≤ w by omega)
  have b4 : k / w ≤ k := Int.ediv_le_self _ hk.1
  show ¬ w = 0 ∧ mv_R32 (10 * Int.tmod k w) ∧ (¬ w = 0 ∧ mv_R32 (Int.tdiv k w)) ∧ mv_R32 (10 * Int.tmod k w + Int.tdiv k w) ∧ (if 150 ≤ 0 ∨ (sh.1 = sh.1 + 0 ∧ sh.2.1 = sh.2.1 + 0) then mv_qi sh F (some (.inl (10 * Int.tmod k w + Int.tdiv k w))) sh M else False)
  rw [e1, e2]
  refine ⟨by omega, by omega, ⟨by omega, by omega⟩, by omega, ?_⟩
  exact ll_if (mv_qi_i h)
theorem ll_cell {sh : mv_SH} {k : Int} (ht : sh.2.2.1 0 = 100) (hk : 0 ≤ k ∧ k ≤ 1000) (h : ∀ x, F x M) : mv_Wp G 227 [.inr (.inr 0), .inl k] sh M (mv_qi sh F) := by
  refine mv_wp [] 30 ok_227 oc_227 rfl ?_
  have d : ∀ x, (if 150 ≤ 0 ∨ (sh.1 = sh.1 + 0 ∧ sh.2.1 = sh.2.1 + 0) then mv_qi sh F (some (.inl x)) sh M else False) := fun x => by
    rw [if_pos (Or.inr ⟨rfl, rfl⟩)]
    exact mv_qi_i (h _)
  show (if 0 ≤ sh.1 ∧ sh.2.2.1 0 = 100 then (if (sh.2.2.2.1 0 : Int) ≤ k then mv_R32 (7919 * k) ∧ mv_R32 (7919 * k + 12) ∧ (if 150 ≤ 0 ∨ (sh.1 = sh.1 + 0 ∧ sh.2.1 = sh.2.1 + 0) then mv_qi sh F (some (.inl (7919 * k + 12))) sh M else False) else (if 0 ≤ sh.1 ∧ sh.2.2.1 0 = 100 then (0 ≤ k ∧ k < (sh.2.2.2.1 0 : Int)) ∧ (if 150 ≤ 0 ∨ (sh.1 = sh.1 + 0 ∧ sh.2.1 = sh.2.1 + 0) then mv_qi sh F (some (.inl (M 0 k.toNat))) sh M else False) else False)) else False)
  rw [if_pos ⟨Nat.zero_le _, ht⟩]
  by_cases hl : (sh.2.2.2.1 0 : Int) ≤ k
  · rw [if_pos hl]
    exact ⟨by omega, by omega, d _⟩
  · rw [if_neg hl, if_pos ⟨Nat.zero_le _, ht⟩]
    exact ⟨by omega, d _⟩
end LX
end
section
/-! WHAT IS TO BE SHOWN of the land (by program: wip/p40/landvc.py) -/
set_option maxRecDepth 100000 in
theorem vw_L_land {G : mv_G} {l : Nat} {post : Option mv_V → mv_SH → mv_Mem → Prop} {M : mv_Mem} (h : mv_Wp G 227 [.inr (.inr 0), .inl 0] (mh l) M (mv_qi (mh l) fun x1 M1 =>
  mv_Wp G 228 [.inl x1, .inl 3] (mh l) M1 (mv_qi (mh l) fun x2 M2 =>
  mv_R32 (2 + x2) ∧
  mv_Wp G 227 [.inr (.inr 0), .inl 0] (mh l) M2 (mv_qi (mh l) fun x3 M3 =>
  mv_Wp G 228 [.inl (mv_shr x3 2), .inl 3] (mh l) M3 (mv_qi (mh l) fun x4 M4 =>
  mv_R32 (1 + x4) ∧
  mv_Run G 230 87 4749 29 [(0, .inr (.inr 1)), (1, .inr (.inr 0)), (2, .inl (2 + x2)), (3, .inl (1 + x4)), (4, .inl 0)] [] (mh l) M4 post))))) :
    mv_Wp G 230 [.inr (.inr 1), .inr (.inr 0)] (mh l) M post := mv_wp [(29, [0, 1, 2, 3, 4]), (38, [0, 1, 2, 3, 4, 5]), (110, [0, 1, 2, 3, 4]), (204, [0, 1, 2, 3]), (236, [0, 1, 2]), (253, [0, 1, 2, 4, 5]), (352, [0, 1, 2, 4, 5]), (355, [0, 1, 2, 4, 5, 7]), (400, [0, 1, 2, 4, 5]), (439, [0, 1, 2, 4, 5]), (445, [0, 1, 2])] 291 ok_230 oc_230 rfl h
set_option maxRecDepth 100000 in
theorem vr_L_land_29 {G : mv_G} {l : Nat} {post : Option mv_V → mv_SH → mv_Mem → Prop} {M : mv_Mem} {v2 v3 v4 : Int} (h : (if v3 ≤ v4 then
    mv_Wp G 87 [.inr (.inr 1)] (mh l) M (mv_qi (mh l) fun x1 M1 =>
    mv_Run G 230 87 4749 110 [(0, .inr (.inr 1)), (1, .inr (.inr 0)), (2, .inl v2), (3, .inl v3), (4, .inl 0)] [] (mh l) M1 post)
  else
    mv_Run G 230 87 4749 38 [(0, .inr (.inr 1)), (1, .inr (.inr 0)), (2, .inl v2), (3, .inl v3), (4, .inl v4), (5, .inl 0)] [] (mh l) M post)) :
    mv_Run G 230 87 4749 29 [(0, .inr (.inr 1)), (1, .inr (.inr 0)), (2, .inl v2), (3, .inl v3), (4, .inl v4)] [] (mh l) M post := mv_run [(29, [0, 1, 2, 3, 4]), (38, [0, 1, 2, 3, 4, 5]), (110, [0, 1, 2, 3, 4]), (204, [0, 1, 2, 3]), (236, [0, 1, 2]), (253, [0, 1, 2, 4, 5]), (352, [0, 1, 2, 4, 5]), (355, [0, 1, 2, 4, 5, 7]), (400, [0, 1, 2, 4, 5]), (439, [0, 1, 2, 4, 5]), (445, [0, 1, 2])] 291 ok_230 h
set_option maxRecDepth 100000 in
theorem vr_L_land_38 {G : mv_G} {l : Nat} {post : Option mv_V → mv_SH → mv_Mem → Prop} {M : mv_Mem} {v2 v3 v4 v5 : Int} (h : (if v2 ≤ v5 then
    mv_R32 (v3 - 1) ∧
    (if (v3 - 1) ≤ v4 then
      mv_R32 (v4 + 1) ∧
      mv_Run G 230 87 4749 29 [(0, .inr (.inr 1)), (1, .inr (.inr 0)), (2, .inl v2), (3, .inl v3), (4, .inl (v4 + 1))] [] (mh l) M post
    else
      mv_Wp G 86 [.inr (.inr 1), .inl 1, .inr (.inl 47)] (mh l) M (mv_qi (mh l) fun x1 M1 =>
      mv_R32 (v4 + 1) ∧
      mv_Run G 230 87 4749 29 [(0, .inr (.inr 1)), (1, .inr (.inr 0)), (2, .inl v2), (3, .inl v3), (4, .inl (v4 + 1))] [] (mh l) M1 post))
  else
    mv_Wp G 227 [.inr (.inr 0), .inl 1] (mh l) M (mv_qi (mh l) fun x2 M2 =>
    mv_R32 (v2 * v4) ∧
    mv_R32 ((v2 * v4) + v5) ∧
    mv_R32 (2 * ((v2 * v4) + v5)) ∧
    mv_Wp G 228 [.inl (mv_shr x2 (2 * ((v2 * v4) + v5))), .inl 4] (mh l) M2 (mv_qi (mh l) fun x3 M3 =>
    mv_R32 (48 + x3) ∧
    mv_Wp G 86 [.inr (.inr 1), .inl 1, .inr (.inl (48 + x3))] (mh l) M3 (mv_qi (mh l) fun x4 M4 =>
    mv_R32 (v5 + 1) ∧
    mv_Run G 230 87 4749 38 [(0, .inr (.inr 1)), (1, .inr (.inr 0)), (2, .inl v2), (3, .inl v3), (4, .inl v4), (5, .inl (v5 + 1))] [] (mh l) M4 post))))) :
    mv_Run G 230 87 4749 38 [(0, .inr (.inr 1)), (1, .inr (.inr 0)), (2, .inl v2), (3, .inl v3), (4, .inl v4), (5, .inl v5)] [] (mh l) M post := mv_run [(29, [0, 1, 2, 3, 4]), (38, [0, 1, 2, 3, 4, 5]), (110, [0, 1, 2, 3, 4]), (204, [0, 1, 2, 3]), (236, [0, 1, 2]), (253, [0, 1, 2, 4, 5]), (352, [0, 1, 2, 4, 5]), (355, [0, 1, 2, 4, 5, 7]), (400, [0, 1, 2, 4, 5]), (439, [0, 1, 2, 4, 5]), (445, [0, 1, 2])] 291 ok_230 h
set_option maxRecDepth 100000 in
theorem vr_L_land_110 {G : mv_G} {l : Nat} {post : Option mv_V → mv_SH → mv_Mem → Prop} {M : mv_Mem} {v2 v3 v4 : Int} (h : (if 3 ≤ v4 then
    mv_Run G 230 87 4749 204 [(0, .inr (.inr 1)), (1, .inr (.inr 0)), (2, .inl v2), (3, .inl v3)] [] (mh l) M post
  else
    mv_R32 (2 + v4) ∧
    mv_Wp G 227 [.inr (.inr 0), .inl (2 + v4)] (mh l) M (mv_qi (mh l) fun x1 M1 =>
    mv_R32 (v2 * v3) ∧
    mv_Wp G 228 [.inl x1, .inl (v2 * v3)] (mh l) M1 (mv_qi (mh l) fun x2 M2 =>
    mv_Wp G 229 [.inl x2, .inl v2] (mh l) M2 (mv_qi (mh l) fun x3 M3 =>
    mv_R32 (v2 * v3) ∧
    mv_Wp G 228 [.inl x1, .inl (v2 * v3)] (mh l) M3 (mv_qi (mh l) fun x4 M4 =>
    mv_R32 (x4 + 1) ∧
    mv_Wp G 229 [.inl (x4 + 1), .inl v2] (mh l) M4 (mv_qi (mh l) fun x5 M5 =>
    mv_Wp G 228 [.inl (mv_shr x1 6), .inl 3] (mh l) M5 (mv_qi (mh l) fun x6 M6 =>
    mv_R32 (1 + x6) ∧
    mv_Wp G 89 [.inr (.inr 1), .inl x3, .inl x5, .inl (1 + x6)] (mh l) M6 (mv_qi (mh l) fun x7 M7 =>
    mv_R32 (v2 * v3) ∧
    mv_Wp G 228 [.inl (mv_shr x1 9), .inl (v2 * v3)] (mh l) M7 (mv_qi (mh l) fun x8 M8 =>
    mv_Wp G 229 [.inl x8, .inl v2] (mh l) M8 (mv_qi (mh l) fun x9 M9 =>
    mv_Wp G 228 [.inl (mv_shr x1 14), .inl 20] (mh l) M9 (mv_qi (mh l) fun x10 M10 =>
    mv_Wp G 91 [.inr (.inr 1), .inl x9, .inl x10] (mh l) M10 (mv_qi (mh l) fun x11 M11 =>
    mv_R32 (v4 + 1) ∧
    mv_Run G 230 87 4749 110 [(0, .inr (.inr 1)), (1, .inr (.inr 0)), (2, .inl v2), (3, .inl v3), (4, .inl (v4 + 1))] [] (mh l) M11 post))))))))))))) :
    mv_Run G 230 87 4749 110 [(0, .inr (.inr 1)), (1, .inr (.inr 0)), (2, .inl v2), (3, .inl v3), (4, .inl v4)] [] (mh l) M post := mv_run [(29, [0, 1, 2, 3, 4]), (38, [0, 1, 2, 3, 4, 5]), (110, [0, 1, 2, 3, 4]), (204, [0, 1, 2, 3]), (236, [0, 1, 2]), (253, [0, 1, 2, 4, 5]), (352, [0, 1, 2, 4, 5]), (355, [0, 1, 2, 4, 5, 7]), (400, [0, 1, 2, 4, 5]), (439, [0, 1, 2, 4, 5]), (445, [0, 1, 2])] 291 ok_230 h
set_option maxRecDepth 100000 in
theorem vr_L_land_204 {G : mv_G} {l : Nat} {post : Option mv_V → mv_SH → mv_Mem → Prop} {M : mv_Mem} {v2 v3 : Int} (h : mv_Wp G 93 [.inr (.inr 1), .inl 0] (mh l) M (mv_qi (mh l) fun x1 M1 =>
  mv_Wp G 227 [.inr (.inr 0), .inl 5] (mh l) M1 (mv_qi (mh l) fun x2 M2 =>
  mv_Wp G 228 [.inl x2, .inl 2] (mh l) M2 (mv_qi (mh l) fun x3 M3 =>
  (if x3 = 0 then
    mv_R32 (v2 * v3) ∧
    mv_R32 ((v2 * v3) - 1) ∧
    mv_Wp G 229 [.inl ((v2 * v3) - 1), .inl v2] (mh l) M3 (mv_qi (mh l) fun x4 M4 =>
    mv_Wp G 93 [.inr (.inr 1), .inl x4] (mh l) M4 (mv_qi (mh l) fun x5 M5 =>
    mv_Run G 230 87 4749 236 [(0, .inr (.inr 1)), (1, .inr (.inr 0)), (2, .inl v2)] [] (mh l) M5 post))
  else
    mv_Run G 230 87 4749 236 [(0, .inr (.inr 1)), (1, .inr (.inr 0)), (2, .inl v2)] [] (mh l) M3 post))))) :
    mv_Run G 230 87 4749 204 [(0, .inr (.inr 1)), (1, .inr (.inr 0)), (2, .inl v2), (3, .inl v3)] [] (mh l) M post := mv_run [(29, [0, 1, 2, 3, 4]), (38, [0, 1, 2, 3, 4, 5]), (110, [0, 1, 2, 3, 4]), (204, [0, 1, 2, 3]), (236, [0, 1, 2]), (253, [0, 1, 2, 4, 5]), (352, [0, 1, 2, 4, 5]), (355, [0, 1, 2, 4, 5, 7]), (400, [0, 1, 2, 4, 5]), (439, [0, 1, 2, 4, 5]), (445, [0, 1, 2])] 291 ok_230 h
set_option maxRecDepth 100000 in
theorem vr_L_land_236 {G : mv_G} {l : Nat} {post : Option mv_V → mv_SH → mv_Mem → Prop} {M : mv_Mem} {v2 : Int} (h : mv_Wp G 227 [.inr (.inr 0), .inl 6] (mh l) M (mv_qi (mh l) fun x1 M1 =>
  mv_Wp G 228 [.inl x1, .inl 3] (mh l) M1 (mv_qi (mh l) fun x2 M2 =>
  mv_R32 (1 + x2) ∧
  mv_Run G 230 87 4749 253 [(0, .inr (.inr 1)), (1, .inr (.inr 0)), (2, .inl v2), (4, .inl (1 + x2)), (5, .inl 0)] [] (mh l) M2 post))) :
    mv_Run G 230 87 4749 236 [(0, .inr (.inr 1)), (1, .inr (.inr 0)), (2, .inl v2)] [] (mh l) M post := mv_run [(29, [0, 1, 2, 3, 4]), (38, [0, 1, 2, 3, 4, 5]), (110, [0, 1, 2, 3, 4]), (204, [0, 1, 2, 3]), (236, [0, 1, 2]), (253, [0, 1, 2, 4, 5]), (352, [0, 1, 2, 4, 5]), (355, [0, 1, 2, 4, 5, 7]), (400, [0, 1, 2, 4, 5]), (439, [0, 1, 2, 4, 5]), (445, [0, 1, 2])] 291 ok_230 h
set_option maxRecDepth 100000 in
theorem vr_L_land_253 {G : mv_G} {l : Nat} {post : Option mv_V → mv_SH → mv_Mem → Prop} {M : mv_Mem} {v2 v4 v5 : Int} (h : (if v4 ≤ v5 then
    mv_Run G 230 87 4749 445 [(0, .inr (.inr 1)), (1, .inr (.inr 0)), (2, .inl v2)] [] (mh l) M post
  else
    mv_R32 (7 + v5) ∧
    mv_Wp G 227 [.inr (.inr 0), .inl (7 + v5)] (mh l) M (mv_qi (mh l) fun x1 M1 =>
    mv_Wp G 228 [.inl x1, .inl 6] (mh l) M1 (mv_qi (mh l) fun x2 M2 =>
    mv_Wp G 228 [.inl (mv_shr x1 3), .inl 12] (mh l) M2 (mv_qi (mh l) fun x3 M3 =>
    mv_Wp G 228 [.inl (mv_shr x1 7), .inl 4] (mh l) M3 (mv_qi (mh l) fun x4 M4 =>
    mv_Wp G 228 [.inl (mv_shr x1 9), .inl 120] (mh l) M4 (mv_qi (mh l) fun x5 M5 =>
    mv_Wp G 228 [.inl (mv_shr x1 16), .inl 9] (mh l) M5 (mv_qi (mh l) fun x6 M6 =>
    mv_Wp G 94 [.inr (.inr 1), .inl x2, .inl x3, .inl x4, .inl x5, .inl x6] (mh l) M6 (mv_qi (mh l) fun x7 M7 =>
    mv_Wp G 228 [.inl x1, .inl 6] (mh l) M7 (mv_qi (mh l) fun x8 M8 =>
    (if x8 = 3 then
      mv_Wp G 228 [.inl (mv_shr x1 20), .inl 40] (mh l) M8 (mv_qi (mh l) fun x9 M9 =>
      mv_R32 (x9 - 20) ∧
      mv_Wp G 95 [.inr (.inr 1), .inl v5, .inl (x9 - 20)] (mh l) M9 (mv_qi (mh l) fun x10 M10 =>
      mv_Run G 230 87 4749 352 [(0, .inr (.inr 1)), (1, .inr (.inr 0)), (2, .inl v2), (4, .inl v4), (5, .inl v5)] [] (mh l) M10 post))
    else
      mv_Run G 230 87 4749 352 [(0, .inr (.inr 1)), (1, .inr (.inr 0)), (2, .inl v2), (4, .inl v4), (5, .inl v5)] [] (mh l) M8 post))))))))))) :
    mv_Run G 230 87 4749 253 [(0, .inr (.inr 1)), (1, .inr (.inr 0)), (2, .inl v2), (4, .inl v4), (5, .inl v5)] [] (mh l) M post := mv_run [(29, [0, 1, 2, 3, 4]), (38, [0, 1, 2, 3, 4, 5]), (110, [0, 1, 2, 3, 4]), (204, [0, 1, 2, 3]), (236, [0, 1, 2]), (253, [0, 1, 2, 4, 5]), (352, [0, 1, 2, 4, 5]), (355, [0, 1, 2, 4, 5, 7]), (400, [0, 1, 2, 4, 5]), (439, [0, 1, 2, 4, 5]), (445, [0, 1, 2])] 291 ok_230 h
set_option maxRecDepth 100000 in
theorem vr_L_land_352 {G : mv_G} {l : Nat} {post : Option mv_V → mv_SH → mv_Mem → Prop} {M : mv_Mem} {v2 v4 v5 : Int} (h : mv_Run G 230 87 4749 355 [(0, .inr (.inr 1)), (1, .inr (.inr 0)), (2, .inl v2), (4, .inl v4), (5, .inl v5), (7, .inl 0)] [] (mh l) M post) :
    mv_Run G 230 87 4749 352 [(0, .inr (.inr 1)), (1, .inr (.inr 0)), (2, .inl v2), (4, .inl v4), (5, .inl v5)] [] (mh l) M post := mv_run [(29, [0, 1, 2, 3, 4]), (38, [0, 1, 2, 3, 4, 5]), (110, [0, 1, 2, 3, 4]), (204, [0, 1, 2, 3]), (236, [0, 1, 2]), (253, [0, 1, 2, 4, 5]), (352, [0, 1, 2, 4, 5]), (355, [0, 1, 2, 4, 5, 7]), (400, [0, 1, 2, 4, 5]), (439, [0, 1, 2, 4, 5]), (445, [0, 1, 2])] 291 ok_230 h
set_option maxRecDepth 100000 in
theorem vr_L_land_355 {G : mv_G} {l : Nat} {post : Option mv_V → mv_SH → mv_Mem → Prop} {M : mv_Mem} {v2 v4 v5 v7 : Int} (h : mv_Wp G 125 [.inr (.inr 1), .inl 2] (mh l) M (mv_qi (mh l) fun x1 M1 =>
  (if x1 ≤ v7 then
    mv_Run G 230 87 4749 400 [(0, .inr (.inr 1)), (1, .inr (.inr 0)), (2, .inl v2), (4, .inl v4), (5, .inl v5)] [] (mh l) M1 post
  else
    mv_R32 (10 + v5) ∧
    mv_Wp G 227 [.inr (.inr 0), .inl (10 + v5)] (mh l) M1 (mv_qi (mh l) fun x2 M2 =>
    mv_R32 (8 * v7) ∧
    mv_Wp G 228 [.inl (mv_shr x2 (8 * v7)), .inl 40] (mh l) M2 (mv_qi (mh l) fun x3 M3 =>
    mv_Wp G 96 [.inr (.inr 1), .inl v5, .inl v7, .inl x3] (mh l) M3 (mv_qi (mh l) fun x4 M4 =>
    mv_R32 (v7 + 1) ∧
    mv_Run G 230 87 4749 355 [(0, .inr (.inr 1)), (1, .inr (.inr 0)), (2, .inl v2), (4, .inl v4), (5, .inl v5), (7, .inl (v7 + 1))] [] (mh l) M4 post)))))) :
    mv_Run G 230 87 4749 355 [(0, .inr (.inr 1)), (1, .inr (.inr 0)), (2, .inl v2), (4, .inl v4), (5, .inl v5), (7, .inl v7)] [] (mh l) M post := mv_run [(29, [0, 1, 2, 3, 4]), (38, [0, 1, 2, 3, 4, 5]), (110, [0, 1, 2, 3, 4]), (204, [0, 1, 2, 3]), (236, [0, 1, 2]), (253, [0, 1, 2, 4, 5]), (352, [0, 1, 2, 4, 5]), (355, [0, 1, 2, 4, 5, 7]), (400, [0, 1, 2, 4, 5]), (439, [0, 1, 2, 4, 5]), (445, [0, 1, 2])] 291 ok_230 h
set_option maxRecDepth 100000 in
theorem vr_L_land_400 {G : mv_G} {l : Nat} {post : Option mv_V → mv_SH → mv_Mem → Prop} {M : mv_Mem} {v2 v4 v5 : Int} (h : mv_Wp G 227 [.inr (.inr 0), .inl 13] (mh l) M (mv_qi (mh l) fun x1 M1 =>
  mv_Wp G 228 [.inl x1, .inl 3] (mh l) M1 (mv_qi (mh l) fun x2 M2 =>
  (if x2 = 0 then
    mv_Wp G 227 [.inr (.inr 0), .inl 13] (mh l) M2 (mv_qi (mh l) fun x3 M3 =>
    mv_R32 (6 * v5) ∧
    mv_R32 (2 + (6 * v5)) ∧
    mv_Wp G 228 [.inl (mv_shr x3 (2 + (6 * v5))), .inl 40] (mh l) M3 (mv_qi (mh l) fun x4 M4 =>
    mv_Wp G 97 [.inr (.inr 1), .inl v5, .inl x4] (mh l) M4 (mv_qi (mh l) fun x5 M5 =>
    mv_Run G 230 87 4749 439 [(0, .inr (.inr 1)), (1, .inr (.inr 0)), (2, .inl v2), (4, .inl v4), (5, .inl v5)] [] (mh l) M5 post)))
  else
    mv_Run G 230 87 4749 439 [(0, .inr (.inr 1)), (1, .inr (.inr 0)), (2, .inl v2), (4, .inl v4), (5, .inl v5)] [] (mh l) M2 post)))) :
    mv_Run G 230 87 4749 400 [(0, .inr (.inr 1)), (1, .inr (.inr 0)), (2, .inl v2), (4, .inl v4), (5, .inl v5)] [] (mh l) M post := mv_run [(29, [0, 1, 2, 3, 4]), (38, [0, 1, 2, 3, 4, 5]), (110, [0, 1, 2, 3, 4]), (204, [0, 1, 2, 3]), (236, [0, 1, 2]), (253, [0, 1, 2, 4, 5]), (352, [0, 1, 2, 4, 5]), (355, [0, 1, 2, 4, 5, 7]), (400, [0, 1, 2, 4, 5]), (439, [0, 1, 2, 4, 5]), (445, [0, 1, 2])] 291 ok_230 h
set_option maxRecDepth 100000 in
theorem vr_L_land_439 {G : mv_G} {l : Nat} {post : Option mv_V → mv_SH → mv_Mem → Prop} {M : mv_Mem} {v2 v4 v5 : Int} (h : mv_R32 (v5 + 1) ∧
  mv_Run G 230 87 4749 253 [(0, .inr (.inr 1)), (1, .inr (.inr 0)), (2, .inl v2), (4, .inl v4), (5, .inl (v5 + 1))] [] (mh l) M post) :
    mv_Run G 230 87 4749 439 [(0, .inr (.inr 1)), (1, .inr (.inr 0)), (2, .inl v2), (4, .inl v4), (5, .inl v5)] [] (mh l) M post := mv_run [(29, [0, 1, 2, 3, 4]), (38, [0, 1, 2, 3, 4, 5]), (110, [0, 1, 2, 3, 4]), (204, [0, 1, 2, 3]), (236, [0, 1, 2]), (253, [0, 1, 2, 4, 5]), (352, [0, 1, 2, 4, 5]), (355, [0, 1, 2, 4, 5, 7]), (400, [0, 1, 2, 4, 5]), (439, [0, 1, 2, 4, 5]), (445, [0, 1, 2])] 291 ok_230 h
set_option maxRecDepth 100000 in
theorem vr_L_land_445 {G : mv_G} {l : Nat} {post : Option mv_V → mv_SH → mv_Mem → Prop} {M : mv_Mem} {v2 : Int} (h : mv_Wp G 227 [.inr (.inr 0), .inl 14] (mh l) M (mv_qi (mh l) fun x1 M1 =>
  mv_Wp G 228 [.inl x1, .inl 3] (mh l) M1 (mv_qi (mh l) fun x2 M2 =>
  (if x2 = 0 then
    mv_Wp G 227 [.inr (.inr 0), .inl 14] (mh l) M2 (mv_qi (mh l) fun x4 M4 =>
    mv_Wp G 228 [.inl (mv_shr x4 2), .inl 60] (mh l) M4 (mv_qi (mh l) fun x5 M5 =>
    mv_Wp G 97 [.inr (.inr 1), .inl (-1), .inl x5] (mh l) M5 (mv_qi (mh l) fun x6 M6 =>
    post (some (.inl v2)) (mh l) M6)))
  else
    mv_Wp G 97 [.inr (.inr 1), .inl (-1), .inl 0] (mh l) M2 (mv_qi (mh l) fun x3 M3 =>
    post (some (.inl v2)) (mh l) M3))))) :
    mv_Run G 230 87 4749 445 [(0, .inr (.inr 1)), (1, .inr (.inr 0)), (2, .inl v2)] [] (mh l) M post := mv_run [(29, [0, 1, 2, 3, 4]), (38, [0, 1, 2, 3, 4, 5]), (110, [0, 1, 2, 3, 4]), (204, [0, 1, 2, 3]), (236, [0, 1, 2]), (253, [0, 1, 2, 4, 5]), (352, [0, 1, 2, 4, 5]), (355, [0, 1, 2, 4, 5, 7]), (400, [0, 1, 2, 4, 5]), (439, [0, 1, 2, 4, 5]), (445, [0, 1, 2])] 291 ok_230 h
end
section
/-! THE LAND THAT THE LAW LAYS: what each of its calls leaves as it was -/
theorem sg_oo_le {S : mv_Mem} {c c' : Nat} (h : sg_oo c S) (hc : c ≤ c') : sg_oo c' S := ⟨h.1, h.2.1, h.2.2.1, h.2.2.2.1, fun i hi => by have := h.2.2.2.2.1 i hi; omega, h.2.2.2.2.2⟩
/-- wide and high, the owners, what is held are as they were -/
def lr (S S' : mv_Mem) : Prop := ∀ a i, (a = 0 ∧ i ≤ 1) ∨ a = 3 ∨ a = 4 → S' a i = S a i
section LR
variable {S S' : mv_Mem}
theorem lr_r : lr S S := fun _ _ _ => rfl
theorem lr_up {a j : Nat} {v : Int} (h : lr S S') (hj : ¬ ((a = 0 ∧ j ≤ 1) ∨ a = 3 ∨ a = 4)) : lr S (mv_up S' a j v) := fun b i hb => (mv_up_n (fun z => by omega)).trans (h b i hb)
theorem lr_no {r : Int} : lr S (sg_no S r) := lr_up lr_r (by omega)
theorem lr_t {P : Prop} [Decidable P] {A B : Int × mv_Mem} (h1 : P → lr S A.2) (h2 : ¬ P → lr S B.2) : lr S (if P then A else B).2 := by
  by_cases h : P
  · rw [if_pos h]; exact h1 h
  · rw [if_neg h]; exact h2 h
theorem lr_ip {P : Prop} {A B : Int × mv_Mem} (h1 : P → lr S A.2) (h2 : ¬ P → lr S B.2) : lr S (sg_ip P A B).2 := by
  by_cases h : P
  · rw [sg_ip_y h]; exact h1 h
  · rw [sg_ip_n h]; exact h2 h
theorem lr_toll {a b : Int} : lr S (sa_toll S a b).2 := by
  unfold sa_toll
  exact lr_t (fun _ => lr_no) (fun _ => lr_t (fun _ => lr_no) (fun _ => lr_up lr_r (by omega)))
theorem lr_road {a b e : Int} : lr S (sa_road S a b e).2 := by
  unfold sa_road sg_lay
  exact lr_t (fun _ => lr_no) (fun _ => lr_t (fun _ => lr_no) (fun _ => lr_t (fun _ => lr_no) (fun _ => lr_up (lr_up (lr_up lr_r (by omega)) (by omega)) (by omega))))
theorem lr_market {a : Int} : lr S (sa_market S a).2 := by
  unfold sa_market
  exact lr_t (fun _ => lr_no) (fun _ => lr_t (fun _ => lr_no) (fun _ => lr_t (fun _ => lr_no) (fun _ => lr_up (lr_up lr_r (by omega)) (by omega))))
theorem lr_use {a b d e f : Int} : lr S (sa_use S a b d e f).2 := by
  unfold sa_use
  exact lr_t (fun _ => lr_no) (fun _ => lr_t (fun _ => lr_no) (fun _ => lr_t (fun _ => lr_no) (fun _ => lr_up (lr_up (lr_up (lr_up (lr_up (lr_up lr_r (by omega)) (by omega)) (by omega)) (by omega)) (by omega)) (by omega))))
theorem lr_year {a v : Int} : lr S (sa_year S a v).2 := by
  unfold sa_year
  exact lr_t (fun _ => lr_no) (fun _ => lr_t (fun _ => lr_no) (fun _ => lr_t (fun _ => lr_no) (fun _ => lr_t (fun _ => lr_no) (fun _ => lr_up (lr_up lr_r (by omega)) (by omega)))))
theorem lr_price {a b v : Int} : lr S (sa_price S a b v).2 := by
  unfold sa_price
  exact lr_ip (fun _ => lr_no) (fun _ => lr_t (fun _ => lr_no) (fun _ => lr_up lr_r (by omega)))
theorem lr_tax {a v : Int} : lr S (sa_tax S a v).2 := by
  unfold sa_tax
  exact lr_t (fun _ => lr_t (fun _ => lr_no) (fun _ => lr_up lr_r (by omega))) (fun _ => lr_t (fun _ => lr_no) (fun _ => lr_t (fun _ => lr_no) (fun _ => lr_up lr_r (by omega))))
theorem lr_piece {a b d e : Int} : lr S (sa_piece S a b d e).2 := by
  unfold sa_piece
  exact lr_ip (fun _ => lr_no) (fun _ => lr_t (fun _ => lr_no) (fun _ => lr_t (fun _ => lr_no) (fun _ => lr_up (lr_up (lr_up lr_r (by omega)) (by omega)) (by omega))))
end LR
/-! the text of a land -/
def lt_P (W L : Nat) (S : mv_Mem) : Prop := S 30 0 = (L : Int) ∧ ∀ p, p < L → (p % (W + 1) = W → S 31 p = 47) ∧ (p % (W + 1) ≠ W → 48 ≤ S 31 p ∧ S 31 p ≤ 57)
theorem lt_feed {W L : Nat} {S : mv_Mem} {b : Int} (hL : L ≤ 50) (h : lt_P W L S) (h1 : L % (W + 1) = W → b = 47) (h2 : L % (W + 1) ≠ W → 48 ≤ b ∧ b ≤ 57) : lt_P W (L + 1) (sa_feed S 1 b).2 := by
  obtain ⟨h0, hp⟩ := h
  have hb : 47 ≤ b ∧ b ≤ 57 := by
    by_cases q : L % (W + 1) = W
    · have := h1 q; omega
    · have := h2 q; omega
  unfold sa_feed
  rw [if_neg (by decide), h0, if_neg (by omega)]
  refine ⟨?_, fun p hp2 => ?_⟩
  · show (L : Int) + 1 = ((L + 1 : Nat) : Int)
    omega
  · have e : (if 31 = 30 ∧ p = 0 then (L : Int) + 1 else if 31 = 31 ∧ (L : Int).toNat ≤ p ∧ p < (L : Int).toNat + (1 : Int).toNat then sg_by b (p - (L : Int).toNat) else S 31 p) = if p = L then b else S 31 p := by
      rw [if_neg (by omega)]
      by_cases q : p = L
      · rw [if_pos (by omega), if_pos q]
        unfold sg_by
        rw [show p - (L : Int).toNat = 0 by omega]
        show b / 1 % 256 = b
        omega
      · rw [if_neg (by omega), if_neg q]
    show (_ → (if 31 = 30 ∧ p = 0 then (L : Int) + 1 else if 31 = 31 ∧ (L : Int).toNat ≤ p ∧ p < (L : Int).toNat + (1 : Int).toNat then sg_by b (p - (L : Int).toNat) else S 31 p) = 47) ∧ (_ → 48 ≤ (if 31 = 30 ∧ p = 0 then (L : Int) + 1 else if 31 = 31 ∧ (L : Int).toNat ≤ p ∧ p < (L : Int).toNat + (1 : Int).toNat then sg_by b (p - (L : Int).toNat) else S 31 p) ∧ (if 31 = 30 ∧ p = 0 then (L : Int) + 1 else if 31 = 31 ∧ (L : Int).toNat ≤ p ∧ p < (L : Int).toNat + (1 : Int).toNat then sg_by b (p - (L : Int).toNat) else S 31 p) ≤ 57)
    rw [e]
    by_cases q : p = L
    · rw [if_pos q, q]
      exact ⟨h1, h2⟩
    · rw [if_neg q]
      exact hp p (by omega)
theorem lt_mod {W Y X : Nat} (hX : X ≤ W) : (Y * (W + 1) + X) % (W + 1) = X := by
  rw [Nat.add_comm, Nat.add_mul_mod_self_right, Nat.mod_eq_of_lt (by omega)]
theorem lt_prs_i {t : Nat → Int} {n W H : Nat} (hW : 1 ≤ W ∧ W ≤ 7) (hH : 1 ≤ H ∧ H ≤ 6) (hn : n + 1 = H * (W + 1)) (hp : ∀ p, p < n → (p % (W + 1) = W → t p = 47) ∧ (p % (W + 1) ≠ W → 48 ≤ t p ∧ t p ≤ 57)) :
    ∀ (f Y X : Nat), X ≤ W → Y < H → Y * (W + 1) + X + f = n → sg_pr t n f (Y * (W + 1) + X) (if Y = 0 then 8 else (W : Int)) (Y : Int) (X : Int) = (-1, (W : Int), (H : Int)) := by
  intro f
  induction f with
  | zero =>
    intro Y X hX hY hi
    have hY2 : Y + 1 = H := by
      have h1 : H * (W + 1) ≤ (Y + 1) * (W + 1) := by
        rw [Nat.succ_mul]
        omega
      have h2 := Nat.le_of_mul_le_mul_right h1 (by omega)
      omega
    have hX2 : X = W := by
      rw [← hY2, Nat.succ_mul] at hn
      omega
    unfold sg_pr
    have hw : ¬ ((X : Int) = 0 ∨ (0 < (Y : Int) ∧ (X : Int) < (if Y = 0 then 8 else (W : Int)))) := by
      by_cases y : Y = 0
      · rw [if_pos y]; omega
      · rw [if_neg y]; omega
    rw [if_neg hw]
    have e1 : (if (Y : Int) = 0 then (X : Int) else if Y = 0 then 8 else (W : Int)) = (W : Int) := by
      by_cases y : Y = 0
      · rw [if_pos (by omega), hX2]
      · rw [if_neg (by omega), if_neg y]
    rw [e1, show (Y : Int) + 1 = (H : Int) by omega]
  | succ f ih =>
    intro Y X hX hY hi
    have hm := lt_mod (Y := Y) hX
    have hpp := hp (Y * (W + 1) + X) (by omega)
    rw [hm] at hpp
    unfold sg_pr
    by_cases hXW : X = W
    · rw [if_pos (hpp.1 hXW)]
      have hY2 : Y + 1 < H := by
        have h1 : (Y + 1) * (W + 1) < H * (W + 1) := by
          rw [Nat.succ_mul]
          omega
        exact Nat.lt_of_mul_lt_mul_right h1
      have hw : ¬ ((X : Int) = 0 ∨ (0 < (Y : Int) ∧ (X : Int) < (if Y = 0 then 8 else (W : Int))) ∨ (Y : Int) + 1 = 6) := by
        by_cases y : Y = 0
        · rw [if_pos y]; omega
        · rw [if_neg y]; omega
      rw [if_neg hw]
      have e := ih (Y + 1) 0 (by omega) hY2 (by rw [Nat.succ_mul]; omega)
      rw [if_neg (by omega)] at e
      rw [show Y * (W + 1) + X + 1 = (Y + 1) * (W + 1) + 0 by rw [Nat.succ_mul]; omega, show (Y : Int) + 1 = ((Y + 1 : Nat) : Int) by omega, hXW]
      exact e
    · have h9 := hpp.2 hXW
      have hw : (X : Int) ≠ (if Y = 0 then 8 else (W : Int)) := by
        by_cases y : Y = 0
        · rw [if_pos y]; omega
        · rw [if_neg y]; omega
      rw [if_neg (by omega), if_pos ⟨h9, hw⟩]
      exact ih Y (X + 1) (by omega) hY (by omega)
theorem lt_prs {S : mv_Mem} {n W H : Nat} (hW : 1 ≤ W ∧ W ≤ 7) (hH : 1 ≤ H ∧ H ≤ 6) (hn : n + 1 = H * (W + 1)) (h : lt_P W n S) : sg_prs (S 31) (S 30 0).toNat = (-1, (W : Int), (H : Int)) := by
  have e := lt_prs_i hW hH hn h.2 n 0 0 (by omega) (by omega) (by omega)
  rw [h.1, Int.toNat_natCast]
  rw [Nat.zero_mul] at e
  exact e
/-! the state while the land is laid -/
def ll_Q (w h : Int) (c : Nat) (S : mv_Mem) : Prop := sg_oo c S ∧ S 0 0 = w ∧ S 0 1 = h ∧ (∀ k, S 3 k = -1) ∧ ∀ k, S 4 k = 0
def ll_I (w h : Int) (c : Nat) (M0 S M : mv_Mem) : Prop := ll_Q w h c S ∧ sg_CC S M ∧ sg_X M0 M
section LI
variable {w h : Int} {c : Nat} {M0 S M : mv_Mem} {G : mv_G} {l : Nat} {F : Int → mv_Mem → Prop}
theorem ll_Q_s {S' : mv_Mem} (hQ : ll_Q w h c S) (ho : sg_oo (c + 1) S') (hr : lr S S') : ll_Q w h (c + 1) S' := by
  obtain ⟨q1, q2, q3, q4, q5⟩ := hQ
  refine ⟨ho, ?_, ?_, fun k => ?_, fun k => ?_⟩
  · rw [hr 0 0 (by omega)]; exact q2
  · rw [hr 0 1 (by omega)]; exact q3
  · rw [hr 3 k (by omega)]; exact q4 k
  · rw [hr 4 k (by omega)]; exact q5 k
theorem ll_I_le {c' : Nat} (hI : ll_I w h c M0 S M) (hc : c ≤ c') : ll_I w h c' M0 S M := ⟨⟨sg_oo_le hI.1.1 hc, hI.1.2⟩, hI.2⟩
theorem ll_read {W H n : Nat} (hW : 1 ≤ W ∧ W ≤ 7) (hH : 1 ≤ H ∧ H ≤ 6) (hn : n + 1 = H * (W + 1)) (ho : sg_oo c S) (hp : lt_P W n S) : ll_Q (W : Int) (H : Int) (c + 1) (sa_read S).2 := by
  have hso := so_read ho
  unfold sa_read at hso ⊢
  rw [lt_prs hW hH hn hp] at hso ⊢
  rw [if_pos rfl] at hso ⊢
  exact ⟨hso, rfl, rfl, fun _ => rfl, fun _ => rfl⟩
theorem li_toll (hI : ll_I w h c M0 S M) (hc : c ≤ 100000) {a b : Int} (ha : mv_R32 a) (hF : ∀ x S' M', ll_I w h (c + 1) M0 S' M' → F x M') : mv_Wp G 91 [.inr (.inr 1), .inl a, .inl b] (mh l) M (mv_qi (mh l) F) :=
  ca_toll hI.1.1 hc hI.2.1 ha (fun M' hx hq => hF _ _ M' ⟨ll_Q_s hI.1 (so_toll hI.1.1) lr_toll, hq, sg_X_t hI.2.2 hx⟩)
theorem li_road (hI : ll_I w h c M0 S M) (hc : c ≤ 100000) {a b d : Int} (ha : mv_R32 a) (hb : mv_R32 b) (hd : 1 ≤ d) (hF : ∀ x S' M', ll_I w h (c + 1) M0 S' M' → F x M') : mv_Wp G 89 [.inr (.inr 1), .inl a, .inl b, .inl d] (mh l) M (mv_qi (mh l) F) :=
  ca_road hI.1.1 hc hI.2.1 ha hb (fun M' hx hq => hF _ _ M' ⟨ll_Q_s hI.1 (so_road hI.1.1 hd) lr_road, hq, sg_X_t hI.2.2 hx⟩)
theorem li_market (hI : ll_I w h c M0 S M) (hc : c ≤ 100000) {a : Int} (ha : mv_R32 a) (hF : ∀ x S' M', ll_I w h (c + 1) M0 S' M' → F x M') : mv_Wp G 93 [.inr (.inr 1), .inl a] (mh l) M (mv_qi (mh l) F) :=
  ca_market hI.1.1 hc hI.2.1 ha (fun M' hx hq => hF _ _ M' ⟨ll_Q_s hI.1 (so_market hI.1.1) lr_market, hq, sg_X_t hI.2.2 hx⟩)
theorem li_use (hI : ll_I w h c M0 S M) (hc : c ≤ 100000) {a b d e f : Int} (hF : ∀ x S' M', ll_I w h (c + 1) M0 S' M' → F x M') : mv_Wp G 94 [.inr (.inr 1), .inl a, .inl b, .inl d, .inl e, .inl f] (mh l) M (mv_qi (mh l) F) :=
  ca_use hI.1.1 hc hI.2.1 (fun M' hx hq => hF _ _ M' ⟨ll_Q_s hI.1 (so_use hI.1.1) lr_use, hq, sg_X_t hI.2.2 hx⟩)
theorem li_year (hI : ll_I w h c M0 S M) (hc : c ≤ 100000) {a b : Int} (hF : ∀ x S' M', ll_I w h (c + 1) M0 S' M' → F x M') : mv_Wp G 95 [.inr (.inr 1), .inl a, .inl b] (mh l) M (mv_qi (mh l) F) :=
  ca_year hI.1.1 hc hI.2.1 (fun M' hx hq => hF _ _ M' ⟨ll_Q_s hI.1 (so_year hI.1.1) lr_year, hq, sg_X_t hI.2.2 hx⟩)
theorem li_price (hI : ll_I w h c M0 S M) (hc : c ≤ 100000) {a b v : Int} (hF : ∀ x S' M', ll_I w h (c + 1) M0 S' M' → F x M') : mv_Wp G 96 [.inr (.inr 1), .inl a, .inl b, .inl v] (mh l) M (mv_qi (mh l) F) :=
  ca_price hI.1.1 hc hI.2.1 (fun M' hx hq => hF _ _ M' ⟨ll_Q_s hI.1 (so_price hI.1.1) lr_price, hq, sg_X_t hI.2.2 hx⟩)
theorem li_tax (hI : ll_I w h c M0 S M) (hc : c ≤ 100000) {a v : Int} (hF : ∀ x S' M', ll_I w h (c + 1) M0 S' M' → F x M') : mv_Wp G 97 [.inr (.inr 1), .inl a, .inl v] (mh l) M (mv_qi (mh l) F) :=
  ca_tax hI.1.1 hc hI.2.1 (fun M' hx hq => hF _ _ M' ⟨ll_Q_s hI.1 (so_tax hI.1.1) lr_tax, hq, sg_X_t hI.2.2 hx⟩)
theorem li_count2 (hI : ll_I w h c M0 S M) (hF : ∀ x M', 0 ≤ x → x ≤ 3 → ll_I w h c M0 S M' → F x M') : mv_Wp G 125 [.inr (.inr 1), .inl 2] (mh l) M (mv_qi (mh l) F) :=
  ca_count hI.1.1 hI.2.1 (fun M' hx hq => hF _ M' hI.1.1.1.1.2.2.1.1 hI.1.1.1.1.2.2.1.2 ⟨hI.1, hq, sg_X_t hI.2.2 hx⟩)
end LI
end
section
/-! THE LAND THAT THE LAW LAYS -/
section LA
variable {w h : Int} {c : Nat} {M0 S M : mv_Mem} {G : mv_G} {l : Nat} {F : Int → mv_Mem → Prop}
def la_F (w h : Int) (c : Nat) (M0 : mv_Mem) (F : Int → mv_Mem → Prop) : Prop := ∀ S' M', ll_I w h c M0 S' M' → F w M'
theorem la_445 (hI : ll_I w h c M0 S M) (hc : c ≤ 1000) (hF : la_F w h (c + 1) M0 F) : mv_Run G 230 87 4749 445 [(0, .inr (.inr 1)), (1, .inr (.inr 0)), (2, .inl w)] [] (mh l) M (mv_qi (mh l) F) := by
  refine vr_L_land_445 (ll_cell rfl (by omega) (fun x1 => ll_pick (by omega) (fun x2 _ _ => ?_)))
  by_cases q : x2 = 0
  · rw [if_pos q]
    exact ll_cell rfl (by omega) (fun x4 => ll_pick (by omega) (fun x5 _ _ => li_tax hI (by omega) (fun _ S' M' hI' => mv_qi_i (hF S' M' hI'))))
  · rw [if_neg q]
    exact li_tax hI (by omega) (fun _ S' M' hI' => mv_qi_i (hF S' M' hI'))
theorem la_400 {v4 v5 : Int} (h5 : 0 ≤ v5 ∧ v5 ≤ 10) (hI : ll_I w h c M0 S M) (hc : c ≤ 1000) (hF : ∀ S' M', ll_I w h (c + 1) M0 S' M' → mv_Run G 230 87 4749 253 [(0, .inr (.inr 1)), (1, .inr (.inr 0)), (2, .inl w), (4, .inl v4), (5, .inl (v5 + 1))] [] (mh l) M' (mv_qi (mh l) F)) :
    mv_Run G 230 87 4749 400 [(0, .inr (.inr 1)), (1, .inr (.inr 0)), (2, .inl w), (4, .inl v4), (5, .inl v5)] [] (mh l) M (mv_qi (mh l) F) := by
  refine vr_L_land_400 (ll_cell rfl (by omega) (fun x1 => ll_pick (by omega) (fun x2 _ _ => ?_)))
  by_cases q : x2 = 0
  · rw [if_pos q]
    exact ll_cell rfl (by omega) (fun x3 => ⟨by omega, by omega, ll_pick (by omega) (fun x4 _ _ => li_tax hI (by omega) (fun _ S' M' hI' => vr_L_land_439 ⟨by omega, hF S' M' hI'⟩))⟩)
  · rw [if_neg q]
    exact vr_L_land_439 ⟨by omega, hF S M (ll_I_le hI (by omega))⟩
theorem la_m {v4 v5 : Int} (h5 : 0 ≤ v5 ∧ v5 ≤ 10) {c0 : Nat} (hc0 : c0 ≤ 500) (hF : ∀ S' M', ll_I w h (c0 + 4) M0 S' M' → mv_Run G 230 87 4749 400 [(0, .inr (.inr 1)), (1, .inr (.inr 0)), (2, .inl w), (4, .inl v4), (5, .inl v5)] [] (mh l) M' (mv_qi (mh l) F)) :
    ∀ (n m : Nat) (S M : mv_Mem), m + n = 4 → ll_I w h (c0 + m) M0 S M → mv_Run G 230 87 4749 355 [(0, .inr (.inr 1)), (1, .inr (.inr 0)), (2, .inl w), (4, .inl v4), (5, .inl v5), (7, .inl (m : Int))] [] (mh l) M (mv_qi (mh l) F) := by
  intro n
  induction n with
  | zero =>
    intro m S M hm hI
    refine vr_L_land_355 (li_count2 hI (fun x M' hx0 hx hI' => ?_))
    rw [if_pos (by omega)]
    exact hF S M' (ll_I_le hI' (by omega))
  | succ n ih =>
    intro m S M hm hI
    refine vr_L_land_355 (li_count2 hI (fun x M' hx0 hx hI' => ?_))
    by_cases q : x ≤ (m : Int)
    · rw [if_pos q]
      exact hF S M' (ll_I_le hI' (by omega))
    · rw [if_neg q]
      exact ⟨by omega, ll_cell rfl (by omega) (fun x2 => ⟨by omega, ll_pick (by omega) (fun x3 _ _ => li_price hI' (by omega) (fun _ S2 M2 hI2 => ⟨by omega, ih (m + 1) S2 M2 (by omega) hI2⟩))⟩)⟩
theorem la_253 (hF : ∀ S' M', ll_I w h 201 M0 S' M' → F w M') {v4 : Nat} (h4 : v4 ≤ 3) : ∀ (n u : Nat) (S M : mv_Mem), u + n = v4 → ll_I w h (100 + 20 * u) M0 S M →
    mv_Run G 230 87 4749 253 [(0, .inr (.inr 1)), (1, .inr (.inr 0)), (2, .inl w), (4, .inl (v4 : Int)), (5, .inl (u : Int))] [] (mh l) M (mv_qi (mh l) F) := by
  intro n
  induction n with
  | zero =>
    intro u S M hu hI
    refine vr_L_land_253 ?_
    rw [if_pos (by omega)]
    exact la_445 (c := 200) (ll_I_le hI (by omega)) (by omega) hF
  | succ n ih =>
    intro u S M hu hI
    refine vr_L_land_253 ?_
    rw [if_neg (by omega)]
    refine ⟨by omega, ll_cell rfl (by omega) (fun x1 => ll_pick (by omega) (fun x2 _ _ => ll_pick (by omega) (fun x3 _ _ => ll_pick (by omega) (fun x4 _ _ => ll_pick (by omega) (fun x5 _ _ => ll_pick (by omega) (fun x6 _ _ => li_use hI (by omega) (fun _ S1 M1 hI1 => ll_pick (by omega) (fun x8 _ _ => ?_))))))))⟩
    have go : ∀ (S2 M2 : mv_Mem), ll_I w h (100 + 20 * u + 2) M0 S2 M2 → mv_Run G 230 87 4749 352 [(0, .inr (.inr 1)), (1, .inr (.inr 0)), (2, .inl w), (4, .inl (v4 : Int)), (5, .inl (u : Int))] [] (mh l) M2 (mv_qi (mh l) F) := by
      intro S2 M2 hI2
      refine vr_L_land_352 (la_m (c0 := 100 + 20 * u + 2) (by omega) (by omega) (fun S3 M3 hI3 => ?_) 4 0 S2 M2 rfl hI2)
      exact la_400 (by omega) hI3 (by omega) (fun S4 M4 hI4 => ih (u + 1) S4 M4 (by omega) (ll_I_le hI4 (by omega)))
    by_cases q : x8 = 3
    · rw [if_pos q]
      exact ll_pick (by omega) (fun x9 _ _ => ⟨by omega, li_year hI1 (by omega) (fun _ S2 M2 hI2 => go S2 M2 hI2)⟩)
    · rw [if_neg q]
      exact go S1 M1 (ll_I_le hI1 (by omega))
theorem la_236 (hF : ∀ S' M', ll_I w h 201 M0 S' M' → F w M') (hI : ll_I w h 100 M0 S M) : mv_Run G 230 87 4749 236 [(0, .inr (.inr 1)), (1, .inr (.inr 0)), (2, .inl w)] [] (mh l) M (mv_qi (mh l) F) := by
  refine vr_L_land_236 (ll_cell rfl (by omega) (fun x1 => ll_pick (by omega) (fun x2 h1 h2 => ⟨by omega, ?_⟩)))
  obtain ⟨v, ev⟩ := sg_nat (show 0 ≤ 1 + x2 by omega)
  rw [ev]
  exact la_253 hF (by omega) v 0 S M (by omega) hI
theorem la_wh (hw : 2 ≤ w ∧ w ≤ 4) (hh : 1 ≤ h ∧ h ≤ 3) : 2 ≤ w * h ∧ w * h ≤ 12 := by
  rcases (show w = 2 ∨ w = 3 ∨ w = 4 by omega) with rfl | rfl | rfl <;> omega
theorem la_co (hw : 2 ≤ w ∧ w ≤ 4) {k : Int} (hk : 0 ≤ k ∧ k ≤ 100) : mv_R32 (10 * (k % w) + k / w) := by
  have b1 := Int.emod_nonneg k (show w ≠ 0 by omega)
  have b2 := Int.emod_lt_of_pos k (show 0 < w by omega)
  have b3 := Int.ediv_nonneg hk.1 (show 0 ≤ w by omega)
  have b4 : k / w ≤ k := Int.ediv_le_self _ hk.1
  omega
theorem la_204 (hw : 2 ≤ w ∧ w ≤ 4) (hh : 1 ≤ h ∧ h ≤ 3) (hF : ∀ S' M', ll_I w h 201 M0 S' M' → F w M') (hI : ll_I w h 90 M0 S M) : mv_Run G 230 87 4749 204 [(0, .inr (.inr 1)), (1, .inr (.inr 0)), (2, .inl w), (3, .inl h)] [] (mh l) M (mv_qi (mh l) F) := by
  have wh := la_wh hw hh
  refine vr_L_land_204 (li_market hI (by omega) (by omega) (fun _ S1 M1 hI1 => ll_cell rfl (by omega) (fun x2 => ll_pick (by omega) (fun x3 _ _ => ?_))))
  by_cases q : x3 = 0
  · rw [if_pos q]
    refine ⟨by omega, by omega, ll_cellOf (by omega) (by omega) (li_market hI1 (by omega) (la_co hw (by omega)) (fun _ S2 M2 hI2 => la_236 hF (ll_I_le hI2 (by omega))))⟩
  · rw [if_neg q]
    exact la_236 hF (ll_I_le hI1 (by omega))
theorem la_110 (hw : 2 ≤ w ∧ w ≤ 4) (hh : 1 ≤ h ∧ h ≤ 3) (hF : ∀ S' M', ll_I w h 201 M0 S' M' → F w M') : ∀ (n k : Nat) (S M : mv_Mem), k + n = 3 → ll_I w h (80 + 2 * k) M0 S M →
    mv_Run G 230 87 4749 110 [(0, .inr (.inr 1)), (1, .inr (.inr 0)), (2, .inl w), (3, .inl h), (4, .inl (k : Int))] [] (mh l) M (mv_qi (mh l) F) := by
  have wh := la_wh hw hh
  intro n
  induction n with
  | zero =>
    intro k S M hk hI
    refine vr_L_land_110 ?_
    rw [if_pos (by omega)]
    exact la_204 hw hh hF (ll_I_le hI (by omega))
  | succ n ih =>
    intro k S M hk hI
    refine vr_L_land_110 ?_
    rw [if_neg (by omega)]
    exact ⟨by omega, ll_cell rfl (by omega) (fun x1 => ⟨by omega, ll_pick (by omega) (fun x2 a1 a2 => ll_cellOf (by omega) (by omega) ⟨by omega, ll_pick (by omega) (fun x4 b1 b2 => ⟨by omega, ll_cellOf (by omega) (by omega)
      (ll_pick (by omega) (fun x6 c1 c2 => ⟨by omega, li_road hI (by omega) (la_co hw (by omega)) (la_co hw (by omega)) (by omega) (fun _ S1 M1 hI1 => ⟨by omega, ll_pick (by omega) (fun x8 d1 d2 => ll_cellOf (by omega) (by omega) (ll_pick (by omega) (fun x10 _ _ => li_toll hI1 (by omega) (la_co hw (by omega)) (fun _ S2 M2 hI2 => ⟨by omega, ih (k + 1) S2 M2 (by omega) (ll_I_le hI2 (by omega))⟩))))⟩)⟩))⟩)⟩)⟩)⟩
/-- the text so far -/
def la_T (c W L : Nat) (M0 S M : mv_Mem) : Prop := sg_oo c S ∧ lt_P W L S ∧ sg_CC S M ∧ sg_X M0 M
theorem la_feed {W L : Nat} {b : Int} (hc : c ≤ 1000) (hL : L ≤ 50) (hT : la_T c W L M0 S M) (h1 : L % (W + 1) = W → b = 47) (h2 : L % (W + 1) ≠ W → 48 ≤ b ∧ b ≤ 57) (hb : mv_R64 b) (hF : ∀ x S' M', la_T (c + 1) W (L + 1) M0 S' M' → F x M') : mv_Wp G 86 [.inr (.inr 1), .inl 1, .inr (.inl b)] (mh l) M (mv_qi (mh l) F) :=
  ca_feed hT.1 (by omega) hT.2.2.1 (by omega) hb (fun M' hx hq => hF _ _ M' ⟨so_feed hT.1, lt_feed hL hT.2.1 h1 h2, hq, sg_X_t hT.2.2.2 hx⟩)
theorem la_38 {W H y : Nat} (hW : 2 ≤ W ∧ W ≤ 4) (hH : 1 ≤ H ∧ H ≤ 3) (hy : y < H)
    (hN : ∀ S M, la_T (5 * (y + 1)) W (if y + 1 < H then (y + 1) * (W + 1) else (y + 1) * (W + 1) - 1) M0 S M → mv_Run G 230 87 4749 29 [(0, .inr (.inr 1)), (1, .inr (.inr 0)), (2, .inl (W : Int)), (3, .inl (H : Int)), (4, .inl ((y : Int) + 1))] [] (mh l) M (mv_qi (mh l) F)) :
    ∀ (n x : Nat) (S M : mv_Mem), x + n = W → la_T (5 * y + x) W (y * (W + 1) + x) M0 S M →
    mv_Run G 230 87 4749 38 [(0, .inr (.inr 1)), (1, .inr (.inr 0)), (2, .inl (W : Int)), (3, .inl (H : Int)), (4, .inl (y : Int)), (5, .inl (x : Int))] [] (mh l) M (mv_qi (mh l) F) := by
  have hyw : y * (W + 1) ≤ 10 := by
    have h1 : y * (W + 1) ≤ 2 * (4 + 1) := Nat.mul_le_mul (by omega) (by omega)
    omega
  intro n
  induction n with
  | zero =>
    intro x S M hx hT
    have hx : x = W := by omega
    subst hx
    refine vr_L_land_38 ?_
    rw [if_pos (by omega)]
    refine ⟨by omega, ?_⟩
    by_cases q : (H : Int) - 1 ≤ (y : Int)
    · rw [if_pos q]
      refine ⟨by omega, hN S M ?_⟩
      rw [if_neg (by omega), show (y + 1) * (x + 1) - 1 = y * (x + 1) + x by rw [Nat.succ_mul]; omega]
      exact ⟨sg_oo_le hT.1 (by omega), hT.2⟩
    · rw [if_neg q]
      refine la_feed (by omega) (by omega) hT (fun _ => rfl) (fun z => absurd (lt_mod (Nat.le_refl _)) z) (by omega) (fun _ S' M' hT' => ⟨by omega, hN S' M' ?_⟩)
      rw [if_pos (by omega), show (y + 1) * (x + 1) = y * (x + 1) + x + 1 by rw [Nat.succ_mul]; omega]
      exact ⟨sg_oo_le hT'.1 (by omega), hT'.2⟩
  | succ n ih =>
    intro x S M hx hT
    have hm := lt_mod (Y := y) (show x ≤ W by omega)
    have hWy : 0 ≤ (W : Int) * (y : Int) ∧ (W : Int) * (y : Int) ≤ 100 := by
      have e : (W : Int) * (y : Int) = ((W * y : Nat) : Int) := (Int.natCast_mul _ _).symm
      have h1 : W * y ≤ 4 * 2 := Nat.mul_le_mul (by omega) (by omega)
      omega
    refine vr_L_land_38 ?_
    rw [if_neg (by omega)]
    exact ll_cell rfl (by omega) (fun x2 => ⟨by omega, by omega, by omega, ll_pick (by omega) (fun x3 _ _ => ⟨by omega, la_feed (by omega) (by omega) hT (fun z => by omega) (fun _ => by omega) (by omega) (fun _ S' M' hT' => ⟨by omega, ih (x + 1) S' M' (by omega) hT'⟩)⟩)⟩)
theorem la_29 {W H : Nat} (hW : 2 ≤ W ∧ W ≤ 4) (hH : 1 ≤ H ∧ H ≤ 3) (hF : ∀ S' M', ll_I (W : Int) (H : Int) 201 M0 S' M' → F (W : Int) M') : ∀ (n y : Nat) (S M : mv_Mem), y + n = H → la_T (5 * y) W (if y < H then y * (W + 1) else y * (W + 1) - 1) M0 S M →
    mv_Run G 230 87 4749 29 [(0, .inr (.inr 1)), (1, .inr (.inr 0)), (2, .inl (W : Int)), (3, .inl (H : Int)), (4, .inl (y : Int))] [] (mh l) M (mv_qi (mh l) F) := by
  intro n
  induction n with
  | zero =>
    intro y S M hy hT
    have hy : y = H := by omega
    subst hy
    rw [if_neg (by omega)] at hT
    refine vr_L_land_29 ?_
    rw [if_pos (by omega)]
    have hpos : 0 < y * (W + 1) := Nat.mul_pos (by omega) (by omega)
    refine ca_read hT.1 hT.2.2.1 (fun M' hx hq => la_110 (by omega) (by omega) hF 3 0 _ M' rfl ⟨?_, hq, sg_X_t hT.2.2.2 hx⟩)
    have hQ := ll_read (W := W) (H := y) (by omega) (by omega) (by omega) hT.1 hT.2.1
    exact ⟨sg_oo_le hQ.1 (by omega), hQ.2⟩
  | succ n ih =>
    intro y S M hy hT
    rw [if_pos (by omega)] at hT
    refine vr_L_land_29 ?_
    rw [if_neg (by omega)]
    exact la_38 hW hH (by omega) (fun S' M' hT' => ih (y + 1) S' M' (by omega) hT') W 0 S M (by omega) hT
/-- the land: from a new object on -/
theorem cl_land (ho : sg_oo 0 S) (h0 : S 30 0 = 0) (hC : sg_CC S M) (hF : ∀ w h S' M', 2 ≤ w ∧ w ≤ 4 → 1 ≤ h ∧ h ≤ 3 → ll_I w h 201 M S' M' → F w M') : mv_Wp G 230 [.inr (.inr 1), .inr (.inr 0)] (mh l) M (mv_qi (mh l) F) := by
  refine vw_L_land (ll_cell rfl (by omega) (fun x1 => ll_pick (by omega) (fun x2 a1 a2 => ⟨by omega, ll_cell rfl (by omega) (fun x3 => ll_pick (by omega) (fun x4 b1 b2 => ⟨by omega, ?_⟩))⟩)))
  obtain ⟨W, eW⟩ := sg_nat (show 0 ≤ 2 + x2 by omega)
  obtain ⟨H, eH⟩ := sg_nat (show 0 ≤ 1 + x4 by omega)
  rw [eW, eH]
  refine la_29 (by omega) (by omega) (fun S' M' hI => hF _ _ S' M' (by omega) (by omega) hI) H 0 S M (by omega) ⟨ho, ⟨?_, fun p hp => ?_⟩, hC, sg_X_r⟩
  · rw [if_pos (by omega), Nat.zero_mul]
    exact h0
  · rw [if_pos (by omega), Nat.zero_mul] at hp
    omega
end LA
end
