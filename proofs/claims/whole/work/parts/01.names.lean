-- ===== PART A: goes FIRST, ahead of the names: the tables' words, and 'selects' of the private methods out of them =====
/-- a private method of a class that the tables say can be made, by its rows of tables_1 -/
def lw_okq (q : MethodName × Nat) : Prop := (q.1.cls ≠ "java/lang/invoke/MethodHandle" ∧ q.1.cls ≠ "java/lang/invoke/VarHandle") ∧ Cond.instantiable q.1.cls q.2 ∈ tables_1 ∧ Cond.privateMethod q.1 ∈ tables_1 ∧ Cond.instanceMethod q.1 ∈ tables_1
theorem lw_p0 : lw_okq (⟨"MarketRings", "refuse", "(I)I"⟩, 13) := ⟨⟨by decide +kernel, by decide +kernel⟩, List.mem_of_getElem? (i := 17) (by decide +kernel), List.mem_of_getElem? (i := 436) (by decide +kernel), List.mem_of_getElem? (i := 437) (by decide +kernel)⟩
theorem lw_p1 : lw_okq (⟨"MarketRings$Land", "clearAway", "()V"⟩, 13) := ⟨⟨by decide +kernel, by decide +kernel⟩, List.mem_of_getElem? (i := 68) (by decide +kernel), List.mem_of_getElem? (i := 460) (by decide +kernel), List.mem_of_getElem? (i := 461) (by decide +kernel)⟩
theorem lw_p2 : lw_okq (⟨"MarketRings$Ways", "search", "(II[I[II)V"⟩, 6) := ⟨⟨by decide +kernel, by decide +kernel⟩, List.mem_of_getElem? (i := 259) (by decide +kernel), List.mem_of_getElem? (i := 524) (by decide +kernel), List.mem_of_getElem? (i := 525) (by decide +kernel)⟩
theorem lw_p3 : lw_okq (⟨"MarketRings$Ways", "leastFrom", "(I[I[II)I"⟩, 6) := ⟨⟨by decide +kernel, by decide +kernel⟩, List.mem_of_getElem? (i := 259) (by decide +kernel), List.mem_of_getElem? (i := 529) (by decide +kernel), List.mem_of_getElem? (i := 530) (by decide +kernel)⟩
theorem lw_p4 : lw_okq (⟨"MarketRings", "isNoUse", "(I)Z"⟩, 13) := ⟨⟨by decide +kernel, by decide +kernel⟩, List.mem_of_getElem? (i := 17) (by decide +kernel), List.mem_of_getElem? (i := 602) (by decide +kernel), List.mem_of_getElem? (i := 603) (by decide +kernel)⟩
theorem lw_p5 : lw_okq (⟨"MarketRings", "isNoMarket", "(I)Z"⟩, 13) := ⟨⟨by decide +kernel, by decide +kernel⟩, List.mem_of_getElem? (i := 17) (by decide +kernel), List.mem_of_getElem? (i := 610) (by decide +kernel), List.mem_of_getElem? (i := 611) (by decide +kernel)⟩
theorem lw_p6 : lw_okq (⟨"MarketRings", "rentTax", "(I)I"⟩, 13) := ⟨⟨by decide +kernel, by decide +kernel⟩, List.mem_of_getElem? (i := 17) (by decide +kernel), List.mem_of_getElem? (i := 621) (by decide +kernel), List.mem_of_getElem? (i := 622) (by decide +kernel)⟩
theorem lw_p7 : lw_okq (⟨"MarketRings", "refuseLong", "(I)J"⟩, 13) := ⟨⟨by decide +kernel, by decide +kernel⟩, List.mem_of_getElem? (i := 17) (by decide +kernel), List.mem_of_getElem? (i := 629) (by decide +kernel), List.mem_of_getElem? (i := 630) (by decide +kernel)⟩
theorem lw_p8 : lw_okq (⟨"MarketRings$Offers", "rentBy", "(II)J"⟩, 8) := ⟨⟨by decide +kernel, by decide +kernel⟩, List.mem_of_getElem? (i := 56) (by decide +kernel), List.mem_of_getElem? (i := 650) (by decide +kernel), List.mem_of_getElem? (i := 651) (by decide +kernel)⟩
theorem lw_p9 : lw_okq (⟨"MarketRings$Trade", "leastPriceFor", "(LMarketRings$Offers;II)I"⟩, 4) := ⟨⟨by decide +kernel, by decide +kernel⟩, List.mem_of_getElem? (i := 325) (by decide +kernel), List.mem_of_getElem? (i := 690) (by decide +kernel), List.mem_of_getElem? (i := 691) (by decide +kernel)⟩
theorem lw_p10 : lw_okq (⟨"MarketRings$Trade", "comingAt", "(II)I"⟩, 4) := ⟨⟨by decide +kernel, by decide +kernel⟩, List.mem_of_getElem? (i := 325) (by decide +kernel), List.mem_of_getElem? (i := 708) (by decide +kernel), List.mem_of_getElem? (i := 709) (by decide +kernel)⟩
theorem lw_p11 : lw_okq (⟨"MarketRings$Trade", "runRound", "(LMarketRings$Offers;)Z"⟩, 4) := ⟨⟨by decide +kernel, by decide +kernel⟩, List.mem_of_getElem? (i := 325) (by decide +kernel), List.mem_of_getElem? (i := 721) (by decide +kernel), List.mem_of_getElem? (i := 722) (by decide +kernel)⟩
theorem lw_p12 : lw_okq (⟨"MarketRings", "unfitRing", "(II)I"⟩, 13) := ⟨⟨by decide +kernel, by decide +kernel⟩, List.mem_of_getElem? (i := 17) (by decide +kernel), List.mem_of_getElem? (i := 731) (by decide +kernel), List.mem_of_getElem? (i := 732) (by decide +kernel)⟩
theorem lw_p13 : lw_okq (⟨"MarketRings$Rings", "findCuts", "(LMarketRings$Uses;I)V"⟩, 9) := ⟨⟨by decide +kernel, by decide +kernel⟩, List.mem_of_getElem? (i := 354) (by decide +kernel), List.mem_of_getElem? (i := 739) (by decide +kernel), List.mem_of_getElem? (i := 740) (by decide +kernel)⟩
theorem lw_p14 : lw_okq (⟨"MarketRings$Rings", "addCut", "(JJ)V"⟩, 9) := ⟨⟨by decide +kernel, by decide +kernel⟩, List.mem_of_getElem? (i := 354) (by decide +kernel), List.mem_of_getElem? (i := 743) (by decide +kernel), List.mem_of_getElem? (i := 744) (by decide +kernel)⟩
theorem lw_p15 : lw_okq (⟨"MarketRings$Rings", "takerAt", "(LMarketRings$Uses;JJ)I"⟩, 9) := ⟨⟨by decide +kernel, by decide +kernel⟩, List.mem_of_getElem? (i := 354) (by decide +kernel), List.mem_of_getElem? (i := 751) (by decide +kernel), List.mem_of_getElem? (i := 752) (by decide +kernel)⟩
def lw_privs_1 : List (MethodName × Nat) := [(⟨"MarketRings", "refuse", "(I)I"⟩, 13), (⟨"MarketRings$Land", "clearAway", "()V"⟩, 13), (⟨"MarketRings$Ways", "search", "(II[I[II)V"⟩, 6), (⟨"MarketRings$Ways", "leastFrom", "(I[I[II)I"⟩, 6), (⟨"MarketRings", "isNoUse", "(I)Z"⟩, 13), (⟨"MarketRings", "isNoMarket", "(I)Z"⟩, 13), (⟨"MarketRings", "rentTax", "(I)I"⟩, 13), (⟨"MarketRings", "refuseLong", "(I)J"⟩, 13), (⟨"MarketRings$Offers", "rentBy", "(II)J"⟩, 8), (⟨"MarketRings$Trade", "leastPriceFor", "(LMarketRings$Offers;II)I"⟩, 4), (⟨"MarketRings$Trade", "comingAt", "(II)I"⟩, 4), (⟨"MarketRings$Trade", "runRound", "(LMarketRings$Offers;)Z"⟩, 4), (⟨"MarketRings", "unfitRing", "(II)I"⟩, 13), (⟨"MarketRings$Rings", "findCuts", "(LMarketRings$Uses;I)V"⟩, 9), (⟨"MarketRings$Rings", "addCut", "(JJ)V"⟩, 9), (⟨"MarketRings$Rings", "takerAt", "(LMarketRings$Uses;JJ)I"⟩, 9)]
theorem lw_r1 : ∀ q ∈ lw_privs_1, lw_okq q := List.forall_mem_cons.mpr ⟨lw_p0, List.forall_mem_cons.mpr ⟨lw_p1, List.forall_mem_cons.mpr ⟨lw_p2, List.forall_mem_cons.mpr ⟨lw_p3, List.forall_mem_cons.mpr ⟨lw_p4, List.forall_mem_cons.mpr ⟨lw_p5, List.forall_mem_cons.mpr ⟨lw_p6, List.forall_mem_cons.mpr ⟨lw_p7, List.forall_mem_cons.mpr ⟨lw_p8, List.forall_mem_cons.mpr ⟨lw_p9, List.forall_mem_cons.mpr ⟨lw_p10, List.forall_mem_cons.mpr ⟨lw_p11, List.forall_mem_cons.mpr ⟨lw_p12, List.forall_mem_cons.mpr ⟨lw_p13, List.forall_mem_cons.mpr ⟨lw_p14, List.forall_mem_cons.mpr ⟨lw_p15, fun _ h => absurd h List.not_mem_nil⟩⟩⟩⟩⟩⟩⟩⟩⟩⟩⟩⟩⟩⟩⟩⟩
theorem lw_p16 : lw_okq (⟨"MarketRings$Rings", "isThere", "(IJJ)Z"⟩, 9) := ⟨⟨by decide +kernel, by decide +kernel⟩, List.mem_of_getElem? (i := 354) (by decide +kernel), List.mem_of_getElem? (i := 755) (by decide +kernel), List.mem_of_getElem? (i := 756) (by decide +kernel)⟩
theorem lw_p17 : lw_okq (⟨"MarketRings$Rings", "extend", "(IZI)V"⟩, 9) := ⟨⟨by decide +kernel, by decide +kernel⟩, List.mem_of_getElem? (i := 354) (by decide +kernel), List.mem_of_getElem? (i := 759) (by decide +kernel), List.mem_of_getElem? (i := 760) (by decide +kernel)⟩
theorem lw_p18 : lw_okq (⟨"MarketRings$Offers", "isTakenBy", "(II)Z"⟩, 8) := ⟨⟨by decide +kernel, by decide +kernel⟩, List.mem_of_getElem? (i := 56) (by decide +kernel), List.mem_of_getElem? (i := 779) (by decide +kernel), List.mem_of_getElem? (i := 780) (by decide +kernel)⟩
theorem lw_p19 : lw_okq (⟨"MarketRings$Offers", "isBorder", "(II)Z"⟩, 8) := ⟨⟨by decide +kernel, by decide +kernel⟩, List.mem_of_getElem? (i := 56) (by decide +kernel), List.mem_of_getElem? (i := 795) (by decide +kernel), List.mem_of_getElem? (i := 796) (by decide +kernel)⟩
theorem lw_p20 : lw_okq (⟨"MarketRings", "unfitPlan", "(I)I"⟩, 13) := ⟨⟨by decide +kernel, by decide +kernel⟩, List.mem_of_getElem? (i := 17) (by decide +kernel), List.mem_of_getElem? (i := 812) (by decide +kernel), List.mem_of_getElem? (i := 813) (by decide +kernel)⟩
theorem lw_p21 : lw_okq (⟨"MarketRings$Works", "build", "(LMarketRings$Offers;I)V"⟩, 1) := ⟨⟨by decide +kernel, by decide +kernel⟩, List.mem_of_getElem? (i := 344) (by decide +kernel), List.mem_of_getElem? (i := 826) (by decide +kernel), List.mem_of_getElem? (i := 827) (by decide +kernel)⟩
theorem lw_p22 : lw_okq (⟨"MarketRings$Works", "layRoads", "(LMarketRings$World;IZ)V"⟩, 1) := ⟨⟨by decide +kernel, by decide +kernel⟩, List.mem_of_getElem? (i := 344) (by decide +kernel), List.mem_of_getElem? (i := 830) (by decide +kernel), List.mem_of_getElem? (i := 831) (by decide +kernel)⟩
theorem lw_p23 : lw_okq (⟨"MarketRings$Works", "tearDown", "(LMarketRings$Offers;I)V"⟩, 1) := ⟨⟨by decide +kernel, by decide +kernel⟩, List.mem_of_getElem? (i := 344) (by decide +kernel), List.mem_of_getElem? (i := 837) (by decide +kernel), List.mem_of_getElem? (i := 838) (by decide +kernel)⟩
theorem lw_p24 : lw_okq (⟨"MarketRings$Works", "costOf", "(LMarketRings$Plans;I)I"⟩, 1) := ⟨⟨by decide +kernel, by decide +kernel⟩, List.mem_of_getElem? (i := 344) (by decide +kernel), List.mem_of_getElem? (i := 856) (by decide +kernel), List.mem_of_getElem? (i := 857) (by decide +kernel)⟩
theorem lw_p25 : lw_okq (⟨"MarketRings$Trade", "rentsAfterRound", "(LMarketRings$Offers;I)J"⟩, 4) := ⟨⟨by decide +kernel, by decide +kernel⟩, List.mem_of_getElem? (i := 325) (by decide +kernel), List.mem_of_getElem? (i := 897) (by decide +kernel), List.mem_of_getElem? (i := 898) (by decide +kernel)⟩
theorem lw_p26 : lw_okq (⟨"MarketRingsModel", "no", "(I)I"⟩, 65) := ⟨⟨by decide +kernel, by decide +kernel⟩, List.mem_of_getElem? (i := 961) (by decide +kernel), List.mem_of_getElem? (i := 1172) (by decide +kernel), List.mem_of_getElem? (i := 1173) (by decide +kernel)⟩
theorem lw_p27 : lw_okq (⟨"MarketRingsModel", "reads", "()Z"⟩, 65) := ⟨⟨by decide +kernel, by decide +kernel⟩, List.mem_of_getElem? (i := 961) (by decide +kernel), List.mem_of_getElem? (i := 1181) (by decide +kernel), List.mem_of_getElem? (i := 1182) (by decide +kernel)⟩
theorem lw_p28 : lw_okq (⟨"MarketRingsModel", "readsLine", "()Z"⟩, 65) := ⟨⟨by decide +kernel, by decide +kernel⟩, List.mem_of_getElem? (i := 961) (by decide +kernel), List.mem_of_getElem? (i := 1185) (by decide +kernel), List.mem_of_getElem? (i := 1186) (by decide +kernel)⟩
theorem lw_p29 : lw_okq (⟨"MarketRingsModel", "sign", "()I"⟩, 65) := ⟨⟨by decide +kernel, by decide +kernel⟩, List.mem_of_getElem? (i := 961) (by decide +kernel), List.mem_of_getElem? (i := 1189) (by decide +kernel), List.mem_of_getElem? (i := 1190) (by decide +kernel)⟩
theorem lw_p30 : lw_okq (⟨"MarketRingsModel", "acreOf", "(I)I"⟩, 65) := ⟨⟨by decide +kernel, by decide +kernel⟩, List.mem_of_getElem? (i := 961) (by decide +kernel), List.mem_of_getElem? (i := 1202) (by decide +kernel), List.mem_of_getElem? (i := 1203) (by decide +kernel)⟩
theorem lw_p31 : lw_okq (⟨"MarketRingsModel", "marketOn", "(I)I"⟩, 65) := ⟨⟨by decide +kernel, by decide +kernel⟩, List.mem_of_getElem? (i := 961) (by decide +kernel), List.mem_of_getElem? (i := 1206) (by decide +kernel), List.mem_of_getElem? (i := 1207) (by decide +kernel)⟩
def lw_privs_2 : List (MethodName × Nat) := [(⟨"MarketRings$Rings", "isThere", "(IJJ)Z"⟩, 9), (⟨"MarketRings$Rings", "extend", "(IZI)V"⟩, 9), (⟨"MarketRings$Offers", "isTakenBy", "(II)Z"⟩, 8), (⟨"MarketRings$Offers", "isBorder", "(II)Z"⟩, 8), (⟨"MarketRings", "unfitPlan", "(I)I"⟩, 13), (⟨"MarketRings$Works", "build", "(LMarketRings$Offers;I)V"⟩, 1), (⟨"MarketRings$Works", "layRoads", "(LMarketRings$World;IZ)V"⟩, 1), (⟨"MarketRings$Works", "tearDown", "(LMarketRings$Offers;I)V"⟩, 1), (⟨"MarketRings$Works", "costOf", "(LMarketRings$Plans;I)I"⟩, 1), (⟨"MarketRings$Trade", "rentsAfterRound", "(LMarketRings$Offers;I)J"⟩, 4), (⟨"MarketRingsModel", "no", "(I)I"⟩, 65), (⟨"MarketRingsModel", "reads", "()Z"⟩, 65), (⟨"MarketRingsModel", "readsLine", "()Z"⟩, 65), (⟨"MarketRingsModel", "sign", "()I"⟩, 65), (⟨"MarketRingsModel", "acreOf", "(I)I"⟩, 65), (⟨"MarketRingsModel", "marketOn", "(I)I"⟩, 65)]
theorem lw_r2 : ∀ q ∈ lw_privs_2, lw_okq q := List.forall_mem_cons.mpr ⟨lw_p16, List.forall_mem_cons.mpr ⟨lw_p17, List.forall_mem_cons.mpr ⟨lw_p18, List.forall_mem_cons.mpr ⟨lw_p19, List.forall_mem_cons.mpr ⟨lw_p20, List.forall_mem_cons.mpr ⟨lw_p21, List.forall_mem_cons.mpr ⟨lw_p22, List.forall_mem_cons.mpr ⟨lw_p23, List.forall_mem_cons.mpr ⟨lw_p24, List.forall_mem_cons.mpr ⟨lw_p25, List.forall_mem_cons.mpr ⟨lw_p26, List.forall_mem_cons.mpr ⟨lw_p27, List.forall_mem_cons.mpr ⟨lw_p28, List.forall_mem_cons.mpr ⟨lw_p29, List.forall_mem_cons.mpr ⟨lw_p30, List.forall_mem_cons.mpr ⟨lw_p31, fun _ h => absurd h List.not_mem_nil⟩⟩⟩⟩⟩⟩⟩⟩⟩⟩⟩⟩⟩⟩⟩⟩
theorem lw_p32 : lw_okq (⟨"MarketRingsModel", "roadOf", "(II)I"⟩, 65) := ⟨⟨by decide +kernel, by decide +kernel⟩, List.mem_of_getElem? (i := 961) (by decide +kernel), List.mem_of_getElem? (i := 1218) (by decide +kernel), List.mem_of_getElem? (i := 1219) (by decide +kernel)⟩
theorem lw_p33 : lw_okq (⟨"MarketRingsModel", "puts", "(III)V"⟩, 65) := ⟨⟨by decide +kernel, by decide +kernel⟩, List.mem_of_getElem? (i := 961) (by decide +kernel), List.mem_of_getElem? (i := 1222) (by decide +kernel), List.mem_of_getElem? (i := 1223) (by decide +kernel)⟩
theorem lw_p34 : lw_okq (⟨"MarketRingsModel", "findWays", "(IZ)V"⟩, 65) := ⟨⟨by decide +kernel, by decide +kernel⟩, List.mem_of_getElem? (i := 961) (by decide +kernel), List.mem_of_getElem? (i := 1239) (by decide +kernel), List.mem_of_getElem? (i := 1240) (by decide +kernel)⟩
theorem lw_p35 : lw_okq (⟨"MarketRingsModel", "isAcre", "(I)Z"⟩, 65) := ⟨⟨by decide +kernel, by decide +kernel⟩, List.mem_of_getElem? (i := 961) (by decide +kernel), List.mem_of_getElem? (i := 1244) (by decide +kernel), List.mem_of_getElem? (i := 1245) (by decide +kernel)⟩
theorem lw_p36 : lw_okq (⟨"MarketRingsModel", "shortens", "(IZ)Z"⟩, 65) := ⟨⟨by decide +kernel, by decide +kernel⟩, List.mem_of_getElem? (i := 961) (by decide +kernel), List.mem_of_getElem? (i := 1248) (by decide +kernel), List.mem_of_getElem? (i := 1249) (by decide +kernel)⟩
theorem lw_p37 : lw_okq (⟨"MarketRingsModel", "stepOf", "(II)I"⟩, 65) := ⟨⟨by decide +kernel, by decide +kernel⟩, List.mem_of_getElem? (i := 961) (by decide +kernel), List.mem_of_getElem? (i := 1252) (by decide +kernel), List.mem_of_getElem? (i := 1253) (by decide +kernel)⟩
theorem lw_p38 : lw_okq (⟨"MarketRingsModel", "isUse", "(I)Z"⟩, 65) := ⟨⟨by decide +kernel, by decide +kernel⟩, List.mem_of_getElem? (i := 961) (by decide +kernel), List.mem_of_getElem? (i := 1269) (by decide +kernel), List.mem_of_getElem? (i := 1270) (by decide +kernel)⟩
theorem lw_p39 : lw_okq (⟨"MarketRingsModel", "isMarket", "(I)Z"⟩, 65) := ⟨⟨by decide +kernel, by decide +kernel⟩, List.mem_of_getElem? (i := 961) (by decide +kernel), List.mem_of_getElem? (i := 1278) (by decide +kernel), List.mem_of_getElem? (i := 1279) (by decide +kernel)⟩
theorem lw_p40 : lw_okq (⟨"MarketRingsModel", "noLong", "(I)J"⟩, 65) := ⟨⟨by decide +kernel, by decide +kernel⟩, List.mem_of_getElem? (i := 961) (by decide +kernel), List.mem_of_getElem? (i := 1293) (by decide +kernel), List.mem_of_getElem? (i := 1294) (by decide +kernel)⟩
theorem lw_p41 : lw_okq (⟨"MarketRingsModel", "findMarketWays", "()V"⟩, 65) := ⟨⟨by decide +kernel, by decide +kernel⟩, List.mem_of_getElem? (i := 961) (by decide +kernel), List.mem_of_getElem? (i := 1298) (by decide +kernel), List.mem_of_getElem? (i := 1299) (by decide +kernel)⟩
theorem lw_p42 : lw_okq (⟨"MarketRingsModel", "bidOf", "(III)J"⟩, 65) := ⟨⟨by decide +kernel, by decide +kernel⟩, List.mem_of_getElem? (i := 961) (by decide +kernel), List.mem_of_getElem? (i := 1302) (by decide +kernel), List.mem_of_getElem? (i := 1303) (by decide +kernel)⟩
theorem lw_p43 : lw_okq (⟨"MarketRingsModel", "wayOf", "(III)I"⟩, 65) := ⟨⟨by decide +kernel, by decide +kernel⟩, List.mem_of_getElem? (i := 961) (by decide +kernel), List.mem_of_getElem? (i := 1306) (by decide +kernel), List.mem_of_getElem? (i := 1307) (by decide +kernel)⟩
theorem lw_p44 : lw_okq (⟨"MarketRingsModel", "worth", "(III)J"⟩, 65) := ⟨⟨by decide +kernel, by decide +kernel⟩, List.mem_of_getElem? (i := 961) (by decide +kernel), List.mem_of_getElem? (i := 1310) (by decide +kernel), List.mem_of_getElem? (i := 1311) (by decide +kernel)⟩
theorem lw_p45 : lw_okq (⟨"MarketRingsModel", "yieldOf", "(II)I"⟩, 65) := ⟨⟨by decide +kernel, by decide +kernel⟩, List.mem_of_getElem? (i := 961) (by decide +kernel), List.mem_of_getElem? (i := 1314) (by decide +kernel), List.mem_of_getElem? (i := 1315) (by decide +kernel)⟩
theorem lw_p46 : lw_okq (⟨"MarketRingsModel", "mean", "(I)I"⟩, 65) := ⟨⟨by decide +kernel, by decide +kernel⟩, List.mem_of_getElem? (i := 961) (by decide +kernel), List.mem_of_getElem? (i := 1318) (by decide +kernel), List.mem_of_getElem? (i := 1319) (by decide +kernel)⟩
theorem lw_p47 : lw_okq (⟨"MarketRingsModel", "fareOf", "(I)I"⟩, 65) := ⟨⟨by decide +kernel, by decide +kernel⟩, List.mem_of_getElem? (i := 961) (by decide +kernel), List.mem_of_getElem? (i := 1322) (by decide +kernel), List.mem_of_getElem? (i := 1323) (by decide +kernel)⟩
def lw_privs_3 : List (MethodName × Nat) := [(⟨"MarketRingsModel", "roadOf", "(II)I"⟩, 65), (⟨"MarketRingsModel", "puts", "(III)V"⟩, 65), (⟨"MarketRingsModel", "findWays", "(IZ)V"⟩, 65), (⟨"MarketRingsModel", "isAcre", "(I)Z"⟩, 65), (⟨"MarketRingsModel", "shortens", "(IZ)Z"⟩, 65), (⟨"MarketRingsModel", "stepOf", "(II)I"⟩, 65), (⟨"MarketRingsModel", "isUse", "(I)Z"⟩, 65), (⟨"MarketRingsModel", "isMarket", "(I)Z"⟩, 65), (⟨"MarketRingsModel", "noLong", "(I)J"⟩, 65), (⟨"MarketRingsModel", "findMarketWays", "()V"⟩, 65), (⟨"MarketRingsModel", "bidOf", "(III)J"⟩, 65), (⟨"MarketRingsModel", "wayOf", "(III)I"⟩, 65), (⟨"MarketRingsModel", "worth", "(III)J"⟩, 65), (⟨"MarketRingsModel", "yieldOf", "(II)I"⟩, 65), (⟨"MarketRingsModel", "mean", "(I)I"⟩, 65), (⟨"MarketRingsModel", "fareOf", "(I)I"⟩, 65)]
theorem lw_r3 : ∀ q ∈ lw_privs_3, lw_okq q := List.forall_mem_cons.mpr ⟨lw_p32, List.forall_mem_cons.mpr ⟨lw_p33, List.forall_mem_cons.mpr ⟨lw_p34, List.forall_mem_cons.mpr ⟨lw_p35, List.forall_mem_cons.mpr ⟨lw_p36, List.forall_mem_cons.mpr ⟨lw_p37, List.forall_mem_cons.mpr ⟨lw_p38, List.forall_mem_cons.mpr ⟨lw_p39, List.forall_mem_cons.mpr ⟨lw_p40, List.forall_mem_cons.mpr ⟨lw_p41, List.forall_mem_cons.mpr ⟨lw_p42, List.forall_mem_cons.mpr ⟨lw_p43, List.forall_mem_cons.mpr ⟨lw_p44, List.forall_mem_cons.mpr ⟨lw_p45, List.forall_mem_cons.mpr ⟨lw_p46, List.forall_mem_cons.mpr ⟨lw_p47, fun _ h => absurd h List.not_mem_nil⟩⟩⟩⟩⟩⟩⟩⟩⟩⟩⟩⟩⟩⟩⟩⟩
theorem lw_p48 : lw_okq (⟨"MarketRingsModel", "finds", "()V"⟩, 65) := ⟨⟨by decide +kernel, by decide +kernel⟩, List.mem_of_getElem? (i := 961) (by decide +kernel), List.mem_of_getElem? (i := 1330) (by decide +kernel), List.mem_of_getElem? (i := 1331) (by decide +kernel)⟩
theorem lw_p49 : lw_okq (⟨"MarketRingsModel", "findGoing", "(I)V"⟩, 65) := ⟨⟨by decide +kernel, by decide +kernel⟩, List.mem_of_getElem? (i := 961) (by decide +kernel), List.mem_of_getElem? (i := 1334) (by decide +kernel), List.mem_of_getElem? (i := 1335) (by decide +kernel)⟩
theorem lw_p50 : lw_okq (⟨"MarketRingsModel", "allRents", "()J"⟩, 65) := ⟨⟨by decide +kernel, by decide +kernel⟩, List.mem_of_getElem? (i := 961) (by decide +kernel), List.mem_of_getElem? (i := 1342) (by decide +kernel), List.mem_of_getElem? (i := 1343) (by decide +kernel)⟩
theorem lw_p51 : lw_okq (⟨"MarketRingsModel", "rentOf", "(I)J"⟩, 65) := ⟨⟨by decide +kernel, by decide +kernel⟩, List.mem_of_getElem? (i := 961) (by decide +kernel), List.mem_of_getElem? (i := 1346) (by decide +kernel), List.mem_of_getElem? (i := 1347) (by decide +kernel)⟩
theorem lw_p52 : lw_okq (⟨"MarketRingsModel", "comesTo", "(II)I"⟩, 65) := ⟨⟨by decide +kernel, by decide +kernel⟩, List.mem_of_getElem? (i := 961) (by decide +kernel), List.mem_of_getElem? (i := 1354) (by decide +kernel), List.mem_of_getElem? (i := 1355) (by decide +kernel)⟩
theorem lw_p53 : lw_okq (⟨"MarketRingsModel", "boughtOf", "(III)I"⟩, 65) := ⟨⟨by decide +kernel, by decide +kernel⟩, List.mem_of_getElem? (i := 961) (by decide +kernel), List.mem_of_getElem? (i := 1366) (by decide +kernel), List.mem_of_getElem? (i := 1367) (by decide +kernel)⟩
theorem lw_p54 : lw_okq (⟨"MarketRingsModel", "clearsOf", "(II)I"⟩, 65) := ⟨⟨by decide +kernel, by decide +kernel⟩, List.mem_of_getElem? (i := 961) (by decide +kernel), List.mem_of_getElem? (i := 1374) (by decide +kernel), List.mem_of_getElem? (i := 1375) (by decide +kernel)⟩
theorem lw_p55 : lw_okq (⟨"MarketRingsModel", "findOthers", "(III)V"⟩, 65) := ⟨⟨by decide +kernel, by decide +kernel⟩, List.mem_of_getElem? (i := 961) (by decide +kernel), List.mem_of_getElem? (i := 1378) (by decide +kernel), List.mem_of_getElem? (i := 1379) (by decide +kernel)⟩
theorem lw_p56 : lw_okq (⟨"MarketRingsModel", "wouldGo", "(III)Z"⟩, 65) := ⟨⟨by decide +kernel, by decide +kernel⟩, List.mem_of_getElem? (i := 961) (by decide +kernel), List.mem_of_getElem? (i := 1382) (by decide +kernel), List.mem_of_getElem? (i := 1383) (by decide +kernel)⟩
theorem lw_p57 : lw_okq (⟨"MarketRingsModel", "goesRound", "()Z"⟩, 65) := ⟨⟨by decide +kernel, by decide +kernel⟩, List.mem_of_getElem? (i := 961) (by decide +kernel), List.mem_of_getElem? (i := 1391) (by decide +kernel), List.mem_of_getElem? (i := 1392) (by decide +kernel)⟩
theorem lw_p58 : lw_okq (⟨"MarketRingsModel", "findRings", "(I)V"⟩, 65) := ⟨⟨by decide +kernel, by decide +kernel⟩, List.mem_of_getElem? (i := 961) (by decide +kernel), List.mem_of_getElem? (i := 1399) (by decide +kernel), List.mem_of_getElem? (i := 1400) (by decide +kernel)⟩
theorem lw_p59 : lw_okq (⟨"MarketRingsModel", "findMarks", "(I)V"⟩, 65) := ⟨⟨by decide +kernel, by decide +kernel⟩, List.mem_of_getElem? (i := 961) (by decide +kernel), List.mem_of_getElem? (i := 1403) (by decide +kernel), List.mem_of_getElem? (i := 1404) (by decide +kernel)⟩
theorem lw_p60 : lw_okq (⟨"MarketRingsModel", "marksAt", "(JJ)V"⟩, 65) := ⟨⟨by decide +kernel, by decide +kernel⟩, List.mem_of_getElem? (i := 961) (by decide +kernel), List.mem_of_getElem? (i := 1408) (by decide +kernel), List.mem_of_getElem? (i := 1409) (by decide +kernel)⟩
theorem lw_p61 : lw_okq (⟨"MarketRingsModel", "isRinged", "(I)Z"⟩, 65) := ⟨⟨by decide +kernel, by decide +kernel⟩, List.mem_of_getElem? (i := 961) (by decide +kernel), List.mem_of_getElem? (i := 1415) (by decide +kernel), List.mem_of_getElem? (i := 1416) (by decide +kernel)⟩
theorem lw_p62 : lw_okq (⟨"MarketRingsModel", "slope", "(II)J"⟩, 65) := ⟨⟨by decide +kernel, by decide +kernel⟩, List.mem_of_getElem? (i := 961) (by decide +kernel), List.mem_of_getElem? (i := 1419) (by decide +kernel), List.mem_of_getElem? (i := 1420) (by decide +kernel)⟩
theorem lw_p63 : lw_okq (⟨"MarketRingsModel", "useAt", "(IJJ)I"⟩, 65) := ⟨⟨by decide +kernel, by decide +kernel⟩, List.mem_of_getElem? (i := 961) (by decide +kernel), List.mem_of_getElem? (i := 1424) (by decide +kernel), List.mem_of_getElem? (i := 1425) (by decide +kernel)⟩
def lw_privs_4 : List (MethodName × Nat) := [(⟨"MarketRingsModel", "finds", "()V"⟩, 65), (⟨"MarketRingsModel", "findGoing", "(I)V"⟩, 65), (⟨"MarketRingsModel", "allRents", "()J"⟩, 65), (⟨"MarketRingsModel", "rentOf", "(I)J"⟩, 65), (⟨"MarketRingsModel", "comesTo", "(II)I"⟩, 65), (⟨"MarketRingsModel", "boughtOf", "(III)I"⟩, 65), (⟨"MarketRingsModel", "clearsOf", "(II)I"⟩, 65), (⟨"MarketRingsModel", "findOthers", "(III)V"⟩, 65), (⟨"MarketRingsModel", "wouldGo", "(III)Z"⟩, 65), (⟨"MarketRingsModel", "goesRound", "()Z"⟩, 65), (⟨"MarketRingsModel", "findRings", "(I)V"⟩, 65), (⟨"MarketRingsModel", "findMarks", "(I)V"⟩, 65), (⟨"MarketRingsModel", "marksAt", "(JJ)V"⟩, 65), (⟨"MarketRingsModel", "isRinged", "(I)Z"⟩, 65), (⟨"MarketRingsModel", "slope", "(II)J"⟩, 65), (⟨"MarketRingsModel", "useAt", "(IJJ)I"⟩, 65)]
theorem lw_r4 : ∀ q ∈ lw_privs_4, lw_okq q := List.forall_mem_cons.mpr ⟨lw_p48, List.forall_mem_cons.mpr ⟨lw_p49, List.forall_mem_cons.mpr ⟨lw_p50, List.forall_mem_cons.mpr ⟨lw_p51, List.forall_mem_cons.mpr ⟨lw_p52, List.forall_mem_cons.mpr ⟨lw_p53, List.forall_mem_cons.mpr ⟨lw_p54, List.forall_mem_cons.mpr ⟨lw_p55, List.forall_mem_cons.mpr ⟨lw_p56, List.forall_mem_cons.mpr ⟨lw_p57, List.forall_mem_cons.mpr ⟨lw_p58, List.forall_mem_cons.mpr ⟨lw_p59, List.forall_mem_cons.mpr ⟨lw_p60, List.forall_mem_cons.mpr ⟨lw_p61, List.forall_mem_cons.mpr ⟨lw_p62, List.forall_mem_cons.mpr ⟨lw_p63, fun _ h => absurd h List.not_mem_nil⟩⟩⟩⟩⟩⟩⟩⟩⟩⟩⟩⟩⟩⟩⟩⟩
theorem lw_p64 : lw_okq (⟨"MarketRingsModel", "isBorder", "(II)Z"⟩, 65) := ⟨⟨by decide +kernel, by decide +kernel⟩, List.mem_of_getElem? (i := 961) (by decide +kernel), List.mem_of_getElem? (i := 1441) (by decide +kernel), List.mem_of_getElem? (i := 1442) (by decide +kernel)⟩
theorem lw_p65 : lw_okq (⟨"MarketRingsModel", "isPlan", "(I)Z"⟩, 65) := ⟨⟨by decide +kernel, by decide +kernel⟩, List.mem_of_getElem? (i := 961) (by decide +kernel), List.mem_of_getElem? (i := 1454) (by decide +kernel), List.mem_of_getElem? (i := 1455) (by decide +kernel)⟩
theorem lw_p66 : lw_okq (⟨"MarketRingsModel", "isTaken", "(I)Z"⟩, 65) := ⟨⟨by decide +kernel, by decide +kernel⟩, List.mem_of_getElem? (i := 961) (by decide +kernel), List.mem_of_getElem? (i := 1458) (by decide +kernel), List.mem_of_getElem? (i := 1459) (by decide +kernel)⟩
theorem lw_p67 : lw_okq (⟨"MarketRingsModel", "findsWith", "(I)V"⟩, 65) := ⟨⟨by decide +kernel, by decide +kernel⟩, List.mem_of_getElem? (i := 961) (by decide +kernel), List.mem_of_getElem? (i := 1462) (by decide +kernel), List.mem_of_getElem? (i := 1463) (by decide +kernel)⟩
theorem lw_p68 : lw_okq (⟨"MarketRingsModel", "costOf", "(I)I"⟩, 65) := ⟨⟨by decide +kernel, by decide +kernel⟩, List.mem_of_getElem? (i := 961) (by decide +kernel), List.mem_of_getElem? (i := 1470) (by decide +kernel), List.mem_of_getElem? (i := 1471) (by decide +kernel)⟩
theorem lw_p69 : lw_okq (⟨"MarketRingsModel", "rentsBehind", "(I)J"⟩, 65) := ⟨⟨by decide +kernel, by decide +kernel⟩, List.mem_of_getElem? (i := 961) (by decide +kernel), List.mem_of_getElem? (i := 1495) (by decide +kernel), List.mem_of_getElem? (i := 1496) (by decide +kernel)⟩
theorem lw_p70 : lw_okq (⟨"MarketRingsModel", "passesAll", "()V"⟩, 65) := ⟨⟨by decide +kernel, by decide +kernel⟩, List.mem_of_getElem? (i := 961) (by decide +kernel), List.mem_of_getElem? (i := 1514) (by decide +kernel), List.mem_of_getElem? (i := 1515) (by decide +kernel)⟩
theorem lw_p71 : lw_okq (⟨"MarketRingsModel", "passes", "([I)V"⟩, 65) := ⟨⟨by decide +kernel, by decide +kernel⟩, List.mem_of_getElem? (i := 961) (by decide +kernel), List.mem_of_getElem? (i := 1518) (by decide +kernel), List.mem_of_getElem? (i := 1519) (by decide +kernel)⟩
theorem lw_p72 : lw_okq (⟨"MarketRingsModel", "passOne", "(I)I"⟩, 65) := ⟨⟨by decide +kernel, by decide +kernel⟩, List.mem_of_getElem? (i := 961) (by decide +kernel), List.mem_of_getElem? (i := 1522) (by decide +kernel), List.mem_of_getElem? (i := 1523) (by decide +kernel)⟩
def lw_privs_5 : List (MethodName × Nat) := [(⟨"MarketRingsModel", "isBorder", "(II)Z"⟩, 65), (⟨"MarketRingsModel", "isPlan", "(I)Z"⟩, 65), (⟨"MarketRingsModel", "isTaken", "(I)Z"⟩, 65), (⟨"MarketRingsModel", "findsWith", "(I)V"⟩, 65), (⟨"MarketRingsModel", "costOf", "(I)I"⟩, 65), (⟨"MarketRingsModel", "rentsBehind", "(I)J"⟩, 65), (⟨"MarketRingsModel", "passesAll", "()V"⟩, 65), (⟨"MarketRingsModel", "passes", "([I)V"⟩, 65), (⟨"MarketRingsModel", "passOne", "(I)I"⟩, 65)]
theorem lw_r5 : ∀ q ∈ lw_privs_5, lw_okq q := List.forall_mem_cons.mpr ⟨lw_p64, List.forall_mem_cons.mpr ⟨lw_p65, List.forall_mem_cons.mpr ⟨lw_p66, List.forall_mem_cons.mpr ⟨lw_p67, List.forall_mem_cons.mpr ⟨lw_p68, List.forall_mem_cons.mpr ⟨lw_p69, List.forall_mem_cons.mpr ⟨lw_p70, List.forall_mem_cons.mpr ⟨lw_p71, List.forall_mem_cons.mpr ⟨lw_p72, fun _ h => absurd h List.not_mem_nil⟩⟩⟩⟩⟩⟩⟩⟩⟩
def lw_privs : List (MethodName × Nat) := lw_privs_1 ++ (lw_privs_2 ++ (lw_privs_3 ++ (lw_privs_4 ++ (lw_privs_5))))
def lw_tbl : List Cond := k2_sels lw_privs ++ tables_1
theorem lw_privs_ok : ∀ q ∈ lw_privs, lw_okq q := by
  show ∀ q ∈ lw_privs_1 ++ (lw_privs_2 ++ (lw_privs_3 ++ (lw_privs_4 ++ (lw_privs_5)))), lw_okq q
  exact List.forall_mem_append.mpr ⟨lw_r1, List.forall_mem_append.mpr ⟨lw_r2, List.forall_mem_append.mpr ⟨lw_r3, List.forall_mem_append.mpr ⟨lw_r4, lw_r5⟩⟩⟩⟩
def RX0 : String := "MarketRings$Land"
def TX0 : u_T := fun k => match k with
  | 0 => ("MarketRings$Land", "wide", "I", false)
  | 1 => ("MarketRings$Land", "high", "I", false)
  | 2 => ("MarketRings$Land", "acres", "I", false)
  | 3 => ("MarketRings$Land", "roads", "I", false)
  | 4 => ("MarketRings$Land", "markets", "I", false)
  | 5 => ("MarketRings$Land", "told", "[I", true)
  | 6 => ("MarketRings$Land", "soils", "[I", true)
  | 7 => ("MarketRings$Land", "tolls", "[I", true)
  | 8 => ("MarketRings$Land", "owners", "[I", true)
  | 9 => ("MarketRings$Land", "idle", "[I", true)
  | 10 => ("MarketRings$Land", "links", "[I", true)
  | 11 => ("MarketRings$Land", "stalls", "[I", true)
  | _ => ("MarketRings$Land", "steps", "[I", true)
def tyX0 : Nat → FieldType := fun k => match k with
  | 0 => .int
  | 1 => .int
  | 2 => .int
  | 3 => .int
  | 4 => .int
  | 5 => .array .int
  | 6 => .array .int
  | 7 => .array .int
  | 8 => .array .int
  | 9 => .array .int
  | 10 => .array .int
  | 11 => .array .int
  | _ => .array .int
abbrev wsX00 : List Cond := u_ws RX0 TX0 13
theorem nmX0 : ∀ a, a < 13 → ∀ b, b < 13 → a ≠ b → (TX0 a).2.1 ≠ (TX0 b).2.1 := by decide +kernel
theorem tyX0_ok : ∀ k, k < 13 → parseFieldDescriptor (TX0 k).2.2.1 = some (tyX0 k) := by decide +kernel
abbrev cX0_init : ByteArray := prog_2_method_1_code
def yX0_init : MethodName := ⟨RX0, "<init>", "()V"⟩
abbrev cX0_layOut : ByteArray := prog_2_method_2_code
def yX0_layOut : MethodName := ⟨RX0, "layOut", "(LMarketRings$Tape;)V"⟩
abbrev cX0_clearAway : ByteArray := prog_2_method_3_code
def yX0_clearAway : MethodName := ⟨RX0, "clearAway", "()V"⟩
abbrev cX0_takeFrom : ByteArray := prog_2_method_4_code
def yX0_takeFrom : MethodName := ⟨RX0, "takeFrom", "(LMarketRings$Land;)V"⟩
abbrev cX0_placeOf : ByteArray := prog_2_method_5_code
def yX0_placeOf : MethodName := ⟨RX0, "placeOf", "(I)I"⟩
abbrev cX0_beside : ByteArray := prog_2_method_6_code
def yX0_beside : MethodName := ⟨RX0, "beside", "(II)I"⟩
abbrev cX0_sideTowards : ByteArray := prog_2_method_7_code
def yX0_sideTowards : MethodName := ⟨RX0, "sideTowards", "(II)I"⟩
abbrev cX0_roadAt : ByteArray := prog_2_method_8_code
def yX0_roadAt : MethodName := ⟨RX0, "roadAt", "(II)I"⟩
abbrev cX0_layRoad : ByteArray := prog_2_method_9_code
def yX0_layRoad : MethodName := ⟨RX0, "layRoad", "(III)V"⟩
abbrev cX0_marketOn : ByteArray := prog_2_method_10_code
def yX0_marketOn : MethodName := ⟨RX0, "marketOn", "(I)I"⟩
abbrev cX0_idleAcres : ByteArray := prog_2_method_11_code
def yX0_idleAcres : MethodName := ⟨RX0, "idleAcres", "()I"⟩
def RX1 : String := "MarketRings$Offers"
def TX1 : u_T := fun k => match k with
  | 0 => ("MarketRings$Offers", "world", "LMarketRings$World;", true)
  | 1 => ("MarketRings$Offers", "ways", "LMarketRings$Ways;", true)
  | 2 => ("MarketRings$Offers", "bids", "[J", true)
  | 3 => ("MarketRings$Offers", "takers", "[I", true)
  | 4 => ("MarketRings$Offers", "land", "LMarketRings$Land;", true)
  | 5 => ("MarketRings$Offers", "uses", "LMarketRings$Uses;", true)
  | 6 => ("MarketRings$Offers", "waysKnown", "Z", false)
  | _ => ("MarketRings$Offers", "bidsKnown", "Z", false)
def tyX1 : Nat → FieldType := fun k => match k with
  | 0 => .object "MarketRings$World"
  | 1 => .object "MarketRings$Ways"
  | 2 => .array .long
  | 3 => .array .int
  | 4 => .object "MarketRings$Land"
  | 5 => .object "MarketRings$Uses"
  | 6 => .boolean
  | _ => .boolean
abbrev wsX10 : List Cond := u_ws RX1 TX1 8
theorem nmX1 : ∀ a, a < 8 → ∀ b, b < 8 → a ≠ b → (TX1 a).2.1 ≠ (TX1 b).2.1 := by decide +kernel
theorem tyX1_ok : ∀ k, k < 8 → parseFieldDescriptor (TX1 k).2.2.1 = some (tyX1 k) := by decide +kernel
abbrev cX1_init : ByteArray := prog_3_method_1_code
def yX1_init : MethodName := ⟨RX1, "<init>", "()V"⟩
abbrev cX1_forgetWays : ByteArray := prog_3_method_2_code
def yX1_forgetWays : MethodName := ⟨RX1, "forgetWays", "()V"⟩
abbrev cX1_forgetBids : ByteArray := prog_3_method_3_code
def yX1_forgetBids : MethodName := ⟨RX1, "forgetBids", "()V"⟩
abbrev cX1_settle : ByteArray := prog_3_method_4_code
def yX1_settle : MethodName := ⟨RX1, "settle", "()V"⟩
abbrev cX1_reckonBids : ByteArray := prog_3_method_5_code
def yX1_reckonBids : MethodName := ⟨RX1, "reckonBids", "()V"⟩
abbrev cX1_reckonOffer : ByteArray := prog_3_method_6_code
def yX1_reckonOffer : MethodName := ⟨RX1, "reckonOffer", "(I)V"⟩
abbrev cX1_wayOf : ByteArray := prog_3_method_7_code
def yX1_wayOf : MethodName := ⟨RX1, "wayOf", "(II)I"⟩
abbrev cX1_takerOf : ByteArray := prog_3_method_8_code
def yX1_takerOf : MethodName := ⟨RX1, "takerOf", "(I)I"⟩
abbrev cX1_greatest : ByteArray := prog_3_method_9_code
def yX1_greatest : MethodName := ⟨RX1, "greatest", "(II)I"⟩
abbrev cX1_rentAt : ByteArray := prog_3_method_10_code
def yX1_rentAt : MethodName := ⟨RX1, "rentAt", "(I)J"⟩
abbrev cX1_rentBy : ByteArray := prog_3_method_11_code
def yX1_rentBy : MethodName := ⟨RX1, "rentBy", "(II)J"⟩
abbrev cX1_allRents : ByteArray := prog_3_method_12_code
def yX1_allRents : MethodName := ⟨RX1, "allRents", "()J"⟩
abbrev cX1_rentsOf : ByteArray := prog_3_method_13_code
def yX1_rentsOf : MethodName := ⟨RX1, "rentsOf", "(I)J"⟩
abbrev cX1_arriving : ByteArray := prog_3_method_14_code
def yX1_arriving : MethodName := ⟨RX1, "arriving", "(I)I"⟩
abbrev cX1_isTakenBy : ByteArray := prog_3_method_15_code
def yX1_isTakenBy : MethodName := ⟨RX1, "isTakenBy", "(II)Z"⟩
abbrev cX1_farthest : ByteArray := prog_3_method_16_code
def yX1_farthest : MethodName := ⟨RX1, "farthest", "(I)I"⟩
abbrev cX1_borderPairs : ByteArray := prog_3_method_17_code
def yX1_borderPairs : MethodName := ⟨RX1, "borderPairs", "()I"⟩
abbrev cX1_isBorder : ByteArray := prog_3_method_18_code
def yX1_isBorder : MethodName := ⟨RX1, "isBorder", "(II)Z"⟩
abbrev cX1_wasteAcres : ByteArray := prog_3_method_19_code
def yX1_wasteAcres : MethodName := ⟨RX1, "wasteAcres", "()I"⟩
abbrev cX1_fallingWaste : ByteArray := prog_3_method_20_code
def yX1_fallingWaste : MethodName := ⟨RX1, "fallingWaste", "(II)I"⟩
def RX2 : String := "MarketRings$Plans"
def TX2 : u_T := fun k => match k with
  | 0 => ("MarketRings$Plans", "number", "I", false)
  | 1 => ("MarketRings$Plans", "places", "[I", true)
  | 2 => ("MarketRings$Plans", "sides", "[I", true)
  | 3 => ("MarketRings$Plans", "kinds", "[I", true)
  | _ => ("MarketRings$Plans", "costs", "[I", true)
def tyX2 : Nat → FieldType := fun k => match k with
  | 0 => .int
  | 1 => .array .int
  | 2 => .array .int
  | 3 => .array .int
  | _ => .array .int
abbrev wsX20 : List Cond := u_ws RX2 TX2 5
theorem nmX2 : ∀ a, a < 5 → ∀ b, b < 5 → a ≠ b → (TX2 a).2.1 ≠ (TX2 b).2.1 := by decide +kernel
theorem tyX2_ok : ∀ k, k < 5 → parseFieldDescriptor (TX2 k).2.2.1 = some (tyX2 k) := by decide +kernel
abbrev cX2_init : ByteArray := prog_4_method_1_code
def yX2_init : MethodName := ⟨RX2, "<init>", "()V"⟩
abbrev cX2_append : ByteArray := prog_4_method_2_code
def yX2_append : MethodName := ⟨RX2, "append", "(IIII)I"⟩
abbrev cX2_takeFrom : ByteArray := prog_4_method_3_code
def yX2_takeFrom : MethodName := ⟨RX2, "takeFrom", "(LMarketRings$Plans;)V"⟩
def RX3 : String := "MarketRings$Rings"
def TX3 : u_T := fun k => match k with
  | 0 => ("MarketRings$Rings", "homes", "[J", true)
  | 1 => ("MarketRings$Rings", "slopes", "[J", true)
  | 2 => ("MarketRings$Rings", "cutsAbove", "[J", true)
  | 3 => ("MarketRings$Rings", "cutsBelow", "[J", true)
  | 4 => ("MarketRings$Rings", "cuts", "I", false)
  | 5 => ("MarketRings$Rings", "number", "I", false)
  | 6 => ("MarketRings$Rings", "takers", "[I", true)
  | 7 => ("MarketRings$Rings", "endsAbove", "[J", true)
  | _ => ("MarketRings$Rings", "endsBelow", "[J", true)
def tyX3 : Nat → FieldType := fun k => match k with
  | 0 => .array .long
  | 1 => .array .long
  | 2 => .array .long
  | 3 => .array .long
  | 4 => .int
  | 5 => .int
  | 6 => .array .int
  | 7 => .array .long
  | _ => .array .long
abbrev wsX30 : List Cond := u_ws RX3 TX3 9
theorem nmX3 : ∀ a, a < 9 → ∀ b, b < 9 → a ≠ b → (TX3 a).2.1 ≠ (TX3 b).2.1 := by decide +kernel
theorem tyX3_ok : ∀ k, k < 9 → parseFieldDescriptor (TX3 k).2.2.1 = some (tyX3 k) := by decide +kernel
abbrev cX3_init : ByteArray := prog_5_method_1_code
def yX3_init : MethodName := ⟨RX3, "<init>", "()V"⟩
abbrev cX3_reckon : ByteArray := prog_5_method_2_code
def yX3_reckon : MethodName := ⟨RX3, "reckon", "(LMarketRings$Uses;I)V"⟩
abbrev cX3_findCuts : ByteArray := prog_5_method_3_code
def yX3_findCuts : MethodName := ⟨RX3, "findCuts", "(LMarketRings$Uses;I)V"⟩
abbrev cX3_addCut : ByteArray := prog_5_method_4_code
def yX3_addCut : MethodName := ⟨RX3, "addCut", "(JJ)V"⟩
abbrev cX3_takerAt : ByteArray := prog_5_method_5_code
def yX3_takerAt : MethodName := ⟨RX3, "takerAt", "(LMarketRings$Uses;JJ)I"⟩
abbrev cX3_isThere : ByteArray := prog_5_method_6_code
def yX3_isThere : MethodName := ⟨RX3, "isThere", "(IJJ)Z"⟩
abbrev cX3_extend : ByteArray := prog_5_method_7_code
def yX3_extend : MethodName := ⟨RX3, "extend", "(IZI)V"⟩
abbrev cX3_commonDivisor : ByteArray := prog_5_method_8_code
def yX3_commonDivisor : MethodName := ⟨RX3, "commonDivisor", "(JJ)J"⟩
def RX4 : String := "MarketRings$Row"
def TX4 : u_T := fun k => match k with
  | 0 => ("MarketRings$Row", "bytes", "[I", true)
  | _ => ("MarketRings$Row", "length", "I", false)
def tyX4 : Nat → FieldType := fun k => match k with
  | 0 => .array .int
  | _ => .int
abbrev wsX40 : List Cond := u_ws RX4 TX4 2
theorem nmX4 : ∀ a, a < 2 → ∀ b, b < 2 → a ≠ b → (TX4 a).2.1 ≠ (TX4 b).2.1 := by decide +kernel
theorem tyX4_ok : ∀ k, k < 2 → parseFieldDescriptor (TX4 k).2.2.1 = some (tyX4 k) := by decide +kernel
abbrev cX4_init : ByteArray := prog_6_method_1_code
def yX4_init : MethodName := ⟨RX4, "<init>", "()V"⟩
abbrev cX4_append : ByteArray := prog_6_method_2_code
def yX4_append : MethodName := ⟨RX4, "append", "(I)V"⟩
abbrev cX4_firstWrong : ByteArray := prog_6_method_3_code
def yX4_firstWrong : MethodName := ⟨RX4, "firstWrong", "(LMarketRings$Offers;)I"⟩
def RX5 : String := "MarketRings$Tape"
def TX5 : u_T := fun k => match k with
  | 0 => ("MarketRings$Tape", "bytes", "[I", true)
  | _ => ("MarketRings$Tape", "length", "I", false)
def tyX5 : Nat → FieldType := fun k => match k with
  | 0 => .array .int
  | _ => .int
abbrev wsX50 : List Cond := u_ws RX5 TX5 2
theorem nmX5 : ∀ a, a < 2 → ∀ b, b < 2 → a ≠ b → (TX5 a).2.1 ≠ (TX5 b).2.1 := by decide +kernel
theorem tyX5_ok : ∀ k, k < 2 → parseFieldDescriptor (TX5 k).2.2.1 = some (tyX5 k) := by decide +kernel
abbrev cX5_init : ByteArray := prog_7_method_1_code
def yX5_init : MethodName := ⟨RX5, "<init>", "()V"⟩
abbrev cX5_append : ByteArray := prog_7_method_2_code
def yX5_append : MethodName := ⟨RX5, "append", "(IJ)V"⟩
abbrev cX5_firstFault : ByteArray := prog_7_method_3_code
def yX5_firstFault : MethodName := ⟨RX5, "firstFault", "()I"⟩
abbrev cX5_isDigit : ByteArray := prog_7_method_4_code
def yX5_isDigit : MethodName := ⟨RX5, "isDigit", "(I)Z"⟩
def RX6 : String := "MarketRings$Trade"
def TX6 : u_T := fun k => match k with
  | 0 => ("MarketRings$Trade", "leastPrices", "[I", true)
  | 1 => ("MarketRings$Trade", "yields", "[I", true)
  | 2 => ("MarketRings$Trade", "savedPrices", "[I", true)
  | _ => ("MarketRings$Trade", "savedBids", "[J", true)
def tyX6 : Nat → FieldType := fun k => match k with
  | 0 => .array .int
  | 1 => .array .int
  | 2 => .array .int
  | _ => .array .long
abbrev wsX60 : List Cond := u_ws RX6 TX6 4
theorem nmX6 : ∀ a, a < 4 → ∀ b, b < 4 → a ≠ b → (TX6 a).2.1 ≠ (TX6 b).2.1 := by decide +kernel
theorem tyX6_ok : ∀ k, k < 4 → parseFieldDescriptor (TX6 k).2.2.1 = some (tyX6 k) := by decide +kernel
abbrev cX6_init : ByteArray := prog_8_method_1_code
def yX6_init : MethodName := ⟨RX6, "<init>", "()V"⟩
abbrev cX6_clearingPrice : ByteArray := prog_8_method_2_code
def yX6_clearingPrice : MethodName := ⟨RX6, "clearingPrice", "(LMarketRings$Offers;I)I"⟩
abbrev cX6_comingAt : ByteArray := prog_8_method_3_code
def yX6_comingAt : MethodName := ⟨RX6, "comingAt", "(II)I"⟩
abbrev cX6_leastPriceFor : ByteArray := prog_8_method_4_code
def yX6_leastPriceFor : MethodName := ⟨RX6, "leastPriceFor", "(LMarketRings$Offers;II)I"⟩
abbrev cX6_runRounds : ByteArray := prog_8_method_5_code
def yX6_runRounds : MethodName := ⟨RX6, "runRounds", "(LMarketRings$Offers;I)I"⟩
abbrev cX6_runRound : ByteArray := prog_8_method_6_code
def yX6_runRound : MethodName := ⟨RX6, "runRound", "(LMarketRings$Offers;)Z"⟩
abbrev cX6_bestToHold : ByteArray := prog_8_method_7_code
def yX6_bestToHold : MethodName := ⟨RX6, "bestToHold", "(LMarketRings$Offers;I)I"⟩
abbrev cX6_rentsAfterRound : ByteArray := prog_8_method_8_code
def yX6_rentsAfterRound : MethodName := ⟨RX6, "rentsAfterRound", "(LMarketRings$Offers;I)J"⟩
def RX7 : String := "MarketRings$Uses"
def TX7 : u_T := fun k => match k with
  | 0 => ("MarketRings$Uses", "number", "I", false)
  | 1 => ("MarketRings$Uses", "rentTax", "I", false)
  | 2 => ("MarketRings$Uses", "kinds", "[I", true)
  | 3 => ("MarketRings$Uses", "bases", "[I", true)
  | 4 => ("MarketRings$Uses", "mores", "[I", true)
  | 5 => ("MarketRings$Uses", "costs", "[I", true)
  | 6 => ("MarketRings$Uses", "fares", "[I", true)
  | 7 => ("MarketRings$Uses", "taxes", "[I", true)
  | 8 => ("MarketRings$Uses", "years", "[I", true)
  | 9 => ("MarketRings$Uses", "yearSums", "[I", true)
  | 10 => ("MarketRings$Uses", "prices", "[I", true)
  | 11 => ("MarketRings$Uses", "pieces", "[I", true)
  | 12 => ("MarketRings$Uses", "pieceMuch", "[I", true)
  | _ => ("MarketRings$Uses", "piecePrices", "[I", true)
def tyX7 : Nat → FieldType := fun k => match k with
  | 0 => .int
  | 1 => .int
  | 2 => .array .int
  | 3 => .array .int
  | 4 => .array .int
  | 5 => .array .int
  | 6 => .array .int
  | 7 => .array .int
  | 8 => .array .int
  | 9 => .array .int
  | 10 => .array .int
  | 11 => .array .int
  | 12 => .array .int
  | _ => .array .int
abbrev wsX70 : List Cond := u_ws RX7 TX7 14
theorem nmX7 : ∀ a, a < 14 → ∀ b, b < 14 → a ≠ b → (TX7 a).2.1 ≠ (TX7 b).2.1 := by decide +kernel
theorem tyX7_ok : ∀ k, k < 14 → parseFieldDescriptor (TX7 k).2.2.1 = some (tyX7 k) := by decide +kernel
abbrev cX7_init : ByteArray := prog_9_method_1_code
def yX7_init : MethodName := ⟨RX7, "<init>", "()V"⟩
abbrev cX7_append : ByteArray := prog_9_method_2_code
def yX7_append : MethodName := ⟨RX7, "append", "(IIIII)I"⟩
abbrev cX7_appendPiece : ByteArray := prog_9_method_3_code
def yX7_appendPiece : MethodName := ⟨RX7, "appendPiece", "(III)V"⟩
abbrev cX7_takeFrom : ByteArray := prog_9_method_4_code
def yX7_takeFrom : MethodName := ⟨RX7, "takeFrom", "(LMarketRings$Uses;)V"⟩
abbrev cX7_yieldOn : ByteArray := prog_9_method_5_code
def yX7_yieldOn : MethodName := ⟨RX7, "yieldOn", "(II)I"⟩
abbrev cX7_reckonedPrice : ByteArray := prog_9_method_6_code
def yX7_reckonedPrice : MethodName := ⟨RX7, "reckonedPrice", "(I)I"⟩
abbrev cX7_payAtHome : ByteArray := prog_9_method_7_code
def yX7_payAtHome : MethodName := ⟨RX7, "payAtHome", "(II)J"⟩
abbrev cX7_carriage : ByteArray := prog_9_method_8_code
def yX7_carriage : MethodName := ⟨RX7, "carriage", "(II)J"⟩
abbrev cX7_canGo : ByteArray := prog_9_method_9_code
def yX7_canGo : MethodName := ⟨RX7, "canGo", "(II)Z"⟩
abbrev cX7_boughtAt : ByteArray := prog_9_method_10_code
def yX7_boughtAt : MethodName := ⟨RX7, "boughtAt", "(II)I"⟩
def RX8 : String := "MarketRings$Ways"
def TX8 : u_T := fun k => match k with
  | 0 => ("MarketRings$Ways", "byRoad", "[I", true)
  | 1 => ("MarketRings$Ways", "onFoot", "[I", true)
  | 2 => ("MarketRings$Ways", "asked", "[I", true)
  | 3 => ("MarketRings$Ways", "next", "[I", true)
  | 4 => ("MarketRings$Ways", "roadFees", "[I", true)
  | _ => ("MarketRings$Ways", "footFees", "[I", true)
def tyX8 : Nat → FieldType := fun k => match k with
  | 0 => .array .int
  | 1 => .array .int
  | 2 => .array .int
  | 3 => .array .int
  | 4 => .array .int
  | _ => .array .int
abbrev wsX80 : List Cond := u_ws RX8 TX8 6
theorem nmX8 : ∀ a, a < 6 → ∀ b, b < 6 → a ≠ b → (TX8 a).2.1 ≠ (TX8 b).2.1 := by decide +kernel
theorem tyX8_ok : ∀ k, k < 6 → parseFieldDescriptor (TX8 k).2.2.1 = some (tyX8 k) := by decide +kernel
abbrev cX8_init : ByteArray := prog_10_method_1_code
def yX8_init : MethodName := ⟨RX8, "<init>", "()V"⟩
abbrev cX8_reckonFoot : ByteArray := prog_10_method_2_code
def yX8_reckonFoot : MethodName := ⟨RX8, "reckonFoot", "(LMarketRings$Land;)V"⟩
abbrev cX8_reckonRoads : ByteArray := prog_10_method_3_code
def yX8_reckonRoads : MethodName := ⟨RX8, "reckonRoads", "(LMarketRings$Land;)V"⟩
abbrev cX8_between : ByteArray := prog_10_method_4_code
def yX8_between : MethodName := ⟨RX8, "between", "(LMarketRings$Land;II)I"⟩
abbrev cX8_search : ByteArray := prog_10_method_5_code
def yX8_search : MethodName := ⟨RX8, "search", "(II[I[II)V"⟩
abbrev cX8_leastFrom : ByteArray := prog_10_method_6_code
def yX8_leastFrom : MethodName := ⟨RX8, "leastFrom", "(I[I[II)I"⟩
def RX9 : String := "MarketRings$Works"
def TX9 : u_T := fun k => match k with
  | _ => ("MarketRings$Works", "rentsBefore", "[J", true)
def tyX9 : Nat → FieldType := fun k => match k with
  | _ => .array .long
abbrev wsX90 : List Cond := u_ws RX9 TX9 1
theorem nmX9 : ∀ a, a < 1 → ∀ b, b < 1 → a ≠ b → (TX9 a).2.1 ≠ (TX9 b).2.1 := by decide +kernel
theorem tyX9_ok : ∀ k, k < 1 → parseFieldDescriptor (TX9 k).2.2.1 = some (tyX9 k) := by decide +kernel
abbrev cX9_init : ByteArray := prog_11_method_1_code
def yX9_init : MethodName := ⟨RX9, "<init>", "()V"⟩
abbrev cX9_isBuilt : ByteArray := prog_11_method_2_code
def yX9_isBuilt : MethodName := ⟨RX9, "isBuilt", "(LMarketRings$World;I)Z"⟩
abbrev cX9_isAnyBuilt : ByteArray := prog_11_method_3_code
def yX9_isAnyBuilt : MethodName := ⟨RX9, "isAnyBuilt", "(LMarketRings$World;)Z"⟩
abbrev cX9_gainOf : ByteArray := prog_11_method_4_code
def yX9_gainOf : MethodName := ⟨RX9, "gainOf", "(LMarketRings$Offers;I)J"⟩
abbrev cX9_losersBy : ByteArray := prog_11_method_5_code
def yX9_losersBy : MethodName := ⟨RX9, "losersBy", "(LMarketRings$Offers;I)I"⟩
abbrev cX9_bestSet : ByteArray := prog_11_method_6_code
def yX9_bestSet : MethodName := ⟨RX9, "bestSet", "(LMarketRings$Offers;I)I"⟩
abbrev cX9_costOf : ByteArray := prog_11_method_7_code
def yX9_costOf : MethodName := ⟨RX9, "costOf", "(LMarketRings$Plans;I)I"⟩
abbrev cX9_build : ByteArray := prog_11_method_8_code
def yX9_build : MethodName := ⟨RX9, "build", "(LMarketRings$Offers;I)V"⟩
abbrev cX9_tearDown : ByteArray := prog_11_method_9_code
def yX9_tearDown : MethodName := ⟨RX9, "tearDown", "(LMarketRings$Offers;I)V"⟩
abbrev cX9_layRoads : ByteArray := prog_11_method_10_code
def yX9_layRoads : MethodName := ⟨RX9, "layRoads", "(LMarketRings$World;IZ)V"⟩
def RX10 : String := "MarketRings$World"
def TX10 : u_T := fun k => match k with
  | 0 => ("MarketRings$World", "land", "LMarketRings$Land;", true)
  | 1 => ("MarketRings$World", "uses", "LMarketRings$Uses;", true)
  | _ => ("MarketRings$World", "plans", "LMarketRings$Plans;", true)
def tyX10 : Nat → FieldType := fun k => match k with
  | 0 => .object "MarketRings$Land"
  | 1 => .object "MarketRings$Uses"
  | _ => .object "MarketRings$Plans"
abbrev wsX100 : List Cond := u_ws RX10 TX10 3
theorem nmX10 : ∀ a, a < 3 → ∀ b, b < 3 → a ≠ b → (TX10 a).2.1 ≠ (TX10 b).2.1 := by decide +kernel
theorem tyX10_ok : ∀ k, k < 3 → parseFieldDescriptor (TX10 k).2.2.1 = some (tyX10 k) := by decide +kernel
abbrev cX10_init : ByteArray := prog_12_method_1_code
def yX10_init : MethodName := ⟨RX10, "<init>", "()V"⟩
abbrev cX10_takeFrom : ByteArray := prog_12_method_2_code
def yX10_takeFrom : MethodName := ⟨RX10, "takeFrom", "(LMarketRings$World;)V"⟩
def RX11 : String := "MarketRings"
def TX11 : u_T := fun k => match k with
  | 0 => ("MarketRings", "tape", "LMarketRings$Tape;", true)
  | 1 => ("MarketRings", "row", "LMarketRings$Row;", true)
  | 2 => ("MarketRings", "offers", "LMarketRings$Offers;", true)
  | 3 => ("MarketRings", "world", "LMarketRings$World;", true)
  | 4 => ("MarketRings", "land", "LMarketRings$Land;", true)
  | 5 => ("MarketRings", "uses", "LMarketRings$Uses;", true)
  | 6 => ("MarketRings", "plans", "LMarketRings$Plans;", true)
  | 7 => ("MarketRings", "kept", "LMarketRings$World;", true)
  | 8 => ("MarketRings", "isKept", "Z", false)
  | 9 => ("MarketRings", "trade", "LMarketRings$Trade;", true)
  | 10 => ("MarketRings", "works", "LMarketRings$Works;", true)
  | 11 => ("MarketRings", "rings", "LMarketRings$Rings;", true)
  | _ => ("MarketRings", "refusals", "[I", true)
def tyX11 : Nat → FieldType := fun k => match k with
  | 0 => .object "MarketRings$Tape"
  | 1 => .object "MarketRings$Row"
  | 2 => .object "MarketRings$Offers"
  | 3 => .object "MarketRings$World"
  | 4 => .object "MarketRings$Land"
  | 5 => .object "MarketRings$Uses"
  | 6 => .object "MarketRings$Plans"
  | 7 => .object "MarketRings$World"
  | 8 => .boolean
  | 9 => .object "MarketRings$Trade"
  | 10 => .object "MarketRings$Works"
  | 11 => .object "MarketRings$Rings"
  | _ => .array .int
abbrev wsX110 : List Cond := u_ws RX11 TX11 13
theorem nmX11 : ∀ a, a < 13 → ∀ b, b < 13 → a ≠ b → (TX11 a).2.1 ≠ (TX11 b).2.1 := by decide +kernel
theorem tyX11_ok : ∀ k, k < 13 → parseFieldDescriptor (TX11 k).2.2.1 = some (tyX11 k) := by decide +kernel
abbrev cX11_init : ByteArray := prog_1_method_1_code
def yX11_init : MethodName := ⟨RX11, "<init>", "()V"⟩
abbrev cX11_feed : ByteArray := prog_1_method_2_code
def yX11_feed : MethodName := ⟨RX11, "feed", "(IJ)I"⟩
abbrev cX11_read : ByteArray := prog_1_method_3_code
def yX11_read : MethodName := ⟨RX11, "read", "()I"⟩
abbrev cX11_acre : ByteArray := prog_1_method_4_code
def yX11_acre : MethodName := ⟨RX11, "acre", "(II)I"⟩
abbrev cX11_road : ByteArray := prog_1_method_5_code
def yX11_road : MethodName := ⟨RX11, "road", "(III)I"⟩
abbrev cX11_step : ByteArray := prog_1_method_6_code
def yX11_step : MethodName := ⟨RX11, "step", "(II)I"⟩
abbrev cX11_toll : ByteArray := prog_1_method_7_code
def yX11_toll : MethodName := ⟨RX11, "toll", "(II)I"⟩
abbrev cX11_way : ByteArray := prog_1_method_8_code
def yX11_way : MethodName := ⟨RX11, "way", "(II)I"⟩
abbrev cX11_market : ByteArray := prog_1_method_9_code
def yX11_market : MethodName := ⟨RX11, "market", "(I)I"⟩
abbrev cX11_use : ByteArray := prog_1_method_10_code
def yX11_use : MethodName := ⟨RX11, "use", "(IIIII)I"⟩
abbrev cX11_year : ByteArray := prog_1_method_11_code
def yX11_year : MethodName := ⟨RX11, "year", "(II)I"⟩
abbrev cX11_price : ByteArray := prog_1_method_12_code
def yX11_price : MethodName := ⟨RX11, "price", "(III)I"⟩
abbrev cX11_tax : ByteArray := prog_1_method_13_code
def yX11_tax : MethodName := ⟨RX11, "tax", "(II)I"⟩
abbrev cX11_rentTax : ByteArray := prog_1_method_14_code
def yX11_rentTax : MethodName := ⟨RX11, "rentTax", "(I)I"⟩
abbrev cX11_bid : ByteArray := prog_1_method_15_code
def yX11_bid : MethodName := ⟨RX11, "bid", "(III)J"⟩
abbrev cX11_goes : ByteArray := prog_1_method_16_code
def yX11_goes : MethodName := ⟨RX11, "goes", "(II)I"⟩
abbrev cX11_rent : ByteArray := prog_1_method_17_code
def yX11_rent : MethodName := ⟨RX11, "rent", "(I)J"⟩
abbrev cX11_comes : ByteArray := prog_1_method_18_code
def yX11_comes : MethodName := ⟨RX11, "comes", "(II)I"⟩
abbrev cX11_piece : ByteArray := prog_1_method_19_code
def yX11_piece : MethodName := ⟨RX11, "piece", "(IIII)I"⟩
abbrev cX11_bought : ByteArray := prog_1_method_20_code
def yX11_bought : MethodName := ⟨RX11, "bought", "(III)I"⟩
abbrev cX11_clears : ByteArray := prog_1_method_21_code
def yX11_clears : MethodName := ⟨RX11, "clears", "(II)I"⟩
abbrev cX11_rounds : ByteArray := prog_1_method_22_code
def yX11_rounds : MethodName := ⟨RX11, "rounds", "(I)I"⟩
abbrev cX11_ring : ByteArray := prog_1_method_23_code
def yX11_ring : MethodName := ⟨RX11, "ring", "(II)I"⟩
abbrev cX11_edge : ByteArray := prog_1_method_24_code
def yX11_edge : MethodName := ⟨RX11, "edge", "(III)J"⟩
abbrev cX11_unfitRing : ByteArray := prog_1_method_25_code
def yX11_unfitRing : MethodName := ⟨RX11, "unfitRing", "(II)I"⟩
abbrev cX11_out : ByteArray := prog_1_method_26_code
def yX11_out : MethodName := ⟨RX11, "out", "(I)I"⟩
abbrev cX11_borders : ByteArray := prog_1_method_27_code
def yX11_borders : MethodName := ⟨RX11, "borders", "()I"⟩
abbrev cX11_plan : ByteArray := prog_1_method_28_code
def yX11_plan : MethodName := ⟨RX11, "plan", "(IIII)I"⟩
abbrev cX11_gain : ByteArray := prog_1_method_29_code
def yX11_gain : MethodName := ⟨RX11, "gain", "(I)J"⟩
abbrev cX11_best : ByteArray := prog_1_method_30_code
def yX11_best : MethodName := ⟨RX11, "best", "(I)I"⟩
abbrev cX11_losers : ByteArray := prog_1_method_31_code
def yX11_losers : MethodName := ⟨RX11, "losers", "(I)I"⟩
abbrev cX11_unfitPlan : ByteArray := prog_1_method_32_code
def yX11_unfitPlan : MethodName := ⟨RX11, "unfitPlan", "(I)I"⟩
abbrev cX11_falls : ByteArray := prog_1_method_33_code
def yX11_falls : MethodName := ⟨RX11, "falls", "(II)I"⟩
abbrev cX11_own : ByteArray := prog_1_method_34_code
def yX11_own : MethodName := ⟨RX11, "own", "(II)I"⟩
abbrev cX11_held : ByteArray := prog_1_method_35_code
def yX11_held : MethodName := ⟨RX11, "held", "(IZ)I"⟩
abbrev cX11_hold : ByteArray := prog_1_method_36_code
def yX11_hold : MethodName := ⟨RX11, "hold", "(I)I"⟩
abbrev cX11_put : ByteArray := prog_1_method_37_code
def yX11_put : MethodName := ⟨RX11, "put", "(I)I"⟩
abbrev cX11_judge : ByteArray := prog_1_method_38_code
def yX11_judge : MethodName := ⟨RX11, "judge", "()I"⟩
abbrev cX11_image : ByteArray := prog_1_method_39_code
def yX11_image : MethodName := ⟨RX11, "image", "()I"⟩
abbrev cX11_on : ByteArray := prog_1_method_40_code
def yX11_on : MethodName := ⟨RX11, "on", "()I"⟩
abbrev cX11_count : ByteArray := prog_1_method_41_code
def yX11_count : MethodName := ⟨RX11, "count", "(I)I"⟩
abbrev cX11_refuse : ByteArray := prog_1_method_42_code
def yX11_refuse : MethodName := ⟨RX11, "refuse", "(I)I"⟩
abbrev cX11_refuseLong : ByteArray := prog_1_method_43_code
def yX11_refuseLong : MethodName := ⟨RX11, "refuseLong", "(I)J"⟩
abbrev cX11_unfit : ByteArray := prog_1_method_44_code
def yX11_unfit : MethodName := ⟨RX11, "unfit", "(III)I"⟩
abbrev cX11_isNoUse : ByteArray := prog_1_method_45_code
def yX11_isNoUse : MethodName := ⟨RX11, "isNoUse", "(I)Z"⟩
abbrev cX11_isNoMarket : ByteArray := prog_1_method_46_code
def yX11_isNoMarket : MethodName := ⟨RX11, "isNoMarket", "(I)Z"⟩
abbrev cX11_offerOf : ByteArray := prog_1_method_47_code
def yX11_offerOf : MethodName := ⟨RX11, "offerOf", "(II)I"⟩
def RX12 : String := "MarketRingsModel"
def TX12 : u_T := fun k => match k with
  | 0 => ("MarketRingsModel", "refused", "[I", true)
  | 1 => ("MarketRingsModel", "tape", "[I", true)
  | 2 => ("MarketRingsModel", "soil", "[I", true)
  | 3 => ("MarketRingsModel", "toll", "[I", true)
  | 4 => ("MarketRingsModel", "owner", "[I", true)
  | 5 => ("MarketRingsModel", "readSoil", "[I", true)
  | 6 => ("MarketRingsModel", "isHeld", "[Z", true)
  | 7 => ("MarketRingsModel", "taped", "I", false)
  | 8 => ("MarketRingsModel", "wide", "I", false)
  | 9 => ("MarketRingsModel", "high", "I", false)
  | 10 => ("MarketRingsModel", "at", "I", false)
  | 11 => ("MarketRingsModel", "readWide", "I", false)
  | 12 => ("MarketRingsModel", "readHigh", "I", false)
  | 13 => ("MarketRingsModel", "roadA", "[I", true)
  | 14 => ("MarketRingsModel", "roadB", "[I", true)
  | 15 => ("MarketRingsModel", "roadKind", "[I", true)
  | 16 => ("MarketRingsModel", "steps", "[I", true)
  | 17 => ("MarketRingsModel", "roads", "I", false)
  | 18 => ("MarketRingsModel", "way", "[I", true)
  | 19 => ("MarketRingsModel", "eastOf", "[I", true)
  | 20 => ("MarketRingsModel", "southOf", "[I", true)
  | 21 => ("MarketRingsModel", "marketAt", "[I", true)
  | 22 => ("MarketRingsModel", "toMarket", "[I", true)
  | 23 => ("MarketRingsModel", "markets", "I", false)
  | 24 => ("MarketRingsModel", "kind", "[I", true)
  | 25 => ("MarketRingsModel", "base", "[I", true)
  | 26 => ("MarketRingsModel", "more", "[I", true)
  | 27 => ("MarketRingsModel", "cost", "[I", true)
  | 28 => ("MarketRingsModel", "fare", "[I", true)
  | 29 => ("MarketRingsModel", "tax", "[I", true)
  | 30 => ("MarketRingsModel", "year", "[I", true)
  | 31 => ("MarketRingsModel", "years", "[I", true)
  | 32 => ("MarketRingsModel", "price", "[I", true)
  | 33 => ("MarketRingsModel", "piece", "[I", true)
  | 34 => ("MarketRingsModel", "pieceAt", "[I", true)
  | 35 => ("MarketRingsModel", "pieces", "[I", true)
  | 36 => ("MarketRingsModel", "uses", "I", false)
  | 37 => ("MarketRingsModel", "rentTax", "I", false)
  | 38 => ("MarketRingsModel", "toUse", "[I", true)
  | 39 => ("MarketRingsModel", "toPlace", "[I", true)
  | 40 => ("MarketRingsModel", "bidIs", "[J", true)
  | 41 => ("MarketRingsModel", "markUp", "[J", true)
  | 42 => ("MarketRingsModel", "markDown", "[J", true)
  | 43 => ("MarketRingsModel", "edgeUp", "[J", true)
  | 44 => ("MarketRingsModel", "edgeDown", "[J", true)
  | 45 => ("MarketRingsModel", "ringUse", "[I", true)
  | 46 => ("MarketRingsModel", "marks", "I", false)
  | 47 => ("MarketRingsModel", "rings", "I", false)
  | 48 => ("MarketRingsModel", "planA", "[I", true)
  | 49 => ("MarketRingsModel", "planB", "[I", true)
  | 50 => ("MarketRingsModel", "planKind", "[I", true)
  | 51 => ("MarketRingsModel", "planCost", "[I", true)
  | 52 => ("MarketRingsModel", "keptA", "[I", true)
  | 53 => ("MarketRingsModel", "keptB", "[I", true)
  | 54 => ("MarketRingsModel", "keptKind", "[I", true)
  | 55 => ("MarketRingsModel", "plans", "I", false)
  | 56 => ("MarketRingsModel", "before", "[J", true)
  | 57 => ("MarketRingsModel", "went", "[Z", true)
  | 58 => ("MarketRingsModel", "keptPrice", "[I", true)
  | 59 => ("MarketRingsModel", "row", "[I", true)
  | 60 => ("MarketRingsModel", "rowMany", "I", false)
  | 61 => ("MarketRingsModel", "kept", "[I", true)
  | 62 => ("MarketRingsModel", "hasImage", "Z", false)
  | 63 => ("MarketRingsModel", "isKeeping", "Z", false)
  | _ => ("MarketRingsModel", "cursor", "I", false)
def tyX12 : Nat → FieldType := fun k => match k with
  | 0 => .array .int
  | 1 => .array .int
  | 2 => .array .int
  | 3 => .array .int
  | 4 => .array .int
  | 5 => .array .int
  | 6 => .array .boolean
  | 7 => .int
  | 8 => .int
  | 9 => .int
  | 10 => .int
  | 11 => .int
  | 12 => .int
  | 13 => .array .int
  | 14 => .array .int
  | 15 => .array .int
  | 16 => .array .int
  | 17 => .int
  | 18 => .array .int
  | 19 => .array .int
  | 20 => .array .int
  | 21 => .array .int
  | 22 => .array .int
  | 23 => .int
  | 24 => .array .int
  | 25 => .array .int
  | 26 => .array .int
  | 27 => .array .int
  | 28 => .array .int
  | 29 => .array .int
  | 30 => .array .int
  | 31 => .array .int
  | 32 => .array .int
  | 33 => .array .int
  | 34 => .array .int
  | 35 => .array .int
  | 36 => .int
  | 37 => .int
  | 38 => .array .int
  | 39 => .array .int
  | 40 => .array .long
  | 41 => .array .long
  | 42 => .array .long
  | 43 => .array .long
  | 44 => .array .long
  | 45 => .array .int
  | 46 => .int
  | 47 => .int
  | 48 => .array .int
  | 49 => .array .int
  | 50 => .array .int
  | 51 => .array .int
  | 52 => .array .int
  | 53 => .array .int
  | 54 => .array .int
  | 55 => .int
  | 56 => .array .long
  | 57 => .array .boolean
  | 58 => .array .int
  | 59 => .array .int
  | 60 => .int
  | 61 => .array .int
  | 62 => .boolean
  | 63 => .boolean
  | _ => .int
abbrev wsX120 : List Cond := u_ws RX12 TX12 65
theorem nmX12 : ∀ a, a < 65 → ∀ b, b < 65 → a ≠ b → (TX12 a).2.1 ≠ (TX12 b).2.1 := by decide +kernel
theorem tyX12_ok : ∀ k, k < 65 → parseFieldDescriptor (TX12 k).2.2.1 = some (tyX12 k) := by decide +kernel
abbrev cX12_init : ByteArray := prog_14_method_1_code
def yX12_init : MethodName := ⟨RX12, "<init>", "()V"⟩
abbrev cX12_no : ByteArray := prog_14_method_2_code
def yX12_no : MethodName := ⟨RX12, "no", "(I)I"⟩
abbrev cX12_noLong : ByteArray := prog_14_method_3_code
def yX12_noLong : MethodName := ⟨RX12, "noLong", "(I)J"⟩
abbrev cX12_isIn : ByteArray := prog_14_method_4_code
def yX12_isIn : MethodName := ⟨RX12, "isIn", "(JJJ)Z"⟩
abbrev cX12_outOf : ByteArray := prog_14_method_5_code
def yX12_outOf : MethodName := ⟨RX12, "outOf", "(JJJ)I"⟩
abbrev cX12_feed : ByteArray := prog_14_method_6_code
def yX12_feed : MethodName := ⟨RX12, "feed", "(IJ)I"⟩
abbrev cX12_sign : ByteArray := prog_14_method_7_code
def yX12_sign : MethodName := ⟨RX12, "sign", "()I"⟩
abbrev cX12_readsLine : ByteArray := prog_14_method_8_code
def yX12_readsLine : MethodName := ⟨RX12, "readsLine", "()Z"⟩
abbrev cX12_reads : ByteArray := prog_14_method_9_code
def yX12_reads : MethodName := ⟨RX12, "reads", "()Z"⟩
abbrev cX12_read : ByteArray := prog_14_method_10_code
def yX12_read : MethodName := ⟨RX12, "read", "()I"⟩
abbrev cX12_acreOf : ByteArray := prog_14_method_11_code
def yX12_acreOf : MethodName := ⟨RX12, "acreOf", "(I)I"⟩
abbrev cX12_isAcre : ByteArray := prog_14_method_12_code
def yX12_isAcre : MethodName := ⟨RX12, "isAcre", "(I)Z"⟩
abbrev cX12_told : ByteArray := prog_14_method_13_code
def yX12_told : MethodName := ⟨RX12, "told", "(I)I"⟩
abbrev cX12_acre : ByteArray := prog_14_method_14_code
def yX12_acre : MethodName := ⟨RX12, "acre", "(II)I"⟩
abbrev cX12_areBeside : ByteArray := prog_14_method_15_code
def yX12_areBeside : MethodName := ⟨RX12, "areBeside", "(II)Z"⟩
abbrev cX12_roadOf : ByteArray := prog_14_method_16_code
def yX12_roadOf : MethodName := ⟨RX12, "roadOf", "(II)I"⟩
abbrev cX12_puts : ByteArray := prog_14_method_17_code
def yX12_puts : MethodName := ⟨RX12, "puts", "(III)V"⟩
abbrev cX12_road : ByteArray := prog_14_method_18_code
def yX12_road : MethodName := ⟨RX12, "road", "(III)I"⟩
abbrev cX12_step : ByteArray := prog_14_method_19_code
def yX12_step : MethodName := ⟨RX12, "step", "(II)I"⟩
abbrev cX12_toll : ByteArray := prog_14_method_20_code
def yX12_toll : MethodName := ⟨RX12, "toll", "(II)I"⟩
abbrev cX12_stepOf : ByteArray := prog_14_method_21_code
def yX12_stepOf : MethodName := ⟨RX12, "stepOf", "(II)I"⟩
abbrev cX12_findWays : ByteArray := prog_14_method_22_code
def yX12_findWays : MethodName := ⟨RX12, "findWays", "(IZ)V"⟩
abbrev cX12_shortens : ByteArray := prog_14_method_23_code
def yX12_shortens : MethodName := ⟨RX12, "shortens", "(IZ)Z"⟩
abbrev cX12_way : ByteArray := prog_14_method_24_code
def yX12_way : MethodName := ⟨RX12, "way", "(II)I"⟩
abbrev cX12_marketOn : ByteArray := prog_14_method_25_code
def yX12_marketOn : MethodName := ⟨RX12, "marketOn", "(I)I"⟩
abbrev cX12_market : ByteArray := prog_14_method_26_code
def yX12_market : MethodName := ⟨RX12, "market", "(I)I"⟩
abbrev cX12_isMarket : ByteArray := prog_14_method_27_code
def yX12_isMarket : MethodName := ⟨RX12, "isMarket", "(I)Z"⟩
abbrev cX12_findMarketWays : ByteArray := prog_14_method_28_code
def yX12_findMarketWays : MethodName := ⟨RX12, "findMarketWays", "()V"⟩
abbrev cX12_isUse : ByteArray := prog_14_method_29_code
def yX12_isUse : MethodName := ⟨RX12, "isUse", "(I)Z"⟩
abbrev cX12_use : ByteArray := prog_14_method_30_code
def yX12_use : MethodName := ⟨RX12, "use", "(IIIII)I"⟩
abbrev cX12_year : ByteArray := prog_14_method_31_code
def yX12_year : MethodName := ⟨RX12, "year", "(II)I"⟩
abbrev cX12_price : ByteArray := prog_14_method_32_code
def yX12_price : MethodName := ⟨RX12, "price", "(III)I"⟩
abbrev cX12_tax : ByteArray := prog_14_method_33_code
def yX12_tax : MethodName := ⟨RX12, "tax", "(II)I"⟩
abbrev cX12_yieldOf : ByteArray := prog_14_method_34_code
def yX12_yieldOf : MethodName := ⟨RX12, "yieldOf", "(II)I"⟩
abbrev cX12_mean : ByteArray := prog_14_method_35_code
def yX12_mean : MethodName := ⟨RX12, "mean", "(I)I"⟩
abbrev cX12_fareOf : ByteArray := prog_14_method_36_code
def yX12_fareOf : MethodName := ⟨RX12, "fareOf", "(I)I"⟩
abbrev cX12_worth : ByteArray := prog_14_method_37_code
def yX12_worth : MethodName := ⟨RX12, "worth", "(III)J"⟩
abbrev cX12_wayOf : ByteArray := prog_14_method_38_code
def yX12_wayOf : MethodName := ⟨RX12, "wayOf", "(III)I"⟩
abbrev cX12_bidOf : ByteArray := prog_14_method_39_code
def yX12_bidOf : MethodName := ⟨RX12, "bidOf", "(III)J"⟩
abbrev cX12_bid : ByteArray := prog_14_method_40_code
def yX12_bid : MethodName := ⟨RX12, "bid", "(III)J"⟩
abbrev cX12_findGoing : ByteArray := prog_14_method_41_code
def yX12_findGoing : MethodName := ⟨RX12, "findGoing", "(I)V"⟩
abbrev cX12_finds : ByteArray := prog_14_method_42_code
def yX12_finds : MethodName := ⟨RX12, "finds", "()V"⟩
abbrev cX12_goes : ByteArray := prog_14_method_43_code
def yX12_goes : MethodName := ⟨RX12, "goes", "(II)I"⟩
abbrev cX12_rentOf : ByteArray := prog_14_method_44_code
def yX12_rentOf : MethodName := ⟨RX12, "rentOf", "(I)J"⟩
abbrev cX12_allRents : ByteArray := prog_14_method_45_code
def yX12_allRents : MethodName := ⟨RX12, "allRents", "()J"⟩
abbrev cX12_rent : ByteArray := prog_14_method_46_code
def yX12_rent : MethodName := ⟨RX12, "rent", "(I)J"⟩
abbrev cX12_comesTo : ByteArray := prog_14_method_47_code
def yX12_comesTo : MethodName := ⟨RX12, "comesTo", "(II)I"⟩
abbrev cX12_comes : ByteArray := prog_14_method_48_code
def yX12_comes : MethodName := ⟨RX12, "comes", "(II)I"⟩
abbrev cX12_piece : ByteArray := prog_14_method_49_code
def yX12_piece : MethodName := ⟨RX12, "piece", "(IIII)I"⟩
abbrev cX12_boughtOf : ByteArray := prog_14_method_50_code
def yX12_boughtOf : MethodName := ⟨RX12, "boughtOf", "(III)I"⟩
abbrev cX12_bought : ByteArray := prog_14_method_51_code
def yX12_bought : MethodName := ⟨RX12, "bought", "(III)I"⟩
abbrev cX12_wouldGo : ByteArray := prog_14_method_52_code
def yX12_wouldGo : MethodName := ⟨RX12, "wouldGo", "(III)Z"⟩
abbrev cX12_clearsOf : ByteArray := prog_14_method_53_code
def yX12_clearsOf : MethodName := ⟨RX12, "clearsOf", "(II)I"⟩
abbrev cX12_findOthers : ByteArray := prog_14_method_54_code
def yX12_findOthers : MethodName := ⟨RX12, "findOthers", "(III)V"⟩
abbrev cX12_clears : ByteArray := prog_14_method_55_code
def yX12_clears : MethodName := ⟨RX12, "clears", "(II)I"⟩
abbrev cX12_goesRound : ByteArray := prog_14_method_56_code
def yX12_goesRound : MethodName := ⟨RX12, "goesRound", "()Z"⟩
abbrev cX12_rounds : ByteArray := prog_14_method_57_code
def yX12_rounds : MethodName := ⟨RX12, "rounds", "(I)I"⟩
abbrev cX12_divisor : ByteArray := prog_14_method_58_code
def yX12_divisor : MethodName := ⟨RX12, "divisor", "(JJ)J"⟩
abbrev cX12_marksAt : ByteArray := prog_14_method_59_code
def yX12_marksAt : MethodName := ⟨RX12, "marksAt", "(JJ)V"⟩
abbrev cX12_isRinged : ByteArray := prog_14_method_60_code
def yX12_isRinged : MethodName := ⟨RX12, "isRinged", "(I)Z"⟩
abbrev cX12_slope : ByteArray := prog_14_method_61_code
def yX12_slope : MethodName := ⟨RX12, "slope", "(II)J"⟩
abbrev cX12_findMarks : ByteArray := prog_14_method_62_code
def yX12_findMarks : MethodName := ⟨RX12, "findMarks", "(I)V"⟩
abbrev cX12_useAt : ByteArray := prog_14_method_63_code
def yX12_useAt : MethodName := ⟨RX12, "useAt", "(IJJ)I"⟩
abbrev cX12_findRings : ByteArray := prog_14_method_64_code
def yX12_findRings : MethodName := ⟨RX12, "findRings", "(I)V"⟩
abbrev cX12_ring : ByteArray := prog_14_method_65_code
def yX12_ring : MethodName := ⟨RX12, "ring", "(II)I"⟩
abbrev cX12_edge : ByteArray := prog_14_method_66_code
def yX12_edge : MethodName := ⟨RX12, "edge", "(III)J"⟩
abbrev cX12_out : ByteArray := prog_14_method_67_code
def yX12_out : MethodName := ⟨RX12, "out", "(I)I"⟩
abbrev cX12_isBorder : ByteArray := prog_14_method_68_code
def yX12_isBorder : MethodName := ⟨RX12, "isBorder", "(II)Z"⟩
abbrev cX12_borders : ByteArray := prog_14_method_69_code
def yX12_borders : MethodName := ⟨RX12, "borders", "()I"⟩
abbrev cX12_plan : ByteArray := prog_14_method_70_code
def yX12_plan : MethodName := ⟨RX12, "plan", "(IIII)I"⟩
abbrev cX12_isPlan : ByteArray := prog_14_method_71_code
def yX12_isPlan : MethodName := ⟨RX12, "isPlan", "(I)Z"⟩
abbrev cX12_isTaken : ByteArray := prog_14_method_72_code
def yX12_isTaken : MethodName := ⟨RX12, "isTaken", "(I)Z"⟩
abbrev cX12_findsWith : ByteArray := prog_14_method_73_code
def yX12_findsWith : MethodName := ⟨RX12, "findsWith", "(I)V"⟩
abbrev cX12_gain : ByteArray := prog_14_method_74_code
def yX12_gain : MethodName := ⟨RX12, "gain", "(I)J"⟩
abbrev cX12_costOf : ByteArray := prog_14_method_75_code
def yX12_costOf : MethodName := ⟨RX12, "costOf", "(I)I"⟩
abbrev cX12_best : ByteArray := prog_14_method_76_code
def yX12_best : MethodName := ⟨RX12, "best", "(I)I"⟩
abbrev cX12_losers : ByteArray := prog_14_method_77_code
def yX12_losers : MethodName := ⟨RX12, "losers", "(I)I"⟩
abbrev cX12_falls : ByteArray := prog_14_method_78_code
def yX12_falls : MethodName := ⟨RX12, "falls", "(II)I"⟩
abbrev cX12_own : ByteArray := prog_14_method_79_code
def yX12_own : MethodName := ⟨RX12, "own", "(II)I"⟩
abbrev cX12_held : ByteArray := prog_14_method_80_code
def yX12_held : MethodName := ⟨RX12, "held", "(IZ)I"⟩
abbrev cX12_rentsBehind : ByteArray := prog_14_method_81_code
def yX12_rentsBehind : MethodName := ⟨RX12, "rentsBehind", "(I)J"⟩
abbrev cX12_hold : ByteArray := prog_14_method_82_code
def yX12_hold : MethodName := ⟨RX12, "hold", "(I)I"⟩
abbrev cX12_put : ByteArray := prog_14_method_83_code
def yX12_put : MethodName := ⟨RX12, "put", "(I)I"⟩
abbrev cX12_judge : ByteArray := prog_14_method_84_code
def yX12_judge : MethodName := ⟨RX12, "judge", "()I"⟩
abbrev cX12_passes : ByteArray := prog_14_method_85_code
def yX12_passes : MethodName := ⟨RX12, "passes", "([I)V"⟩
abbrev cX12_passOne : ByteArray := prog_14_method_86_code
def yX12_passOne : MethodName := ⟨RX12, "passOne", "(I)I"⟩
abbrev cX12_passesAll : ByteArray := prog_14_method_87_code
def yX12_passesAll : MethodName := ⟨RX12, "passesAll", "()V"⟩
abbrev cX12_image : ByteArray := prog_14_method_88_code
def yX12_image : MethodName := ⟨RX12, "image", "()I"⟩
abbrev cX12_on : ByteArray := prog_14_method_89_code
def yX12_on : MethodName := ⟨RX12, "on", "()I"⟩
abbrev cX12_count : ByteArray := prog_14_method_90_code
def yX12_count : MethodName := ⟨RX12, "count", "(I)I"⟩
def RJ9 : String := "java/lang/Math"
def TJ9 : u_T := fun k => match k with
  | _ => ("", "", "", false)
def tyJ9 : Nat → FieldType := fun k => match k with
  | _ => .int
abbrev wsJ90 : List Cond := u_ws RJ9 TJ9 0
theorem nmJ9 : ∀ a, a < 0 → ∀ b, b < 0 → a ≠ b → (TJ9 a).2.1 ≠ (TJ9 b).2.1 := by decide +kernel
theorem tyJ9_ok : ∀ k, k < 0 → parseFieldDescriptor (TJ9 k).2.2.1 = some (tyJ9 k) := by decide +kernel
abbrev cJ9_floorDiv_f86c9 : ByteArray := prog_15_method_49_code
def yJ9_floorDiv_f86c9 : MethodName := ⟨RJ9, "floorDiv", "(JJ)J"⟩
abbrev cJ9_max_7cf53 : ByteArray := prog_15_method_65_code
def yJ9_max_7cf53 : MethodName := ⟨RJ9, "max", "(II)I"⟩
abbrev cJ9_max_f86c9 : ByteArray := prog_15_method_66_code
def yJ9_max_f86c9 : MethodName := ⟨RJ9, "max", "(JJ)J"⟩
abbrev cJ9_min_f86c9 : ByteArray := prog_15_method_70_code
def yJ9_min_f86c9 : MethodName := ⟨RJ9, "min", "(JJ)J"⟩
def RJ10 : String := "java/lang/System"
def TJ10 : u_T := fun k => match k with
  | _ => ("", "", "", false)
def tyJ10 : Nat → FieldType := fun k => match k with
  | _ => .int
abbrev wsJ100 : List Cond := u_ws RJ10 TJ10 0
theorem nmJ10 : ∀ a, a < 0 → ∀ b, b < 0 → a ≠ b → (TJ10 a).2.1 ≠ (TJ10 b).2.1 := by decide +kernel
theorem tyJ10_ok : ∀ k, k < 0 → parseFieldDescriptor (TJ10 k).2.2.1 = some (tyJ10 k) := by decide +kernel
def RL : String := "MarketRingsLaw"
abbrev cL_law : ByteArray := code
def yL_law : MethodName := ⟨RL, "law", "([I)Z"⟩
abbrev vwCl : List vw_C := [(RX0, TX0, 13), (RX1, TX1, 8), (RX2, TX2, 5), (RX3, TX3, 9), (RX4, TX4, 2), (RX5, TX5, 2), (RX6, TX6, 4), (RX7, TX7, 14), (RX8, TX8, 6), (RX9, TX9, 1), (RX10, TX10, 3), (RX11, TX11, 13), (RX12, TX12, 65)]
