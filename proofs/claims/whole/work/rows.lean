section
-- ===== PART A: goes FIRST, ahead of the names: the tables' words, and 'selects' of the private methods out of them =====
/-- a private method of a class that the tables say can be made, by its rows of tables_1 -/
def lw_okq (q : MethodName × Nat) : Prop := (q.1.cls ≠ "java/lang/invoke/MethodHandle" ∧ q.1.cls ≠ "java/lang/invoke/VarHandle") ∧ Cond.instantiable q.1.cls q.2 ∈ tables_1 ∧ Cond.privateMethod q.1 ∈ tables_1 ∧ Cond.instanceMethod q.1 ∈ tables_1
theorem lw_p0 : lw_okq (⟨"MarketRings", "refuse", "(I)I"⟩, 13) := ⟨⟨by decide +kernel, by decide +kernel⟩, List.mem_of_getElem? (i := 17) (by decide +kernel), List.mem_of_getElem? (i := 436) (by decide +kernel), List.mem_of_getElem? (i := 437) (by decide +kernel)⟩
theorem lw_p1 : lw_okq (⟨"MarketRings$Land", "clearAway", "()V"⟩, 13) := ⟨⟨by decide +kernel, by decide +kernel⟩, List.mem_of_getElem? (i := 68) (by decide +kernel), List.mem_of_getElem? (i := 460) (by decide +kernel), List.mem_of_getElem? (i := 461) (by decide +kernel)⟩
theorem lw_p2 : lw_okq (⟨"MarketRings$Ways", "search", "(II[I[II)V"⟩, 6) := ⟨⟨by decide +kernel, by decide +kernel⟩, List.mem_of_getElem? (i := 259) (by decide +kernel), List.mem_of_getElem? (i := 524) (by decide +kernel), List.mem_of_getElem? (i := 525) (by decide +kernel)⟩
theorem lw_p3 : lw_okq (⟨"MarketRings$Ways", "leastFrom", "(I[I[II)I"⟩, 6) := ⟨⟨by decide +kernel, by decide +kernel⟩, List.mem_of_getElem? (i := 259) (by decide +kernel), List.mem_of_getElem? (i := 529) (by decide +kernel), List.mem_of_getElem? (i := 530) (by decide +kernel)⟩
theorem lw_p4 : lw_okq (⟨"MarketRings", "isNoUse", "(I)Z"⟩, 13) := ⟨⟨by decide +kernel, by decide +kernel⟩, List.mem_of_getElem? (i := 17) (by decide +kernel), List.mem_of_getElem? (i := 602) (by decide +kernel), List.mem_of_getElem? (i := 603) (by decide +kernel)⟩
theorem lw_p5 : lw_okq (⟨"MarketRings", "isNoMarket", "(I)Z"⟩, 13) := ⟨⟨by decide +kernel, by decide +kernel⟩, List.mem_of_getElem? (i := 17) (by decide +kernel), List.mem_of_getElem? (i := 610) (by decide +kernel), List.mem_of_getElem? (i := 611) (by decide +kernel)⟩
theorem lw_p6 : lw_okq (⟨"MarketRings", "rentTax", "(I)I"⟩, 13) := ⟨⟨by decide +kernel, by decide +kernel⟩, List.mem_of_getElem? (i := 17) (by decide +kernel), List.mem_of_getElem? (i := 621) (by decide +kernel), List.mem_of_getElem? (i := 622) (by decide +kernel)⟩
theorem lw_p7 : lw_okq (⟨"MarketRings", "refuseLong", "(I)J"⟩, 13) := ⟨⟨by decide +kernel, by decide +kernel⟩, List.mem_of_getElem? (i := 17) (by decide +kernel), List.mem_of_getElem? (i := 629) (by decide +kernel), List.mem_of_getElem? (i := 630) (by decide +kernel)⟩
theorem lw_p8 : lw_okq (⟨"MarketRings$Offers", "rentBy", "(II)J"⟩, 8) := ⟨⟨by decide +kernel, by decide +kernel⟩, List.mem_of_getElem? (i := 56) (by decide +kernel), List.mem_of_getElem? (i := 650) (by decide +kernel), List.mem_of_getElem? (i := 651) (by decide +kernel)⟩
theorem lw_p9 : lw_okq (⟨"MarketRings$Trade", "leastPriceFor", "(LMarketRings$Offers;II)I"⟩, 4) := ⟨⟨by decide +kernel, by decide +kernel⟩, List.mem_of_getElem? (i := 325) (by decide +kernel), List.mem_of_getElem? (i := 690) (by decide +kernel), List.mem_of_getElem? (i := 691) (by decide +kernel)⟩
theorem lw_p10 : lw_okq (⟨"MarketRings$Trade", "comingAt", "(II)I"⟩, 4) := ⟨⟨by decide +kernel, by decide +kernel⟩, List.mem_of_getElem? (i := 325) (by decide +kernel), List.mem_of_getElem? (i := 708) (by decide +kernel), List.mem_of_getElem? (i := 709) (by decide +kernel)⟩
theorem lw_p11 : lw_okq (⟨"MarketRings$Trade", "runRound", "(LMarketRings$Offers;)Z"⟩, 4) := ⟨⟨by decide +kernel, by decide +kernel⟩, List.mem_of_getElem? (i := 325) (by decide +kernel), List.mem_of_getElem? (i := 721) (by decide +kernel), List.mem_of_getElem? (i := 722) (by decide +kernel)⟩
theorem lw_p12 : lw_okq (⟨"MarketRings", "unfitRing", "(II)I"⟩, 13) := ⟨⟨by decide +kernel, by decide +kernel⟩, List.mem_of_getElem? (i := 17) (by decide +kernel), List.mem_of_getElem? (i := 731) (by decide +kernel), List.mem_of_getElem? (i := 732) (by decide +kernel)⟩
theorem lw_p13 : lw_okq (⟨"MarketRings$Rings", "findCuts", "(LMarketRings$Uses;I)V"⟩, 9) := ⟨⟨by decide +kernel, by decide +kernel⟩, List.mem_of_getElem? (i := 354) (by decide +kernel), List.mem_of_getElem? (i := 739) (by decide +kernel), List.mem_of_getElem? (i := 740) (by decide +kernel)⟩
theorem lw_p14 : lw_okq (⟨"MarketRings$Rings", "addCut", "(JJ)V"⟩, 9) := ⟨⟨by decide +kernel, by decide +kernel⟩, List.mem_of_getElem? (i := 354) (by decide +kernel), List.mem_of_getElem? (i := 743) (by decide +kernel), List.mem_of_getElem? (i := 744) (by decide +kernel)⟩
theorem lw_p15 : lw_okq (⟨"MarketRings$Rings", "takerAt", "(LMarketRings$Uses;JJ)I"⟩, 9) := ⟨⟨by decide +kernel, by decide +kernel⟩, List.mem_of_getElem? (i := 354) (by decide +kernel), List.mem_of_getElem? (i := 751) (by decide +kernel), List.mem_of_getElem? (i := 752) (by decide +kernel)⟩
def lw_privs_1 : List (MethodName × Nat) := [(⟨"MarketRings", "refuse", "(I)I"⟩, 13), (⟨"MarketRings$Land", "clearAway", "()V"⟩, 13), (⟨"MarketRings$Ways", "search", "(II[I[II)V"⟩, 6), (⟨"MarketRings$Ways", "leastFrom", "(I[I[II)I"⟩, 6), (⟨"MarketRings", "isNoUse", "(I)Z"⟩, 13), (⟨"MarketRings", "isNoMarket", "(I)Z"⟩, 13), (⟨"MarketRings", "rentTax", "(I)I"⟩, 13), (⟨"MarketRings", "refuseLong", "(I)J"⟩, 13), (⟨"MarketRings$Offers", "rentBy", "(II)J"⟩, 8), (⟨"MarketRings$Trade", "leastPriceFor", "(LMarketRings$Offers;II)I"⟩, 4), (⟨"MarketRings$Trade", "comingAt", "(II)I"⟩, 4), (⟨"MarketRings$Trade", "runRound", "(LMarketRings$Offers;)Z"⟩, 4), (⟨"MarketRings", "unfitRing", "(II)I"⟩, 13), (⟨"MarketRings$Rings", "findCuts", "(LMarketRings$Uses;I)V"⟩, 9), (⟨"MarketRings$Rings", "addCut", "(JJ)V"⟩, 9), (⟨"MarketRings$Rings", "takerAt", "(LMarketRings$Uses;JJ)I"⟩, 9)]
theorem lw_r1 : ∀ q ∈ lw_privs_1, lw_okq q := List.forall_mem_cons.mpr ⟨lw_p0, List.forall_mem_cons.mpr ⟨lw_p1, List.forall_mem_cons.mpr ⟨lw_p2, List.forall_mem_cons.mpr ⟨lw_p3, List.forall_mem_cons.mpr ⟨lw_p4, List.forall_mem_cons.mpr ⟨lw_p5, List.forall_mem_cons.mpr ⟨lw_p6, List.forall_mem_cons.mpr ⟨lw_p7, List.forall_mem_cons.mpr ⟨lw_p8, List.forall_mem_cons.mpr ⟨lw_p9, List.forall_mem_cons.mpr ⟨lw_p10, List.forall_mem_cons.mpr ⟨lw_p11, List.forall_mem_cons.mpr ⟨lw_p12, List.forall_mem_cons.mpr ⟨lw_p13, List.forall_mem_cons.mpr ⟨lw_p14, List.forall_mem_cons.mpr ⟨lw_p15, fun _ h => absurd h List.not_mem_nil⟩⟩⟩⟩⟩⟩⟩⟩⟩⟩⟩⟩⟩⟩⟩⟩
theorem lw_p16 : lw_okq (⟨"MarketRings$Rings", "isThere", "(IJJ)Z"⟩, 9) := ⟨⟨by decide +kernel, by decide +kernel⟩, List.mem_of_getElem? (i := 354) (by decide +kernel), List.mem_of_getElem? (i := 755) (by decide +kernel), List.mem_of_getElem? (i := 756) (by decide +kernel)⟩
theorem lw_p17 : lw_okq (⟨"MarketRings$Rings", "extend", "(IZI)V"⟩, 9) := ⟨⟨by decide +kernel, by decide +kernel⟩, List.mem_of_getElem? (i := 354) (by decide +kernel), List.mem_of_getElem? (i := 759) (by decide +kernel), List.mem_of_getElem? (i := 760) (by decide +kernel)⟩
theorem lw_p18 : lw_okq (⟨"MarketRings$Offers", "isTakenBy", "(II)Z"⟩, 8) := ⟨⟨by decide +kernel, by decide +kernel⟩, List.mem_of_getElem? (i := 56) (by decide +kernel), List.mem_of_getElem? (i := 779) (by decide +kernel), List.mem_of_getElem? (i := 780) (by decide +kernel)⟩
theorem lw_p19 : lw_okq (⟨"MarketRings$Offers", "isBorder", "(II)Z"⟩, 8) := ⟨⟨by decide +kernel, by decide +kernel⟩, List.mem_of_getElem? (i := 56) (by decide +kernel), List.mem_of_getElem? (i := 795) (by decide +kernel), List.mem_of_getElem? (i := 796) (by decide +kernel)⟩
theorem lw_p20 : lw_okq (⟨"MarketRings", "unfitPlan", "(I)I"⟩, 13) := ⟨⟨by decide +kernel, by decide +kernel⟩, List.mem_of_getElem? (i := 17) (by decide +kernel), List.mem_of_getElem? (i := 812) (by decide +kernel), List.mem_of_getElem? (i := 813) (by decide +kernel)⟩
theorem lw_p21 : lw_okq (⟨"MarketRings$Works", "build", "(LMarketRings$Offers;I)V"⟩, 1) := ⟨⟨by decide +kernel, by decide +kernel⟩, List.mem_of_getElem? (i := 344) (by decide +kernel), List.mem_of_getElem? (i := 826) (by decide +kernel), List.mem_of_getElem? (i := 827) (by decide +kernel)⟩
theorem lw_p22 : lw_okq (⟨"MarketRings$Works", "layRoads", "(LMarketRings$World;IZ)V"⟩, 1) := ⟨⟨by decide +kernel, by decide +kernel⟩, List.mem_of_getElem? (i := 344) (by decide +kernel), List.mem_of_getElem? (i := 830) (by decide +kernel), List.mem_of_getElem? (i := 831) (by decide +kernel)⟩
theorem lw_p23 : lw_okq (⟨"MarketRings$Works", "tearDown", "(LMarketRings$Offers;I)V"⟩, 1) := ⟨⟨by decide +kernel, by decide +kernel⟩, List.mem_of_getElem? (i := 344) (by decide +kernel), List.mem_of_getElem? (i := 837) (by decide +kernel), List.mem_of_getElem? (i := 838) (by decide +kernel)⟩
theorem lw_p24 : lw_okq (⟨"MarketRings$Works", "costOf", "(LMarketRings$Plans;I)I"⟩, 1) := ⟨⟨by decide +kernel, by decide +kernel⟩, List.mem_of_getElem? (i := 344) (by decide +kernel), List.mem_of_getElem? (i := 856) (by decide +kernel), List.mem_of_getElem? (i := 857) (by decide +kernel)⟩
theorem lw_p25 : lw_okq (⟨"MarketRings$Trade", "rentsAfterRound", "(LMarketRings$Offers;I)J"⟩, 4) := ⟨⟨by decide +kernel, by decide +kernel⟩, List.mem_of_getElem? (i := 325) (by decide +kernel), List.mem_of_getElem? (i := 897) (by decide +kernel), List.mem_of_getElem? (i := 898) (by decide +kernel)⟩
theorem lw_p26 : lw_okq (⟨"MarketRingsModel", "no", "(I)I"⟩, 65) := ⟨⟨by decide +kernel, by decide +kernel⟩, List.mem_of_getElem? (i := 961) (by decide +kernel), List.mem_of_getElem? (i := 1172) (by decide +kernel), List.mem_of_getElem? (i := 1173) (by decide +kernel)⟩
theorem lw_p27 : lw_okq (⟨"MarketRingsModel", "reads", "()Z"⟩, 65) := ⟨⟨by decide +kernel, by decide +kernel⟩, List.mem_of_getElem? (i := 961) (by decide +kernel), List.mem_of_getElem? (i := 1181) (by decide +kernel), List.mem_of_getElem? (i := 1182) (by decide +kernel)⟩
theorem lw_p28 : lw_okq (⟨"MarketRingsModel", "readsLine", "()Z"⟩, 65) := ⟨⟨by decide +kernel, by decide +kernel⟩, List.mem_of_getElem? (i := 961) (by decide +kernel), List.mem_of_getElem? (i := 1185) (by decide +kernel), List.mem_of_getElem? (i := 1186) (by decide +kernel)⟩
theorem lw_p29 : lw_okq (⟨"MarketRingsModel", "sign", "()I"⟩, 65) := ⟨⟨by decide +kernel, by decide +kernel⟩, List.mem_of_getElem? (i := 961) (by decide +kernel), List.mem_of_getElem? (i := 1189) (by decide +kernel), List.mem_of_getElem? (i := 1190) (by decide +kernel)⟩
theorem lw_p30 : lw_okq (⟨"MarketRingsModel", "acreOf", "(I)I"⟩, 65) := ⟨⟨by decide +kernel, by decide +kernel⟩, List.mem_of_getElem? (i := 961) (by decide +kernel), List.mem_of_getElem? (i := 1202) (by decide +kernel), List.mem_of_getElem? (i := 1203) (by decide +kernel)⟩
theorem lw_p31 : lw_okq (⟨"MarketRingsModel", "marketOn", "(I)I"⟩, 65) := ⟨⟨by decide +kernel, by decide +kernel⟩, List.mem_of_getElem? (i := 961) (by decide +kernel), List.mem_of_getElem? (i := 1206) (by decide +kernel), List.mem_of_getElem? (i := 1207) (by decide +kernel)⟩
def lw_privs_2 : List (MethodName × Nat) := [(⟨"MarketRings$Rings", "isThere", "(IJJ)Z"⟩, 9), (⟨"MarketRings$Rings", "extend", "(IZI)V"⟩, 9), (⟨"MarketRings$Offers", "isTakenBy", "(II)Z"⟩, 8), (⟨"MarketRings$Offers", "isBorder", "(II)Z"⟩, 8), (⟨"MarketRings", "unfitPlan", "(I)I"⟩, 13), (⟨"MarketRings$Works", "build", "(LMarketRings$Offers;I)V"⟩, 1), (⟨"MarketRings$Works", "layRoads", "(LMarketRings$World;IZ)V"⟩, 1), (⟨"MarketRings$Works", "tearDown", "(LMarketRings$Offers;I)V"⟩, 1), (⟨"MarketRings$Works", "costOf", "(LMarketRings$Plans;I)I"⟩, 1), (⟨"MarketRings$Trade", "rentsAfterRound", "(LMarketRings$Offers;I)J"⟩, 4), (⟨"MarketRingsModel", "no", "(I)I"⟩, 65), (⟨"MarketRingsModel", "reads", "()Z"⟩, 65), (⟨"MarketRingsModel", "readsLine", "()Z"⟩, 65), (⟨"MarketRingsModel", "sign", "()I"⟩, 65), (⟨"MarketRingsModel", "acreOf", "(I)I"⟩, 65), (⟨"MarketRingsModel", "marketOn", "(I)I"⟩, 65)]
theorem lw_r2 : ∀ q ∈ lw_privs_2, lw_okq q := List.forall_mem_cons.mpr ⟨lw_p16, List.forall_mem_cons.mpr ⟨lw_p17, List.forall_mem_cons.mpr ⟨lw_p18, List.forall_mem_cons.mpr ⟨lw_p19, List.forall_mem_cons.mpr ⟨lw_p20, List.forall_mem_cons.mpr ⟨lw_p21, List.forall_mem_cons.mpr ⟨lw_p22, List.forall_mem_cons.mpr ⟨lw_p23, List.forall_mem_cons.mpr ⟨lw_p24, List.forall_mem_cons.mpr ⟨lw_p25, List.forall_mem_cons.mpr ⟨lw_p26, List.forall_mem_cons.mpr ⟨lw_p27, List.forall_mem_cons.mpr ⟨lw_p28, List.forall_mem_cons.mpr ⟨lw_p29, List.forall_mem_cons.mpr ⟨lw_p30, List.forall_mem_cons.mpr ⟨lw_p31, fun _ h => absurd h List.not_mem_nil⟩⟩⟩⟩⟩⟩⟩⟩⟩⟩⟩⟩⟩⟩⟩⟩
theorem lw_p32 : lw_okq (⟨"MarketRingsModel", "roadOf", "(II)I"⟩, 65) := ⟨⟨by decide +kernel, by decide +kernel⟩, List.mem_of_getElem? (i := 961) (by decide +kernel), List.mem_of_getElem? (i := 1218) (by decide +kernel), List.mem_of_getElem? (i := 1219) (by decide +kernel)⟩
theorem lw_p33 : lw_okq (⟨"MarketRingsModel", "puts", "(III)V"⟩, 65) := ⟨⟨by decide +kernel, by decide +kernel⟩, List.mem_of_getElem? (i := 961) (by decide +kernel), List.mem_of_getElem? (i := 1222) (by decide +kernel), List.mem_of_getElem? (i := 1223) (by decide +kernel)⟩
theorem lw_p34 : lw_okq (⟨"MarketRingsModel", "findWays", "(IZ)V"⟩, 65) := ⟨⟨by decide +kernel, by decide +kernel⟩, List.mem_of_getElem? (i := 961) (by decide +kernel), List.mem_of_getElem? (i := 1239) (by decide +kernel), List.mem_of_getElem? (i := 1240) (by decide +kernel)⟩
theorem lw_p35 : lw_okq (⟨"MarketRingsModel", "isAcre", "(I)Z"⟩, 65) := ⟨⟨by decide +kernel, by decide +kernel⟩, List.mem_of_getElem? (i := 961) (by decide +kernel), List.mem_of_getElem? (i := 1244) (by decide +kernel), List.mem_of_getElem? (i := 1245) (by decide +kernel)⟩
theorem lw_p36 : lw_okq (⟨"MarketRingsModel", "shortens", "(IZ)Z"⟩, 65) := ⟨⟨by decide +kernel, by decide +kernel⟩, List.mem_of_getElem? (i := 961) (by decide +kernel), List.mem_of_getElem? (i := 1248) (by decide +kernel), List.mem_of_getElem? (i := 1249) (by decide +kernel)⟩
theorem lw_p37 : lw_okq (⟨"MarketRingsModel", "stepOf", "(II)I"⟩, 65) := ⟨⟨by decide +kernel, by decide +kernel⟩, List.mem_of_getElem? (i := 961) (by decide +kernel), List.mem_of_getElem? (i := 1252) (by decide +kernel), List.mem_of_getElem? (i := 1253) (by decide +kernel)⟩
theorem lw_p38 : lw_okq (⟨"MarketRingsModel", "isUse", "(I)Z"⟩, 65) := ⟨⟨by decide +kernel, by decide +kernel⟩, List.mem_of_getElem? (i := 961) (by decide +kernel), List.mem_of_getElem? (i := 1269) (by decide +kernel), List.mem_of_getElem? (i := 1270) (by decide +kernel)⟩
theorem lw_p39 : lw_okq (⟨"MarketRingsModel", "isMarket", "(I)Z"⟩, 65) := ⟨⟨by decide +kernel, by decide +kernel⟩, List.mem_of_getElem? (i := 961) (by decide +kernel), List.mem_of_getElem? (i := 1278) (by decide +kernel), List.mem_of_getElem? (i := 1279) (by decide +kernel)⟩
theorem lw_p40 : lw_okq (⟨"MarketRingsModel", "noLong", "(I)J"⟩, 65) := ⟨⟨by decide +kernel, by decide +kernel⟩, List.mem_of_getElem? (i := 961) (by decide +kernel), List.mem_of_getElem? (i := 1293) (by decide +kernel), List.mem_of_getElem? (i := 1294) (by decide +kernel)⟩
theorem lw_p41 : lw_okq (⟨"MarketRingsModel", "findMarketWays", "()V"⟩, 65) := ⟨⟨by decide +kernel, by decide +kernel⟩, List.mem_of_getElem? (i := 961) (by decide +kernel), List.mem_of_getElem? (i := 1298) (by decide +kernel), List.mem_of_getElem? (i := 1299) (by decide +kernel)⟩
theorem lw_p42 : lw_okq (⟨"MarketRingsModel", "bidOf", "(III)J"⟩, 65) := ⟨⟨by decide +kernel, by decide +kernel⟩, List.mem_of_getElem? (i := 961) (by decide +kernel), List.mem_of_getElem? (i := 1302) (by decide +kernel), List.mem_of_getElem? (i := 1303) (by decide +kernel)⟩
theorem lw_p43 : lw_okq (⟨"MarketRingsModel", "wayOf", "(III)I"⟩, 65) := ⟨⟨by decide +kernel, by decide +kernel⟩, List.mem_of_getElem? (i := 961) (by decide +kernel), List.mem_of_getElem? (i := 1306) (by decide +kernel), List.mem_of_getElem? (i := 1307) (by decide +kernel)⟩
theorem lw_p44 : lw_okq (⟨"MarketRingsModel", "worth", "(III)J"⟩, 65) := ⟨⟨by decide +kernel, by decide +kernel⟩, List.mem_of_getElem? (i := 961) (by decide +kernel), List.mem_of_getElem? (i := 1310) (by decide +kernel), List.mem_of_getElem? (i := 1311) (by decide +kernel)⟩
theorem lw_p45 : lw_okq (⟨"MarketRingsModel", "yieldOf", "(II)I"⟩, 65) := ⟨⟨by decide +kernel, by decide +kernel⟩, List.mem_of_getElem? (i := 961) (by decide +kernel), List.mem_of_getElem? (i := 1314) (by decide +kernel), List.mem_of_getElem? (i := 1315) (by decide +kernel)⟩
theorem lw_p46 : lw_okq (⟨"MarketRingsModel", "mean", "(I)I"⟩, 65) := ⟨⟨by decide +kernel, by decide +kernel⟩, List.mem_of_getElem? (i := 961) (by decide +kernel), List.mem_of_getElem? (i := 1318) (by decide +kernel), List.mem_of_getElem? (i := 1319) (by decide +kernel)⟩
theorem lw_p47 : lw_okq (⟨"MarketRingsModel", "fareOf", "(I)I"⟩, 65) := ⟨⟨by decide +kernel, by decide +kernel⟩, List.mem_of_getElem? (i := 961) (by decide +kernel), List.mem_of_getElem? (i := 1322) (by decide +kernel), List.mem_of_getElem? (i := 1323) (by decide +kernel)⟩
def lw_privs_3 : List (MethodName × Nat) := [(⟨"MarketRingsModel", "roadOf", "(II)I"⟩, 65), (⟨"MarketRingsModel", "puts", "(III)V"⟩, 65), (⟨"MarketRingsModel", "findWays", "(IZ)V"⟩, 65), (⟨"MarketRingsModel", "isAcre", "(I)Z"⟩, 65), (⟨"MarketRingsModel", "shortens", "(IZ)Z"⟩, 65), (⟨"MarketRingsModel", "stepOf", "(II)I"⟩, 65), (⟨"MarketRingsModel", "isUse", "(I)Z"⟩, 65), (⟨"MarketRingsModel", "isMarket", "(I)Z"⟩, 65), (⟨"MarketRingsModel", "noLong", "(I)J"⟩, 65), (⟨"MarketRingsModel", "findMarketWays", "()V"⟩, 65), (⟨"MarketRingsModel", "bidOf", "(III)J"⟩, 65), (⟨"MarketRingsModel", "wayOf", "(III)I"⟩, 65), (⟨"MarketRingsModel", "worth", "(III)J"⟩, 65), (⟨"MarketRingsModel", "yieldOf", "(II)I"⟩, 65), (⟨"MarketRingsModel", "mean", "(I)I"⟩, 65), (⟨"MarketRingsModel", "fareOf", "(I)I"⟩, 65)]
theorem lw_r3 : ∀ q ∈ lw_privs_3, lw_okq q := List.forall_mem_cons.mpr ⟨lw_p32, List.forall_mem_cons.mpr ⟨lw_p33, List.forall_mem_cons.mpr ⟨lw_p34, List.forall_mem_cons.mpr ⟨lw_p35, List.forall_mem_cons.mpr ⟨lw_p36, List.forall_mem_cons.mpr ⟨lw_p37, List.forall_mem_cons.mpr ⟨lw_p38, List.forall_mem_cons.mpr ⟨lw_p39, List.forall_mem_cons.mpr ⟨lw_p40, List.forall_mem_cons.mpr ⟨lw_p41, List.forall_mem_cons.mpr ⟨lw_p42, List.forall_mem_cons.mpr ⟨lw_p43, List.forall_mem_cons.mpr ⟨lw_p44, List.forall_mem_cons.mpr ⟨lw_p45, List.forall_mem_cons.mpr ⟨lw_p46, List.forall_mem_cons.mpr ⟨lw_p47, fun _ h => absurd h List.not_mem_nil⟩⟩⟩⟩⟩⟩⟩⟩⟩⟩⟩⟩⟩⟩⟩⟩
theorem lw_p48 : lw_okq (⟨"MarketRingsModel", "finds", "()V"⟩, 65) := ⟨⟨by decide +kernel, by decide +kernel⟩, List.mem_of_getElem? (i := 961) (by decide +kernel), List.mem_of_getElem? (i := 1330) (by decide +kernel), List.mem_of_getElem? (i := 1331) (by decide +kernel)⟩
theorem lw_p49 : lw_okq (⟨"MarketRingsModel", "findGoing", "(I)V"⟩, 65) := ⟨⟨by decide +kernel, by decide +kernel⟩, List.mem_of_getElem? (i := 961) (by decide +kernel), List.mem_of_getElem? (i := 1334) (by decide +kernel), List.mem_of_getElem? (i := 1335) (by decide +kernel)⟩
theorem lw_p50 : lw_okq (⟨"MarketRingsModel", "allRents", "()J"⟩, 65) := ⟨⟨by decide +kernel, by decide +kernel⟩, List.mem_of_getElem? (i := 961) (by decide +kernel), List.mem_of_getElem? (i := 1342) (by decide +kernel), List.mem_of_getElem? (i := 1343) (by decide +kernel)⟩
theorem lw_p51 : lw_okq (⟨"MarketRingsModel", "rentOf", "(I)J"⟩, 65) := ⟨⟨by decide +kernel, by decide +kernel⟩, List.mem_of_getElem? (i := 961) (by decide +kernel), List.mem_of_getElem? (i := 1346) (by decide +kernel), List.mem_of_getElem? (i := 1347) (by decide +kernel)⟩
theorem lw_p52 : lw_okq (⟨"MarketRingsModel", "comesTo", "(II)I"⟩, 65) := ⟨⟨by decide +kernel, by decide +kernel⟩, List.mem_of_getElem? (i := 961) (by decide +kernel), List.mem_of_getElem? (i := 1354) (by decide +kernel), List.mem_of_getElem? (i := 1355) (by decide +kernel)⟩
theorem lw_p53 : lw_okq (⟨"MarketRingsModel", "boughtOf", "(III)I"⟩, 65) := ⟨⟨by decide +kernel, by decide +kernel⟩, List.mem_of_getElem? (i := 961) (by decide +kernel), List.mem_of_getElem? (i := 1366) (by decide +kernel), List.mem_of_getElem? (i := 1367) (by decide +kernel)⟩
theorem lw_p54 : lw_okq (⟨"MarketRingsModel", "clearsOf", "(II)I"⟩, 65) := ⟨⟨by decide +kernel, by decide +kernel⟩, List.mem_of_getElem? (i := 961) (by decide +kernel), List.mem_of_getElem? (i := 1374) (by decide +kernel), List.mem_of_getElem? (i := 1375) (by decide +kernel)⟩
theorem lw_p55 : lw_okq (⟨"MarketRingsModel", "findOthers", "(III)V"⟩, 65) := ⟨⟨by decide +kernel, by decide +kernel⟩, List.mem_of_getElem? (i := 961) (by decide +kernel), List.mem_of_getElem? (i := 1378) (by decide +kernel), List.mem_of_getElem? (i := 1379) (by decide +kernel)⟩
theorem lw_p56 : lw_okq (⟨"MarketRingsModel", "wouldGo", "(III)Z"⟩, 65) := ⟨⟨by decide +kernel, by decide +kernel⟩, List.mem_of_getElem? (i := 961) (by decide +kernel), List.mem_of_getElem? (i := 1382) (by decide +kernel), List.mem_of_getElem? (i := 1383) (by decide +kernel)⟩
theorem lw_p57 : lw_okq (⟨"MarketRingsModel", "goesRound", "()Z"⟩, 65) := ⟨⟨by decide +kernel, by decide +kernel⟩, List.mem_of_getElem? (i := 961) (by decide +kernel), List.mem_of_getElem? (i := 1391) (by decide +kernel), List.mem_of_getElem? (i := 1392) (by decide +kernel)⟩
theorem lw_p58 : lw_okq (⟨"MarketRingsModel", "findRings", "(I)V"⟩, 65) := ⟨⟨by decide +kernel, by decide +kernel⟩, List.mem_of_getElem? (i := 961) (by decide +kernel), List.mem_of_getElem? (i := 1399) (by decide +kernel), List.mem_of_getElem? (i := 1400) (by decide +kernel)⟩
theorem lw_p59 : lw_okq (⟨"MarketRingsModel", "findMarks", "(I)V"⟩, 65) := ⟨⟨by decide +kernel, by decide +kernel⟩, List.mem_of_getElem? (i := 961) (by decide +kernel), List.mem_of_getElem? (i := 1403) (by decide +kernel), List.mem_of_getElem? (i := 1404) (by decide +kernel)⟩
theorem lw_p60 : lw_okq (⟨"MarketRingsModel", "marksAt", "(JJ)V"⟩, 65) := ⟨⟨by decide +kernel, by decide +kernel⟩, List.mem_of_getElem? (i := 961) (by decide +kernel), List.mem_of_getElem? (i := 1408) (by decide +kernel), List.mem_of_getElem? (i := 1409) (by decide +kernel)⟩
theorem lw_p61 : lw_okq (⟨"MarketRingsModel", "isRinged", "(I)Z"⟩, 65) := ⟨⟨by decide +kernel, by decide +kernel⟩, List.mem_of_getElem? (i := 961) (by decide +kernel), List.mem_of_getElem? (i := 1415) (by decide +kernel), List.mem_of_getElem? (i := 1416) (by decide +kernel)⟩
theorem lw_p62 : lw_okq (⟨"MarketRingsModel", "slope", "(II)J"⟩, 65) := ⟨⟨by decide +kernel, by decide +kernel⟩, List.mem_of_getElem? (i := 961) (by decide +kernel), List.mem_of_getElem? (i := 1419) (by decide +kernel), List.mem_of_getElem? (i := 1420) (by decide +kernel)⟩
theorem lw_p63 : lw_okq (⟨"MarketRingsModel", "useAt", "(IJJ)I"⟩, 65) := ⟨⟨by decide +kernel, by decide +kernel⟩, List.mem_of_getElem? (i := 961) (by decide +kernel), List.mem_of_getElem? (i := 1424) (by decide +kernel), List.mem_of_getElem? (i := 1425) (by decide +kernel)⟩
def lw_privs_4 : List (MethodName × Nat) := [(⟨"MarketRingsModel", "finds", "()V"⟩, 65), (⟨"MarketRingsModel", "findGoing", "(I)V"⟩, 65), (⟨"MarketRingsModel", "allRents", "()J"⟩, 65), (⟨"MarketRingsModel", "rentOf", "(I)J"⟩, 65), (⟨"MarketRingsModel", "comesTo", "(II)I"⟩, 65), (⟨"MarketRingsModel", "boughtOf", "(III)I"⟩, 65), (⟨"MarketRingsModel", "clearsOf", "(II)I"⟩, 65), (⟨"MarketRingsModel", "findOthers", "(III)V"⟩, 65), (⟨"MarketRingsModel", "wouldGo", "(III)Z"⟩, 65), (⟨"MarketRingsModel", "goesRound", "()Z"⟩, 65), (⟨"MarketRingsModel", "findRings", "(I)V"⟩, 65), (⟨"MarketRingsModel", "findMarks", "(I)V"⟩, 65), (⟨"MarketRingsModel", "marksAt", "(JJ)V"⟩, 65), (⟨"MarketRingsModel", "isRinged", "(I)Z"⟩, 65), (⟨"MarketRingsModel", "slope", "(II)J"⟩, 65), (⟨"MarketRingsModel", "useAt", "(IJJ)I"⟩, 65)]
theorem lw_r4 : ∀ q ∈ lw_privs_4, lw_okq q := List.forall_mem_cons.mpr ⟨lw_p48, List.forall_mem_cons.mpr ⟨lw_p49, List.forall_mem_cons.mpr ⟨lw_p50, List.forall_mem_cons.mpr ⟨lw_p51, List.forall_mem_cons.mpr ⟨lw_p52, List.forall_mem_cons.mpr ⟨lw_p53, List.forall_mem_cons.mpr ⟨lw_p54, List.forall_mem_cons.mpr ⟨lw_p55, List.forall_mem_cons.mpr ⟨lw_p56, List.forall_mem_cons.mpr ⟨lw_p57, List.forall_mem_cons.mpr ⟨lw_p58, List.forall_mem_cons.mpr ⟨lw_p59, List.forall_mem_cons.mpr ⟨lw_p60, List.forall_mem_cons.mpr ⟨lw_p61, List.forall_mem_cons.mpr ⟨lw_p62, List.forall_mem_cons.mpr ⟨lw_p63, fun _ h => absurd h List.not_mem_nil⟩⟩⟩⟩⟩⟩⟩⟩⟩⟩⟩⟩⟩⟩⟩⟩
theorem lw_p64 : lw_okq (⟨"MarketRingsModel", "isBorder", "(II)Z"⟩, 65) := ⟨⟨by decide +kernel, by decide +kernel⟩, List.mem_of_getElem? (i := 961) (by decide +kernel), List.mem_of_getElem? (i := 1441) (by decide +kernel), List.mem_of_getElem? (i := 1442) (by decide +kernel)⟩
theorem lw_p65 : lw_okq (⟨"MarketRingsModel", "isPlan", "(I)Z"⟩, 65) := ⟨⟨by decide +kernel, by decide +kernel⟩, List.mem_of_getElem? (i := 961) (by decide +kernel), List.mem_of_getElem? (i := 1454) (by decide +kernel), List.mem_of_getElem? (i := 1455) (by decide +kernel)⟩
theorem lw_p66 : lw_okq (⟨"MarketRingsModel", "isTaken", "(I)Z"⟩, 65) := ⟨⟨by decide +kernel, by decide +kernel⟩, List.mem_of_getElem? (i := 961) (by decide +kernel), List.mem_of_getElem? (i := 1458) (by decide +kernel), List.mem_of_getElem? (i := 1459) (by decide +kernel)⟩
theorem lw_p67 : lw_okq (⟨"MarketRingsModel", "findsWith", "(I)V"⟩, 65) := ⟨⟨by decide +kernel, by decide +kernel⟩, List.mem_of_getElem? (i := 961) (by decide +kernel), List.mem_of_getElem? (i := 1462) (by decide +kernel), List.mem_of_getElem? (i := 1463) (by decide +kernel)⟩
theorem lw_p68 : lw_okq (⟨"MarketRingsModel", "costOf", "(I)I"⟩, 65) := ⟨⟨by decide +kernel, by decide +kernel⟩, List.mem_of_getElem? (i := 961) (by decide +kernel), List.mem_of_getElem? (i := 1470) (by decide +kernel), List.mem_of_getElem? (i := 1471) (by decide +kernel)⟩
theorem lw_p69 : lw_okq (⟨"MarketRingsModel", "rentsBehind", "(I)J"⟩, 65) := ⟨⟨by decide +kernel, by decide +kernel⟩, List.mem_of_getElem? (i := 961) (by decide +kernel), List.mem_of_getElem? (i := 1495) (by decide +kernel), List.mem_of_getElem? (i := 1496) (by decide +kernel)⟩
theorem lw_p70 : lw_okq (⟨"MarketRingsModel", "passesAll", "()V"⟩, 65) := ⟨⟨by decide +kernel, by decide +kernel⟩, List.mem_of_getElem? (i := 961) (by decide +kernel), List.mem_of_getElem? (i := 1514) (by decide +kernel), List.mem_of_getElem? (i := 1515) (by decide +kernel)⟩
theorem lw_p71 : lw_okq (⟨"MarketRingsModel", "passes", "([I)V"⟩, 65) := ⟨⟨by decide +kernel, by decide +kernel⟩, List.mem_of_getElem? (i := 961) (by decide +kernel), List.mem_of_getElem? (i := 1518) (by decide +kernel), List.mem_of_getElem? (i := 1519) (by decide +kernel)⟩
theorem lw_p72 : lw_okq (⟨"MarketRingsModel", "passOne", "(I)I"⟩, 65) := ⟨⟨by decide +kernel, by decide +kernel⟩, List.mem_of_getElem? (i := 961) (by decide +kernel), List.mem_of_getElem? (i := 1522) (by decide +kernel), List.mem_of_getElem? (i := 1523) (by decide +kernel)⟩
def lw_privs_5 : List (MethodName × Nat) := [(⟨"MarketRingsModel", "isBorder", "(II)Z"⟩, 65), (⟨"MarketRingsModel", "isPlan", "(I)Z"⟩, 65), (⟨"MarketRingsModel", "isTaken", "(I)Z"⟩, 65), (⟨"MarketRingsModel", "findsWith", "(I)V"⟩, 65), (⟨"MarketRingsModel", "costOf", "(I)I"⟩, 65), (⟨"MarketRingsModel", "rentsBehind", "(I)J"⟩, 65), (⟨"MarketRingsModel", "passesAll", "()V"⟩, 65), (⟨"MarketRingsModel", "passes", "([I)V"⟩, 65), (⟨"MarketRingsModel", "passOne", "(I)I"⟩, 65)]
theorem lw_r5 : ∀ q ∈ lw_privs_5, lw_okq q := List.forall_mem_cons.mpr ⟨lw_p64, List.forall_mem_cons.mpr ⟨lw_p65, List.forall_mem_cons.mpr ⟨lw_p66, List.forall_mem_cons.mpr ⟨lw_p67, List.forall_mem_cons.mpr ⟨lw_p68, List.forall_mem_cons.mpr ⟨lw_p69, List.forall_mem_cons.mpr ⟨lw_p70, List.forall_mem_cons.mpr ⟨lw_p71, List.forall_mem_cons.mpr ⟨lw_p72, fun _ h => absurd h List.not_mem_nil⟩⟩⟩⟩⟩⟩⟩⟩⟩
def lw_privs : List (MethodName × Nat) := lw_privs_1 ++ (lw_privs_2 ++ (lw_privs_3 ++ (lw_privs_4 ++ (lw_privs_5))))
def lw_tbl : List Cond := k2_sels lw_privs ++ tables_1
theorem lw_privs_ok : ∀ q ∈ lw_privs, lw_okq q := by
  show ∀ q ∈ lw_privs_1 ++ (lw_privs_2 ++ (lw_privs_3 ++ (lw_privs_4 ++ (lw_privs_5)))), lw_okq q
  exact List.forall_mem_append.mpr ⟨lw_r1, List.forall_mem_append.mpr ⟨lw_r2, List.forall_mem_append.mpr ⟨lw_r3, List.forall_mem_append.mpr ⟨lw_r4, lw_r5⟩⟩⟩⟩
def RX0 : String := "MarketRings$Land"
def TX0 : u_T := fun k => match k with
  | 0 => ("MarketRings$Land", "wide", "I", false)
  | 1 => ("MarketRings$Land", "high", "I", false)
  | 2 => ("MarketRings$Land", "acres", "I", false)
  | 3 => ("MarketRings$Land", "roads", "I", false)
  | 4 => ("MarketRings$Land", "markets", "I", false)
  | 5 => ("MarketRings$Land", "told", "[I", true)
  | 6 => ("MarketRings$Land", "soils", "[I", true)
  | 7 => ("MarketRings$Land", "tolls", "[I", true)
  | 8 => ("MarketRings$Land", "owners", "[I", true)
  | 9 => ("MarketRings$Land", "idle", "[I", true)
  | 10 => ("MarketRings$Land", "links", "[I", true)
  | 11 => ("MarketRings$Land", "stalls", "[I", true)
  | _ => ("MarketRings$Land", "steps", "[I", true)
def tyX0 : Nat → FieldType := fun k => match k with
  | 0 => .int
  | 1 => .int
  | 2 => .int
  | 3 => .int
  | 4 => .int
  | 5 => .array .int
  | 6 => .array .int
  | 7 => .array .int
  | 8 => .array .int
  | 9 => .array .int
  | 10 => .array .int
  | 11 => .array .int
  | _ => .array .int
abbrev wsX00 : List Cond := u_ws RX0 TX0 13
theorem nmX0 : ∀ a, a < 13 → ∀ b, b < 13 → a ≠ b → (TX0 a).2.1 ≠ (TX0 b).2.1 := by decide +kernel
theorem tyX0_ok : ∀ k, k < 13 → parseFieldDescriptor (TX0 k).2.2.1 = some (tyX0 k) := by decide +kernel
abbrev cX0_init : ByteArray := prog_2_method_1_code
def yX0_init : MethodName := ⟨RX0, "<init>", "()V"⟩
abbrev cX0_layOut : ByteArray := prog_2_method_2_code
def yX0_layOut : MethodName := ⟨RX0, "layOut", "(LMarketRings$Tape;)V"⟩
abbrev cX0_clearAway : ByteArray := prog_2_method_3_code
def yX0_clearAway : MethodName := ⟨RX0, "clearAway", "()V"⟩
abbrev cX0_takeFrom : ByteArray := prog_2_method_4_code
def yX0_takeFrom : MethodName := ⟨RX0, "takeFrom", "(LMarketRings$Land;)V"⟩
abbrev cX0_placeOf : ByteArray := prog_2_method_5_code
def yX0_placeOf : MethodName := ⟨RX0, "placeOf", "(I)I"⟩
abbrev cX0_beside : ByteArray := prog_2_method_6_code
def yX0_beside : MethodName := ⟨RX0, "beside", "(II)I"⟩
abbrev cX0_sideTowards : ByteArray := prog_2_method_7_code
def yX0_sideTowards : MethodName := ⟨RX0, "sideTowards", "(II)I"⟩
abbrev cX0_roadAt : ByteArray := prog_2_method_8_code
def yX0_roadAt : MethodName := ⟨RX0, "roadAt", "(II)I"⟩
abbrev cX0_layRoad : ByteArray := prog_2_method_9_code
def yX0_layRoad : MethodName := ⟨RX0, "layRoad", "(III)V"⟩
abbrev cX0_marketOn : ByteArray := prog_2_method_10_code
def yX0_marketOn : MethodName := ⟨RX0, "marketOn", "(I)I"⟩
abbrev cX0_idleAcres : ByteArray := prog_2_method_11_code
def yX0_idleAcres : MethodName := ⟨RX0, "idleAcres", "()I"⟩
def RX1 : String := "MarketRings$Offers"
def TX1 : u_T := fun k => match k with
  | 0 => ("MarketRings$Offers", "world", "LMarketRings$World;", true)
  | 1 => ("MarketRings$Offers", "ways", "LMarketRings$Ways;", true)
  | 2 => ("MarketRings$Offers", "bids", "[J", true)
  | 3 => ("MarketRings$Offers", "takers", "[I", true)
  | 4 => ("MarketRings$Offers", "land", "LMarketRings$Land;", true)
  | 5 => ("MarketRings$Offers", "uses", "LMarketRings$Uses;", true)
  | 6 => ("MarketRings$Offers", "waysKnown", "Z", false)
  | _ => ("MarketRings$Offers", "bidsKnown", "Z", false)
def tyX1 : Nat → FieldType := fun k => match k with
  | 0 => .object "MarketRings$World"
  | 1 => .object "MarketRings$Ways"
  | 2 => .array .long
  | 3 => .array .int
  | 4 => .object "MarketRings$Land"
  | 5 => .object "MarketRings$Uses"
  | 6 => .boolean
  | _ => .boolean
abbrev wsX10 : List Cond := u_ws RX1 TX1 8
theorem nmX1 : ∀ a, a < 8 → ∀ b, b < 8 → a ≠ b → (TX1 a).2.1 ≠ (TX1 b).2.1 := by decide +kernel
theorem tyX1_ok : ∀ k, k < 8 → parseFieldDescriptor (TX1 k).2.2.1 = some (tyX1 k) := by decide +kernel
abbrev cX1_init : ByteArray := prog_3_method_1_code
def yX1_init : MethodName := ⟨RX1, "<init>", "()V"⟩
abbrev cX1_forgetWays : ByteArray := prog_3_method_2_code
def yX1_forgetWays : MethodName := ⟨RX1, "forgetWays", "()V"⟩
abbrev cX1_forgetBids : ByteArray := prog_3_method_3_code
def yX1_forgetBids : MethodName := ⟨RX1, "forgetBids", "()V"⟩
abbrev cX1_settle : ByteArray := prog_3_method_4_code
def yX1_settle : MethodName := ⟨RX1, "settle", "()V"⟩
abbrev cX1_reckonBids : ByteArray := prog_3_method_5_code
def yX1_reckonBids : MethodName := ⟨RX1, "reckonBids", "()V"⟩
abbrev cX1_reckonOffer : ByteArray := prog_3_method_6_code
def yX1_reckonOffer : MethodName := ⟨RX1, "reckonOffer", "(I)V"⟩
abbrev cX1_wayOf : ByteArray := prog_3_method_7_code
def yX1_wayOf : MethodName := ⟨RX1, "wayOf", "(II)I"⟩
abbrev cX1_takerOf : ByteArray := prog_3_method_8_code
def yX1_takerOf : MethodName := ⟨RX1, "takerOf", "(I)I"⟩
abbrev cX1_greatest : ByteArray := prog_3_method_9_code
def yX1_greatest : MethodName := ⟨RX1, "greatest", "(II)I"⟩
abbrev cX1_rentAt : ByteArray := prog_3_method_10_code
def yX1_rentAt : MethodName := ⟨RX1, "rentAt", "(I)J"⟩
abbrev cX1_rentBy : ByteArray := prog_3_method_11_code
def yX1_rentBy : MethodName := ⟨RX1, "rentBy", "(II)J"⟩
abbrev cX1_allRents : ByteArray := prog_3_method_12_code
def yX1_allRents : MethodName := ⟨RX1, "allRents", "()J"⟩
abbrev cX1_rentsOf : ByteArray := prog_3_method_13_code
def yX1_rentsOf : MethodName := ⟨RX1, "rentsOf", "(I)J"⟩
abbrev cX1_arriving : ByteArray := prog_3_method_14_code
def yX1_arriving : MethodName := ⟨RX1, "arriving", "(I)I"⟩
abbrev cX1_isTakenBy : ByteArray := prog_3_method_15_code
def yX1_isTakenBy : MethodName := ⟨RX1, "isTakenBy", "(II)Z"⟩
abbrev cX1_farthest : ByteArray := prog_3_method_16_code
def yX1_farthest : MethodName := ⟨RX1, "farthest", "(I)I"⟩
abbrev cX1_borderPairs : ByteArray := prog_3_method_17_code
def yX1_borderPairs : MethodName := ⟨RX1, "borderPairs", "()I"⟩
abbrev cX1_isBorder : ByteArray := prog_3_method_18_code
def yX1_isBorder : MethodName := ⟨RX1, "isBorder", "(II)Z"⟩
abbrev cX1_wasteAcres : ByteArray := prog_3_method_19_code
def yX1_wasteAcres : MethodName := ⟨RX1, "wasteAcres", "()I"⟩
abbrev cX1_fallingWaste : ByteArray := prog_3_method_20_code
def yX1_fallingWaste : MethodName := ⟨RX1, "fallingWaste", "(II)I"⟩
def RX2 : String := "MarketRings$Plans"
def TX2 : u_T := fun k => match k with
  | 0 => ("MarketRings$Plans", "number", "I", false)
  | 1 => ("MarketRings$Plans", "places", "[I", true)
  | 2 => ("MarketRings$Plans", "sides", "[I", true)
  | 3 => ("MarketRings$Plans", "kinds", "[I", true)
  | _ => ("MarketRings$Plans", "costs", "[I", true)
def tyX2 : Nat → FieldType := fun k => match k with
  | 0 => .int
  | 1 => .array .int
  | 2 => .array .int
  | 3 => .array .int
  | _ => .array .int
abbrev wsX20 : List Cond := u_ws RX2 TX2 5
theorem nmX2 : ∀ a, a < 5 → ∀ b, b < 5 → a ≠ b → (TX2 a).2.1 ≠ (TX2 b).2.1 := by decide +kernel
theorem tyX2_ok : ∀ k, k < 5 → parseFieldDescriptor (TX2 k).2.2.1 = some (tyX2 k) := by decide +kernel
abbrev cX2_init : ByteArray := prog_4_method_1_code
def yX2_init : MethodName := ⟨RX2, "<init>", "()V"⟩
abbrev cX2_append : ByteArray := prog_4_method_2_code
def yX2_append : MethodName := ⟨RX2, "append", "(IIII)I"⟩
abbrev cX2_takeFrom : ByteArray := prog_4_method_3_code
def yX2_takeFrom : MethodName := ⟨RX2, "takeFrom", "(LMarketRings$Plans;)V"⟩
def RX3 : String := "MarketRings$Rings"
def TX3 : u_T := fun k => match k with
  | 0 => ("MarketRings$Rings", "homes", "[J", true)
  | 1 => ("MarketRings$Rings", "slopes", "[J", true)
  | 2 => ("MarketRings$Rings", "cutsAbove", "[J", true)
  | 3 => ("MarketRings$Rings", "cutsBelow", "[J", true)
  | 4 => ("MarketRings$Rings", "cuts", "I", false)
  | 5 => ("MarketRings$Rings", "number", "I", false)
  | 6 => ("MarketRings$Rings", "takers", "[I", true)
  | 7 => ("MarketRings$Rings", "endsAbove", "[J", true)
  | _ => ("MarketRings$Rings", "endsBelow", "[J", true)
def tyX3 : Nat → FieldType := fun k => match k with
  | 0 => .array .long
  | 1 => .array .long
  | 2 => .array .long
  | 3 => .array .long
  | 4 => .int
  | 5 => .int
  | 6 => .array .int
  | 7 => .array .long
  | _ => .array .long
abbrev wsX30 : List Cond := u_ws RX3 TX3 9
theorem nmX3 : ∀ a, a < 9 → ∀ b, b < 9 → a ≠ b → (TX3 a).2.1 ≠ (TX3 b).2.1 := by decide +kernel
theorem tyX3_ok : ∀ k, k < 9 → parseFieldDescriptor (TX3 k).2.2.1 = some (tyX3 k) := by decide +kernel
abbrev cX3_init : ByteArray := prog_5_method_1_code
def yX3_init : MethodName := ⟨RX3, "<init>", "()V"⟩
abbrev cX3_reckon : ByteArray := prog_5_method_2_code
def yX3_reckon : MethodName := ⟨RX3, "reckon", "(LMarketRings$Uses;I)V"⟩
abbrev cX3_findCuts : ByteArray := prog_5_method_3_code
def yX3_findCuts : MethodName := ⟨RX3, "findCuts", "(LMarketRings$Uses;I)V"⟩
abbrev cX3_addCut : ByteArray := prog_5_method_4_code
def yX3_addCut : MethodName := ⟨RX3, "addCut", "(JJ)V"⟩
abbrev cX3_takerAt : ByteArray := prog_5_method_5_code
def yX3_takerAt : MethodName := ⟨RX3, "takerAt", "(LMarketRings$Uses;JJ)I"⟩
abbrev cX3_isThere : ByteArray := prog_5_method_6_code
def yX3_isThere : MethodName := ⟨RX3, "isThere", "(IJJ)Z"⟩
abbrev cX3_extend : ByteArray := prog_5_method_7_code
def yX3_extend : MethodName := ⟨RX3, "extend", "(IZI)V"⟩
abbrev cX3_commonDivisor : ByteArray := prog_5_method_8_code
def yX3_commonDivisor : MethodName := ⟨RX3, "commonDivisor", "(JJ)J"⟩
def RX4 : String := "MarketRings$Row"
def TX4 : u_T := fun k => match k with
  | 0 => ("MarketRings$Row", "bytes", "[I", true)
  | _ => ("MarketRings$Row", "length", "I", false)
def tyX4 : Nat → FieldType := fun k => match k with
  | 0 => .array .int
  | _ => .int
abbrev wsX40 : List Cond := u_ws RX4 TX4 2
theorem nmX4 : ∀ a, a < 2 → ∀ b, b < 2 → a ≠ b → (TX4 a).2.1 ≠ (TX4 b).2.1 := by decide +kernel
theorem tyX4_ok : ∀ k, k < 2 → parseFieldDescriptor (TX4 k).2.2.1 = some (tyX4 k) := by decide +kernel
abbrev cX4_init : ByteArray := prog_6_method_1_code
def yX4_init : MethodName := ⟨RX4, "<init>", "()V"⟩
abbrev cX4_append : ByteArray := prog_6_method_2_code
def yX4_append : MethodName := ⟨RX4, "append", "(I)V"⟩
abbrev cX4_firstWrong : ByteArray := prog_6_method_3_code
def yX4_firstWrong : MethodName := ⟨RX4, "firstWrong", "(LMarketRings$Offers;)I"⟩
def RX5 : String := "MarketRings$Tape"
def TX5 : u_T := fun k => match k with
  | 0 => ("MarketRings$Tape", "bytes", "[I", true)
  | _ => ("MarketRings$Tape", "length", "I", false)
def tyX5 : Nat → FieldType := fun k => match k with
  | 0 => .array .int
  | _ => .int
abbrev wsX50 : List Cond := u_ws RX5 TX5 2
theorem nmX5 : ∀ a, a < 2 → ∀ b, b < 2 → a ≠ b → (TX5 a).2.1 ≠ (TX5 b).2.1 := by decide +kernel
theorem tyX5_ok : ∀ k, k < 2 → parseFieldDescriptor (TX5 k).2.2.1 = some (tyX5 k) := by decide +kernel
abbrev cX5_init : ByteArray := prog_7_method_1_code
def yX5_init : MethodName := ⟨RX5, "<init>", "()V"⟩
abbrev cX5_append : ByteArray := prog_7_method_2_code
def yX5_append : MethodName := ⟨RX5, "append", "(IJ)V"⟩
abbrev cX5_firstFault : ByteArray := prog_7_method_3_code
def yX5_firstFault : MethodName := ⟨RX5, "firstFault", "()I"⟩
abbrev cX5_isDigit : ByteArray := prog_7_method_4_code
def yX5_isDigit : MethodName := ⟨RX5, "isDigit", "(I)Z"⟩
def RX6 : String := "MarketRings$Trade"
def TX6 : u_T := fun k => match k with
  | 0 => ("MarketRings$Trade", "leastPrices", "[I", true)
  | 1 => ("MarketRings$Trade", "yields", "[I", true)
  | 2 => ("MarketRings$Trade", "savedPrices", "[I", true)
  | _ => ("MarketRings$Trade", "savedBids", "[J", true)
def tyX6 : Nat → FieldType := fun k => match k with
  | 0 => .array .int
  | 1 => .array .int
  | 2 => .array .int
  | _ => .array .long
abbrev wsX60 : List Cond := u_ws RX6 TX6 4
theorem nmX6 : ∀ a, a < 4 → ∀ b, b < 4 → a ≠ b → (TX6 a).2.1 ≠ (TX6 b).2.1 := by decide +kernel
theorem tyX6_ok : ∀ k, k < 4 → parseFieldDescriptor (TX6 k).2.2.1 = some (tyX6 k) := by decide +kernel
abbrev cX6_init : ByteArray := prog_8_method_1_code
def yX6_init : MethodName := ⟨RX6, "<init>", "()V"⟩
abbrev cX6_clearingPrice : ByteArray := prog_8_method_2_code
def yX6_clearingPrice : MethodName := ⟨RX6, "clearingPrice", "(LMarketRings$Offers;I)I"⟩
abbrev cX6_comingAt : ByteArray := prog_8_method_3_code
def yX6_comingAt : MethodName := ⟨RX6, "comingAt", "(II)I"⟩
abbrev cX6_leastPriceFor : ByteArray := prog_8_method_4_code
def yX6_leastPriceFor : MethodName := ⟨RX6, "leastPriceFor", "(LMarketRings$Offers;II)I"⟩
abbrev cX6_runRounds : ByteArray := prog_8_method_5_code
def yX6_runRounds : MethodName := ⟨RX6, "runRounds", "(LMarketRings$Offers;I)I"⟩
abbrev cX6_runRound : ByteArray := prog_8_method_6_code
def yX6_runRound : MethodName := ⟨RX6, "runRound", "(LMarketRings$Offers;)Z"⟩
abbrev cX6_bestToHold : ByteArray := prog_8_method_7_code
def yX6_bestToHold : MethodName := ⟨RX6, "bestToHold", "(LMarketRings$Offers;I)I"⟩
abbrev cX6_rentsAfterRound : ByteArray := prog_8_method_8_code
def yX6_rentsAfterRound : MethodName := ⟨RX6, "rentsAfterRound", "(LMarketRings$Offers;I)J"⟩
def RX7 : String := "MarketRings$Uses"
def TX7 : u_T := fun k => match k with
  | 0 => ("MarketRings$Uses", "number", "I", false)
  | 1 => ("MarketRings$Uses", "rentTax", "I", false)
  | 2 => ("MarketRings$Uses", "kinds", "[I", true)
  | 3 => ("MarketRings$Uses", "bases", "[I", true)
  | 4 => ("MarketRings$Uses", "mores", "[I", true)
  | 5 => ("MarketRings$Uses", "costs", "[I", true)
  | 6 => ("MarketRings$Uses", "fares", "[I", true)
  | 7 => ("MarketRings$Uses", "taxes", "[I", true)
  | 8 => ("MarketRings$Uses", "years", "[I", true)
  | 9 => ("MarketRings$Uses", "yearSums", "[I", true)
  | 10 => ("MarketRings$Uses", "prices", "[I", true)
  | 11 => ("MarketRings$Uses", "pieces", "[I", true)
  | 12 => ("MarketRings$Uses", "pieceMuch", "[I", true)
  | _ => ("MarketRings$Uses", "piecePrices", "[I", true)
def tyX7 : Nat → FieldType := fun k => match k with
  | 0 => .int
  | 1 => .int
  | 2 => .array .int
  | 3 => .array .int
  | 4 => .array .int
  | 5 => .array .int
  | 6 => .array .int
  | 7 => .array .int
  | 8 => .array .int
  | 9 => .array .int
  | 10 => .array .int
  | 11 => .array .int
  | 12 => .array .int
  | _ => .array .int
abbrev wsX70 : List Cond := u_ws RX7 TX7 14
theorem nmX7 : ∀ a, a < 14 → ∀ b, b < 14 → a ≠ b → (TX7 a).2.1 ≠ (TX7 b).2.1 := by decide +kernel
theorem tyX7_ok : ∀ k, k < 14 → parseFieldDescriptor (TX7 k).2.2.1 = some (tyX7 k) := by decide +kernel
abbrev cX7_init : ByteArray := prog_9_method_1_code
def yX7_init : MethodName := ⟨RX7, "<init>", "()V"⟩
abbrev cX7_append : ByteArray := prog_9_method_2_code
def yX7_append : MethodName := ⟨RX7, "append", "(IIIII)I"⟩
abbrev cX7_appendPiece : ByteArray := prog_9_method_3_code
def yX7_appendPiece : MethodName := ⟨RX7, "appendPiece", "(III)V"⟩
abbrev cX7_takeFrom : ByteArray := prog_9_method_4_code
def yX7_takeFrom : MethodName := ⟨RX7, "takeFrom", "(LMarketRings$Uses;)V"⟩
abbrev cX7_yieldOn : ByteArray := prog_9_method_5_code
def yX7_yieldOn : MethodName := ⟨RX7, "yieldOn", "(II)I"⟩
abbrev cX7_reckonedPrice : ByteArray := prog_9_method_6_code
def yX7_reckonedPrice : MethodName := ⟨RX7, "reckonedPrice", "(I)I"⟩
abbrev cX7_payAtHome : ByteArray := prog_9_method_7_code
def yX7_payAtHome : MethodName := ⟨RX7, "payAtHome", "(II)J"⟩
abbrev cX7_carriage : ByteArray := prog_9_method_8_code
def yX7_carriage : MethodName := ⟨RX7, "carriage", "(II)J"⟩
abbrev cX7_canGo : ByteArray := prog_9_method_9_code
def yX7_canGo : MethodName := ⟨RX7, "canGo", "(II)Z"⟩
abbrev cX7_boughtAt : ByteArray := prog_9_method_10_code
def yX7_boughtAt : MethodName := ⟨RX7, "boughtAt", "(II)I"⟩
def RX8 : String := "MarketRings$Ways"
def TX8 : u_T := fun k => match k with
  | 0 => ("MarketRings$Ways", "byRoad", "[I", true)
  | 1 => ("MarketRings$Ways", "onFoot", "[I", true)
  | 2 => ("MarketRings$Ways", "asked", "[I", true)
  | 3 => ("MarketRings$Ways", "next", "[I", true)
  | 4 => ("MarketRings$Ways", "roadFees", "[I", true)
  | _ => ("MarketRings$Ways", "footFees", "[I", true)
def tyX8 : Nat → FieldType := fun k => match k with
  | 0 => .array .int
  | 1 => .array .int
  | 2 => .array .int
  | 3 => .array .int
  | 4 => .array .int
  | _ => .array .int
abbrev wsX80 : List Cond := u_ws RX8 TX8 6
theorem nmX8 : ∀ a, a < 6 → ∀ b, b < 6 → a ≠ b → (TX8 a).2.1 ≠ (TX8 b).2.1 := by decide +kernel
theorem tyX8_ok : ∀ k, k < 6 → parseFieldDescriptor (TX8 k).2.2.1 = some (tyX8 k) := by decide +kernel
abbrev cX8_init : ByteArray := prog_10_method_1_code
def yX8_init : MethodName := ⟨RX8, "<init>", "()V"⟩
abbrev cX8_reckonFoot : ByteArray := prog_10_method_2_code
def yX8_reckonFoot : MethodName := ⟨RX8, "reckonFoot", "(LMarketRings$Land;)V"⟩
abbrev cX8_reckonRoads : ByteArray := prog_10_method_3_code
def yX8_reckonRoads : MethodName := ⟨RX8, "reckonRoads", "(LMarketRings$Land;)V"⟩
abbrev cX8_between : ByteArray := prog_10_method_4_code
def yX8_between : MethodName := ⟨RX8, "between", "(LMarketRings$Land;II)I"⟩
abbrev cX8_search : ByteArray := prog_10_method_5_code
def yX8_search : MethodName := ⟨RX8, "search", "(II[I[II)V"⟩
abbrev cX8_leastFrom : ByteArray := prog_10_method_6_code
def yX8_leastFrom : MethodName := ⟨RX8, "leastFrom", "(I[I[II)I"⟩
def RX9 : String := "MarketRings$Works"
def TX9 : u_T := fun k => match k with
  | _ => ("MarketRings$Works", "rentsBefore", "[J", true)
def tyX9 : Nat → FieldType := fun k => match k with
  | _ => .array .long
abbrev wsX90 : List Cond := u_ws RX9 TX9 1
theorem nmX9 : ∀ a, a < 1 → ∀ b, b < 1 → a ≠ b → (TX9 a).2.1 ≠ (TX9 b).2.1 := by decide +kernel
theorem tyX9_ok : ∀ k, k < 1 → parseFieldDescriptor (TX9 k).2.2.1 = some (tyX9 k) := by decide +kernel
abbrev cX9_init : ByteArray := prog_11_method_1_code
def yX9_init : MethodName := ⟨RX9, "<init>", "()V"⟩
abbrev cX9_isBuilt : ByteArray := prog_11_method_2_code
def yX9_isBuilt : MethodName := ⟨RX9, "isBuilt", "(LMarketRings$World;I)Z"⟩
abbrev cX9_isAnyBuilt : ByteArray := prog_11_method_3_code
def yX9_isAnyBuilt : MethodName := ⟨RX9, "isAnyBuilt", "(LMarketRings$World;)Z"⟩
abbrev cX9_gainOf : ByteArray := prog_11_method_4_code
def yX9_gainOf : MethodName := ⟨RX9, "gainOf", "(LMarketRings$Offers;I)J"⟩
abbrev cX9_losersBy : ByteArray := prog_11_method_5_code
def yX9_losersBy : MethodName := ⟨RX9, "losersBy", "(LMarketRings$Offers;I)I"⟩
abbrev cX9_bestSet : ByteArray := prog_11_method_6_code
def yX9_bestSet : MethodName := ⟨RX9, "bestSet", "(LMarketRings$Offers;I)I"⟩
abbrev cX9_costOf : ByteArray := prog_11_method_7_code
def yX9_costOf : MethodName := ⟨RX9, "costOf", "(LMarketRings$Plans;I)I"⟩
abbrev cX9_build : ByteArray := prog_11_method_8_code
def yX9_build : MethodName := ⟨RX9, "build", "(LMarketRings$Offers;I)V"⟩
abbrev cX9_tearDown : ByteArray := prog_11_method_9_code
def yX9_tearDown : MethodName := ⟨RX9, "tearDown", "(LMarketRings$Offers;I)V"⟩
abbrev cX9_layRoads : ByteArray := prog_11_method_10_code
def yX9_layRoads : MethodName := ⟨RX9, "layRoads", "(LMarketRings$World;IZ)V"⟩
def RX10 : String := "MarketRings$World"
def TX10 : u_T := fun k => match k with
  | 0 => ("MarketRings$World", "land", "LMarketRings$Land;", true)
  | 1 => ("MarketRings$World", "uses", "LMarketRings$Uses;", true)
  | _ => ("MarketRings$World", "plans", "LMarketRings$Plans;", true)
def tyX10 : Nat → FieldType := fun k => match k with
  | 0 => .object "MarketRings$Land"
  | 1 => .object "MarketRings$Uses"
  | _ => .object "MarketRings$Plans"
abbrev wsX100 : List Cond := u_ws RX10 TX10 3
theorem nmX10 : ∀ a, a < 3 → ∀ b, b < 3 → a ≠ b → (TX10 a).2.1 ≠ (TX10 b).2.1 := by decide +kernel
theorem tyX10_ok : ∀ k, k < 3 → parseFieldDescriptor (TX10 k).2.2.1 = some (tyX10 k) := by decide +kernel
abbrev cX10_init : ByteArray := prog_12_method_1_code
def yX10_init : MethodName := ⟨RX10, "<init>", "()V"⟩
abbrev cX10_takeFrom : ByteArray := prog_12_method_2_code
def yX10_takeFrom : MethodName := ⟨RX10, "takeFrom", "(LMarketRings$World;)V"⟩
def RX11 : String := "MarketRings"
def TX11 : u_T := fun k => match k with
  | 0 => ("MarketRings", "tape", "LMarketRings$Tape;", true)
  | 1 => ("MarketRings", "row", "LMarketRings$Row;", true)
  | 2 => ("MarketRings", "offers", "LMarketRings$Offers;", true)
  | 3 => ("MarketRings", "world", "LMarketRings$World;", true)
  | 4 => ("MarketRings", "land", "LMarketRings$Land;", true)
  | 5 => ("MarketRings", "uses", "LMarketRings$Uses;", true)
  | 6 => ("MarketRings", "plans", "LMarketRings$Plans;", true)
  | 7 => ("MarketRings", "kept", "LMarketRings$World;", true)
  | 8 => ("MarketRings", "isKept", "Z", false)
  | 9 => ("MarketRings", "trade", "LMarketRings$Trade;", true)
  | 10 => ("MarketRings", "works", "LMarketRings$Works;", true)
  | 11 => ("MarketRings", "rings", "LMarketRings$Rings;", true)
  | _ => ("MarketRings", "refusals", "[I", true)
def tyX11 : Nat → FieldType := fun k => match k with
  | 0 => .object "MarketRings$Tape"
  | 1 => .object "MarketRings$Row"
  | 2 => .object "MarketRings$Offers"
  | 3 => .object "MarketRings$World"
  | 4 => .object "MarketRings$Land"
  | 5 => .object "MarketRings$Uses"
  | 6 => .object "MarketRings$Plans"
  | 7 => .object "MarketRings$World"
  | 8 => .boolean
  | 9 => .object "MarketRings$Trade"
  | 10 => .object "MarketRings$Works"
  | 11 => .object "MarketRings$Rings"
  | _ => .array .int
abbrev wsX110 : List Cond := u_ws RX11 TX11 13
theorem nmX11 : ∀ a, a < 13 → ∀ b, b < 13 → a ≠ b → (TX11 a).2.1 ≠ (TX11 b).2.1 := by decide +kernel
theorem tyX11_ok : ∀ k, k < 13 → parseFieldDescriptor (TX11 k).2.2.1 = some (tyX11 k) := by decide +kernel
abbrev cX11_init : ByteArray := prog_1_method_1_code
def yX11_init : MethodName := ⟨RX11, "<init>", "()V"⟩
abbrev cX11_feed : ByteArray := prog_1_method_2_code
def yX11_feed : MethodName := ⟨RX11, "feed", "(IJ)I"⟩
abbrev cX11_read : ByteArray := prog_1_method_3_code
def yX11_read : MethodName := ⟨RX11, "read", "()I"⟩
abbrev cX11_acre : ByteArray := prog_1_method_4_code
def yX11_acre : MethodName := ⟨RX11, "acre", "(II)I"⟩
abbrev cX11_road : ByteArray := prog_1_method_5_code
def yX11_road : MethodName := ⟨RX11, "road", "(III)I"⟩
abbrev cX11_step : ByteArray := prog_1_method_6_code
def yX11_step : MethodName := ⟨RX11, "step", "(II)I"⟩
abbrev cX11_toll : ByteArray := prog_1_method_7_code
def yX11_toll : MethodName := ⟨RX11, "toll", "(II)I"⟩
abbrev cX11_way : ByteArray := prog_1_method_8_code
def yX11_way : MethodName := ⟨RX11, "way", "(II)I"⟩
abbrev cX11_market : ByteArray := prog_1_method_9_code
def yX11_market : MethodName := ⟨RX11, "market", "(I)I"⟩
abbrev cX11_use : ByteArray := prog_1_method_10_code
def yX11_use : MethodName := ⟨RX11, "use", "(IIIII)I"⟩
abbrev cX11_year : ByteArray := prog_1_method_11_code
def yX11_year : MethodName := ⟨RX11, "year", "(II)I"⟩
abbrev cX11_price : ByteArray := prog_1_method_12_code
def yX11_price : MethodName := ⟨RX11, "price", "(III)I"⟩
abbrev cX11_tax : ByteArray := prog_1_method_13_code
def yX11_tax : MethodName := ⟨RX11, "tax", "(II)I"⟩
abbrev cX11_rentTax : ByteArray := prog_1_method_14_code
def yX11_rentTax : MethodName := ⟨RX11, "rentTax", "(I)I"⟩
abbrev cX11_bid : ByteArray := prog_1_method_15_code
def yX11_bid : MethodName := ⟨RX11, "bid", "(III)J"⟩
abbrev cX11_goes : ByteArray := prog_1_method_16_code
def yX11_goes : MethodName := ⟨RX11, "goes", "(II)I"⟩
abbrev cX11_rent : ByteArray := prog_1_method_17_code
def yX11_rent : MethodName := ⟨RX11, "rent", "(I)J"⟩
abbrev cX11_comes : ByteArray := prog_1_method_18_code
def yX11_comes : MethodName := ⟨RX11, "comes", "(II)I"⟩
abbrev cX11_piece : ByteArray := prog_1_method_19_code
def yX11_piece : MethodName := ⟨RX11, "piece", "(IIII)I"⟩
abbrev cX11_bought : ByteArray := prog_1_method_20_code
def yX11_bought : MethodName := ⟨RX11, "bought", "(III)I"⟩
abbrev cX11_clears : ByteArray := prog_1_method_21_code
def yX11_clears : MethodName := ⟨RX11, "clears", "(II)I"⟩
abbrev cX11_rounds : ByteArray := prog_1_method_22_code
def yX11_rounds : MethodName := ⟨RX11, "rounds", "(I)I"⟩
abbrev cX11_ring : ByteArray := prog_1_method_23_code
def yX11_ring : MethodName := ⟨RX11, "ring", "(II)I"⟩
abbrev cX11_edge : ByteArray := prog_1_method_24_code
def yX11_edge : MethodName := ⟨RX11, "edge", "(III)J"⟩
abbrev cX11_unfitRing : ByteArray := prog_1_method_25_code
def yX11_unfitRing : MethodName := ⟨RX11, "unfitRing", "(II)I"⟩
abbrev cX11_out : ByteArray := prog_1_method_26_code
def yX11_out : MethodName := ⟨RX11, "out", "(I)I"⟩
abbrev cX11_borders : ByteArray := prog_1_method_27_code
def yX11_borders : MethodName := ⟨RX11, "borders", "()I"⟩
abbrev cX11_plan : ByteArray := prog_1_method_28_code
def yX11_plan : MethodName := ⟨RX11, "plan", "(IIII)I"⟩
abbrev cX11_gain : ByteArray := prog_1_method_29_code
def yX11_gain : MethodName := ⟨RX11, "gain", "(I)J"⟩
abbrev cX11_best : ByteArray := prog_1_method_30_code
def yX11_best : MethodName := ⟨RX11, "best", "(I)I"⟩
abbrev cX11_losers : ByteArray := prog_1_method_31_code
def yX11_losers : MethodName := ⟨RX11, "losers", "(I)I"⟩
abbrev cX11_unfitPlan : ByteArray := prog_1_method_32_code
def yX11_unfitPlan : MethodName := ⟨RX11, "unfitPlan", "(I)I"⟩
abbrev cX11_falls : ByteArray := prog_1_method_33_code
def yX11_falls : MethodName := ⟨RX11, "falls", "(II)I"⟩
abbrev cX11_own : ByteArray := prog_1_method_34_code
def yX11_own : MethodName := ⟨RX11, "own", "(II)I"⟩
abbrev cX11_held : ByteArray := prog_1_method_35_code
def yX11_held : MethodName := ⟨RX11, "held", "(IZ)I"⟩
abbrev cX11_hold : ByteArray := prog_1_method_36_code
def yX11_hold : MethodName := ⟨RX11, "hold", "(I)I"⟩
abbrev cX11_put : ByteArray := prog_1_method_37_code
def yX11_put : MethodName := ⟨RX11, "put", "(I)I"⟩
abbrev cX11_judge : ByteArray := prog_1_method_38_code
def yX11_judge : MethodName := ⟨RX11, "judge", "()I"⟩
abbrev cX11_image : ByteArray := prog_1_method_39_code
def yX11_image : MethodName := ⟨RX11, "image", "()I"⟩
abbrev cX11_on : ByteArray := prog_1_method_40_code
def yX11_on : MethodName := ⟨RX11, "on", "()I"⟩
abbrev cX11_count : ByteArray := prog_1_method_41_code
def yX11_count : MethodName := ⟨RX11, "count", "(I)I"⟩
abbrev cX11_refuse : ByteArray := prog_1_method_42_code
def yX11_refuse : MethodName := ⟨RX11, "refuse", "(I)I"⟩
abbrev cX11_refuseLong : ByteArray := prog_1_method_43_code
def yX11_refuseLong : MethodName := ⟨RX11, "refuseLong", "(I)J"⟩
abbrev cX11_unfit : ByteArray := prog_1_method_44_code
def yX11_unfit : MethodName := ⟨RX11, "unfit", "(III)I"⟩
abbrev cX11_isNoUse : ByteArray := prog_1_method_45_code
def yX11_isNoUse : MethodName := ⟨RX11, "isNoUse", "(I)Z"⟩
abbrev cX11_isNoMarket : ByteArray := prog_1_method_46_code
def yX11_isNoMarket : MethodName := ⟨RX11, "isNoMarket", "(I)Z"⟩
abbrev cX11_offerOf : ByteArray := prog_1_method_47_code
def yX11_offerOf : MethodName := ⟨RX11, "offerOf", "(II)I"⟩
def RX12 : String := "MarketRingsModel"
def TX12 : u_T := fun k => match k with
  | 0 => ("MarketRingsModel", "refused", "[I", true)
  | 1 => ("MarketRingsModel", "tape", "[I", true)
  | 2 => ("MarketRingsModel", "soil", "[I", true)
  | 3 => ("MarketRingsModel", "toll", "[I", true)
  | 4 => ("MarketRingsModel", "owner", "[I", true)
  | 5 => ("MarketRingsModel", "readSoil", "[I", true)
  | 6 => ("MarketRingsModel", "isHeld", "[Z", true)
  | 7 => ("MarketRingsModel", "taped", "I", false)
  | 8 => ("MarketRingsModel", "wide", "I", false)
  | 9 => ("MarketRingsModel", "high", "I", false)
  | 10 => ("MarketRingsModel", "at", "I", false)
  | 11 => ("MarketRingsModel", "readWide", "I", false)
  | 12 => ("MarketRingsModel", "readHigh", "I", false)
  | 13 => ("MarketRingsModel", "roadA", "[I", true)
  | 14 => ("MarketRingsModel", "roadB", "[I", true)
  | 15 => ("MarketRingsModel", "roadKind", "[I", true)
  | 16 => ("MarketRingsModel", "steps", "[I", true)
  | 17 => ("MarketRingsModel", "roads", "I", false)
  | 18 => ("MarketRingsModel", "way", "[I", true)
  | 19 => ("MarketRingsModel", "eastOf", "[I", true)
  | 20 => ("MarketRingsModel", "southOf", "[I", true)
  | 21 => ("MarketRingsModel", "marketAt", "[I", true)
  | 22 => ("MarketRingsModel", "toMarket", "[I", true)
  | 23 => ("MarketRingsModel", "markets", "I", false)
  | 24 => ("MarketRingsModel", "kind", "[I", true)
  | 25 => ("MarketRingsModel", "base", "[I", true)
  | 26 => ("MarketRingsModel", "more", "[I", true)
  | 27 => ("MarketRingsModel", "cost", "[I", true)
  | 28 => ("MarketRingsModel", "fare", "[I", true)
  | 29 => ("MarketRingsModel", "tax", "[I", true)
  | 30 => ("MarketRingsModel", "year", "[I", true)
  | 31 => ("MarketRingsModel", "years", "[I", true)
  | 32 => ("MarketRingsModel", "price", "[I", true)
  | 33 => ("MarketRingsModel", "piece", "[I", true)
  | 34 => ("MarketRingsModel", "pieceAt", "[I", true)
  | 35 => ("MarketRingsModel", "pieces", "[I", true)
  | 36 => ("MarketRingsModel", "uses", "I", false)
  | 37 => ("MarketRingsModel", "rentTax", "I", false)
  | 38 => ("MarketRingsModel", "toUse", "[I", true)
  | 39 => ("MarketRingsModel", "toPlace", "[I", true)
  | 40 => ("MarketRingsModel", "bidIs", "[J", true)
  | 41 => ("MarketRingsModel", "markUp", "[J", true)
  | 42 => ("MarketRingsModel", "markDown", "[J", true)
  | 43 => ("MarketRingsModel", "edgeUp", "[J", true)
  | 44 => ("MarketRingsModel", "edgeDown", "[J", true)
  | 45 => ("MarketRingsModel", "ringUse", "[I", true)
  | 46 => ("MarketRingsModel", "marks", "I", false)
  | 47 => ("MarketRingsModel", "rings", "I", false)
  | 48 => ("MarketRingsModel", "planA", "[I", true)
  | 49 => ("MarketRingsModel", "planB", "[I", true)
  | 50 => ("MarketRingsModel", "planKind", "[I", true)
  | 51 => ("MarketRingsModel", "planCost", "[I", true)
  | 52 => ("MarketRingsModel", "keptA", "[I", true)
  | 53 => ("MarketRingsModel", "keptB", "[I", true)
  | 54 => ("MarketRingsModel", "keptKind", "[I", true)
  | 55 => ("MarketRingsModel", "plans", "I", false)
  | 56 => ("MarketRingsModel", "before", "[J", true)
  | 57 => ("MarketRingsModel", "went", "[Z", true)
  | 58 => ("MarketRingsModel", "keptPrice", "[I", true)
  | 59 => ("MarketRingsModel", "row", "[I", true)
  | 60 => ("MarketRingsModel", "rowMany", "I", false)
  | 61 => ("MarketRingsModel", "kept", "[I", true)
  | 62 => ("MarketRingsModel", "hasImage", "Z", false)
  | 63 => ("MarketRingsModel", "isKeeping", "Z", false)
  | _ => ("MarketRingsModel", "cursor", "I", false)
def tyX12 : Nat → FieldType := fun k => match k with
  | 0 => .array .int
  | 1 => .array .int
  | 2 => .array .int
  | 3 => .array .int
  | 4 => .array .int
  | 5 => .array .int
  | 6 => .array .boolean
  | 7 => .int
  | 8 => .int
  | 9 => .int
  | 10 => .int
  | 11 => .int
  | 12 => .int
  | 13 => .array .int
  | 14 => .array .int
  | 15 => .array .int
  | 16 => .array .int
  | 17 => .int
  | 18 => .array .int
  | 19 => .array .int
  | 20 => .array .int
  | 21 => .array .int
  | 22 => .array .int
  | 23 => .int
  | 24 => .array .int
  | 25 => .array .int
  | 26 => .array .int
  | 27 => .array .int
  | 28 => .array .int
  | 29 => .array .int
  | 30 => .array .int
  | 31 => .array .int
  | 32 => .array .int
  | 33 => .array .int
  | 34 => .array .int
  | 35 => .array .int
  | 36 => .int
  | 37 => .int
  | 38 => .array .int
  | 39 => .array .int
  | 40 => .array .long
  | 41 => .array .long
  | 42 => .array .long
  | 43 => .array .long
  | 44 => .array .long
  | 45 => .array .int
  | 46 => .int
  | 47 => .int
  | 48 => .array .int
  | 49 => .array .int
  | 50 => .array .int
  | 51 => .array .int
  | 52 => .array .int
  | 53 => .array .int
  | 54 => .array .int
  | 55 => .int
  | 56 => .array .long
  | 57 => .array .boolean
  | 58 => .array .int
  | 59 => .array .int
  | 60 => .int
  | 61 => .array .int
  | 62 => .boolean
  | 63 => .boolean
  | _ => .int
abbrev wsX120 : List Cond := u_ws RX12 TX12 65
theorem nmX12 : ∀ a, a < 65 → ∀ b, b < 65 → a ≠ b → (TX12 a).2.1 ≠ (TX12 b).2.1 := by decide +kernel
theorem tyX12_ok : ∀ k, k < 65 → parseFieldDescriptor (TX12 k).2.2.1 = some (tyX12 k) := by decide +kernel
abbrev cX12_init : ByteArray := prog_14_method_1_code
def yX12_init : MethodName := ⟨RX12, "<init>", "()V"⟩
abbrev cX12_no : ByteArray := prog_14_method_2_code
def yX12_no : MethodName := ⟨RX12, "no", "(I)I"⟩
abbrev cX12_noLong : ByteArray := prog_14_method_3_code
def yX12_noLong : MethodName := ⟨RX12, "noLong", "(I)J"⟩
abbrev cX12_isIn : ByteArray := prog_14_method_4_code
def yX12_isIn : MethodName := ⟨RX12, "isIn", "(JJJ)Z"⟩
abbrev cX12_outOf : ByteArray := prog_14_method_5_code
def yX12_outOf : MethodName := ⟨RX12, "outOf", "(JJJ)I"⟩
abbrev cX12_feed : ByteArray := prog_14_method_6_code
def yX12_feed : MethodName := ⟨RX12, "feed", "(IJ)I"⟩
abbrev cX12_sign : ByteArray := prog_14_method_7_code
def yX12_sign : MethodName := ⟨RX12, "sign", "()I"⟩
abbrev cX12_readsLine : ByteArray := prog_14_method_8_code
def yX12_readsLine : MethodName := ⟨RX12, "readsLine", "()Z"⟩
abbrev cX12_reads : ByteArray := prog_14_method_9_code
def yX12_reads : MethodName := ⟨RX12, "reads", "()Z"⟩
abbrev cX12_read : ByteArray := prog_14_method_10_code
def yX12_read : MethodName := ⟨RX12, "read", "()I"⟩
abbrev cX12_acreOf : ByteArray := prog_14_method_11_code
def yX12_acreOf : MethodName := ⟨RX12, "acreOf", "(I)I"⟩
abbrev cX12_isAcre : ByteArray := prog_14_method_12_code
def yX12_isAcre : MethodName := ⟨RX12, "isAcre", "(I)Z"⟩
abbrev cX12_told : ByteArray := prog_14_method_13_code
def yX12_told : MethodName := ⟨RX12, "told", "(I)I"⟩
abbrev cX12_acre : ByteArray := prog_14_method_14_code
def yX12_acre : MethodName := ⟨RX12, "acre", "(II)I"⟩
abbrev cX12_areBeside : ByteArray := prog_14_method_15_code
def yX12_areBeside : MethodName := ⟨RX12, "areBeside", "(II)Z"⟩
abbrev cX12_roadOf : ByteArray := prog_14_method_16_code
def yX12_roadOf : MethodName := ⟨RX12, "roadOf", "(II)I"⟩
abbrev cX12_puts : ByteArray := prog_14_method_17_code
def yX12_puts : MethodName := ⟨RX12, "puts", "(III)V"⟩
abbrev cX12_road : ByteArray := prog_14_method_18_code
def yX12_road : MethodName := ⟨RX12, "road", "(III)I"⟩
abbrev cX12_step : ByteArray := prog_14_method_19_code
def yX12_step : MethodName := ⟨RX12, "step", "(II)I"⟩
abbrev cX12_toll : ByteArray := prog_14_method_20_code
def yX12_toll : MethodName := ⟨RX12, "toll", "(II)I"⟩
abbrev cX12_stepOf : ByteArray := prog_14_method_21_code
def yX12_stepOf : MethodName := ⟨RX12, "stepOf", "(II)I"⟩
abbrev cX12_findWays : ByteArray := prog_14_method_22_code
def yX12_findWays : MethodName := ⟨RX12, "findWays", "(IZ)V"⟩
abbrev cX12_shortens : ByteArray := prog_14_method_23_code
def yX12_shortens : MethodName := ⟨RX12, "shortens", "(IZ)Z"⟩
abbrev cX12_way : ByteArray := prog_14_method_24_code
def yX12_way : MethodName := ⟨RX12, "way", "(II)I"⟩
abbrev cX12_marketOn : ByteArray := prog_14_method_25_code
def yX12_marketOn : MethodName := ⟨RX12, "marketOn", "(I)I"⟩
abbrev cX12_market : ByteArray := prog_14_method_26_code
def yX12_market : MethodName := ⟨RX12, "market", "(I)I"⟩
abbrev cX12_isMarket : ByteArray := prog_14_method_27_code
def yX12_isMarket : MethodName := ⟨RX12, "isMarket", "(I)Z"⟩
abbrev cX12_findMarketWays : ByteArray := prog_14_method_28_code
def yX12_findMarketWays : MethodName := ⟨RX12, "findMarketWays", "()V"⟩
abbrev cX12_isUse : ByteArray := prog_14_method_29_code
def yX12_isUse : MethodName := ⟨RX12, "isUse", "(I)Z"⟩
abbrev cX12_use : ByteArray := prog_14_method_30_code
def yX12_use : MethodName := ⟨RX12, "use", "(IIIII)I"⟩
abbrev cX12_year : ByteArray := prog_14_method_31_code
def yX12_year : MethodName := ⟨RX12, "year", "(II)I"⟩
abbrev cX12_price : ByteArray := prog_14_method_32_code
def yX12_price : MethodName := ⟨RX12, "price", "(III)I"⟩
abbrev cX12_tax : ByteArray := prog_14_method_33_code
def yX12_tax : MethodName := ⟨RX12, "tax", "(II)I"⟩
abbrev cX12_yieldOf : ByteArray := prog_14_method_34_code
def yX12_yieldOf : MethodName := ⟨RX12, "yieldOf", "(II)I"⟩
abbrev cX12_mean : ByteArray := prog_14_method_35_code
def yX12_mean : MethodName := ⟨RX12, "mean", "(I)I"⟩
abbrev cX12_fareOf : ByteArray := prog_14_method_36_code
def yX12_fareOf : MethodName := ⟨RX12, "fareOf", "(I)I"⟩
abbrev cX12_worth : ByteArray := prog_14_method_37_code
def yX12_worth : MethodName := ⟨RX12, "worth", "(III)J"⟩
abbrev cX12_wayOf : ByteArray := prog_14_method_38_code
def yX12_wayOf : MethodName := ⟨RX12, "wayOf", "(III)I"⟩
abbrev cX12_bidOf : ByteArray := prog_14_method_39_code
def yX12_bidOf : MethodName := ⟨RX12, "bidOf", "(III)J"⟩
abbrev cX12_bid : ByteArray := prog_14_method_40_code
def yX12_bid : MethodName := ⟨RX12, "bid", "(III)J"⟩
abbrev cX12_findGoing : ByteArray := prog_14_method_41_code
def yX12_findGoing : MethodName := ⟨RX12, "findGoing", "(I)V"⟩
abbrev cX12_finds : ByteArray := prog_14_method_42_code
def yX12_finds : MethodName := ⟨RX12, "finds", "()V"⟩
abbrev cX12_goes : ByteArray := prog_14_method_43_code
def yX12_goes : MethodName := ⟨RX12, "goes", "(II)I"⟩
abbrev cX12_rentOf : ByteArray := prog_14_method_44_code
def yX12_rentOf : MethodName := ⟨RX12, "rentOf", "(I)J"⟩
abbrev cX12_allRents : ByteArray := prog_14_method_45_code
def yX12_allRents : MethodName := ⟨RX12, "allRents", "()J"⟩
abbrev cX12_rent : ByteArray := prog_14_method_46_code
def yX12_rent : MethodName := ⟨RX12, "rent", "(I)J"⟩
abbrev cX12_comesTo : ByteArray := prog_14_method_47_code
def yX12_comesTo : MethodName := ⟨RX12, "comesTo", "(II)I"⟩
abbrev cX12_comes : ByteArray := prog_14_method_48_code
def yX12_comes : MethodName := ⟨RX12, "comes", "(II)I"⟩
abbrev cX12_piece : ByteArray := prog_14_method_49_code
def yX12_piece : MethodName := ⟨RX12, "piece", "(IIII)I"⟩
abbrev cX12_boughtOf : ByteArray := prog_14_method_50_code
def yX12_boughtOf : MethodName := ⟨RX12, "boughtOf", "(III)I"⟩
abbrev cX12_bought : ByteArray := prog_14_method_51_code
def yX12_bought : MethodName := ⟨RX12, "bought", "(III)I"⟩
abbrev cX12_wouldGo : ByteArray := prog_14_method_52_code
def yX12_wouldGo : MethodName := ⟨RX12, "wouldGo", "(III)Z"⟩
abbrev cX12_clearsOf : ByteArray := prog_14_method_53_code
def yX12_clearsOf : MethodName := ⟨RX12, "clearsOf", "(II)I"⟩
abbrev cX12_findOthers : ByteArray := prog_14_method_54_code
def yX12_findOthers : MethodName := ⟨RX12, "findOthers", "(III)V"⟩
abbrev cX12_clears : ByteArray := prog_14_method_55_code
def yX12_clears : MethodName := ⟨RX12, "clears", "(II)I"⟩
abbrev cX12_goesRound : ByteArray := prog_14_method_56_code
def yX12_goesRound : MethodName := ⟨RX12, "goesRound", "()Z"⟩
abbrev cX12_rounds : ByteArray := prog_14_method_57_code
def yX12_rounds : MethodName := ⟨RX12, "rounds", "(I)I"⟩
abbrev cX12_divisor : ByteArray := prog_14_method_58_code
def yX12_divisor : MethodName := ⟨RX12, "divisor", "(JJ)J"⟩
abbrev cX12_marksAt : ByteArray := prog_14_method_59_code
def yX12_marksAt : MethodName := ⟨RX12, "marksAt", "(JJ)V"⟩
abbrev cX12_isRinged : ByteArray := prog_14_method_60_code
def yX12_isRinged : MethodName := ⟨RX12, "isRinged", "(I)Z"⟩
abbrev cX12_slope : ByteArray := prog_14_method_61_code
def yX12_slope : MethodName := ⟨RX12, "slope", "(II)J"⟩
abbrev cX12_findMarks : ByteArray := prog_14_method_62_code
def yX12_findMarks : MethodName := ⟨RX12, "findMarks", "(I)V"⟩
abbrev cX12_useAt : ByteArray := prog_14_method_63_code
def yX12_useAt : MethodName := ⟨RX12, "useAt", "(IJJ)I"⟩
abbrev cX12_findRings : ByteArray := prog_14_method_64_code
def yX12_findRings : MethodName := ⟨RX12, "findRings", "(I)V"⟩
abbrev cX12_ring : ByteArray := prog_14_method_65_code
def yX12_ring : MethodName := ⟨RX12, "ring", "(II)I"⟩
abbrev cX12_edge : ByteArray := prog_14_method_66_code
def yX12_edge : MethodName := ⟨RX12, "edge", "(III)J"⟩
abbrev cX12_out : ByteArray := prog_14_method_67_code
def yX12_out : MethodName := ⟨RX12, "out", "(I)I"⟩
abbrev cX12_isBorder : ByteArray := prog_14_method_68_code
def yX12_isBorder : MethodName := ⟨RX12, "isBorder", "(II)Z"⟩
abbrev cX12_borders : ByteArray := prog_14_method_69_code
def yX12_borders : MethodName := ⟨RX12, "borders", "()I"⟩
abbrev cX12_plan : ByteArray := prog_14_method_70_code
def yX12_plan : MethodName := ⟨RX12, "plan", "(IIII)I"⟩
abbrev cX12_isPlan : ByteArray := prog_14_method_71_code
def yX12_isPlan : MethodName := ⟨RX12, "isPlan", "(I)Z"⟩
abbrev cX12_isTaken : ByteArray := prog_14_method_72_code
def yX12_isTaken : MethodName := ⟨RX12, "isTaken", "(I)Z"⟩
abbrev cX12_findsWith : ByteArray := prog_14_method_73_code
def yX12_findsWith : MethodName := ⟨RX12, "findsWith", "(I)V"⟩
abbrev cX12_gain : ByteArray := prog_14_method_74_code
def yX12_gain : MethodName := ⟨RX12, "gain", "(I)J"⟩
abbrev cX12_costOf : ByteArray := prog_14_method_75_code
def yX12_costOf : MethodName := ⟨RX12, "costOf", "(I)I"⟩
abbrev cX12_best : ByteArray := prog_14_method_76_code
def yX12_best : MethodName := ⟨RX12, "best", "(I)I"⟩
abbrev cX12_losers : ByteArray := prog_14_method_77_code
def yX12_losers : MethodName := ⟨RX12, "losers", "(I)I"⟩
abbrev cX12_falls : ByteArray := prog_14_method_78_code
def yX12_falls : MethodName := ⟨RX12, "falls", "(II)I"⟩
abbrev cX12_own : ByteArray := prog_14_method_79_code
def yX12_own : MethodName := ⟨RX12, "own", "(II)I"⟩
abbrev cX12_held : ByteArray := prog_14_method_80_code
def yX12_held : MethodName := ⟨RX12, "held", "(IZ)I"⟩
abbrev cX12_rentsBehind : ByteArray := prog_14_method_81_code
def yX12_rentsBehind : MethodName := ⟨RX12, "rentsBehind", "(I)J"⟩
abbrev cX12_hold : ByteArray := prog_14_method_82_code
def yX12_hold : MethodName := ⟨RX12, "hold", "(I)I"⟩
abbrev cX12_put : ByteArray := prog_14_method_83_code
def yX12_put : MethodName := ⟨RX12, "put", "(I)I"⟩
abbrev cX12_judge : ByteArray := prog_14_method_84_code
def yX12_judge : MethodName := ⟨RX12, "judge", "()I"⟩
abbrev cX12_passes : ByteArray := prog_14_method_85_code
def yX12_passes : MethodName := ⟨RX12, "passes", "([I)V"⟩
abbrev cX12_passOne : ByteArray := prog_14_method_86_code
def yX12_passOne : MethodName := ⟨RX12, "passOne", "(I)I"⟩
abbrev cX12_passesAll : ByteArray := prog_14_method_87_code
def yX12_passesAll : MethodName := ⟨RX12, "passesAll", "()V"⟩
abbrev cX12_image : ByteArray := prog_14_method_88_code
def yX12_image : MethodName := ⟨RX12, "image", "()I"⟩
abbrev cX12_on : ByteArray := prog_14_method_89_code
def yX12_on : MethodName := ⟨RX12, "on", "()I"⟩
abbrev cX12_count : ByteArray := prog_14_method_90_code
def yX12_count : MethodName := ⟨RX12, "count", "(I)I"⟩
def RJ9 : String := "java/lang/Math"
def TJ9 : u_T := fun k => match k with
  | _ => ("", "", "", false)
def tyJ9 : Nat → FieldType := fun k => match k with
  | _ => .int
abbrev wsJ90 : List Cond := u_ws RJ9 TJ9 0
theorem nmJ9 : ∀ a, a < 0 → ∀ b, b < 0 → a ≠ b → (TJ9 a).2.1 ≠ (TJ9 b).2.1 := by decide +kernel
theorem tyJ9_ok : ∀ k, k < 0 → parseFieldDescriptor (TJ9 k).2.2.1 = some (tyJ9 k) := by decide +kernel
abbrev cJ9_floorDiv_f86c9 : ByteArray := prog_15_method_49_code
def yJ9_floorDiv_f86c9 : MethodName := ⟨RJ9, "floorDiv", "(JJ)J"⟩
abbrev cJ9_max_7cf53 : ByteArray := prog_15_method_65_code
def yJ9_max_7cf53 : MethodName := ⟨RJ9, "max", "(II)I"⟩
abbrev cJ9_max_f86c9 : ByteArray := prog_15_method_66_code
def yJ9_max_f86c9 : MethodName := ⟨RJ9, "max", "(JJ)J"⟩
abbrev cJ9_min_f86c9 : ByteArray := prog_15_method_70_code
def yJ9_min_f86c9 : MethodName := ⟨RJ9, "min", "(JJ)J"⟩
def RJ10 : String := "java/lang/System"
def TJ10 : u_T := fun k => match k with
  | _ => ("", "", "", false)
def tyJ10 : Nat → FieldType := fun k => match k with
  | _ => .int
abbrev wsJ100 : List Cond := u_ws RJ10 TJ10 0
theorem nmJ10 : ∀ a, a < 0 → ∀ b, b < 0 → a ≠ b → (TJ10 a).2.1 ≠ (TJ10 b).2.1 := by decide +kernel
theorem tyJ10_ok : ∀ k, k < 0 → parseFieldDescriptor (TJ10 k).2.2.1 = some (tyJ10 k) := by decide +kernel
def RL : String := "MarketRingsLaw"
abbrev cL_law : ByteArray := code
def yL_law : MethodName := ⟨RL, "law", "([I)Z"⟩
abbrev vwCl : List vw_C := [(RX0, TX0, 13), (RX1, TX1, 8), (RX2, TX2, 5), (RX3, TX3, 9), (RX4, TX4, 2), (RX5, TX5, 2), (RX6, TX6, 4), (RX7, TX7, 14), (RX8, TX8, 6), (RX9, TX9, 1), (RX10, TX10, 3), (RX11, TX11, 13), (RX12, TX12, 65)]
end
section
/-! A SMALL MACHINE OVER NUMBERS: ints and longs are numbers of Int (a guard asks that they stay in their range), cells have numbers (0: the script), a heap is a function.
What a piece of code must show is a proposition, reckoned by recursion over the code (mv_body: one instruction; mv_vc: up to a cut, a call, an end). -/
/-- a value: an int, a long, a cell's number -/
abbrev mv_V : Type := Int ⊕ (Int ⊕ Nat)
/-- what the cells hold: cell, slot -/
abbrev mv_Mem : Type := Nat → Nat → Int
/-- how many cells there are, how many slots; each cell's tag (class, or 100 ints, 101 longs, 102 booleans), length, references -/
abbrev mv_SH : Type := Nat × Nat × (Nat → Nat) × (Nat → Nat) × (Nat → Nat → Nat)
abbrev mv_L : Type := List (Nat × mv_V)
/-- an instruction: its place, its length, its kind, three numbers, a constant, a list of places -/
abbrev mv_E : Type := Nat × Nat × Instr × Nat × Nat × Nat × Int × List Nat
abbrev mv_R32 (x : Int) : Prop := -2147483648 ≤ x ∧ x ≤ 2147483647
abbrev mv_R64 (x : Int) : Prop := -9223372036854775808 ≤ x ∧ x ≤ 9223372036854775807
def mv_up (M : mv_Mem) (a j : Nat) (v : Int) : mv_Mem := fun k i => if k = a ∧ i = j then v else M k i
def mv_cp (M : mv_Mem) (src sp dst dp n : Nat) : mv_Mem := fun k i => if k = dst ∧ dp ≤ i ∧ i < dp + n then M src (sp + (i - dp)) else M k i
def mv_lg (a : Nat) : mv_L → Option mv_V
  | [] => none
  | q :: r => if q.1 = a then some q.2 else mv_lg a r
def mv_isL : mv_V → Bool
  | .inr (.inl _) => true
  | _ => false
def mv_st1 (a : Nat) (v : mv_V) (L : mv_L) : mv_L := (a, v) :: L.filter (fun q => !(q.1 == a) && !(q.1 + 1 == a && mv_isL q.2))
def mv_st2 (a : Nat) (x : Int) (L : mv_L) : mv_L := (a, .inr (.inl x)) :: L.filter (fun q => !(q.1 == a) && (!(q.1 == a + 1) && !(q.1 + 1 == a && mv_isL q.2)))
def mv_stw (st : List mv_V) : Nat := (st.map fun v => if mv_isL v then 2 else 1).sum
def mv_and (x y : Int) : Int := (Int32.ofInt x &&& Int32.ofInt y).toInt
def mv_xor (x y : Int) : Int := (Int32.ofInt x ^^^ Int32.ofInt y).toInt
def mv_shl (x y : Int) : Int := (Int32.ofInt x <<< (Int32.ofInt y &&& 31)).toInt
def mv_shr (x y : Int) : Int := (Int32.ofInt x >>> (Int32.ofInt y &&& 31)).toInt
def mv_land (x y : Int) : Int := (Int64.ofInt x &&& Int64.ofInt y).toInt
def mv_lor (x y : Int) : Int := (Int64.ofInt x ||| Int64.ofInt y).toInt
def mv_lxor (x y : Int) : Int := (Int64.ofInt x ^^^ Int64.ofInt y).toInt
def mv_lshl (x y : Int) : Int := (Int64.ofInt x <<< ((Int32.ofInt y).toInt64 &&& 63)).toInt
def mv_lshr (x y : Int) : Int := (Int64.ofInt x >>> ((Int32.ofInt y).toInt64 &&& 63)).toInt
def mv_lushr (x y : Int) : Int := ((Int64.ofInt x).toUInt64 >>> (((Int32.ofInt y).toInt64).toUInt64 &&& Int64.toUInt64 63)).toInt64.toInt
def mv_cmp (x y : Int) : Int := if y < x then 1 else if x = y then 0 else -1
/-- a number, a long, a cell on top of the stack -/
def mv_pi (st : List mv_V) (k : Int → List mv_V → Prop) : Prop := match st with
  | .inl x :: r => k x r
  | _ => False
def mv_pl (st : List mv_V) (k : Int → List mv_V → Prop) : Prop := match st with
  | .inr (.inl x) :: r => k x r
  | _ => False
def mv_pr (st : List mv_V) (k : Nat → List mv_V → Prop) : Prop := match st with
  | .inr (.inr x) :: r => k x r
  | _ => False
def mv_sw (jump : Nat → Prop) (x : Int) (d : Nat) : Int → List Nat → Prop
  | _, [] => jump d
  | lo, t :: ts => if x = lo then jump t else mv_sw jump x d (lo + 1) ts
def mv_cd (c : Jvm.ClassFile.Cond) (x y : Int) (A B : Prop) : Prop := match c with
  | .eq => if x = y then A else B
  | .ne => if x = y then B else A
  | .lt => if x < y then A else B
  | .ge => if y ≤ x then A else B
  | .gt => if y < x then A else B
  | .le => if x ≤ y then A else B
def mv_nwA (sh : mv_SH) (a : Nat) (n : Nat) : mv_SH := (sh.1 + 1, sh.2.1 + n, (fun k => if k = sh.1 + 1 then a else sh.2.2.1 k), (fun k => if k = sh.1 + 1 then n else sh.2.2.2.1 k), sh.2.2.2.2)
def mv_nwO (sh : mv_SH) (a : Nat) (n : Nat) : mv_SH := (sh.1 + 1, sh.2.1 + n, (fun k => if k = sh.1 + 1 then a else sh.2.2.1 k), sh.2.2.2.1, (fun k f => if k = sh.1 + 1 then 0 else sh.2.2.2.2 k f))
def mv_nwM (sh : mv_SH) (M : mv_Mem) : mv_Mem := fun k i => if k = sh.1 + 1 then 0 else M k i
def mv_rf (sh : mv_SH) (k b j : Nat) : mv_SH := (sh.1, sh.2.1, sh.2.2.1, sh.2.2.2.1, (fun k' f => if k' = k ∧ f = b then j else sh.2.2.2.2 k' f))
/-- what is asked of a call's end: the cells are as they were; an int, a long, nothing is answered -/
def mv_qi (sh : mv_SH) (F : Int → mv_Mem → Prop) : Option mv_V → mv_SH → mv_Mem → Prop := fun r sh' M' => sh' = sh ∧ ∃ x, r = some (.inl x) ∧ F x M'
def mv_ql (sh : mv_SH) (F : Int → mv_Mem → Prop) : Option mv_V → mv_SH → mv_Mem → Prop := fun r sh' M' => sh' = sh ∧ ∃ x, r = some (.inr (.inl x)) ∧ F x M'
def mv_qv (sh : mv_SH) (F : mv_Mem → Prop) : Option mv_V → mv_SH → mv_Mem → Prop := fun r sh' M' => sh' = sh ∧ r = none ∧ F M'
theorem mv_qi_i {sh : mv_SH} {F : Int → mv_Mem → Prop} {x : Int} {M : mv_Mem} (h : F x M) : mv_qi sh F (some (.inl x)) sh M := ⟨rfl, x, rfl, h⟩
theorem mv_ql_i {sh : mv_SH} {F : Int → mv_Mem → Prop} {x : Int} {M : mv_Mem} (h : F x M) : mv_ql sh F (some (.inr (.inl x))) sh M := ⟨rfl, x, rfl, h⟩
theorem mv_qv_i {sh : mv_SH} {F : mv_Mem → Prop} {M : mv_Mem} (h : F M) : mv_qv sh F none sh M := ⟨rfl, rfl, h⟩
/-- one instruction: call, next, jump, post: what is to hold of a call, of the next instruction, behind a jump, at the end -/
def mv_body (call : Nat → List mv_V → mv_SH → mv_Mem → (Option mv_V → mv_SH → mv_Mem → Prop) → Prop)
    (next : mv_L → List mv_V → mv_SH → mv_Mem → Prop) (jump : Nat → mv_L → List mv_V → mv_SH → mv_Mem → Prop)
    (post : Option mv_V → mv_SH → mv_Mem → Prop) (n0 s0 mc ms : Nat) (ni : Instr) (a b c : Nat) (v : Int) (ts : List Nat) (L : mv_L) (st : List mv_V) (sh : mv_SH) (M : mv_Mem) : Prop :=
  match ni with
  | .iconst _ => next L (.inl v :: st) sh M
  | .lconst _ => next L (.inr (.inl v) :: st) sh M
  | .iload _ => (match mv_lg a L with
    | some (.inl x) => next L (.inl x :: st) sh M
    | _ => False)
  | .lload _ => (match mv_lg a L with
    | some (.inr (.inl x)) => next L (.inr (.inl x) :: st) sh M
    | _ => False)
  | .aload _ => (match mv_lg a L with
    | some (.inr (.inr x)) => next L (.inr (.inr x) :: st) sh M
    | _ => False)
  | .istore _ => mv_pi st fun x r => next (mv_st1 a (.inl x) L) r sh M
  | .lstore _ => mv_pl st fun x r => next (mv_st2 a x L) r sh M
  | .astore _ => mv_pr st fun x r => next (mv_st1 a (.inr (.inr x)) L) r sh M
  | .iinc _ _ => (match mv_lg a L with
    | some (.inl x) => mv_R32 (x + v) ∧ next (mv_st1 a (.inl (x + v)) L) st sh M
    | _ => False)
  | .iadd => mv_pi st fun y r => mv_pi r fun x r => mv_R32 (x + y) ∧ next L (.inl (x + y) :: r) sh M
  | .isub => mv_pi st fun y r => mv_pi r fun x r => mv_R32 (x - y) ∧ next L (.inl (x - y) :: r) sh M
  | .imul => mv_pi st fun y r => mv_pi r fun x r => mv_R32 (x * y) ∧ next L (.inl (x * y) :: r) sh M
  | .idiv => mv_pi st fun y r => mv_pi r fun x r => (¬ y = 0 ∧ mv_R32 (x.tdiv y)) ∧ next L (.inl (x.tdiv y) :: r) sh M
  | .irem => mv_pi st fun y r => mv_pi r fun x r => ¬ y = 0 ∧ next L (.inl (x.tmod y) :: r) sh M
  | .ineg => mv_pi st fun x r => mv_R32 (-x) ∧ next L (.inl (-x) :: r) sh M
  | .iand => mv_pi st fun y r => mv_pi r fun x r => next L (.inl (mv_and x y) :: r) sh M
  | .ixor => mv_pi st fun y r => mv_pi r fun x r => next L (.inl (mv_xor x y) :: r) sh M
  | .ishl => mv_pi st fun y r => mv_pi r fun x r => next L (.inl (mv_shl x y) :: r) sh M
  | .ishr => mv_pi st fun y r => mv_pi r fun x r => next L (.inl (mv_shr x y) :: r) sh M
  | .ladd => mv_pl st fun y r => mv_pl r fun x r => mv_R64 (x + y) ∧ next L (.inr (.inl (x + y)) :: r) sh M
  | .lsub => mv_pl st fun y r => mv_pl r fun x r => mv_R64 (x - y) ∧ next L (.inr (.inl (x - y)) :: r) sh M
  | .lmul => mv_pl st fun y r => mv_pl r fun x r => mv_R64 (x * y) ∧ next L (.inr (.inl (x * y)) :: r) sh M
  | .ldiv => mv_pl st fun y r => mv_pl r fun x r => (¬ y = 0 ∧ mv_R64 (x.tdiv y)) ∧ next L (.inr (.inl (x.tdiv y)) :: r) sh M
  | .lrem => mv_pl st fun y r => mv_pl r fun x r => ¬ y = 0 ∧ next L (.inr (.inl (x.tmod y)) :: r) sh M
  | .lneg => mv_pl st fun x r => mv_R64 (-x) ∧ next L (.inr (.inl (-x)) :: r) sh M
  | .land => mv_pl st fun y r => mv_pl r fun x r => next L (.inr (.inl (mv_land x y)) :: r) sh M
  | .lor => mv_pl st fun y r => mv_pl r fun x r => next L (.inr (.inl (mv_lor x y)) :: r) sh M
  | .lxor => mv_pl st fun y r => mv_pl r fun x r => next L (.inr (.inl (mv_lxor x y)) :: r) sh M
  | .lshl => mv_pi st fun y r => mv_pl r fun x r => next L (.inr (.inl (mv_lshl x y)) :: r) sh M
  | .lshr => mv_pi st fun y r => mv_pl r fun x r => next L (.inr (.inl (mv_lshr x y)) :: r) sh M
  | .lushr => mv_pi st fun y r => mv_pl r fun x r => next L (.inr (.inl (mv_lushr x y)) :: r) sh M
  | .i2l => mv_pi st fun x r => next L (.inr (.inl x) :: r) sh M
  | .l2i => mv_pl st fun x r => mv_R32 x ∧ next L (.inl x :: r) sh M
  | .lcmp => mv_pl st fun y r => mv_pl r fun x r => next L (.inl (mv_cmp x y) :: r) sh M
  | .dup => (match st with
    | x :: r => if mv_isL x = false then next L (x :: x :: r) sh M else False
    | _ => False)
  | .dup2 => (match st with
    | y :: x :: r => if mv_isL x = false ∧ mv_isL y = false then next L (y :: x :: y :: x :: r) sh M else False
    | _ => False)
  | .pop => (match st with
    | x :: r => if mv_isL x = false then next L r sh M else False
    | _ => False)
  | .goto _ => jump a L st sh M
  | .ifCond k _ => mv_pi st fun x r => mv_cd k x 0 (jump a L r sh M) (next L r sh M)
  | .if_icmp k _ => mv_pi st fun y r => mv_pi r fun x r => mv_cd k x y (jump a L r sh M) (next L r sh M)
  | .tableswitch _ _ _ _ => mv_pi st fun x r => mv_sw (fun t => jump t L r sh M) x a v ts
  | .getfield _ => mv_pr st fun k r => if 1 ≤ k ∧ k ≤ sh.1 ∧ sh.2.2.1 k = a then
      (if c = 2 then (if 1 ≤ sh.2.2.2.2 k b then next L (.inr (.inr (sh.2.2.2.2 k b)) :: r) sh M else False) else next L (.inl (M k b) :: r) sh M) else False
  | .putfield _ => if c = 2 then (mv_pr st fun j r => mv_pr r fun k r => if 1 ≤ k ∧ k ≤ sh.1 ∧ sh.2.2.1 k = a ∧ 1 ≤ j ∧ j ≤ sh.1 then next L r (mv_rf sh k b j) M else False)
      else mv_pi st fun x r => mv_pr r fun k r => if 1 ≤ k ∧ k ≤ sh.1 ∧ sh.2.2.1 k = a then (if c = 1 then (x = 0 ∨ x = 1) ∧ next L r sh (mv_up M k b x) else next L r sh (mv_up M k b x)) else False
  | .iaload => mv_pi st fun i r => mv_pr r fun k r => if k ≤ sh.1 ∧ sh.2.2.1 k = 100 then (0 ≤ i ∧ i < (sh.2.2.2.1 k : Int)) ∧ next L (.inl (M k i.toNat) :: r) sh M else False
  | .laload => mv_pi st fun i r => mv_pr r fun k r => if 1 ≤ k ∧ k ≤ sh.1 ∧ sh.2.2.1 k = 101 then (0 ≤ i ∧ i < (sh.2.2.2.1 k : Int)) ∧ next L (.inr (.inl (M k i.toNat)) :: r) sh M else False
  | .baload => mv_pi st fun i r => mv_pr r fun k r => if 1 ≤ k ∧ k ≤ sh.1 ∧ sh.2.2.1 k = 102 then (0 ≤ i ∧ i < (sh.2.2.2.1 k : Int)) ∧ next L (.inl (M k i.toNat) :: r) sh M else False
  | .iastore => mv_pi st fun x r => mv_pi r fun i r => mv_pr r fun k r => if 1 ≤ k ∧ k ≤ sh.1 ∧ sh.2.2.1 k = 100 then (0 ≤ i ∧ i < (sh.2.2.2.1 k : Int)) ∧ next L r sh (mv_up M k i.toNat x) else False
  | .lastore => mv_pl st fun x r => mv_pi r fun i r => mv_pr r fun k r => if 1 ≤ k ∧ k ≤ sh.1 ∧ sh.2.2.1 k = 101 then (0 ≤ i ∧ i < (sh.2.2.2.1 k : Int)) ∧ next L r sh (mv_up M k i.toNat x) else False
  | .bastore => mv_pi st fun x r => mv_pi r fun i r => mv_pr r fun k r => if 1 ≤ k ∧ k ≤ sh.1 ∧ sh.2.2.1 k = 102 then ((0 ≤ i ∧ i < (sh.2.2.2.1 k : Int)) ∧ (x = 0 ∨ x = 1)) ∧ next L r sh (mv_up M k i.toNat x) else False
  | .arraylength => mv_pr st fun k r => if k ≤ sh.1 ∧ sh.2.2.1 k = 100 then next L (.inl (sh.2.2.2.1 k : Int) :: r) sh M else False
  | .newarray _ => mv_pi st fun n r => if 0 ≤ n ∧ n ≤ 100000 ∧ sh.1 + 1 ≤ n0 + mc ∧ sh.2.1 + n.toNat ≤ s0 + ms then next L (.inr (.inr (sh.1 + 1)) :: r) (mv_nwA sh a n.toNat) (mv_nwM sh M) else False
  | .new _ => if sh.1 + 1 ≤ n0 + mc ∧ sh.2.1 + b ≤ s0 + ms then next L (.inr (.inr (sh.1 + 1)) :: st) (mv_nwO sh a b) (mv_nwM sh M) else False
  | .invokespecial _ => if c = 1 then (mv_pr st fun _ r => if mv_stw r ≤ 8 then next L r sh M else False)
      else (match (st.take b).reverse with
        | .inr (.inr k) :: As => if mv_stw (st.drop b) ≤ 8 ∧ b ≤ st.length ∧ sh.1 + (c - 2) ≤ n0 + mc ∧ sh.2.1 + v.toNat ≤ s0 + ms then call a (.inr (.inr k) :: As) sh M (fun r sh' M' => next L (r.toList ++ st.drop b) sh' M') else False
        | _ => False)
  | .invokevirtual _ => (match (st.take b).reverse with
        | .inr (.inr k) :: As => if (1 ≤ k ∧ k ≤ sh.1 ∧ sh.2.2.1 k = c) ∧ mv_stw (st.drop b) ≤ 8 ∧ b ≤ st.length then (if v = 1 then call a (.inr (.inr k) :: As) sh M (mv_qi sh fun x M' => next L (.inl x :: st.drop b) sh M') else if v = 2 then call a (.inr (.inr k) :: As) sh M (mv_ql sh fun x M' => next L (.inr (.inl x) :: st.drop b) sh M') else call a (.inr (.inr k) :: As) sh M (mv_qv sh fun M' => next L (st.drop b) sh M')) else False
        | _ => False)
  | .invokestatic _ => if c = 1 then (if mv_stw (st.drop b) ≤ 8 ∧ b ≤ st.length then (if v = 1 then call a (st.take b).reverse sh M (mv_qi sh fun x M' => next L (.inl x :: st.drop b) sh M') else if v = 2 then call a (st.take b).reverse sh M (mv_ql sh fun x M' => next L (.inr (.inl x) :: st.drop b) sh M') else call a (st.take b).reverse sh M (mv_qv sh fun M' => next L (st.drop b) sh M')) else False)
      else mv_pi st fun n r => mv_pi r fun dp r => mv_pr r fun d r => mv_pi r fun sp r => mv_pr r fun s r =>
        if (1 ≤ s ∧ s ≤ sh.1 ∧ sh.2.2.1 s = c) ∧ (1 ≤ d ∧ d ≤ sh.1 ∧ sh.2.2.1 d = c) ∧ mv_stw r ≤ 8 then (0 ≤ sp ∧ 0 ≤ dp ∧ 0 ≤ n ∧ sp + n ≤ (sh.2.2.2.1 s : Int) ∧ dp + n ≤ (sh.2.2.2.1 d : Int)) ∧ next L r sh (mv_cp M s sp.toNat d dp.toNat n.toNat) else False
  | .ireturn => (match st with
    | [.inl x] => if sh.1 = n0 + mc ∧ sh.2.1 = s0 + ms then (if a = 1 then (x = 0 ∨ x = 1) ∧ post (some (.inl x)) sh M else post (some (.inl x)) sh M) else False
    | _ => False)
  | .lreturn => (match st with
    | [.inr (.inl x)] => if sh.1 = n0 + mc ∧ sh.2.1 = s0 + ms then post (some (.inr (.inl x))) sh M else False
    | _ => False)
  | .return_ => (match st with
    | [] => if sh.1 = n0 + mc ∧ sh.2.1 = s0 + ms then post none sh M else False
    | _ => False)
  | _ => False
/-- a method: its name, code, locals, answer, class; its instructions; its room: frames, cells, slots, words of locals -/
abbrev mv_T : Type := MethodName × ByteArray × Nat × Option FieldType × String × List mv_E × Nat × Nat × Nat × Nat
def mt_y (r : mv_T) : MethodName := r.1
def mt_cc (r : mv_T) : ByteArray := r.2.1
def mt_nL (r : mv_T) : Nat := r.2.2.1
def mt_ret (r : mv_T) : Option FieldType := r.2.2.2.1
def mt_own (r : mv_T) : String := r.2.2.2.2.1
def mt_code (r : mv_T) : List mv_E := r.2.2.2.2.2.1
def mt_fr (r : mv_T) : Nat := r.2.2.2.2.2.2.1
def mt_mc (r : mv_T) : Nat := r.2.2.2.2.2.2.2.1
def mt_ms (r : mv_T) : Nat := r.2.2.2.2.2.2.2.2.1
def mt_lo (r : mv_T) : Nat := r.2.2.2.2.2.2.2.2.2
def mt_rm (r : mv_T) : Room := { frames := mt_fr r, cells := mt_mc r, slots := mt_ms r, locals := mt_lo r }
/-- the code from a place on -/
def mv_at (pc : Nat) : List mv_E → List mv_E
  | [] => []
  | e :: r => if e.1 = pc then e :: r else mv_at pc r
/-- the locals at a method's entry -/
def mv_en (i : Nat) : List mv_V → mv_L
  | [] => []
  | v :: r => (i, v) :: mv_en (i + if mv_isL v then 2 else 1) r
def mv_pk (ks : List Nat) (L : mv_L) : mv_L := ks.filterMap (fun a => (mv_lg a L).map fun v => (a, v))
def mv_cut (pc : Nat) : List (Nat × List Nat) → Option (List Nat)
  | [] => none
  | q :: r => if q.1 = pc then some q.2 else mv_cut pc r
end
section
/-! THE CODE of all methods for the small machine (by program: wip/whole/gen.py) -/
def mc_X0_init : List mv_E := [
  (0, 1, .aload 0, 0, 0, 0, 0, []), (1, 3, .invokespecial 0, 0, 0, 1, 0, [145, 95, 96]), (4, 1, .aload 0, 0, 0, 0, 0, []), (5, 1, .iconst 0, 0, 0, 0, 1, []), (6, 3, .putfield 0, 0, 0, 0, 0, [146]), (9, 1, .aload 0, 0, 0, 0, 0, []),
  (10, 1, .iconst 0, 0, 0, 0, 1, []), (11, 3, .putfield 0, 0, 1, 0, 0, [149]), (14, 1, .aload 0, 0, 0, 0, 0, []), (15, 1, .iconst 0, 0, 0, 0, 1, []), (16, 3, .putfield 0, 0, 2, 0, 0, [151]), (19, 1, .aload 0, 0, 0, 0, 0, []),
  (20, 1, .iconst 0, 0, 0, 0, 0, []), (21, 3, .putfield 0, 0, 3, 0, 0, [158]), (24, 1, .aload 0, 0, 0, 0, 0, []), (25, 1, .iconst 0, 0, 0, 0, 0, []), (26, 3, .putfield 0, 0, 4, 0, 0, [160]), (29, 1, .aload 0, 0, 0, 0, 0, []),
  (30, 2, .iconst 0, 0, 0, 0, 48, []), (32, 2, .newarray .int, 100, 0, 0, 0, [113]), (34, 3, .putfield 0, 0, 5, 2, 0, [165]), (37, 1, .aload 0, 0, 0, 0, 0, []), (38, 2, .iconst 0, 0, 0, 0, 48, []), (40, 2, .newarray .int, 100, 0, 0, 0, [113]),
  (42, 3, .putfield 0, 0, 6, 2, 0, [167]), (45, 1, .aload 0, 0, 0, 0, 0, []), (46, 2, .iconst 0, 0, 0, 0, 48, []), (48, 2, .newarray .int, 100, 0, 0, 0, [113]), (50, 3, .putfield 0, 0, 7, 2, 0, [171]), (53, 1, .aload 0, 0, 0, 0, 0, []),
  (54, 2, .iconst 0, 0, 0, 0, 48, []), (56, 2, .newarray .int, 100, 0, 0, 0, [113]), (58, 3, .putfield 0, 0, 8, 2, 0, [174]), (61, 1, .aload 0, 0, 0, 0, 0, []), (62, 2, .iconst 0, 0, 0, 0, 48, []), (64, 2, .newarray .int, 100, 0, 0, 0, [113]),
  (66, 3, .putfield 0, 0, 9, 2, 0, [178]), (69, 1, .aload 0, 0, 0, 0, 0, []), (70, 3, .iconst 0, 0, 0, 0, 192, []), (73, 2, .newarray .int, 100, 0, 0, 0, [113]), (75, 3, .putfield 0, 0, 10, 2, 0, [182]), (78, 1, .aload 0, 0, 0, 0, 0, []),
  (79, 1, .iconst 0, 0, 0, 0, 3, []), (80, 2, .newarray .int, 100, 0, 0, 0, [113]), (82, 3, .putfield 0, 0, 11, 2, 0, [184]), (85, 1, .aload 0, 0, 0, 0, 0, []), (86, 1, .iconst 0, 0, 0, 0, 4, []), (87, 2, .newarray .int, 100, 0, 0, 0, [113]),
  (89, 1, .dup, 0, 0, 0, 0, []), (90, 1, .iconst 0, 0, 0, 0, 0, []), (91, 2, .iconst 0, 0, 0, 0, 10, []), (93, 1, .iastore, 0, 0, 0, 0, []), (94, 1, .dup, 0, 0, 0, 0, []), (95, 1, .iconst 0, 0, 0, 0, 1, []),
  (96, 2, .iconst 0, 0, 0, 0, 6, []), (98, 1, .iastore, 0, 0, 0, 0, []), (99, 1, .dup, 0, 0, 0, 0, []), (100, 1, .iconst 0, 0, 0, 0, 2, []), (101, 1, .iconst 0, 0, 0, 0, 3, []), (102, 1, .iastore, 0, 0, 0, 0, []),
  (103, 1, .dup, 0, 0, 0, 0, []), (104, 1, .iconst 0, 0, 0, 0, 3, []), (105, 1, .iconst 0, 0, 0, 0, 2, []), (106, 1, .iastore, 0, 0, 0, 0, []), (107, 3, .putfield 0, 0, 12, 2, 0, [187]), (110, 1, .iconst 0, 0, 0, 0, 0, []),
  (111, 1, .istore 0, 1, 0, 0, 0, []), (112, 1, .iload 0, 1, 0, 0, 0, []), (113, 2, .iconst 0, 0, 0, 0, 48, []), (115, 3, .if_icmp .ge 0, 131, 0, 0, 0, []), (118, 1, .aload 0, 0, 0, 0, 0, []), (119, 3, .getfield 0, 0, 8, 2, 0, [174]),
  (122, 1, .iload 0, 1, 0, 0, 0, []), (123, 1, .iconst 0, 0, 0, 0, (-1), []), (124, 1, .iastore, 0, 0, 0, 0, []), (125, 3, .iinc 0 0, 1, 0, 0, 1, []), (128, 3, .goto 0, 112, 0, 0, 0, []), (131, 1, .return_, 0, 0, 0, 0, [])
  ]
def mc_X0_layOut : List mv_E := [
  (0, 1, .aload 0, 0, 0, 0, 0, []), (1, 3, .invokevirtual 0, 2, 1, 0, 0, [532, 534, 1, 79]), (4, 1, .iconst 0, 0, 0, 0, 0, []), (5, 1, .istore 0, 2, 0, 0, 0, []), (6, 1, .iconst 0, 0, 0, 0, 0, []), (7, 1, .istore 0, 3, 0, 0, 0, []),
  (8, 1, .iconst 0, 0, 0, 0, 0, []), (9, 2, .istore 0, 4, 0, 0, 0, []), (11, 2, .iload 0, 4, 0, 0, 0, []), (13, 1, .aload 0, 1, 0, 0, 0, []), (14, 3, .getfield 0, 5, 1, 0, 0, [106]), (17, 3, .if_icmp .ge 0, 102, 0, 0, 0, []),
  (20, 1, .aload 0, 1, 0, 0, 0, []), (21, 3, .getfield 0, 5, 0, 2, 0, [104]), (24, 2, .iload 0, 4, 0, 0, 0, []), (26, 1, .iaload, 0, 0, 0, 0, []), (27, 2, .iconst 0, 0, 0, 0, 47, []), (29, 3, .if_icmp .ne 0, 40, 0, 0, 0, []),
  (32, 1, .iconst 0, 0, 0, 0, 0, []), (33, 1, .istore 0, 2, 0, 0, 0, []), (34, 3, .iinc 0 0, 3, 0, 0, 1, []), (37, 3, .goto 0, 96, 0, 0, 0, []), (40, 1, .aload 0, 0, 0, 0, 0, []), (41, 3, .getfield 0, 0, 2, 0, 0, [151]),
  (44, 2, .iconst 0, 0, 0, 0, 48, []), (46, 3, .if_icmp .ge 0, 96, 0, 0, 0, []), (49, 1, .aload 0, 0, 0, 0, 0, []), (50, 3, .getfield 0, 0, 6, 2, 0, [167]), (53, 1, .aload 0, 0, 0, 0, 0, []), (54, 3, .getfield 0, 0, 2, 0, 0, [151]),
  (57, 1, .aload 0, 1, 0, 0, 0, []), (58, 3, .getfield 0, 5, 0, 2, 0, [104]), (61, 2, .iload 0, 4, 0, 0, 0, []), (63, 1, .iaload, 0, 0, 0, 0, []), (64, 2, .iconst 0, 0, 0, 0, 48, []), (66, 1, .isub, 0, 0, 0, 0, []),
  (67, 1, .iastore, 0, 0, 0, 0, []), (68, 1, .aload 0, 0, 0, 0, 0, []), (69, 3, .getfield 0, 0, 5, 2, 0, [165]), (72, 1, .aload 0, 0, 0, 0, 0, []), (73, 3, .getfield 0, 0, 2, 0, 0, [151]), (76, 2, .iconst 0, 0, 0, 0, 10, []),
  (78, 1, .iload 0, 2, 0, 0, 0, []), (79, 1, .imul, 0, 0, 0, 0, []), (80, 1, .iload 0, 3, 0, 0, 0, []), (81, 1, .iadd, 0, 0, 0, 0, []), (82, 1, .iastore, 0, 0, 0, 0, []), (83, 1, .aload 0, 0, 0, 0, 0, []),
  (84, 1, .dup, 0, 0, 0, 0, []), (85, 3, .getfield 0, 0, 2, 0, 0, [151]), (88, 1, .iconst 0, 0, 0, 0, 1, []), (89, 1, .iadd, 0, 0, 0, 0, []), (90, 3, .putfield 0, 0, 2, 0, 0, [151]), (93, 3, .iinc 0 0, 2, 0, 0, 1, []),
  (96, 3, .iinc 0 0, 4, 0, 0, 1, []), (99, 3, .goto 0, 11, 0, 0, 0, []), (102, 1, .aload 0, 0, 0, 0, 0, []), (103, 1, .iload 0, 2, 0, 0, 0, []), (104, 3, .putfield 0, 0, 0, 0, 0, [146]), (107, 1, .aload 0, 0, 0, 0, 0, []),
  (108, 1, .iload 0, 3, 0, 0, 0, []), (109, 1, .iconst 0, 0, 0, 0, 1, []), (110, 1, .iadd, 0, 0, 0, 0, []), (111, 3, .putfield 0, 0, 1, 0, 0, [149]), (114, 1, .return_, 0, 0, 0, 0, [])
  ]
def mc_X0_clearAway : List mv_E := [
  (0, 1, .aload 0, 0, 0, 0, 0, []), (1, 1, .iconst 0, 0, 0, 0, 0, []), (2, 3, .putfield 0, 0, 2, 0, 0, [151]), (5, 1, .aload 0, 0, 0, 0, 0, []), (6, 1, .iconst 0, 0, 0, 0, 0, []), (7, 3, .putfield 0, 0, 3, 0, 0, [158]),
  (10, 1, .aload 0, 0, 0, 0, 0, []), (11, 1, .iconst 0, 0, 0, 0, 0, []), (12, 3, .putfield 0, 0, 4, 0, 0, [160]), (15, 1, .iconst 0, 0, 0, 0, 0, []), (16, 1, .istore 0, 1, 0, 0, 0, []), (17, 1, .iload 0, 1, 0, 0, 0, []),
  (18, 2, .iconst 0, 0, 0, 0, 48, []), (20, 3, .if_icmp .ge 0, 50, 0, 0, 0, []), (23, 1, .aload 0, 0, 0, 0, 0, []), (24, 3, .getfield 0, 0, 7, 2, 0, [171]), (27, 1, .iload 0, 1, 0, 0, 0, []), (28, 1, .iconst 0, 0, 0, 0, 0, []),
  (29, 1, .iastore, 0, 0, 0, 0, []), (30, 1, .aload 0, 0, 0, 0, 0, []), (31, 3, .getfield 0, 0, 8, 2, 0, [174]), (34, 1, .iload 0, 1, 0, 0, 0, []), (35, 1, .iconst 0, 0, 0, 0, (-1), []), (36, 1, .iastore, 0, 0, 0, 0, []),
  (37, 1, .aload 0, 0, 0, 0, 0, []), (38, 3, .getfield 0, 0, 9, 2, 0, [178]), (41, 1, .iload 0, 1, 0, 0, 0, []), (42, 1, .iconst 0, 0, 0, 0, 0, []), (43, 1, .iastore, 0, 0, 0, 0, []), (44, 3, .iinc 0 0, 1, 0, 0, 1, []),
  (47, 3, .goto 0, 17, 0, 0, 0, []), (50, 1, .iconst 0, 0, 0, 0, 0, []), (51, 1, .istore 0, 1, 0, 0, 0, []), (52, 1, .iload 0, 1, 0, 0, 0, []), (53, 3, .iconst 0, 0, 0, 0, 192, []), (56, 3, .if_icmp .ge 0, 72, 0, 0, 0, []),
  (59, 1, .aload 0, 0, 0, 0, 0, []), (60, 3, .getfield 0, 0, 10, 2, 0, [182]), (63, 1, .iload 0, 1, 0, 0, 0, []), (64, 1, .iconst 0, 0, 0, 0, 0, []), (65, 1, .iastore, 0, 0, 0, 0, []), (66, 3, .iinc 0 0, 1, 0, 0, 1, []),
  (69, 3, .goto 0, 52, 0, 0, 0, []), (72, 1, .return_, 0, 0, 0, 0, [])
  ]
def mc_X0_takeFrom : List mv_E := [
  (0, 1, .aload 0, 0, 0, 0, 0, []), (1, 1, .aload 0, 1, 0, 0, 0, []), (2, 3, .getfield 0, 0, 0, 0, 0, [146]), (5, 3, .putfield 0, 0, 0, 0, 0, [146]), (8, 1, .aload 0, 0, 0, 0, 0, []), (9, 1, .aload 0, 1, 0, 0, 0, []),
  (10, 3, .getfield 0, 0, 1, 0, 0, [149]), (13, 3, .putfield 0, 0, 1, 0, 0, [149]), (16, 1, .aload 0, 0, 0, 0, 0, []), (17, 1, .aload 0, 1, 0, 0, 0, []), (18, 3, .getfield 0, 0, 2, 0, 0, [151]), (21, 3, .putfield 0, 0, 2, 0, 0, [151]),
  (24, 1, .aload 0, 0, 0, 0, 0, []), (25, 1, .aload 0, 1, 0, 0, 0, []), (26, 3, .getfield 0, 0, 3, 0, 0, [158]), (29, 3, .putfield 0, 0, 3, 0, 0, [158]), (32, 1, .aload 0, 0, 0, 0, 0, []), (33, 1, .aload 0, 1, 0, 0, 0, []),
  (34, 3, .getfield 0, 0, 4, 0, 0, [160]), (37, 3, .putfield 0, 0, 4, 0, 0, [160]), (40, 1, .aload 0, 1, 0, 0, 0, []), (41, 3, .getfield 0, 0, 5, 2, 0, [165]), (44, 1, .iconst 0, 0, 0, 0, 0, []), (45, 1, .aload 0, 0, 0, 0, 0, []),
  (46, 3, .getfield 0, 0, 5, 2, 0, [165]), (49, 1, .iconst 0, 0, 0, 0, 0, []), (50, 2, .iconst 0, 0, 0, 0, 48, []), (52, 3, .invokestatic 0, 0, 0, 100, 0, [1006, 968, 967, 88]), (55, 1, .aload 0, 1, 0, 0, 0, []), (56, 3, .getfield 0, 0, 6, 2, 0, [167]),
  (59, 1, .iconst 0, 0, 0, 0, 0, []), (60, 1, .aload 0, 0, 0, 0, 0, []), (61, 3, .getfield 0, 0, 6, 2, 0, [167]), (64, 1, .iconst 0, 0, 0, 0, 0, []), (65, 2, .iconst 0, 0, 0, 0, 48, []), (67, 3, .invokestatic 0, 0, 0, 100, 0, [1006, 968, 967, 88]),
  (70, 1, .aload 0, 1, 0, 0, 0, []), (71, 3, .getfield 0, 0, 7, 2, 0, [171]), (74, 1, .iconst 0, 0, 0, 0, 0, []), (75, 1, .aload 0, 0, 0, 0, 0, []), (76, 3, .getfield 0, 0, 7, 2, 0, [171]), (79, 1, .iconst 0, 0, 0, 0, 0, []),
  (80, 2, .iconst 0, 0, 0, 0, 48, []), (82, 3, .invokestatic 0, 0, 0, 100, 0, [1006, 968, 967, 88]), (85, 1, .aload 0, 1, 0, 0, 0, []), (86, 3, .getfield 0, 0, 8, 2, 0, [174]), (89, 1, .iconst 0, 0, 0, 0, 0, []), (90, 1, .aload 0, 0, 0, 0, 0, []),
  (91, 3, .getfield 0, 0, 8, 2, 0, [174]), (94, 1, .iconst 0, 0, 0, 0, 0, []), (95, 2, .iconst 0, 0, 0, 0, 48, []), (97, 3, .invokestatic 0, 0, 0, 100, 0, [1006, 968, 967, 88]), (100, 1, .aload 0, 1, 0, 0, 0, []), (101, 3, .getfield 0, 0, 9, 2, 0, [178]),
  (104, 1, .iconst 0, 0, 0, 0, 0, []), (105, 1, .aload 0, 0, 0, 0, 0, []), (106, 3, .getfield 0, 0, 9, 2, 0, [178]), (109, 1, .iconst 0, 0, 0, 0, 0, []), (110, 2, .iconst 0, 0, 0, 0, 48, []), (112, 3, .invokestatic 0, 0, 0, 100, 0, [1006, 968, 967, 88]),
  (115, 1, .aload 0, 1, 0, 0, 0, []), (116, 3, .getfield 0, 0, 10, 2, 0, [182]), (119, 1, .iconst 0, 0, 0, 0, 0, []), (120, 1, .aload 0, 0, 0, 0, 0, []), (121, 3, .getfield 0, 0, 10, 2, 0, [182]), (124, 1, .iconst 0, 0, 0, 0, 0, []),
  (125, 3, .iconst 0, 0, 0, 0, 192, []), (128, 3, .invokestatic 0, 0, 0, 100, 0, [1006, 968, 967, 88]), (131, 1, .aload 0, 1, 0, 0, 0, []), (132, 3, .getfield 0, 0, 11, 2, 0, [184]), (135, 1, .iconst 0, 0, 0, 0, 0, []), (136, 1, .aload 0, 0, 0, 0, 0, []),
  (137, 3, .getfield 0, 0, 11, 2, 0, [184]), (140, 1, .iconst 0, 0, 0, 0, 0, []), (141, 1, .iconst 0, 0, 0, 0, 3, []), (142, 3, .invokestatic 0, 0, 0, 100, 0, [1006, 968, 967, 88]), (145, 1, .aload 0, 1, 0, 0, 0, []), (146, 3, .getfield 0, 0, 12, 2, 0, [187]),
  (149, 1, .iconst 0, 0, 0, 0, 0, []), (150, 1, .aload 0, 0, 0, 0, 0, []), (151, 3, .getfield 0, 0, 12, 2, 0, [187]), (154, 1, .iconst 0, 0, 0, 0, 0, []), (155, 1, .iconst 0, 0, 0, 0, 4, []), (156, 3, .invokestatic 0, 0, 0, 100, 0, [1006, 968, 967, 88]),
  (159, 1, .return_, 0, 0, 0, 0, [])
  ]
def mc_X0_placeOf : List mv_E := [
  (0, 1, .iload 0, 1, 0, 0, 0, []), (1, 3, .ifCond .lt 0, 26, 0, 0, 0, []), (4, 1, .iload 0, 1, 0, 0, 0, []), (5, 2, .iconst 0, 0, 0, 0, 10, []), (7, 1, .idiv, 0, 0, 0, 0, []), (8, 1, .aload 0, 0, 0, 0, 0, []),
  (9, 3, .getfield 0, 0, 0, 0, 0, [146]), (12, 3, .if_icmp .ge 0, 26, 0, 0, 0, []), (15, 1, .iload 0, 1, 0, 0, 0, []), (16, 2, .iconst 0, 0, 0, 0, 10, []), (18, 1, .irem, 0, 0, 0, 0, []), (19, 1, .aload 0, 0, 0, 0, 0, []),
  (20, 3, .getfield 0, 0, 1, 0, 0, [149]), (23, 3, .if_icmp .lt 0, 28, 0, 0, 0, []), (26, 1, .iconst 0, 0, 0, 0, (-1), []), (27, 1, .ireturn, 0, 0, 0, 0, []), (28, 1, .iload 0, 1, 0, 0, 0, []), (29, 2, .iconst 0, 0, 0, 0, 10, []),
  (31, 1, .irem, 0, 0, 0, 0, []), (32, 1, .aload 0, 0, 0, 0, 0, []), (33, 3, .getfield 0, 0, 0, 0, 0, [146]), (36, 1, .imul, 0, 0, 0, 0, []), (37, 1, .iload 0, 1, 0, 0, 0, []), (38, 2, .iconst 0, 0, 0, 0, 10, []),
  (40, 1, .idiv, 0, 0, 0, 0, []), (41, 1, .iadd, 0, 0, 0, 0, []), (42, 1, .ireturn, 0, 0, 0, 0, [])
  ]
def mc_X0_beside : List mv_E := [
  (0, 1, .aload 0, 0, 0, 0, 0, []), (1, 3, .getfield 0, 0, 5, 2, 0, [165]), (4, 1, .iload 0, 1, 0, 0, 0, []), (5, 1, .iaload, 0, 0, 0, 0, []), (6, 2, .iconst 0, 0, 0, 0, 10, []), (8, 1, .idiv, 0, 0, 0, 0, []),
  (9, 1, .istore 0, 3, 0, 0, 0, []), (10, 1, .aload 0, 0, 0, 0, 0, []), (11, 3, .getfield 0, 0, 5, 2, 0, [165]), (14, 1, .iload 0, 1, 0, 0, 0, []), (15, 1, .iaload, 0, 0, 0, 0, []), (16, 2, .iconst 0, 0, 0, 0, 10, []),
  (18, 1, .irem, 0, 0, 0, 0, []), (19, 2, .istore 0, 4, 0, 0, 0, []), (21, 1, .iload 0, 2, 0, 0, 0, []), (22, 26, .tableswitch 0 0 0 #[], 100, 0, 0, 0, [48, 66, 78]), (48, 1, .iload 0, 3, 0, 0, 0, []), (49, 1, .iconst 0, 0, 0, 0, 1, []),
  (50, 1, .iadd, 0, 0, 0, 0, []), (51, 1, .aload 0, 0, 0, 0, 0, []), (52, 3, .getfield 0, 0, 0, 0, 0, [146]), (55, 3, .if_icmp .ge 0, 64, 0, 0, 0, []), (58, 1, .iload 0, 1, 0, 0, 0, []), (59, 1, .iconst 0, 0, 0, 0, 1, []),
  (60, 1, .iadd, 0, 0, 0, 0, []), (61, 3, .goto 0, 65, 0, 0, 0, []), (64, 1, .iconst 0, 0, 0, 0, (-1), []), (65, 1, .ireturn, 0, 0, 0, 0, []), (66, 1, .iload 0, 3, 0, 0, 0, []), (67, 3, .ifCond .le 0, 76, 0, 0, 0, []),
  (70, 1, .iload 0, 1, 0, 0, 0, []), (71, 1, .iconst 0, 0, 0, 0, 1, []), (72, 1, .isub, 0, 0, 0, 0, []), (73, 3, .goto 0, 77, 0, 0, 0, []), (76, 1, .iconst 0, 0, 0, 0, (-1), []), (77, 1, .ireturn, 0, 0, 0, 0, []),
  (78, 2, .iload 0, 4, 0, 0, 0, []), (80, 1, .iconst 0, 0, 0, 0, 1, []), (81, 1, .iadd, 0, 0, 0, 0, []), (82, 1, .aload 0, 0, 0, 0, 0, []), (83, 3, .getfield 0, 0, 1, 0, 0, [149]), (86, 3, .if_icmp .ge 0, 98, 0, 0, 0, []),
  (89, 1, .iload 0, 1, 0, 0, 0, []), (90, 1, .aload 0, 0, 0, 0, 0, []), (91, 3, .getfield 0, 0, 0, 0, 0, [146]), (94, 1, .iadd, 0, 0, 0, 0, []), (95, 3, .goto 0, 99, 0, 0, 0, []), (98, 1, .iconst 0, 0, 0, 0, (-1), []),
  (99, 1, .ireturn, 0, 0, 0, 0, []), (100, 2, .iload 0, 4, 0, 0, 0, []), (102, 3, .ifCond .le 0, 114, 0, 0, 0, []), (105, 1, .iload 0, 1, 0, 0, 0, []), (106, 1, .aload 0, 0, 0, 0, 0, []), (107, 3, .getfield 0, 0, 0, 0, 0, [146]),
  (110, 1, .isub, 0, 0, 0, 0, []), (111, 3, .goto 0, 115, 0, 0, 0, []), (114, 1, .iconst 0, 0, 0, 0, (-1), []), (115, 1, .ireturn, 0, 0, 0, 0, [])
  ]
def mc_X0_sideTowards : List mv_E := [
  (0, 1, .iload 0, 1, 0, 0, 0, []), (1, 1, .iconst 0, 0, 0, 0, (-1), []), (2, 3, .if_icmp .eq 0, 10, 0, 0, 0, []), (5, 1, .iload 0, 2, 0, 0, 0, []), (6, 1, .iconst 0, 0, 0, 0, (-1), []), (7, 3, .if_icmp .ne 0, 12, 0, 0, 0, []),
  (10, 1, .iconst 0, 0, 0, 0, (-1), []), (11, 1, .ireturn, 0, 0, 0, 0, []), (12, 1, .iconst 0, 0, 0, 0, 0, []), (13, 1, .istore 0, 3, 0, 0, 0, []), (14, 1, .iload 0, 3, 0, 0, 0, []), (15, 1, .iconst 0, 0, 0, 0, 4, []),
  (16, 3, .if_icmp .ge 0, 37, 0, 0, 0, []), (19, 1, .aload 0, 0, 0, 0, 0, []), (20, 1, .iload 0, 1, 0, 0, 0, []), (21, 1, .iload 0, 3, 0, 0, 0, []), (22, 3, .invokevirtual 0, 5, 3, 0, 1, [560, 561, 562, 79]), (25, 1, .iload 0, 2, 0, 0, 0, []),
  (26, 3, .if_icmp .ne 0, 31, 0, 0, 0, []), (29, 1, .iload 0, 3, 0, 0, 0, []), (30, 1, .ireturn, 0, 0, 0, 0, []), (31, 3, .iinc 0 0, 3, 0, 0, 1, []), (34, 3, .goto 0, 14, 0, 0, 0, []), (37, 1, .iconst 0, 0, 0, 0, (-1), []),
  (38, 1, .ireturn, 0, 0, 0, 0, [])
  ]
def mc_X0_roadAt : List mv_E := [
  (0, 1, .aload 0, 0, 0, 0, 0, []), (1, 3, .getfield 0, 0, 10, 2, 0, [182]), (4, 1, .iload 0, 1, 0, 0, 0, []), (5, 1, .iconst 0, 0, 0, 0, 4, []), (6, 1, .imul, 0, 0, 0, 0, []), (7, 1, .iload 0, 2, 0, 0, 0, []),
  (8, 1, .iadd, 0, 0, 0, 0, []), (9, 1, .iaload, 0, 0, 0, 0, []), (10, 1, .istore 0, 3, 0, 0, 0, []), (11, 1, .iload 0, 3, 0, 0, 0, []), (12, 1, .iconst 0, 0, 0, 0, 4, []), (13, 3, .if_icmp .ne 0, 20, 0, 0, 0, []),
  (16, 1, .iconst 0, 0, 0, 0, 3, []), (17, 3, .goto 0, 21, 0, 0, 0, []), (20, 1, .iload 0, 3, 0, 0, 0, []), (21, 1, .ireturn, 0, 0, 0, 0, [])
  ]
def mc_X0_layRoad : List mv_E := [
  (0, 1, .aload 0, 0, 0, 0, 0, []), (1, 1, .iload 0, 1, 0, 0, 0, []), (2, 1, .iload 0, 2, 0, 0, 0, []), (3, 3, .invokevirtual 0, 5, 3, 0, 1, [560, 561, 562, 79]), (6, 2, .istore 0, 4, 0, 0, 0, []), (8, 2, .iload 0, 4, 0, 0, 0, []),
  (10, 1, .iconst 0, 0, 0, 0, (-1), []), (11, 3, .if_icmp .eq 0, 48, 0, 0, 0, []), (14, 1, .aload 0, 0, 0, 0, 0, []), (15, 3, .getfield 0, 0, 10, 2, 0, [182]), (18, 1, .iload 0, 1, 0, 0, 0, []), (19, 1, .iconst 0, 0, 0, 0, 4, []),
  (20, 1, .imul, 0, 0, 0, 0, []), (21, 1, .iload 0, 2, 0, 0, 0, []), (22, 1, .iadd, 0, 0, 0, 0, []), (23, 1, .iload 0, 3, 0, 0, 0, []), (24, 1, .iastore, 0, 0, 0, 0, []), (25, 1, .aload 0, 0, 0, 0, 0, []),
  (26, 3, .getfield 0, 0, 10, 2, 0, [182]), (29, 2, .iload 0, 4, 0, 0, 0, []), (31, 1, .iconst 0, 0, 0, 0, 4, []), (32, 1, .imul, 0, 0, 0, 0, []), (33, 1, .iload 0, 2, 0, 0, 0, []), (34, 1, .iconst 0, 0, 0, 0, 1, []),
  (35, 1, .ixor, 0, 0, 0, 0, []), (36, 1, .iadd, 0, 0, 0, 0, []), (37, 1, .iload 0, 3, 0, 0, 0, []), (38, 1, .iconst 0, 0, 0, 0, 3, []), (39, 3, .if_icmp .ne 0, 46, 0, 0, 0, []), (42, 1, .iconst 0, 0, 0, 0, 4, []),
  (43, 3, .goto 0, 47, 0, 0, 0, []), (46, 1, .iload 0, 3, 0, 0, 0, []), (47, 1, .iastore, 0, 0, 0, 0, []), (48, 1, .return_, 0, 0, 0, 0, [])
  ]
def mc_X0_marketOn : List mv_E := [
  (0, 1, .iconst 0, 0, 0, 0, 0, []), (1, 1, .istore 0, 2, 0, 0, 0, []), (2, 1, .iload 0, 2, 0, 0, 0, []), (3, 1, .aload 0, 0, 0, 0, 0, []), (4, 3, .getfield 0, 0, 4, 0, 0, [160]), (7, 3, .if_icmp .ge 0, 28, 0, 0, 0, []),
  (10, 1, .aload 0, 0, 0, 0, 0, []), (11, 3, .getfield 0, 0, 11, 2, 0, [184]), (14, 1, .iload 0, 2, 0, 0, 0, []), (15, 1, .iaload, 0, 0, 0, 0, []), (16, 1, .iload 0, 1, 0, 0, 0, []), (17, 3, .if_icmp .ne 0, 22, 0, 0, 0, []),
  (20, 1, .iload 0, 2, 0, 0, 0, []), (21, 1, .ireturn, 0, 0, 0, 0, []), (22, 3, .iinc 0 0, 2, 0, 0, 1, []), (25, 3, .goto 0, 2, 0, 0, 0, []), (28, 2, .iconst 0, 0, 0, 0, (-9), []), (30, 1, .ireturn, 0, 0, 0, 0, [])
  ]
def mc_X0_idleAcres : List mv_E := [
  (0, 1, .iconst 0, 0, 0, 0, 0, []), (1, 1, .istore 0, 1, 0, 0, 0, []), (2, 1, .iconst 0, 0, 0, 0, 0, []), (3, 1, .istore 0, 2, 0, 0, 0, []), (4, 1, .iload 0, 2, 0, 0, 0, []), (5, 1, .aload 0, 0, 0, 0, 0, []),
  (6, 3, .getfield 0, 0, 2, 0, 0, [151]), (9, 3, .if_icmp .ge 0, 27, 0, 0, 0, []), (12, 1, .iload 0, 1, 0, 0, 0, []), (13, 1, .aload 0, 0, 0, 0, 0, []), (14, 3, .getfield 0, 0, 9, 2, 0, [178]), (17, 1, .iload 0, 2, 0, 0, 0, []),
  (18, 1, .iaload, 0, 0, 0, 0, []), (19, 1, .iadd, 0, 0, 0, 0, []), (20, 1, .istore 0, 1, 0, 0, 0, []), (21, 3, .iinc 0 0, 2, 0, 0, 1, []), (24, 3, .goto 0, 4, 0, 0, 0, []), (27, 1, .iload 0, 1, 0, 0, 0, []),
  (28, 1, .ireturn, 0, 0, 0, 0, [])
  ]
def mc_X1_init : List mv_E := [
  (0, 1, .aload 0, 0, 0, 0, 0, []), (1, 3, .invokespecial 0, 0, 0, 1, 0, [133, 95, 96]), (4, 1, .aload 0, 0, 0, 0, 0, []), (5, 3, .new 0, 10, 3, 0, 0, [134, 135, 78]), (8, 1, .dup, 0, 0, 0, 0, []), (9, 3, .invokespecial 0, 83, 1, 29, 803, [136, 137, 78]),
  (12, 3, .putfield 0, 1, 0, 2, 0, [358]), (15, 1, .aload 0, 0, 0, 0, 0, []), (16, 3, .new 0, 8, 6, 0, 0, [331, 332, 82]), (19, 1, .dup, 0, 0, 0, 0, []), (20, 3, .invokespecial 0, 67, 1, 8, 912, [333, 334, 82]), (23, 3, .putfield 0, 1, 1, 2, 0, [363]),
  (26, 1, .aload 0, 0, 0, 0, 0, []), (27, 3, .iconst 0, 0, 0, 0, 864, []), (30, 2, .newarray .long, 101, 0, 0, 0, [394]), (32, 3, .putfield 0, 1, 2, 2, 0, [366]), (35, 1, .aload 0, 0, 0, 0, 0, []), (36, 2, .iconst 0, 0, 0, 0, 48, []),
  (38, 2, .newarray .int, 100, 0, 0, 0, [113]), (40, 3, .putfield 0, 1, 3, 2, 0, [369]), (43, 1, .aload 0, 0, 0, 0, 0, []), (44, 1, .aload 0, 0, 0, 0, 0, []), (45, 3, .getfield 0, 1, 0, 2, 0, [358]), (48, 3, .getfield 0, 10, 0, 2, 0, [312]),
  (51, 3, .putfield 0, 1, 4, 2, 0, [373]), (54, 1, .aload 0, 0, 0, 0, 0, []), (55, 1, .aload 0, 0, 0, 0, 0, []), (56, 3, .getfield 0, 1, 0, 2, 0, [358]), (59, 3, .getfield 0, 10, 1, 2, 0, [318]), (62, 3, .putfield 0, 1, 5, 2, 0, [374]),
  (65, 1, .aload 0, 0, 0, 0, 0, []), (66, 1, .iconst 0, 0, 0, 0, 0, []), (67, 3, .putfield 0, 1, 6, 1, 0, [375]), (70, 1, .aload 0, 0, 0, 0, 0, []), (71, 1, .iconst 0, 0, 0, 0, 0, []), (72, 3, .putfield 0, 1, 7, 1, 0, [376]),
  (75, 1, .return_, 0, 0, 0, 0, [])
  ]
def mc_X1_forgetWays : List mv_E := [
  (0, 1, .aload 0, 0, 0, 0, 0, []), (1, 1, .iconst 0, 0, 0, 0, 0, []), (2, 3, .putfield 0, 1, 6, 1, 0, [375]), (5, 1, .aload 0, 0, 0, 0, 0, []), (6, 1, .iconst 0, 0, 0, 0, 0, []), (7, 3, .putfield 0, 1, 7, 1, 0, [376]),
  (10, 1, .return_, 0, 0, 0, 0, [])
  ]
def mc_X1_forgetBids : List mv_E := [
  (0, 1, .aload 0, 0, 0, 0, 0, []), (1, 1, .iconst 0, 0, 0, 0, 0, []), (2, 3, .putfield 0, 1, 7, 1, 0, [376]), (5, 1, .return_, 0, 0, 0, 0, [])
  ]
def mc_X1_settle : List mv_E := [
  (0, 1, .aload 0, 0, 0, 0, 0, []), (1, 3, .getfield 0, 1, 6, 1, 0, [375]), (4, 3, .ifCond .ne 0, 34, 0, 0, 0, []), (7, 1, .aload 0, 0, 0, 0, 0, []), (8, 3, .getfield 0, 1, 1, 2, 0, [363]), (11, 1, .aload 0, 0, 0, 0, 0, []),
  (12, 3, .getfield 0, 1, 4, 2, 0, [373]), (15, 3, .invokevirtual 0, 68, 2, 8, 0, [591, 592, 593, 82]), (18, 1, .aload 0, 0, 0, 0, 0, []), (19, 3, .getfield 0, 1, 1, 2, 0, [363]), (22, 1, .aload 0, 0, 0, 0, 0, []), (23, 3, .getfield 0, 1, 4, 2, 0, [373]),
  (26, 3, .invokevirtual 0, 69, 2, 8, 0, [605, 606, 607, 82]), (29, 1, .aload 0, 0, 0, 0, 0, []), (30, 1, .iconst 0, 0, 0, 0, 1, []), (31, 3, .putfield 0, 1, 6, 1, 0, [375]), (34, 1, .aload 0, 0, 0, 0, 0, []), (35, 3, .getfield 0, 1, 7, 1, 0, [376]),
  (38, 3, .ifCond .ne 0, 50, 0, 0, 0, []), (41, 1, .aload 0, 0, 0, 0, 0, []), (42, 3, .invokevirtual 0, 15, 1, 1, 0, [609, 610, 611, 77]), (45, 1, .aload 0, 0, 0, 0, 0, []), (46, 1, .iconst 0, 0, 0, 0, 1, []), (47, 3, .putfield 0, 1, 7, 1, 0, [376]),
  (50, 1, .return_, 0, 0, 0, 0, [])
  ]
def mc_X1_reckonBids : List mv_E := [
  (0, 1, .iconst 0, 0, 0, 0, 0, []), (1, 1, .istore 0, 1, 0, 0, 0, []), (2, 1, .iload 0, 1, 0, 0, 0, []), (3, 1, .aload 0, 0, 0, 0, 0, []), (4, 3, .getfield 0, 1, 5, 2, 0, [374]), (7, 3, .getfield 0, 7, 0, 0, 0, [225]),
  (10, 1, .iconst 0, 0, 0, 0, 3, []), (11, 1, .imul, 0, 0, 0, 0, []), (12, 3, .if_icmp .ge 0, 39, 0, 0, 0, []), (15, 1, .iload 0, 1, 0, 0, 0, []), (16, 1, .iconst 0, 0, 0, 0, 3, []), (17, 1, .irem, 0, 0, 0, 0, []),
  (18, 1, .aload 0, 0, 0, 0, 0, []), (19, 3, .getfield 0, 1, 4, 2, 0, [373]), (22, 3, .getfield 0, 0, 4, 0, 0, [162]), (25, 3, .if_icmp .ge 0, 33, 0, 0, 0, []), (28, 1, .aload 0, 0, 0, 0, 0, []), (29, 1, .iload 0, 1, 0, 0, 0, []),
  (30, 3, .invokevirtual 0, 16, 2, 1, 0, [613, 614, 615, 77]), (33, 3, .iinc 0 0, 1, 0, 0, 1, []), (36, 3, .goto 0, 2, 0, 0, 0, []), (39, 1, .iconst 0, 0, 0, 0, 0, []), (40, 1, .istore 0, 1, 0, 0, 0, []), (41, 1, .iload 0, 1, 0, 0, 0, []),
  (42, 1, .aload 0, 0, 0, 0, 0, []), (43, 3, .getfield 0, 1, 4, 2, 0, [373]), (46, 3, .getfield 0, 0, 2, 0, 0, [157]), (49, 3, .if_icmp .ge 0, 69, 0, 0, 0, []), (52, 1, .aload 0, 0, 0, 0, 0, []), (53, 3, .getfield 0, 1, 3, 2, 0, [369]),
  (56, 1, .iload 0, 1, 0, 0, 0, []), (57, 1, .aload 0, 0, 0, 0, 0, []), (58, 1, .iload 0, 1, 0, 0, 0, []), (59, 3, .invokevirtual 0, 18, 2, 1, 1, [642, 643, 644, 77]), (62, 1, .iastore, 0, 0, 0, 0, []), (63, 3, .iinc 0 0, 1, 0, 0, 1, []),
  (66, 3, .goto 0, 41, 0, 0, 0, []), (69, 1, .return_, 0, 0, 0, 0, [])
  ]
def mc_X1_reckonOffer : List mv_E := [
  (0, 1, .iload 0, 1, 0, 0, 0, []), (1, 1, .iconst 0, 0, 0, 0, 3, []), (2, 1, .idiv, 0, 0, 0, 0, []), (3, 1, .istore 0, 2, 0, 0, 0, []), (4, 1, .iconst 0, 0, 0, 0, 0, []), (5, 1, .istore 0, 3, 0, 0, 0, []),
  (6, 1, .iload 0, 3, 0, 0, 0, []), (7, 1, .aload 0, 0, 0, 0, 0, []), (8, 3, .getfield 0, 1, 4, 2, 0, [373]), (11, 3, .getfield 0, 0, 2, 0, 0, [157]), (14, 3, .if_icmp .ge 0, 98, 0, 0, 0, []), (17, 1, .aload 0, 0, 0, 0, 0, []),
  (18, 1, .iload 0, 1, 0, 0, 0, []), (19, 1, .iload 0, 3, 0, 0, 0, []), (20, 3, .invokevirtual 0, 17, 3, 1, 1, [617, 618, 619, 77]), (23, 2, .istore 0, 4, 0, 0, 0, []), (25, 1, .lconst 0, 0, 0, 0, 0, []), (26, 2, .lstore 0, 5, 0, 0, 0, []),
  (28, 1, .aload 0, 0, 0, 0, 0, []), (29, 3, .getfield 0, 1, 5, 2, 0, [374]), (32, 1, .iload 0, 2, 0, 0, 0, []), (33, 2, .iload 0, 4, 0, 0, 0, []), (35, 3, .invokevirtual 0, 65, 3, 7, 1, [621, 622, 623, 80]), (38, 3, .ifCond .eq 0, 79, 0, 0, 0, []),
  (41, 1, .aload 0, 0, 0, 0, 0, []), (42, 3, .getfield 0, 1, 4, 2, 0, [373]), (45, 3, .getfield 0, 0, 6, 2, 0, [170]), (48, 1, .iload 0, 3, 0, 0, 0, []), (49, 1, .iaload, 0, 0, 0, 0, []), (50, 2, .istore 0, 7, 0, 0, 0, []),
  (52, 1, .aload 0, 0, 0, 0, 0, []), (53, 3, .getfield 0, 1, 5, 2, 0, [374]), (56, 1, .iload 0, 1, 0, 0, 0, []), (57, 2, .iload 0, 7, 0, 0, 0, []), (59, 3, .invokevirtual 0, 63, 3, 7, 2, [625, 626, 627, 80]), (62, 1, .aload 0, 0, 0, 0, 0, []),
  (63, 3, .getfield 0, 1, 5, 2, 0, [374]), (66, 1, .iload 0, 2, 0, 0, 0, []), (67, 2, .iload 0, 7, 0, 0, 0, []), (69, 3, .invokevirtual 0, 64, 3, 7, 2, [638, 639, 640, 80]), (72, 2, .iload 0, 4, 0, 0, 0, []), (74, 1, .i2l, 0, 0, 0, 0, []),
  (75, 1, .lmul, 0, 0, 0, 0, []), (76, 1, .lsub, 0, 0, 0, 0, []), (77, 2, .lstore 0, 5, 0, 0, 0, []), (79, 1, .aload 0, 0, 0, 0, 0, []), (80, 3, .getfield 0, 1, 2, 2, 0, [366]), (83, 1, .iload 0, 1, 0, 0, 0, []),
  (84, 2, .iconst 0, 0, 0, 0, 48, []), (86, 1, .imul, 0, 0, 0, 0, []), (87, 1, .iload 0, 3, 0, 0, 0, []), (88, 1, .iadd, 0, 0, 0, 0, []), (89, 2, .lload 0, 5, 0, 0, 0, []), (91, 1, .lastore, 0, 0, 0, 0, []),
  (92, 3, .iinc 0 0, 3, 0, 0, 1, []), (95, 3, .goto 0, 6, 0, 0, 0, []), (98, 1, .return_, 0, 0, 0, 0, [])
  ]
def mc_X1_wayOf : List mv_E := [
  (0, 1, .iload 0, 1, 0, 0, 0, []), (1, 1, .iconst 0, 0, 0, 0, 3, []), (2, 1, .irem, 0, 0, 0, 0, []), (3, 2, .iconst 0, 0, 0, 0, 48, []), (5, 1, .imul, 0, 0, 0, 0, []), (6, 1, .iload 0, 2, 0, 0, 0, []),
  (7, 1, .iadd, 0, 0, 0, 0, []), (8, 1, .istore 0, 3, 0, 0, 0, []), (9, 1, .aload 0, 0, 0, 0, 0, []), (10, 3, .getfield 0, 1, 5, 2, 0, [374]), (13, 3, .getfield 0, 7, 2, 2, 0, [233]), (16, 1, .iload 0, 1, 0, 0, 0, []),
  (17, 1, .iconst 0, 0, 0, 0, 3, []), (18, 1, .idiv, 0, 0, 0, 0, []), (19, 1, .iaload, 0, 0, 0, 0, []), (20, 1, .iconst 0, 0, 0, 0, 1, []), (21, 3, .if_icmp .ne 0, 36, 0, 0, 0, []), (24, 1, .aload 0, 0, 0, 0, 0, []),
  (25, 3, .getfield 0, 1, 1, 2, 0, [363]), (28, 3, .getfield 0, 8, 1, 2, 0, [340]), (31, 1, .iload 0, 3, 0, 0, 0, []), (32, 1, .iaload, 0, 0, 0, 0, []), (33, 3, .goto 0, 45, 0, 0, 0, []), (36, 1, .aload 0, 0, 0, 0, 0, []),
  (37, 3, .getfield 0, 1, 1, 2, 0, [363]), (40, 3, .getfield 0, 8, 0, 2, 0, [338]), (43, 1, .iload 0, 3, 0, 0, 0, []), (44, 1, .iaload, 0, 0, 0, 0, []), (45, 1, .ireturn, 0, 0, 0, 0, [])
  ]
def mc_X1_takerOf : List mv_E := [
  (0, 1, .aload 0, 0, 0, 0, 0, []), (1, 3, .getfield 0, 1, 4, 2, 0, [373]), (4, 3, .getfield 0, 0, 9, 2, 0, [181]), (7, 1, .iload 0, 1, 0, 0, 0, []), (8, 1, .iaload, 0, 0, 0, 0, []), (9, 3, .ifCond .ne 0, 21, 0, 0, 0, []),
  (12, 1, .aload 0, 0, 0, 0, 0, []), (13, 1, .iload 0, 1, 0, 0, 0, []), (14, 1, .iconst 0, 0, 0, 0, (-1), []), (15, 3, .invokevirtual 0, 19, 3, 1, 1, [646, 647, 648, 77]), (18, 3, .goto 0, 22, 0, 0, 0, []), (21, 1, .iconst 0, 0, 0, 0, (-1), []),
  (22, 1, .ireturn, 0, 0, 0, 0, [])
  ]
def mc_X1_greatest : List mv_E := [
  (0, 1, .iconst 0, 0, 0, 0, (-1), []), (1, 1, .istore 0, 3, 0, 0, 0, []), (2, 1, .lconst 0, 0, 0, 0, 0, []), (3, 2, .lstore 0, 4, 0, 0, 0, []), (5, 1, .iconst 0, 0, 0, 0, 0, []), (6, 2, .istore 0, 6, 0, 0, 0, []),
  (8, 2, .iload 0, 6, 0, 0, 0, []), (10, 1, .aload 0, 0, 0, 0, 0, []), (11, 3, .getfield 0, 1, 5, 2, 0, [374]), (14, 3, .getfield 0, 7, 0, 0, 0, [225]), (17, 1, .iconst 0, 0, 0, 0, 3, []), (18, 1, .imul, 0, 0, 0, 0, []),
  (19, 3, .if_icmp .ge 0, 77, 0, 0, 0, []), (22, 1, .aload 0, 0, 0, 0, 0, []), (23, 3, .getfield 0, 1, 2, 2, 0, [366]), (26, 2, .iload 0, 6, 0, 0, 0, []), (28, 2, .iconst 0, 0, 0, 0, 48, []), (30, 1, .imul, 0, 0, 0, 0, []),
  (31, 1, .iload 0, 1, 0, 0, 0, []), (32, 1, .iadd, 0, 0, 0, 0, []), (33, 1, .laload, 0, 0, 0, 0, []), (34, 2, .lstore 0, 7, 0, 0, 0, []), (36, 2, .lload 0, 7, 0, 0, 0, []), (38, 2, .lload 0, 4, 0, 0, 0, []),
  (40, 1, .lcmp, 0, 0, 0, 0, []), (41, 3, .ifCond .le 0, 71, 0, 0, 0, []), (44, 2, .iload 0, 6, 0, 0, 0, []), (46, 1, .iload 0, 2, 0, 0, 0, []), (47, 3, .if_icmp .eq 0, 71, 0, 0, 0, []), (50, 2, .iload 0, 6, 0, 0, 0, []),
  (52, 1, .iconst 0, 0, 0, 0, 3, []), (53, 1, .irem, 0, 0, 0, 0, []), (54, 1, .aload 0, 0, 0, 0, 0, []), (55, 3, .getfield 0, 1, 4, 2, 0, [373]), (58, 3, .getfield 0, 0, 4, 0, 0, [162]), (61, 3, .if_icmp .ge 0, 71, 0, 0, 0, []),
  (64, 2, .lload 0, 7, 0, 0, 0, []), (66, 2, .lstore 0, 4, 0, 0, 0, []), (68, 2, .iload 0, 6, 0, 0, 0, []), (70, 1, .istore 0, 3, 0, 0, 0, []), (71, 3, .iinc 0 0, 6, 0, 0, 1, []), (74, 3, .goto 0, 8, 0, 0, 0, []),
  (77, 1, .iload 0, 3, 0, 0, 0, []), (78, 1, .ireturn, 0, 0, 0, 0, [])
  ]
def mc_X1_rentAt : List mv_E := [
  (0, 1, .aload 0, 0, 0, 0, 0, []), (1, 1, .aload 0, 0, 0, 0, 0, []), (2, 3, .getfield 0, 1, 3, 2, 0, [369]), (5, 1, .iload 0, 1, 0, 0, 0, []), (6, 1, .iaload, 0, 0, 0, 0, []), (7, 1, .iload 0, 1, 0, 0, 0, []),
  (8, 3, .invokevirtual 0, 21, 3, 1, 2, [722, 724, 8, 77]), (11, 1, .lreturn, 0, 0, 0, 0, [])
  ]
def mc_X1_rentBy : List mv_E := [
  (0, 1, .iload 0, 1, 0, 0, 0, []), (1, 1, .iconst 0, 0, 0, 0, (-1), []), (2, 3, .if_icmp .ne 0, 7, 0, 0, 0, []), (5, 1, .lconst 0, 0, 0, 0, 0, []), (6, 1, .lreturn, 0, 0, 0, 0, []), (7, 1, .aload 0, 0, 0, 0, 0, []),
  (8, 3, .getfield 0, 1, 2, 2, 0, [366]), (11, 1, .iload 0, 1, 0, 0, 0, []), (12, 2, .iconst 0, 0, 0, 0, 48, []), (14, 1, .imul, 0, 0, 0, 0, []), (15, 1, .iload 0, 2, 0, 0, 0, []), (16, 1, .iadd, 0, 0, 0, 0, []),
  (17, 1, .laload, 0, 0, 0, 0, []), (18, 1, .lstore 0, 3, 0, 0, 0, []), (19, 1, .lload 0, 3, 0, 0, 0, []), (20, 1, .lload 0, 3, 0, 0, 0, []), (21, 1, .aload 0, 0, 0, 0, 0, []), (22, 3, .getfield 0, 1, 5, 2, 0, [374]),
  (25, 3, .getfield 0, 7, 1, 0, 0, [229]), (28, 1, .i2l, 0, 0, 0, 0, []), (29, 1, .lmul, 0, 0, 0, 0, []), (30, 3, .lconst 0, 0, 0, 0, 100, [726]), (33, 1, .ldiv, 0, 0, 0, 0, []), (34, 1, .lsub, 0, 0, 0, 0, []),
  (35, 1, .lreturn, 0, 0, 0, 0, [])
  ]
def mc_X1_allRents : List mv_E := [
  (0, 1, .lconst 0, 0, 0, 0, 0, []), (1, 1, .lstore 0, 1, 0, 0, 0, []), (2, 1, .iconst 0, 0, 0, 0, 0, []), (3, 1, .istore 0, 3, 0, 0, 0, []), (4, 1, .iload 0, 3, 0, 0, 0, []), (5, 1, .aload 0, 0, 0, 0, 0, []),
  (6, 3, .getfield 0, 1, 4, 2, 0, [373]), (9, 3, .getfield 0, 0, 2, 0, 0, [157]), (12, 3, .if_icmp .ge 0, 29, 0, 0, 0, []), (15, 1, .lload 0, 1, 0, 0, 0, []), (16, 1, .aload 0, 0, 0, 0, 0, []), (17, 1, .iload 0, 3, 0, 0, 0, []),
  (18, 3, .invokevirtual 0, 20, 2, 1, 2, [718, 719, 720, 77]), (21, 1, .ladd, 0, 0, 0, 0, []), (22, 1, .lstore 0, 1, 0, 0, 0, []), (23, 3, .iinc 0 0, 3, 0, 0, 1, []), (26, 3, .goto 0, 4, 0, 0, 0, []), (29, 1, .lload 0, 1, 0, 0, 0, []),
  (30, 1, .lreturn, 0, 0, 0, 0, [])
  ]
def mc_X1_rentsOf : List mv_E := [
  (0, 1, .lconst 0, 0, 0, 0, 0, []), (1, 1, .lstore 0, 2, 0, 0, 0, []), (2, 1, .iconst 0, 0, 0, 0, 0, []), (3, 2, .istore 0, 4, 0, 0, 0, []), (5, 2, .iload 0, 4, 0, 0, 0, []), (7, 1, .aload 0, 0, 0, 0, 0, []),
  (8, 3, .getfield 0, 1, 4, 2, 0, [373]), (11, 3, .getfield 0, 0, 2, 0, 0, [157]), (14, 3, .if_icmp .ge 0, 52, 0, 0, 0, []), (17, 1, .aload 0, 0, 0, 0, 0, []), (18, 3, .getfield 0, 1, 4, 2, 0, [373]), (21, 3, .getfield 0, 0, 8, 2, 0, [177]),
  (24, 2, .iload 0, 4, 0, 0, 0, []), (26, 1, .iaload, 0, 0, 0, 0, []), (27, 1, .iload 0, 1, 0, 0, 0, []), (28, 3, .if_icmp .ne 0, 46, 0, 0, 0, []), (31, 1, .lload 0, 2, 0, 0, 0, []), (32, 1, .aload 0, 0, 0, 0, 0, []),
  (33, 1, .aload 0, 0, 0, 0, 0, []), (34, 2, .iload 0, 4, 0, 0, 0, []), (36, 3, .invokevirtual 0, 18, 2, 1, 1, [642, 643, 644, 77]), (39, 2, .iload 0, 4, 0, 0, 0, []), (41, 3, .invokevirtual 0, 21, 3, 1, 2, [722, 724, 8, 77]), (44, 1, .ladd, 0, 0, 0, 0, []),
  (45, 1, .lstore 0, 2, 0, 0, 0, []), (46, 3, .iinc 0 0, 4, 0, 0, 1, []), (49, 3, .goto 0, 5, 0, 0, 0, []), (52, 1, .lload 0, 2, 0, 0, 0, []), (53, 1, .lreturn, 0, 0, 0, 0, [])
  ]
def mc_X1_arriving : List mv_E := [
  (0, 1, .iconst 0, 0, 0, 0, 0, []), (1, 1, .istore 0, 2, 0, 0, 0, []), (2, 1, .iconst 0, 0, 0, 0, 0, []), (3, 1, .istore 0, 3, 0, 0, 0, []), (4, 1, .iload 0, 3, 0, 0, 0, []), (5, 1, .aload 0, 0, 0, 0, 0, []),
  (6, 3, .getfield 0, 1, 4, 2, 0, [373]), (9, 3, .getfield 0, 0, 2, 0, 0, [157]), (12, 3, .if_icmp .ge 0, 53, 0, 0, 0, []), (15, 1, .aload 0, 0, 0, 0, 0, []), (16, 3, .getfield 0, 1, 3, 2, 0, [369]), (19, 1, .iload 0, 3, 0, 0, 0, []),
  (20, 1, .iaload, 0, 0, 0, 0, []), (21, 1, .iload 0, 1, 0, 0, 0, []), (22, 3, .if_icmp .ne 0, 47, 0, 0, 0, []), (25, 1, .iload 0, 2, 0, 0, 0, []), (26, 1, .aload 0, 0, 0, 0, 0, []), (27, 3, .getfield 0, 1, 5, 2, 0, [374]),
  (30, 1, .iload 0, 1, 0, 0, 0, []), (31, 1, .iconst 0, 0, 0, 0, 3, []), (32, 1, .idiv, 0, 0, 0, 0, []), (33, 1, .aload 0, 0, 0, 0, 0, []), (34, 3, .getfield 0, 1, 4, 2, 0, [373]), (37, 3, .getfield 0, 0, 6, 2, 0, [170]),
  (40, 1, .iload 0, 3, 0, 0, 0, []), (41, 1, .iaload, 0, 0, 0, 0, []), (42, 3, .invokevirtual 0, 61, 3, 7, 1, [736, 630, 631, 80]), (45, 1, .iadd, 0, 0, 0, 0, []), (46, 1, .istore 0, 2, 0, 0, 0, []), (47, 3, .iinc 0 0, 3, 0, 0, 1, []),
  (50, 3, .goto 0, 4, 0, 0, 0, []), (53, 1, .iload 0, 2, 0, 0, 0, []), (54, 1, .ireturn, 0, 0, 0, 0, [])
  ]
def mc_X1_isTakenBy : List mv_E := [
  (0, 1, .aload 0, 0, 0, 0, 0, []), (1, 3, .getfield 0, 1, 3, 2, 0, [369]), (4, 1, .iload 0, 2, 0, 0, 0, []), (5, 1, .iaload, 0, 0, 0, 0, []), (6, 1, .iconst 0, 0, 0, 0, (-1), []), (7, 3, .if_icmp .eq 0, 26, 0, 0, 0, []),
  (10, 1, .aload 0, 0, 0, 0, 0, []), (11, 3, .getfield 0, 1, 3, 2, 0, [369]), (14, 1, .iload 0, 2, 0, 0, 0, []), (15, 1, .iaload, 0, 0, 0, 0, []), (16, 1, .iconst 0, 0, 0, 0, 3, []), (17, 1, .idiv, 0, 0, 0, 0, []),
  (18, 1, .iload 0, 1, 0, 0, 0, []), (19, 3, .if_icmp .ne 0, 26, 0, 0, 0, []), (22, 1, .iconst 0, 0, 0, 0, 1, []), (23, 3, .goto 0, 27, 0, 0, 0, []), (26, 1, .iconst 0, 0, 0, 0, 0, []), (27, 1, .ireturn, 1, 0, 0, 0, [])
  ]
def mc_X1_farthest : List mv_E := [
  (0, 2, .iconst 0, 0, 0, 0, (-9), []), (2, 1, .istore 0, 2, 0, 0, 0, []), (3, 1, .iconst 0, 0, 0, 0, 0, []), (4, 1, .istore 0, 3, 0, 0, 0, []), (5, 1, .iload 0, 3, 0, 0, 0, []), (6, 1, .aload 0, 0, 0, 0, 0, []),
  (7, 3, .getfield 0, 1, 4, 2, 0, [373]), (10, 3, .getfield 0, 0, 2, 0, 0, [157]), (13, 3, .if_icmp .ge 0, 47, 0, 0, 0, []), (16, 1, .aload 0, 0, 0, 0, 0, []), (17, 1, .iload 0, 1, 0, 0, 0, []), (18, 1, .iload 0, 3, 0, 0, 0, []),
  (19, 3, .invokevirtual 0, 25, 3, 1, 1, [851, 853, 18, 77]), (22, 3, .ifCond .eq 0, 41, 0, 0, 0, []), (25, 1, .iload 0, 2, 0, 0, 0, []), (26, 1, .aload 0, 0, 0, 0, 0, []), (27, 1, .aload 0, 0, 0, 0, 0, []), (28, 3, .getfield 0, 1, 3, 2, 0, [369]),
  (31, 1, .iload 0, 3, 0, 0, 0, []), (32, 1, .iaload, 0, 0, 0, 0, []), (33, 1, .iload 0, 3, 0, 0, 0, []), (34, 3, .invokevirtual 0, 17, 3, 1, 1, [617, 618, 619, 77]), (37, 3, .invokestatic 0, 223, 2, 1, 1, [855, 856, 87]), (40, 1, .istore 0, 2, 0, 0, 0, []),
  (41, 3, .iinc 0 0, 3, 0, 0, 1, []), (44, 3, .goto 0, 5, 0, 0, 0, []), (47, 1, .iload 0, 2, 0, 0, 0, []), (48, 1, .ireturn, 0, 0, 0, 0, [])
  ]
def mc_X1_borderPairs : List mv_E := [
  (0, 1, .iconst 0, 0, 0, 0, 0, []), (1, 1, .istore 0, 1, 0, 0, 0, []), (2, 1, .iconst 0, 0, 0, 0, 0, []), (3, 1, .istore 0, 2, 0, 0, 0, []), (4, 1, .iload 0, 2, 0, 0, 0, []), (5, 1, .aload 0, 0, 0, 0, 0, []),
  (6, 3, .getfield 0, 1, 4, 2, 0, [373]), (9, 3, .getfield 0, 0, 2, 0, 0, [157]), (12, 3, .if_icmp .ge 0, 71, 0, 0, 0, []), (15, 1, .iload 0, 1, 0, 0, 0, []), (16, 1, .aload 0, 0, 0, 0, 0, []), (17, 1, .iload 0, 2, 0, 0, 0, []),
  (18, 1, .aload 0, 0, 0, 0, 0, []), (19, 3, .getfield 0, 1, 4, 2, 0, [373]), (22, 1, .iload 0, 2, 0, 0, 0, []), (23, 1, .iconst 0, 0, 0, 0, 0, []), (24, 3, .invokevirtual 0, 5, 3, 0, 1, [866, 561, 562, 79]), (27, 3, .invokevirtual 0, 28, 3, 1, 1, [867, 869, 19, 77]),
  (30, 3, .ifCond .eq 0, 37, 0, 0, 0, []), (33, 1, .iconst 0, 0, 0, 0, 1, []), (34, 3, .goto 0, 38, 0, 0, 0, []), (37, 1, .iconst 0, 0, 0, 0, 0, []), (38, 1, .iadd, 0, 0, 0, 0, []), (39, 1, .istore 0, 1, 0, 0, 0, []),
  (40, 1, .iload 0, 1, 0, 0, 0, []), (41, 1, .aload 0, 0, 0, 0, 0, []), (42, 1, .iload 0, 2, 0, 0, 0, []), (43, 1, .aload 0, 0, 0, 0, 0, []), (44, 3, .getfield 0, 1, 4, 2, 0, [373]), (47, 1, .iload 0, 2, 0, 0, 0, []),
  (48, 1, .iconst 0, 0, 0, 0, 2, []), (49, 3, .invokevirtual 0, 5, 3, 0, 1, [866, 561, 562, 79]), (52, 3, .invokevirtual 0, 28, 3, 1, 1, [867, 869, 19, 77]), (55, 3, .ifCond .eq 0, 62, 0, 0, 0, []), (58, 1, .iconst 0, 0, 0, 0, 1, []), (59, 3, .goto 0, 63, 0, 0, 0, []),
  (62, 1, .iconst 0, 0, 0, 0, 0, []), (63, 1, .iadd, 0, 0, 0, 0, []), (64, 1, .istore 0, 1, 0, 0, 0, []), (65, 3, .iinc 0 0, 2, 0, 0, 1, []), (68, 3, .goto 0, 4, 0, 0, 0, []), (71, 1, .iload 0, 1, 0, 0, 0, []),
  (72, 1, .ireturn, 0, 0, 0, 0, [])
  ]
def mc_X1_isBorder : List mv_E := [
  (0, 1, .iload 0, 2, 0, 0, 0, []), (1, 1, .iconst 0, 0, 0, 0, (-1), []), (2, 3, .if_icmp .eq 0, 25, 0, 0, 0, []), (5, 1, .aload 0, 0, 0, 0, 0, []), (6, 3, .getfield 0, 1, 3, 2, 0, [369]), (9, 1, .iload 0, 1, 0, 0, 0, []),
  (10, 1, .iaload, 0, 0, 0, 0, []), (11, 1, .iconst 0, 0, 0, 0, (-1), []), (12, 3, .if_icmp .eq 0, 25, 0, 0, 0, []), (15, 1, .aload 0, 0, 0, 0, 0, []), (16, 3, .getfield 0, 1, 3, 2, 0, [369]), (19, 1, .iload 0, 2, 0, 0, 0, []),
  (20, 1, .iaload, 0, 0, 0, 0, []), (21, 1, .iconst 0, 0, 0, 0, (-1), []), (22, 3, .if_icmp .ne 0, 27, 0, 0, 0, []), (25, 1, .iconst 0, 0, 0, 0, 0, []), (26, 1, .ireturn, 1, 0, 0, 0, []), (27, 1, .aload 0, 0, 0, 0, 0, []),
  (28, 3, .getfield 0, 1, 3, 2, 0, [369]), (31, 1, .iload 0, 1, 0, 0, 0, []), (32, 1, .iaload, 0, 0, 0, 0, []), (33, 1, .iconst 0, 0, 0, 0, 3, []), (34, 1, .irem, 0, 0, 0, 0, []), (35, 1, .aload 0, 0, 0, 0, 0, []),
  (36, 3, .getfield 0, 1, 3, 2, 0, [369]), (39, 1, .iload 0, 2, 0, 0, 0, []), (40, 1, .iaload, 0, 0, 0, 0, []), (41, 1, .iconst 0, 0, 0, 0, 3, []), (42, 1, .irem, 0, 0, 0, 0, []), (43, 3, .if_icmp .eq 0, 50, 0, 0, 0, []),
  (46, 1, .iconst 0, 0, 0, 0, 1, []), (47, 3, .goto 0, 51, 0, 0, 0, []), (50, 1, .iconst 0, 0, 0, 0, 0, []), (51, 1, .ireturn, 1, 0, 0, 0, [])
  ]
def mc_X1_wasteAcres : List mv_E := [
  (0, 1, .iconst 0, 0, 0, 0, 0, []), (1, 1, .istore 0, 1, 0, 0, 0, []), (2, 1, .iconst 0, 0, 0, 0, 0, []), (3, 1, .istore 0, 2, 0, 0, 0, []), (4, 1, .iload 0, 2, 0, 0, 0, []), (5, 1, .aload 0, 0, 0, 0, 0, []),
  (6, 3, .getfield 0, 1, 4, 2, 0, [373]), (9, 3, .getfield 0, 0, 2, 0, 0, [157]), (12, 3, .if_icmp .ge 0, 39, 0, 0, 0, []), (15, 1, .iload 0, 1, 0, 0, 0, []), (16, 1, .aload 0, 0, 0, 0, 0, []), (17, 3, .getfield 0, 1, 3, 2, 0, [369]),
  (20, 1, .iload 0, 2, 0, 0, 0, []), (21, 1, .iaload, 0, 0, 0, 0, []), (22, 1, .iconst 0, 0, 0, 0, (-1), []), (23, 3, .if_icmp .ne 0, 30, 0, 0, 0, []), (26, 1, .iconst 0, 0, 0, 0, 1, []), (27, 3, .goto 0, 31, 0, 0, 0, []),
  (30, 1, .iconst 0, 0, 0, 0, 0, []), (31, 1, .iadd, 0, 0, 0, 0, []), (32, 1, .istore 0, 1, 0, 0, 0, []), (33, 3, .iinc 0 0, 2, 0, 0, 1, []), (36, 3, .goto 0, 4, 0, 0, 0, []), (39, 1, .iload 0, 1, 0, 0, 0, []),
  (40, 1, .ireturn, 0, 0, 0, 0, [])
  ]
def mc_X1_fallingWaste : List mv_E := [
  (0, 1, .aload 0, 0, 0, 0, 0, []), (1, 3, .getfield 0, 1, 5, 2, 0, [374]), (4, 3, .getfield 0, 7, 7, 2, 0, [241]), (7, 1, .iload 0, 1, 0, 0, 0, []), (8, 1, .iaload, 0, 0, 0, 0, []), (9, 1, .istore 0, 3, 0, 0, 0, []),
  (10, 1, .aload 0, 0, 0, 0, 0, []), (11, 3, .getfield 0, 1, 5, 2, 0, [374]), (14, 3, .getfield 0, 7, 7, 2, 0, [241]), (17, 1, .iload 0, 1, 0, 0, 0, []), (18, 1, .iload 0, 2, 0, 0, 0, []), (19, 1, .iastore, 0, 0, 0, 0, []),
  (20, 1, .iconst 0, 0, 0, 0, 0, []), (21, 2, .istore 0, 4, 0, 0, 0, []), (23, 2, .iload 0, 4, 0, 0, 0, []), (25, 1, .aload 0, 0, 0, 0, 0, []), (26, 3, .getfield 0, 1, 4, 2, 0, [373]), (29, 3, .getfield 0, 0, 4, 0, 0, [162]),
  (32, 3, .if_icmp .ge 0, 51, 0, 0, 0, []), (35, 1, .aload 0, 0, 0, 0, 0, []), (36, 1, .iload 0, 1, 0, 0, 0, []), (37, 2, .iload 0, 4, 0, 0, 0, []), (39, 3, .invokestatic 0, 131, 2, 1, 1, [949, 687, 74]), (42, 3, .invokevirtual 0, 16, 2, 1, 0, [613, 614, 615, 77]),
  (45, 3, .iinc 0 0, 4, 0, 0, 1, []), (48, 3, .goto 0, 23, 0, 0, 0, []), (51, 1, .iconst 0, 0, 0, 0, 0, []), (52, 2, .istore 0, 4, 0, 0, 0, []), (54, 1, .iconst 0, 0, 0, 0, 0, []), (55, 2, .istore 0, 5, 0, 0, 0, []),
  (57, 2, .iload 0, 5, 0, 0, 0, []), (59, 1, .aload 0, 0, 0, 0, 0, []), (60, 3, .getfield 0, 1, 4, 2, 0, [373]), (63, 3, .getfield 0, 0, 2, 0, 0, [157]), (66, 3, .if_icmp .ge 0, 98, 0, 0, 0, []), (69, 1, .aload 0, 0, 0, 0, 0, []),
  (70, 1, .iload 0, 1, 0, 0, 0, []), (71, 2, .iload 0, 5, 0, 0, 0, []), (73, 3, .invokevirtual 0, 25, 3, 1, 1, [851, 853, 18, 77]), (76, 3, .ifCond .eq 0, 92, 0, 0, 0, []), (79, 1, .aload 0, 0, 0, 0, 0, []), (80, 2, .iload 0, 5, 0, 0, 0, []),
  (82, 3, .invokevirtual 0, 18, 2, 1, 1, [642, 643, 644, 77]), (85, 1, .iconst 0, 0, 0, 0, (-1), []), (86, 3, .if_icmp .ne 0, 92, 0, 0, 0, []), (89, 3, .iinc 0 0, 4, 0, 0, 1, []), (92, 3, .iinc 0 0, 5, 0, 0, 1, []), (95, 3, .goto 0, 57, 0, 0, 0, []),
  (98, 1, .aload 0, 0, 0, 0, 0, []), (99, 3, .getfield 0, 1, 5, 2, 0, [374]), (102, 3, .getfield 0, 7, 7, 2, 0, [241]), (105, 1, .iload 0, 1, 0, 0, 0, []), (106, 1, .iload 0, 3, 0, 0, 0, []), (107, 1, .iastore, 0, 0, 0, 0, []),
  (108, 1, .aload 0, 0, 0, 0, 0, []), (109, 1, .iconst 0, 0, 0, 0, 0, []), (110, 3, .putfield 0, 1, 7, 1, 0, [376]), (113, 2, .iload 0, 4, 0, 0, 0, []), (115, 1, .ireturn, 0, 0, 0, 0, [])
  ]
def mc_X2_init : List mv_E := [
  (0, 1, .aload 0, 0, 0, 0, 0, []), (1, 3, .invokespecial 0, 0, 0, 1, 0, [288, 95, 96]), (4, 1, .aload 0, 0, 0, 0, 0, []), (5, 1, .iconst 0, 0, 0, 0, 0, []), (6, 3, .putfield 0, 2, 0, 0, 0, [289]), (9, 1, .aload 0, 0, 0, 0, 0, []),
  (10, 2, .iconst 0, 0, 0, 0, 8, []), (12, 2, .newarray .int, 100, 0, 0, 0, [113]), (14, 3, .putfield 0, 2, 1, 2, 0, [292]), (17, 1, .aload 0, 0, 0, 0, 0, []), (18, 2, .iconst 0, 0, 0, 0, 8, []), (20, 2, .newarray .int, 100, 0, 0, 0, [113]),
  (22, 3, .putfield 0, 2, 2, 2, 0, [294]), (25, 1, .aload 0, 0, 0, 0, 0, []), (26, 2, .iconst 0, 0, 0, 0, 8, []), (28, 2, .newarray .int, 100, 0, 0, 0, [113]), (30, 3, .putfield 0, 2, 3, 2, 0, [296]), (33, 1, .aload 0, 0, 0, 0, 0, []),
  (34, 2, .iconst 0, 0, 0, 0, 8, []), (36, 2, .newarray .int, 100, 0, 0, 0, [113]), (38, 3, .putfield 0, 2, 4, 2, 0, [298]), (41, 1, .return_, 0, 0, 0, 0, [])
  ]
def mc_X2_append : List mv_E := [
  (0, 1, .aload 0, 0, 0, 0, 0, []), (1, 3, .getfield 0, 2, 0, 0, 0, [289]), (4, 2, .istore 0, 5, 0, 0, 0, []), (6, 2, .iload 0, 5, 0, 0, 0, []), (8, 2, .iconst 0, 0, 0, 0, 8, []), (10, 3, .if_icmp .lt 0, 16, 0, 0, 0, []),
  (13, 2, .iconst 0, 0, 0, 0, (-9), []), (15, 1, .ireturn, 0, 0, 0, 0, []), (16, 1, .aload 0, 0, 0, 0, 0, []), (17, 3, .getfield 0, 2, 1, 2, 0, [292]), (20, 2, .iload 0, 5, 0, 0, 0, []), (22, 1, .iload 0, 1, 0, 0, 0, []),
  (23, 1, .iastore, 0, 0, 0, 0, []), (24, 1, .aload 0, 0, 0, 0, 0, []), (25, 3, .getfield 0, 2, 2, 2, 0, [294]), (28, 2, .iload 0, 5, 0, 0, 0, []), (30, 1, .iload 0, 2, 0, 0, 0, []), (31, 1, .iastore, 0, 0, 0, 0, []),
  (32, 1, .aload 0, 0, 0, 0, 0, []), (33, 3, .getfield 0, 2, 3, 2, 0, [296]), (36, 2, .iload 0, 5, 0, 0, 0, []), (38, 1, .iload 0, 3, 0, 0, 0, []), (39, 1, .iastore, 0, 0, 0, 0, []), (40, 1, .aload 0, 0, 0, 0, 0, []),
  (41, 3, .getfield 0, 2, 4, 2, 0, [298]), (44, 2, .iload 0, 5, 0, 0, 0, []), (46, 2, .iload 0, 4, 0, 0, 0, []), (48, 1, .iastore, 0, 0, 0, 0, []), (49, 1, .aload 0, 0, 0, 0, 0, []), (50, 2, .iload 0, 5, 0, 0, 0, []),
  (52, 1, .iconst 0, 0, 0, 0, 1, []), (53, 1, .iadd, 0, 0, 0, 0, []), (54, 3, .putfield 0, 2, 0, 0, 0, [289]), (57, 2, .iload 0, 5, 0, 0, 0, []), (59, 1, .ireturn, 0, 0, 0, 0, [])
  ]
def mc_X2_takeFrom : List mv_E := [
  (0, 1, .aload 0, 0, 0, 0, 0, []), (1, 1, .aload 0, 1, 0, 0, 0, []), (2, 3, .getfield 0, 2, 0, 0, 0, [289]), (5, 3, .putfield 0, 2, 0, 0, 0, [289]), (8, 1, .aload 0, 1, 0, 0, 0, []), (9, 3, .getfield 0, 2, 1, 2, 0, [292]),
  (12, 1, .iconst 0, 0, 0, 0, 0, []), (13, 1, .aload 0, 0, 0, 0, 0, []), (14, 3, .getfield 0, 2, 1, 2, 0, [292]), (17, 1, .iconst 0, 0, 0, 0, 0, []), (18, 2, .iconst 0, 0, 0, 0, 8, []), (20, 3, .invokestatic 0, 0, 0, 100, 0, [1016, 968, 967, 88]),
  (23, 1, .aload 0, 1, 0, 0, 0, []), (24, 3, .getfield 0, 2, 2, 2, 0, [294]), (27, 1, .iconst 0, 0, 0, 0, 0, []), (28, 1, .aload 0, 0, 0, 0, 0, []), (29, 3, .getfield 0, 2, 2, 2, 0, [294]), (32, 1, .iconst 0, 0, 0, 0, 0, []),
  (33, 2, .iconst 0, 0, 0, 0, 8, []), (35, 3, .invokestatic 0, 0, 0, 100, 0, [1016, 968, 967, 88]), (38, 1, .aload 0, 1, 0, 0, 0, []), (39, 3, .getfield 0, 2, 3, 2, 0, [296]), (42, 1, .iconst 0, 0, 0, 0, 0, []), (43, 1, .aload 0, 0, 0, 0, 0, []),
  (44, 3, .getfield 0, 2, 3, 2, 0, [296]), (47, 1, .iconst 0, 0, 0, 0, 0, []), (48, 2, .iconst 0, 0, 0, 0, 8, []), (50, 3, .invokestatic 0, 0, 0, 100, 0, [1016, 968, 967, 88]), (53, 1, .aload 0, 1, 0, 0, 0, []), (54, 3, .getfield 0, 2, 4, 2, 0, [298]),
  (57, 1, .iconst 0, 0, 0, 0, 0, []), (58, 1, .aload 0, 0, 0, 0, 0, []), (59, 3, .getfield 0, 2, 4, 2, 0, [298]), (62, 1, .iconst 0, 0, 0, 0, 0, []), (63, 2, .iconst 0, 0, 0, 0, 8, []), (65, 3, .invokestatic 0, 0, 0, 100, 0, [1016, 968, 967, 88]),
  (68, 1, .return_, 0, 0, 0, 0, [])
  ]
def mc_X3_init : List mv_E := [
  (0, 1, .aload 0, 0, 0, 0, 0, []), (1, 3, .invokespecial 0, 0, 0, 1, 0, [431, 95, 96]), (4, 1, .aload 0, 0, 0, 0, 0, []), (5, 2, .iconst 0, 0, 0, 0, 6, []), (7, 2, .newarray .long, 101, 0, 0, 0, [394]), (9, 3, .putfield 0, 3, 0, 2, 0, [432]),
  (12, 1, .aload 0, 0, 0, 0, 0, []), (13, 2, .iconst 0, 0, 0, 0, 6, []), (15, 2, .newarray .long, 101, 0, 0, 0, [394]), (17, 3, .putfield 0, 3, 1, 2, 0, [433]), (20, 1, .aload 0, 0, 0, 0, 0, []), (21, 2, .iconst 0, 0, 0, 0, 23, []),
  (23, 2, .newarray .long, 101, 0, 0, 0, [394]), (25, 3, .putfield 0, 3, 2, 2, 0, [434]), (28, 1, .aload 0, 0, 0, 0, 0, []), (29, 2, .iconst 0, 0, 0, 0, 23, []), (31, 2, .newarray .long, 101, 0, 0, 0, [394]), (33, 3, .putfield 0, 3, 3, 2, 0, [435]),
  (36, 1, .aload 0, 0, 0, 0, 0, []), (37, 1, .iconst 0, 0, 0, 0, 0, []), (38, 3, .putfield 0, 3, 4, 0, 0, [436]), (41, 1, .aload 0, 0, 0, 0, 0, []), (42, 1, .iconst 0, 0, 0, 0, 0, []), (43, 3, .putfield 0, 3, 5, 0, 0, [437]),
  (46, 1, .aload 0, 0, 0, 0, 0, []), (47, 2, .iconst 0, 0, 0, 0, 23, []), (49, 2, .newarray .int, 100, 0, 0, 0, [113]), (51, 3, .putfield 0, 3, 6, 2, 0, [439]), (54, 1, .aload 0, 0, 0, 0, 0, []), (55, 2, .iconst 0, 0, 0, 0, 23, []),
  (57, 2, .newarray .long, 101, 0, 0, 0, [394]), (59, 3, .putfield 0, 3, 7, 2, 0, [441]), (62, 1, .aload 0, 0, 0, 0, 0, []), (63, 2, .iconst 0, 0, 0, 0, 23, []), (65, 2, .newarray .long, 101, 0, 0, 0, [394]), (67, 3, .putfield 0, 3, 8, 2, 0, [443]),
  (70, 1, .return_, 0, 0, 0, 0, [])
  ]
def mc_X3_reckon : List mv_E := [
  (0, 1, .aload 0, 0, 0, 0, 0, []), (1, 1, .aload 0, 1, 0, 0, 0, []), (2, 1, .iload 0, 2, 0, 0, 0, []), (3, 3, .invokevirtual 0, 36, 3, 3, 0, [811, 813, 13, 85]), (6, 1, .aload 0, 0, 0, 0, 0, []), (7, 1, .iconst 0, 0, 0, 0, 0, []),
  (8, 3, .putfield 0, 3, 5, 0, 0, [437]), (11, 1, .iconst 0, 0, 0, 0, (-1), []), (12, 1, .istore 0, 3, 0, 0, 0, []), (13, 1, .iconst 0, 0, 0, 0, 0, []), (14, 2, .istore 0, 4, 0, 0, 0, []), (16, 2, .iload 0, 4, 0, 0, 0, []),
  (18, 1, .aload 0, 0, 0, 0, 0, []), (19, 3, .getfield 0, 3, 4, 0, 0, [436]), (22, 3, .if_icmp .ge 0, 152, 0, 0, 0, []), (25, 2, .iload 0, 4, 0, 0, 0, []), (27, 1, .iconst 0, 0, 0, 0, 1, []), (28, 1, .iadd, 0, 0, 0, 0, []),
  (29, 1, .aload 0, 0, 0, 0, 0, []), (30, 3, .getfield 0, 3, 4, 0, 0, [436]), (33, 3, .if_icmp .lt 0, 40, 0, 0, 0, []), (36, 1, .iconst 0, 0, 0, 0, 1, []), (37, 3, .goto 0, 41, 0, 0, 0, []), (40, 1, .iconst 0, 0, 0, 0, 0, []),
  (41, 2, .istore 0, 5, 0, 0, 0, []), (43, 1, .aload 0, 0, 0, 0, 0, []), (44, 3, .getfield 0, 3, 2, 2, 0, [434]), (47, 2, .iload 0, 4, 0, 0, 0, []), (49, 1, .laload, 0, 0, 0, 0, []), (50, 2, .iload 0, 5, 0, 0, 0, []),
  (52, 3, .ifCond .eq 0, 65, 0, 0, 0, []), (55, 1, .aload 0, 0, 0, 0, 0, []), (56, 3, .getfield 0, 3, 3, 2, 0, [435]), (59, 2, .iload 0, 4, 0, 0, 0, []), (61, 1, .laload, 0, 0, 0, 0, []), (62, 3, .goto 0, 74, 0, 0, 0, []),
  (65, 1, .aload 0, 0, 0, 0, 0, []), (66, 3, .getfield 0, 3, 2, 2, 0, [434]), (69, 2, .iload 0, 4, 0, 0, 0, []), (71, 1, .iconst 0, 0, 0, 0, 1, []), (72, 1, .iadd, 0, 0, 0, 0, []), (73, 1, .laload, 0, 0, 0, 0, []),
  (74, 1, .ladd, 0, 0, 0, 0, []), (75, 2, .lstore 0, 6, 0, 0, 0, []), (77, 1, .aload 0, 0, 0, 0, 0, []), (78, 3, .getfield 0, 3, 3, 2, 0, [435]), (81, 2, .iload 0, 4, 0, 0, 0, []), (83, 1, .laload, 0, 0, 0, 0, []),
  (84, 2, .iload 0, 5, 0, 0, 0, []), (86, 3, .ifCond .eq 0, 93, 0, 0, 0, []), (89, 1, .lconst 0, 0, 0, 0, 0, []), (90, 3, .goto 0, 102, 0, 0, 0, []), (93, 1, .aload 0, 0, 0, 0, 0, []), (94, 3, .getfield 0, 3, 3, 2, 0, [435]),
  (97, 2, .iload 0, 4, 0, 0, 0, []), (99, 1, .iconst 0, 0, 0, 0, 1, []), (100, 1, .iadd, 0, 0, 0, 0, []), (101, 1, .laload, 0, 0, 0, 0, []), (102, 1, .ladd, 0, 0, 0, 0, []), (103, 2, .lstore 0, 8, 0, 0, 0, []),
  (105, 1, .aload 0, 0, 0, 0, 0, []), (106, 1, .aload 0, 1, 0, 0, 0, []), (107, 2, .lload 0, 6, 0, 0, 0, []), (109, 2, .lload 0, 8, 0, 0, 0, []), (111, 3, .invokevirtual 0, 38, 4, 3, 1, [823, 825, 15, 85]), (114, 2, .istore 0, 10, 0, 0, 0, []),
  (116, 2, .iload 0, 10, 0, 0, 0, []), (118, 1, .iconst 0, 0, 0, 0, (-1), []), (119, 3, .if_icmp .eq 0, 143, 0, 0, 0, []), (122, 1, .aload 0, 0, 0, 0, 0, []), (123, 2, .iload 0, 10, 0, 0, 0, []), (125, 2, .iload 0, 10, 0, 0, 0, []),
  (127, 1, .iload 0, 3, 0, 0, 0, []), (128, 3, .if_icmp .ne 0, 135, 0, 0, 0, []), (131, 1, .iconst 0, 0, 0, 0, 1, []), (132, 3, .goto 0, 136, 0, 0, 0, []), (135, 1, .iconst 0, 0, 0, 0, 0, []), (136, 2, .iload 0, 4, 0, 0, 0, []),
  (138, 1, .iconst 0, 0, 0, 0, 1, []), (139, 1, .iadd, 0, 0, 0, 0, []), (140, 3, .invokevirtual 0, 40, 4, 3, 0, [831, 833, 17, 85]), (143, 2, .iload 0, 10, 0, 0, 0, []), (145, 1, .istore 0, 3, 0, 0, 0, []), (146, 3, .iinc 0 0, 4, 0, 0, 1, []),
  (149, 3, .goto 0, 16, 0, 0, 0, []), (152, 1, .return_, 0, 0, 0, 0, [])
  ]
def mc_X3_findCuts : List mv_E := [
  (0, 1, .aload 0, 0, 0, 0, 0, []), (1, 1, .iconst 0, 0, 0, 0, 0, []), (2, 3, .putfield 0, 3, 4, 0, 0, [436]), (5, 1, .aload 0, 0, 0, 0, 0, []), (6, 1, .lconst 0, 0, 0, 0, 0, []), (7, 1, .lconst 0, 0, 0, 0, 1, []),
  (8, 3, .invokevirtual 0, 37, 3, 3, 0, [815, 817, 14, 85]), (11, 1, .aload 0, 0, 0, 0, 0, []), (12, 3, .lconst 0, 0, 0, 0, 60, [819]), (15, 1, .lconst 0, 0, 0, 0, 1, []), (16, 3, .invokevirtual 0, 37, 3, 3, 0, [815, 817, 14, 85]), (19, 1, .iconst 0, 0, 0, 0, 0, []),
  (20, 1, .istore 0, 3, 0, 0, 0, []), (21, 1, .iload 0, 3, 0, 0, 0, []), (22, 1, .aload 0, 1, 0, 0, 0, []), (23, 3, .getfield 0, 7, 0, 0, 0, [224]), (26, 3, .if_icmp .ge 0, 126, 0, 0, 0, []), (29, 1, .aload 0, 0, 0, 0, 0, []),
  (30, 3, .getfield 0, 3, 0, 2, 0, [432]), (33, 1, .iload 0, 3, 0, 0, 0, []), (34, 1, .aload 0, 1, 0, 0, 0, []), (35, 1, .iload 0, 3, 0, 0, 0, []), (36, 1, .iconst 0, 0, 0, 0, 0, []), (37, 3, .invokestatic 0, 131, 2, 1, 1, [820, 687, 74]),
  (40, 1, .iload 0, 2, 0, 0, 0, []), (41, 3, .invokevirtual 0, 63, 3, 7, 2, [821, 626, 627, 80]), (44, 1, .lastore, 0, 0, 0, 0, []), (45, 1, .aload 0, 0, 0, 0, 0, []), (46, 3, .getfield 0, 3, 1, 2, 0, [433]), (49, 1, .iload 0, 3, 0, 0, 0, []),
  (50, 1, .aload 0, 1, 0, 0, 0, []), (51, 1, .iload 0, 3, 0, 0, 0, []), (52, 1, .iload 0, 2, 0, 0, 0, []), (53, 3, .invokevirtual 0, 64, 3, 7, 2, [822, 639, 640, 80]), (56, 1, .lastore, 0, 0, 0, 0, []), (57, 1, .aload 0, 0, 0, 0, 0, []),
  (58, 1, .aload 0, 0, 0, 0, 0, []), (59, 3, .getfield 0, 3, 0, 2, 0, [432]), (62, 1, .iload 0, 3, 0, 0, 0, []), (63, 1, .laload, 0, 0, 0, 0, []), (64, 1, .aload 0, 0, 0, 0, 0, []), (65, 3, .getfield 0, 3, 1, 2, 0, [433]),
  (68, 1, .iload 0, 3, 0, 0, 0, []), (69, 1, .laload, 0, 0, 0, 0, []), (70, 3, .invokevirtual 0, 37, 3, 3, 0, [815, 817, 14, 85]), (73, 1, .iconst 0, 0, 0, 0, 0, []), (74, 2, .istore 0, 4, 0, 0, 0, []), (76, 2, .iload 0, 4, 0, 0, 0, []),
  (78, 1, .iload 0, 3, 0, 0, 0, []), (79, 3, .if_icmp .ge 0, 120, 0, 0, 0, []), (82, 1, .aload 0, 0, 0, 0, 0, []), (83, 1, .aload 0, 0, 0, 0, 0, []), (84, 3, .getfield 0, 3, 0, 2, 0, [432]), (87, 1, .iload 0, 3, 0, 0, 0, []),
  (88, 1, .laload, 0, 0, 0, 0, []), (89, 1, .aload 0, 0, 0, 0, 0, []), (90, 3, .getfield 0, 3, 0, 2, 0, [432]), (93, 2, .iload 0, 4, 0, 0, 0, []), (95, 1, .laload, 0, 0, 0, 0, []), (96, 1, .lsub, 0, 0, 0, 0, []),
  (97, 1, .aload 0, 0, 0, 0, 0, []), (98, 3, .getfield 0, 3, 1, 2, 0, [433]), (101, 1, .iload 0, 3, 0, 0, 0, []), (102, 1, .laload, 0, 0, 0, 0, []), (103, 1, .aload 0, 0, 0, 0, 0, []), (104, 3, .getfield 0, 3, 1, 2, 0, [433]),
  (107, 2, .iload 0, 4, 0, 0, 0, []), (109, 1, .laload, 0, 0, 0, 0, []), (110, 1, .lsub, 0, 0, 0, 0, []), (111, 3, .invokevirtual 0, 37, 3, 3, 0, [815, 817, 14, 85]), (114, 3, .iinc 0 0, 4, 0, 0, 1, []), (117, 3, .goto 0, 76, 0, 0, 0, []),
  (120, 3, .iinc 0 0, 3, 0, 0, 1, []), (123, 3, .goto 0, 21, 0, 0, 0, []), (126, 1, .return_, 0, 0, 0, 0, [])
  ]
def mc_X3_addCut : List mv_E := [
  (0, 1, .lload 0, 3, 0, 0, 0, []), (1, 1, .lconst 0, 0, 0, 0, 0, []), (2, 1, .lcmp, 0, 0, 0, 0, []), (3, 3, .ifCond .ge 0, 11, 0, 0, 0, []), (6, 1, .lload 0, 1, 0, 0, 0, []), (7, 1, .lneg, 0, 0, 0, 0, []),
  (8, 3, .goto 0, 12, 0, 0, 0, []), (11, 1, .lload 0, 1, 0, 0, 0, []), (12, 2, .lstore 0, 5, 0, 0, 0, []), (14, 1, .lload 0, 3, 0, 0, 0, []), (15, 1, .lconst 0, 0, 0, 0, 0, []), (16, 1, .lcmp, 0, 0, 0, 0, []),
  (17, 3, .ifCond .ge 0, 25, 0, 0, 0, []), (20, 1, .lload 0, 3, 0, 0, 0, []), (21, 1, .lneg, 0, 0, 0, 0, []), (22, 3, .goto 0, 26, 0, 0, 0, []), (25, 1, .lload 0, 3, 0, 0, 0, []), (26, 2, .lstore 0, 7, 0, 0, 0, []),
  (28, 2, .lload 0, 7, 0, 0, 0, []), (30, 1, .lconst 0, 0, 0, 0, 0, []), (31, 1, .lcmp, 0, 0, 0, 0, []), (32, 3, .ifCond .eq 0, 51, 0, 0, 0, []), (35, 2, .lload 0, 5, 0, 0, 0, []), (37, 1, .lconst 0, 0, 0, 0, 0, []),
  (38, 1, .lcmp, 0, 0, 0, 0, []), (39, 3, .ifCond .lt 0, 51, 0, 0, 0, []), (42, 1, .aload 0, 0, 0, 0, 0, []), (43, 3, .getfield 0, 3, 4, 0, 0, [436]), (46, 2, .iconst 0, 0, 0, 0, 23, []), (48, 3, .if_icmp .lt 0, 52, 0, 0, 0, []),
  (51, 1, .return_, 0, 0, 0, 0, []), (52, 1, .aload 0, 0, 0, 0, 0, []), (53, 3, .getfield 0, 3, 4, 0, 0, [436]), (56, 2, .istore 0, 9, 0, 0, 0, []), (58, 2, .iload 0, 9, 0, 0, 0, []), (60, 3, .ifCond .le 0, 97, 0, 0, 0, []),
  (63, 1, .aload 0, 0, 0, 0, 0, []), (64, 3, .getfield 0, 3, 2, 2, 0, [434]), (67, 2, .iload 0, 9, 0, 0, 0, []), (69, 1, .iconst 0, 0, 0, 0, 1, []), (70, 1, .isub, 0, 0, 0, 0, []), (71, 1, .laload, 0, 0, 0, 0, []),
  (72, 2, .lload 0, 7, 0, 0, 0, []), (74, 1, .lmul, 0, 0, 0, 0, []), (75, 2, .lload 0, 5, 0, 0, 0, []), (77, 1, .aload 0, 0, 0, 0, 0, []), (78, 3, .getfield 0, 3, 3, 2, 0, [435]), (81, 2, .iload 0, 9, 0, 0, 0, []),
  (83, 1, .iconst 0, 0, 0, 0, 1, []), (84, 1, .isub, 0, 0, 0, 0, []), (85, 1, .laload, 0, 0, 0, 0, []), (86, 1, .lmul, 0, 0, 0, 0, []), (87, 1, .lcmp, 0, 0, 0, 0, []), (88, 3, .ifCond .le 0, 97, 0, 0, 0, []),
  (91, 3, .iinc 0 0, 9, 0, 0, (-1), []), (94, 3, .goto 0, 58, 0, 0, 0, []), (97, 2, .iload 0, 9, 0, 0, 0, []), (99, 3, .ifCond .le 0, 131, 0, 0, 0, []), (102, 1, .aload 0, 0, 0, 0, 0, []), (103, 3, .getfield 0, 3, 2, 2, 0, [434]),
  (106, 2, .iload 0, 9, 0, 0, 0, []), (108, 1, .iconst 0, 0, 0, 0, 1, []), (109, 1, .isub, 0, 0, 0, 0, []), (110, 1, .laload, 0, 0, 0, 0, []), (111, 2, .lload 0, 7, 0, 0, 0, []), (113, 1, .lmul, 0, 0, 0, 0, []),
  (114, 2, .lload 0, 5, 0, 0, 0, []), (116, 1, .aload 0, 0, 0, 0, 0, []), (117, 3, .getfield 0, 3, 3, 2, 0, [435]), (120, 2, .iload 0, 9, 0, 0, 0, []), (122, 1, .iconst 0, 0, 0, 0, 1, []), (123, 1, .isub, 0, 0, 0, 0, []),
  (124, 1, .laload, 0, 0, 0, 0, []), (125, 1, .lmul, 0, 0, 0, 0, []), (126, 1, .lcmp, 0, 0, 0, 0, []), (127, 3, .ifCond .ne 0, 131, 0, 0, 0, []), (130, 1, .return_, 0, 0, 0, 0, []), (131, 1, .aload 0, 0, 0, 0, 0, []),
  (132, 3, .getfield 0, 3, 4, 0, 0, [436]), (135, 2, .istore 0, 10, 0, 0, 0, []), (137, 2, .iload 0, 10, 0, 0, 0, []), (139, 2, .iload 0, 9, 0, 0, 0, []), (141, 3, .if_icmp .le 0, 182, 0, 0, 0, []), (144, 1, .aload 0, 0, 0, 0, 0, []),
  (145, 3, .getfield 0, 3, 2, 2, 0, [434]), (148, 2, .iload 0, 10, 0, 0, 0, []), (150, 1, .aload 0, 0, 0, 0, 0, []), (151, 3, .getfield 0, 3, 2, 2, 0, [434]), (154, 2, .iload 0, 10, 0, 0, 0, []), (156, 1, .iconst 0, 0, 0, 0, 1, []),
  (157, 1, .isub, 0, 0, 0, 0, []), (158, 1, .laload, 0, 0, 0, 0, []), (159, 1, .lastore, 0, 0, 0, 0, []), (160, 1, .aload 0, 0, 0, 0, 0, []), (161, 3, .getfield 0, 3, 3, 2, 0, [435]), (164, 2, .iload 0, 10, 0, 0, 0, []),
  (166, 1, .aload 0, 0, 0, 0, 0, []), (167, 3, .getfield 0, 3, 3, 2, 0, [435]), (170, 2, .iload 0, 10, 0, 0, 0, []), (172, 1, .iconst 0, 0, 0, 0, 1, []), (173, 1, .isub, 0, 0, 0, 0, []), (174, 1, .laload, 0, 0, 0, 0, []),
  (175, 1, .lastore, 0, 0, 0, 0, []), (176, 3, .iinc 0 0, 10, 0, 0, (-1), []), (179, 3, .goto 0, 137, 0, 0, 0, []), (182, 1, .aload 0, 0, 0, 0, 0, []), (183, 3, .getfield 0, 3, 2, 2, 0, [434]), (186, 2, .iload 0, 9, 0, 0, 0, []),
  (188, 2, .lload 0, 5, 0, 0, 0, []), (190, 1, .lastore, 0, 0, 0, 0, []), (191, 1, .aload 0, 0, 0, 0, 0, []), (192, 3, .getfield 0, 3, 3, 2, 0, [435]), (195, 2, .iload 0, 9, 0, 0, 0, []), (197, 2, .lload 0, 7, 0, 0, 0, []),
  (199, 1, .lastore, 0, 0, 0, 0, []), (200, 1, .aload 0, 0, 0, 0, 0, []), (201, 1, .dup, 0, 0, 0, 0, []), (202, 3, .getfield 0, 3, 4, 0, 0, [436]), (205, 1, .iconst 0, 0, 0, 0, 1, []), (206, 1, .iadd, 0, 0, 0, 0, []),
  (207, 3, .putfield 0, 3, 4, 0, 0, [436]), (210, 1, .return_, 0, 0, 0, 0, [])
  ]
def mc_X3_takerAt : List mv_E := [
  (0, 1, .iconst 0, 0, 0, 0, (-1), []), (1, 2, .istore 0, 6, 0, 0, 0, []), (3, 1, .lconst 0, 0, 0, 0, 0, []), (4, 2, .lstore 0, 7, 0, 0, 0, []), (6, 1, .iconst 0, 0, 0, 0, 0, []), (7, 2, .istore 0, 9, 0, 0, 0, []),
  (9, 2, .iload 0, 9, 0, 0, 0, []), (11, 1, .aload 0, 1, 0, 0, 0, []), (12, 3, .getfield 0, 7, 0, 0, 0, [224]), (15, 3, .if_icmp .ge 0, 79, 0, 0, 0, []), (18, 1, .aload 0, 0, 0, 0, 0, []), (19, 3, .getfield 0, 3, 0, 2, 0, [432]),
  (22, 2, .iload 0, 9, 0, 0, 0, []), (24, 1, .laload, 0, 0, 0, 0, []), (25, 2, .lload 0, 4, 0, 0, 0, []), (27, 1, .lmul, 0, 0, 0, 0, []), (28, 1, .aload 0, 0, 0, 0, 0, []), (29, 3, .getfield 0, 3, 1, 2, 0, [433]),
  (32, 2, .iload 0, 9, 0, 0, 0, []), (34, 1, .laload, 0, 0, 0, 0, []), (35, 1, .lload 0, 2, 0, 0, 0, []), (36, 1, .lmul, 0, 0, 0, 0, []), (37, 1, .lsub, 0, 0, 0, 0, []), (38, 2, .lstore 0, 10, 0, 0, 0, []),
  (40, 2, .lload 0, 10, 0, 0, 0, []), (42, 2, .lload 0, 7, 0, 0, 0, []), (44, 1, .lcmp, 0, 0, 0, 0, []), (45, 3, .ifCond .le 0, 73, 0, 0, 0, []), (48, 1, .aload 0, 0, 0, 0, 0, []), (49, 1, .aload 0, 1, 0, 0, 0, []),
  (50, 3, .getfield 0, 7, 2, 2, 0, [232]), (53, 2, .iload 0, 9, 0, 0, 0, []), (55, 1, .iaload, 0, 0, 0, 0, []), (56, 1, .lload 0, 2, 0, 0, 0, []), (57, 2, .lload 0, 4, 0, 0, 0, []), (59, 3, .invokevirtual 0, 39, 4, 3, 1, [827, 829, 16, 85]),
  (62, 3, .ifCond .eq 0, 73, 0, 0, 0, []), (65, 2, .lload 0, 10, 0, 0, 0, []), (67, 2, .lstore 0, 7, 0, 0, 0, []), (69, 2, .iload 0, 9, 0, 0, 0, []), (71, 2, .istore 0, 6, 0, 0, 0, []), (73, 3, .iinc 0 0, 9, 0, 0, 1, []),
  (76, 3, .goto 0, 9, 0, 0, 0, []), (79, 2, .iload 0, 6, 0, 0, 0, []), (81, 1, .ireturn, 0, 0, 0, 0, [])
  ]
def mc_X3_isThere : List mv_E := [
  (0, 1, .iload 0, 1, 0, 0, 0, []), (1, 1, .iconst 0, 0, 0, 0, 5, []), (2, 3, .if_icmp .eq 0, 10, 0, 0, 0, []), (5, 1, .iload 0, 1, 0, 0, 0, []), (6, 1, .iconst 0, 0, 0, 0, 4, []), (7, 3, .if_icmp .ne 0, 12, 0, 0, 0, []),
  (10, 1, .iconst 0, 0, 0, 0, 0, []), (11, 1, .ireturn, 1, 0, 0, 0, []), (12, 1, .iload 0, 1, 0, 0, 0, []), (13, 1, .iconst 0, 0, 0, 0, 2, []), (14, 3, .if_icmp .ne 0, 28, 0, 0, 0, []), (17, 1, .lload 0, 2, 0, 0, 0, []),
  (18, 3, .lconst 0, 0, 0, 0, 60, [819]), (21, 2, .lload 0, 4, 0, 0, 0, []), (23, 1, .lmul, 0, 0, 0, 0, []), (24, 1, .lcmp, 0, 0, 0, 0, []), (25, 3, .ifCond .gt 0, 32, 0, 0, 0, []), (28, 1, .iconst 0, 0, 0, 0, 1, []),
  (29, 3, .goto 0, 33, 0, 0, 0, []), (32, 1, .iconst 0, 0, 0, 0, 0, []), (33, 1, .ireturn, 1, 0, 0, 0, [])
  ]
def mc_X3_extend : List mv_E := [
  (0, 1, .iload 0, 2, 0, 0, 0, []), (1, 3, .ifCond .eq 0, 20, 0, 0, 0, []), (4, 1, .aload 0, 0, 0, 0, 0, []), (5, 3, .getfield 0, 3, 5, 0, 0, [437]), (8, 3, .ifCond .le 0, 20, 0, 0, 0, []), (11, 1, .aload 0, 0, 0, 0, 0, []),
  (12, 3, .getfield 0, 3, 5, 0, 0, [437]), (15, 1, .iconst 0, 0, 0, 0, 1, []), (16, 1, .isub, 0, 0, 0, 0, []), (17, 3, .goto 0, 24, 0, 0, 0, []), (20, 1, .aload 0, 0, 0, 0, 0, []), (21, 3, .getfield 0, 3, 5, 0, 0, [437]),
  (24, 2, .istore 0, 4, 0, 0, 0, []), (26, 2, .iload 0, 4, 0, 0, 0, []), (28, 2, .iconst 0, 0, 0, 0, 23, []), (30, 3, .if_icmp .lt 0, 34, 0, 0, 0, []), (33, 1, .return_, 0, 0, 0, 0, []), (34, 1, .aload 0, 0, 0, 0, 0, []),
  (35, 3, .getfield 0, 3, 6, 2, 0, [439]), (38, 2, .iload 0, 4, 0, 0, 0, []), (40, 1, .iload 0, 1, 0, 0, 0, []), (41, 1, .iastore, 0, 0, 0, 0, []), (42, 1, .aload 0, 0, 0, 0, 0, []), (43, 2, .iload 0, 4, 0, 0, 0, []),
  (45, 1, .iconst 0, 0, 0, 0, 1, []), (46, 1, .iadd, 0, 0, 0, 0, []), (47, 3, .putfield 0, 3, 5, 0, 0, [437]), (50, 1, .iload 0, 3, 0, 0, 0, []), (51, 1, .aload 0, 0, 0, 0, 0, []), (52, 3, .getfield 0, 3, 4, 0, 0, [436]),
  (55, 3, .if_icmp .lt 0, 79, 0, 0, 0, []), (58, 1, .aload 0, 0, 0, 0, 0, []), (59, 3, .getfield 0, 3, 7, 2, 0, [441]), (62, 2, .iload 0, 4, 0, 0, 0, []), (64, 3, .lconst 0, 0, 0, 0, (-9), [835]), (67, 1, .lastore, 0, 0, 0, 0, []),
  (68, 1, .aload 0, 0, 0, 0, 0, []), (69, 3, .getfield 0, 3, 8, 2, 0, [443]), (72, 2, .iload 0, 4, 0, 0, 0, []), (74, 1, .lconst 0, 0, 0, 0, 1, []), (75, 1, .lastore, 0, 0, 0, 0, []), (76, 3, .goto 0, 128, 0, 0, 0, []),
  (79, 1, .aload 0, 0, 0, 0, 0, []), (80, 3, .getfield 0, 3, 2, 2, 0, [434]), (83, 1, .iload 0, 3, 0, 0, 0, []), (84, 1, .laload, 0, 0, 0, 0, []), (85, 1, .aload 0, 0, 0, 0, 0, []), (86, 3, .getfield 0, 3, 3, 2, 0, [435]),
  (89, 1, .iload 0, 3, 0, 0, 0, []), (90, 1, .laload, 0, 0, 0, 0, []), (91, 3, .invokestatic 0, 41, 2, 1, 2, [836, 837, 85]), (94, 2, .lstore 0, 5, 0, 0, 0, []), (96, 1, .aload 0, 0, 0, 0, 0, []), (97, 3, .getfield 0, 3, 7, 2, 0, [441]),
  (100, 2, .iload 0, 4, 0, 0, 0, []), (102, 1, .aload 0, 0, 0, 0, 0, []), (103, 3, .getfield 0, 3, 2, 2, 0, [434]), (106, 1, .iload 0, 3, 0, 0, 0, []), (107, 1, .laload, 0, 0, 0, 0, []), (108, 2, .lload 0, 5, 0, 0, 0, []),
  (110, 1, .ldiv, 0, 0, 0, 0, []), (111, 1, .lastore, 0, 0, 0, 0, []), (112, 1, .aload 0, 0, 0, 0, 0, []), (113, 3, .getfield 0, 3, 8, 2, 0, [443]), (116, 2, .iload 0, 4, 0, 0, 0, []), (118, 1, .aload 0, 0, 0, 0, 0, []),
  (119, 3, .getfield 0, 3, 3, 2, 0, [435]), (122, 1, .iload 0, 3, 0, 0, 0, []), (123, 1, .laload, 0, 0, 0, 0, []), (124, 2, .lload 0, 5, 0, 0, 0, []), (126, 1, .ldiv, 0, 0, 0, 0, []), (127, 1, .lastore, 0, 0, 0, 0, []),
  (128, 1, .return_, 0, 0, 0, 0, [])
  ]
def mc_X3_commonDivisor : List mv_E := [
  (0, 1, .lload 0, 2, 0, 0, 0, []), (1, 2, .lstore 0, 4, 0, 0, 0, []), (3, 1, .lload 0, 0, 0, 0, 0, []), (4, 2, .lstore 0, 6, 0, 0, 0, []), (6, 1, .iconst 0, 0, 0, 0, 0, []), (7, 2, .istore 0, 8, 0, 0, 0, []),
  (9, 2, .iload 0, 8, 0, 0, 0, []), (11, 3, .iconst 0, 0, 0, 0, 200, []), (14, 3, .if_icmp .ge 0, 45, 0, 0, 0, []), (17, 2, .lload 0, 6, 0, 0, 0, []), (19, 1, .lconst 0, 0, 0, 0, 0, []), (20, 1, .lcmp, 0, 0, 0, 0, []),
  (21, 3, .ifCond .eq 0, 45, 0, 0, 0, []), (24, 2, .lload 0, 4, 0, 0, 0, []), (26, 2, .lload 0, 6, 0, 0, 0, []), (28, 1, .lrem, 0, 0, 0, 0, []), (29, 2, .lstore 0, 9, 0, 0, 0, []), (31, 2, .lload 0, 6, 0, 0, 0, []),
  (33, 2, .lstore 0, 4, 0, 0, 0, []), (35, 2, .lload 0, 9, 0, 0, 0, []), (37, 2, .lstore 0, 6, 0, 0, 0, []), (39, 3, .iinc 0 0, 8, 0, 0, 1, []), (42, 3, .goto 0, 9, 0, 0, 0, []), (45, 2, .lload 0, 4, 0, 0, 0, []),
  (47, 1, .lconst 0, 0, 0, 0, 0, []), (48, 1, .lcmp, 0, 0, 0, 0, []), (49, 3, .ifCond .ne 0, 56, 0, 0, 0, []), (52, 1, .lconst 0, 0, 0, 0, 1, []), (53, 3, .goto 0, 58, 0, 0, 0, []), (56, 2, .lload 0, 4, 0, 0, 0, []),
  (58, 1, .lreturn, 0, 0, 0, 0, [])
  ]
def mc_X4_init : List mv_E := [
  (0, 1, .aload 0, 0, 0, 0, 0, []), (1, 3, .invokespecial 0, 0, 0, 1, 0, [119, 95, 96]), (4, 1, .aload 0, 0, 0, 0, 0, []), (5, 2, .iconst 0, 0, 0, 0, 48, []), (7, 2, .newarray .int, 100, 0, 0, 0, [113]), (9, 3, .putfield 0, 4, 0, 2, 0, [120]),
  (12, 1, .aload 0, 0, 0, 0, 0, []), (13, 1, .iconst 0, 0, 0, 0, 0, []), (14, 3, .putfield 0, 4, 1, 0, 0, [121]), (17, 1, .return_, 0, 0, 0, 0, [])
  ]
def mc_X4_append : List mv_E := [
  (0, 1, .aload 0, 0, 0, 0, 0, []), (1, 3, .getfield 0, 4, 1, 0, 0, [121]), (4, 2, .iconst 0, 0, 0, 0, 48, []), (6, 3, .if_icmp .ge 0, 29, 0, 0, 0, []), (9, 1, .aload 0, 0, 0, 0, 0, []), (10, 3, .getfield 0, 4, 0, 2, 0, [120]),
  (13, 1, .aload 0, 0, 0, 0, 0, []), (14, 3, .getfield 0, 4, 1, 0, 0, [121]), (17, 1, .iload 0, 1, 0, 0, 0, []), (18, 1, .iastore, 0, 0, 0, 0, []), (19, 1, .aload 0, 0, 0, 0, 0, []), (20, 1, .dup, 0, 0, 0, 0, []),
  (21, 3, .getfield 0, 4, 1, 0, 0, [121]), (24, 1, .iconst 0, 0, 0, 0, 1, []), (25, 1, .iadd, 0, 0, 0, 0, []), (26, 3, .putfield 0, 4, 1, 0, 0, [121]), (29, 1, .return_, 0, 0, 0, 0, [])
  ]
def mc_X4_firstWrong : List mv_E := [
  (0, 1, .aload 0, 1, 0, 0, 0, []), (1, 3, .getfield 0, 1, 0, 2, 0, [361]), (4, 3, .getfield 0, 10, 0, 2, 0, [316]), (7, 1, .astore 0, 2, 0, 0, 0, []), (8, 1, .iconst 0, 0, 0, 0, 0, []), (9, 1, .istore 0, 3, 0, 0, 0, []),
  (10, 1, .iload 0, 3, 0, 0, 0, []), (11, 1, .aload 0, 2, 0, 0, 0, []), (12, 3, .getfield 0, 0, 2, 0, 0, [154]), (15, 3, .if_icmp .ge 0, 74, 0, 0, 0, []), (18, 1, .aload 0, 1, 0, 0, 0, []), (19, 3, .getfield 0, 1, 3, 2, 0, [370]),
  (22, 1, .iload 0, 3, 0, 0, 0, []), (23, 1, .iaload, 0, 0, 0, 0, []), (24, 2, .istore 0, 4, 0, 0, 0, []), (26, 2, .iload 0, 4, 0, 0, 0, []), (28, 1, .iconst 0, 0, 0, 0, (-1), []), (29, 3, .if_icmp .ne 0, 36, 0, 0, 0, []),
  (32, 1, .iconst 0, 0, 0, 0, (-1), []), (33, 3, .goto 0, 40, 0, 0, 0, []), (36, 2, .iload 0, 4, 0, 0, 0, []), (38, 1, .iconst 0, 0, 0, 0, 3, []), (39, 1, .idiv, 0, 0, 0, 0, []), (40, 2, .istore 0, 5, 0, 0, 0, []),
  (42, 1, .iload 0, 3, 0, 0, 0, []), (43, 1, .aload 0, 0, 0, 0, 0, []), (44, 3, .getfield 0, 4, 1, 0, 0, [121]), (47, 3, .if_icmp .ge 0, 61, 0, 0, 0, []), (50, 1, .aload 0, 0, 0, 0, 0, []), (51, 3, .getfield 0, 4, 0, 2, 0, [120]),
  (54, 1, .iload 0, 3, 0, 0, 0, []), (55, 1, .iaload, 0, 0, 0, 0, []), (56, 2, .iload 0, 5, 0, 0, 0, []), (58, 3, .if_icmp .eq 0, 68, 0, 0, 0, []), (61, 1, .aload 0, 2, 0, 0, 0, []), (62, 3, .getfield 0, 0, 5, 2, 0, [166]),
  (65, 1, .iload 0, 3, 0, 0, 0, []), (66, 1, .iaload, 0, 0, 0, 0, []), (67, 1, .ireturn, 0, 0, 0, 0, []), (68, 3, .iinc 0 0, 3, 0, 0, 1, []), (71, 3, .goto 0, 10, 0, 0, 0, []), (74, 1, .aload 0, 0, 0, 0, 0, []),
  (75, 3, .getfield 0, 4, 1, 0, 0, [121]), (78, 1, .aload 0, 2, 0, 0, 0, []), (79, 3, .getfield 0, 0, 2, 0, 0, [154]), (82, 3, .if_icmp .le 0, 90, 0, 0, 0, []), (85, 2, .iconst 0, 0, 0, 0, 99, []), (87, 3, .goto 0, 92, 0, 0, 0, []),
  (90, 2, .iconst 0, 0, 0, 0, (-9), []), (92, 1, .ireturn, 0, 0, 0, 0, [])
  ]
def mc_X5_init : List mv_E := [
  (0, 1, .aload 0, 0, 0, 0, 0, []), (1, 3, .invokespecial 0, 0, 0, 1, 0, [102, 95, 96]), (4, 1, .aload 0, 0, 0, 0, 0, []), (5, 2, .iconst 0, 0, 0, 0, 60, []), (7, 2, .newarray .int, 100, 0, 0, 0, [113]), (9, 3, .putfield 0, 5, 0, 2, 0, [103]),
  (12, 1, .aload 0, 0, 0, 0, 0, []), (13, 1, .iconst 0, 0, 0, 0, 0, []), (14, 3, .putfield 0, 5, 1, 0, 0, [105]), (17, 1, .return_, 0, 0, 0, 0, [])
  ]
def mc_X5_append : List mv_E := [
  (0, 1, .lload 0, 2, 0, 0, 0, []), (1, 2, .lstore 0, 4, 0, 0, 0, []), (3, 1, .iconst 0, 0, 0, 0, 0, []), (4, 2, .istore 0, 6, 0, 0, 0, []), (6, 2, .iload 0, 6, 0, 0, 0, []), (8, 1, .iload 0, 1, 0, 0, 0, []),
  (9, 3, .if_icmp .ge 0, 60, 0, 0, 0, []), (12, 1, .aload 0, 0, 0, 0, 0, []), (13, 3, .getfield 0, 5, 1, 0, 0, [105]), (16, 2, .iconst 0, 0, 0, 0, 60, []), (18, 3, .if_icmp .ge 0, 60, 0, 0, 0, []), (21, 1, .aload 0, 0, 0, 0, 0, []),
  (22, 3, .getfield 0, 5, 0, 2, 0, [103]), (25, 1, .aload 0, 0, 0, 0, 0, []), (26, 3, .getfield 0, 5, 1, 0, 0, [105]), (29, 2, .lload 0, 4, 0, 0, 0, []), (31, 3, .lconst 0, 0, 0, 0, 255, [516]), (34, 1, .land, 0, 0, 0, 0, []),
  (35, 1, .l2i, 0, 0, 0, 0, []), (36, 1, .iastore, 0, 0, 0, 0, []), (37, 1, .aload 0, 0, 0, 0, 0, []), (38, 1, .dup, 0, 0, 0, 0, []), (39, 3, .getfield 0, 5, 1, 0, 0, [105]), (42, 1, .iconst 0, 0, 0, 0, 1, []),
  (43, 1, .iadd, 0, 0, 0, 0, []), (44, 3, .putfield 0, 5, 1, 0, 0, [105]), (47, 2, .lload 0, 4, 0, 0, 0, []), (49, 2, .iconst 0, 0, 0, 0, 8, []), (51, 1, .lushr, 0, 0, 0, 0, []), (52, 2, .lstore 0, 4, 0, 0, 0, []),
  (54, 3, .iinc 0 0, 6, 0, 0, 1, []), (57, 3, .goto 0, 6, 0, 0, 0, []), (60, 1, .return_, 0, 0, 0, 0, [])
  ]
def mc_X5_firstFault : List mv_E := [
  (0, 2, .iconst 0, 0, 0, 0, 8, []), (2, 1, .istore 0, 1, 0, 0, 0, []), (3, 1, .iconst 0, 0, 0, 0, 0, []), (4, 1, .istore 0, 2, 0, 0, 0, []), (5, 1, .iconst 0, 0, 0, 0, 0, []), (6, 1, .istore 0, 3, 0, 0, 0, []),
  (7, 1, .iconst 0, 0, 0, 0, 0, []), (8, 2, .istore 0, 4, 0, 0, 0, []), (10, 2, .iload 0, 4, 0, 0, 0, []), (12, 1, .aload 0, 0, 0, 0, 0, []), (13, 3, .getfield 0, 5, 1, 0, 0, [105]), (16, 3, .if_icmp .ge 0, 95, 0, 0, 0, []),
  (19, 1, .aload 0, 0, 0, 0, 0, []), (20, 3, .getfield 0, 5, 0, 2, 0, [103]), (23, 2, .iload 0, 4, 0, 0, 0, []), (25, 1, .iaload, 0, 0, 0, 0, []), (26, 2, .iconst 0, 0, 0, 0, 47, []), (28, 3, .if_icmp .ne 0, 65, 0, 0, 0, []),
  (31, 1, .iload 0, 3, 0, 0, 0, []), (32, 3, .ifCond .eq 0, 52, 0, 0, 0, []), (35, 1, .iload 0, 2, 0, 0, 0, []), (36, 3, .ifCond .le 0, 44, 0, 0, 0, []), (39, 1, .iload 0, 3, 0, 0, 0, []), (40, 1, .iload 0, 1, 0, 0, 0, []),
  (41, 3, .if_icmp .lt 0, 52, 0, 0, 0, []), (44, 1, .iload 0, 2, 0, 0, 0, []), (45, 1, .iconst 0, 0, 0, 0, 1, []), (46, 1, .iadd, 0, 0, 0, 0, []), (47, 2, .iconst 0, 0, 0, 0, 6, []), (49, 3, .if_icmp .ne 0, 55, 0, 0, 0, []),
  (52, 2, .iload 0, 4, 0, 0, 0, []), (54, 1, .ireturn, 0, 0, 0, 0, []), (55, 1, .iload 0, 3, 0, 0, 0, []), (56, 1, .istore 0, 1, 0, 0, 0, []), (57, 3, .iinc 0 0, 2, 0, 0, 1, []), (60, 1, .iconst 0, 0, 0, 0, 0, []),
  (61, 1, .istore 0, 3, 0, 0, 0, []), (62, 3, .goto 0, 89, 0, 0, 0, []), (65, 1, .aload 0, 0, 0, 0, 0, []), (66, 3, .getfield 0, 5, 0, 2, 0, [103]), (69, 2, .iload 0, 4, 0, 0, 0, []), (71, 1, .iaload, 0, 0, 0, 0, []),
  (72, 3, .invokestatic 0, 48, 1, 1, 1, [525, 526, 75]), (75, 3, .ifCond .eq 0, 83, 0, 0, 0, []), (78, 1, .iload 0, 3, 0, 0, 0, []), (79, 1, .iload 0, 1, 0, 0, 0, []), (80, 3, .if_icmp .ne 0, 86, 0, 0, 0, []), (83, 2, .iload 0, 4, 0, 0, 0, []),
  (85, 1, .ireturn, 0, 0, 0, 0, []), (86, 3, .iinc 0 0, 3, 0, 0, 1, []), (89, 3, .iinc 0 0, 4, 0, 0, 1, []), (92, 3, .goto 0, 10, 0, 0, 0, []), (95, 1, .iload 0, 3, 0, 0, 0, []), (96, 3, .ifCond .eq 0, 108, 0, 0, 0, []),
  (99, 1, .iload 0, 2, 0, 0, 0, []), (100, 3, .ifCond .le 0, 115, 0, 0, 0, []), (103, 1, .iload 0, 3, 0, 0, 0, []), (104, 1, .iload 0, 1, 0, 0, 0, []), (105, 3, .if_icmp .ge 0, 115, 0, 0, 0, []), (108, 1, .aload 0, 0, 0, 0, 0, []),
  (109, 3, .getfield 0, 5, 1, 0, 0, [105]), (112, 3, .goto 0, 116, 0, 0, 0, []), (115, 1, .iconst 0, 0, 0, 0, (-1), []), (116, 1, .ireturn, 0, 0, 0, 0, [])
  ]
def mc_X5_isDigit : List mv_E := [
  (0, 1, .iload 0, 0, 0, 0, 0, []), (1, 2, .iconst 0, 0, 0, 0, 48, []), (3, 3, .if_icmp .lt 0, 16, 0, 0, 0, []), (6, 1, .iload 0, 0, 0, 0, 0, []), (7, 2, .iconst 0, 0, 0, 0, 57, []), (9, 3, .if_icmp .gt 0, 16, 0, 0, 0, []),
  (12, 1, .iconst 0, 0, 0, 0, 1, []), (13, 3, .goto 0, 17, 0, 0, 0, []), (16, 1, .iconst 0, 0, 0, 0, 0, []), (17, 1, .ireturn, 1, 0, 0, 0, [])
  ]
def mc_X6_init : List mv_E := [
  (0, 1, .aload 0, 0, 0, 0, 0, []), (1, 3, .invokespecial 0, 0, 0, 1, 0, [402, 95, 96]), (4, 1, .aload 0, 0, 0, 0, 0, []), (5, 2, .iconst 0, 0, 0, 0, 48, []), (7, 2, .newarray .int, 100, 0, 0, 0, [113]), (9, 3, .putfield 0, 6, 0, 2, 0, [403]),
  (12, 1, .aload 0, 0, 0, 0, 0, []), (13, 2, .iconst 0, 0, 0, 0, 48, []), (15, 2, .newarray .int, 100, 0, 0, 0, [113]), (17, 3, .putfield 0, 6, 1, 2, 0, [404]), (20, 1, .aload 0, 0, 0, 0, 0, []), (21, 2, .iconst 0, 0, 0, 0, 18, []),
  (23, 2, .newarray .int, 100, 0, 0, 0, [113]), (25, 3, .putfield 0, 6, 2, 2, 0, [405]), (28, 1, .aload 0, 0, 0, 0, 0, []), (29, 3, .iconst 0, 0, 0, 0, 864, []), (32, 2, .newarray .long, 101, 0, 0, 0, [394]), (34, 3, .putfield 0, 6, 3, 2, 0, [406]),
  (37, 1, .return_, 0, 0, 0, 0, [])
  ]
def mc_X6_clearingPrice : List mv_E := [
  (0, 1, .aload 0, 1, 0, 0, 0, []), (1, 3, .getfield 0, 1, 0, 2, 0, [360]), (4, 3, .getfield 0, 10, 0, 2, 0, [315]), (7, 1, .astore 0, 3, 0, 0, 0, []), (8, 1, .aload 0, 1, 0, 0, 0, []), (9, 3, .getfield 0, 1, 0, 2, 0, [360]),
  (12, 3, .getfield 0, 10, 1, 2, 0, [320]), (15, 2, .astore 0, 4, 0, 0, 0, []), (17, 1, .iconst 0, 0, 0, 0, 0, []), (18, 2, .istore 0, 5, 0, 0, 0, []), (20, 2, .iload 0, 5, 0, 0, 0, []), (22, 1, .aload 0, 3, 0, 0, 0, []),
  (23, 3, .getfield 0, 0, 2, 0, 0, [153]), (26, 3, .if_icmp .ge 0, 72, 0, 0, 0, []), (29, 1, .aload 0, 0, 0, 0, 0, []), (30, 3, .getfield 0, 6, 1, 2, 0, [404]), (33, 2, .iload 0, 5, 0, 0, 0, []), (35, 2, .aload 0, 4, 0, 0, 0, []),
  (37, 1, .iload 0, 2, 0, 0, 0, []), (38, 1, .iconst 0, 0, 0, 0, 3, []), (39, 1, .idiv, 0, 0, 0, 0, []), (40, 1, .aload 0, 3, 0, 0, 0, []), (41, 3, .getfield 0, 0, 6, 2, 0, [168]), (44, 2, .iload 0, 5, 0, 0, 0, []),
  (46, 1, .iaload, 0, 0, 0, 0, []), (47, 3, .invokevirtual 0, 61, 3, 7, 1, [761, 630, 631, 80]), (50, 1, .iastore, 0, 0, 0, 0, []), (51, 1, .aload 0, 0, 0, 0, 0, []), (52, 3, .getfield 0, 6, 0, 2, 0, [403]), (55, 2, .iload 0, 5, 0, 0, 0, []),
  (57, 1, .aload 0, 0, 0, 0, 0, []), (58, 1, .aload 0, 1, 0, 0, 0, []), (59, 1, .iload 0, 2, 0, 0, 0, []), (60, 2, .iload 0, 5, 0, 0, 0, []), (62, 3, .invokevirtual 0, 52, 4, 6, 1, [762, 764, 9, 83]), (65, 1, .iastore, 0, 0, 0, 0, []),
  (66, 3, .iinc 0 0, 5, 0, 0, 1, []), (69, 3, .goto 0, 20, 0, 0, 0, []), (72, 1, .iconst 0, 0, 0, 0, (-1), []), (73, 2, .istore 0, 5, 0, 0, 0, []), (75, 3, .iconst 0, 0, 0, 0, 512, []), (78, 2, .istore 0, 6, 0, 0, 0, []),
  (80, 2, .iload 0, 6, 0, 0, 0, []), (82, 3, .ifCond .le 0, 134, 0, 0, 0, []), (85, 2, .iload 0, 5, 0, 0, 0, []), (87, 2, .iload 0, 6, 0, 0, 0, []), (89, 1, .iadd, 0, 0, 0, 0, []), (90, 2, .istore 0, 7, 0, 0, 0, []),
  (92, 2, .iload 0, 7, 0, 0, 0, []), (94, 3, .iconst 0, 0, 0, 0, 999, []), (97, 3, .if_icmp .gt 0, 125, 0, 0, 0, []), (100, 1, .aload 0, 0, 0, 0, 0, []), (101, 2, .iload 0, 7, 0, 0, 0, []), (103, 1, .aload 0, 3, 0, 0, 0, []),
  (104, 3, .getfield 0, 0, 2, 0, 0, [153]), (107, 3, .invokevirtual 0, 51, 3, 6, 1, [780, 782, 10, 83]), (110, 2, .aload 0, 4, 0, 0, 0, []), (112, 1, .iload 0, 2, 0, 0, 0, []), (113, 2, .iload 0, 7, 0, 0, 0, []), (115, 3, .invokevirtual 0, 66, 3, 7, 1, [784, 750, 751, 80]),
  (118, 3, .if_icmp .ge 0, 125, 0, 0, 0, []), (121, 2, .iload 0, 7, 0, 0, 0, []), (123, 2, .istore 0, 5, 0, 0, 0, []), (125, 2, .iload 0, 6, 0, 0, 0, []), (127, 1, .iconst 0, 0, 0, 0, 2, []), (128, 1, .idiv, 0, 0, 0, 0, []),
  (129, 2, .istore 0, 6, 0, 0, 0, []), (131, 3, .goto 0, 80, 0, 0, 0, []), (134, 2, .iload 0, 5, 0, 0, 0, []), (136, 3, .iconst 0, 0, 0, 0, 999, []), (139, 3, .if_icmp .ne 0, 147, 0, 0, 0, []), (142, 2, .iconst 0, 0, 0, 0, (-9), []),
  (144, 3, .goto 0, 151, 0, 0, 0, []), (147, 2, .iload 0, 5, 0, 0, 0, []), (149, 1, .iconst 0, 0, 0, 0, 1, []), (150, 1, .iadd, 0, 0, 0, 0, []), (151, 1, .ireturn, 0, 0, 0, 0, [])
  ]
def mc_X6_comingAt : List mv_E := [
  (0, 1, .iconst 0, 0, 0, 0, 0, []), (1, 1, .istore 0, 3, 0, 0, 0, []), (2, 1, .iconst 0, 0, 0, 0, 0, []), (3, 2, .istore 0, 4, 0, 0, 0, []), (5, 2, .iload 0, 4, 0, 0, 0, []), (7, 1, .iload 0, 2, 0, 0, 0, []),
  (8, 3, .if_icmp .ge 0, 38, 0, 0, 0, []), (11, 1, .aload 0, 0, 0, 0, 0, []), (12, 3, .getfield 0, 6, 0, 2, 0, [403]), (15, 2, .iload 0, 4, 0, 0, 0, []), (17, 1, .iaload, 0, 0, 0, 0, []), (18, 1, .iload 0, 1, 0, 0, 0, []),
  (19, 3, .if_icmp .gt 0, 32, 0, 0, 0, []), (22, 1, .iload 0, 3, 0, 0, 0, []), (23, 1, .aload 0, 0, 0, 0, 0, []), (24, 3, .getfield 0, 6, 1, 2, 0, [404]), (27, 2, .iload 0, 4, 0, 0, 0, []), (29, 1, .iaload, 0, 0, 0, 0, []),
  (30, 1, .iadd, 0, 0, 0, 0, []), (31, 1, .istore 0, 3, 0, 0, 0, []), (32, 3, .iinc 0 0, 4, 0, 0, 1, []), (35, 3, .goto 0, 5, 0, 0, 0, []), (38, 1, .iload 0, 3, 0, 0, 0, []), (39, 1, .ireturn, 0, 0, 0, 0, [])
  ]
def mc_X6_leastPriceFor : List mv_E := [
  (0, 1, .aload 0, 1, 0, 0, 0, []), (1, 3, .getfield 0, 1, 0, 2, 0, [360]), (4, 3, .getfield 0, 10, 1, 2, 0, [320]), (7, 2, .astore 0, 4, 0, 0, 0, []), (9, 1, .aload 0, 1, 0, 0, 0, []), (10, 1, .iload 0, 2, 0, 0, 0, []),
  (11, 1, .iload 0, 3, 0, 0, 0, []), (12, 3, .invokevirtual 0, 17, 3, 1, 1, [766, 618, 619, 77]), (15, 2, .istore 0, 5, 0, 0, 0, []), (17, 1, .aload 0, 1, 0, 0, 0, []), (18, 3, .getfield 0, 1, 0, 2, 0, [360]), (21, 3, .getfield 0, 10, 0, 2, 0, [315]),
  (24, 3, .getfield 0, 0, 9, 2, 0, [179]), (27, 1, .iload 0, 3, 0, 0, 0, []), (28, 1, .iaload, 0, 0, 0, 0, []), (29, 3, .ifCond .ne 0, 54, 0, 0, 0, []), (32, 1, .aload 0, 0, 0, 0, 0, []), (33, 3, .getfield 0, 6, 1, 2, 0, [404]),
  (36, 1, .iload 0, 3, 0, 0, 0, []), (37, 1, .iaload, 0, 0, 0, 0, []), (38, 3, .ifCond .le 0, 54, 0, 0, 0, []), (41, 2, .aload 0, 4, 0, 0, 0, []), (43, 1, .iload 0, 2, 0, 0, 0, []), (44, 1, .iconst 0, 0, 0, 0, 3, []),
  (45, 1, .idiv, 0, 0, 0, 0, []), (46, 2, .iload 0, 5, 0, 0, 0, []), (48, 3, .invokevirtual 0, 65, 3, 7, 1, [767, 622, 623, 80]), (51, 3, .ifCond .ne 0, 58, 0, 0, 0, []), (54, 3, .iconst 0, 0, 0, 0, 1000, []), (57, 1, .ireturn, 0, 0, 0, 0, []),
  (58, 1, .aload 0, 1, 0, 0, 0, []), (59, 1, .iload 0, 3, 0, 0, 0, []), (60, 1, .iload 0, 2, 0, 0, 0, []), (61, 3, .invokevirtual 0, 19, 3, 1, 1, [768, 647, 648, 77]), (64, 2, .istore 0, 6, 0, 0, 0, []), (66, 1, .lconst 0, 0, 0, 0, 1, []),
  (67, 2, .lstore 0, 7, 0, 0, 0, []), (69, 2, .iload 0, 6, 0, 0, 0, []), (71, 1, .iconst 0, 0, 0, 0, (-1), []), (72, 3, .if_icmp .eq 0, 102, 0, 0, 0, []), (75, 1, .aload 0, 1, 0, 0, 0, []), (76, 3, .getfield 0, 1, 2, 2, 0, [367]),
  (79, 2, .iload 0, 6, 0, 0, 0, []), (81, 2, .iconst 0, 0, 0, 0, 48, []), (83, 1, .imul, 0, 0, 0, 0, []), (84, 1, .iload 0, 3, 0, 0, 0, []), (85, 1, .iadd, 0, 0, 0, 0, []), (86, 1, .laload, 0, 0, 0, 0, []),
  (87, 2, .iload 0, 6, 0, 0, 0, []), (89, 1, .iload 0, 2, 0, 0, 0, []), (90, 3, .if_icmp .ge 0, 97, 0, 0, 0, []), (93, 1, .iconst 0, 0, 0, 0, 1, []), (94, 3, .goto 0, 98, 0, 0, 0, []), (97, 1, .iconst 0, 0, 0, 0, 0, []),
  (98, 1, .i2l, 0, 0, 0, 0, []), (99, 1, .ladd, 0, 0, 0, 0, []), (100, 2, .lstore 0, 7, 0, 0, 0, []), (102, 2, .lload 0, 7, 0, 0, 0, []), (104, 1, .aload 0, 1, 0, 0, 0, []), (105, 3, .getfield 0, 1, 2, 2, 0, [367]),
  (108, 1, .iload 0, 2, 0, 0, 0, []), (109, 2, .iconst 0, 0, 0, 0, 48, []), (111, 1, .imul, 0, 0, 0, 0, []), (112, 1, .iload 0, 3, 0, 0, 0, []), (113, 1, .iadd, 0, 0, 0, 0, []), (114, 1, .laload, 0, 0, 0, 0, []),
  (115, 1, .lsub, 0, 0, 0, 0, []), (116, 2, .lstore 0, 9, 0, 0, 0, []), (118, 2, .aload 0, 4, 0, 0, 0, []), (120, 3, .getfield 0, 7, 10, 2, 0, [247]), (123, 1, .iload 0, 2, 0, 0, 0, []), (124, 1, .iaload, 0, 0, 0, 0, []),
  (125, 1, .i2l, 0, 0, 0, 0, []), (126, 2, .lload 0, 9, 0, 0, 0, []), (128, 1, .lneg, 0, 0, 0, 0, []), (129, 3, .lconst 0, 0, 0, 0, 100, [769]), (132, 1, .aload 0, 0, 0, 0, 0, []), (133, 3, .getfield 0, 6, 1, 2, 0, [404]),
  (136, 1, .iload 0, 3, 0, 0, 0, []), (137, 1, .iaload, 0, 0, 0, 0, []), (138, 1, .i2l, 0, 0, 0, 0, []), (139, 1, .lmul, 0, 0, 0, 0, []), (140, 3, .invokestatic 0, 222, 2, 1, 2, [770, 771, 87]), (143, 1, .lsub, 0, 0, 0, 0, []),
  (144, 2, .lstore 0, 11, 0, 0, 0, []), (146, 1, .lconst 0, 0, 0, 0, 0, []), (147, 3, .lconst 0, 0, 0, 0, 1000, [773]), (150, 2, .lload 0, 11, 0, 0, 0, []), (152, 3, .invokestatic 0, 225, 2, 1, 2, [774, 775, 87]), (155, 3, .invokestatic 0, 224, 2, 1, 2, [777, 778, 87]),
  (158, 1, .l2i, 0, 0, 0, 0, []), (159, 1, .ireturn, 0, 0, 0, 0, [])
  ]
def mc_X6_runRounds : List mv_E := [
  (0, 1, .iconst 0, 0, 0, 0, 1, []), (1, 1, .istore 0, 3, 0, 0, 0, []), (2, 1, .iload 0, 3, 0, 0, 0, []), (3, 1, .iload 0, 2, 0, 0, 0, []), (4, 3, .if_icmp .gt 0, 23, 0, 0, 0, []), (7, 1, .aload 0, 0, 0, 0, 0, []),
  (8, 1, .aload 0, 1, 0, 0, 0, []), (9, 3, .invokevirtual 0, 54, 2, 6, 1, [793, 795, 11, 83]), (12, 3, .ifCond .ne 0, 17, 0, 0, 0, []), (15, 1, .iload 0, 3, 0, 0, 0, []), (16, 1, .ireturn, 0, 0, 0, 0, []), (17, 3, .iinc 0 0, 3, 0, 0, 1, []),
  (20, 3, .goto 0, 2, 0, 0, 0, []), (23, 1, .iload 0, 2, 0, 0, 0, []), (24, 1, .ireturn, 0, 0, 0, 0, [])
  ]
def mc_X6_runRound : List mv_E := [
  (0, 1, .aload 0, 1, 0, 0, 0, []), (1, 3, .getfield 0, 1, 0, 2, 0, [360]), (4, 3, .getfield 0, 10, 1, 2, 0, [320]), (7, 1, .astore 0, 2, 0, 0, 0, []), (8, 1, .iconst 0, 0, 0, 0, 0, []), (9, 1, .istore 0, 3, 0, 0, 0, []),
  (10, 1, .iconst 0, 0, 0, 0, 0, []), (11, 2, .istore 0, 4, 0, 0, 0, []), (13, 2, .iload 0, 4, 0, 0, 0, []), (15, 1, .aload 0, 2, 0, 0, 0, []), (16, 3, .getfield 0, 7, 0, 0, 0, [226]), (19, 1, .iconst 0, 0, 0, 0, 3, []),
  (20, 1, .imul, 0, 0, 0, 0, []), (21, 3, .if_icmp .ge 0, 102, 0, 0, 0, []), (24, 1, .aload 0, 2, 0, 0, 0, []), (25, 3, .getfield 0, 7, 11, 2, 0, [250]), (28, 2, .iload 0, 4, 0, 0, 0, []), (30, 1, .iaload, 0, 0, 0, 0, []),
  (31, 3, .ifCond .le 0, 96, 0, 0, 0, []), (34, 2, .iload 0, 4, 0, 0, 0, []), (36, 1, .iconst 0, 0, 0, 0, 3, []), (37, 1, .irem, 0, 0, 0, 0, []), (38, 1, .aload 0, 1, 0, 0, 0, []), (39, 3, .getfield 0, 1, 0, 2, 0, [360]),
  (42, 3, .getfield 0, 10, 0, 2, 0, [315]), (45, 3, .getfield 0, 0, 4, 0, 0, [163]), (48, 3, .if_icmp .ge 0, 96, 0, 0, 0, []), (51, 1, .aload 0, 0, 0, 0, 0, []), (52, 1, .aload 0, 1, 0, 0, 0, []), (53, 2, .iload 0, 4, 0, 0, 0, []),
  (55, 3, .invokevirtual 0, 50, 3, 6, 1, [797, 758, 759, 83]), (58, 2, .istore 0, 5, 0, 0, 0, []), (60, 2, .iload 0, 5, 0, 0, 0, []), (62, 2, .iconst 0, 0, 0, 0, (-9), []), (64, 3, .if_icmp .eq 0, 96, 0, 0, 0, []), (67, 2, .iload 0, 5, 0, 0, 0, []),
  (69, 1, .aload 0, 2, 0, 0, 0, []), (70, 3, .getfield 0, 7, 10, 2, 0, [247]), (73, 2, .iload 0, 4, 0, 0, 0, []), (75, 1, .iaload, 0, 0, 0, 0, []), (76, 3, .if_icmp .eq 0, 96, 0, 0, 0, []), (79, 1, .aload 0, 2, 0, 0, 0, []),
  (80, 3, .getfield 0, 7, 10, 2, 0, [247]), (83, 2, .iload 0, 4, 0, 0, 0, []), (85, 2, .iload 0, 5, 0, 0, 0, []), (87, 1, .iastore, 0, 0, 0, 0, []), (88, 1, .aload 0, 1, 0, 0, 0, []), (89, 2, .iload 0, 4, 0, 0, 0, []),
  (91, 3, .invokevirtual 0, 16, 2, 1, 0, [798, 614, 615, 77]), (94, 1, .iconst 0, 0, 0, 0, 1, []), (95, 1, .istore 0, 3, 0, 0, 0, []), (96, 3, .iinc 0 0, 4, 0, 0, 1, []), (99, 3, .goto 0, 13, 0, 0, 0, []), (102, 1, .iload 0, 3, 0, 0, 0, []),
  (103, 1, .ireturn, 1, 0, 0, 0, [])
  ]
def mc_X6_bestToHold : List mv_E := [
  (0, 1, .aload 0, 1, 0, 0, 0, []), (1, 3, .getfield 0, 1, 0, 2, 0, [360]), (4, 3, .getfield 0, 10, 0, 2, 0, [315]), (7, 1, .astore 0, 3, 0, 0, 0, []), (8, 1, .aload 0, 1, 0, 0, 0, []), (9, 3, .getfield 0, 1, 0, 2, 0, [360]),
  (12, 3, .getfield 0, 10, 1, 2, 0, [320]), (15, 3, .getfield 0, 7, 10, 2, 0, [247]), (18, 1, .iconst 0, 0, 0, 0, 0, []), (19, 1, .aload 0, 0, 0, 0, 0, []), (20, 3, .getfield 0, 6, 2, 2, 0, [405]), (23, 1, .iconst 0, 0, 0, 0, 0, []),
  (24, 2, .iconst 0, 0, 0, 0, 18, []), (26, 3, .invokestatic 0, 0, 0, 100, 0, [966, 968, 967, 88]), (29, 1, .aload 0, 1, 0, 0, 0, []), (30, 3, .getfield 0, 1, 2, 2, 0, [367]), (33, 1, .iconst 0, 0, 0, 0, 0, []), (34, 1, .aload 0, 0, 0, 0, 0, []),
  (35, 3, .getfield 0, 6, 3, 2, 0, [406]), (38, 1, .iconst 0, 0, 0, 0, 0, []), (39, 3, .iconst 0, 0, 0, 0, 864, []), (42, 3, .invokestatic 0, 0, 0, 101, 0, [966, 968, 967, 88]), (45, 1, .aload 0, 0, 0, 0, 0, []), (46, 1, .aload 0, 1, 0, 0, 0, []),
  (47, 1, .iload 0, 2, 0, 0, 0, []), (48, 3, .invokevirtual 0, 56, 3, 6, 2, [969, 971, 25, 83]), (51, 2, .lstore 0, 4, 0, 0, 0, []), (53, 2, .iconst 0, 0, 0, 0, (-9), []), (55, 2, .istore 0, 6, 0, 0, 0, []), (57, 1, .iconst 0, 0, 0, 0, 0, []),
  (58, 2, .istore 0, 7, 0, 0, 0, []), (60, 2, .iload 0, 7, 0, 0, 0, []), (62, 2, .iconst 0, 0, 0, 0, 10, []), (64, 1, .aload 0, 3, 0, 0, 0, []), (65, 3, .getfield 0, 0, 0, 0, 0, [147]), (68, 1, .imul, 0, 0, 0, 0, []),
  (69, 3, .if_icmp .ge 0, 154, 0, 0, 0, []), (72, 1, .aload 0, 3, 0, 0, 0, []), (73, 2, .iload 0, 7, 0, 0, 0, []), (75, 3, .invokevirtual 0, 4, 2, 0, 1, [977, 545, 546, 79]), (78, 2, .istore 0, 8, 0, 0, 0, []), (80, 2, .iload 0, 8, 0, 0, 0, []),
  (82, 1, .iconst 0, 0, 0, 0, (-1), []), (83, 3, .if_icmp .eq 0, 148, 0, 0, 0, []), (86, 1, .aload 0, 3, 0, 0, 0, []), (87, 3, .getfield 0, 0, 8, 2, 0, [176]), (90, 2, .iload 0, 8, 0, 0, 0, []), (92, 1, .iaload, 0, 0, 0, 0, []),
  (93, 1, .iload 0, 2, 0, 0, 0, []), (94, 3, .if_icmp .ne 0, 148, 0, 0, 0, []), (97, 1, .aload 0, 1, 0, 0, 0, []), (98, 3, .getfield 0, 1, 3, 2, 0, [371]), (101, 2, .iload 0, 8, 0, 0, 0, []), (103, 1, .iaload, 0, 0, 0, 0, []),
  (104, 1, .iconst 0, 0, 0, 0, (-1), []), (105, 3, .if_icmp .eq 0, 148, 0, 0, 0, []), (108, 1, .aload 0, 3, 0, 0, 0, []), (109, 3, .getfield 0, 0, 9, 2, 0, [179]), (112, 2, .iload 0, 8, 0, 0, 0, []), (114, 1, .iconst 0, 0, 0, 0, 1, []),
  (115, 1, .iastore, 0, 0, 0, 0, []), (116, 1, .aload 0, 0, 0, 0, 0, []), (117, 1, .aload 0, 1, 0, 0, 0, []), (118, 1, .iload 0, 2, 0, 0, 0, []), (119, 3, .invokevirtual 0, 56, 3, 6, 2, [969, 971, 25, 83]), (122, 2, .lstore 0, 9, 0, 0, 0, []),
  (124, 1, .aload 0, 3, 0, 0, 0, []), (125, 3, .getfield 0, 0, 9, 2, 0, [179]), (128, 2, .iload 0, 8, 0, 0, 0, []), (130, 1, .iconst 0, 0, 0, 0, 0, []), (131, 1, .iastore, 0, 0, 0, 0, []), (132, 2, .lload 0, 9, 0, 0, 0, []),
  (134, 2, .lload 0, 4, 0, 0, 0, []), (136, 1, .lcmp, 0, 0, 0, 0, []), (137, 3, .ifCond .le 0, 148, 0, 0, 0, []), (140, 2, .lload 0, 9, 0, 0, 0, []), (142, 2, .lstore 0, 4, 0, 0, 0, []), (144, 2, .iload 0, 7, 0, 0, 0, []),
  (146, 2, .istore 0, 6, 0, 0, 0, []), (148, 3, .iinc 0 0, 7, 0, 0, 1, []), (151, 3, .goto 0, 60, 0, 0, 0, []), (154, 2, .iload 0, 6, 0, 0, 0, []), (156, 1, .ireturn, 0, 0, 0, 0, [])
  ]
def mc_X6_rentsAfterRound : List mv_E := [
  (0, 1, .aload 0, 0, 0, 0, 0, []), (1, 1, .aload 0, 1, 0, 0, 0, []), (2, 3, .invokevirtual 0, 54, 2, 6, 1, [793, 795, 11, 83]), (5, 1, .pop, 0, 0, 0, 0, []), (6, 1, .aload 0, 1, 0, 0, 0, []), (7, 1, .iload 0, 2, 0, 0, 0, []),
  (8, 3, .invokevirtual 0, 23, 2, 1, 2, [973, 974, 975, 77]), (11, 1, .lstore 0, 3, 0, 0, 0, []), (12, 1, .aload 0, 0, 0, 0, 0, []), (13, 3, .getfield 0, 6, 2, 2, 0, [405]), (16, 1, .iconst 0, 0, 0, 0, 0, []), (17, 1, .aload 0, 1, 0, 0, 0, []),
  (18, 3, .getfield 0, 1, 0, 2, 0, [360]), (21, 3, .getfield 0, 10, 1, 2, 0, [320]), (24, 3, .getfield 0, 7, 10, 2, 0, [247]), (27, 1, .iconst 0, 0, 0, 0, 0, []), (28, 2, .iconst 0, 0, 0, 0, 18, []), (30, 3, .invokestatic 0, 0, 0, 100, 0, [966, 968, 967, 88]),
  (33, 1, .aload 0, 0, 0, 0, 0, []), (34, 3, .getfield 0, 6, 3, 2, 0, [406]), (37, 1, .iconst 0, 0, 0, 0, 0, []), (38, 1, .aload 0, 1, 0, 0, 0, []), (39, 3, .getfield 0, 1, 2, 2, 0, [367]), (42, 1, .iconst 0, 0, 0, 0, 0, []),
  (43, 3, .iconst 0, 0, 0, 0, 864, []), (46, 3, .invokestatic 0, 0, 0, 101, 0, [966, 968, 967, 88]), (49, 1, .lload 0, 3, 0, 0, 0, []), (50, 1, .lreturn, 0, 0, 0, 0, [])
  ]
def mc_X7_init : List mv_E := [
  (0, 1, .aload 0, 0, 0, 0, 0, []), (1, 3, .invokespecial 0, 0, 0, 1, 0, [222, 95, 96]), (4, 1, .aload 0, 0, 0, 0, 0, []), (5, 1, .iconst 0, 0, 0, 0, 0, []), (6, 3, .putfield 0, 7, 0, 0, 0, [223]), (9, 1, .aload 0, 0, 0, 0, 0, []),
  (10, 1, .iconst 0, 0, 0, 0, 0, []), (11, 3, .putfield 0, 7, 1, 0, 0, [228]), (14, 1, .aload 0, 0, 0, 0, 0, []), (15, 2, .iconst 0, 0, 0, 0, 6, []), (17, 2, .newarray .int, 100, 0, 0, 0, [113]), (19, 3, .putfield 0, 7, 2, 2, 0, [231]),
  (22, 1, .aload 0, 0, 0, 0, 0, []), (23, 2, .iconst 0, 0, 0, 0, 6, []), (25, 2, .newarray .int, 100, 0, 0, 0, [113]), (27, 3, .putfield 0, 7, 3, 2, 0, [235]), (30, 1, .aload 0, 0, 0, 0, 0, []), (31, 2, .iconst 0, 0, 0, 0, 6, []),
  (33, 2, .newarray .int, 100, 0, 0, 0, [113]), (35, 3, .putfield 0, 7, 4, 2, 0, [236]), (38, 1, .aload 0, 0, 0, 0, 0, []), (39, 2, .iconst 0, 0, 0, 0, 6, []), (41, 2, .newarray .int, 100, 0, 0, 0, [113]), (43, 3, .putfield 0, 7, 5, 2, 0, [237]),
  (46, 1, .aload 0, 0, 0, 0, 0, []), (47, 2, .iconst 0, 0, 0, 0, 6, []), (49, 2, .newarray .int, 100, 0, 0, 0, [113]), (51, 3, .putfield 0, 7, 6, 2, 0, [238]), (54, 1, .aload 0, 0, 0, 0, 0, []), (55, 2, .iconst 0, 0, 0, 0, 6, []),
  (57, 2, .newarray .int, 100, 0, 0, 0, [113]), (59, 3, .putfield 0, 7, 7, 2, 0, [239]), (62, 1, .aload 0, 0, 0, 0, 0, []), (63, 2, .iconst 0, 0, 0, 0, 6, []), (65, 2, .newarray .int, 100, 0, 0, 0, [113]), (67, 3, .putfield 0, 7, 8, 2, 0, [242]),
  (70, 1, .aload 0, 0, 0, 0, 0, []), (71, 2, .iconst 0, 0, 0, 0, 6, []), (73, 2, .newarray .int, 100, 0, 0, 0, [113]), (75, 3, .putfield 0, 7, 9, 2, 0, [244]), (78, 1, .aload 0, 0, 0, 0, 0, []), (79, 2, .iconst 0, 0, 0, 0, 18, []),
  (81, 2, .newarray .int, 100, 0, 0, 0, [113]), (83, 3, .putfield 0, 7, 10, 2, 0, [246]), (86, 1, .aload 0, 0, 0, 0, 0, []), (87, 2, .iconst 0, 0, 0, 0, 18, []), (89, 2, .newarray .int, 100, 0, 0, 0, [113]), (91, 3, .putfield 0, 7, 11, 2, 0, [249]),
  (94, 1, .aload 0, 0, 0, 0, 0, []), (95, 2, .iconst 0, 0, 0, 0, 108, []), (97, 2, .newarray .int, 100, 0, 0, 0, [113]), (99, 3, .putfield 0, 7, 12, 2, 0, [252]), (102, 1, .aload 0, 0, 0, 0, 0, []), (103, 2, .iconst 0, 0, 0, 0, 108, []),
  (105, 2, .newarray .int, 100, 0, 0, 0, [113]), (107, 3, .putfield 0, 7, 13, 2, 0, [253]), (110, 1, .return_, 0, 0, 0, 0, [])
  ]
def mc_X7_append : List mv_E := [
  (0, 1, .aload 0, 0, 0, 0, 0, []), (1, 3, .getfield 0, 7, 0, 0, 0, [223]), (4, 2, .istore 0, 6, 0, 0, 0, []), (6, 2, .iload 0, 6, 0, 0, 0, []), (8, 2, .iconst 0, 0, 0, 0, 6, []), (10, 3, .if_icmp .lt 0, 16, 0, 0, 0, []),
  (13, 2, .iconst 0, 0, 0, 0, (-9), []), (15, 1, .ireturn, 0, 0, 0, 0, []), (16, 1, .aload 0, 0, 0, 0, 0, []), (17, 3, .getfield 0, 7, 2, 2, 0, [231]), (20, 2, .iload 0, 6, 0, 0, 0, []), (22, 1, .iload 0, 1, 0, 0, 0, []),
  (23, 1, .iastore, 0, 0, 0, 0, []), (24, 1, .aload 0, 0, 0, 0, 0, []), (25, 3, .getfield 0, 7, 3, 2, 0, [235]), (28, 2, .iload 0, 6, 0, 0, 0, []), (30, 1, .iload 0, 2, 0, 0, 0, []), (31, 1, .iastore, 0, 0, 0, 0, []),
  (32, 1, .aload 0, 0, 0, 0, 0, []), (33, 3, .getfield 0, 7, 4, 2, 0, [236]), (36, 2, .iload 0, 6, 0, 0, 0, []), (38, 1, .iload 0, 3, 0, 0, 0, []), (39, 1, .iastore, 0, 0, 0, 0, []), (40, 1, .aload 0, 0, 0, 0, 0, []),
  (41, 3, .getfield 0, 7, 5, 2, 0, [237]), (44, 2, .iload 0, 6, 0, 0, 0, []), (46, 2, .iload 0, 4, 0, 0, 0, []), (48, 1, .iastore, 0, 0, 0, 0, []), (49, 1, .aload 0, 0, 0, 0, 0, []), (50, 3, .getfield 0, 7, 6, 2, 0, [238]),
  (53, 2, .iload 0, 6, 0, 0, 0, []), (55, 2, .iload 0, 5, 0, 0, 0, []), (57, 1, .iastore, 0, 0, 0, 0, []), (58, 1, .aload 0, 0, 0, 0, 0, []), (59, 2, .iload 0, 6, 0, 0, 0, []), (61, 1, .iconst 0, 0, 0, 0, 1, []),
  (62, 1, .iadd, 0, 0, 0, 0, []), (63, 3, .putfield 0, 7, 0, 0, 0, [223]), (66, 2, .iload 0, 6, 0, 0, 0, []), (68, 1, .ireturn, 0, 0, 0, 0, [])
  ]
def mc_X7_appendPiece : List mv_E := [
  (0, 1, .aload 0, 0, 0, 0, 0, []), (1, 3, .getfield 0, 7, 11, 2, 0, [249]), (4, 1, .iload 0, 1, 0, 0, 0, []), (5, 1, .iaload, 0, 0, 0, 0, []), (6, 2, .istore 0, 4, 0, 0, 0, []), (8, 2, .iload 0, 4, 0, 0, 0, []),
  (10, 2, .iconst 0, 0, 0, 0, 6, []), (12, 3, .if_icmp .ge 0, 51, 0, 0, 0, []), (15, 1, .aload 0, 0, 0, 0, 0, []), (16, 3, .getfield 0, 7, 12, 2, 0, [252]), (19, 1, .iload 0, 1, 0, 0, 0, []), (20, 2, .iconst 0, 0, 0, 0, 6, []),
  (22, 1, .imul, 0, 0, 0, 0, []), (23, 2, .iload 0, 4, 0, 0, 0, []), (25, 1, .iadd, 0, 0, 0, 0, []), (26, 1, .iload 0, 2, 0, 0, 0, []), (27, 1, .iastore, 0, 0, 0, 0, []), (28, 1, .aload 0, 0, 0, 0, 0, []),
  (29, 3, .getfield 0, 7, 13, 2, 0, [253]), (32, 1, .iload 0, 1, 0, 0, 0, []), (33, 2, .iconst 0, 0, 0, 0, 6, []), (35, 1, .imul, 0, 0, 0, 0, []), (36, 2, .iload 0, 4, 0, 0, 0, []), (38, 1, .iadd, 0, 0, 0, 0, []),
  (39, 1, .iload 0, 3, 0, 0, 0, []), (40, 1, .iastore, 0, 0, 0, 0, []), (41, 1, .aload 0, 0, 0, 0, 0, []), (42, 3, .getfield 0, 7, 11, 2, 0, [249]), (45, 1, .iload 0, 1, 0, 0, 0, []), (46, 2, .iload 0, 4, 0, 0, 0, []),
  (48, 1, .iconst 0, 0, 0, 0, 1, []), (49, 1, .iadd, 0, 0, 0, 0, []), (50, 1, .iastore, 0, 0, 0, 0, []), (51, 1, .return_, 0, 0, 0, 0, [])
  ]
def mc_X7_takeFrom : List mv_E := [
  (0, 1, .aload 0, 0, 0, 0, 0, []), (1, 1, .aload 0, 1, 0, 0, 0, []), (2, 3, .getfield 0, 7, 0, 0, 0, [223]), (5, 3, .putfield 0, 7, 0, 0, 0, [223]), (8, 1, .aload 0, 0, 0, 0, 0, []), (9, 1, .aload 0, 1, 0, 0, 0, []),
  (10, 3, .getfield 0, 7, 1, 0, 0, [228]), (13, 3, .putfield 0, 7, 1, 0, 0, [228]), (16, 1, .aload 0, 1, 0, 0, 0, []), (17, 3, .getfield 0, 7, 2, 2, 0, [231]), (20, 1, .iconst 0, 0, 0, 0, 0, []), (21, 1, .aload 0, 0, 0, 0, 0, []),
  (22, 3, .getfield 0, 7, 2, 2, 0, [231]), (25, 1, .iconst 0, 0, 0, 0, 0, []), (26, 2, .iconst 0, 0, 0, 0, 6, []), (28, 3, .invokestatic 0, 0, 0, 100, 0, [1011, 968, 967, 88]), (31, 1, .aload 0, 1, 0, 0, 0, []), (32, 3, .getfield 0, 7, 3, 2, 0, [235]),
  (35, 1, .iconst 0, 0, 0, 0, 0, []), (36, 1, .aload 0, 0, 0, 0, 0, []), (37, 3, .getfield 0, 7, 3, 2, 0, [235]), (40, 1, .iconst 0, 0, 0, 0, 0, []), (41, 2, .iconst 0, 0, 0, 0, 6, []), (43, 3, .invokestatic 0, 0, 0, 100, 0, [1011, 968, 967, 88]),
  (46, 1, .aload 0, 1, 0, 0, 0, []), (47, 3, .getfield 0, 7, 4, 2, 0, [236]), (50, 1, .iconst 0, 0, 0, 0, 0, []), (51, 1, .aload 0, 0, 0, 0, 0, []), (52, 3, .getfield 0, 7, 4, 2, 0, [236]), (55, 1, .iconst 0, 0, 0, 0, 0, []),
  (56, 2, .iconst 0, 0, 0, 0, 6, []), (58, 3, .invokestatic 0, 0, 0, 100, 0, [1011, 968, 967, 88]), (61, 1, .aload 0, 1, 0, 0, 0, []), (62, 3, .getfield 0, 7, 5, 2, 0, [237]), (65, 1, .iconst 0, 0, 0, 0, 0, []), (66, 1, .aload 0, 0, 0, 0, 0, []),
  (67, 3, .getfield 0, 7, 5, 2, 0, [237]), (70, 1, .iconst 0, 0, 0, 0, 0, []), (71, 2, .iconst 0, 0, 0, 0, 6, []), (73, 3, .invokestatic 0, 0, 0, 100, 0, [1011, 968, 967, 88]), (76, 1, .aload 0, 1, 0, 0, 0, []), (77, 3, .getfield 0, 7, 6, 2, 0, [238]),
  (80, 1, .iconst 0, 0, 0, 0, 0, []), (81, 1, .aload 0, 0, 0, 0, 0, []), (82, 3, .getfield 0, 7, 6, 2, 0, [238]), (85, 1, .iconst 0, 0, 0, 0, 0, []), (86, 2, .iconst 0, 0, 0, 0, 6, []), (88, 3, .invokestatic 0, 0, 0, 100, 0, [1011, 968, 967, 88]),
  (91, 1, .aload 0, 1, 0, 0, 0, []), (92, 3, .getfield 0, 7, 7, 2, 0, [239]), (95, 1, .iconst 0, 0, 0, 0, 0, []), (96, 1, .aload 0, 0, 0, 0, 0, []), (97, 3, .getfield 0, 7, 7, 2, 0, [239]), (100, 1, .iconst 0, 0, 0, 0, 0, []),
  (101, 2, .iconst 0, 0, 0, 0, 6, []), (103, 3, .invokestatic 0, 0, 0, 100, 0, [1011, 968, 967, 88]), (106, 1, .aload 0, 1, 0, 0, 0, []), (107, 3, .getfield 0, 7, 8, 2, 0, [242]), (110, 1, .iconst 0, 0, 0, 0, 0, []), (111, 1, .aload 0, 0, 0, 0, 0, []),
  (112, 3, .getfield 0, 7, 8, 2, 0, [242]), (115, 1, .iconst 0, 0, 0, 0, 0, []), (116, 2, .iconst 0, 0, 0, 0, 6, []), (118, 3, .invokestatic 0, 0, 0, 100, 0, [1011, 968, 967, 88]), (121, 1, .aload 0, 1, 0, 0, 0, []), (122, 3, .getfield 0, 7, 9, 2, 0, [244]),
  (125, 1, .iconst 0, 0, 0, 0, 0, []), (126, 1, .aload 0, 0, 0, 0, 0, []), (127, 3, .getfield 0, 7, 9, 2, 0, [244]), (130, 1, .iconst 0, 0, 0, 0, 0, []), (131, 2, .iconst 0, 0, 0, 0, 6, []), (133, 3, .invokestatic 0, 0, 0, 100, 0, [1011, 968, 967, 88]),
  (136, 1, .aload 0, 1, 0, 0, 0, []), (137, 3, .getfield 0, 7, 10, 2, 0, [246]), (140, 1, .iconst 0, 0, 0, 0, 0, []), (141, 1, .aload 0, 0, 0, 0, 0, []), (142, 3, .getfield 0, 7, 10, 2, 0, [246]), (145, 1, .iconst 0, 0, 0, 0, 0, []),
  (146, 2, .iconst 0, 0, 0, 0, 18, []), (148, 3, .invokestatic 0, 0, 0, 100, 0, [1011, 968, 967, 88]), (151, 1, .aload 0, 1, 0, 0, 0, []), (152, 3, .getfield 0, 7, 11, 2, 0, [249]), (155, 1, .iconst 0, 0, 0, 0, 0, []), (156, 1, .aload 0, 0, 0, 0, 0, []),
  (157, 3, .getfield 0, 7, 11, 2, 0, [249]), (160, 1, .iconst 0, 0, 0, 0, 0, []), (161, 2, .iconst 0, 0, 0, 0, 18, []), (163, 3, .invokestatic 0, 0, 0, 100, 0, [1011, 968, 967, 88]), (166, 1, .aload 0, 1, 0, 0, 0, []), (167, 3, .getfield 0, 7, 12, 2, 0, [252]),
  (170, 1, .iconst 0, 0, 0, 0, 0, []), (171, 1, .aload 0, 0, 0, 0, 0, []), (172, 3, .getfield 0, 7, 12, 2, 0, [252]), (175, 1, .iconst 0, 0, 0, 0, 0, []), (176, 2, .iconst 0, 0, 0, 0, 108, []), (178, 3, .invokestatic 0, 0, 0, 100, 0, [1011, 968, 967, 88]),
  (181, 1, .aload 0, 1, 0, 0, 0, []), (182, 3, .getfield 0, 7, 13, 2, 0, [253]), (185, 1, .iconst 0, 0, 0, 0, 0, []), (186, 1, .aload 0, 0, 0, 0, 0, []), (187, 3, .getfield 0, 7, 13, 2, 0, [253]), (190, 1, .iconst 0, 0, 0, 0, 0, []),
  (191, 2, .iconst 0, 0, 0, 0, 108, []), (193, 3, .invokestatic 0, 0, 0, 100, 0, [1011, 968, 967, 88]), (196, 1, .return_, 0, 0, 0, 0, [])
  ]
def mc_X7_yieldOn : List mv_E := [
  (0, 1, .aload 0, 0, 0, 0, 0, []), (1, 3, .getfield 0, 7, 2, 2, 0, [231]), (4, 1, .iload 0, 1, 0, 0, 0, []), (5, 1, .iaload, 0, 0, 0, 0, []), (6, 1, .iconst 0, 0, 0, 0, 4, []), (7, 3, .if_icmp .ne 0, 19, 0, 0, 0, []),
  (10, 1, .aload 0, 0, 0, 0, 0, []), (11, 3, .getfield 0, 7, 3, 2, 0, [235]), (14, 1, .iload 0, 1, 0, 0, 0, []), (15, 1, .iaload, 0, 0, 0, 0, []), (16, 3, .goto 0, 34, 0, 0, 0, []), (19, 1, .aload 0, 0, 0, 0, 0, []),
  (20, 3, .getfield 0, 7, 3, 2, 0, [235]), (23, 1, .iload 0, 1, 0, 0, 0, []), (24, 1, .iaload, 0, 0, 0, 0, []), (25, 1, .aload 0, 0, 0, 0, 0, []), (26, 3, .getfield 0, 7, 4, 2, 0, [236]), (29, 1, .iload 0, 1, 0, 0, 0, []),
  (30, 1, .iaload, 0, 0, 0, 0, []), (31, 1, .iload 0, 2, 0, 0, 0, []), (32, 1, .imul, 0, 0, 0, 0, []), (33, 1, .iadd, 0, 0, 0, 0, []), (34, 1, .ireturn, 0, 0, 0, 0, [])
  ]
def mc_X7_reckonedPrice : List mv_E := [
  (0, 1, .iload 0, 1, 0, 0, 0, []), (1, 1, .iconst 0, 0, 0, 0, 3, []), (2, 1, .idiv, 0, 0, 0, 0, []), (3, 1, .istore 0, 2, 0, 0, 0, []), (4, 1, .aload 0, 0, 0, 0, 0, []), (5, 3, .getfield 0, 7, 8, 2, 0, [242]),
  (8, 1, .iload 0, 2, 0, 0, 0, []), (9, 1, .iaload, 0, 0, 0, 0, []), (10, 1, .istore 0, 3, 0, 0, 0, []), (11, 1, .iload 0, 3, 0, 0, 0, []), (12, 3, .ifCond .ne 0, 24, 0, 0, 0, []), (15, 1, .aload 0, 0, 0, 0, 0, []),
  (16, 3, .getfield 0, 7, 10, 2, 0, [246]), (19, 1, .iload 0, 1, 0, 0, 0, []), (20, 1, .iaload, 0, 0, 0, 0, []), (21, 3, .goto 0, 39, 0, 0, 0, []), (24, 1, .aload 0, 0, 0, 0, 0, []), (25, 3, .getfield 0, 7, 10, 2, 0, [246]),
  (28, 1, .iload 0, 1, 0, 0, 0, []), (29, 1, .iaload, 0, 0, 0, 0, []), (30, 1, .aload 0, 0, 0, 0, 0, []), (31, 3, .getfield 0, 7, 9, 2, 0, [244]), (34, 1, .iload 0, 2, 0, 0, 0, []), (35, 1, .iaload, 0, 0, 0, 0, []),
  (36, 1, .iload 0, 3, 0, 0, 0, []), (37, 1, .idiv, 0, 0, 0, 0, []), (38, 1, .iadd, 0, 0, 0, 0, []), (39, 1, .ireturn, 0, 0, 0, 0, [])
  ]
def mc_X7_payAtHome : List mv_E := [
  (0, 1, .iload 0, 1, 0, 0, 0, []), (1, 1, .iconst 0, 0, 0, 0, 3, []), (2, 1, .idiv, 0, 0, 0, 0, []), (3, 1, .istore 0, 3, 0, 0, 0, []), (4, 1, .aload 0, 0, 0, 0, 0, []), (5, 1, .iload 0, 3, 0, 0, 0, []),
  (6, 1, .iload 0, 2, 0, 0, 0, []), (7, 3, .invokevirtual 0, 61, 3, 7, 1, [629, 630, 631, 80]), (10, 1, .i2l, 0, 0, 0, 0, []), (11, 1, .aload 0, 0, 0, 0, 0, []), (12, 1, .iload 0, 1, 0, 0, 0, []), (13, 3, .invokevirtual 0, 62, 2, 7, 1, [633, 634, 635, 80]),
  (16, 1, .i2l, 0, 0, 0, 0, []), (17, 1, .lmul, 0, 0, 0, 0, []), (18, 2, .lstore 0, 4, 0, 0, 0, []), (20, 3, .lconst 0, 0, 0, 0, 100, [637]), (23, 2, .lload 0, 4, 0, 0, 0, []), (25, 1, .aload 0, 0, 0, 0, 0, []),
  (26, 3, .getfield 0, 7, 5, 2, 0, [237]), (29, 1, .iload 0, 3, 0, 0, 0, []), (30, 1, .iaload, 0, 0, 0, 0, []), (31, 1, .i2l, 0, 0, 0, 0, []), (32, 1, .lsub, 0, 0, 0, 0, []), (33, 1, .aload 0, 0, 0, 0, 0, []),
  (34, 3, .getfield 0, 7, 7, 2, 0, [239]), (37, 1, .iload 0, 3, 0, 0, 0, []), (38, 1, .iaload, 0, 0, 0, 0, []), (39, 1, .i2l, 0, 0, 0, 0, []), (40, 1, .lsub, 0, 0, 0, 0, []), (41, 1, .lmul, 0, 0, 0, 0, []),
  (42, 1, .lreturn, 0, 0, 0, 0, [])
  ]
def mc_X7_carriage : List mv_E := [
  (0, 1, .aload 0, 0, 0, 0, 0, []), (1, 3, .getfield 0, 7, 2, 2, 0, [231]), (4, 1, .iload 0, 1, 0, 0, 0, []), (5, 1, .iaload, 0, 0, 0, 0, []), (6, 1, .iconst 0, 0, 0, 0, 1, []), (7, 3, .if_icmp .ne 0, 21, 0, 0, 0, []),
  (10, 1, .aload 0, 0, 0, 0, 0, []), (11, 3, .getfield 0, 7, 6, 2, 0, [238]), (14, 1, .iload 0, 1, 0, 0, 0, []), (15, 1, .iaload, 0, 0, 0, 0, []), (16, 1, .iconst 0, 0, 0, 0, 2, []), (17, 1, .idiv, 0, 0, 0, 0, []),
  (18, 3, .goto 0, 27, 0, 0, 0, []), (21, 1, .aload 0, 0, 0, 0, 0, []), (22, 3, .getfield 0, 7, 6, 2, 0, [238]), (25, 1, .iload 0, 1, 0, 0, 0, []), (26, 1, .iaload, 0, 0, 0, 0, []), (27, 1, .istore 0, 3, 0, 0, 0, []),
  (28, 1, .iload 0, 3, 0, 0, 0, []), (29, 1, .i2l, 0, 0, 0, 0, []), (30, 1, .aload 0, 0, 0, 0, 0, []), (31, 1, .iload 0, 1, 0, 0, 0, []), (32, 1, .iload 0, 2, 0, 0, 0, []), (33, 3, .invokevirtual 0, 61, 3, 7, 1, [629, 630, 631, 80]),
  (36, 1, .i2l, 0, 0, 0, 0, []), (37, 1, .lmul, 0, 0, 0, 0, []), (38, 1, .lreturn, 0, 0, 0, 0, [])
  ]
def mc_X7_canGo : List mv_E := [
  (0, 1, .aload 0, 0, 0, 0, 0, []), (1, 3, .getfield 0, 7, 2, 2, 0, [231]), (4, 1, .iload 0, 1, 0, 0, 0, []), (5, 1, .iaload, 0, 0, 0, 0, []), (6, 1, .iconst 0, 0, 0, 0, 5, []), (7, 3, .if_icmp .ne 0, 12, 0, 0, 0, []),
  (10, 1, .iconst 0, 0, 0, 0, 0, []), (11, 1, .ireturn, 1, 0, 0, 0, []), (12, 1, .aload 0, 0, 0, 0, 0, []), (13, 3, .getfield 0, 7, 2, 2, 0, [231]), (16, 1, .iload 0, 1, 0, 0, 0, []), (17, 1, .iaload, 0, 0, 0, 0, []),
  (18, 1, .iconst 0, 0, 0, 0, 2, []), (19, 3, .if_icmp .ne 0, 28, 0, 0, 0, []), (22, 1, .iload 0, 2, 0, 0, 0, []), (23, 2, .iconst 0, 0, 0, 0, 60, []), (25, 3, .if_icmp .gt 0, 32, 0, 0, 0, []), (28, 1, .iconst 0, 0, 0, 0, 1, []),
  (29, 3, .goto 0, 33, 0, 0, 0, []), (32, 1, .iconst 0, 0, 0, 0, 0, []), (33, 1, .ireturn, 1, 0, 0, 0, [])
  ]
def mc_X7_boughtAt : List mv_E := [
  (0, 1, .iconst 0, 0, 0, 0, 0, []), (1, 1, .istore 0, 3, 0, 0, 0, []), (2, 1, .iload 0, 1, 0, 0, 0, []), (3, 2, .iconst 0, 0, 0, 0, 6, []), (5, 1, .imul, 0, 0, 0, 0, []), (6, 2, .istore 0, 4, 0, 0, 0, []),
  (8, 2, .iload 0, 4, 0, 0, 0, []), (10, 1, .iload 0, 1, 0, 0, 0, []), (11, 2, .iconst 0, 0, 0, 0, 6, []), (13, 1, .imul, 0, 0, 0, 0, []), (14, 1, .aload 0, 0, 0, 0, 0, []), (15, 3, .getfield 0, 7, 11, 2, 0, [249]),
  (18, 1, .iload 0, 1, 0, 0, 0, []), (19, 1, .iaload, 0, 0, 0, 0, []), (20, 1, .iadd, 0, 0, 0, 0, []), (21, 3, .if_icmp .ge 0, 51, 0, 0, 0, []), (24, 1, .aload 0, 0, 0, 0, 0, []), (25, 3, .getfield 0, 7, 13, 2, 0, [253]),
  (28, 2, .iload 0, 4, 0, 0, 0, []), (30, 1, .iaload, 0, 0, 0, 0, []), (31, 1, .iload 0, 2, 0, 0, 0, []), (32, 3, .if_icmp .lt 0, 45, 0, 0, 0, []), (35, 1, .iload 0, 3, 0, 0, 0, []), (36, 1, .aload 0, 0, 0, 0, 0, []),
  (37, 3, .getfield 0, 7, 12, 2, 0, [252]), (40, 2, .iload 0, 4, 0, 0, 0, []), (42, 1, .iaload, 0, 0, 0, 0, []), (43, 1, .iadd, 0, 0, 0, 0, []), (44, 1, .istore 0, 3, 0, 0, 0, []), (45, 3, .iinc 0 0, 4, 0, 0, 1, []),
  (48, 3, .goto 0, 8, 0, 0, 0, []), (51, 1, .iload 0, 3, 0, 0, 0, []), (52, 1, .ireturn, 0, 0, 0, 0, [])
  ]
def mc_X8_init : List mv_E := [
  (0, 1, .aload 0, 0, 0, 0, 0, []), (1, 3, .invokespecial 0, 0, 0, 1, 0, [336, 95, 96]), (4, 1, .aload 0, 0, 0, 0, 0, []), (5, 3, .iconst 0, 0, 0, 0, 144, []), (8, 2, .newarray .int, 100, 0, 0, 0, [113]), (10, 3, .putfield 0, 8, 0, 2, 0, [337]),
  (13, 1, .aload 0, 0, 0, 0, 0, []), (14, 3, .iconst 0, 0, 0, 0, 144, []), (17, 2, .newarray .int, 100, 0, 0, 0, [113]), (19, 3, .putfield 0, 8, 1, 2, 0, [339]), (22, 1, .aload 0, 0, 0, 0, 0, []), (23, 2, .iconst 0, 0, 0, 0, 48, []),
  (25, 2, .newarray .int, 100, 0, 0, 0, [113]), (27, 3, .putfield 0, 8, 2, 2, 0, [341]), (30, 1, .aload 0, 0, 0, 0, 0, []), (31, 3, .iconst 0, 0, 0, 0, 192, []), (34, 2, .newarray .int, 100, 0, 0, 0, [113]), (36, 3, .putfield 0, 8, 3, 2, 0, [342]),
  (39, 1, .aload 0, 0, 0, 0, 0, []), (40, 3, .iconst 0, 0, 0, 0, 192, []), (43, 2, .newarray .int, 100, 0, 0, 0, [113]), (45, 3, .putfield 0, 8, 4, 2, 0, [343]), (48, 1, .aload 0, 0, 0, 0, 0, []), (49, 3, .iconst 0, 0, 0, 0, 192, []),
  (52, 2, .newarray .int, 100, 0, 0, 0, [113]), (54, 3, .putfield 0, 8, 5, 2, 0, [344]), (57, 1, .return_, 0, 0, 0, 0, [])
  ]
def mc_X8_reckonFoot : List mv_E := [
  (0, 1, .iconst 0, 0, 0, 0, 0, []), (1, 1, .istore 0, 2, 0, 0, 0, []), (2, 1, .iload 0, 2, 0, 0, 0, []), (3, 1, .aload 0, 1, 0, 0, 0, []), (4, 3, .getfield 0, 0, 2, 0, 0, [152]), (7, 3, .if_icmp .ge 0, 79, 0, 0, 0, []),
  (10, 1, .iconst 0, 0, 0, 0, 0, []), (11, 1, .istore 0, 3, 0, 0, 0, []), (12, 1, .iload 0, 3, 0, 0, 0, []), (13, 1, .iconst 0, 0, 0, 0, 4, []), (14, 3, .if_icmp .ge 0, 73, 0, 0, 0, []), (17, 1, .aload 0, 1, 0, 0, 0, []),
  (18, 1, .iload 0, 2, 0, 0, 0, []), (19, 1, .iload 0, 3, 0, 0, 0, []), (20, 3, .invokevirtual 0, 5, 3, 0, 1, [595, 561, 562, 79]), (23, 2, .istore 0, 4, 0, 0, 0, []), (25, 1, .aload 0, 0, 0, 0, 0, []), (26, 3, .getfield 0, 8, 3, 2, 0, [342]),
  (29, 1, .iload 0, 2, 0, 0, 0, []), (30, 1, .iconst 0, 0, 0, 0, 4, []), (31, 1, .imul, 0, 0, 0, 0, []), (32, 1, .iload 0, 3, 0, 0, 0, []), (33, 1, .iadd, 0, 0, 0, 0, []), (34, 2, .iload 0, 4, 0, 0, 0, []),
  (36, 1, .iastore, 0, 0, 0, 0, []), (37, 1, .aload 0, 0, 0, 0, 0, []), (38, 3, .getfield 0, 8, 5, 2, 0, [344]), (41, 1, .iload 0, 2, 0, 0, 0, []), (42, 1, .iconst 0, 0, 0, 0, 4, []), (43, 1, .imul, 0, 0, 0, 0, []),
  (44, 1, .iload 0, 3, 0, 0, 0, []), (45, 1, .iadd, 0, 0, 0, 0, []), (46, 2, .iload 0, 4, 0, 0, 0, []), (48, 1, .iconst 0, 0, 0, 0, (-1), []), (49, 3, .if_icmp .ne 0, 56, 0, 0, 0, []), (52, 1, .iconst 0, 0, 0, 0, 0, []),
  (53, 3, .goto 0, 66, 0, 0, 0, []), (56, 2, .iconst 0, 0, 0, 0, 10, []), (58, 1, .aload 0, 1, 0, 0, 0, []), (59, 3, .getfield 0, 0, 7, 2, 0, [172]), (62, 2, .iload 0, 4, 0, 0, 0, []), (64, 1, .iaload, 0, 0, 0, 0, []),
  (65, 1, .iadd, 0, 0, 0, 0, []), (66, 1, .iastore, 0, 0, 0, 0, []), (67, 3, .iinc 0 0, 3, 0, 0, 1, []), (70, 3, .goto 0, 12, 0, 0, 0, []), (73, 3, .iinc 0 0, 2, 0, 0, 1, []), (76, 3, .goto 0, 2, 0, 0, 0, []),
  (79, 1, .iconst 0, 0, 0, 0, 0, []), (80, 1, .istore 0, 2, 0, 0, 0, []), (81, 1, .iload 0, 2, 0, 0, 0, []), (82, 1, .aload 0, 1, 0, 0, 0, []), (83, 3, .getfield 0, 0, 4, 0, 0, [161]), (86, 3, .if_icmp .ge 0, 121, 0, 0, 0, []),
  (89, 1, .aload 0, 0, 0, 0, 0, []), (90, 1, .aload 0, 1, 0, 0, 0, []), (91, 3, .getfield 0, 0, 2, 0, 0, [152]), (94, 1, .aload 0, 1, 0, 0, 0, []), (95, 3, .getfield 0, 0, 11, 2, 0, [185]), (98, 1, .iload 0, 2, 0, 0, 0, []),
  (99, 1, .iaload, 0, 0, 0, 0, []), (100, 1, .aload 0, 0, 0, 0, 0, []), (101, 3, .getfield 0, 8, 5, 2, 0, [344]), (104, 1, .aload 0, 0, 0, 0, 0, []), (105, 3, .getfield 0, 8, 1, 2, 0, [339]), (108, 1, .iload 0, 2, 0, 0, 0, []),
  (109, 2, .iconst 0, 0, 0, 0, 48, []), (111, 1, .imul, 0, 0, 0, 0, []), (112, 3, .invokevirtual 0, 71, 6, 8, 0, [596, 598, 2, 82]), (115, 3, .iinc 0 0, 2, 0, 0, 1, []), (118, 3, .goto 0, 81, 0, 0, 0, []), (121, 1, .return_, 0, 0, 0, 0, [])
  ]
def mc_X8_reckonRoads : List mv_E := [
  (0, 1, .iconst 0, 0, 0, 0, 0, []), (1, 1, .istore 0, 2, 0, 0, 0, []), (2, 1, .iload 0, 2, 0, 0, 0, []), (3, 1, .aload 0, 1, 0, 0, 0, []), (4, 3, .getfield 0, 0, 2, 0, 0, [152]), (7, 1, .iconst 0, 0, 0, 0, 4, []),
  (8, 1, .imul, 0, 0, 0, 0, []), (9, 3, .if_icmp .ge 0, 76, 0, 0, 0, []), (12, 1, .aload 0, 0, 0, 0, 0, []), (13, 3, .getfield 0, 8, 3, 2, 0, [342]), (16, 1, .iload 0, 2, 0, 0, 0, []), (17, 1, .iaload, 0, 0, 0, 0, []),
  (18, 1, .istore 0, 3, 0, 0, 0, []), (19, 1, .aload 0, 1, 0, 0, 0, []), (20, 3, .getfield 0, 0, 10, 2, 0, [183]), (23, 1, .iload 0, 2, 0, 0, 0, []), (24, 1, .iaload, 0, 0, 0, 0, []), (25, 1, .iconst 0, 0, 0, 0, 4, []),
  (26, 3, .if_icmp .ne 0, 33, 0, 0, 0, []), (29, 1, .iconst 0, 0, 0, 0, 0, []), (30, 3, .goto 0, 39, 0, 0, 0, []), (33, 1, .aload 0, 1, 0, 0, 0, []), (34, 3, .getfield 0, 0, 10, 2, 0, [183]), (37, 1, .iload 0, 2, 0, 0, 0, []),
  (38, 1, .iaload, 0, 0, 0, 0, []), (39, 2, .istore 0, 4, 0, 0, 0, []), (41, 1, .aload 0, 0, 0, 0, 0, []), (42, 3, .getfield 0, 8, 4, 2, 0, [343]), (45, 1, .iload 0, 2, 0, 0, 0, []), (46, 1, .iload 0, 3, 0, 0, 0, []),
  (47, 1, .iconst 0, 0, 0, 0, (-1), []), (48, 3, .if_icmp .ne 0, 55, 0, 0, 0, []), (51, 1, .iconst 0, 0, 0, 0, 0, []), (52, 3, .goto 0, 69, 0, 0, 0, []), (55, 1, .aload 0, 1, 0, 0, 0, []), (56, 3, .getfield 0, 0, 12, 2, 0, [188]),
  (59, 2, .iload 0, 4, 0, 0, 0, []), (61, 1, .iaload, 0, 0, 0, 0, []), (62, 1, .aload 0, 1, 0, 0, 0, []), (63, 3, .getfield 0, 0, 7, 2, 0, [172]), (66, 1, .iload 0, 3, 0, 0, 0, []), (67, 1, .iaload, 0, 0, 0, 0, []),
  (68, 1, .iadd, 0, 0, 0, 0, []), (69, 1, .iastore, 0, 0, 0, 0, []), (70, 3, .iinc 0 0, 2, 0, 0, 1, []), (73, 3, .goto 0, 2, 0, 0, 0, []), (76, 1, .iconst 0, 0, 0, 0, 0, []), (77, 1, .istore 0, 2, 0, 0, 0, []),
  (78, 1, .iload 0, 2, 0, 0, 0, []), (79, 1, .aload 0, 1, 0, 0, 0, []), (80, 3, .getfield 0, 0, 4, 0, 0, [161]), (83, 3, .if_icmp .ge 0, 118, 0, 0, 0, []), (86, 1, .aload 0, 0, 0, 0, 0, []), (87, 1, .aload 0, 1, 0, 0, 0, []),
  (88, 3, .getfield 0, 0, 2, 0, 0, [152]), (91, 1, .aload 0, 1, 0, 0, 0, []), (92, 3, .getfield 0, 0, 11, 2, 0, [185]), (95, 1, .iload 0, 2, 0, 0, 0, []), (96, 1, .iaload, 0, 0, 0, 0, []), (97, 1, .aload 0, 0, 0, 0, 0, []),
  (98, 3, .getfield 0, 8, 4, 2, 0, [343]), (101, 1, .aload 0, 0, 0, 0, 0, []), (102, 3, .getfield 0, 8, 0, 2, 0, [337]), (105, 1, .iload 0, 2, 0, 0, 0, []), (106, 2, .iconst 0, 0, 0, 0, 48, []), (108, 1, .imul, 0, 0, 0, 0, []),
  (109, 3, .invokevirtual 0, 71, 6, 8, 0, [596, 598, 2, 82]), (112, 3, .iinc 0 0, 2, 0, 0, 1, []), (115, 3, .goto 0, 78, 0, 0, 0, []), (118, 1, .return_, 0, 0, 0, 0, [])
  ]
def mc_X8_between : List mv_E := [
  (0, 1, .aload 0, 0, 0, 0, 0, []), (1, 1, .aload 0, 1, 0, 0, 0, []), (2, 3, .getfield 0, 0, 2, 0, 0, [152]), (5, 1, .iload 0, 3, 0, 0, 0, []), (6, 1, .aload 0, 0, 0, 0, 0, []), (7, 3, .getfield 0, 8, 4, 2, 0, [343]),
  (10, 1, .aload 0, 0, 0, 0, 0, []), (11, 3, .getfield 0, 8, 2, 2, 0, [341]), (14, 1, .iconst 0, 0, 0, 0, 0, []), (15, 3, .invokevirtual 0, 71, 6, 8, 0, [596, 598, 2, 82]), (18, 1, .aload 0, 0, 0, 0, 0, []), (19, 3, .getfield 0, 8, 2, 2, 0, [341]),
  (22, 1, .iload 0, 2, 0, 0, 0, []), (23, 1, .iaload, 0, 0, 0, 0, []), (24, 1, .ireturn, 0, 0, 0, 0, [])
  ]
def mc_X8_search : List mv_E := [
  (0, 1, .iconst 0, 0, 0, 0, 0, []), (1, 2, .istore 0, 6, 0, 0, 0, []), (3, 2, .iload 0, 6, 0, 0, 0, []), (5, 1, .iload 0, 1, 0, 0, 0, []), (6, 3, .if_icmp .ge 0, 25, 0, 0, 0, []), (9, 2, .aload 0, 4, 0, 0, 0, []),
  (11, 2, .iload 0, 5, 0, 0, 0, []), (13, 2, .iload 0, 6, 0, 0, 0, []), (15, 1, .iadd, 0, 0, 0, 0, []), (16, 2, .iconst 0, 0, 0, 0, 268435456, [600]), (18, 1, .iastore, 0, 0, 0, 0, []), (19, 3, .iinc 0 0, 6, 0, 0, 1, []),
  (22, 3, .goto 0, 3, 0, 0, 0, []), (25, 2, .aload 0, 4, 0, 0, 0, []), (27, 2, .iload 0, 5, 0, 0, 0, []), (29, 1, .iload 0, 2, 0, 0, 0, []), (30, 1, .iadd, 0, 0, 0, 0, []), (31, 1, .iconst 0, 0, 0, 0, 0, []),
  (32, 1, .iastore, 0, 0, 0, 0, []), (33, 1, .iconst 0, 0, 0, 0, 1, []), (34, 2, .istore 0, 6, 0, 0, 0, []), (36, 1, .iconst 0, 0, 0, 0, 0, []), (37, 2, .istore 0, 7, 0, 0, 0, []), (39, 2, .iload 0, 7, 0, 0, 0, []),
  (41, 2, .iconst 0, 0, 0, 0, 48, []), (43, 3, .if_icmp .ge 0, 134, 0, 0, 0, []), (46, 2, .iload 0, 6, 0, 0, 0, []), (48, 3, .ifCond .eq 0, 134, 0, 0, 0, []), (51, 1, .iconst 0, 0, 0, 0, 0, []), (52, 2, .istore 0, 6, 0, 0, 0, []),
  (54, 1, .iconst 0, 0, 0, 0, 0, []), (55, 2, .istore 0, 8, 0, 0, 0, []), (57, 2, .iload 0, 8, 0, 0, 0, []), (59, 1, .iload 0, 1, 0, 0, 0, []), (60, 3, .if_icmp .ge 0, 128, 0, 0, 0, []), (63, 2, .iload 0, 7, 0, 0, 0, []),
  (65, 1, .iconst 0, 0, 0, 0, 1, []), (66, 1, .iand, 0, 0, 0, 0, []), (67, 3, .ifCond .ne 0, 75, 0, 0, 0, []), (70, 2, .iload 0, 8, 0, 0, 0, []), (72, 3, .goto 0, 81, 0, 0, 0, []), (75, 1, .iload 0, 1, 0, 0, 0, []),
  (76, 1, .iconst 0, 0, 0, 0, 1, []), (77, 1, .isub, 0, 0, 0, 0, []), (78, 2, .iload 0, 8, 0, 0, 0, []), (80, 1, .isub, 0, 0, 0, 0, []), (81, 2, .istore 0, 9, 0, 0, 0, []), (83, 1, .aload 0, 0, 0, 0, 0, []),
  (84, 2, .iload 0, 9, 0, 0, 0, []), (86, 1, .aload 0, 3, 0, 0, 0, []), (87, 2, .aload 0, 4, 0, 0, 0, []), (89, 2, .iload 0, 5, 0, 0, 0, []), (91, 3, .invokevirtual 0, 72, 5, 8, 1, [601, 603, 3, 82]), (94, 2, .istore 0, 10, 0, 0, 0, []),
  (96, 2, .iload 0, 10, 0, 0, 0, []), (98, 2, .aload 0, 4, 0, 0, 0, []), (100, 2, .iload 0, 5, 0, 0, 0, []), (102, 2, .iload 0, 9, 0, 0, 0, []), (104, 1, .iadd, 0, 0, 0, 0, []), (105, 1, .iaload, 0, 0, 0, 0, []),
  (106, 3, .if_icmp .ge 0, 122, 0, 0, 0, []), (109, 2, .aload 0, 4, 0, 0, 0, []), (111, 2, .iload 0, 5, 0, 0, 0, []), (113, 2, .iload 0, 9, 0, 0, 0, []), (115, 1, .iadd, 0, 0, 0, 0, []), (116, 2, .iload 0, 10, 0, 0, 0, []),
  (118, 1, .iastore, 0, 0, 0, 0, []), (119, 1, .iconst 0, 0, 0, 0, 1, []), (120, 2, .istore 0, 6, 0, 0, 0, []), (122, 3, .iinc 0 0, 8, 0, 0, 1, []), (125, 3, .goto 0, 57, 0, 0, 0, []), (128, 3, .iinc 0 0, 7, 0, 0, 1, []),
  (131, 3, .goto 0, 39, 0, 0, 0, []), (134, 1, .return_, 0, 0, 0, 0, [])
  ]
def mc_X8_leastFrom : List mv_E := [
  (0, 2, .iconst 0, 0, 0, 0, 268435456, [600]), (2, 2, .istore 0, 5, 0, 0, 0, []), (4, 1, .iload 0, 1, 0, 0, 0, []), (5, 1, .iconst 0, 0, 0, 0, 4, []), (6, 1, .imul, 0, 0, 0, 0, []), (7, 2, .istore 0, 6, 0, 0, 0, []),
  (9, 2, .iload 0, 6, 0, 0, 0, []), (11, 1, .iload 0, 1, 0, 0, 0, []), (12, 1, .iconst 0, 0, 0, 0, 4, []), (13, 1, .imul, 0, 0, 0, 0, []), (14, 1, .iconst 0, 0, 0, 0, 4, []), (15, 1, .iadd, 0, 0, 0, 0, []),
  (16, 3, .if_icmp .ge 0, 71, 0, 0, 0, []), (19, 1, .aload 0, 0, 0, 0, 0, []), (20, 3, .getfield 0, 8, 3, 2, 0, [342]), (23, 2, .iload 0, 6, 0, 0, 0, []), (25, 1, .iaload, 0, 0, 0, 0, []), (26, 2, .istore 0, 7, 0, 0, 0, []),
  (28, 2, .iload 0, 7, 0, 0, 0, []), (30, 1, .iconst 0, 0, 0, 0, (-1), []), (31, 3, .if_icmp .eq 0, 65, 0, 0, 0, []), (34, 1, .aload 0, 2, 0, 0, 0, []), (35, 2, .iload 0, 6, 0, 0, 0, []), (37, 1, .iaload, 0, 0, 0, 0, []),
  (38, 1, .aload 0, 3, 0, 0, 0, []), (39, 2, .iload 0, 4, 0, 0, 0, []), (41, 2, .iload 0, 7, 0, 0, 0, []), (43, 1, .iadd, 0, 0, 0, 0, []), (44, 1, .iaload, 0, 0, 0, 0, []), (45, 1, .iadd, 0, 0, 0, 0, []),
  (46, 2, .iload 0, 5, 0, 0, 0, []), (48, 3, .if_icmp .ge 0, 65, 0, 0, 0, []), (51, 1, .aload 0, 2, 0, 0, 0, []), (52, 2, .iload 0, 6, 0, 0, 0, []), (54, 1, .iaload, 0, 0, 0, 0, []), (55, 1, .aload 0, 3, 0, 0, 0, []),
  (56, 2, .iload 0, 4, 0, 0, 0, []), (58, 2, .iload 0, 7, 0, 0, 0, []), (60, 1, .iadd, 0, 0, 0, 0, []), (61, 1, .iaload, 0, 0, 0, 0, []), (62, 1, .iadd, 0, 0, 0, 0, []), (63, 2, .istore 0, 5, 0, 0, 0, []),
  (65, 3, .iinc 0 0, 6, 0, 0, 1, []), (68, 3, .goto 0, 9, 0, 0, 0, []), (71, 2, .iload 0, 5, 0, 0, 0, []), (73, 1, .ireturn, 0, 0, 0, 0, [])
  ]
def mc_X9_init : List mv_E := [
  (0, 1, .aload 0, 0, 0, 0, 0, []), (1, 3, .invokespecial 0, 0, 0, 1, 0, [421, 95, 96]), (4, 1, .aload 0, 0, 0, 0, 0, []), (5, 2, .iconst 0, 0, 0, 0, 48, []), (7, 2, .newarray .long, 101, 0, 0, 0, [394]), (9, 3, .putfield 0, 9, 0, 2, 0, [422]),
  (12, 1, .return_, 0, 0, 0, 0, [])
  ]
def mc_X9_isBuilt : List mv_E := [
  (0, 1, .aload 0, 1, 0, 0, 0, []), (1, 3, .getfield 0, 10, 0, 2, 0, [314]), (4, 1, .aload 0, 1, 0, 0, 0, []), (5, 3, .getfield 0, 10, 2, 2, 0, [323]), (8, 3, .getfield 0, 2, 1, 2, 0, [293]), (11, 1, .iload 0, 2, 0, 0, 0, []),
  (12, 1, .iaload, 0, 0, 0, 0, []), (13, 1, .aload 0, 1, 0, 0, 0, []), (14, 3, .getfield 0, 10, 2, 2, 0, [323]), (17, 3, .getfield 0, 2, 2, 2, 0, [295]), (20, 1, .iload 0, 2, 0, 0, 0, []), (21, 1, .iaload, 0, 0, 0, 0, []),
  (22, 3, .invokevirtual 0, 7, 3, 0, 1, [892, 565, 566, 79]), (25, 3, .ifCond .eq 0, 32, 0, 0, 0, []), (28, 1, .iconst 0, 0, 0, 0, 1, []), (29, 3, .goto 0, 33, 0, 0, 0, []), (32, 1, .iconst 0, 0, 0, 0, 0, []), (33, 1, .ireturn, 1, 0, 0, 0, [])
  ]
def mc_X9_isAnyBuilt : List mv_E := [
  (0, 1, .iconst 0, 0, 0, 0, 0, []), (1, 1, .istore 0, 2, 0, 0, 0, []), (2, 1, .iload 0, 2, 0, 0, 0, []), (3, 1, .aload 0, 1, 0, 0, 0, []), (4, 3, .getfield 0, 10, 2, 2, 0, [323]), (7, 3, .getfield 0, 2, 0, 0, 0, [290]),
  (10, 3, .if_icmp .ge 0, 30, 0, 0, 0, []), (13, 1, .aload 0, 0, 0, 0, 0, []), (14, 1, .aload 0, 1, 0, 0, 0, []), (15, 1, .iload 0, 2, 0, 0, 0, []), (16, 3, .invokevirtual 0, 74, 3, 9, 1, [923, 889, 890, 84]), (19, 3, .ifCond .eq 0, 24, 0, 0, 0, []),
  (22, 1, .iconst 0, 0, 0, 0, 1, []), (23, 1, .ireturn, 1, 0, 0, 0, []), (24, 3, .iinc 0 0, 2, 0, 0, 1, []), (27, 3, .goto 0, 2, 0, 0, 0, []), (30, 1, .iconst 0, 0, 0, 0, 0, []), (31, 1, .ireturn, 1, 0, 0, 0, [])
  ]
def mc_X9_gainOf : List mv_E := [
  (0, 1, .aload 0, 1, 0, 0, 0, []), (1, 3, .invokevirtual 0, 22, 1, 1, 2, [897, 715, 716, 77]), (4, 1, .lstore 0, 3, 0, 0, 0, []), (5, 1, .aload 0, 0, 0, 0, 0, []), (6, 1, .aload 0, 1, 0, 0, 0, []), (7, 1, .iconst 0, 0, 0, 0, 1, []),
  (8, 1, .iload 0, 2, 0, 0, 0, []), (9, 1, .ishl, 0, 0, 0, 0, []), (10, 3, .invokevirtual 0, 80, 3, 9, 0, [898, 900, 21, 84]), (13, 1, .aload 0, 1, 0, 0, 0, []), (14, 3, .invokevirtual 0, 22, 1, 1, 2, [897, 715, 716, 77]), (17, 2, .lstore 0, 5, 0, 0, 0, []),
  (19, 1, .aload 0, 0, 0, 0, 0, []), (20, 1, .aload 0, 1, 0, 0, 0, []), (21, 1, .iconst 0, 0, 0, 0, 1, []), (22, 1, .iload 0, 2, 0, 0, 0, []), (23, 1, .ishl, 0, 0, 0, 0, []), (24, 3, .invokevirtual 0, 81, 3, 9, 0, [909, 911, 23, 84]),
  (27, 2, .lload 0, 5, 0, 0, 0, []), (29, 1, .lload 0, 3, 0, 0, 0, []), (30, 1, .lsub, 0, 0, 0, 0, []), (31, 3, .lconst 0, 0, 0, 0, 100, [914]), (34, 1, .aload 0, 1, 0, 0, 0, []), (35, 3, .getfield 0, 1, 0, 2, 0, [362]),
  (38, 3, .getfield 0, 10, 2, 2, 0, [323]), (41, 3, .getfield 0, 2, 4, 2, 0, [299]), (44, 1, .iload 0, 2, 0, 0, 0, []), (45, 1, .iaload, 0, 0, 0, 0, []), (46, 1, .i2l, 0, 0, 0, 0, []), (47, 1, .lmul, 0, 0, 0, 0, []),
  (48, 1, .lsub, 0, 0, 0, 0, []), (49, 1, .lreturn, 0, 0, 0, 0, [])
  ]
def mc_X9_losersBy : List mv_E := [
  (0, 1, .aload 0, 1, 0, 0, 0, []), (1, 3, .getfield 0, 1, 0, 2, 0, [362]), (4, 3, .getfield 0, 10, 0, 2, 0, [314]), (7, 3, .getfield 0, 0, 2, 0, 0, [156]), (10, 1, .istore 0, 3, 0, 0, 0, []), (11, 1, .iconst 0, 0, 0, 0, 0, []),
  (12, 2, .istore 0, 4, 0, 0, 0, []), (14, 2, .iload 0, 4, 0, 0, 0, []), (16, 1, .iload 0, 3, 0, 0, 0, []), (17, 3, .if_icmp .ge 0, 39, 0, 0, 0, []), (20, 1, .aload 0, 0, 0, 0, 0, []), (21, 3, .getfield 0, 9, 0, 2, 0, [422]),
  (24, 2, .iload 0, 4, 0, 0, 0, []), (26, 1, .aload 0, 1, 0, 0, 0, []), (27, 2, .iload 0, 4, 0, 0, 0, []), (29, 3, .invokevirtual 0, 20, 2, 1, 2, [940, 719, 720, 77]), (32, 1, .lastore, 0, 0, 0, 0, []), (33, 3, .iinc 0 0, 4, 0, 0, 1, []),
  (36, 3, .goto 0, 14, 0, 0, 0, []), (39, 1, .aload 0, 0, 0, 0, 0, []), (40, 1, .aload 0, 1, 0, 0, 0, []), (41, 1, .iconst 0, 0, 0, 0, 1, []), (42, 1, .iload 0, 2, 0, 0, 0, []), (43, 1, .ishl, 0, 0, 0, 0, []),
  (44, 3, .invokevirtual 0, 80, 3, 9, 0, [898, 900, 21, 84]), (47, 1, .iconst 0, 0, 0, 0, 0, []), (48, 2, .istore 0, 4, 0, 0, 0, []), (50, 1, .iconst 0, 0, 0, 0, 0, []), (51, 2, .istore 0, 5, 0, 0, 0, []), (53, 2, .iload 0, 5, 0, 0, 0, []),
  (55, 1, .iload 0, 3, 0, 0, 0, []), (56, 3, .if_icmp .ge 0, 85, 0, 0, 0, []), (59, 1, .aload 0, 1, 0, 0, 0, []), (60, 2, .iload 0, 5, 0, 0, 0, []), (62, 3, .invokevirtual 0, 20, 2, 1, 2, [940, 719, 720, 77]), (65, 1, .aload 0, 0, 0, 0, 0, []),
  (66, 3, .getfield 0, 9, 0, 2, 0, [422]), (69, 2, .iload 0, 5, 0, 0, 0, []), (71, 1, .laload, 0, 0, 0, 0, []), (72, 1, .lcmp, 0, 0, 0, 0, []), (73, 3, .ifCond .ge 0, 79, 0, 0, 0, []), (76, 3, .iinc 0 0, 4, 0, 0, 1, []),
  (79, 3, .iinc 0 0, 5, 0, 0, 1, []), (82, 3, .goto 0, 53, 0, 0, 0, []), (85, 1, .aload 0, 0, 0, 0, 0, []), (86, 1, .aload 0, 1, 0, 0, 0, []), (87, 1, .iconst 0, 0, 0, 0, 1, []), (88, 1, .iload 0, 2, 0, 0, 0, []),
  (89, 1, .ishl, 0, 0, 0, 0, []), (90, 3, .invokevirtual 0, 81, 3, 9, 0, [909, 911, 23, 84]), (93, 2, .iload 0, 4, 0, 0, 0, []), (95, 1, .ireturn, 0, 0, 0, 0, [])
  ]
def mc_X9_bestSet : List mv_E := [
  (0, 1, .iconst 0, 0, 0, 0, 0, []), (1, 1, .istore 0, 3, 0, 0, 0, []), (2, 1, .aload 0, 1, 0, 0, 0, []), (3, 3, .invokevirtual 0, 22, 1, 1, 2, [897, 715, 716, 77]), (6, 2, .lstore 0, 4, 0, 0, 0, []), (8, 1, .iconst 0, 0, 0, 0, 0, []),
  (9, 2, .istore 0, 6, 0, 0, 0, []), (11, 1, .iconst 0, 0, 0, 0, 1, []), (12, 2, .istore 0, 7, 0, 0, 0, []), (14, 2, .iload 0, 7, 0, 0, 0, []), (16, 1, .iconst 0, 0, 0, 0, 1, []), (17, 1, .aload 0, 1, 0, 0, 0, []),
  (18, 3, .getfield 0, 1, 0, 2, 0, [362]), (21, 3, .getfield 0, 10, 2, 2, 0, [323]), (24, 3, .getfield 0, 2, 0, 0, 0, [290]), (27, 1, .ishl, 0, 0, 0, 0, []), (28, 3, .if_icmp .ge 0, 112, 0, 0, 0, []), (31, 1, .aload 0, 0, 0, 0, 0, []),
  (32, 1, .aload 0, 1, 0, 0, 0, []), (33, 3, .getfield 0, 1, 0, 2, 0, [362]), (36, 3, .getfield 0, 10, 2, 2, 0, [323]), (39, 2, .iload 0, 7, 0, 0, 0, []), (41, 3, .invokevirtual 0, 79, 3, 9, 1, [928, 930, 24, 84]), (44, 2, .istore 0, 8, 0, 0, 0, []),
  (46, 2, .iload 0, 8, 0, 0, 0, []), (48, 1, .iload 0, 2, 0, 0, 0, []), (49, 3, .if_icmp .gt 0, 106, 0, 0, 0, []), (52, 1, .aload 0, 0, 0, 0, 0, []), (53, 1, .aload 0, 1, 0, 0, 0, []), (54, 2, .iload 0, 7, 0, 0, 0, []),
  (56, 3, .invokevirtual 0, 80, 3, 9, 0, [898, 900, 21, 84]), (59, 1, .aload 0, 1, 0, 0, 0, []), (60, 3, .invokevirtual 0, 22, 1, 1, 2, [897, 715, 716, 77]), (63, 2, .lstore 0, 9, 0, 0, 0, []), (65, 1, .aload 0, 0, 0, 0, 0, []), (66, 1, .aload 0, 1, 0, 0, 0, []),
  (67, 2, .iload 0, 7, 0, 0, 0, []), (69, 3, .invokevirtual 0, 81, 3, 9, 0, [909, 911, 23, 84]), (72, 2, .lload 0, 9, 0, 0, 0, []), (74, 2, .lload 0, 4, 0, 0, 0, []), (76, 1, .lcmp, 0, 0, 0, 0, []), (77, 3, .ifCond .gt 0, 95, 0, 0, 0, []),
  (80, 2, .lload 0, 9, 0, 0, 0, []), (82, 2, .lload 0, 4, 0, 0, 0, []), (84, 1, .lcmp, 0, 0, 0, 0, []), (85, 3, .ifCond .ne 0, 106, 0, 0, 0, []), (88, 2, .iload 0, 8, 0, 0, 0, []), (90, 2, .iload 0, 6, 0, 0, 0, []),
  (92, 3, .if_icmp .ge 0, 106, 0, 0, 0, []), (95, 2, .iload 0, 7, 0, 0, 0, []), (97, 1, .istore 0, 3, 0, 0, 0, []), (98, 2, .lload 0, 9, 0, 0, 0, []), (100, 2, .lstore 0, 4, 0, 0, 0, []), (102, 2, .iload 0, 8, 0, 0, 0, []),
  (104, 2, .istore 0, 6, 0, 0, 0, []), (106, 3, .iinc 0 0, 7, 0, 0, 1, []), (109, 3, .goto 0, 14, 0, 0, 0, []), (112, 1, .iload 0, 3, 0, 0, 0, []), (113, 1, .ireturn, 0, 0, 0, 0, [])
  ]
def mc_X9_costOf : List mv_E := [
  (0, 1, .iconst 0, 0, 0, 0, 0, []), (1, 1, .istore 0, 3, 0, 0, 0, []), (2, 1, .iconst 0, 0, 0, 0, 0, []), (3, 2, .istore 0, 4, 0, 0, 0, []), (5, 2, .iload 0, 4, 0, 0, 0, []), (7, 1, .aload 0, 1, 0, 0, 0, []),
  (8, 3, .getfield 0, 2, 0, 0, 0, [290]), (11, 3, .if_icmp .ge 0, 39, 0, 0, 0, []), (14, 1, .iload 0, 2, 0, 0, 0, []), (15, 2, .iload 0, 4, 0, 0, 0, []), (17, 1, .ishr, 0, 0, 0, 0, []), (18, 1, .iconst 0, 0, 0, 0, 1, []),
  (19, 1, .iand, 0, 0, 0, 0, []), (20, 3, .ifCond .eq 0, 33, 0, 0, 0, []), (23, 1, .iload 0, 3, 0, 0, 0, []), (24, 1, .aload 0, 1, 0, 0, 0, []), (25, 3, .getfield 0, 2, 4, 2, 0, [299]), (28, 2, .iload 0, 4, 0, 0, 0, []),
  (30, 1, .iaload, 0, 0, 0, 0, []), (31, 1, .iadd, 0, 0, 0, 0, []), (32, 1, .istore 0, 3, 0, 0, 0, []), (33, 3, .iinc 0 0, 4, 0, 0, 1, []), (36, 3, .goto 0, 5, 0, 0, 0, []), (39, 1, .iload 0, 3, 0, 0, 0, []),
  (40, 1, .ireturn, 0, 0, 0, 0, [])
  ]
def mc_X9_build : List mv_E := [
  (0, 1, .aload 0, 0, 0, 0, 0, []), (1, 1, .aload 0, 1, 0, 0, 0, []), (2, 3, .getfield 0, 1, 0, 2, 0, [362]), (5, 1, .iload 0, 2, 0, 0, 0, []), (6, 1, .iconst 0, 0, 0, 0, 1, []), (7, 3, .invokevirtual 0, 82, 4, 9, 0, [902, 904, 22, 84]),
  (10, 1, .aload 0, 1, 0, 0, 0, []), (11, 3, .getfield 0, 1, 1, 2, 0, [364]), (14, 1, .aload 0, 1, 0, 0, 0, []), (15, 3, .getfield 0, 1, 0, 2, 0, [362]), (18, 3, .getfield 0, 10, 0, 2, 0, [314]), (21, 3, .invokevirtual 0, 69, 2, 8, 0, [907, 606, 607, 82]),
  (24, 1, .aload 0, 1, 0, 0, 0, []), (25, 3, .invokevirtual 0, 15, 1, 1, 0, [908, 610, 611, 77]), (28, 1, .return_, 0, 0, 0, 0, [])
  ]
def mc_X9_tearDown : List mv_E := [
  (0, 1, .aload 0, 0, 0, 0, 0, []), (1, 1, .aload 0, 1, 0, 0, 0, []), (2, 3, .getfield 0, 1, 0, 2, 0, [362]), (5, 1, .iload 0, 2, 0, 0, 0, []), (6, 1, .iconst 0, 0, 0, 0, 0, []), (7, 3, .invokevirtual 0, 82, 4, 9, 0, [902, 904, 22, 84]),
  (10, 1, .aload 0, 1, 0, 0, 0, []), (11, 3, .invokevirtual 0, 12, 1, 1, 0, [913, 537, 538, 77]), (14, 1, .return_, 0, 0, 0, 0, [])
  ]
def mc_X9_layRoads : List mv_E := [
  (0, 1, .aload 0, 1, 0, 0, 0, []), (1, 3, .getfield 0, 10, 2, 2, 0, [323]), (4, 2, .astore 0, 4, 0, 0, 0, []), (6, 1, .iconst 0, 0, 0, 0, 0, []), (7, 2, .istore 0, 5, 0, 0, 0, []), (9, 2, .iload 0, 5, 0, 0, 0, []),
  (11, 2, .aload 0, 4, 0, 0, 0, []), (13, 3, .getfield 0, 2, 0, 0, 0, [290]), (16, 3, .if_icmp .ge 0, 73, 0, 0, 0, []), (19, 1, .iload 0, 2, 0, 0, 0, []), (20, 2, .iload 0, 5, 0, 0, 0, []), (22, 1, .ishr, 0, 0, 0, 0, []),
  (23, 1, .iconst 0, 0, 0, 0, 1, []), (24, 1, .iand, 0, 0, 0, 0, []), (25, 3, .ifCond .eq 0, 67, 0, 0, 0, []), (28, 1, .aload 0, 1, 0, 0, 0, []), (29, 3, .getfield 0, 10, 0, 2, 0, [314]), (32, 2, .aload 0, 4, 0, 0, 0, []),
  (34, 3, .getfield 0, 2, 1, 2, 0, [293]), (37, 2, .iload 0, 5, 0, 0, 0, []), (39, 1, .iaload, 0, 0, 0, 0, []), (40, 2, .aload 0, 4, 0, 0, 0, []), (42, 3, .getfield 0, 2, 2, 2, 0, [295]), (45, 2, .iload 0, 5, 0, 0, 0, []),
  (47, 1, .iaload, 0, 0, 0, 0, []), (48, 1, .iload 0, 3, 0, 0, 0, []), (49, 3, .ifCond .eq 0, 63, 0, 0, 0, []), (52, 2, .aload 0, 4, 0, 0, 0, []), (54, 3, .getfield 0, 2, 3, 2, 0, [297]), (57, 2, .iload 0, 5, 0, 0, 0, []),
  (59, 1, .iaload, 0, 0, 0, 0, []), (60, 3, .goto 0, 64, 0, 0, 0, []), (63, 1, .iconst 0, 0, 0, 0, 0, []), (64, 3, .invokevirtual 0, 8, 4, 0, 0, [906, 569, 570, 79]), (67, 3, .iinc 0 0, 5, 0, 0, 1, []), (70, 3, .goto 0, 9, 0, 0, 0, []),
  (73, 1, .return_, 0, 0, 0, 0, [])
  ]
def mc_X10_init : List mv_E := [
  (0, 1, .aload 0, 0, 0, 0, 0, []), (1, 3, .invokespecial 0, 0, 0, 1, 0, [139, 95, 96]), (4, 1, .aload 0, 0, 0, 0, 0, []), (5, 3, .new 0, 0, 13, 0, 0, [140, 141, 79]), (8, 1, .dup, 0, 0, 0, 0, []), (9, 3, .invokespecial 0, 0, 1, 10, 439, [142, 143, 79]),
  (12, 3, .putfield 0, 10, 0, 2, 0, [311]), (15, 1, .aload 0, 0, 0, 0, 0, []), (16, 3, .new 0, 7, 14, 0, 0, [217, 218, 80]), (19, 1, .dup, 0, 0, 0, 0, []), (20, 3, .invokespecial 0, 57, 1, 14, 300, [219, 220, 80]), (23, 3, .putfield 0, 10, 1, 2, 0, [317]),
  (26, 1, .aload 0, 0, 0, 0, 0, []), (27, 3, .new 0, 2, 5, 0, 0, [283, 284, 81]), (30, 1, .dup, 0, 0, 0, 0, []), (31, 3, .invokespecial 0, 31, 1, 6, 32, [285, 286, 81]), (34, 3, .putfield 0, 10, 2, 2, 0, [321]), (37, 1, .return_, 0, 0, 0, 0, [])
  ]
def mc_X10_takeFrom : List mv_E := [
  (0, 1, .aload 0, 0, 0, 0, 0, []), (1, 3, .getfield 0, 10, 0, 2, 0, [311]), (4, 1, .aload 0, 1, 0, 0, 0, []), (5, 3, .getfield 0, 10, 0, 2, 0, [311]), (8, 3, .invokevirtual 0, 3, 2, 0, 0, [1002, 1003, 1004, 79]), (11, 1, .aload 0, 0, 0, 0, 0, []),
  (12, 3, .getfield 0, 10, 1, 2, 0, [317]), (15, 1, .aload 0, 1, 0, 0, 0, []), (16, 3, .getfield 0, 10, 1, 2, 0, [317]), (19, 3, .invokevirtual 0, 60, 2, 7, 0, [1007, 1008, 1009, 80]), (22, 1, .aload 0, 0, 0, 0, 0, []), (23, 3, .getfield 0, 10, 2, 2, 0, [321]),
  (26, 1, .aload 0, 1, 0, 0, 0, []), (27, 3, .getfield 0, 10, 2, 2, 0, [321]), (30, 3, .invokevirtual 0, 33, 2, 2, 0, [1012, 1013, 1014, 81]), (33, 1, .return_, 0, 0, 0, 0, [])
  ]
def mc_X11_init : List mv_E := [
  (0, 1, .aload 0, 0, 0, 0, 0, []), (1, 3, .invokespecial 0, 0, 0, 1, 0, [94, 95, 96]), (4, 1, .aload 0, 0, 0, 0, 0, []), (5, 3, .new 0, 5, 2, 0, 0, [97, 98, 75]), (8, 1, .dup, 0, 0, 0, 0, []), (9, 3, .invokespecial 0, 45, 1, 3, 60, [99, 100, 75]),
  (12, 3, .putfield 0, 11, 0, 2, 0, [464]), (15, 1, .aload 0, 0, 0, 0, 0, []), (16, 3, .new 0, 4, 2, 0, 0, [114, 115, 76]), (19, 1, .dup, 0, 0, 0, 0, []), (20, 3, .invokespecial 0, 42, 1, 3, 48, [116, 117, 76]), (23, 3, .putfield 0, 11, 1, 2, 0, [465]),
  (26, 1, .aload 0, 0, 0, 0, 0, []), (27, 3, .new 0, 1, 8, 0, 0, [128, 129, 77]), (30, 1, .dup, 0, 0, 0, 0, []), (31, 3, .invokespecial 0, 11, 1, 39, 2636, [130, 131, 77]), (34, 3, .putfield 0, 11, 2, 2, 0, [466]), (37, 1, .aload 0, 0, 0, 0, 0, []),
  (38, 1, .aload 0, 0, 0, 0, 0, []), (39, 3, .getfield 0, 11, 2, 2, 0, [466]), (42, 3, .getfield 0, 1, 0, 2, 0, [359]), (45, 3, .putfield 0, 11, 3, 2, 0, [467]), (48, 1, .aload 0, 0, 0, 0, 0, []), (49, 1, .aload 0, 0, 0, 0, 0, []),
  (50, 3, .getfield 0, 11, 3, 2, 0, [467]), (53, 3, .getfield 0, 10, 0, 2, 0, [313]), (56, 3, .putfield 0, 11, 4, 2, 0, [468]), (59, 1, .aload 0, 0, 0, 0, 0, []), (60, 1, .aload 0, 0, 0, 0, 0, []), (61, 3, .getfield 0, 11, 3, 2, 0, [467]),
  (64, 3, .getfield 0, 10, 1, 2, 0, [319]), (67, 3, .putfield 0, 11, 5, 2, 0, [469]), (70, 1, .aload 0, 0, 0, 0, 0, []), (71, 1, .aload 0, 0, 0, 0, 0, []), (72, 3, .getfield 0, 11, 3, 2, 0, [467]), (75, 3, .getfield 0, 10, 2, 2, 0, [322]),
  (78, 3, .putfield 0, 11, 6, 2, 0, [470]), (81, 1, .aload 0, 0, 0, 0, 0, []), (82, 3, .new 0, 10, 3, 0, 0, [395, 135, 78]), (85, 1, .dup, 0, 0, 0, 0, []), (86, 3, .invokespecial 0, 83, 1, 29, 803, [396, 137, 78]), (89, 3, .putfield 0, 11, 7, 2, 0, [471]),
  (92, 1, .aload 0, 0, 0, 0, 0, []), (93, 1, .iconst 0, 0, 0, 0, 0, []), (94, 3, .putfield 0, 11, 8, 1, 0, [472]), (97, 1, .aload 0, 0, 0, 0, 0, []), (98, 3, .new 0, 6, 4, 0, 0, [397, 398, 83]), (101, 1, .dup, 0, 0, 0, 0, []),
  (102, 3, .invokespecial 0, 49, 1, 6, 978, [399, 400, 83]), (105, 3, .putfield 0, 11, 9, 2, 0, [473]), (108, 1, .aload 0, 0, 0, 0, 0, []), (109, 3, .new 0, 9, 1, 0, 0, [416, 417, 84]), (112, 1, .dup, 0, 0, 0, 0, []), (113, 3, .invokespecial 0, 73, 1, 3, 48, [418, 419, 84]),
  (116, 3, .putfield 0, 11, 10, 2, 0, [474]), (119, 1, .aload 0, 0, 0, 0, 0, []), (120, 3, .new 0, 3, 9, 0, 0, [426, 427, 85]), (123, 1, .dup, 0, 0, 0, 0, []), (124, 3, .invokespecial 0, 34, 1, 9, 127, [428, 429, 85]), (127, 3, .putfield 0, 11, 11, 2, 0, [475]),
  (130, 1, .aload 0, 0, 0, 0, 0, []), (131, 2, .iconst 0, 0, 0, 0, 7, []), (133, 2, .newarray .int, 100, 0, 0, 0, [113]), (135, 3, .putfield 0, 11, 12, 2, 0, [476]), (138, 1, .return_, 0, 0, 0, 0, [])
  ]
def mc_X11_feed : List mv_E := [
  (0, 1, .iload 0, 1, 0, 0, 0, []), (1, 1, .iconst 0, 0, 0, 0, 1, []), (2, 3, .if_icmp .ge 0, 12, 0, 0, 0, []), (5, 1, .aload 0, 0, 0, 0, 0, []), (6, 2, .iconst 0, 0, 0, 0, (-4), []), (8, 3, .invokevirtual 0, 126, 2, 11, 1, [508, 510, 0, 74]),
  (11, 1, .ireturn, 0, 0, 0, 0, []), (12, 1, .iload 0, 1, 0, 0, 0, []), (13, 2, .iconst 0, 0, 0, 0, 8, []), (15, 3, .if_icmp .gt 0, 32, 0, 0, 0, []), (18, 1, .aload 0, 0, 0, 0, 0, []), (19, 3, .getfield 0, 11, 0, 2, 0, [464]),
  (22, 3, .getfield 0, 5, 1, 0, 0, [107]), (25, 1, .iload 0, 1, 0, 0, 0, []), (26, 1, .iadd, 0, 0, 0, 0, []), (27, 2, .iconst 0, 0, 0, 0, 60, []), (29, 3, .if_icmp .le 0, 39, 0, 0, 0, []), (32, 1, .aload 0, 0, 0, 0, 0, []),
  (33, 2, .iconst 0, 0, 0, 0, (-6), []), (35, 3, .invokevirtual 0, 126, 2, 11, 1, [508, 510, 0, 74]), (38, 1, .ireturn, 0, 0, 0, 0, []), (39, 1, .aload 0, 0, 0, 0, 0, []), (40, 3, .getfield 0, 11, 0, 2, 0, [464]), (43, 1, .iload 0, 1, 0, 0, 0, []),
  (44, 1, .lload 0, 2, 0, 0, 0, []), (45, 3, .invokevirtual 0, 46, 3, 5, 0, [512, 513, 514, 75]), (48, 1, .aload 0, 0, 0, 0, 0, []), (49, 3, .getfield 0, 11, 0, 2, 0, [464]), (52, 3, .getfield 0, 5, 1, 0, 0, [107]), (55, 1, .ireturn, 0, 0, 0, 0, [])
  ]
def mc_X11_read : List mv_E := [
  (0, 1, .aload 0, 0, 0, 0, 0, []), (1, 3, .getfield 0, 11, 0, 2, 0, [464]), (4, 3, .invokevirtual 0, 47, 1, 5, 1, [521, 522, 523, 75]), (7, 1, .istore 0, 1, 0, 0, 0, []), (8, 1, .iload 0, 1, 0, 0, 0, []), (9, 1, .iconst 0, 0, 0, 0, (-1), []),
  (10, 3, .if_icmp .eq 0, 26, 0, 0, 0, []), (13, 1, .aload 0, 0, 0, 0, 0, []), (14, 3, .getfield 0, 11, 0, 2, 0, [464]), (17, 1, .iconst 0, 0, 0, 0, 0, []), (18, 3, .putfield 0, 5, 1, 0, 0, [107]), (21, 2, .iconst 0, 0, 0, 0, (-20), []),
  (23, 1, .iload 0, 1, 0, 0, 0, []), (24, 1, .isub, 0, 0, 0, 0, []), (25, 1, .ireturn, 0, 0, 0, 0, []), (26, 1, .aload 0, 0, 0, 0, 0, []), (27, 3, .getfield 0, 11, 4, 2, 0, [468]), (30, 1, .aload 0, 0, 0, 0, 0, []),
  (31, 3, .getfield 0, 11, 0, 2, 0, [464]), (34, 3, .invokevirtual 0, 1, 2, 0, 0, [528, 529, 530, 79]), (37, 1, .aload 0, 0, 0, 0, 0, []), (38, 3, .getfield 0, 11, 6, 2, 0, [470]), (41, 1, .iconst 0, 0, 0, 0, 0, []), (42, 3, .putfield 0, 2, 0, 0, 0, [291]),
  (45, 1, .aload 0, 0, 0, 0, 0, []), (46, 3, .getfield 0, 11, 0, 2, 0, [464]), (49, 1, .iconst 0, 0, 0, 0, 0, []), (50, 3, .putfield 0, 5, 1, 0, 0, [107]), (53, 1, .aload 0, 0, 0, 0, 0, []), (54, 3, .getfield 0, 11, 2, 2, 0, [466]),
  (57, 3, .invokevirtual 0, 12, 1, 1, 0, [536, 537, 538, 77]), (60, 1, .aload 0, 0, 0, 0, 0, []), (61, 3, .getfield 0, 11, 4, 2, 0, [468]), (64, 3, .getfield 0, 0, 2, 0, 0, [155]), (67, 1, .ireturn, 0, 0, 0, 0, [])
  ]
def mc_X11_acre : List mv_E := [
  (0, 1, .aload 0, 0, 0, 0, 0, []), (1, 3, .getfield 0, 11, 4, 2, 0, [468]), (4, 1, .iload 0, 1, 0, 0, 0, []), (5, 3, .invokevirtual 0, 4, 2, 0, 1, [544, 545, 546, 79]), (8, 1, .istore 0, 3, 0, 0, 0, []), (9, 1, .iload 0, 3, 0, 0, 0, []),
  (10, 1, .iconst 0, 0, 0, 0, (-1), []), (11, 3, .if_icmp .ne 0, 20, 0, 0, 0, []), (14, 1, .aload 0, 0, 0, 0, 0, []), (15, 1, .iconst 0, 0, 0, 0, (-1), []), (16, 3, .invokevirtual 0, 126, 2, 11, 1, [508, 510, 0, 74]), (19, 1, .ireturn, 0, 0, 0, 0, []),
  (20, 1, .iload 0, 2, 0, 0, 0, []), (21, 35, .tableswitch 0 0 0 #[], 122, 0, 0, 0, [56, 66, 76, 86, 113]), (56, 1, .aload 0, 0, 0, 0, 0, []), (57, 3, .getfield 0, 11, 4, 2, 0, [468]), (60, 3, .getfield 0, 0, 6, 2, 0, [169]), (63, 1, .iload 0, 3, 0, 0, 0, []),
  (64, 1, .iaload, 0, 0, 0, 0, []), (65, 1, .ireturn, 0, 0, 0, 0, []), (66, 1, .aload 0, 0, 0, 0, 0, []), (67, 3, .getfield 0, 11, 4, 2, 0, [468]), (70, 3, .getfield 0, 0, 7, 2, 0, [173]), (73, 1, .iload 0, 3, 0, 0, 0, []),
  (74, 1, .iaload, 0, 0, 0, 0, []), (75, 1, .ireturn, 0, 0, 0, 0, []), (76, 1, .aload 0, 0, 0, 0, 0, []), (77, 3, .getfield 0, 11, 4, 2, 0, [468]), (80, 3, .getfield 0, 0, 9, 2, 0, [180]), (83, 1, .iload 0, 3, 0, 0, 0, []),
  (84, 1, .iaload, 0, 0, 0, 0, []), (85, 1, .ireturn, 0, 0, 0, 0, []), (86, 1, .aload 0, 0, 0, 0, 0, []), (87, 3, .getfield 0, 11, 4, 2, 0, [468]), (90, 3, .getfield 0, 0, 8, 2, 0, [175]), (93, 1, .iload 0, 3, 0, 0, 0, []),
  (94, 1, .iaload, 0, 0, 0, 0, []), (95, 3, .ifCond .ge 0, 103, 0, 0, 0, []), (98, 2, .iconst 0, 0, 0, 0, (-9), []), (100, 3, .goto 0, 112, 0, 0, 0, []), (103, 1, .aload 0, 0, 0, 0, 0, []), (104, 3, .getfield 0, 11, 4, 2, 0, [468]),
  (107, 3, .getfield 0, 0, 8, 2, 0, [175]), (110, 1, .iload 0, 3, 0, 0, 0, []), (111, 1, .iaload, 0, 0, 0, 0, []), (112, 1, .ireturn, 0, 0, 0, 0, []), (113, 1, .aload 0, 0, 0, 0, 0, []), (114, 3, .getfield 0, 11, 4, 2, 0, [468]),
  (117, 1, .iload 0, 3, 0, 0, 0, []), (118, 3, .invokevirtual 0, 9, 2, 0, 1, [548, 549, 550, 79]), (121, 1, .ireturn, 0, 0, 0, 0, []), (122, 1, .aload 0, 0, 0, 0, 0, []), (123, 2, .iconst 0, 0, 0, 0, (-2), []), (125, 3, .invokevirtual 0, 126, 2, 11, 1, [508, 510, 0, 74]),
  (128, 1, .ireturn, 0, 0, 0, 0, [])
  ]
def mc_X11_road : List mv_E := [
  (0, 1, .aload 0, 0, 0, 0, 0, []), (1, 3, .getfield 0, 11, 4, 2, 0, [468]), (4, 1, .iload 0, 1, 0, 0, 0, []), (5, 3, .invokevirtual 0, 4, 2, 0, 1, [544, 545, 546, 79]), (8, 2, .istore 0, 4, 0, 0, 0, []), (10, 1, .aload 0, 0, 0, 0, 0, []),
  (11, 3, .getfield 0, 11, 4, 2, 0, [468]), (14, 2, .iload 0, 4, 0, 0, 0, []), (16, 1, .aload 0, 0, 0, 0, 0, []), (17, 3, .getfield 0, 11, 4, 2, 0, [468]), (20, 1, .iload 0, 2, 0, 0, 0, []), (21, 3, .invokevirtual 0, 4, 2, 0, 1, [544, 545, 546, 79]),
  (24, 3, .invokevirtual 0, 6, 3, 0, 1, [556, 557, 558, 79]), (27, 2, .istore 0, 5, 0, 0, 0, []), (29, 2, .iload 0, 5, 0, 0, 0, []), (31, 1, .iconst 0, 0, 0, 0, (-1), []), (32, 3, .if_icmp .ne 0, 41, 0, 0, 0, []), (35, 1, .aload 0, 0, 0, 0, 0, []),
  (36, 1, .iconst 0, 0, 0, 0, (-1), []), (37, 3, .invokevirtual 0, 126, 2, 11, 1, [508, 510, 0, 74]), (40, 1, .ireturn, 0, 0, 0, 0, []), (41, 1, .iload 0, 3, 0, 0, 0, []), (42, 3, .ifCond .lt 0, 50, 0, 0, 0, []), (45, 1, .iload 0, 3, 0, 0, 0, []),
  (46, 1, .iconst 0, 0, 0, 0, 3, []), (47, 3, .if_icmp .le 0, 57, 0, 0, 0, []), (50, 1, .aload 0, 0, 0, 0, 0, []), (51, 2, .iconst 0, 0, 0, 0, (-2), []), (53, 3, .invokevirtual 0, 126, 2, 11, 1, [508, 510, 0, 74]), (56, 1, .ireturn, 0, 0, 0, 0, []),
  (57, 1, .aload 0, 0, 0, 0, 0, []), (58, 3, .getfield 0, 11, 4, 2, 0, [468]), (61, 2, .iload 0, 4, 0, 0, 0, []), (63, 2, .iload 0, 5, 0, 0, 0, []), (65, 3, .invokevirtual 0, 7, 3, 0, 1, [564, 565, 566, 79]), (68, 2, .istore 0, 6, 0, 0, 0, []),
  (70, 2, .iload 0, 6, 0, 0, 0, []), (72, 3, .ifCond .ne 0, 98, 0, 0, 0, []), (75, 1, .iload 0, 3, 0, 0, 0, []), (76, 3, .ifCond .eq 0, 98, 0, 0, 0, []), (79, 1, .aload 0, 0, 0, 0, 0, []), (80, 3, .getfield 0, 11, 4, 2, 0, [468]),
  (83, 3, .getfield 0, 0, 3, 0, 0, [159]), (86, 2, .iconst 0, 0, 0, 0, 12, []), (88, 3, .if_icmp .lt 0, 98, 0, 0, 0, []), (91, 1, .aload 0, 0, 0, 0, 0, []), (92, 2, .iconst 0, 0, 0, 0, (-6), []), (94, 3, .invokevirtual 0, 126, 2, 11, 1, [508, 510, 0, 74]),
  (97, 1, .ireturn, 0, 0, 0, 0, []), (98, 1, .aload 0, 0, 0, 0, 0, []), (99, 3, .getfield 0, 11, 4, 2, 0, [468]), (102, 1, .dup, 0, 0, 0, 0, []), (103, 3, .getfield 0, 0, 3, 0, 0, [159]), (106, 1, .iload 0, 3, 0, 0, 0, []),
  (107, 3, .ifCond .ne 0, 114, 0, 0, 0, []), (110, 1, .iconst 0, 0, 0, 0, 0, []), (111, 3, .goto 0, 115, 0, 0, 0, []), (114, 1, .iconst 0, 0, 0, 0, 1, []), (115, 2, .iload 0, 6, 0, 0, 0, []), (117, 3, .ifCond .ne 0, 124, 0, 0, 0, []),
  (120, 1, .iconst 0, 0, 0, 0, 0, []), (121, 3, .goto 0, 125, 0, 0, 0, []), (124, 1, .iconst 0, 0, 0, 0, 1, []), (125, 1, .isub, 0, 0, 0, 0, []), (126, 1, .iadd, 0, 0, 0, 0, []), (127, 3, .putfield 0, 0, 3, 0, 0, [159]),
  (130, 1, .aload 0, 0, 0, 0, 0, []), (131, 3, .getfield 0, 11, 4, 2, 0, [468]), (134, 2, .iload 0, 4, 0, 0, 0, []), (136, 2, .iload 0, 5, 0, 0, 0, []), (138, 1, .iload 0, 3, 0, 0, 0, []), (139, 3, .invokevirtual 0, 8, 4, 0, 0, [568, 569, 570, 79]),
  (142, 1, .aload 0, 0, 0, 0, 0, []), (143, 3, .getfield 0, 11, 2, 2, 0, [466]), (146, 3, .invokevirtual 0, 12, 1, 1, 0, [536, 537, 538, 77]), (149, 2, .iload 0, 6, 0, 0, 0, []), (151, 1, .ireturn, 0, 0, 0, 0, [])
  ]
def mc_X11_step : List mv_E := [
  (0, 1, .iload 0, 1, 0, 0, 0, []), (1, 3, .ifCond .lt 0, 9, 0, 0, 0, []), (4, 1, .iload 0, 1, 0, 0, 0, []), (5, 1, .iconst 0, 0, 0, 0, 3, []), (6, 3, .if_icmp .le 0, 16, 0, 0, 0, []), (9, 1, .aload 0, 0, 0, 0, 0, []),
  (10, 2, .iconst 0, 0, 0, 0, (-2), []), (12, 3, .invokevirtual 0, 126, 2, 11, 1, [508, 510, 0, 74]), (15, 1, .ireturn, 0, 0, 0, 0, []), (16, 1, .iload 0, 2, 0, 0, 0, []), (17, 1, .iconst 0, 0, 0, 0, 1, []), (18, 2, .iconst 0, 0, 0, 0, 99, []),
  (20, 3, .invokestatic 0, 128, 3, 1, 1, [576, 577, 74]), (23, 1, .istore 0, 3, 0, 0, 0, []), (24, 1, .iload 0, 3, 0, 0, 0, []), (25, 3, .ifCond .eq 0, 34, 0, 0, 0, []), (28, 1, .aload 0, 0, 0, 0, 0, []), (29, 1, .iload 0, 3, 0, 0, 0, []),
  (30, 3, .invokevirtual 0, 126, 2, 11, 1, [508, 510, 0, 74]), (33, 1, .ireturn, 0, 0, 0, 0, []), (34, 1, .aload 0, 0, 0, 0, 0, []), (35, 3, .getfield 0, 11, 4, 2, 0, [468]), (38, 3, .getfield 0, 0, 12, 2, 0, [189]), (41, 1, .iload 0, 1, 0, 0, 0, []),
  (42, 1, .iaload, 0, 0, 0, 0, []), (43, 2, .istore 0, 4, 0, 0, 0, []), (45, 1, .aload 0, 0, 0, 0, 0, []), (46, 3, .getfield 0, 11, 4, 2, 0, [468]), (49, 3, .getfield 0, 0, 12, 2, 0, [189]), (52, 1, .iload 0, 1, 0, 0, 0, []),
  (53, 1, .iload 0, 2, 0, 0, 0, []), (54, 1, .iastore, 0, 0, 0, 0, []), (55, 1, .aload 0, 0, 0, 0, 0, []), (56, 3, .getfield 0, 11, 2, 2, 0, [466]), (59, 3, .invokevirtual 0, 12, 1, 1, 0, [536, 537, 538, 77]), (62, 2, .iload 0, 4, 0, 0, 0, []),
  (64, 1, .ireturn, 0, 0, 0, 0, [])
  ]
def mc_X11_toll : List mv_E := [
  (0, 1, .aload 0, 0, 0, 0, 0, []), (1, 3, .getfield 0, 11, 4, 2, 0, [468]), (4, 1, .iload 0, 1, 0, 0, 0, []), (5, 3, .invokevirtual 0, 4, 2, 0, 1, [544, 545, 546, 79]), (8, 1, .istore 0, 3, 0, 0, 0, []), (9, 1, .iload 0, 3, 0, 0, 0, []),
  (10, 1, .iconst 0, 0, 0, 0, (-1), []), (11, 3, .if_icmp .ne 0, 20, 0, 0, 0, []), (14, 1, .aload 0, 0, 0, 0, 0, []), (15, 1, .iconst 0, 0, 0, 0, (-1), []), (16, 3, .invokevirtual 0, 126, 2, 11, 1, [508, 510, 0, 74]), (19, 1, .ireturn, 0, 0, 0, 0, []),
  (20, 1, .iload 0, 2, 0, 0, 0, []), (21, 1, .iconst 0, 0, 0, 0, 0, []), (22, 2, .iconst 0, 0, 0, 0, 99, []), (24, 3, .invokestatic 0, 128, 3, 1, 1, [576, 577, 74]), (27, 2, .istore 0, 4, 0, 0, 0, []), (29, 2, .iload 0, 4, 0, 0, 0, []),
  (31, 3, .ifCond .eq 0, 41, 0, 0, 0, []), (34, 1, .aload 0, 0, 0, 0, 0, []), (35, 2, .iload 0, 4, 0, 0, 0, []), (37, 3, .invokevirtual 0, 126, 2, 11, 1, [508, 510, 0, 74]), (40, 1, .ireturn, 0, 0, 0, 0, []), (41, 1, .aload 0, 0, 0, 0, 0, []),
  (42, 3, .getfield 0, 11, 4, 2, 0, [468]), (45, 3, .getfield 0, 0, 7, 2, 0, [173]), (48, 1, .iload 0, 3, 0, 0, 0, []), (49, 1, .iaload, 0, 0, 0, 0, []), (50, 2, .istore 0, 5, 0, 0, 0, []), (52, 1, .aload 0, 0, 0, 0, 0, []),
  (53, 3, .getfield 0, 11, 4, 2, 0, [468]), (56, 3, .getfield 0, 0, 7, 2, 0, [173]), (59, 1, .iload 0, 3, 0, 0, 0, []), (60, 1, .iload 0, 2, 0, 0, 0, []), (61, 1, .iastore, 0, 0, 0, 0, []), (62, 1, .aload 0, 0, 0, 0, 0, []),
  (63, 3, .getfield 0, 11, 2, 2, 0, [466]), (66, 3, .invokevirtual 0, 12, 1, 1, 0, [536, 537, 538, 77]), (69, 2, .iload 0, 5, 0, 0, 0, []), (71, 1, .ireturn, 0, 0, 0, 0, [])
  ]
def mc_X11_way : List mv_E := [
  (0, 1, .aload 0, 0, 0, 0, 0, []), (1, 3, .getfield 0, 11, 4, 2, 0, [468]), (4, 1, .iload 0, 1, 0, 0, 0, []), (5, 3, .invokevirtual 0, 4, 2, 0, 1, [544, 545, 546, 79]), (8, 1, .istore 0, 3, 0, 0, 0, []), (9, 1, .aload 0, 0, 0, 0, 0, []),
  (10, 3, .getfield 0, 11, 4, 2, 0, [468]), (13, 1, .iload 0, 2, 0, 0, 0, []), (14, 3, .invokevirtual 0, 4, 2, 0, 1, [544, 545, 546, 79]), (17, 2, .istore 0, 4, 0, 0, 0, []), (19, 1, .iload 0, 3, 0, 0, 0, []), (20, 1, .iconst 0, 0, 0, 0, (-1), []),
  (21, 3, .if_icmp .eq 0, 30, 0, 0, 0, []), (24, 2, .iload 0, 4, 0, 0, 0, []), (26, 1, .iconst 0, 0, 0, 0, (-1), []), (27, 3, .if_icmp .ne 0, 36, 0, 0, 0, []), (30, 1, .aload 0, 0, 0, 0, 0, []), (31, 1, .iconst 0, 0, 0, 0, (-1), []),
  (32, 3, .invokevirtual 0, 126, 2, 11, 1, [508, 510, 0, 74]), (35, 1, .ireturn, 0, 0, 0, 0, []), (36, 1, .aload 0, 0, 0, 0, 0, []), (37, 3, .getfield 0, 11, 2, 2, 0, [466]), (40, 3, .invokevirtual 0, 14, 1, 1, 0, [587, 588, 589, 77]), (43, 1, .aload 0, 0, 0, 0, 0, []),
  (44, 3, .getfield 0, 11, 2, 2, 0, [466]), (47, 3, .getfield 0, 1, 1, 2, 0, [365]), (50, 1, .aload 0, 0, 0, 0, 0, []), (51, 3, .getfield 0, 11, 4, 2, 0, [468]), (54, 1, .iload 0, 3, 0, 0, 0, []), (55, 2, .iload 0, 4, 0, 0, 0, []),
  (57, 3, .invokevirtual 0, 70, 4, 8, 1, [650, 651, 652, 82]), (60, 1, .ireturn, 0, 0, 0, 0, [])
  ]
def mc_X11_market : List mv_E := [
  (0, 1, .aload 0, 0, 0, 0, 0, []), (1, 3, .getfield 0, 11, 4, 2, 0, [468]), (4, 1, .iload 0, 1, 0, 0, 0, []), (5, 3, .invokevirtual 0, 4, 2, 0, 1, [544, 545, 546, 79]), (8, 1, .istore 0, 2, 0, 0, 0, []), (9, 1, .iload 0, 2, 0, 0, 0, []),
  (10, 1, .iconst 0, 0, 0, 0, (-1), []), (11, 3, .if_icmp .ne 0, 20, 0, 0, 0, []), (14, 1, .aload 0, 0, 0, 0, 0, []), (15, 1, .iconst 0, 0, 0, 0, (-1), []), (16, 3, .invokevirtual 0, 126, 2, 11, 1, [508, 510, 0, 74]), (19, 1, .ireturn, 0, 0, 0, 0, []),
  (20, 1, .aload 0, 0, 0, 0, 0, []), (21, 3, .getfield 0, 11, 4, 2, 0, [468]), (24, 1, .iload 0, 2, 0, 0, 0, []), (25, 3, .invokevirtual 0, 9, 2, 0, 1, [548, 549, 550, 79]), (28, 2, .iconst 0, 0, 0, 0, (-9), []), (30, 3, .if_icmp .eq 0, 40, 0, 0, 0, []),
  (33, 1, .aload 0, 0, 0, 0, 0, []), (34, 2, .iconst 0, 0, 0, 0, (-3), []), (36, 3, .invokevirtual 0, 126, 2, 11, 1, [508, 510, 0, 74]), (39, 1, .ireturn, 0, 0, 0, 0, []), (40, 1, .aload 0, 0, 0, 0, 0, []), (41, 3, .getfield 0, 11, 4, 2, 0, [468]),
  (44, 3, .getfield 0, 0, 4, 0, 0, [164]), (47, 1, .iconst 0, 0, 0, 0, 3, []), (48, 3, .if_icmp .lt 0, 58, 0, 0, 0, []), (51, 1, .aload 0, 0, 0, 0, 0, []), (52, 2, .iconst 0, 0, 0, 0, (-6), []), (54, 3, .invokevirtual 0, 126, 2, 11, 1, [508, 510, 0, 74]),
  (57, 1, .ireturn, 0, 0, 0, 0, []), (58, 1, .aload 0, 0, 0, 0, 0, []), (59, 3, .getfield 0, 11, 4, 2, 0, [468]), (62, 3, .getfield 0, 0, 4, 0, 0, [164]), (65, 1, .istore 0, 3, 0, 0, 0, []), (66, 1, .aload 0, 0, 0, 0, 0, []),
  (67, 3, .getfield 0, 11, 4, 2, 0, [468]), (70, 3, .getfield 0, 0, 11, 2, 0, [186]), (73, 1, .iload 0, 3, 0, 0, 0, []), (74, 1, .iload 0, 2, 0, 0, 0, []), (75, 1, .iastore, 0, 0, 0, 0, []), (76, 1, .aload 0, 0, 0, 0, 0, []),
  (77, 3, .getfield 0, 11, 4, 2, 0, [468]), (80, 1, .iload 0, 3, 0, 0, 0, []), (81, 1, .iconst 0, 0, 0, 0, 1, []), (82, 1, .iadd, 0, 0, 0, 0, []), (83, 3, .putfield 0, 0, 4, 0, 0, [164]), (86, 1, .aload 0, 0, 0, 0, 0, []),
  (87, 3, .getfield 0, 11, 2, 2, 0, [466]), (90, 3, .invokevirtual 0, 12, 1, 1, 0, [536, 537, 538, 77]), (93, 1, .iload 0, 3, 0, 0, 0, []), (94, 1, .ireturn, 0, 0, 0, 0, [])
  ]
def mc_X11_use : List mv_E := [
  (0, 1, .iload 0, 1, 0, 0, 0, []), (1, 3, .ifCond .lt 0, 9, 0, 0, 0, []), (4, 1, .iload 0, 1, 0, 0, 0, []), (5, 1, .iconst 0, 0, 0, 0, 5, []), (6, 3, .if_icmp .le 0, 16, 0, 0, 0, []), (9, 1, .aload 0, 0, 0, 0, 0, []),
  (10, 2, .iconst 0, 0, 0, 0, (-2), []), (12, 3, .invokevirtual 0, 126, 2, 11, 1, [508, 510, 0, 74]), (15, 1, .ireturn, 0, 0, 0, 0, []), (16, 1, .iload 0, 2, 0, 0, 0, []), (17, 3, .ifCond .lt 0, 34, 0, 0, 0, []), (20, 1, .iload 0, 3, 0, 0, 0, []),
  (21, 3, .ifCond .lt 0, 34, 0, 0, 0, []), (24, 2, .iload 0, 4, 0, 0, 0, []), (26, 3, .ifCond .lt 0, 34, 0, 0, 0, []), (29, 2, .iload 0, 5, 0, 0, 0, []), (31, 3, .ifCond .ge 0, 41, 0, 0, 0, []), (34, 1, .aload 0, 0, 0, 0, 0, []),
  (35, 2, .iconst 0, 0, 0, 0, (-4), []), (37, 3, .invokevirtual 0, 126, 2, 11, 1, [508, 510, 0, 74]), (40, 1, .ireturn, 0, 0, 0, 0, []), (41, 1, .iload 0, 2, 0, 0, 0, []), (42, 2, .iconst 0, 0, 0, 0, 99, []), (44, 3, .if_icmp .gt 0, 80, 0, 0, 0, []),
  (47, 1, .iload 0, 3, 0, 0, 0, []), (48, 2, .iconst 0, 0, 0, 0, 99, []), (50, 3, .if_icmp .gt 0, 80, 0, 0, 0, []), (53, 2, .iload 0, 4, 0, 0, 0, []), (55, 3, .iconst 0, 0, 0, 0, 9999, []), (58, 3, .if_icmp .gt 0, 80, 0, 0, 0, []),
  (61, 2, .iload 0, 5, 0, 0, 0, []), (63, 2, .iconst 0, 0, 0, 0, 99, []), (65, 3, .if_icmp .gt 0, 80, 0, 0, 0, []), (68, 1, .aload 0, 0, 0, 0, 0, []), (69, 3, .getfield 0, 11, 5, 2, 0, [469]), (72, 3, .getfield 0, 7, 0, 0, 0, [227]),
  (75, 2, .iconst 0, 0, 0, 0, 6, []), (77, 3, .if_icmp .lt 0, 87, 0, 0, 0, []), (80, 1, .aload 0, 0, 0, 0, 0, []), (81, 2, .iconst 0, 0, 0, 0, (-6), []), (83, 3, .invokevirtual 0, 126, 2, 11, 1, [508, 510, 0, 74]), (86, 1, .ireturn, 0, 0, 0, 0, []),
  (87, 1, .aload 0, 0, 0, 0, 0, []), (88, 3, .getfield 0, 11, 5, 2, 0, [469]), (91, 1, .iload 0, 1, 0, 0, 0, []), (92, 1, .iload 0, 2, 0, 0, 0, []), (93, 1, .iload 0, 3, 0, 0, 0, []), (94, 2, .iload 0, 4, 0, 0, 0, []),
  (96, 2, .iload 0, 5, 0, 0, 0, []), (98, 3, .invokevirtual 0, 58, 6, 7, 1, [662, 663, 664, 80]), (101, 2, .istore 0, 6, 0, 0, 0, []), (103, 1, .aload 0, 0, 0, 0, 0, []), (104, 3, .getfield 0, 11, 2, 2, 0, [466]), (107, 3, .invokevirtual 0, 13, 1, 1, 0, [666, 667, 668, 77]),
  (110, 2, .iload 0, 6, 0, 0, 0, []), (112, 1, .ireturn, 0, 0, 0, 0, [])
  ]
def mc_X11_year : List mv_E := [
  (0, 1, .aload 0, 0, 0, 0, 0, []), (1, 1, .iload 0, 1, 0, 0, 0, []), (2, 3, .invokevirtual 0, 129, 2, 11, 1, [674, 676, 4, 74]), (5, 3, .ifCond .eq 0, 14, 0, 0, 0, []), (8, 1, .aload 0, 0, 0, 0, 0, []), (9, 1, .iconst 0, 0, 0, 0, (-1), []),
  (10, 3, .invokevirtual 0, 126, 2, 11, 1, [508, 510, 0, 74]), (13, 1, .ireturn, 0, 0, 0, 0, []), (14, 1, .aload 0, 0, 0, 0, 0, []), (15, 3, .getfield 0, 11, 5, 2, 0, [469]), (18, 3, .getfield 0, 7, 2, 2, 0, [234]), (21, 1, .iload 0, 1, 0, 0, 0, []),
  (22, 1, .iaload, 0, 0, 0, 0, []), (23, 1, .iconst 0, 0, 0, 0, 3, []), (24, 3, .if_icmp .eq 0, 34, 0, 0, 0, []), (27, 1, .aload 0, 0, 0, 0, 0, []), (28, 2, .iconst 0, 0, 0, 0, (-3), []), (30, 3, .invokevirtual 0, 126, 2, 11, 1, [508, 510, 0, 74]),
  (33, 1, .ireturn, 0, 0, 0, 0, []), (34, 1, .iload 0, 2, 0, 0, 0, []), (35, 2, .iconst 0, 0, 0, 0, (-99), []), (37, 3, .if_icmp .ge 0, 47, 0, 0, 0, []), (40, 1, .aload 0, 0, 0, 0, 0, []), (41, 2, .iconst 0, 0, 0, 0, (-4), []),
  (43, 3, .invokevirtual 0, 126, 2, 11, 1, [508, 510, 0, 74]), (46, 1, .ireturn, 0, 0, 0, 0, []), (47, 1, .iload 0, 2, 0, 0, 0, []), (48, 2, .iconst 0, 0, 0, 0, 99, []), (50, 3, .if_icmp .gt 0, 67, 0, 0, 0, []), (53, 1, .aload 0, 0, 0, 0, 0, []),
  (54, 3, .getfield 0, 11, 5, 2, 0, [469]), (57, 3, .getfield 0, 7, 8, 2, 0, [243]), (60, 1, .iload 0, 1, 0, 0, 0, []), (61, 1, .iaload, 0, 0, 0, 0, []), (62, 2, .iconst 0, 0, 0, 0, 6, []), (64, 3, .if_icmp .lt 0, 74, 0, 0, 0, []),
  (67, 1, .aload 0, 0, 0, 0, 0, []), (68, 2, .iconst 0, 0, 0, 0, (-6), []), (70, 3, .invokevirtual 0, 126, 2, 11, 1, [508, 510, 0, 74]), (73, 1, .ireturn, 0, 0, 0, 0, []), (74, 1, .aload 0, 0, 0, 0, 0, []), (75, 3, .getfield 0, 11, 5, 2, 0, [469]),
  (78, 3, .getfield 0, 7, 8, 2, 0, [243]), (81, 1, .iload 0, 1, 0, 0, 0, []), (82, 1, .dup2, 0, 0, 0, 0, []), (83, 1, .iaload, 0, 0, 0, 0, []), (84, 1, .iconst 0, 0, 0, 0, 1, []), (85, 1, .iadd, 0, 0, 0, 0, []),
  (86, 1, .iastore, 0, 0, 0, 0, []), (87, 1, .aload 0, 0, 0, 0, 0, []), (88, 3, .getfield 0, 11, 5, 2, 0, [469]), (91, 3, .getfield 0, 7, 9, 2, 0, [245]), (94, 1, .iload 0, 1, 0, 0, 0, []), (95, 1, .dup2, 0, 0, 0, 0, []),
  (96, 1, .iaload, 0, 0, 0, 0, []), (97, 1, .iload 0, 2, 0, 0, 0, []), (98, 1, .iadd, 0, 0, 0, 0, []), (99, 1, .iastore, 0, 0, 0, 0, []), (100, 1, .aload 0, 0, 0, 0, 0, []), (101, 3, .getfield 0, 11, 2, 2, 0, [466]),
  (104, 3, .invokevirtual 0, 13, 1, 1, 0, [666, 667, 668, 77]), (107, 1, .aload 0, 0, 0, 0, 0, []), (108, 3, .getfield 0, 11, 5, 2, 0, [469]), (111, 3, .getfield 0, 7, 8, 2, 0, [243]), (114, 1, .iload 0, 1, 0, 0, 0, []), (115, 1, .iaload, 0, 0, 0, 0, []),
  (116, 1, .ireturn, 0, 0, 0, 0, [])
  ]
def mc_X11_price : List mv_E := [
  (0, 1, .aload 0, 0, 0, 0, 0, []), (1, 1, .iload 0, 1, 0, 0, 0, []), (2, 3, .invokevirtual 0, 129, 2, 11, 1, [674, 676, 4, 74]), (5, 3, .ifCond .ne 0, 16, 0, 0, 0, []), (8, 1, .aload 0, 0, 0, 0, 0, []), (9, 1, .iload 0, 2, 0, 0, 0, []),
  (10, 3, .invokevirtual 0, 130, 2, 11, 1, [682, 684, 5, 74]), (13, 3, .ifCond .eq 0, 22, 0, 0, 0, []), (16, 1, .aload 0, 0, 0, 0, 0, []), (17, 1, .iconst 0, 0, 0, 0, (-1), []), (18, 3, .invokevirtual 0, 126, 2, 11, 1, [508, 510, 0, 74]), (21, 1, .ireturn, 0, 0, 0, 0, []),
  (22, 1, .iload 0, 3, 0, 0, 0, []), (23, 1, .iconst 0, 0, 0, 0, 0, []), (24, 3, .iconst 0, 0, 0, 0, 999, []), (27, 3, .invokestatic 0, 128, 3, 1, 1, [576, 577, 74]), (30, 2, .istore 0, 4, 0, 0, 0, []), (32, 2, .iload 0, 4, 0, 0, 0, []),
  (34, 3, .ifCond .eq 0, 44, 0, 0, 0, []), (37, 1, .aload 0, 0, 0, 0, 0, []), (38, 2, .iload 0, 4, 0, 0, 0, []), (40, 3, .invokevirtual 0, 126, 2, 11, 1, [508, 510, 0, 74]), (43, 1, .ireturn, 0, 0, 0, 0, []), (44, 1, .iload 0, 1, 0, 0, 0, []),
  (45, 1, .iload 0, 2, 0, 0, 0, []), (46, 3, .invokestatic 0, 131, 2, 1, 1, [686, 687, 74]), (49, 2, .istore 0, 5, 0, 0, 0, []), (51, 1, .aload 0, 0, 0, 0, 0, []), (52, 3, .getfield 0, 11, 5, 2, 0, [469]), (55, 3, .getfield 0, 7, 10, 2, 0, [248]),
  (58, 2, .iload 0, 5, 0, 0, 0, []), (60, 1, .iaload, 0, 0, 0, 0, []), (61, 2, .istore 0, 6, 0, 0, 0, []), (63, 1, .aload 0, 0, 0, 0, 0, []), (64, 3, .getfield 0, 11, 5, 2, 0, [469]), (67, 3, .getfield 0, 7, 10, 2, 0, [248]),
  (70, 2, .iload 0, 5, 0, 0, 0, []), (72, 1, .iload 0, 3, 0, 0, 0, []), (73, 1, .iastore, 0, 0, 0, 0, []), (74, 1, .aload 0, 0, 0, 0, 0, []), (75, 3, .getfield 0, 11, 2, 2, 0, [466]), (78, 3, .invokevirtual 0, 13, 1, 1, 0, [666, 667, 668, 77]),
  (81, 2, .iload 0, 6, 0, 0, 0, []), (83, 1, .ireturn, 0, 0, 0, 0, [])
  ]
def mc_X11_tax : List mv_E := [
  (0, 1, .iload 0, 1, 0, 0, 0, []), (1, 1, .iconst 0, 0, 0, 0, (-1), []), (2, 3, .if_icmp .ne 0, 11, 0, 0, 0, []), (5, 1, .aload 0, 0, 0, 0, 0, []), (6, 1, .iload 0, 2, 0, 0, 0, []), (7, 3, .invokevirtual 0, 98, 2, 11, 1, [693, 695, 6, 74]),
  (10, 1, .ireturn, 0, 0, 0, 0, []), (11, 1, .aload 0, 0, 0, 0, 0, []), (12, 1, .iload 0, 1, 0, 0, 0, []), (13, 3, .invokevirtual 0, 129, 2, 11, 1, [674, 676, 4, 74]), (16, 3, .ifCond .eq 0, 25, 0, 0, 0, []), (19, 1, .aload 0, 0, 0, 0, 0, []),
  (20, 1, .iconst 0, 0, 0, 0, (-1), []), (21, 3, .invokevirtual 0, 126, 2, 11, 1, [508, 510, 0, 74]), (24, 1, .ireturn, 0, 0, 0, 0, []), (25, 1, .iload 0, 2, 0, 0, 0, []), (26, 1, .iconst 0, 0, 0, 0, 0, []), (27, 3, .iconst 0, 0, 0, 0, 9999, []),
  (30, 3, .invokestatic 0, 128, 3, 1, 1, [576, 577, 74]), (33, 1, .istore 0, 3, 0, 0, 0, []), (34, 1, .iload 0, 3, 0, 0, 0, []), (35, 3, .ifCond .eq 0, 44, 0, 0, 0, []), (38, 1, .aload 0, 0, 0, 0, 0, []), (39, 1, .iload 0, 3, 0, 0, 0, []),
  (40, 3, .invokevirtual 0, 126, 2, 11, 1, [508, 510, 0, 74]), (43, 1, .ireturn, 0, 0, 0, 0, []), (44, 1, .aload 0, 0, 0, 0, 0, []), (45, 3, .getfield 0, 11, 5, 2, 0, [469]), (48, 3, .getfield 0, 7, 7, 2, 0, [240]), (51, 1, .iload 0, 1, 0, 0, 0, []),
  (52, 1, .iaload, 0, 0, 0, 0, []), (53, 2, .istore 0, 4, 0, 0, 0, []), (55, 1, .aload 0, 0, 0, 0, 0, []), (56, 3, .getfield 0, 11, 5, 2, 0, [469]), (59, 3, .getfield 0, 7, 7, 2, 0, [240]), (62, 1, .iload 0, 1, 0, 0, 0, []),
  (63, 1, .iload 0, 2, 0, 0, 0, []), (64, 1, .iastore, 0, 0, 0, 0, []), (65, 1, .aload 0, 0, 0, 0, 0, []), (66, 3, .getfield 0, 11, 2, 2, 0, [466]), (69, 3, .invokevirtual 0, 13, 1, 1, 0, [666, 667, 668, 77]), (72, 2, .iload 0, 4, 0, 0, 0, []),
  (74, 1, .ireturn, 0, 0, 0, 0, [])
  ]
def mc_X11_rentTax : List mv_E := [
  (0, 1, .iload 0, 1, 0, 0, 0, []), (1, 1, .iconst 0, 0, 0, 0, 0, []), (2, 2, .iconst 0, 0, 0, 0, 100, []), (4, 3, .invokestatic 0, 128, 3, 1, 1, [576, 577, 74]), (7, 1, .istore 0, 2, 0, 0, 0, []), (8, 1, .iload 0, 2, 0, 0, 0, []),
  (9, 3, .ifCond .eq 0, 18, 0, 0, 0, []), (12, 1, .aload 0, 0, 0, 0, 0, []), (13, 1, .iload 0, 2, 0, 0, 0, []), (14, 3, .invokevirtual 0, 126, 2, 11, 1, [508, 510, 0, 74]), (17, 1, .ireturn, 0, 0, 0, 0, []), (18, 1, .aload 0, 0, 0, 0, 0, []),
  (19, 3, .getfield 0, 11, 5, 2, 0, [469]), (22, 3, .getfield 0, 7, 1, 0, 0, [230]), (25, 1, .istore 0, 3, 0, 0, 0, []), (26, 1, .aload 0, 0, 0, 0, 0, []), (27, 3, .getfield 0, 11, 5, 2, 0, [469]), (30, 1, .iload 0, 1, 0, 0, 0, []),
  (31, 3, .putfield 0, 7, 1, 0, 0, [230]), (34, 1, .iload 0, 3, 0, 0, 0, []), (35, 1, .ireturn, 0, 0, 0, 0, [])
  ]
def mc_X11_bid : List mv_E := [
  (0, 1, .aload 0, 0, 0, 0, 0, []), (1, 3, .getfield 0, 11, 4, 2, 0, [468]), (4, 1, .iload 0, 2, 0, 0, 0, []), (5, 3, .invokevirtual 0, 4, 2, 0, 1, [544, 545, 546, 79]), (8, 2, .istore 0, 4, 0, 0, 0, []), (10, 1, .aload 0, 0, 0, 0, 0, []),
  (11, 1, .iload 0, 1, 0, 0, 0, []), (12, 3, .invokevirtual 0, 129, 2, 11, 1, [674, 676, 4, 74]), (15, 3, .ifCond .ne 0, 32, 0, 0, 0, []), (18, 2, .iload 0, 4, 0, 0, 0, []), (20, 1, .iconst 0, 0, 0, 0, (-1), []), (21, 3, .if_icmp .eq 0, 32, 0, 0, 0, []),
  (24, 1, .aload 0, 0, 0, 0, 0, []), (25, 1, .iload 0, 3, 0, 0, 0, []), (26, 3, .invokevirtual 0, 130, 2, 11, 1, [682, 684, 5, 74]), (29, 3, .ifCond .eq 0, 38, 0, 0, 0, []), (32, 1, .aload 0, 0, 0, 0, 0, []), (33, 1, .iconst 0, 0, 0, 0, (-1), []),
  (34, 3, .invokevirtual 0, 127, 2, 11, 2, [701, 703, 7, 74]), (37, 1, .lreturn, 0, 0, 0, 0, []), (38, 1, .aload 0, 0, 0, 0, 0, []), (39, 3, .getfield 0, 11, 2, 2, 0, [466]), (42, 3, .invokevirtual 0, 14, 1, 1, 0, [587, 588, 589, 77]), (45, 1, .aload 0, 0, 0, 0, 0, []),
  (46, 3, .getfield 0, 11, 2, 2, 0, [466]), (49, 3, .getfield 0, 1, 2, 2, 0, [368]), (52, 1, .iload 0, 1, 0, 0, 0, []), (53, 1, .iload 0, 3, 0, 0, 0, []), (54, 3, .invokestatic 0, 131, 2, 1, 1, [686, 687, 74]), (57, 2, .iconst 0, 0, 0, 0, 48, []),
  (59, 1, .imul, 0, 0, 0, 0, []), (60, 2, .iload 0, 4, 0, 0, 0, []), (62, 1, .iadd, 0, 0, 0, 0, []), (63, 1, .laload, 0, 0, 0, 0, []), (64, 1, .lreturn, 0, 0, 0, 0, [])
  ]
def mc_X11_goes : List mv_E := [
  (0, 1, .aload 0, 0, 0, 0, 0, []), (1, 3, .getfield 0, 11, 4, 2, 0, [468]), (4, 1, .iload 0, 1, 0, 0, 0, []), (5, 3, .invokevirtual 0, 4, 2, 0, 1, [544, 545, 546, 79]), (8, 1, .istore 0, 3, 0, 0, 0, []), (9, 1, .iload 0, 3, 0, 0, 0, []),
  (10, 1, .iconst 0, 0, 0, 0, (-1), []), (11, 3, .if_icmp .ne 0, 20, 0, 0, 0, []), (14, 1, .aload 0, 0, 0, 0, 0, []), (15, 1, .iconst 0, 0, 0, 0, (-1), []), (16, 3, .invokevirtual 0, 126, 2, 11, 1, [508, 510, 0, 74]), (19, 1, .ireturn, 0, 0, 0, 0, []),
  (20, 1, .iload 0, 2, 0, 0, 0, []), (21, 3, .ifCond .lt 0, 29, 0, 0, 0, []), (24, 1, .iload 0, 2, 0, 0, 0, []), (25, 1, .iconst 0, 0, 0, 0, 1, []), (26, 3, .if_icmp .le 0, 36, 0, 0, 0, []), (29, 1, .aload 0, 0, 0, 0, 0, []),
  (30, 2, .iconst 0, 0, 0, 0, (-2), []), (32, 3, .invokevirtual 0, 126, 2, 11, 1, [508, 510, 0, 74]), (35, 1, .ireturn, 0, 0, 0, 0, []), (36, 1, .aload 0, 0, 0, 0, 0, []), (37, 3, .getfield 0, 11, 2, 2, 0, [466]), (40, 3, .invokevirtual 0, 14, 1, 1, 0, [587, 588, 589, 77]),
  (43, 1, .aload 0, 0, 0, 0, 0, []), (44, 3, .getfield 0, 11, 2, 2, 0, [466]), (47, 3, .getfield 0, 1, 3, 2, 0, [372]), (50, 1, .iload 0, 3, 0, 0, 0, []), (51, 1, .iaload, 0, 0, 0, 0, []), (52, 2, .istore 0, 4, 0, 0, 0, []),
  (54, 2, .iload 0, 4, 0, 0, 0, []), (56, 1, .iconst 0, 0, 0, 0, (-1), []), (57, 3, .if_icmp .ne 0, 63, 0, 0, 0, []), (60, 2, .iconst 0, 0, 0, 0, (-9), []), (62, 1, .ireturn, 0, 0, 0, 0, []), (63, 1, .iload 0, 2, 0, 0, 0, []),
  (64, 3, .ifCond .ne 0, 74, 0, 0, 0, []), (67, 2, .iload 0, 4, 0, 0, 0, []), (69, 1, .iconst 0, 0, 0, 0, 3, []), (70, 1, .idiv, 0, 0, 0, 0, []), (71, 3, .goto 0, 78, 0, 0, 0, []), (74, 2, .iload 0, 4, 0, 0, 0, []),
  (76, 1, .iconst 0, 0, 0, 0, 3, []), (77, 1, .irem, 0, 0, 0, 0, []), (78, 1, .ireturn, 0, 0, 0, 0, [])
  ]
def mc_X11_rent : List mv_E := [
  (0, 1, .aload 0, 0, 0, 0, 0, []), (1, 3, .getfield 0, 11, 4, 2, 0, [468]), (4, 1, .iload 0, 1, 0, 0, 0, []), (5, 3, .invokevirtual 0, 4, 2, 0, 1, [544, 545, 546, 79]), (8, 1, .istore 0, 2, 0, 0, 0, []), (9, 1, .iload 0, 1, 0, 0, 0, []),
  (10, 1, .iconst 0, 0, 0, 0, (-1), []), (11, 3, .if_icmp .eq 0, 25, 0, 0, 0, []), (14, 1, .iload 0, 2, 0, 0, 0, []), (15, 1, .iconst 0, 0, 0, 0, (-1), []), (16, 3, .if_icmp .ne 0, 25, 0, 0, 0, []), (19, 1, .aload 0, 0, 0, 0, 0, []),
  (20, 1, .iconst 0, 0, 0, 0, (-1), []), (21, 3, .invokevirtual 0, 127, 2, 11, 2, [701, 703, 7, 74]), (24, 1, .lreturn, 0, 0, 0, 0, []), (25, 1, .aload 0, 0, 0, 0, 0, []), (26, 3, .getfield 0, 11, 2, 2, 0, [466]), (29, 3, .invokevirtual 0, 14, 1, 1, 0, [587, 588, 589, 77]),
  (32, 1, .iload 0, 1, 0, 0, 0, []), (33, 1, .iconst 0, 0, 0, 0, (-1), []), (34, 3, .if_icmp .ne 0, 47, 0, 0, 0, []), (37, 1, .aload 0, 0, 0, 0, 0, []), (38, 3, .getfield 0, 11, 2, 2, 0, [466]), (41, 3, .invokevirtual 0, 22, 1, 1, 2, [714, 715, 716, 77]),
  (44, 3, .goto 0, 55, 0, 0, 0, []), (47, 1, .aload 0, 0, 0, 0, 0, []), (48, 3, .getfield 0, 11, 2, 2, 0, [466]), (51, 1, .iload 0, 2, 0, 0, 0, []), (52, 3, .invokevirtual 0, 20, 2, 1, 2, [727, 719, 720, 77]), (55, 1, .lreturn, 0, 0, 0, 0, [])
  ]
def mc_X11_comes : List mv_E := [
  (0, 1, .aload 0, 0, 0, 0, 0, []), (1, 1, .iload 0, 1, 0, 0, 0, []), (2, 3, .invokevirtual 0, 129, 2, 11, 1, [674, 676, 4, 74]), (5, 3, .ifCond .ne 0, 16, 0, 0, 0, []), (8, 1, .aload 0, 0, 0, 0, 0, []), (9, 1, .iload 0, 2, 0, 0, 0, []),
  (10, 3, .invokevirtual 0, 130, 2, 11, 1, [682, 684, 5, 74]), (13, 3, .ifCond .eq 0, 22, 0, 0, 0, []), (16, 1, .aload 0, 0, 0, 0, 0, []), (17, 1, .iconst 0, 0, 0, 0, (-1), []), (18, 3, .invokevirtual 0, 126, 2, 11, 1, [508, 510, 0, 74]), (21, 1, .ireturn, 0, 0, 0, 0, []),
  (22, 1, .aload 0, 0, 0, 0, 0, []), (23, 3, .getfield 0, 11, 2, 2, 0, [466]), (26, 3, .invokevirtual 0, 14, 1, 1, 0, [587, 588, 589, 77]), (29, 1, .aload 0, 0, 0, 0, 0, []), (30, 3, .getfield 0, 11, 2, 2, 0, [466]), (33, 1, .iload 0, 1, 0, 0, 0, []),
  (34, 1, .iload 0, 2, 0, 0, 0, []), (35, 3, .invokestatic 0, 131, 2, 1, 1, [686, 687, 74]), (38, 3, .invokevirtual 0, 24, 2, 1, 1, [732, 733, 734, 77]), (41, 1, .ireturn, 0, 0, 0, 0, [])
  ]
def mc_X11_piece : List mv_E := [
  (0, 1, .aload 0, 0, 0, 0, 0, []), (1, 1, .iload 0, 1, 0, 0, 0, []), (2, 3, .invokevirtual 0, 129, 2, 11, 1, [674, 676, 4, 74]), (5, 3, .ifCond .ne 0, 16, 0, 0, 0, []), (8, 1, .aload 0, 0, 0, 0, 0, []), (9, 1, .iload 0, 2, 0, 0, 0, []),
  (10, 3, .invokevirtual 0, 130, 2, 11, 1, [682, 684, 5, 74]), (13, 3, .ifCond .eq 0, 22, 0, 0, 0, []), (16, 1, .aload 0, 0, 0, 0, 0, []), (17, 1, .iconst 0, 0, 0, 0, (-1), []), (18, 3, .invokevirtual 0, 126, 2, 11, 1, [508, 510, 0, 74]), (21, 1, .ireturn, 0, 0, 0, 0, []),
  (22, 1, .iload 0, 3, 0, 0, 0, []), (23, 3, .ifCond .lt 0, 31, 0, 0, 0, []), (26, 2, .iload 0, 4, 0, 0, 0, []), (28, 3, .ifCond .ge 0, 38, 0, 0, 0, []), (31, 1, .aload 0, 0, 0, 0, 0, []), (32, 2, .iconst 0, 0, 0, 0, (-4), []),
  (34, 3, .invokevirtual 0, 126, 2, 11, 1, [508, 510, 0, 74]), (37, 1, .ireturn, 0, 0, 0, 0, []), (38, 1, .iload 0, 1, 0, 0, 0, []), (39, 1, .iload 0, 2, 0, 0, 0, []), (40, 3, .invokestatic 0, 131, 2, 1, 1, [686, 687, 74]), (43, 2, .istore 0, 5, 0, 0, 0, []),
  (45, 1, .iload 0, 3, 0, 0, 0, []), (46, 3, .iconst 0, 0, 0, 0, 9999, []), (49, 3, .if_icmp .gt 0, 75, 0, 0, 0, []), (52, 2, .iload 0, 4, 0, 0, 0, []), (54, 3, .iconst 0, 0, 0, 0, 999, []), (57, 3, .if_icmp .gt 0, 75, 0, 0, 0, []),
  (60, 1, .aload 0, 0, 0, 0, 0, []), (61, 3, .getfield 0, 11, 5, 2, 0, [469]), (64, 3, .getfield 0, 7, 11, 2, 0, [251]), (67, 2, .iload 0, 5, 0, 0, 0, []), (69, 1, .iaload, 0, 0, 0, 0, []), (70, 2, .iconst 0, 0, 0, 0, 6, []),
  (72, 3, .if_icmp .lt 0, 82, 0, 0, 0, []), (75, 1, .aload 0, 0, 0, 0, 0, []), (76, 2, .iconst 0, 0, 0, 0, (-6), []), (78, 3, .invokevirtual 0, 126, 2, 11, 1, [508, 510, 0, 74]), (81, 1, .ireturn, 0, 0, 0, 0, []), (82, 1, .aload 0, 0, 0, 0, 0, []),
  (83, 3, .getfield 0, 11, 5, 2, 0, [469]), (86, 2, .iload 0, 5, 0, 0, 0, []), (88, 1, .iload 0, 3, 0, 0, 0, []), (89, 2, .iload 0, 4, 0, 0, 0, []), (91, 3, .invokevirtual 0, 59, 4, 7, 0, [741, 742, 743, 80]), (94, 1, .aload 0, 0, 0, 0, 0, []),
  (95, 3, .getfield 0, 11, 5, 2, 0, [469]), (98, 3, .getfield 0, 7, 11, 2, 0, [251]), (101, 2, .iload 0, 5, 0, 0, 0, []), (103, 1, .iaload, 0, 0, 0, 0, []), (104, 1, .ireturn, 0, 0, 0, 0, [])
  ]
def mc_X11_bought : List mv_E := [
  (0, 1, .aload 0, 0, 0, 0, 0, []), (1, 1, .iload 0, 1, 0, 0, 0, []), (2, 3, .invokevirtual 0, 129, 2, 11, 1, [674, 676, 4, 74]), (5, 3, .ifCond .ne 0, 16, 0, 0, 0, []), (8, 1, .aload 0, 0, 0, 0, 0, []), (9, 1, .iload 0, 2, 0, 0, 0, []),
  (10, 3, .invokevirtual 0, 130, 2, 11, 1, [682, 684, 5, 74]), (13, 3, .ifCond .eq 0, 22, 0, 0, 0, []), (16, 1, .aload 0, 0, 0, 0, 0, []), (17, 1, .iconst 0, 0, 0, 0, (-1), []), (18, 3, .invokevirtual 0, 126, 2, 11, 1, [508, 510, 0, 74]), (21, 1, .ireturn, 0, 0, 0, 0, []),
  (22, 1, .iload 0, 3, 0, 0, 0, []), (23, 1, .iconst 0, 0, 0, 0, 0, []), (24, 3, .iconst 0, 0, 0, 0, 999, []), (27, 3, .invokestatic 0, 128, 3, 1, 1, [576, 577, 74]), (30, 2, .istore 0, 4, 0, 0, 0, []), (32, 2, .iload 0, 4, 0, 0, 0, []),
  (34, 3, .ifCond .eq 0, 44, 0, 0, 0, []), (37, 1, .aload 0, 0, 0, 0, 0, []), (38, 2, .iload 0, 4, 0, 0, 0, []), (40, 3, .invokevirtual 0, 126, 2, 11, 1, [508, 510, 0, 74]), (43, 1, .ireturn, 0, 0, 0, 0, []), (44, 1, .aload 0, 0, 0, 0, 0, []),
  (45, 3, .getfield 0, 11, 5, 2, 0, [469]), (48, 1, .iload 0, 1, 0, 0, 0, []), (49, 1, .iload 0, 2, 0, 0, 0, []), (50, 3, .invokestatic 0, 131, 2, 1, 1, [686, 687, 74]), (53, 1, .iload 0, 3, 0, 0, 0, []), (54, 3, .invokevirtual 0, 66, 3, 7, 1, [749, 750, 751, 80]),
  (57, 1, .ireturn, 0, 0, 0, 0, [])
  ]
def mc_X11_clears : List mv_E := [
  (0, 1, .aload 0, 0, 0, 0, 0, []), (1, 1, .iload 0, 1, 0, 0, 0, []), (2, 3, .invokevirtual 0, 129, 2, 11, 1, [674, 676, 4, 74]), (5, 3, .ifCond .ne 0, 16, 0, 0, 0, []), (8, 1, .aload 0, 0, 0, 0, 0, []), (9, 1, .iload 0, 2, 0, 0, 0, []),
  (10, 3, .invokevirtual 0, 130, 2, 11, 1, [682, 684, 5, 74]), (13, 3, .ifCond .eq 0, 22, 0, 0, 0, []), (16, 1, .aload 0, 0, 0, 0, 0, []), (17, 1, .iconst 0, 0, 0, 0, (-1), []), (18, 3, .invokevirtual 0, 126, 2, 11, 1, [508, 510, 0, 74]), (21, 1, .ireturn, 0, 0, 0, 0, []),
  (22, 1, .aload 0, 0, 0, 0, 0, []), (23, 3, .getfield 0, 11, 2, 2, 0, [466]), (26, 3, .invokevirtual 0, 14, 1, 1, 0, [587, 588, 589, 77]), (29, 1, .aload 0, 0, 0, 0, 0, []), (30, 3, .getfield 0, 11, 9, 2, 0, [473]), (33, 1, .aload 0, 0, 0, 0, 0, []),
  (34, 3, .getfield 0, 11, 2, 2, 0, [466]), (37, 1, .iload 0, 1, 0, 0, 0, []), (38, 1, .iload 0, 2, 0, 0, 0, []), (39, 3, .invokestatic 0, 131, 2, 1, 1, [686, 687, 74]), (42, 3, .invokevirtual 0, 50, 3, 6, 1, [757, 758, 759, 83]), (45, 1, .ireturn, 0, 0, 0, 0, [])
  ]
def mc_X11_rounds : List mv_E := [
  (0, 1, .iload 0, 1, 0, 0, 0, []), (1, 1, .iconst 0, 0, 0, 0, 1, []), (2, 2, .iconst 0, 0, 0, 0, 20, []), (4, 3, .invokestatic 0, 128, 3, 1, 1, [576, 577, 74]), (7, 1, .istore 0, 2, 0, 0, 0, []), (8, 1, .iload 0, 2, 0, 0, 0, []),
  (9, 3, .ifCond .eq 0, 18, 0, 0, 0, []), (12, 1, .aload 0, 0, 0, 0, 0, []), (13, 1, .iload 0, 2, 0, 0, 0, []), (14, 3, .invokevirtual 0, 126, 2, 11, 1, [508, 510, 0, 74]), (17, 1, .ireturn, 0, 0, 0, 0, []), (18, 1, .aload 0, 0, 0, 0, 0, []),
  (19, 3, .getfield 0, 11, 2, 2, 0, [466]), (22, 3, .invokevirtual 0, 14, 1, 1, 0, [587, 588, 589, 77]), (25, 1, .aload 0, 0, 0, 0, 0, []), (26, 3, .getfield 0, 11, 9, 2, 0, [473]), (29, 1, .aload 0, 0, 0, 0, 0, []), (30, 3, .getfield 0, 11, 2, 2, 0, [466]),
  (33, 1, .iload 0, 1, 0, 0, 0, []), (34, 3, .invokevirtual 0, 53, 3, 6, 1, [789, 790, 791, 83]), (37, 1, .istore 0, 3, 0, 0, 0, []), (38, 1, .aload 0, 0, 0, 0, 0, []), (39, 3, .getfield 0, 11, 2, 2, 0, [466]), (42, 3, .invokevirtual 0, 13, 1, 1, 0, [666, 667, 668, 77]),
  (45, 1, .iload 0, 3, 0, 0, 0, []), (46, 1, .ireturn, 0, 0, 0, 0, [])
  ]
def mc_X11_ring : List mv_E := [
  (0, 1, .aload 0, 0, 0, 0, 0, []), (1, 1, .iload 0, 1, 0, 0, 0, []), (2, 1, .iload 0, 2, 0, 0, 0, []), (3, 3, .invokevirtual 0, 109, 3, 11, 1, [803, 805, 12, 74]), (6, 1, .istore 0, 3, 0, 0, 0, []), (7, 1, .iload 0, 3, 0, 0, 0, []),
  (8, 3, .ifCond .eq 0, 17, 0, 0, 0, []), (11, 1, .aload 0, 0, 0, 0, 0, []), (12, 1, .iload 0, 3, 0, 0, 0, []), (13, 3, .invokevirtual 0, 126, 2, 11, 1, [508, 510, 0, 74]), (16, 1, .ireturn, 0, 0, 0, 0, []), (17, 1, .aload 0, 0, 0, 0, 0, []),
  (18, 3, .getfield 0, 11, 11, 2, 0, [475]), (21, 1, .aload 0, 0, 0, 0, 0, []), (22, 3, .getfield 0, 11, 5, 2, 0, [469]), (25, 1, .iload 0, 1, 0, 0, 0, []), (26, 3, .invokevirtual 0, 35, 3, 3, 0, [807, 808, 809, 85]), (29, 1, .iload 0, 2, 0, 0, 0, []),
  (30, 1, .aload 0, 0, 0, 0, 0, []), (31, 3, .getfield 0, 11, 11, 2, 0, [475]), (34, 3, .getfield 0, 3, 5, 0, 0, [438]), (37, 3, .if_icmp .ge 0, 52, 0, 0, 0, []), (40, 1, .aload 0, 0, 0, 0, 0, []), (41, 3, .getfield 0, 11, 11, 2, 0, [475]),
  (44, 3, .getfield 0, 3, 6, 2, 0, [440]), (47, 1, .iload 0, 2, 0, 0, 0, []), (48, 1, .iaload, 0, 0, 0, 0, []), (49, 3, .goto 0, 54, 0, 0, 0, []), (52, 2, .iconst 0, 0, 0, 0, (-9), []), (54, 1, .ireturn, 0, 0, 0, 0, [])
  ]
def mc_X11_edge : List mv_E := [
  (0, 1, .iload 0, 3, 0, 0, 0, []), (1, 3, .ifCond .lt 0, 9, 0, 0, 0, []), (4, 1, .iload 0, 3, 0, 0, 0, []), (5, 1, .iconst 0, 0, 0, 0, 1, []), (6, 3, .if_icmp .le 0, 16, 0, 0, 0, []), (9, 1, .aload 0, 0, 0, 0, 0, []),
  (10, 2, .iconst 0, 0, 0, 0, (-2), []), (12, 3, .invokevirtual 0, 127, 2, 11, 2, [701, 703, 7, 74]), (15, 1, .lreturn, 0, 0, 0, 0, []), (16, 1, .aload 0, 0, 0, 0, 0, []), (17, 1, .iload 0, 1, 0, 0, 0, []), (18, 1, .iload 0, 2, 0, 0, 0, []),
  (19, 3, .invokevirtual 0, 109, 3, 11, 1, [803, 805, 12, 74]), (22, 2, .istore 0, 4, 0, 0, 0, []), (24, 2, .iload 0, 4, 0, 0, 0, []), (26, 3, .ifCond .eq 0, 36, 0, 0, 0, []), (29, 1, .aload 0, 0, 0, 0, 0, []), (30, 2, .iload 0, 4, 0, 0, 0, []),
  (32, 3, .invokevirtual 0, 127, 2, 11, 2, [701, 703, 7, 74]), (35, 1, .lreturn, 0, 0, 0, 0, []), (36, 1, .aload 0, 0, 0, 0, 0, []), (37, 3, .getfield 0, 11, 11, 2, 0, [475]), (40, 1, .aload 0, 0, 0, 0, 0, []), (41, 3, .getfield 0, 11, 5, 2, 0, [469]),
  (44, 1, .iload 0, 1, 0, 0, 0, []), (45, 3, .invokevirtual 0, 35, 3, 3, 0, [807, 808, 809, 85]), (48, 1, .iload 0, 2, 0, 0, 0, []), (49, 1, .aload 0, 0, 0, 0, 0, []), (50, 3, .getfield 0, 11, 11, 2, 0, [475]), (53, 3, .getfield 0, 3, 5, 0, 0, [438]),
  (56, 3, .if_icmp .lt 0, 65, 0, 0, 0, []), (59, 1, .aload 0, 0, 0, 0, 0, []), (60, 1, .iconst 0, 0, 0, 0, (-1), []), (61, 3, .invokevirtual 0, 127, 2, 11, 2, [701, 703, 7, 74]), (64, 1, .lreturn, 0, 0, 0, 0, []), (65, 1, .iload 0, 3, 0, 0, 0, []),
  (66, 3, .ifCond .ne 0, 81, 0, 0, 0, []), (69, 1, .aload 0, 0, 0, 0, 0, []), (70, 3, .getfield 0, 11, 11, 2, 0, [475]), (73, 3, .getfield 0, 3, 7, 2, 0, [442]), (76, 1, .iload 0, 2, 0, 0, 0, []), (77, 1, .laload, 0, 0, 0, 0, []),
  (78, 3, .goto 0, 90, 0, 0, 0, []), (81, 1, .aload 0, 0, 0, 0, 0, []), (82, 3, .getfield 0, 11, 11, 2, 0, [475]), (85, 3, .getfield 0, 3, 8, 2, 0, [444]), (88, 1, .iload 0, 2, 0, 0, 0, []), (89, 1, .laload, 0, 0, 0, 0, []),
  (90, 1, .lreturn, 0, 0, 0, 0, [])
  ]
def mc_X11_unfitRing : List mv_E := [
  (0, 1, .iload 0, 1, 0, 0, 0, []), (1, 3, .ifCond .lt 0, 8, 0, 0, 0, []), (4, 1, .iload 0, 2, 0, 0, 0, []), (5, 3, .ifCond .ge 0, 11, 0, 0, 0, []), (8, 2, .iconst 0, 0, 0, 0, (-4), []), (10, 1, .ireturn, 0, 0, 0, 0, []),
  (11, 1, .iload 0, 1, 0, 0, 0, []), (12, 2, .iconst 0, 0, 0, 0, 9, []), (14, 3, .if_icmp .gt 0, 23, 0, 0, 0, []), (17, 1, .iload 0, 2, 0, 0, 0, []), (18, 2, .iconst 0, 0, 0, 0, 9, []), (20, 3, .if_icmp .le 0, 26, 0, 0, 0, []),
  (23, 2, .iconst 0, 0, 0, 0, (-6), []), (25, 1, .ireturn, 0, 0, 0, 0, []), (26, 1, .aload 0, 0, 0, 0, 0, []), (27, 3, .getfield 0, 11, 4, 2, 0, [468]), (30, 3, .getfield 0, 0, 4, 0, 0, [164]), (33, 3, .ifCond .ne 0, 41, 0, 0, 0, []),
  (36, 2, .iconst 0, 0, 0, 0, (-3), []), (38, 3, .goto 0, 42, 0, 0, 0, []), (41, 1, .iconst 0, 0, 0, 0, 0, []), (42, 1, .ireturn, 0, 0, 0, 0, [])
  ]
def mc_X11_out : List mv_E := [
  (0, 1, .aload 0, 0, 0, 0, 0, []), (1, 1, .iload 0, 1, 0, 0, 0, []), (2, 3, .invokevirtual 0, 129, 2, 11, 1, [674, 676, 4, 74]), (5, 3, .ifCond .eq 0, 14, 0, 0, 0, []), (8, 1, .aload 0, 0, 0, 0, 0, []), (9, 1, .iconst 0, 0, 0, 0, (-1), []),
  (10, 3, .invokevirtual 0, 126, 2, 11, 1, [508, 510, 0, 74]), (13, 1, .ireturn, 0, 0, 0, 0, []), (14, 1, .aload 0, 0, 0, 0, 0, []), (15, 3, .getfield 0, 11, 2, 2, 0, [466]), (18, 3, .invokevirtual 0, 14, 1, 1, 0, [587, 588, 589, 77]), (21, 1, .aload 0, 0, 0, 0, 0, []),
  (22, 3, .getfield 0, 11, 2, 2, 0, [466]), (25, 1, .iload 0, 1, 0, 0, 0, []), (26, 3, .invokevirtual 0, 26, 2, 1, 1, [847, 848, 849, 77]), (29, 1, .ireturn, 0, 0, 0, 0, [])
  ]
def mc_X11_borders : List mv_E := [
  (0, 1, .aload 0, 0, 0, 0, 0, []), (1, 3, .getfield 0, 11, 2, 2, 0, [466]), (4, 3, .invokevirtual 0, 14, 1, 1, 0, [587, 588, 589, 77]), (7, 1, .aload 0, 0, 0, 0, 0, []), (8, 3, .getfield 0, 11, 2, 2, 0, [466]), (11, 3, .invokevirtual 0, 27, 1, 1, 1, [862, 863, 864, 77]),
  (14, 1, .ireturn, 0, 0, 0, 0, [])
  ]
def mc_X11_plan : List mv_E := [
  (0, 1, .aload 0, 0, 0, 0, 0, []), (1, 3, .getfield 0, 11, 4, 2, 0, [468]), (4, 1, .iload 0, 1, 0, 0, 0, []), (5, 3, .invokevirtual 0, 4, 2, 0, 1, [544, 545, 546, 79]), (8, 2, .istore 0, 5, 0, 0, 0, []), (10, 1, .aload 0, 0, 0, 0, 0, []),
  (11, 3, .getfield 0, 11, 4, 2, 0, [468]), (14, 2, .iload 0, 5, 0, 0, 0, []), (16, 1, .aload 0, 0, 0, 0, 0, []), (17, 3, .getfield 0, 11, 4, 2, 0, [468]), (20, 1, .iload 0, 2, 0, 0, 0, []), (21, 3, .invokevirtual 0, 4, 2, 0, 1, [544, 545, 546, 79]),
  (24, 3, .invokevirtual 0, 6, 3, 0, 1, [556, 557, 558, 79]), (27, 2, .istore 0, 6, 0, 0, 0, []), (29, 2, .iload 0, 6, 0, 0, 0, []), (31, 1, .iconst 0, 0, 0, 0, (-1), []), (32, 3, .if_icmp .ne 0, 41, 0, 0, 0, []), (35, 1, .aload 0, 0, 0, 0, 0, []),
  (36, 1, .iconst 0, 0, 0, 0, (-1), []), (37, 3, .invokevirtual 0, 126, 2, 11, 1, [508, 510, 0, 74]), (40, 1, .ireturn, 0, 0, 0, 0, []), (41, 1, .iload 0, 3, 0, 0, 0, []), (42, 1, .iconst 0, 0, 0, 0, 1, []), (43, 3, .if_icmp .lt 0, 51, 0, 0, 0, []),
  (46, 1, .iload 0, 3, 0, 0, 0, []), (47, 1, .iconst 0, 0, 0, 0, 3, []), (48, 3, .if_icmp .le 0, 58, 0, 0, 0, []), (51, 1, .aload 0, 0, 0, 0, 0, []), (52, 2, .iconst 0, 0, 0, 0, (-2), []), (54, 3, .invokevirtual 0, 126, 2, 11, 1, [508, 510, 0, 74]),
  (57, 1, .ireturn, 0, 0, 0, 0, []), (58, 2, .iload 0, 4, 0, 0, 0, []), (60, 3, .ifCond .ge 0, 70, 0, 0, 0, []), (63, 1, .aload 0, 0, 0, 0, 0, []), (64, 2, .iconst 0, 0, 0, 0, (-4), []), (66, 3, .invokevirtual 0, 126, 2, 11, 1, [508, 510, 0, 74]),
  (69, 1, .ireturn, 0, 0, 0, 0, []), (70, 2, .iload 0, 4, 0, 0, 0, []), (72, 3, .iconst 0, 0, 0, 0, 99999, [875]), (75, 3, .if_icmp .gt 0, 90, 0, 0, 0, []), (78, 1, .aload 0, 0, 0, 0, 0, []), (79, 3, .getfield 0, 11, 6, 2, 0, [470]),
  (82, 3, .getfield 0, 2, 0, 0, 0, [291]), (85, 2, .iconst 0, 0, 0, 0, 8, []), (87, 3, .if_icmp .lt 0, 97, 0, 0, 0, []), (90, 1, .aload 0, 0, 0, 0, 0, []), (91, 2, .iconst 0, 0, 0, 0, (-6), []), (93, 3, .invokevirtual 0, 126, 2, 11, 1, [508, 510, 0, 74]),
  (96, 1, .ireturn, 0, 0, 0, 0, []), (97, 1, .aload 0, 0, 0, 0, 0, []), (98, 3, .getfield 0, 11, 4, 2, 0, [468]), (101, 2, .iload 0, 5, 0, 0, 0, []), (103, 2, .iload 0, 6, 0, 0, 0, []), (105, 3, .invokevirtual 0, 7, 3, 0, 1, [564, 565, 566, 79]),
  (108, 3, .ifCond .eq 0, 118, 0, 0, 0, []), (111, 1, .aload 0, 0, 0, 0, 0, []), (112, 2, .iconst 0, 0, 0, 0, (-3), []), (114, 3, .invokevirtual 0, 126, 2, 11, 1, [508, 510, 0, 74]), (117, 1, .ireturn, 0, 0, 0, 0, []), (118, 1, .aload 0, 0, 0, 0, 0, []),
  (119, 3, .getfield 0, 11, 6, 2, 0, [470]), (122, 2, .iload 0, 5, 0, 0, 0, []), (124, 2, .iload 0, 6, 0, 0, 0, []), (126, 1, .iload 0, 3, 0, 0, 0, []), (127, 2, .iload 0, 4, 0, 0, 0, []), (129, 3, .invokevirtual 0, 32, 5, 2, 1, [876, 877, 878, 81]),
  (132, 1, .ireturn, 0, 0, 0, 0, [])
  ]
def mc_X11_gain : List mv_E := [
  (0, 1, .aload 0, 0, 0, 0, 0, []), (1, 1, .iload 0, 1, 0, 0, 0, []), (2, 3, .invokevirtual 0, 116, 2, 11, 1, [884, 886, 20, 74]), (5, 1, .istore 0, 2, 0, 0, 0, []), (6, 1, .iload 0, 2, 0, 0, 0, []), (7, 3, .ifCond .eq 0, 16, 0, 0, 0, []),
  (10, 1, .aload 0, 0, 0, 0, 0, []), (11, 1, .iload 0, 2, 0, 0, 0, []), (12, 3, .invokevirtual 0, 127, 2, 11, 2, [701, 703, 7, 74]), (15, 1, .lreturn, 0, 0, 0, 0, []), (16, 1, .aload 0, 0, 0, 0, 0, []), (17, 3, .getfield 0, 11, 2, 2, 0, [466]),
  (20, 3, .invokevirtual 0, 14, 1, 1, 0, [587, 588, 589, 77]), (23, 1, .aload 0, 0, 0, 0, 0, []), (24, 3, .getfield 0, 11, 10, 2, 0, [474]), (27, 1, .aload 0, 0, 0, 0, 0, []), (28, 3, .getfield 0, 11, 2, 2, 0, [466]), (31, 1, .iload 0, 1, 0, 0, 0, []),
  (32, 3, .invokevirtual 0, 76, 3, 9, 2, [893, 894, 895, 84]), (35, 1, .lreturn, 0, 0, 0, 0, [])
  ]
def mc_X11_best : List mv_E := [
  (0, 1, .iload 0, 1, 0, 0, 0, []), (1, 1, .iconst 0, 0, 0, 0, 0, []), (2, 3, .iconst 0, 0, 0, 0, 99999, [875]), (5, 3, .invokestatic 0, 128, 3, 1, 1, [576, 577, 74]), (8, 1, .istore 0, 2, 0, 0, 0, []), (9, 1, .iload 0, 2, 0, 0, 0, []),
  (10, 3, .ifCond .eq 0, 19, 0, 0, 0, []), (13, 1, .aload 0, 0, 0, 0, 0, []), (14, 1, .iload 0, 2, 0, 0, 0, []), (15, 3, .invokevirtual 0, 126, 2, 11, 1, [508, 510, 0, 74]), (18, 1, .ireturn, 0, 0, 0, 0, []), (19, 1, .aload 0, 0, 0, 0, 0, []),
  (20, 3, .getfield 0, 11, 10, 2, 0, [474]), (23, 1, .aload 0, 0, 0, 0, 0, []), (24, 3, .getfield 0, 11, 3, 2, 0, [467]), (27, 3, .invokevirtual 0, 75, 2, 9, 1, [919, 920, 921, 84]), (30, 3, .ifCond .eq 0, 40, 0, 0, 0, []), (33, 1, .aload 0, 0, 0, 0, 0, []),
  (34, 2, .iconst 0, 0, 0, 0, (-3), []), (36, 3, .invokevirtual 0, 126, 2, 11, 1, [508, 510, 0, 74]), (39, 1, .ireturn, 0, 0, 0, 0, []), (40, 1, .aload 0, 0, 0, 0, 0, []), (41, 3, .getfield 0, 11, 2, 2, 0, [466]), (44, 3, .invokevirtual 0, 14, 1, 1, 0, [587, 588, 589, 77]),
  (47, 1, .aload 0, 0, 0, 0, 0, []), (48, 3, .getfield 0, 11, 10, 2, 0, [474]), (51, 1, .aload 0, 0, 0, 0, 0, []), (52, 3, .getfield 0, 11, 2, 2, 0, [466]), (55, 1, .iload 0, 1, 0, 0, 0, []), (56, 3, .invokevirtual 0, 78, 3, 9, 1, [924, 925, 926, 84]),
  (59, 1, .ireturn, 0, 0, 0, 0, [])
  ]
def mc_X11_losers : List mv_E := [
  (0, 1, .aload 0, 0, 0, 0, 0, []), (1, 1, .iload 0, 1, 0, 0, 0, []), (2, 3, .invokevirtual 0, 116, 2, 11, 1, [884, 886, 20, 74]), (5, 1, .istore 0, 2, 0, 0, 0, []), (6, 1, .iload 0, 2, 0, 0, 0, []), (7, 3, .ifCond .eq 0, 16, 0, 0, 0, []),
  (10, 1, .aload 0, 0, 0, 0, 0, []), (11, 1, .iload 0, 2, 0, 0, 0, []), (12, 3, .invokevirtual 0, 126, 2, 11, 1, [508, 510, 0, 74]), (15, 1, .ireturn, 0, 0, 0, 0, []), (16, 1, .aload 0, 0, 0, 0, 0, []), (17, 3, .getfield 0, 11, 2, 2, 0, [466]),
  (20, 3, .invokevirtual 0, 14, 1, 1, 0, [587, 588, 589, 77]), (23, 1, .aload 0, 0, 0, 0, 0, []), (24, 3, .getfield 0, 11, 10, 2, 0, [474]), (27, 1, .aload 0, 0, 0, 0, 0, []), (28, 3, .getfield 0, 11, 2, 2, 0, [466]), (31, 1, .iload 0, 1, 0, 0, 0, []),
  (32, 3, .invokevirtual 0, 77, 3, 9, 1, [936, 937, 938, 84]), (35, 1, .ireturn, 0, 0, 0, 0, [])
  ]
def mc_X11_unfitPlan : List mv_E := [
  (0, 1, .iload 0, 1, 0, 0, 0, []), (1, 3, .ifCond .lt 0, 15, 0, 0, 0, []), (4, 1, .iload 0, 1, 0, 0, 0, []), (5, 1, .aload 0, 0, 0, 0, 0, []), (6, 3, .getfield 0, 11, 6, 2, 0, [470]), (9, 3, .getfield 0, 2, 0, 0, 0, [291]),
  (12, 3, .if_icmp .lt 0, 17, 0, 0, 0, []), (15, 1, .iconst 0, 0, 0, 0, (-1), []), (16, 1, .ireturn, 0, 0, 0, 0, []), (17, 1, .aload 0, 0, 0, 0, 0, []), (18, 3, .getfield 0, 11, 10, 2, 0, [474]), (21, 1, .aload 0, 0, 0, 0, 0, []),
  (22, 3, .getfield 0, 11, 3, 2, 0, [467]), (25, 1, .iload 0, 1, 0, 0, 0, []), (26, 3, .invokevirtual 0, 74, 3, 9, 1, [888, 889, 890, 84]), (29, 3, .ifCond .eq 0, 37, 0, 0, 0, []), (32, 2, .iconst 0, 0, 0, 0, (-3), []), (34, 3, .goto 0, 38, 0, 0, 0, []),
  (37, 1, .iconst 0, 0, 0, 0, 0, []), (38, 1, .ireturn, 0, 0, 0, 0, [])
  ]
def mc_X11_falls : List mv_E := [
  (0, 1, .aload 0, 0, 0, 0, 0, []), (1, 1, .iload 0, 1, 0, 0, 0, []), (2, 3, .invokevirtual 0, 129, 2, 11, 1, [674, 676, 4, 74]), (5, 3, .ifCond .eq 0, 14, 0, 0, 0, []), (8, 1, .aload 0, 0, 0, 0, 0, []), (9, 1, .iconst 0, 0, 0, 0, (-1), []),
  (10, 3, .invokevirtual 0, 126, 2, 11, 1, [508, 510, 0, 74]), (13, 1, .ireturn, 0, 0, 0, 0, []), (14, 1, .iload 0, 2, 0, 0, 0, []), (15, 1, .iconst 0, 0, 0, 0, 0, []), (16, 3, .iconst 0, 0, 0, 0, 9999, []), (19, 3, .invokestatic 0, 128, 3, 1, 1, [576, 577, 74]),
  (22, 1, .istore 0, 3, 0, 0, 0, []), (23, 1, .iload 0, 3, 0, 0, 0, []), (24, 3, .ifCond .eq 0, 33, 0, 0, 0, []), (27, 1, .aload 0, 0, 0, 0, 0, []), (28, 1, .iload 0, 3, 0, 0, 0, []), (29, 3, .invokevirtual 0, 126, 2, 11, 1, [508, 510, 0, 74]),
  (32, 1, .ireturn, 0, 0, 0, 0, []), (33, 1, .aload 0, 0, 0, 0, 0, []), (34, 3, .getfield 0, 11, 2, 2, 0, [466]), (37, 3, .invokevirtual 0, 14, 1, 1, 0, [587, 588, 589, 77]), (40, 1, .aload 0, 0, 0, 0, 0, []), (41, 3, .getfield 0, 11, 2, 2, 0, [466]),
  (44, 1, .iload 0, 1, 0, 0, 0, []), (45, 1, .iload 0, 2, 0, 0, 0, []), (46, 3, .invokevirtual 0, 30, 3, 1, 1, [945, 946, 947, 77]), (49, 1, .ireturn, 0, 0, 0, 0, [])
  ]
def mc_X11_own : List mv_E := [
  (0, 1, .aload 0, 0, 0, 0, 0, []), (1, 3, .getfield 0, 11, 4, 2, 0, [468]), (4, 1, .iload 0, 1, 0, 0, 0, []), (5, 3, .invokevirtual 0, 4, 2, 0, 1, [544, 545, 546, 79]), (8, 1, .istore 0, 3, 0, 0, 0, []), (9, 1, .iload 0, 3, 0, 0, 0, []),
  (10, 1, .iconst 0, 0, 0, 0, (-1), []), (11, 3, .if_icmp .ne 0, 20, 0, 0, 0, []), (14, 1, .aload 0, 0, 0, 0, 0, []), (15, 1, .iconst 0, 0, 0, 0, (-1), []), (16, 3, .invokevirtual 0, 126, 2, 11, 1, [508, 510, 0, 74]), (19, 1, .ireturn, 0, 0, 0, 0, []),
  (20, 1, .iload 0, 2, 0, 0, 0, []), (21, 1, .iconst 0, 0, 0, 0, (-1), []), (22, 1, .iconst 0, 0, 0, 0, 3, []), (23, 3, .invokestatic 0, 128, 3, 1, 1, [576, 577, 74]), (26, 2, .istore 0, 4, 0, 0, 0, []), (28, 2, .iload 0, 4, 0, 0, 0, []),
  (30, 3, .ifCond .eq 0, 40, 0, 0, 0, []), (33, 1, .aload 0, 0, 0, 0, 0, []), (34, 2, .iload 0, 4, 0, 0, 0, []), (36, 3, .invokevirtual 0, 126, 2, 11, 1, [508, 510, 0, 74]), (39, 1, .ireturn, 0, 0, 0, 0, []), (40, 1, .aload 0, 0, 0, 0, 0, []),
  (41, 3, .getfield 0, 11, 4, 2, 0, [468]), (44, 3, .getfield 0, 0, 8, 2, 0, [175]), (47, 1, .iload 0, 3, 0, 0, 0, []), (48, 1, .iaload, 0, 0, 0, 0, []), (49, 1, .iload 0, 2, 0, 0, 0, []), (50, 3, .if_icmp .ne 0, 55, 0, 0, 0, []),
  (53, 1, .iconst 0, 0, 0, 0, 0, []), (54, 1, .ireturn, 0, 0, 0, 0, []), (55, 1, .aload 0, 0, 0, 0, 0, []), (56, 3, .getfield 0, 11, 4, 2, 0, [468]), (59, 3, .getfield 0, 0, 8, 2, 0, [175]), (62, 1, .iload 0, 3, 0, 0, 0, []),
  (63, 1, .iload 0, 2, 0, 0, 0, []), (64, 1, .iastore, 0, 0, 0, 0, []), (65, 1, .iconst 0, 0, 0, 0, 1, []), (66, 1, .ireturn, 0, 0, 0, 0, [])
  ]
def mc_X11_held : List mv_E := [
  (0, 1, .aload 0, 0, 0, 0, 0, []), (1, 3, .getfield 0, 11, 4, 2, 0, [468]), (4, 1, .iload 0, 1, 0, 0, 0, []), (5, 3, .invokevirtual 0, 4, 2, 0, 1, [544, 545, 546, 79]), (8, 1, .istore 0, 3, 0, 0, 0, []), (9, 1, .iload 0, 3, 0, 0, 0, []),
  (10, 1, .iconst 0, 0, 0, 0, (-1), []), (11, 3, .if_icmp .ne 0, 20, 0, 0, 0, []), (14, 1, .aload 0, 0, 0, 0, 0, []), (15, 1, .iconst 0, 0, 0, 0, (-1), []), (16, 3, .invokevirtual 0, 126, 2, 11, 1, [508, 510, 0, 74]), (19, 1, .ireturn, 0, 0, 0, 0, []),
  (20, 1, .iload 0, 2, 0, 0, 0, []), (21, 3, .ifCond .eq 0, 28, 0, 0, 0, []), (24, 1, .iconst 0, 0, 0, 0, 1, []), (25, 3, .goto 0, 29, 0, 0, 0, []), (28, 1, .iconst 0, 0, 0, 0, 0, []), (29, 2, .istore 0, 4, 0, 0, 0, []),
  (31, 1, .aload 0, 0, 0, 0, 0, []), (32, 3, .getfield 0, 11, 4, 2, 0, [468]), (35, 3, .getfield 0, 0, 9, 2, 0, [180]), (38, 1, .iload 0, 3, 0, 0, 0, []), (39, 1, .iaload, 0, 0, 0, 0, []), (40, 2, .iload 0, 4, 0, 0, 0, []),
  (42, 3, .if_icmp .ne 0, 47, 0, 0, 0, []), (45, 1, .iconst 0, 0, 0, 0, 0, []), (46, 1, .ireturn, 0, 0, 0, 0, []), (47, 1, .aload 0, 0, 0, 0, 0, []), (48, 3, .getfield 0, 11, 4, 2, 0, [468]), (51, 3, .getfield 0, 0, 9, 2, 0, [180]),
  (54, 1, .iload 0, 3, 0, 0, 0, []), (55, 2, .iload 0, 4, 0, 0, 0, []), (57, 1, .iastore, 0, 0, 0, 0, []), (58, 1, .aload 0, 0, 0, 0, 0, []), (59, 3, .getfield 0, 11, 2, 2, 0, [466]), (62, 3, .invokevirtual 0, 13, 1, 1, 0, [666, 667, 668, 77]),
  (65, 1, .iconst 0, 0, 0, 0, 1, []), (66, 1, .ireturn, 0, 0, 0, 0, [])
  ]
def mc_X11_hold : List mv_E := [
  (0, 1, .iload 0, 1, 0, 0, 0, []), (1, 1, .iconst 0, 0, 0, 0, 0, []), (2, 1, .iconst 0, 0, 0, 0, 3, []), (3, 3, .invokestatic 0, 128, 3, 1, 1, [576, 577, 74]), (6, 1, .istore 0, 2, 0, 0, 0, []), (7, 1, .iload 0, 2, 0, 0, 0, []),
  (8, 3, .ifCond .eq 0, 17, 0, 0, 0, []), (11, 1, .aload 0, 0, 0, 0, 0, []), (12, 1, .iload 0, 2, 0, 0, 0, []), (13, 3, .invokevirtual 0, 126, 2, 11, 1, [508, 510, 0, 74]), (16, 1, .ireturn, 0, 0, 0, 0, []), (17, 1, .aload 0, 0, 0, 0, 0, []),
  (18, 3, .getfield 0, 11, 2, 2, 0, [466]), (21, 3, .invokevirtual 0, 14, 1, 1, 0, [587, 588, 589, 77]), (24, 1, .aload 0, 0, 0, 0, 0, []), (25, 3, .getfield 0, 11, 9, 2, 0, [473]), (28, 1, .aload 0, 0, 0, 0, 0, []), (29, 3, .getfield 0, 11, 2, 2, 0, [466]),
  (32, 1, .iload 0, 1, 0, 0, 0, []), (33, 3, .invokevirtual 0, 55, 3, 6, 1, [962, 963, 964, 83]), (36, 1, .ireturn, 0, 0, 0, 0, [])
  ]
def mc_X11_put : List mv_E := [
  (0, 1, .iload 0, 1, 0, 0, 0, []), (1, 1, .iconst 0, 0, 0, 0, (-1), []), (2, 3, .if_icmp .ge 0, 12, 0, 0, 0, []), (5, 1, .aload 0, 0, 0, 0, 0, []), (6, 2, .iconst 0, 0, 0, 0, (-4), []), (8, 3, .invokevirtual 0, 126, 2, 11, 1, [508, 510, 0, 74]),
  (11, 1, .ireturn, 0, 0, 0, 0, []), (12, 1, .iload 0, 1, 0, 0, 0, []), (13, 2, .iconst 0, 0, 0, 0, 99, []), (15, 3, .if_icmp .gt 0, 30, 0, 0, 0, []), (18, 1, .aload 0, 0, 0, 0, 0, []), (19, 3, .getfield 0, 11, 1, 2, 0, [465]),
  (22, 3, .getfield 0, 4, 1, 0, 0, [122]), (25, 2, .iconst 0, 0, 0, 0, 48, []), (27, 3, .if_icmp .lt 0, 37, 0, 0, 0, []), (30, 1, .aload 0, 0, 0, 0, 0, []), (31, 2, .iconst 0, 0, 0, 0, (-6), []), (33, 3, .invokevirtual 0, 126, 2, 11, 1, [508, 510, 0, 74]),
  (36, 1, .ireturn, 0, 0, 0, 0, []), (37, 1, .aload 0, 0, 0, 0, 0, []), (38, 3, .getfield 0, 11, 1, 2, 0, [465]), (41, 1, .iload 0, 1, 0, 0, 0, []), (42, 3, .invokevirtual 0, 43, 2, 4, 0, [982, 983, 984, 76]), (45, 1, .aload 0, 0, 0, 0, 0, []),
  (46, 3, .getfield 0, 11, 1, 2, 0, [465]), (49, 3, .getfield 0, 4, 1, 0, 0, [122]), (52, 1, .ireturn, 0, 0, 0, 0, [])
  ]
def mc_X11_judge : List mv_E := [
  (0, 1, .aload 0, 0, 0, 0, 0, []), (1, 3, .getfield 0, 11, 2, 2, 0, [466]), (4, 3, .invokevirtual 0, 14, 1, 1, 0, [587, 588, 589, 77]), (7, 1, .aload 0, 0, 0, 0, 0, []), (8, 3, .getfield 0, 11, 1, 2, 0, [465]), (11, 1, .aload 0, 0, 0, 0, 0, []),
  (12, 3, .getfield 0, 11, 2, 2, 0, [466]), (15, 3, .invokevirtual 0, 44, 2, 4, 1, [990, 991, 992, 76]), (18, 1, .istore 0, 1, 0, 0, 0, []), (19, 1, .aload 0, 0, 0, 0, 0, []), (20, 3, .getfield 0, 11, 1, 2, 0, [465]), (23, 1, .iconst 0, 0, 0, 0, 0, []),
  (24, 3, .putfield 0, 4, 1, 0, 0, [122]), (27, 1, .iload 0, 1, 0, 0, 0, []), (28, 1, .ireturn, 0, 0, 0, 0, [])
  ]
def mc_X11_image : List mv_E := [
  (0, 1, .aload 0, 0, 0, 0, 0, []), (1, 3, .getfield 0, 11, 7, 2, 0, [471]), (4, 1, .aload 0, 0, 0, 0, 0, []), (5, 3, .getfield 0, 11, 3, 2, 0, [467]), (8, 3, .invokevirtual 0, 84, 2, 10, 0, [998, 999, 1000, 78]), (11, 1, .aload 0, 0, 0, 0, 0, []),
  (12, 1, .iconst 0, 0, 0, 0, 1, []), (13, 3, .putfield 0, 11, 8, 1, 0, [472]), (16, 1, .aload 0, 0, 0, 0, 0, []), (17, 3, .getfield 0, 11, 4, 2, 0, [468]), (20, 3, .getfield 0, 0, 2, 0, 0, [155]), (23, 1, .ireturn, 0, 0, 0, 0, [])
  ]
def mc_X11_on : List mv_E := [
  (0, 1, .aload 0, 0, 0, 0, 0, []), (1, 3, .getfield 0, 11, 8, 1, 0, [472]), (4, 3, .ifCond .ne 0, 14, 0, 0, 0, []), (7, 1, .aload 0, 0, 0, 0, 0, []), (8, 2, .iconst 0, 0, 0, 0, (-3), []), (10, 3, .invokevirtual 0, 126, 2, 11, 1, [508, 510, 0, 74]),
  (13, 1, .ireturn, 0, 0, 0, 0, []), (14, 1, .aload 0, 0, 0, 0, 0, []), (15, 3, .getfield 0, 11, 3, 2, 0, [467]), (18, 1, .aload 0, 0, 0, 0, 0, []), (19, 3, .getfield 0, 11, 7, 2, 0, [471]), (22, 3, .invokevirtual 0, 84, 2, 10, 0, [998, 999, 1000, 78]),
  (25, 1, .aload 0, 0, 0, 0, 0, []), (26, 3, .getfield 0, 11, 2, 2, 0, [466]), (29, 3, .invokevirtual 0, 12, 1, 1, 0, [536, 537, 538, 77]), (32, 1, .aload 0, 0, 0, 0, 0, []), (33, 3, .getfield 0, 11, 4, 2, 0, [468]), (36, 3, .getfield 0, 0, 2, 0, 0, [155]),
  (39, 1, .ireturn, 0, 0, 0, 0, [])
  ]
def mc_X11_count : List mv_E := [
  (0, 1, .iload 0, 1, 0, 0, 0, []), (1, 55, .tableswitch 0 0 0 #[], 143, 0, 0, 0, [56, 64, 72, 80, 88, 96, 104, 119, 127, 135]), (56, 1, .aload 0, 0, 0, 0, 0, []), (57, 3, .getfield 0, 11, 4, 2, 0, [468]), (60, 3, .getfield 0, 0, 0, 0, 0, [148]), (63, 1, .ireturn, 0, 0, 0, 0, []),
  (64, 1, .aload 0, 0, 0, 0, 0, []), (65, 3, .getfield 0, 11, 4, 2, 0, [468]), (68, 3, .getfield 0, 0, 1, 0, 0, [150]), (71, 1, .ireturn, 0, 0, 0, 0, []), (72, 1, .aload 0, 0, 0, 0, 0, []), (73, 3, .getfield 0, 11, 4, 2, 0, [468]),
  (76, 3, .getfield 0, 0, 4, 0, 0, [164]), (79, 1, .ireturn, 0, 0, 0, 0, []), (80, 1, .aload 0, 0, 0, 0, 0, []), (81, 3, .getfield 0, 11, 5, 2, 0, [469]), (84, 3, .getfield 0, 7, 0, 0, 0, [227]), (87, 1, .ireturn, 0, 0, 0, 0, []),
  (88, 1, .aload 0, 0, 0, 0, 0, []), (89, 3, .getfield 0, 11, 4, 2, 0, [468]), (92, 3, .getfield 0, 0, 3, 0, 0, [159]), (95, 1, .ireturn, 0, 0, 0, 0, []), (96, 1, .aload 0, 0, 0, 0, 0, []), (97, 3, .getfield 0, 11, 6, 2, 0, [470]),
  (100, 3, .getfield 0, 2, 0, 0, 0, [291]), (103, 1, .ireturn, 0, 0, 0, 0, []), (104, 1, .aload 0, 0, 0, 0, 0, []), (105, 3, .getfield 0, 11, 2, 2, 0, [466]), (108, 3, .invokevirtual 0, 14, 1, 1, 0, [587, 588, 589, 77]), (111, 1, .aload 0, 0, 0, 0, 0, []),
  (112, 3, .getfield 0, 11, 2, 2, 0, [466]), (115, 3, .invokevirtual 0, 29, 1, 1, 1, [1025, 1026, 1027, 77]), (118, 1, .ireturn, 0, 0, 0, 0, []), (119, 1, .aload 0, 0, 0, 0, 0, []), (120, 3, .getfield 0, 11, 4, 2, 0, [468]), (123, 3, .invokevirtual 0, 10, 1, 0, 1, [1029, 1030, 1031, 79]),
  (126, 1, .ireturn, 0, 0, 0, 0, []), (127, 1, .aload 0, 0, 0, 0, 0, []), (128, 3, .getfield 0, 11, 0, 2, 0, [464]), (131, 3, .getfield 0, 5, 1, 0, 0, [107]), (134, 1, .ireturn, 0, 0, 0, 0, []), (135, 1, .aload 0, 0, 0, 0, 0, []),
  (136, 3, .getfield 0, 11, 1, 2, 0, [465]), (139, 3, .getfield 0, 4, 1, 0, 0, [122]), (142, 1, .ireturn, 0, 0, 0, 0, []), (143, 1, .iload 0, 1, 0, 0, 0, []), (144, 2, .iconst 0, 0, 0, 0, 11, []), (146, 3, .if_icmp .lt 0, 167, 0, 0, 0, []),
  (149, 1, .iload 0, 1, 0, 0, 0, []), (150, 2, .iconst 0, 0, 0, 0, 16, []), (152, 3, .if_icmp .gt 0, 167, 0, 0, 0, []), (155, 1, .aload 0, 0, 0, 0, 0, []), (156, 3, .getfield 0, 11, 12, 2, 0, [476]), (159, 1, .iload 0, 1, 0, 0, 0, []),
  (160, 2, .iconst 0, 0, 0, 0, 10, []), (162, 1, .isub, 0, 0, 0, 0, []), (163, 1, .iaload, 0, 0, 0, 0, []), (164, 3, .goto 0, 169, 0, 0, 0, []), (167, 2, .iconst 0, 0, 0, 0, (-9), []), (169, 1, .ireturn, 0, 0, 0, 0, [])
  ]
def mc_X11_refuse : List mv_E := [
  (0, 1, .iload 0, 1, 0, 0, 0, []), (1, 1, .iconst 0, 0, 0, 0, (-1), []), (2, 3, .if_icmp .gt 0, 22, 0, 0, 0, []), (5, 1, .iload 0, 1, 0, 0, 0, []), (6, 2, .iconst 0, 0, 0, 0, (-6), []), (8, 3, .if_icmp .lt 0, 22, 0, 0, 0, []),
  (11, 1, .aload 0, 0, 0, 0, 0, []), (12, 3, .getfield 0, 11, 12, 2, 0, [476]), (15, 1, .iload 0, 1, 0, 0, 0, []), (16, 1, .ineg, 0, 0, 0, 0, []), (17, 1, .dup2, 0, 0, 0, 0, []), (18, 1, .iaload, 0, 0, 0, 0, []),
  (19, 1, .iconst 0, 0, 0, 0, 1, []), (20, 1, .iadd, 0, 0, 0, 0, []), (21, 1, .iastore, 0, 0, 0, 0, []), (22, 1, .iload 0, 1, 0, 0, 0, []), (23, 1, .ireturn, 0, 0, 0, 0, [])
  ]
def mc_X11_refuseLong : List mv_E := [
  (0, 3, .lconst 0, 0, 0, 0, 4000000000000000000, [705]), (3, 1, .aload 0, 0, 0, 0, 0, []), (4, 1, .iload 0, 1, 0, 0, 0, []), (5, 3, .invokevirtual 0, 126, 2, 11, 1, [508, 510, 0, 74]), (8, 1, .i2l, 0, 0, 0, 0, []), (9, 1, .lsub, 0, 0, 0, 0, []),
  (10, 1, .lreturn, 0, 0, 0, 0, [])
  ]
def mc_X11_unfit : List mv_E := [
  (0, 1, .iload 0, 0, 0, 0, 0, []), (1, 1, .iload 0, 1, 0, 0, 0, []), (2, 3, .if_icmp .ge 0, 8, 0, 0, 0, []), (5, 2, .iconst 0, 0, 0, 0, (-4), []), (7, 1, .ireturn, 0, 0, 0, 0, []), (8, 1, .iload 0, 0, 0, 0, 0, []),
  (9, 1, .iload 0, 2, 0, 0, 0, []), (10, 3, .if_icmp .le 0, 18, 0, 0, 0, []), (13, 2, .iconst 0, 0, 0, 0, (-6), []), (15, 3, .goto 0, 19, 0, 0, 0, []), (18, 1, .iconst 0, 0, 0, 0, 0, []), (19, 1, .ireturn, 0, 0, 0, 0, [])
  ]
def mc_X11_isNoUse : List mv_E := [
  (0, 1, .iload 0, 1, 0, 0, 0, []), (1, 3, .ifCond .lt 0, 15, 0, 0, 0, []), (4, 1, .iload 0, 1, 0, 0, 0, []), (5, 1, .aload 0, 0, 0, 0, 0, []), (6, 3, .getfield 0, 11, 5, 2, 0, [469]), (9, 3, .getfield 0, 7, 0, 0, 0, [227]),
  (12, 3, .if_icmp .lt 0, 19, 0, 0, 0, []), (15, 1, .iconst 0, 0, 0, 0, 1, []), (16, 3, .goto 0, 20, 0, 0, 0, []), (19, 1, .iconst 0, 0, 0, 0, 0, []), (20, 1, .ireturn, 1, 0, 0, 0, [])
  ]
def mc_X11_isNoMarket : List mv_E := [
  (0, 1, .iload 0, 1, 0, 0, 0, []), (1, 3, .ifCond .lt 0, 15, 0, 0, 0, []), (4, 1, .iload 0, 1, 0, 0, 0, []), (5, 1, .aload 0, 0, 0, 0, 0, []), (6, 3, .getfield 0, 11, 4, 2, 0, [468]), (9, 3, .getfield 0, 0, 4, 0, 0, [164]),
  (12, 3, .if_icmp .lt 0, 19, 0, 0, 0, []), (15, 1, .iconst 0, 0, 0, 0, 1, []), (16, 3, .goto 0, 20, 0, 0, 0, []), (19, 1, .iconst 0, 0, 0, 0, 0, []), (20, 1, .ireturn, 1, 0, 0, 0, [])
  ]
def mc_X11_offerOf : List mv_E := [
  (0, 1, .iload 0, 0, 0, 0, 0, []), (1, 1, .iconst 0, 0, 0, 0, 3, []), (2, 1, .imul, 0, 0, 0, 0, []), (3, 1, .iload 0, 1, 0, 0, 0, []), (4, 1, .iadd, 0, 0, 0, 0, []), (5, 1, .ireturn, 0, 0, 0, 0, [])
  ]
def mc_X12_init : List mv_E := [
  (0, 1, .aload 0, 0, 0, 0, 0, []), (1, 3, .invokespecial 0, 0, 0, 1, 0, [1038, 95, 96]), (4, 1, .aload 0, 0, 0, 0, 0, []), (5, 2, .iconst 0, 0, 0, 0, 7, []), (7, 2, .newarray .int, 100, 0, 0, 0, [113]), (9, 3, .putfield 0, 12, 0, 2, 0, [1039]),
  (12, 1, .aload 0, 0, 0, 0, 0, []), (13, 2, .iconst 0, 0, 0, 0, 60, []), (15, 2, .newarray .int, 100, 0, 0, 0, [113]), (17, 3, .putfield 0, 12, 1, 2, 0, [1040]), (20, 1, .aload 0, 0, 0, 0, 0, []), (21, 2, .iconst 0, 0, 0, 0, 48, []),
  (23, 2, .newarray .int, 100, 0, 0, 0, [113]), (25, 3, .putfield 0, 12, 2, 2, 0, [1041]), (28, 1, .aload 0, 0, 0, 0, 0, []), (29, 2, .iconst 0, 0, 0, 0, 48, []), (31, 2, .newarray .int, 100, 0, 0, 0, [113]), (33, 3, .putfield 0, 12, 3, 2, 0, [1042]),
  (36, 1, .aload 0, 0, 0, 0, 0, []), (37, 2, .iconst 0, 0, 0, 0, 48, []), (39, 2, .newarray .int, 100, 0, 0, 0, [113]), (41, 3, .putfield 0, 12, 4, 2, 0, [1043]), (44, 1, .aload 0, 0, 0, 0, 0, []), (45, 2, .iconst 0, 0, 0, 0, 48, []),
  (47, 2, .newarray .int, 100, 0, 0, 0, [113]), (49, 3, .putfield 0, 12, 5, 2, 0, [1044]), (52, 1, .aload 0, 0, 0, 0, 0, []), (53, 2, .iconst 0, 0, 0, 0, 48, []), (55, 2, .newarray .boolean, 102, 0, 0, 0, [1235]), (57, 3, .putfield 0, 12, 6, 2, 0, [1045]),
  (60, 1, .aload 0, 0, 0, 0, 0, []), (61, 1, .iconst 0, 0, 0, 0, 1, []), (62, 3, .putfield 0, 12, 8, 0, 0, [1047]), (65, 1, .aload 0, 0, 0, 0, 0, []), (66, 1, .iconst 0, 0, 0, 0, 1, []), (67, 3, .putfield 0, 12, 9, 0, 0, [1048]),
  (70, 1, .aload 0, 0, 0, 0, 0, []), (71, 2, .iconst 0, 0, 0, 0, 20, []), (73, 2, .newarray .int, 100, 0, 0, 0, [113]), (75, 3, .putfield 0, 12, 13, 2, 0, [1052]), (78, 1, .aload 0, 0, 0, 0, 0, []), (79, 2, .iconst 0, 0, 0, 0, 20, []),
  (81, 2, .newarray .int, 100, 0, 0, 0, [113]), (83, 3, .putfield 0, 12, 14, 2, 0, [1053]), (86, 1, .aload 0, 0, 0, 0, 0, []), (87, 2, .iconst 0, 0, 0, 0, 20, []), (89, 2, .newarray .int, 100, 0, 0, 0, [113]), (91, 3, .putfield 0, 12, 15, 2, 0, [1054]),
  (94, 1, .aload 0, 0, 0, 0, 0, []), (95, 1, .iconst 0, 0, 0, 0, 4, []), (96, 2, .newarray .int, 100, 0, 0, 0, [113]), (98, 1, .dup, 0, 0, 0, 0, []), (99, 1, .iconst 0, 0, 0, 0, 0, []), (100, 2, .iconst 0, 0, 0, 0, 10, []),
  (102, 1, .iastore, 0, 0, 0, 0, []), (103, 1, .dup, 0, 0, 0, 0, []), (104, 1, .iconst 0, 0, 0, 0, 1, []), (105, 2, .iconst 0, 0, 0, 0, 6, []), (107, 1, .iastore, 0, 0, 0, 0, []), (108, 1, .dup, 0, 0, 0, 0, []),
  (109, 1, .iconst 0, 0, 0, 0, 2, []), (110, 1, .iconst 0, 0, 0, 0, 3, []), (111, 1, .iastore, 0, 0, 0, 0, []), (112, 1, .dup, 0, 0, 0, 0, []), (113, 1, .iconst 0, 0, 0, 0, 3, []), (114, 1, .iconst 0, 0, 0, 0, 2, []),
  (115, 1, .iastore, 0, 0, 0, 0, []), (116, 3, .putfield 0, 12, 16, 2, 0, [1055]), (119, 1, .aload 0, 0, 0, 0, 0, []), (120, 2, .iconst 0, 0, 0, 0, 48, []), (122, 2, .newarray .int, 100, 0, 0, 0, [113]), (124, 3, .putfield 0, 12, 18, 2, 0, [1057]),
  (127, 1, .aload 0, 0, 0, 0, 0, []), (128, 1, .iconst 0, 0, 0, 0, 4, []), (129, 2, .newarray .int, 100, 0, 0, 0, [113]), (131, 1, .dup, 0, 0, 0, 0, []), (132, 1, .iconst 0, 0, 0, 0, 0, []), (133, 1, .iconst 0, 0, 0, 0, 1, []),
  (134, 1, .iastore, 0, 0, 0, 0, []), (135, 1, .dup, 0, 0, 0, 0, []), (136, 1, .iconst 0, 0, 0, 0, 1, []), (137, 1, .iconst 0, 0, 0, 0, (-1), []), (138, 1, .iastore, 0, 0, 0, 0, []), (139, 1, .dup, 0, 0, 0, 0, []),
  (140, 1, .iconst 0, 0, 0, 0, 2, []), (141, 1, .iconst 0, 0, 0, 0, 0, []), (142, 1, .iastore, 0, 0, 0, 0, []), (143, 1, .dup, 0, 0, 0, 0, []), (144, 1, .iconst 0, 0, 0, 0, 3, []), (145, 1, .iconst 0, 0, 0, 0, 0, []),
  (146, 1, .iastore, 0, 0, 0, 0, []), (147, 3, .putfield 0, 12, 19, 2, 0, [1058]), (150, 1, .aload 0, 0, 0, 0, 0, []), (151, 1, .iconst 0, 0, 0, 0, 4, []), (152, 2, .newarray .int, 100, 0, 0, 0, [113]), (154, 1, .dup, 0, 0, 0, 0, []),
  (155, 1, .iconst 0, 0, 0, 0, 0, []), (156, 1, .iconst 0, 0, 0, 0, 0, []), (157, 1, .iastore, 0, 0, 0, 0, []), (158, 1, .dup, 0, 0, 0, 0, []), (159, 1, .iconst 0, 0, 0, 0, 1, []), (160, 1, .iconst 0, 0, 0, 0, 0, []),
  (161, 1, .iastore, 0, 0, 0, 0, []), (162, 1, .dup, 0, 0, 0, 0, []), (163, 1, .iconst 0, 0, 0, 0, 2, []), (164, 1, .iconst 0, 0, 0, 0, 1, []), (165, 1, .iastore, 0, 0, 0, 0, []), (166, 1, .dup, 0, 0, 0, 0, []),
  (167, 1, .iconst 0, 0, 0, 0, 3, []), (168, 1, .iconst 0, 0, 0, 0, (-1), []), (169, 1, .iastore, 0, 0, 0, 0, []), (170, 3, .putfield 0, 12, 20, 2, 0, [1059]), (173, 1, .aload 0, 0, 0, 0, 0, []), (174, 1, .iconst 0, 0, 0, 0, 3, []),
  (175, 2, .newarray .int, 100, 0, 0, 0, [113]), (177, 3, .putfield 0, 12, 21, 2, 0, [1060]), (180, 1, .aload 0, 0, 0, 0, 0, []), (181, 3, .iconst 0, 0, 0, 0, 288, []), (184, 2, .newarray .int, 100, 0, 0, 0, [113]), (186, 3, .putfield 0, 12, 22, 2, 0, [1061]),
  (189, 1, .aload 0, 0, 0, 0, 0, []), (190, 2, .iconst 0, 0, 0, 0, 6, []), (192, 2, .newarray .int, 100, 0, 0, 0, [113]), (194, 3, .putfield 0, 12, 24, 2, 0, [1063]), (197, 1, .aload 0, 0, 0, 0, 0, []), (198, 2, .iconst 0, 0, 0, 0, 6, []),
  (200, 2, .newarray .int, 100, 0, 0, 0, [113]), (202, 3, .putfield 0, 12, 25, 2, 0, [1064]), (205, 1, .aload 0, 0, 0, 0, 0, []), (206, 2, .iconst 0, 0, 0, 0, 6, []), (208, 2, .newarray .int, 100, 0, 0, 0, [113]), (210, 3, .putfield 0, 12, 26, 2, 0, [1065]),
  (213, 1, .aload 0, 0, 0, 0, 0, []), (214, 2, .iconst 0, 0, 0, 0, 6, []), (216, 2, .newarray .int, 100, 0, 0, 0, [113]), (218, 3, .putfield 0, 12, 27, 2, 0, [1066]), (221, 1, .aload 0, 0, 0, 0, 0, []), (222, 2, .iconst 0, 0, 0, 0, 6, []),
  (224, 2, .newarray .int, 100, 0, 0, 0, [113]), (226, 3, .putfield 0, 12, 28, 2, 0, [1067]), (229, 1, .aload 0, 0, 0, 0, 0, []), (230, 2, .iconst 0, 0, 0, 0, 6, []), (232, 2, .newarray .int, 100, 0, 0, 0, [113]), (234, 3, .putfield 0, 12, 29, 2, 0, [1068]),
  (237, 1, .aload 0, 0, 0, 0, 0, []), (238, 2, .iconst 0, 0, 0, 0, 36, []), (240, 2, .newarray .int, 100, 0, 0, 0, [113]), (242, 3, .putfield 0, 12, 30, 2, 0, [1069]), (245, 1, .aload 0, 0, 0, 0, 0, []), (246, 2, .iconst 0, 0, 0, 0, 6, []),
  (248, 2, .newarray .int, 100, 0, 0, 0, [113]), (250, 3, .putfield 0, 12, 31, 2, 0, [1070]), (253, 1, .aload 0, 0, 0, 0, 0, []), (254, 2, .iconst 0, 0, 0, 0, 18, []), (256, 2, .newarray .int, 100, 0, 0, 0, [113]), (258, 3, .putfield 0, 12, 32, 2, 0, [1071]),
  (261, 1, .aload 0, 0, 0, 0, 0, []), (262, 2, .iconst 0, 0, 0, 0, 108, []), (264, 2, .newarray .int, 100, 0, 0, 0, [113]), (266, 3, .putfield 0, 12, 33, 2, 0, [1072]), (269, 1, .aload 0, 0, 0, 0, 0, []), (270, 2, .iconst 0, 0, 0, 0, 108, []),
  (272, 2, .newarray .int, 100, 0, 0, 0, [113]), (274, 3, .putfield 0, 12, 34, 2, 0, [1073]), (277, 1, .aload 0, 0, 0, 0, 0, []), (278, 2, .iconst 0, 0, 0, 0, 18, []), (280, 2, .newarray .int, 100, 0, 0, 0, [113]), (282, 3, .putfield 0, 12, 35, 2, 0, [1074]),
  (285, 1, .aload 0, 0, 0, 0, 0, []), (286, 2, .iconst 0, 0, 0, 0, 48, []), (288, 2, .newarray .int, 100, 0, 0, 0, [113]), (290, 3, .putfield 0, 12, 38, 2, 0, [1077]), (293, 1, .aload 0, 0, 0, 0, 0, []), (294, 2, .iconst 0, 0, 0, 0, 48, []),
  (296, 2, .newarray .int, 100, 0, 0, 0, [113]), (298, 3, .putfield 0, 12, 39, 2, 0, [1078]), (301, 1, .aload 0, 0, 0, 0, 0, []), (302, 2, .iconst 0, 0, 0, 0, 48, []), (304, 2, .newarray .long, 101, 0, 0, 0, [394]), (306, 3, .putfield 0, 12, 40, 2, 0, [1079]),
  (309, 1, .aload 0, 0, 0, 0, 0, []), (310, 2, .iconst 0, 0, 0, 0, 32, []), (312, 2, .newarray .long, 101, 0, 0, 0, [394]), (314, 3, .putfield 0, 12, 41, 2, 0, [1080]), (317, 1, .aload 0, 0, 0, 0, 0, []), (318, 2, .iconst 0, 0, 0, 0, 32, []),
  (320, 2, .newarray .long, 101, 0, 0, 0, [394]), (322, 3, .putfield 0, 12, 42, 2, 0, [1081]), (325, 1, .aload 0, 0, 0, 0, 0, []), (326, 2, .iconst 0, 0, 0, 0, 32, []), (328, 2, .newarray .long, 101, 0, 0, 0, [394]), (330, 3, .putfield 0, 12, 43, 2, 0, [1082]),
  (333, 1, .aload 0, 0, 0, 0, 0, []), (334, 2, .iconst 0, 0, 0, 0, 32, []), (336, 2, .newarray .long, 101, 0, 0, 0, [394]), (338, 3, .putfield 0, 12, 44, 2, 0, [1083]), (341, 1, .aload 0, 0, 0, 0, 0, []), (342, 2, .iconst 0, 0, 0, 0, 32, []),
  (344, 2, .newarray .int, 100, 0, 0, 0, [113]), (346, 3, .putfield 0, 12, 45, 2, 0, [1084]), (349, 1, .aload 0, 0, 0, 0, 0, []), (350, 2, .iconst 0, 0, 0, 0, 8, []), (352, 2, .newarray .int, 100, 0, 0, 0, [113]), (354, 3, .putfield 0, 12, 48, 2, 0, [1087]),
  (357, 1, .aload 0, 0, 0, 0, 0, []), (358, 2, .iconst 0, 0, 0, 0, 8, []), (360, 2, .newarray .int, 100, 0, 0, 0, [113]), (362, 3, .putfield 0, 12, 49, 2, 0, [1088]), (365, 1, .aload 0, 0, 0, 0, 0, []), (366, 2, .iconst 0, 0, 0, 0, 8, []),
  (368, 2, .newarray .int, 100, 0, 0, 0, [113]), (370, 3, .putfield 0, 12, 50, 2, 0, [1089]), (373, 1, .aload 0, 0, 0, 0, 0, []), (374, 2, .iconst 0, 0, 0, 0, 8, []), (376, 2, .newarray .int, 100, 0, 0, 0, [113]), (378, 3, .putfield 0, 12, 51, 2, 0, [1090]),
  (381, 1, .aload 0, 0, 0, 0, 0, []), (382, 2, .iconst 0, 0, 0, 0, 20, []), (384, 2, .newarray .int, 100, 0, 0, 0, [113]), (386, 3, .putfield 0, 12, 52, 2, 0, [1091]), (389, 1, .aload 0, 0, 0, 0, 0, []), (390, 2, .iconst 0, 0, 0, 0, 20, []),
  (392, 2, .newarray .int, 100, 0, 0, 0, [113]), (394, 3, .putfield 0, 12, 53, 2, 0, [1092]), (397, 1, .aload 0, 0, 0, 0, 0, []), (398, 2, .iconst 0, 0, 0, 0, 20, []), (400, 2, .newarray .int, 100, 0, 0, 0, [113]), (402, 3, .putfield 0, 12, 54, 2, 0, [1093]),
  (405, 1, .aload 0, 0, 0, 0, 0, []), (406, 2, .iconst 0, 0, 0, 0, 48, []), (408, 2, .newarray .long, 101, 0, 0, 0, [394]), (410, 3, .putfield 0, 12, 56, 2, 0, [1095]), (413, 1, .aload 0, 0, 0, 0, 0, []), (414, 2, .iconst 0, 0, 0, 0, 48, []),
  (416, 2, .newarray .boolean, 102, 0, 0, 0, [1235]), (418, 3, .putfield 0, 12, 57, 2, 0, [1096]), (421, 1, .aload 0, 0, 0, 0, 0, []), (422, 2, .iconst 0, 0, 0, 0, 18, []), (424, 2, .newarray .int, 100, 0, 0, 0, [113]), (426, 3, .putfield 0, 12, 58, 2, 0, [1097]),
  (429, 1, .aload 0, 0, 0, 0, 0, []), (430, 2, .iconst 0, 0, 0, 0, 48, []), (432, 2, .newarray .int, 100, 0, 0, 0, [113]), (434, 3, .putfield 0, 12, 59, 2, 0, [1098]), (437, 1, .aload 0, 0, 0, 0, 0, []), (438, 3, .iconst 0, 0, 0, 0, 1000, []),
  (441, 2, .newarray .int, 100, 0, 0, 0, [113]), (443, 3, .putfield 0, 12, 61, 2, 0, [1100]), (446, 1, .iconst 0, 0, 0, 0, 0, []), (447, 1, .istore 0, 1, 0, 0, 0, []), (448, 1, .iload 0, 1, 0, 0, 0, []), (449, 2, .iconst 0, 0, 0, 0, 48, []),
  (451, 3, .if_icmp .ge 0, 468, 0, 0, 0, []), (454, 1, .aload 0, 0, 0, 0, 0, []), (455, 3, .getfield 0, 12, 4, 2, 0, [1043]), (458, 1, .iload 0, 1, 0, 0, 0, []), (459, 2, .iconst 0, 0, 0, 0, (-9), []), (461, 1, .iastore, 0, 0, 0, 0, []),
  (462, 3, .iinc 0 0, 1, 0, 0, 1, []), (465, 3, .goto 0, 448, 0, 0, 0, []), (468, 1, .return_, 0, 0, 0, 0, [])
  ]
def mc_X12_no : List mv_E := [
  (0, 1, .aload 0, 0, 0, 0, 0, []), (1, 3, .getfield 0, 12, 0, 2, 0, [1039]), (4, 1, .iload 0, 1, 0, 0, 0, []), (5, 1, .ineg, 0, 0, 0, 0, []), (6, 1, .dup2, 0, 0, 0, 0, []), (7, 1, .iaload, 0, 0, 0, 0, []),
  (8, 1, .iconst 0, 0, 0, 0, 1, []), (9, 1, .iadd, 0, 0, 0, 0, []), (10, 1, .iastore, 0, 0, 0, 0, []), (11, 1, .iload 0, 1, 0, 0, 0, []), (12, 1, .ireturn, 0, 0, 0, 0, [])
  ]
def mc_X12_noLong : List mv_E := [
  (0, 1, .aload 0, 0, 0, 0, 0, []), (1, 3, .getfield 0, 12, 0, 2, 0, [1039]), (4, 1, .iload 0, 1, 0, 0, 0, []), (5, 1, .ineg, 0, 0, 0, 0, []), (6, 1, .dup2, 0, 0, 0, 0, []), (7, 1, .iaload, 0, 0, 0, 0, []),
  (8, 1, .iconst 0, 0, 0, 0, 1, []), (9, 1, .iadd, 0, 0, 0, 0, []), (10, 1, .iastore, 0, 0, 0, 0, []), (11, 3, .lconst 0, 0, 0, 0, 4000000000000000000, [1369]), (14, 1, .iload 0, 1, 0, 0, 0, []), (15, 1, .i2l, 0, 0, 0, 0, []),
  (16, 1, .lsub, 0, 0, 0, 0, []), (17, 1, .lreturn, 0, 0, 0, 0, [])
  ]
def mc_X12_isIn : List mv_E := [
  (0, 1, .lload 0, 0, 0, 0, 0, []), (1, 1, .lload 0, 2, 0, 0, 0, []), (2, 1, .lcmp, 0, 0, 0, 0, []), (3, 3, .ifCond .lt 0, 17, 0, 0, 0, []), (6, 1, .lload 0, 0, 0, 0, 0, []), (7, 2, .lload 0, 4, 0, 0, 0, []),
  (9, 1, .lcmp, 0, 0, 0, 0, []), (10, 3, .ifCond .gt 0, 17, 0, 0, 0, []), (13, 1, .iconst 0, 0, 0, 0, 1, []), (14, 3, .goto 0, 18, 0, 0, 0, []), (17, 1, .iconst 0, 0, 0, 0, 0, []), (18, 1, .ireturn, 1, 0, 0, 0, [])
  ]
def mc_X12_outOf : List mv_E := [
  (0, 1, .lload 0, 0, 0, 0, 0, []), (1, 1, .lload 0, 2, 0, 0, 0, []), (2, 1, .lcmp, 0, 0, 0, 0, []), (3, 3, .ifCond .ge 0, 11, 0, 0, 0, []), (6, 2, .iconst 0, 0, 0, 0, (-4), []), (8, 3, .goto 0, 24, 0, 0, 0, []),
  (11, 1, .lload 0, 0, 0, 0, 0, []), (12, 2, .lload 0, 4, 0, 0, 0, []), (14, 1, .lcmp, 0, 0, 0, 0, []), (15, 3, .ifCond .le 0, 23, 0, 0, 0, []), (18, 2, .iconst 0, 0, 0, 0, (-6), []), (20, 3, .goto 0, 24, 0, 0, 0, []),
  (23, 1, .iconst 0, 0, 0, 0, 0, []), (24, 1, .ireturn, 0, 0, 0, 0, [])
  ]
def mc_X12_feed : List mv_E := [
  (0, 1, .iload 0, 1, 0, 0, 0, []), (1, 1, .i2l, 0, 0, 0, 0, []), (2, 1, .lconst 0, 0, 0, 0, 1, []), (3, 3, .lconst 0, 0, 0, 0, 8, [1240]), (6, 3, .invokestatic 0, 136, 3, 1, 1, [1241, 1242, 86]), (9, 2, .istore 0, 4, 0, 0, 0, []),
  (11, 2, .iload 0, 4, 0, 0, 0, []), (13, 3, .ifCond .ne 0, 31, 0, 0, 0, []), (16, 1, .aload 0, 0, 0, 0, 0, []), (17, 3, .getfield 0, 12, 7, 0, 0, [1046]), (20, 1, .iload 0, 1, 0, 0, 0, []), (21, 1, .iadd, 0, 0, 0, 0, []),
  (22, 2, .iconst 0, 0, 0, 0, 60, []), (24, 3, .if_icmp .le 0, 31, 0, 0, 0, []), (27, 2, .iconst 0, 0, 0, 0, (-6), []), (29, 2, .istore 0, 4, 0, 0, 0, []), (31, 2, .iload 0, 4, 0, 0, 0, []), (33, 3, .ifCond .eq 0, 43, 0, 0, 0, []),
  (36, 1, .aload 0, 0, 0, 0, 0, []), (37, 2, .iload 0, 4, 0, 0, 0, []), (39, 3, .invokevirtual 0, 133, 2, 12, 1, [1244, 1246, 26, 86]), (42, 1, .ireturn, 0, 0, 0, 0, []), (43, 1, .iconst 0, 0, 0, 0, 0, []), (44, 2, .istore 0, 5, 0, 0, 0, []),
  (46, 2, .iload 0, 5, 0, 0, 0, []), (48, 1, .iload 0, 1, 0, 0, 0, []), (49, 3, .if_icmp .ge 0, 89, 0, 0, 0, []), (52, 1, .aload 0, 0, 0, 0, 0, []), (53, 3, .getfield 0, 12, 1, 2, 0, [1040]), (56, 1, .aload 0, 0, 0, 0, 0, []),
  (57, 3, .getfield 0, 12, 7, 0, 0, [1046]), (60, 1, .lload 0, 2, 0, 0, 0, []), (61, 2, .iconst 0, 0, 0, 0, 8, []), (63, 2, .iload 0, 5, 0, 0, 0, []), (65, 1, .imul, 0, 0, 0, 0, []), (66, 1, .lshr, 0, 0, 0, 0, []),
  (67, 3, .lconst 0, 0, 0, 0, 255, [1248]), (70, 1, .land, 0, 0, 0, 0, []), (71, 1, .l2i, 0, 0, 0, 0, []), (72, 1, .iastore, 0, 0, 0, 0, []), (73, 1, .aload 0, 0, 0, 0, 0, []), (74, 1, .dup, 0, 0, 0, 0, []),
  (75, 3, .getfield 0, 12, 7, 0, 0, [1046]), (78, 1, .iconst 0, 0, 0, 0, 1, []), (79, 1, .iadd, 0, 0, 0, 0, []), (80, 3, .putfield 0, 12, 7, 0, 0, [1046]), (83, 3, .iinc 0 0, 5, 0, 0, 1, []), (86, 3, .goto 0, 46, 0, 0, 0, []),
  (89, 1, .aload 0, 0, 0, 0, 0, []), (90, 3, .getfield 0, 12, 7, 0, 0, [1046]), (93, 1, .ireturn, 0, 0, 0, 0, [])
  ]
def mc_X12_sign : List mv_E := [
  (0, 1, .aload 0, 0, 0, 0, 0, []), (1, 3, .getfield 0, 12, 10, 0, 0, [1049]), (4, 1, .aload 0, 0, 0, 0, 0, []), (5, 3, .getfield 0, 12, 7, 0, 0, [1046]), (8, 3, .if_icmp .ge 0, 23, 0, 0, 0, []), (11, 1, .aload 0, 0, 0, 0, 0, []),
  (12, 3, .getfield 0, 12, 1, 2, 0, [1040]), (15, 1, .aload 0, 0, 0, 0, 0, []), (16, 3, .getfield 0, 12, 10, 0, 0, [1049]), (19, 1, .iaload, 0, 0, 0, 0, []), (20, 3, .goto 0, 24, 0, 0, 0, []), (23, 1, .iconst 0, 0, 0, 0, (-1), []),
  (24, 1, .ireturn, 0, 0, 0, 0, [])
  ]
def mc_X12_readsLine : List mv_E := [
  (0, 1, .iconst 0, 0, 0, 0, 0, []), (1, 1, .istore 0, 1, 0, 0, 0, []), (2, 1, .aload 0, 0, 0, 0, 0, []), (3, 3, .getfield 0, 12, 12, 0, 0, [1051]), (6, 3, .ifCond .ne 0, 14, 0, 0, 0, []), (9, 2, .iconst 0, 0, 0, 0, 8, []),
  (11, 3, .goto 0, 18, 0, 0, 0, []), (14, 1, .aload 0, 0, 0, 0, 0, []), (15, 3, .getfield 0, 12, 11, 0, 0, [1050]), (18, 1, .istore 0, 2, 0, 0, 0, []), (19, 1, .aload 0, 0, 0, 0, 0, []), (20, 3, .invokevirtual 0, 138, 1, 12, 1, [1261, 1263, 29, 86]),
  (23, 1, .i2l, 0, 0, 0, 0, []), (24, 3, .lconst 0, 0, 0, 0, 48, [1265]), (27, 3, .lconst 0, 0, 0, 0, 57, [1266]), (30, 3, .invokestatic 0, 135, 3, 1, 1, [1267, 1268, 86]), (33, 3, .ifCond .eq 0, 80, 0, 0, 0, []), (36, 1, .iload 0, 1, 0, 0, 0, []),
  (37, 1, .iload 0, 2, 0, 0, 0, []), (38, 3, .if_icmp .ne 0, 43, 0, 0, 0, []), (41, 1, .iconst 0, 0, 0, 0, 0, []), (42, 1, .ireturn, 1, 0, 0, 0, []), (43, 1, .aload 0, 0, 0, 0, 0, []), (44, 3, .getfield 0, 12, 5, 2, 0, [1044]),
  (47, 2, .iconst 0, 0, 0, 0, 8, []), (49, 1, .aload 0, 0, 0, 0, 0, []), (50, 3, .getfield 0, 12, 12, 0, 0, [1051]), (53, 1, .imul, 0, 0, 0, 0, []), (54, 1, .iload 0, 1, 0, 0, 0, []), (55, 1, .iadd, 0, 0, 0, 0, []),
  (56, 1, .aload 0, 0, 0, 0, 0, []), (57, 3, .invokevirtual 0, 138, 1, 12, 1, [1261, 1263, 29, 86]), (60, 2, .iconst 0, 0, 0, 0, 48, []), (62, 1, .isub, 0, 0, 0, 0, []), (63, 1, .iastore, 0, 0, 0, 0, []), (64, 3, .iinc 0 0, 1, 0, 0, 1, []),
  (67, 1, .aload 0, 0, 0, 0, 0, []), (68, 1, .dup, 0, 0, 0, 0, []), (69, 3, .getfield 0, 12, 10, 0, 0, [1049]), (72, 1, .iconst 0, 0, 0, 0, 1, []), (73, 1, .iadd, 0, 0, 0, 0, []), (74, 3, .putfield 0, 12, 10, 0, 0, [1049]),
  (77, 3, .goto 0, 19, 0, 0, 0, []), (80, 1, .aload 0, 0, 0, 0, 0, []), (81, 3, .getfield 0, 12, 12, 0, 0, [1051]), (84, 3, .ifCond .ne 0, 92, 0, 0, 0, []), (87, 1, .aload 0, 0, 0, 0, 0, []), (88, 1, .iload 0, 1, 0, 0, 0, []),
  (89, 3, .putfield 0, 12, 11, 0, 0, [1050]), (92, 1, .aload 0, 0, 0, 0, 0, []), (93, 1, .dup, 0, 0, 0, 0, []), (94, 3, .getfield 0, 12, 12, 0, 0, [1051]), (97, 1, .iconst 0, 0, 0, 0, 1, []), (98, 1, .iadd, 0, 0, 0, 0, []),
  (99, 3, .putfield 0, 12, 12, 0, 0, [1051]), (102, 1, .iload 0, 1, 0, 0, 0, []), (103, 3, .ifCond .le 0, 118, 0, 0, 0, []), (106, 1, .iload 0, 1, 0, 0, 0, []), (107, 1, .aload 0, 0, 0, 0, 0, []), (108, 3, .getfield 0, 12, 11, 0, 0, [1050]),
  (111, 3, .if_icmp .ne 0, 118, 0, 0, 0, []), (114, 1, .iconst 0, 0, 0, 0, 1, []), (115, 3, .goto 0, 119, 0, 0, 0, []), (118, 1, .iconst 0, 0, 0, 0, 0, []), (119, 1, .ireturn, 1, 0, 0, 0, [])
  ]
def mc_X12_reads : List mv_E := [
  (0, 1, .aload 0, 0, 0, 0, 0, []), (1, 1, .iconst 0, 0, 0, 0, 0, []), (2, 3, .putfield 0, 12, 10, 0, 0, [1049]), (5, 1, .aload 0, 0, 0, 0, 0, []), (6, 1, .iconst 0, 0, 0, 0, 0, []), (7, 3, .putfield 0, 12, 12, 0, 0, [1051]),
  (10, 1, .aload 0, 0, 0, 0, 0, []), (11, 3, .invokevirtual 0, 139, 1, 12, 1, [1257, 1259, 28, 86]), (14, 3, .ifCond .ne 0, 19, 0, 0, 0, []), (17, 1, .iconst 0, 0, 0, 0, 0, []), (18, 1, .ireturn, 1, 0, 0, 0, []), (19, 1, .aload 0, 0, 0, 0, 0, []),
  (20, 3, .invokevirtual 0, 138, 1, 12, 1, [1261, 1263, 29, 86]), (23, 2, .iconst 0, 0, 0, 0, 47, []), (25, 3, .if_icmp .ne 0, 58, 0, 0, 0, []), (28, 1, .aload 0, 0, 0, 0, 0, []), (29, 3, .getfield 0, 12, 12, 0, 0, [1051]), (32, 2, .iconst 0, 0, 0, 0, 6, []),
  (34, 3, .if_icmp .ne 0, 39, 0, 0, 0, []), (37, 1, .iconst 0, 0, 0, 0, 0, []), (38, 1, .ireturn, 1, 0, 0, 0, []), (39, 1, .aload 0, 0, 0, 0, 0, []), (40, 1, .dup, 0, 0, 0, 0, []), (41, 3, .getfield 0, 12, 10, 0, 0, [1049]),
  (44, 1, .iconst 0, 0, 0, 0, 1, []), (45, 1, .iadd, 0, 0, 0, 0, []), (46, 3, .putfield 0, 12, 10, 0, 0, [1049]), (49, 1, .aload 0, 0, 0, 0, 0, []), (50, 3, .invokevirtual 0, 139, 1, 12, 1, [1257, 1259, 28, 86]), (53, 3, .ifCond .ne 0, 19, 0, 0, 0, []),
  (56, 1, .iconst 0, 0, 0, 0, 0, []), (57, 1, .ireturn, 1, 0, 0, 0, []), (58, 1, .aload 0, 0, 0, 0, 0, []), (59, 3, .getfield 0, 12, 10, 0, 0, [1049]), (62, 1, .aload 0, 0, 0, 0, 0, []), (63, 3, .getfield 0, 12, 7, 0, 0, [1046]),
  (66, 3, .if_icmp .ne 0, 73, 0, 0, 0, []), (69, 1, .iconst 0, 0, 0, 0, 1, []), (70, 3, .goto 0, 74, 0, 0, 0, []), (73, 1, .iconst 0, 0, 0, 0, 0, []), (74, 1, .ireturn, 1, 0, 0, 0, [])
  ]
def mc_X12_read : List mv_E := [
  (0, 1, .aload 0, 0, 0, 0, 0, []), (1, 3, .invokevirtual 0, 140, 1, 12, 1, [1253, 1255, 27, 86]), (4, 1, .istore 0, 1, 0, 0, 0, []), (5, 1, .aload 0, 0, 0, 0, 0, []), (6, 1, .iconst 0, 0, 0, 0, 0, []), (7, 3, .putfield 0, 12, 7, 0, 0, [1046]),
  (10, 1, .iload 0, 1, 0, 0, 0, []), (11, 3, .ifCond .ne 0, 22, 0, 0, 0, []), (14, 2, .iconst 0, 0, 0, 0, (-20), []), (16, 1, .aload 0, 0, 0, 0, 0, []), (17, 3, .getfield 0, 12, 10, 0, 0, [1049]), (20, 1, .isub, 0, 0, 0, 0, []),
  (21, 1, .ireturn, 0, 0, 0, 0, []), (22, 1, .aload 0, 0, 0, 0, 0, []), (23, 1, .aload 0, 0, 0, 0, 0, []), (24, 3, .getfield 0, 12, 11, 0, 0, [1050]), (27, 3, .putfield 0, 12, 8, 0, 0, [1047]), (30, 1, .aload 0, 0, 0, 0, 0, []),
  (31, 1, .aload 0, 0, 0, 0, 0, []), (32, 3, .getfield 0, 12, 12, 0, 0, [1051]), (35, 3, .putfield 0, 12, 9, 0, 0, [1048]), (38, 1, .iconst 0, 0, 0, 0, 0, []), (39, 1, .istore 0, 2, 0, 0, 0, []), (40, 1, .iload 0, 2, 0, 0, 0, []),
  (41, 2, .iconst 0, 0, 0, 0, 48, []), (43, 3, .if_icmp .ge 0, 86, 0, 0, 0, []), (46, 1, .aload 0, 0, 0, 0, 0, []), (47, 3, .getfield 0, 12, 2, 2, 0, [1041]), (50, 1, .iload 0, 2, 0, 0, 0, []), (51, 1, .aload 0, 0, 0, 0, 0, []),
  (52, 3, .getfield 0, 12, 5, 2, 0, [1044]), (55, 1, .iload 0, 2, 0, 0, 0, []), (56, 1, .iaload, 0, 0, 0, 0, []), (57, 1, .iastore, 0, 0, 0, 0, []), (58, 1, .aload 0, 0, 0, 0, 0, []), (59, 3, .getfield 0, 12, 3, 2, 0, [1042]),
  (62, 1, .iload 0, 2, 0, 0, 0, []), (63, 1, .iconst 0, 0, 0, 0, 0, []), (64, 1, .iastore, 0, 0, 0, 0, []), (65, 1, .aload 0, 0, 0, 0, 0, []), (66, 3, .getfield 0, 12, 4, 2, 0, [1043]), (69, 1, .iload 0, 2, 0, 0, 0, []),
  (70, 2, .iconst 0, 0, 0, 0, (-9), []), (72, 1, .iastore, 0, 0, 0, 0, []), (73, 1, .aload 0, 0, 0, 0, 0, []), (74, 3, .getfield 0, 12, 6, 2, 0, [1045]), (77, 1, .iload 0, 2, 0, 0, 0, []), (78, 1, .iconst 0, 0, 0, 0, 0, []),
  (79, 1, .bastore, 0, 0, 0, 0, []), (80, 3, .iinc 0 0, 2, 0, 0, 1, []), (83, 3, .goto 0, 40, 0, 0, 0, []), (86, 1, .aload 0, 0, 0, 0, 0, []), (87, 1, .iconst 0, 0, 0, 0, 0, []), (88, 3, .putfield 0, 12, 23, 0, 0, [1062]),
  (91, 1, .aload 0, 0, 0, 0, 0, []), (92, 1, .iconst 0, 0, 0, 0, 0, []), (93, 3, .putfield 0, 12, 17, 0, 0, [1056]), (96, 1, .aload 0, 0, 0, 0, 0, []), (97, 1, .iconst 0, 0, 0, 0, 0, []), (98, 3, .putfield 0, 12, 55, 0, 0, [1094]),
  (101, 1, .aload 0, 0, 0, 0, 0, []), (102, 3, .getfield 0, 12, 8, 0, 0, [1047]), (105, 1, .aload 0, 0, 0, 0, 0, []), (106, 3, .getfield 0, 12, 9, 0, 0, [1048]), (109, 1, .imul, 0, 0, 0, 0, []), (110, 1, .ireturn, 0, 0, 0, 0, [])
  ]
def mc_X12_acreOf : List mv_E := [
  (0, 1, .iload 0, 1, 0, 0, 0, []), (1, 3, .ifCond .lt 0, 41, 0, 0, 0, []), (4, 1, .iload 0, 1, 0, 0, 0, []), (5, 2, .iconst 0, 0, 0, 0, 10, []), (7, 1, .idiv, 0, 0, 0, 0, []), (8, 1, .aload 0, 0, 0, 0, 0, []),
  (9, 3, .getfield 0, 12, 8, 0, 0, [1047]), (12, 3, .if_icmp .ge 0, 41, 0, 0, 0, []), (15, 1, .iload 0, 1, 0, 0, 0, []), (16, 2, .iconst 0, 0, 0, 0, 10, []), (18, 1, .irem, 0, 0, 0, 0, []), (19, 1, .aload 0, 0, 0, 0, 0, []),
  (20, 3, .getfield 0, 12, 9, 0, 0, [1048]), (23, 3, .if_icmp .ge 0, 41, 0, 0, 0, []), (26, 2, .iconst 0, 0, 0, 0, 8, []), (28, 1, .iload 0, 1, 0, 0, 0, []), (29, 2, .iconst 0, 0, 0, 0, 10, []), (31, 1, .irem, 0, 0, 0, 0, []),
  (32, 1, .imul, 0, 0, 0, 0, []), (33, 1, .iload 0, 1, 0, 0, 0, []), (34, 2, .iconst 0, 0, 0, 0, 10, []), (36, 1, .idiv, 0, 0, 0, 0, []), (37, 1, .iadd, 0, 0, 0, 0, []), (38, 3, .goto 0, 42, 0, 0, 0, []),
  (41, 1, .iconst 0, 0, 0, 0, (-1), []), (42, 1, .ireturn, 0, 0, 0, 0, [])
  ]
def mc_X12_isAcre : List mv_E := [
  (0, 1, .iload 0, 1, 0, 0, 0, []), (1, 3, .ifCond .lt 0, 36, 0, 0, 0, []), (4, 1, .iload 0, 1, 0, 0, 0, []), (5, 2, .iconst 0, 0, 0, 0, 48, []), (7, 3, .if_icmp .ge 0, 36, 0, 0, 0, []), (10, 1, .iload 0, 1, 0, 0, 0, []),
  (11, 2, .iconst 0, 0, 0, 0, 8, []), (13, 1, .irem, 0, 0, 0, 0, []), (14, 1, .aload 0, 0, 0, 0, 0, []), (15, 3, .getfield 0, 12, 8, 0, 0, [1047]), (18, 3, .if_icmp .ge 0, 36, 0, 0, 0, []), (21, 1, .iload 0, 1, 0, 0, 0, []),
  (22, 2, .iconst 0, 0, 0, 0, 8, []), (24, 1, .idiv, 0, 0, 0, 0, []), (25, 1, .aload 0, 0, 0, 0, 0, []), (26, 3, .getfield 0, 12, 9, 0, 0, [1048]), (29, 3, .if_icmp .ge 0, 36, 0, 0, 0, []), (32, 1, .iconst 0, 0, 0, 0, 1, []),
  (33, 3, .goto 0, 37, 0, 0, 0, []), (36, 1, .iconst 0, 0, 0, 0, 0, []), (37, 1, .ireturn, 1, 0, 0, 0, [])
  ]
def mc_X12_told : List mv_E := [
  (0, 2, .iconst 0, 0, 0, 0, 10, []), (2, 1, .iload 0, 0, 0, 0, 0, []), (3, 2, .iconst 0, 0, 0, 0, 8, []), (5, 1, .irem, 0, 0, 0, 0, []), (6, 1, .imul, 0, 0, 0, 0, []), (7, 1, .iload 0, 0, 0, 0, 0, []),
  (8, 2, .iconst 0, 0, 0, 0, 8, []), (10, 1, .idiv, 0, 0, 0, 0, []), (11, 1, .iadd, 0, 0, 0, 0, []), (12, 1, .ireturn, 0, 0, 0, 0, [])
  ]
def mc_X12_acre : List mv_E := [
  (0, 1, .aload 0, 0, 0, 0, 0, []), (1, 1, .iload 0, 1, 0, 0, 0, []), (2, 3, .invokevirtual 0, 142, 2, 12, 1, [1274, 1276, 30, 86]), (5, 1, .istore 0, 3, 0, 0, 0, []), (6, 1, .iload 0, 3, 0, 0, 0, []), (7, 3, .ifCond .ge 0, 16, 0, 0, 0, []),
  (10, 1, .aload 0, 0, 0, 0, 0, []), (11, 1, .iconst 0, 0, 0, 0, (-1), []), (12, 3, .invokevirtual 0, 133, 2, 12, 1, [1244, 1246, 26, 86]), (15, 1, .ireturn, 0, 0, 0, 0, []), (16, 1, .iload 0, 2, 0, 0, 0, []), (17, 35, .tableswitch 0 0 0 #[], 94, 0, 0, 0, [52, 59, 66, 81, 88]),
  (52, 1, .aload 0, 0, 0, 0, 0, []), (53, 3, .getfield 0, 12, 2, 2, 0, [1041]), (56, 1, .iload 0, 3, 0, 0, 0, []), (57, 1, .iaload, 0, 0, 0, 0, []), (58, 1, .ireturn, 0, 0, 0, 0, []), (59, 1, .aload 0, 0, 0, 0, 0, []),
  (60, 3, .getfield 0, 12, 3, 2, 0, [1042]), (63, 1, .iload 0, 3, 0, 0, 0, []), (64, 1, .iaload, 0, 0, 0, 0, []), (65, 1, .ireturn, 0, 0, 0, 0, []), (66, 1, .aload 0, 0, 0, 0, 0, []), (67, 3, .getfield 0, 12, 6, 2, 0, [1045]),
  (70, 1, .iload 0, 3, 0, 0, 0, []), (71, 1, .baload, 0, 0, 0, 0, []), (72, 3, .ifCond .eq 0, 79, 0, 0, 0, []), (75, 1, .iconst 0, 0, 0, 0, 1, []), (76, 3, .goto 0, 80, 0, 0, 0, []), (79, 1, .iconst 0, 0, 0, 0, 0, []),
  (80, 1, .ireturn, 0, 0, 0, 0, []), (81, 1, .aload 0, 0, 0, 0, 0, []), (82, 3, .getfield 0, 12, 4, 2, 0, [1043]), (85, 1, .iload 0, 3, 0, 0, 0, []), (86, 1, .iaload, 0, 0, 0, 0, []), (87, 1, .ireturn, 0, 0, 0, 0, []),
  (88, 1, .aload 0, 0, 0, 0, 0, []), (89, 1, .iload 0, 3, 0, 0, 0, []), (90, 3, .invokevirtual 0, 156, 2, 12, 1, [1278, 1280, 31, 86]), (93, 1, .ireturn, 0, 0, 0, 0, []), (94, 1, .aload 0, 0, 0, 0, 0, []), (95, 2, .iconst 0, 0, 0, 0, (-2), []),
  (97, 3, .invokevirtual 0, 133, 2, 12, 1, [1244, 1246, 26, 86]), (100, 1, .ireturn, 0, 0, 0, 0, [])
  ]
def mc_X12_areBeside : List mv_E := [
  (0, 1, .iload 0, 0, 0, 0, 0, []), (1, 2, .iconst 0, 0, 0, 0, 8, []), (3, 1, .irem, 0, 0, 0, 0, []), (4, 1, .iload 0, 1, 0, 0, 0, []), (5, 2, .iconst 0, 0, 0, 0, 8, []), (7, 1, .irem, 0, 0, 0, 0, []),
  (8, 1, .isub, 0, 0, 0, 0, []), (9, 1, .istore 0, 2, 0, 0, 0, []), (10, 1, .iload 0, 0, 0, 0, 0, []), (11, 2, .iconst 0, 0, 0, 0, 8, []), (13, 1, .idiv, 0, 0, 0, 0, []), (14, 1, .iload 0, 1, 0, 0, 0, []),
  (15, 2, .iconst 0, 0, 0, 0, 8, []), (17, 1, .idiv, 0, 0, 0, 0, []), (18, 1, .isub, 0, 0, 0, 0, []), (19, 1, .istore 0, 3, 0, 0, 0, []), (20, 1, .iload 0, 2, 0, 0, 0, []), (21, 1, .iload 0, 2, 0, 0, 0, []),
  (22, 1, .imul, 0, 0, 0, 0, []), (23, 1, .iload 0, 3, 0, 0, 0, []), (24, 1, .iload 0, 3, 0, 0, 0, []), (25, 1, .imul, 0, 0, 0, 0, []), (26, 1, .iadd, 0, 0, 0, 0, []), (27, 1, .iconst 0, 0, 0, 0, 1, []),
  (28, 3, .if_icmp .ne 0, 35, 0, 0, 0, []), (31, 1, .iconst 0, 0, 0, 0, 1, []), (32, 3, .goto 0, 36, 0, 0, 0, []), (35, 1, .iconst 0, 0, 0, 0, 0, []), (36, 1, .ireturn, 1, 0, 0, 0, [])
  ]
def mc_X12_roadOf : List mv_E := [
  (0, 1, .iconst 0, 0, 0, 0, 0, []), (1, 1, .istore 0, 3, 0, 0, 0, []), (2, 1, .iload 0, 3, 0, 0, 0, []), (3, 1, .aload 0, 0, 0, 0, 0, []), (4, 3, .getfield 0, 12, 17, 0, 0, [1056]), (7, 3, .if_icmp .ge 0, 58, 0, 0, 0, []),
  (10, 1, .aload 0, 0, 0, 0, 0, []), (11, 3, .getfield 0, 12, 13, 2, 0, [1052]), (14, 1, .iload 0, 3, 0, 0, 0, []), (15, 1, .iaload, 0, 0, 0, 0, []), (16, 1, .iload 0, 1, 0, 0, 0, []), (17, 3, .if_icmp .ne 0, 30, 0, 0, 0, []),
  (20, 1, .aload 0, 0, 0, 0, 0, []), (21, 3, .getfield 0, 12, 14, 2, 0, [1053]), (24, 1, .iload 0, 3, 0, 0, 0, []), (25, 1, .iaload, 0, 0, 0, 0, []), (26, 1, .iload 0, 2, 0, 0, 0, []), (27, 3, .if_icmp .eq 0, 50, 0, 0, 0, []),
  (30, 1, .aload 0, 0, 0, 0, 0, []), (31, 3, .getfield 0, 12, 13, 2, 0, [1052]), (34, 1, .iload 0, 3, 0, 0, 0, []), (35, 1, .iaload, 0, 0, 0, 0, []), (36, 1, .iload 0, 2, 0, 0, 0, []), (37, 3, .if_icmp .ne 0, 52, 0, 0, 0, []),
  (40, 1, .aload 0, 0, 0, 0, 0, []), (41, 3, .getfield 0, 12, 14, 2, 0, [1053]), (44, 1, .iload 0, 3, 0, 0, 0, []), (45, 1, .iaload, 0, 0, 0, 0, []), (46, 1, .iload 0, 1, 0, 0, 0, []), (47, 3, .if_icmp .ne 0, 52, 0, 0, 0, []),
  (50, 1, .iload 0, 3, 0, 0, 0, []), (51, 1, .ireturn, 0, 0, 0, 0, []), (52, 3, .iinc 0 0, 3, 0, 0, 1, []), (55, 3, .goto 0, 2, 0, 0, 0, []), (58, 1, .iconst 0, 0, 0, 0, (-1), []), (59, 1, .ireturn, 0, 0, 0, 0, [])
  ]
def mc_X12_puts : List mv_E := [
  (0, 1, .aload 0, 0, 0, 0, 0, []), (1, 1, .iload 0, 1, 0, 0, 0, []), (2, 1, .iload 0, 2, 0, 0, 0, []), (3, 3, .invokevirtual 0, 147, 3, 12, 1, [1290, 1292, 32, 86]), (6, 2, .istore 0, 4, 0, 0, 0, []), (8, 2, .iload 0, 4, 0, 0, 0, []),
  (10, 3, .ifCond .ge 0, 29, 0, 0, 0, []), (13, 1, .aload 0, 0, 0, 0, 0, []), (14, 3, .getfield 0, 12, 17, 0, 0, [1056]), (17, 2, .istore 0, 4, 0, 0, 0, []), (19, 1, .aload 0, 0, 0, 0, 0, []), (20, 1, .dup, 0, 0, 0, 0, []),
  (21, 3, .getfield 0, 12, 17, 0, 0, [1056]), (24, 1, .iconst 0, 0, 0, 0, 1, []), (25, 1, .iadd, 0, 0, 0, 0, []), (26, 3, .putfield 0, 12, 17, 0, 0, [1056]), (29, 1, .aload 0, 0, 0, 0, 0, []), (30, 3, .getfield 0, 12, 13, 2, 0, [1052]),
  (33, 2, .iload 0, 4, 0, 0, 0, []), (35, 1, .iload 0, 1, 0, 0, 0, []), (36, 1, .iastore, 0, 0, 0, 0, []), (37, 1, .aload 0, 0, 0, 0, 0, []), (38, 3, .getfield 0, 12, 14, 2, 0, [1053]), (41, 2, .iload 0, 4, 0, 0, 0, []),
  (43, 1, .iload 0, 2, 0, 0, 0, []), (44, 1, .iastore, 0, 0, 0, 0, []), (45, 1, .aload 0, 0, 0, 0, 0, []), (46, 3, .getfield 0, 12, 15, 2, 0, [1054]), (49, 2, .iload 0, 4, 0, 0, 0, []), (51, 1, .iload 0, 3, 0, 0, 0, []),
  (52, 1, .iastore, 0, 0, 0, 0, []), (53, 1, .return_, 0, 0, 0, 0, [])
  ]
def mc_X12_road : List mv_E := [
  (0, 1, .aload 0, 0, 0, 0, 0, []), (1, 1, .iload 0, 1, 0, 0, 0, []), (2, 3, .invokevirtual 0, 142, 2, 12, 1, [1274, 1276, 30, 86]), (5, 2, .istore 0, 4, 0, 0, 0, []), (7, 1, .aload 0, 0, 0, 0, 0, []), (8, 1, .iload 0, 2, 0, 0, 0, []),
  (9, 3, .invokevirtual 0, 142, 2, 12, 1, [1274, 1276, 30, 86]), (12, 2, .istore 0, 5, 0, 0, 0, []), (14, 2, .iload 0, 4, 0, 0, 0, []), (16, 3, .ifCond .lt 0, 34, 0, 0, 0, []), (19, 2, .iload 0, 5, 0, 0, 0, []), (21, 3, .ifCond .lt 0, 34, 0, 0, 0, []),
  (24, 2, .iload 0, 4, 0, 0, 0, []), (26, 2, .iload 0, 5, 0, 0, 0, []), (28, 3, .invokestatic 0, 146, 2, 1, 1, [1286, 1287, 86]), (31, 3, .ifCond .ne 0, 40, 0, 0, 0, []), (34, 1, .aload 0, 0, 0, 0, 0, []), (35, 1, .iconst 0, 0, 0, 0, (-1), []),
  (36, 3, .invokevirtual 0, 133, 2, 12, 1, [1244, 1246, 26, 86]), (39, 1, .ireturn, 0, 0, 0, 0, []), (40, 1, .iload 0, 3, 0, 0, 0, []), (41, 1, .i2l, 0, 0, 0, 0, []), (42, 1, .lconst 0, 0, 0, 0, 0, []), (43, 3, .lconst 0, 0, 0, 0, 3, [1289]),
  (46, 3, .invokestatic 0, 135, 3, 1, 1, [1267, 1268, 86]), (49, 3, .ifCond .ne 0, 59, 0, 0, 0, []), (52, 1, .aload 0, 0, 0, 0, 0, []), (53, 2, .iconst 0, 0, 0, 0, (-2), []), (55, 3, .invokevirtual 0, 133, 2, 12, 1, [1244, 1246, 26, 86]), (58, 1, .ireturn, 0, 0, 0, 0, []),
  (59, 1, .aload 0, 0, 0, 0, 0, []), (60, 2, .iload 0, 4, 0, 0, 0, []), (62, 2, .iload 0, 5, 0, 0, 0, []), (64, 3, .invokevirtual 0, 147, 3, 12, 1, [1290, 1292, 32, 86]), (67, 2, .istore 0, 6, 0, 0, 0, []), (69, 2, .iload 0, 6, 0, 0, 0, []),
  (71, 3, .ifCond .ge 0, 78, 0, 0, 0, []), (74, 1, .iconst 0, 0, 0, 0, 0, []), (75, 3, .goto 0, 85, 0, 0, 0, []), (78, 1, .aload 0, 0, 0, 0, 0, []), (79, 3, .getfield 0, 12, 15, 2, 0, [1054]), (82, 2, .iload 0, 6, 0, 0, 0, []),
  (84, 1, .iaload, 0, 0, 0, 0, []), (85, 2, .istore 0, 7, 0, 0, 0, []), (87, 1, .iload 0, 3, 0, 0, 0, []), (88, 3, .ifCond .le 0, 112, 0, 0, 0, []), (91, 2, .iload 0, 6, 0, 0, 0, []), (93, 3, .ifCond .ge 0, 112, 0, 0, 0, []),
  (96, 1, .aload 0, 0, 0, 0, 0, []), (97, 3, .getfield 0, 12, 17, 0, 0, [1056]), (100, 2, .iconst 0, 0, 0, 0, 12, []), (102, 3, .if_icmp .ne 0, 112, 0, 0, 0, []), (105, 1, .aload 0, 0, 0, 0, 0, []), (106, 2, .iconst 0, 0, 0, 0, (-6), []),
  (108, 3, .invokevirtual 0, 133, 2, 12, 1, [1244, 1246, 26, 86]), (111, 1, .ireturn, 0, 0, 0, 0, []), (112, 1, .iload 0, 3, 0, 0, 0, []), (113, 3, .ifCond .le 0, 128, 0, 0, 0, []), (116, 1, .aload 0, 0, 0, 0, 0, []), (117, 2, .iload 0, 4, 0, 0, 0, []),
  (119, 2, .iload 0, 5, 0, 0, 0, []), (121, 1, .iload 0, 3, 0, 0, 0, []), (122, 3, .invokevirtual 0, 148, 4, 12, 0, [1294, 1296, 33, 86]), (125, 3, .goto 0, 212, 0, 0, 0, []), (128, 2, .iload 0, 6, 0, 0, 0, []), (130, 3, .ifCond .lt 0, 212, 0, 0, 0, []),
  (133, 2, .iload 0, 6, 0, 0, 0, []), (135, 2, .istore 0, 8, 0, 0, 0, []), (137, 2, .iload 0, 8, 0, 0, 0, []), (139, 1, .aload 0, 0, 0, 0, 0, []), (140, 3, .getfield 0, 12, 17, 0, 0, [1056]), (143, 1, .iconst 0, 0, 0, 0, 1, []),
  (144, 1, .isub, 0, 0, 0, 0, []), (145, 3, .if_icmp .ge 0, 202, 0, 0, 0, []), (148, 1, .aload 0, 0, 0, 0, 0, []), (149, 3, .getfield 0, 12, 13, 2, 0, [1052]), (152, 2, .iload 0, 8, 0, 0, 0, []), (154, 1, .aload 0, 0, 0, 0, 0, []),
  (155, 3, .getfield 0, 12, 13, 2, 0, [1052]), (158, 2, .iload 0, 8, 0, 0, 0, []), (160, 1, .iconst 0, 0, 0, 0, 1, []), (161, 1, .iadd, 0, 0, 0, 0, []), (162, 1, .iaload, 0, 0, 0, 0, []), (163, 1, .iastore, 0, 0, 0, 0, []),
  (164, 1, .aload 0, 0, 0, 0, 0, []), (165, 3, .getfield 0, 12, 14, 2, 0, [1053]), (168, 2, .iload 0, 8, 0, 0, 0, []), (170, 1, .aload 0, 0, 0, 0, 0, []), (171, 3, .getfield 0, 12, 14, 2, 0, [1053]), (174, 2, .iload 0, 8, 0, 0, 0, []),
  (176, 1, .iconst 0, 0, 0, 0, 1, []), (177, 1, .iadd, 0, 0, 0, 0, []), (178, 1, .iaload, 0, 0, 0, 0, []), (179, 1, .iastore, 0, 0, 0, 0, []), (180, 1, .aload 0, 0, 0, 0, 0, []), (181, 3, .getfield 0, 12, 15, 2, 0, [1054]),
  (184, 2, .iload 0, 8, 0, 0, 0, []), (186, 1, .aload 0, 0, 0, 0, 0, []), (187, 3, .getfield 0, 12, 15, 2, 0, [1054]), (190, 2, .iload 0, 8, 0, 0, 0, []), (192, 1, .iconst 0, 0, 0, 0, 1, []), (193, 1, .iadd, 0, 0, 0, 0, []),
  (194, 1, .iaload, 0, 0, 0, 0, []), (195, 1, .iastore, 0, 0, 0, 0, []), (196, 3, .iinc 0 0, 8, 0, 0, 1, []), (199, 3, .goto 0, 137, 0, 0, 0, []), (202, 1, .aload 0, 0, 0, 0, 0, []), (203, 1, .dup, 0, 0, 0, 0, []),
  (204, 3, .getfield 0, 12, 17, 0, 0, [1056]), (207, 1, .iconst 0, 0, 0, 0, 1, []), (208, 1, .isub, 0, 0, 0, 0, []), (209, 3, .putfield 0, 12, 17, 0, 0, [1056]), (212, 2, .iload 0, 7, 0, 0, 0, []), (214, 1, .ireturn, 0, 0, 0, 0, [])
  ]
def mc_X12_step : List mv_E := [
  (0, 1, .iload 0, 1, 0, 0, 0, []), (1, 1, .i2l, 0, 0, 0, 0, []), (2, 1, .lconst 0, 0, 0, 0, 0, []), (3, 3, .lconst 0, 0, 0, 0, 3, [1289]), (6, 3, .invokestatic 0, 135, 3, 1, 1, [1267, 1268, 86]), (9, 3, .ifCond .ne 0, 19, 0, 0, 0, []),
  (12, 1, .aload 0, 0, 0, 0, 0, []), (13, 2, .iconst 0, 0, 0, 0, (-2), []), (15, 3, .invokevirtual 0, 133, 2, 12, 1, [1244, 1246, 26, 86]), (18, 1, .ireturn, 0, 0, 0, 0, []), (19, 1, .iload 0, 2, 0, 0, 0, []), (20, 1, .i2l, 0, 0, 0, 0, []),
  (21, 1, .lconst 0, 0, 0, 0, 1, []), (22, 3, .lconst 0, 0, 0, 0, 99, [1302]), (25, 3, .invokestatic 0, 136, 3, 1, 1, [1241, 1242, 86]), (28, 1, .istore 0, 3, 0, 0, 0, []), (29, 1, .iload 0, 3, 0, 0, 0, []), (30, 3, .ifCond .eq 0, 39, 0, 0, 0, []),
  (33, 1, .aload 0, 0, 0, 0, 0, []), (34, 1, .iload 0, 3, 0, 0, 0, []), (35, 3, .invokevirtual 0, 133, 2, 12, 1, [1244, 1246, 26, 86]), (38, 1, .ireturn, 0, 0, 0, 0, []), (39, 1, .aload 0, 0, 0, 0, 0, []), (40, 3, .getfield 0, 12, 16, 2, 0, [1055]),
  (43, 1, .iload 0, 1, 0, 0, 0, []), (44, 1, .iaload, 0, 0, 0, 0, []), (45, 2, .istore 0, 4, 0, 0, 0, []), (47, 1, .aload 0, 0, 0, 0, 0, []), (48, 3, .getfield 0, 12, 16, 2, 0, [1055]), (51, 1, .iload 0, 1, 0, 0, 0, []),
  (52, 1, .iload 0, 2, 0, 0, 0, []), (53, 1, .iastore, 0, 0, 0, 0, []), (54, 2, .iload 0, 4, 0, 0, 0, []), (56, 1, .ireturn, 0, 0, 0, 0, [])
  ]
def mc_X12_toll : List mv_E := [
  (0, 1, .aload 0, 0, 0, 0, 0, []), (1, 1, .iload 0, 1, 0, 0, 0, []), (2, 3, .invokevirtual 0, 142, 2, 12, 1, [1274, 1276, 30, 86]), (5, 1, .istore 0, 3, 0, 0, 0, []), (6, 1, .iload 0, 3, 0, 0, 0, []), (7, 3, .ifCond .ge 0, 16, 0, 0, 0, []),
  (10, 1, .aload 0, 0, 0, 0, 0, []), (11, 1, .iconst 0, 0, 0, 0, (-1), []), (12, 3, .invokevirtual 0, 133, 2, 12, 1, [1244, 1246, 26, 86]), (15, 1, .ireturn, 0, 0, 0, 0, []), (16, 1, .iload 0, 2, 0, 0, 0, []), (17, 1, .i2l, 0, 0, 0, 0, []),
  (18, 1, .lconst 0, 0, 0, 0, 0, []), (19, 3, .lconst 0, 0, 0, 0, 99, [1302]), (22, 3, .invokestatic 0, 136, 3, 1, 1, [1241, 1242, 86]), (25, 2, .istore 0, 4, 0, 0, 0, []), (27, 2, .iload 0, 4, 0, 0, 0, []), (29, 3, .ifCond .eq 0, 39, 0, 0, 0, []),
  (32, 1, .aload 0, 0, 0, 0, 0, []), (33, 2, .iload 0, 4, 0, 0, 0, []), (35, 3, .invokevirtual 0, 133, 2, 12, 1, [1244, 1246, 26, 86]), (38, 1, .ireturn, 0, 0, 0, 0, []), (39, 1, .aload 0, 0, 0, 0, 0, []), (40, 3, .getfield 0, 12, 3, 2, 0, [1042]),
  (43, 1, .iload 0, 3, 0, 0, 0, []), (44, 1, .iaload, 0, 0, 0, 0, []), (45, 2, .istore 0, 5, 0, 0, 0, []), (47, 1, .aload 0, 0, 0, 0, 0, []), (48, 3, .getfield 0, 12, 3, 2, 0, [1042]), (51, 1, .iload 0, 3, 0, 0, 0, []),
  (52, 1, .iload 0, 2, 0, 0, 0, []), (53, 1, .iastore, 0, 0, 0, 0, []), (54, 2, .iload 0, 5, 0, 0, 0, []), (56, 1, .ireturn, 0, 0, 0, 0, [])
  ]
def mc_X12_stepOf : List mv_E := [
  (0, 1, .aload 0, 0, 0, 0, 0, []), (1, 1, .iload 0, 1, 0, 0, 0, []), (2, 1, .iload 0, 2, 0, 0, 0, []), (3, 3, .invokevirtual 0, 147, 3, 12, 1, [1290, 1292, 32, 86]), (6, 1, .istore 0, 3, 0, 0, 0, []), (7, 1, .iload 0, 3, 0, 0, 0, []),
  (8, 3, .ifCond .lt 0, 31, 0, 0, 0, []), (11, 1, .aload 0, 0, 0, 0, 0, []), (12, 3, .getfield 0, 12, 15, 2, 0, [1054]), (15, 1, .iload 0, 3, 0, 0, 0, []), (16, 1, .iaload, 0, 0, 0, 0, []), (17, 1, .iconst 0, 0, 0, 0, 3, []),
  (18, 3, .if_icmp .ne 0, 38, 0, 0, 0, []), (21, 1, .aload 0, 0, 0, 0, 0, []), (22, 3, .getfield 0, 12, 13, 2, 0, [1052]), (25, 1, .iload 0, 3, 0, 0, 0, []), (26, 1, .iaload, 0, 0, 0, 0, []), (27, 1, .iload 0, 1, 0, 0, 0, []),
  (28, 3, .if_icmp .eq 0, 38, 0, 0, 0, []), (31, 1, .aload 0, 0, 0, 0, 0, []), (32, 3, .getfield 0, 12, 16, 2, 0, [1055]), (35, 1, .iconst 0, 0, 0, 0, 0, []), (36, 1, .iaload, 0, 0, 0, 0, []), (37, 1, .ireturn, 0, 0, 0, 0, []),
  (38, 1, .aload 0, 0, 0, 0, 0, []), (39, 3, .getfield 0, 12, 16, 2, 0, [1055]), (42, 1, .aload 0, 0, 0, 0, 0, []), (43, 3, .getfield 0, 12, 15, 2, 0, [1054]), (46, 1, .iload 0, 3, 0, 0, 0, []), (47, 1, .iaload, 0, 0, 0, 0, []),
  (48, 1, .iaload, 0, 0, 0, 0, []), (49, 1, .ireturn, 0, 0, 0, 0, [])
  ]
def mc_X12_findWays : List mv_E := [
  (0, 1, .iconst 0, 0, 0, 0, 0, []), (1, 1, .istore 0, 3, 0, 0, 0, []), (2, 1, .iload 0, 3, 0, 0, 0, []), (3, 2, .iconst 0, 0, 0, 0, 48, []), (5, 3, .if_icmp .ge 0, 31, 0, 0, 0, []), (8, 1, .aload 0, 0, 0, 0, 0, []),
  (9, 3, .getfield 0, 12, 18, 2, 0, [1057]), (12, 1, .iload 0, 3, 0, 0, 0, []), (13, 1, .iload 0, 3, 0, 0, 0, []), (14, 1, .iload 0, 1, 0, 0, 0, []), (15, 3, .if_icmp .ne 0, 22, 0, 0, 0, []), (18, 1, .iconst 0, 0, 0, 0, 0, []),
  (19, 3, .goto 0, 24, 0, 0, 0, []), (22, 2, .iconst 0, 0, 0, 0, 1000000, [1315]), (24, 1, .iastore, 0, 0, 0, 0, []), (25, 3, .iinc 0 0, 3, 0, 0, 1, []), (28, 3, .goto 0, 2, 0, 0, 0, []), (31, 1, .iconst 0, 0, 0, 0, 1, []),
  (32, 1, .istore 0, 3, 0, 0, 0, []), (33, 1, .iload 0, 3, 0, 0, 0, []), (34, 3, .ifCond .eq 0, 79, 0, 0, 0, []), (37, 1, .iconst 0, 0, 0, 0, 0, []), (38, 1, .istore 0, 3, 0, 0, 0, []), (39, 1, .iconst 0, 0, 0, 0, 0, []),
  (40, 2, .istore 0, 4, 0, 0, 0, []), (42, 2, .iload 0, 4, 0, 0, 0, []), (44, 2, .iconst 0, 0, 0, 0, 48, []), (46, 3, .if_icmp .ge 0, 76, 0, 0, 0, []), (49, 1, .aload 0, 0, 0, 0, 0, []), (50, 2, .iload 0, 4, 0, 0, 0, []),
  (52, 3, .invokevirtual 0, 143, 2, 12, 1, [1316, 1318, 35, 86]), (55, 3, .ifCond .eq 0, 70, 0, 0, 0, []), (58, 1, .aload 0, 0, 0, 0, 0, []), (59, 2, .iload 0, 4, 0, 0, 0, []), (61, 1, .iload 0, 2, 0, 0, 0, []), (62, 3, .invokevirtual 0, 154, 3, 12, 1, [1320, 1322, 36, 86]),
  (65, 3, .ifCond .eq 0, 70, 0, 0, 0, []), (68, 1, .iconst 0, 0, 0, 0, 1, []), (69, 1, .istore 0, 3, 0, 0, 0, []), (70, 3, .iinc 0 0, 4, 0, 0, 1, []), (73, 3, .goto 0, 42, 0, 0, 0, []), (76, 3, .goto 0, 33, 0, 0, 0, []),
  (79, 1, .return_, 0, 0, 0, 0, [])
  ]
def mc_X12_shortens : List mv_E := [
  (0, 1, .iconst 0, 0, 0, 0, 0, []), (1, 1, .istore 0, 3, 0, 0, 0, []), (2, 1, .iconst 0, 0, 0, 0, 0, []), (3, 2, .istore 0, 4, 0, 0, 0, []), (5, 2, .iload 0, 4, 0, 0, 0, []), (7, 1, .iconst 0, 0, 0, 0, 4, []),
  (8, 3, .if_icmp .ge 0, 144, 0, 0, 0, []), (11, 1, .iload 0, 1, 0, 0, 0, []), (12, 2, .iconst 0, 0, 0, 0, 8, []), (14, 1, .irem, 0, 0, 0, 0, []), (15, 1, .aload 0, 0, 0, 0, 0, []), (16, 3, .getfield 0, 12, 19, 2, 0, [1058]),
  (19, 2, .iload 0, 4, 0, 0, 0, []), (21, 1, .iaload, 0, 0, 0, 0, []), (22, 1, .iadd, 0, 0, 0, 0, []), (23, 2, .istore 0, 5, 0, 0, 0, []), (25, 1, .iload 0, 1, 0, 0, 0, []), (26, 2, .iconst 0, 0, 0, 0, 8, []),
  (28, 1, .idiv, 0, 0, 0, 0, []), (29, 1, .aload 0, 0, 0, 0, 0, []), (30, 3, .getfield 0, 12, 20, 2, 0, [1059]), (33, 2, .iload 0, 4, 0, 0, 0, []), (35, 1, .iaload, 0, 0, 0, 0, []), (36, 1, .iadd, 0, 0, 0, 0, []),
  (37, 2, .istore 0, 6, 0, 0, 0, []), (39, 2, .iload 0, 5, 0, 0, 0, []), (41, 3, .ifCond .lt 0, 138, 0, 0, 0, []), (44, 2, .iload 0, 6, 0, 0, 0, []), (46, 3, .ifCond .lt 0, 138, 0, 0, 0, []), (49, 2, .iload 0, 5, 0, 0, 0, []),
  (51, 1, .aload 0, 0, 0, 0, 0, []), (52, 3, .getfield 0, 12, 8, 0, 0, [1047]), (55, 3, .if_icmp .ge 0, 138, 0, 0, 0, []), (58, 2, .iload 0, 6, 0, 0, 0, []), (60, 1, .aload 0, 0, 0, 0, 0, []), (61, 3, .getfield 0, 12, 9, 0, 0, [1048]),
  (64, 3, .if_icmp .lt 0, 70, 0, 0, 0, []), (67, 3, .goto 0, 138, 0, 0, 0, []), (70, 2, .iconst 0, 0, 0, 0, 8, []), (72, 2, .iload 0, 6, 0, 0, 0, []), (74, 1, .imul, 0, 0, 0, 0, []), (75, 2, .iload 0, 5, 0, 0, 0, []),
  (77, 1, .iadd, 0, 0, 0, 0, []), (78, 2, .istore 0, 7, 0, 0, 0, []), (80, 1, .iload 0, 2, 0, 0, 0, []), (81, 3, .ifCond .eq 0, 89, 0, 0, 0, []), (84, 2, .iconst 0, 0, 0, 0, 10, []), (86, 3, .goto 0, 96, 0, 0, 0, []),
  (89, 1, .aload 0, 0, 0, 0, 0, []), (90, 1, .iload 0, 1, 0, 0, 0, []), (91, 2, .iload 0, 7, 0, 0, 0, []), (93, 3, .invokevirtual 0, 152, 3, 12, 1, [1324, 1326, 37, 86]), (96, 1, .aload 0, 0, 0, 0, 0, []), (97, 3, .getfield 0, 12, 3, 2, 0, [1042]),
  (100, 2, .iload 0, 7, 0, 0, 0, []), (102, 1, .iaload, 0, 0, 0, 0, []), (103, 1, .iadd, 0, 0, 0, 0, []), (104, 1, .aload 0, 0, 0, 0, 0, []), (105, 3, .getfield 0, 12, 18, 2, 0, [1057]), (108, 2, .iload 0, 7, 0, 0, 0, []),
  (110, 1, .iaload, 0, 0, 0, 0, []), (111, 1, .iadd, 0, 0, 0, 0, []), (112, 2, .istore 0, 8, 0, 0, 0, []), (114, 2, .iload 0, 8, 0, 0, 0, []), (116, 1, .aload 0, 0, 0, 0, 0, []), (117, 3, .getfield 0, 12, 18, 2, 0, [1057]),
  (120, 1, .iload 0, 1, 0, 0, 0, []), (121, 1, .iaload, 0, 0, 0, 0, []), (122, 3, .if_icmp .lt 0, 128, 0, 0, 0, []), (125, 3, .goto 0, 138, 0, 0, 0, []), (128, 1, .aload 0, 0, 0, 0, 0, []), (129, 3, .getfield 0, 12, 18, 2, 0, [1057]),
  (132, 1, .iload 0, 1, 0, 0, 0, []), (133, 2, .iload 0, 8, 0, 0, 0, []), (135, 1, .iastore, 0, 0, 0, 0, []), (136, 1, .iconst 0, 0, 0, 0, 1, []), (137, 1, .istore 0, 3, 0, 0, 0, []), (138, 3, .iinc 0 0, 4, 0, 0, 1, []),
  (141, 3, .goto 0, 5, 0, 0, 0, []), (144, 1, .iload 0, 3, 0, 0, 0, []), (145, 1, .ireturn, 1, 0, 0, 0, [])
  ]
def mc_X12_way : List mv_E := [
  (0, 1, .aload 0, 0, 0, 0, 0, []), (1, 1, .iload 0, 1, 0, 0, 0, []), (2, 3, .invokevirtual 0, 142, 2, 12, 1, [1274, 1276, 30, 86]), (5, 1, .istore 0, 3, 0, 0, 0, []), (6, 1, .aload 0, 0, 0, 0, 0, []), (7, 1, .iload 0, 2, 0, 0, 0, []),
  (8, 3, .invokevirtual 0, 142, 2, 12, 1, [1274, 1276, 30, 86]), (11, 2, .istore 0, 4, 0, 0, 0, []), (13, 1, .iload 0, 3, 0, 0, 0, []), (14, 3, .ifCond .lt 0, 22, 0, 0, 0, []), (17, 2, .iload 0, 4, 0, 0, 0, []), (19, 3, .ifCond .ge 0, 28, 0, 0, 0, []),
  (22, 1, .aload 0, 0, 0, 0, 0, []), (23, 1, .iconst 0, 0, 0, 0, (-1), []), (24, 3, .invokevirtual 0, 133, 2, 12, 1, [1244, 1246, 26, 86]), (27, 1, .ireturn, 0, 0, 0, 0, []), (28, 1, .aload 0, 0, 0, 0, 0, []), (29, 2, .iload 0, 4, 0, 0, 0, []),
  (31, 1, .iconst 0, 0, 0, 0, 0, []), (32, 3, .invokevirtual 0, 153, 3, 12, 0, [1311, 1313, 34, 86]), (35, 1, .aload 0, 0, 0, 0, 0, []), (36, 3, .getfield 0, 12, 18, 2, 0, [1057]), (39, 1, .iload 0, 3, 0, 0, 0, []), (40, 1, .iaload, 0, 0, 0, 0, []),
  (41, 1, .ireturn, 0, 0, 0, 0, [])
  ]
def mc_X12_marketOn : List mv_E := [
  (0, 1, .iconst 0, 0, 0, 0, 0, []), (1, 1, .istore 0, 2, 0, 0, 0, []), (2, 1, .iload 0, 2, 0, 0, 0, []), (3, 1, .aload 0, 0, 0, 0, 0, []), (4, 3, .getfield 0, 12, 23, 0, 0, [1062]), (7, 3, .if_icmp .ge 0, 28, 0, 0, 0, []),
  (10, 1, .aload 0, 0, 0, 0, 0, []), (11, 3, .getfield 0, 12, 21, 2, 0, [1060]), (14, 1, .iload 0, 2, 0, 0, 0, []), (15, 1, .iaload, 0, 0, 0, 0, []), (16, 1, .iload 0, 1, 0, 0, 0, []), (17, 3, .if_icmp .ne 0, 22, 0, 0, 0, []),
  (20, 1, .iload 0, 2, 0, 0, 0, []), (21, 1, .ireturn, 0, 0, 0, 0, []), (22, 3, .iinc 0 0, 2, 0, 0, 1, []), (25, 3, .goto 0, 2, 0, 0, 0, []), (28, 2, .iconst 0, 0, 0, 0, (-9), []), (30, 1, .ireturn, 0, 0, 0, 0, [])
  ]
def mc_X12_market : List mv_E := [
  (0, 1, .aload 0, 0, 0, 0, 0, []), (1, 1, .iload 0, 1, 0, 0, 0, []), (2, 3, .invokevirtual 0, 142, 2, 12, 1, [1274, 1276, 30, 86]), (5, 1, .istore 0, 2, 0, 0, 0, []), (6, 1, .iload 0, 2, 0, 0, 0, []), (7, 3, .ifCond .ge 0, 16, 0, 0, 0, []),
  (10, 1, .aload 0, 0, 0, 0, 0, []), (11, 1, .iconst 0, 0, 0, 0, (-1), []), (12, 3, .invokevirtual 0, 133, 2, 12, 1, [1244, 1246, 26, 86]), (15, 1, .ireturn, 0, 0, 0, 0, []), (16, 1, .aload 0, 0, 0, 0, 0, []), (17, 1, .iload 0, 2, 0, 0, 0, []),
  (18, 3, .invokevirtual 0, 156, 2, 12, 1, [1278, 1280, 31, 86]), (21, 3, .ifCond .lt 0, 31, 0, 0, 0, []), (24, 1, .aload 0, 0, 0, 0, 0, []), (25, 2, .iconst 0, 0, 0, 0, (-3), []), (27, 3, .invokevirtual 0, 133, 2, 12, 1, [1244, 1246, 26, 86]), (30, 1, .ireturn, 0, 0, 0, 0, []),
  (31, 1, .aload 0, 0, 0, 0, 0, []), (32, 3, .getfield 0, 12, 23, 0, 0, [1062]), (35, 1, .iconst 0, 0, 0, 0, 3, []), (36, 3, .if_icmp .ne 0, 46, 0, 0, 0, []), (39, 1, .aload 0, 0, 0, 0, 0, []), (40, 2, .iconst 0, 0, 0, 0, (-6), []),
  (42, 3, .invokevirtual 0, 133, 2, 12, 1, [1244, 1246, 26, 86]), (45, 1, .ireturn, 0, 0, 0, 0, []), (46, 1, .aload 0, 0, 0, 0, 0, []), (47, 3, .getfield 0, 12, 21, 2, 0, [1060]), (50, 1, .aload 0, 0, 0, 0, 0, []), (51, 3, .getfield 0, 12, 23, 0, 0, [1062]),
  (54, 1, .iload 0, 2, 0, 0, 0, []), (55, 1, .iastore, 0, 0, 0, 0, []), (56, 1, .aload 0, 0, 0, 0, 0, []), (57, 1, .dup, 0, 0, 0, 0, []), (58, 3, .getfield 0, 12, 23, 0, 0, [1062]), (61, 1, .iconst 0, 0, 0, 0, 1, []),
  (62, 1, .iadd, 0, 0, 0, 0, []), (63, 3, .putfield 0, 12, 23, 0, 0, [1062]), (66, 1, .aload 0, 0, 0, 0, 0, []), (67, 3, .getfield 0, 12, 23, 0, 0, [1062]), (70, 1, .iconst 0, 0, 0, 0, 1, []), (71, 1, .isub, 0, 0, 0, 0, []),
  (72, 1, .ireturn, 0, 0, 0, 0, [])
  ]
def mc_X12_isMarket : List mv_E := [
  (0, 1, .iload 0, 1, 0, 0, 0, []), (1, 3, .ifCond .lt 0, 16, 0, 0, 0, []), (4, 1, .iload 0, 1, 0, 0, 0, []), (5, 1, .aload 0, 0, 0, 0, 0, []), (6, 3, .getfield 0, 12, 23, 0, 0, [1062]), (9, 3, .if_icmp .ge 0, 16, 0, 0, 0, []),
  (12, 1, .iconst 0, 0, 0, 0, 1, []), (13, 3, .goto 0, 17, 0, 0, 0, []), (16, 1, .iconst 0, 0, 0, 0, 0, []), (17, 1, .ireturn, 1, 0, 0, 0, [])
  ]
def mc_X12_findMarketWays : List mv_E := [
  (0, 1, .iconst 0, 0, 0, 0, 0, []), (1, 1, .istore 0, 1, 0, 0, 0, []), (2, 1, .iload 0, 1, 0, 0, 0, []), (3, 1, .aload 0, 0, 0, 0, 0, []), (4, 3, .getfield 0, 12, 23, 0, 0, [1062]), (7, 3, .if_icmp .ge 0, 84, 0, 0, 0, []),
  (10, 1, .iconst 0, 0, 0, 0, 0, []), (11, 1, .istore 0, 2, 0, 0, 0, []), (12, 1, .iload 0, 2, 0, 0, 0, []), (13, 1, .iconst 0, 0, 0, 0, 2, []), (14, 3, .if_icmp .ge 0, 78, 0, 0, 0, []), (17, 1, .aload 0, 0, 0, 0, 0, []),
  (18, 1, .aload 0, 0, 0, 0, 0, []), (19, 3, .getfield 0, 12, 21, 2, 0, [1060]), (22, 1, .iload 0, 1, 0, 0, 0, []), (23, 1, .iaload, 0, 0, 0, 0, []), (24, 1, .iload 0, 2, 0, 0, 0, []), (25, 1, .iconst 0, 0, 0, 0, 1, []),
  (26, 3, .if_icmp .ne 0, 33, 0, 0, 0, []), (29, 1, .iconst 0, 0, 0, 0, 1, []), (30, 3, .goto 0, 34, 0, 0, 0, []), (33, 1, .iconst 0, 0, 0, 0, 0, []), (34, 3, .invokevirtual 0, 153, 3, 12, 0, [1311, 1313, 34, 86]), (37, 1, .iconst 0, 0, 0, 0, 0, []),
  (38, 1, .istore 0, 3, 0, 0, 0, []), (39, 1, .iload 0, 3, 0, 0, 0, []), (40, 2, .iconst 0, 0, 0, 0, 48, []), (42, 3, .if_icmp .ge 0, 72, 0, 0, 0, []), (45, 1, .aload 0, 0, 0, 0, 0, []), (46, 3, .getfield 0, 12, 22, 2, 0, [1061]),
  (49, 2, .iconst 0, 0, 0, 0, 48, []), (51, 1, .iconst 0, 0, 0, 0, 2, []), (52, 1, .iload 0, 1, 0, 0, 0, []), (53, 1, .imul, 0, 0, 0, 0, []), (54, 1, .iload 0, 2, 0, 0, 0, []), (55, 1, .iadd, 0, 0, 0, 0, []),
  (56, 1, .imul, 0, 0, 0, 0, []), (57, 1, .iload 0, 3, 0, 0, 0, []), (58, 1, .iadd, 0, 0, 0, 0, []), (59, 1, .aload 0, 0, 0, 0, 0, []), (60, 3, .getfield 0, 12, 18, 2, 0, [1057]), (63, 1, .iload 0, 3, 0, 0, 0, []),
  (64, 1, .iaload, 0, 0, 0, 0, []), (65, 1, .iastore, 0, 0, 0, 0, []), (66, 3, .iinc 0 0, 3, 0, 0, 1, []), (69, 3, .goto 0, 39, 0, 0, 0, []), (72, 3, .iinc 0 0, 2, 0, 0, 1, []), (75, 3, .goto 0, 12, 0, 0, 0, []),
  (78, 3, .iinc 0 0, 1, 0, 0, 1, []), (81, 3, .goto 0, 2, 0, 0, 0, []), (84, 1, .return_, 0, 0, 0, 0, [])
  ]
def mc_X12_isUse : List mv_E := [
  (0, 1, .iload 0, 1, 0, 0, 0, []), (1, 3, .ifCond .lt 0, 16, 0, 0, 0, []), (4, 1, .iload 0, 1, 0, 0, 0, []), (5, 1, .aload 0, 0, 0, 0, 0, []), (6, 3, .getfield 0, 12, 36, 0, 0, [1075]), (9, 3, .if_icmp .ge 0, 16, 0, 0, 0, []),
  (12, 1, .iconst 0, 0, 0, 0, 1, []), (13, 3, .goto 0, 17, 0, 0, 0, []), (16, 1, .iconst 0, 0, 0, 0, 0, []), (17, 1, .ireturn, 1, 0, 0, 0, [])
  ]
def mc_X12_use : List mv_E := [
  (0, 1, .iload 0, 1, 0, 0, 0, []), (1, 1, .i2l, 0, 0, 0, 0, []), (2, 1, .lconst 0, 0, 0, 0, 0, []), (3, 3, .lconst 0, 0, 0, 0, 5, [1336]), (6, 3, .invokestatic 0, 135, 3, 1, 1, [1267, 1268, 86]), (9, 3, .ifCond .ne 0, 19, 0, 0, 0, []),
  (12, 1, .aload 0, 0, 0, 0, 0, []), (13, 2, .iconst 0, 0, 0, 0, (-2), []), (15, 3, .invokevirtual 0, 133, 2, 12, 1, [1244, 1246, 26, 86]), (18, 1, .ireturn, 0, 0, 0, 0, []), (19, 1, .iload 0, 2, 0, 0, 0, []), (20, 3, .ifCond .lt 0, 37, 0, 0, 0, []),
  (23, 1, .iload 0, 3, 0, 0, 0, []), (24, 3, .ifCond .lt 0, 37, 0, 0, 0, []), (27, 2, .iload 0, 4, 0, 0, 0, []), (29, 3, .ifCond .lt 0, 37, 0, 0, 0, []), (32, 2, .iload 0, 5, 0, 0, 0, []), (34, 3, .ifCond .ge 0, 42, 0, 0, 0, []),
  (37, 2, .iconst 0, 0, 0, 0, (-4), []), (39, 3, .goto 0, 84, 0, 0, 0, []), (42, 1, .iload 0, 2, 0, 0, 0, []), (43, 2, .iconst 0, 0, 0, 0, 99, []), (45, 3, .if_icmp .gt 0, 78, 0, 0, 0, []), (48, 1, .iload 0, 3, 0, 0, 0, []),
  (49, 2, .iconst 0, 0, 0, 0, 99, []), (51, 3, .if_icmp .gt 0, 78, 0, 0, 0, []), (54, 2, .iload 0, 4, 0, 0, 0, []), (56, 3, .iconst 0, 0, 0, 0, 9999, []), (59, 3, .if_icmp .gt 0, 78, 0, 0, 0, []), (62, 2, .iload 0, 5, 0, 0, 0, []),
  (64, 2, .iconst 0, 0, 0, 0, 99, []), (66, 3, .if_icmp .gt 0, 78, 0, 0, 0, []), (69, 1, .aload 0, 0, 0, 0, 0, []), (70, 3, .getfield 0, 12, 36, 0, 0, [1075]), (73, 2, .iconst 0, 0, 0, 0, 6, []), (75, 3, .if_icmp .ne 0, 83, 0, 0, 0, []),
  (78, 2, .iconst 0, 0, 0, 0, (-6), []), (80, 3, .goto 0, 84, 0, 0, 0, []), (83, 1, .iconst 0, 0, 0, 0, 0, []), (84, 2, .istore 0, 6, 0, 0, 0, []), (86, 2, .iload 0, 6, 0, 0, 0, []), (88, 3, .ifCond .eq 0, 98, 0, 0, 0, []),
  (91, 1, .aload 0, 0, 0, 0, 0, []), (92, 2, .iload 0, 6, 0, 0, 0, []), (94, 3, .invokevirtual 0, 133, 2, 12, 1, [1244, 1246, 26, 86]), (97, 1, .ireturn, 0, 0, 0, 0, []), (98, 1, .aload 0, 0, 0, 0, 0, []), (99, 3, .getfield 0, 12, 24, 2, 0, [1063]),
  (102, 1, .aload 0, 0, 0, 0, 0, []), (103, 3, .getfield 0, 12, 36, 0, 0, [1075]), (106, 1, .iload 0, 1, 0, 0, 0, []), (107, 1, .iastore, 0, 0, 0, 0, []), (108, 1, .aload 0, 0, 0, 0, 0, []), (109, 3, .getfield 0, 12, 25, 2, 0, [1064]),
  (112, 1, .aload 0, 0, 0, 0, 0, []), (113, 3, .getfield 0, 12, 36, 0, 0, [1075]), (116, 1, .iload 0, 2, 0, 0, 0, []), (117, 1, .iastore, 0, 0, 0, 0, []), (118, 1, .aload 0, 0, 0, 0, 0, []), (119, 3, .getfield 0, 12, 26, 2, 0, [1065]),
  (122, 1, .aload 0, 0, 0, 0, 0, []), (123, 3, .getfield 0, 12, 36, 0, 0, [1075]), (126, 1, .iload 0, 3, 0, 0, 0, []), (127, 1, .iastore, 0, 0, 0, 0, []), (128, 1, .aload 0, 0, 0, 0, 0, []), (129, 3, .getfield 0, 12, 27, 2, 0, [1066]),
  (132, 1, .aload 0, 0, 0, 0, 0, []), (133, 3, .getfield 0, 12, 36, 0, 0, [1075]), (136, 2, .iload 0, 4, 0, 0, 0, []), (138, 1, .iastore, 0, 0, 0, 0, []), (139, 1, .aload 0, 0, 0, 0, 0, []), (140, 3, .getfield 0, 12, 28, 2, 0, [1067]),
  (143, 1, .aload 0, 0, 0, 0, 0, []), (144, 3, .getfield 0, 12, 36, 0, 0, [1075]), (147, 2, .iload 0, 5, 0, 0, 0, []), (149, 1, .iastore, 0, 0, 0, 0, []), (150, 1, .aload 0, 0, 0, 0, 0, []), (151, 1, .dup, 0, 0, 0, 0, []),
  (152, 3, .getfield 0, 12, 36, 0, 0, [1075]), (155, 1, .iconst 0, 0, 0, 0, 1, []), (156, 1, .iadd, 0, 0, 0, 0, []), (157, 3, .putfield 0, 12, 36, 0, 0, [1075]), (160, 1, .aload 0, 0, 0, 0, 0, []), (161, 3, .getfield 0, 12, 36, 0, 0, [1075]),
  (164, 1, .iconst 0, 0, 0, 0, 1, []), (165, 1, .isub, 0, 0, 0, 0, []), (166, 1, .ireturn, 0, 0, 0, 0, [])
  ]
def mc_X12_year : List mv_E := [
  (0, 1, .aload 0, 0, 0, 0, 0, []), (1, 1, .iload 0, 1, 0, 0, 0, []), (2, 3, .invokevirtual 0, 160, 2, 12, 1, [1341, 1343, 38, 86]), (5, 3, .ifCond .ne 0, 14, 0, 0, 0, []), (8, 1, .aload 0, 0, 0, 0, 0, []), (9, 1, .iconst 0, 0, 0, 0, (-1), []),
  (10, 3, .invokevirtual 0, 133, 2, 12, 1, [1244, 1246, 26, 86]), (13, 1, .ireturn, 0, 0, 0, 0, []), (14, 1, .aload 0, 0, 0, 0, 0, []), (15, 3, .getfield 0, 12, 24, 2, 0, [1063]), (18, 1, .iload 0, 1, 0, 0, 0, []), (19, 1, .iaload, 0, 0, 0, 0, []),
  (20, 1, .iconst 0, 0, 0, 0, 3, []), (21, 3, .if_icmp .eq 0, 31, 0, 0, 0, []), (24, 1, .aload 0, 0, 0, 0, 0, []), (25, 2, .iconst 0, 0, 0, 0, (-3), []), (27, 3, .invokevirtual 0, 133, 2, 12, 1, [1244, 1246, 26, 86]), (30, 1, .ireturn, 0, 0, 0, 0, []),
  (31, 1, .iload 0, 2, 0, 0, 0, []), (32, 1, .i2l, 0, 0, 0, 0, []), (33, 3, .lconst 0, 0, 0, 0, (-99), [1345]), (36, 3, .lconst 0, 0, 0, 0, 99, [1302]), (39, 3, .invokestatic 0, 136, 3, 1, 1, [1241, 1242, 86]), (42, 1, .istore 0, 3, 0, 0, 0, []),
  (43, 1, .iload 0, 3, 0, 0, 0, []), (44, 3, .ifCond .ne 0, 61, 0, 0, 0, []), (47, 1, .aload 0, 0, 0, 0, 0, []), (48, 3, .getfield 0, 12, 31, 2, 0, [1070]), (51, 1, .iload 0, 1, 0, 0, 0, []), (52, 1, .iaload, 0, 0, 0, 0, []),
  (53, 2, .iconst 0, 0, 0, 0, 6, []), (55, 3, .if_icmp .ne 0, 61, 0, 0, 0, []), (58, 2, .iconst 0, 0, 0, 0, (-6), []), (60, 1, .istore 0, 3, 0, 0, 0, []), (61, 1, .iload 0, 3, 0, 0, 0, []), (62, 3, .ifCond .eq 0, 71, 0, 0, 0, []),
  (65, 1, .aload 0, 0, 0, 0, 0, []), (66, 1, .iload 0, 3, 0, 0, 0, []), (67, 3, .invokevirtual 0, 133, 2, 12, 1, [1244, 1246, 26, 86]), (70, 1, .ireturn, 0, 0, 0, 0, []), (71, 1, .aload 0, 0, 0, 0, 0, []), (72, 3, .getfield 0, 12, 30, 2, 0, [1069]),
  (75, 2, .iconst 0, 0, 0, 0, 6, []), (77, 1, .iload 0, 1, 0, 0, 0, []), (78, 1, .imul, 0, 0, 0, 0, []), (79, 1, .aload 0, 0, 0, 0, 0, []), (80, 3, .getfield 0, 12, 31, 2, 0, [1070]), (83, 1, .iload 0, 1, 0, 0, 0, []),
  (84, 1, .iaload, 0, 0, 0, 0, []), (85, 1, .iadd, 0, 0, 0, 0, []), (86, 1, .iload 0, 2, 0, 0, 0, []), (87, 1, .iastore, 0, 0, 0, 0, []), (88, 1, .aload 0, 0, 0, 0, 0, []), (89, 3, .getfield 0, 12, 31, 2, 0, [1070]),
  (92, 1, .iload 0, 1, 0, 0, 0, []), (93, 1, .dup2, 0, 0, 0, 0, []), (94, 1, .iaload, 0, 0, 0, 0, []), (95, 1, .iconst 0, 0, 0, 0, 1, []), (96, 1, .iadd, 0, 0, 0, 0, []), (97, 1, .iastore, 0, 0, 0, 0, []),
  (98, 1, .aload 0, 0, 0, 0, 0, []), (99, 3, .getfield 0, 12, 31, 2, 0, [1070]), (102, 1, .iload 0, 1, 0, 0, 0, []), (103, 1, .iaload, 0, 0, 0, 0, []), (104, 1, .ireturn, 0, 0, 0, 0, [])
  ]
def mc_X12_price : List mv_E := [
  (0, 1, .aload 0, 0, 0, 0, 0, []), (1, 1, .iload 0, 1, 0, 0, 0, []), (2, 3, .invokevirtual 0, 160, 2, 12, 1, [1341, 1343, 38, 86]), (5, 3, .ifCond .eq 0, 16, 0, 0, 0, []), (8, 1, .aload 0, 0, 0, 0, 0, []), (9, 1, .iload 0, 2, 0, 0, 0, []),
  (10, 3, .invokevirtual 0, 158, 2, 12, 1, [1350, 1352, 39, 86]), (13, 3, .ifCond .ne 0, 22, 0, 0, 0, []), (16, 1, .aload 0, 0, 0, 0, 0, []), (17, 1, .iconst 0, 0, 0, 0, (-1), []), (18, 3, .invokevirtual 0, 133, 2, 12, 1, [1244, 1246, 26, 86]), (21, 1, .ireturn, 0, 0, 0, 0, []),
  (22, 1, .iload 0, 3, 0, 0, 0, []), (23, 1, .i2l, 0, 0, 0, 0, []), (24, 1, .lconst 0, 0, 0, 0, 0, []), (25, 3, .lconst 0, 0, 0, 0, 999, [1354]), (28, 3, .invokestatic 0, 136, 3, 1, 1, [1241, 1242, 86]), (31, 2, .istore 0, 4, 0, 0, 0, []),
  (33, 2, .iload 0, 4, 0, 0, 0, []), (35, 3, .ifCond .eq 0, 45, 0, 0, 0, []), (38, 1, .aload 0, 0, 0, 0, 0, []), (39, 2, .iload 0, 4, 0, 0, 0, []), (41, 3, .invokevirtual 0, 133, 2, 12, 1, [1244, 1246, 26, 86]), (44, 1, .ireturn, 0, 0, 0, 0, []),
  (45, 1, .aload 0, 0, 0, 0, 0, []), (46, 3, .getfield 0, 12, 32, 2, 0, [1071]), (49, 1, .iconst 0, 0, 0, 0, 3, []), (50, 1, .iload 0, 1, 0, 0, 0, []), (51, 1, .imul, 0, 0, 0, 0, []), (52, 1, .iload 0, 2, 0, 0, 0, []),
  (53, 1, .iadd, 0, 0, 0, 0, []), (54, 1, .iaload, 0, 0, 0, 0, []), (55, 2, .istore 0, 5, 0, 0, 0, []), (57, 1, .aload 0, 0, 0, 0, 0, []), (58, 3, .getfield 0, 12, 32, 2, 0, [1071]), (61, 1, .iconst 0, 0, 0, 0, 3, []),
  (62, 1, .iload 0, 1, 0, 0, 0, []), (63, 1, .imul, 0, 0, 0, 0, []), (64, 1, .iload 0, 2, 0, 0, 0, []), (65, 1, .iadd, 0, 0, 0, 0, []), (66, 1, .iload 0, 3, 0, 0, 0, []), (67, 1, .iastore, 0, 0, 0, 0, []),
  (68, 2, .iload 0, 5, 0, 0, 0, []), (70, 1, .ireturn, 0, 0, 0, 0, [])
  ]
def mc_X12_tax : List mv_E := [
  (0, 1, .iload 0, 1, 0, 0, 0, []), (1, 1, .iconst 0, 0, 0, 0, (-1), []), (2, 3, .if_icmp .eq 0, 19, 0, 0, 0, []), (5, 1, .aload 0, 0, 0, 0, 0, []), (6, 1, .iload 0, 1, 0, 0, 0, []), (7, 3, .invokevirtual 0, 160, 2, 12, 1, [1341, 1343, 38, 86]),
  (10, 3, .ifCond .ne 0, 19, 0, 0, 0, []), (13, 1, .aload 0, 0, 0, 0, 0, []), (14, 1, .iconst 0, 0, 0, 0, (-1), []), (15, 3, .invokevirtual 0, 133, 2, 12, 1, [1244, 1246, 26, 86]), (18, 1, .ireturn, 0, 0, 0, 0, []), (19, 1, .iload 0, 2, 0, 0, 0, []),
  (20, 1, .i2l, 0, 0, 0, 0, []), (21, 1, .lconst 0, 0, 0, 0, 0, []), (22, 1, .iload 0, 1, 0, 0, 0, []), (23, 3, .ifCond .ge 0, 32, 0, 0, 0, []), (26, 3, .lconst 0, 0, 0, 0, 100, [1359]), (29, 3, .goto 0, 35, 0, 0, 0, []),
  (32, 3, .lconst 0, 0, 0, 0, 9999, [1360]), (35, 3, .invokestatic 0, 136, 3, 1, 1, [1241, 1242, 86]), (38, 1, .istore 0, 3, 0, 0, 0, []), (39, 1, .iload 0, 3, 0, 0, 0, []), (40, 3, .ifCond .eq 0, 49, 0, 0, 0, []), (43, 1, .aload 0, 0, 0, 0, 0, []),
  (44, 1, .iload 0, 3, 0, 0, 0, []), (45, 3, .invokevirtual 0, 133, 2, 12, 1, [1244, 1246, 26, 86]), (48, 1, .ireturn, 0, 0, 0, 0, []), (49, 1, .iload 0, 1, 0, 0, 0, []), (50, 3, .ifCond .ge 0, 60, 0, 0, 0, []), (53, 1, .aload 0, 0, 0, 0, 0, []),
  (54, 3, .getfield 0, 12, 37, 0, 0, [1076]), (57, 3, .goto 0, 66, 0, 0, 0, []), (60, 1, .aload 0, 0, 0, 0, 0, []), (61, 3, .getfield 0, 12, 29, 2, 0, [1068]), (64, 1, .iload 0, 1, 0, 0, 0, []), (65, 1, .iaload, 0, 0, 0, 0, []),
  (66, 2, .istore 0, 4, 0, 0, 0, []), (68, 1, .iload 0, 1, 0, 0, 0, []), (69, 3, .ifCond .ge 0, 80, 0, 0, 0, []), (72, 1, .aload 0, 0, 0, 0, 0, []), (73, 1, .iload 0, 2, 0, 0, 0, []), (74, 3, .putfield 0, 12, 37, 0, 0, [1076]),
  (77, 3, .goto 0, 87, 0, 0, 0, []), (80, 1, .aload 0, 0, 0, 0, 0, []), (81, 3, .getfield 0, 12, 29, 2, 0, [1068]), (84, 1, .iload 0, 1, 0, 0, 0, []), (85, 1, .iload 0, 2, 0, 0, 0, []), (86, 1, .iastore, 0, 0, 0, 0, []),
  (87, 2, .iload 0, 4, 0, 0, 0, []), (89, 1, .ireturn, 0, 0, 0, 0, [])
  ]
def mc_X12_yieldOf : List mv_E := [
  (0, 1, .aload 0, 0, 0, 0, 0, []), (1, 3, .getfield 0, 12, 24, 2, 0, [1063]), (4, 1, .iload 0, 1, 0, 0, 0, []), (5, 1, .iaload, 0, 0, 0, 0, []), (6, 1, .iconst 0, 0, 0, 0, 4, []), (7, 3, .if_icmp .ne 0, 19, 0, 0, 0, []),
  (10, 1, .aload 0, 0, 0, 0, 0, []), (11, 3, .getfield 0, 12, 25, 2, 0, [1064]), (14, 1, .iload 0, 1, 0, 0, 0, []), (15, 1, .iaload, 0, 0, 0, 0, []), (16, 3, .goto 0, 34, 0, 0, 0, []), (19, 1, .aload 0, 0, 0, 0, 0, []),
  (20, 3, .getfield 0, 12, 25, 2, 0, [1064]), (23, 1, .iload 0, 1, 0, 0, 0, []), (24, 1, .iaload, 0, 0, 0, 0, []), (25, 1, .aload 0, 0, 0, 0, 0, []), (26, 3, .getfield 0, 12, 26, 2, 0, [1065]), (29, 1, .iload 0, 1, 0, 0, 0, []),
  (30, 1, .iaload, 0, 0, 0, 0, []), (31, 1, .iload 0, 2, 0, 0, 0, []), (32, 1, .imul, 0, 0, 0, 0, []), (33, 1, .iadd, 0, 0, 0, 0, []), (34, 1, .ireturn, 0, 0, 0, 0, [])
  ]
def mc_X12_mean : List mv_E := [
  (0, 1, .iconst 0, 0, 0, 0, 0, []), (1, 1, .istore 0, 2, 0, 0, 0, []), (2, 1, .iconst 0, 0, 0, 0, 0, []), (3, 1, .istore 0, 3, 0, 0, 0, []), (4, 1, .iload 0, 3, 0, 0, 0, []), (5, 1, .aload 0, 0, 0, 0, 0, []),
  (6, 3, .getfield 0, 12, 31, 2, 0, [1070]), (9, 1, .iload 0, 1, 0, 0, 0, []), (10, 1, .iaload, 0, 0, 0, 0, []), (11, 3, .if_icmp .ge 0, 34, 0, 0, 0, []), (14, 1, .iload 0, 2, 0, 0, 0, []), (15, 1, .aload 0, 0, 0, 0, 0, []),
  (16, 3, .getfield 0, 12, 30, 2, 0, [1069]), (19, 2, .iconst 0, 0, 0, 0, 6, []), (21, 1, .iload 0, 1, 0, 0, 0, []), (22, 1, .imul, 0, 0, 0, 0, []), (23, 1, .iload 0, 3, 0, 0, 0, []), (24, 1, .iadd, 0, 0, 0, 0, []),
  (25, 1, .iaload, 0, 0, 0, 0, []), (26, 1, .iadd, 0, 0, 0, 0, []), (27, 1, .istore 0, 2, 0, 0, 0, []), (28, 3, .iinc 0 0, 3, 0, 0, 1, []), (31, 3, .goto 0, 4, 0, 0, 0, []), (34, 1, .aload 0, 0, 0, 0, 0, []),
  (35, 3, .getfield 0, 12, 24, 2, 0, [1063]), (38, 1, .iload 0, 1, 0, 0, 0, []), (39, 1, .iaload, 0, 0, 0, 0, []), (40, 1, .iconst 0, 0, 0, 0, 3, []), (41, 3, .if_icmp .ne 0, 53, 0, 0, 0, []), (44, 1, .aload 0, 0, 0, 0, 0, []),
  (45, 3, .getfield 0, 12, 31, 2, 0, [1070]), (48, 1, .iload 0, 1, 0, 0, 0, []), (49, 1, .iaload, 0, 0, 0, 0, []), (50, 3, .ifCond .ne 0, 57, 0, 0, 0, []), (53, 1, .iconst 0, 0, 0, 0, 0, []), (54, 3, .goto 0, 65, 0, 0, 0, []),
  (57, 1, .iload 0, 2, 0, 0, 0, []), (58, 1, .aload 0, 0, 0, 0, 0, []), (59, 3, .getfield 0, 12, 31, 2, 0, [1070]), (62, 1, .iload 0, 1, 0, 0, 0, []), (63, 1, .iaload, 0, 0, 0, 0, []), (64, 1, .idiv, 0, 0, 0, 0, []),
  (65, 1, .ireturn, 0, 0, 0, 0, [])
  ]
def mc_X12_fareOf : List mv_E := [
  (0, 1, .aload 0, 0, 0, 0, 0, []), (1, 3, .getfield 0, 12, 24, 2, 0, [1063]), (4, 1, .iload 0, 1, 0, 0, 0, []), (5, 1, .iaload, 0, 0, 0, 0, []), (6, 1, .iconst 0, 0, 0, 0, 1, []), (7, 3, .if_icmp .ne 0, 21, 0, 0, 0, []),
  (10, 1, .aload 0, 0, 0, 0, 0, []), (11, 3, .getfield 0, 12, 28, 2, 0, [1067]), (14, 1, .iload 0, 1, 0, 0, 0, []), (15, 1, .iaload, 0, 0, 0, 0, []), (16, 1, .iconst 0, 0, 0, 0, 2, []), (17, 1, .idiv, 0, 0, 0, 0, []),
  (18, 3, .goto 0, 27, 0, 0, 0, []), (21, 1, .aload 0, 0, 0, 0, 0, []), (22, 3, .getfield 0, 12, 28, 2, 0, [1067]), (25, 1, .iload 0, 1, 0, 0, 0, []), (26, 1, .iaload, 0, 0, 0, 0, []), (27, 1, .ireturn, 0, 0, 0, 0, [])
  ]
def mc_X12_worth : List mv_E := [
  (0, 3, .lconst 0, 0, 0, 0, 100, [1359]), (3, 1, .aload 0, 0, 0, 0, 0, []), (4, 1, .iload 0, 1, 0, 0, 0, []), (5, 1, .iload 0, 2, 0, 0, 0, []), (6, 3, .invokevirtual 0, 165, 3, 12, 1, [1386, 1388, 45, 86]), (9, 1, .i2l, 0, 0, 0, 0, []),
  (10, 1, .aload 0, 0, 0, 0, 0, []), (11, 3, .getfield 0, 12, 32, 2, 0, [1071]), (14, 1, .iconst 0, 0, 0, 0, 3, []), (15, 1, .iload 0, 1, 0, 0, 0, []), (16, 1, .imul, 0, 0, 0, 0, []), (17, 1, .iload 0, 3, 0, 0, 0, []),
  (18, 1, .iadd, 0, 0, 0, 0, []), (19, 1, .iaload, 0, 0, 0, 0, []), (20, 1, .aload 0, 0, 0, 0, 0, []), (21, 1, .iload 0, 1, 0, 0, 0, []), (22, 3, .invokevirtual 0, 166, 2, 12, 1, [1390, 1392, 46, 86]), (25, 1, .iadd, 0, 0, 0, 0, []),
  (26, 1, .i2l, 0, 0, 0, 0, []), (27, 1, .lmul, 0, 0, 0, 0, []), (28, 1, .aload 0, 0, 0, 0, 0, []), (29, 3, .getfield 0, 12, 27, 2, 0, [1066]), (32, 1, .iload 0, 1, 0, 0, 0, []), (33, 1, .iaload, 0, 0, 0, 0, []),
  (34, 1, .i2l, 0, 0, 0, 0, []), (35, 1, .lsub, 0, 0, 0, 0, []), (36, 1, .aload 0, 0, 0, 0, 0, []), (37, 3, .getfield 0, 12, 29, 2, 0, [1068]), (40, 1, .iload 0, 1, 0, 0, 0, []), (41, 1, .iaload, 0, 0, 0, 0, []),
  (42, 1, .i2l, 0, 0, 0, 0, []), (43, 1, .lsub, 0, 0, 0, 0, []), (44, 1, .lmul, 0, 0, 0, 0, []), (45, 1, .lreturn, 0, 0, 0, 0, [])
  ]
def mc_X12_wayOf : List mv_E := [
  (0, 1, .aload 0, 0, 0, 0, 0, []), (1, 3, .getfield 0, 12, 22, 2, 0, [1061]), (4, 2, .iconst 0, 0, 0, 0, 48, []), (6, 1, .iconst 0, 0, 0, 0, 2, []), (7, 1, .iload 0, 3, 0, 0, 0, []), (8, 1, .imul, 0, 0, 0, 0, []),
  (9, 1, .aload 0, 0, 0, 0, 0, []), (10, 3, .getfield 0, 12, 24, 2, 0, [1063]), (13, 1, .iload 0, 1, 0, 0, 0, []), (14, 1, .iaload, 0, 0, 0, 0, []), (15, 1, .iconst 0, 0, 0, 0, 1, []), (16, 3, .if_icmp .ne 0, 23, 0, 0, 0, []),
  (19, 1, .iconst 0, 0, 0, 0, 1, []), (20, 3, .goto 0, 24, 0, 0, 0, []), (23, 1, .iconst 0, 0, 0, 0, 0, []), (24, 1, .iadd, 0, 0, 0, 0, []), (25, 1, .imul, 0, 0, 0, 0, []), (26, 1, .iload 0, 2, 0, 0, 0, []),
  (27, 1, .iadd, 0, 0, 0, 0, []), (28, 1, .iaload, 0, 0, 0, 0, []), (29, 1, .ireturn, 0, 0, 0, 0, [])
  ]
def mc_X12_bidOf : List mv_E := [
  (0, 1, .aload 0, 0, 0, 0, 0, []), (1, 3, .getfield 0, 12, 24, 2, 0, [1063]), (4, 1, .iload 0, 1, 0, 0, 0, []), (5, 1, .iaload, 0, 0, 0, 0, []), (6, 1, .iconst 0, 0, 0, 0, 5, []), (7, 3, .if_icmp .eq 0, 32, 0, 0, 0, []),
  (10, 1, .aload 0, 0, 0, 0, 0, []), (11, 3, .getfield 0, 12, 24, 2, 0, [1063]), (14, 1, .iload 0, 1, 0, 0, 0, []), (15, 1, .iaload, 0, 0, 0, 0, []), (16, 1, .iconst 0, 0, 0, 0, 2, []), (17, 3, .if_icmp .ne 0, 34, 0, 0, 0, []),
  (20, 1, .aload 0, 0, 0, 0, 0, []), (21, 1, .iload 0, 1, 0, 0, 0, []), (22, 1, .iload 0, 2, 0, 0, 0, []), (23, 1, .iload 0, 3, 0, 0, 0, []), (24, 3, .invokevirtual 0, 169, 4, 12, 1, [1378, 1380, 43, 86]), (27, 2, .iconst 0, 0, 0, 0, 60, []),
  (29, 3, .if_icmp .le 0, 34, 0, 0, 0, []), (32, 1, .lconst 0, 0, 0, 0, 0, []), (33, 1, .lreturn, 0, 0, 0, 0, []), (34, 1, .aload 0, 0, 0, 0, 0, []), (35, 1, .iload 0, 1, 0, 0, 0, []), (36, 1, .aload 0, 0, 0, 0, 0, []),
  (37, 3, .getfield 0, 12, 2, 2, 0, [1041]), (40, 1, .iload 0, 2, 0, 0, 0, []), (41, 1, .iaload, 0, 0, 0, 0, []), (42, 1, .iload 0, 3, 0, 0, 0, []), (43, 3, .invokevirtual 0, 168, 4, 12, 2, [1382, 1384, 44, 86]), (46, 1, .aload 0, 0, 0, 0, 0, []),
  (47, 1, .iload 0, 1, 0, 0, 0, []), (48, 3, .invokevirtual 0, 167, 2, 12, 1, [1394, 1396, 47, 86]), (51, 1, .i2l, 0, 0, 0, 0, []), (52, 1, .aload 0, 0, 0, 0, 0, []), (53, 1, .iload 0, 1, 0, 0, 0, []), (54, 1, .aload 0, 0, 0, 0, 0, []),
  (55, 3, .getfield 0, 12, 2, 2, 0, [1041]), (58, 1, .iload 0, 2, 0, 0, 0, []), (59, 1, .iaload, 0, 0, 0, 0, []), (60, 3, .invokevirtual 0, 165, 3, 12, 1, [1386, 1388, 45, 86]), (63, 1, .i2l, 0, 0, 0, 0, []), (64, 1, .lmul, 0, 0, 0, 0, []),
  (65, 1, .aload 0, 0, 0, 0, 0, []), (66, 1, .iload 0, 1, 0, 0, 0, []), (67, 1, .iload 0, 2, 0, 0, 0, []), (68, 1, .iload 0, 3, 0, 0, 0, []), (69, 3, .invokevirtual 0, 169, 4, 12, 1, [1378, 1380, 43, 86]), (72, 1, .i2l, 0, 0, 0, 0, []),
  (73, 1, .lmul, 0, 0, 0, 0, []), (74, 1, .lsub, 0, 0, 0, 0, []), (75, 1, .lreturn, 0, 0, 0, 0, [])
  ]
def mc_X12_bid : List mv_E := [
  (0, 1, .aload 0, 0, 0, 0, 0, []), (1, 1, .iload 0, 2, 0, 0, 0, []), (2, 3, .invokevirtual 0, 142, 2, 12, 1, [1274, 1276, 30, 86]), (5, 2, .istore 0, 4, 0, 0, 0, []), (7, 1, .aload 0, 0, 0, 0, 0, []), (8, 1, .iload 0, 1, 0, 0, 0, []),
  (9, 3, .invokevirtual 0, 160, 2, 12, 1, [1341, 1343, 38, 86]), (12, 3, .ifCond .eq 0, 28, 0, 0, 0, []), (15, 2, .iload 0, 4, 0, 0, 0, []), (17, 3, .ifCond .lt 0, 28, 0, 0, 0, []), (20, 1, .aload 0, 0, 0, 0, 0, []), (21, 1, .iload 0, 3, 0, 0, 0, []),
  (22, 3, .invokevirtual 0, 158, 2, 12, 1, [1350, 1352, 39, 86]), (25, 3, .ifCond .ne 0, 34, 0, 0, 0, []), (28, 1, .aload 0, 0, 0, 0, 0, []), (29, 1, .iconst 0, 0, 0, 0, (-1), []), (30, 3, .invokevirtual 0, 134, 2, 12, 2, [1365, 1367, 40, 86]), (33, 1, .lreturn, 0, 0, 0, 0, []),
  (34, 1, .aload 0, 0, 0, 0, 0, []), (35, 3, .invokevirtual 0, 159, 1, 12, 0, [1370, 1372, 41, 86]), (38, 1, .aload 0, 0, 0, 0, 0, []), (39, 1, .iload 0, 1, 0, 0, 0, []), (40, 2, .iload 0, 4, 0, 0, 0, []), (42, 1, .iload 0, 3, 0, 0, 0, []),
  (43, 3, .invokevirtual 0, 170, 4, 12, 2, [1374, 1376, 42, 86]), (46, 1, .lreturn, 0, 0, 0, 0, [])
  ]
def mc_X12_findGoing : List mv_E := [
  (0, 1, .aload 0, 0, 0, 0, 0, []), (1, 3, .getfield 0, 12, 38, 2, 0, [1077]), (4, 1, .iload 0, 1, 0, 0, 0, []), (5, 2, .iconst 0, 0, 0, 0, (-9), []), (7, 1, .iastore, 0, 0, 0, 0, []), (8, 1, .aload 0, 0, 0, 0, 0, []),
  (9, 3, .getfield 0, 12, 39, 2, 0, [1078]), (12, 1, .iload 0, 1, 0, 0, 0, []), (13, 2, .iconst 0, 0, 0, 0, (-9), []), (15, 1, .iastore, 0, 0, 0, 0, []), (16, 1, .aload 0, 0, 0, 0, 0, []), (17, 3, .getfield 0, 12, 40, 2, 0, [1079]),
  (20, 1, .iload 0, 1, 0, 0, 0, []), (21, 1, .lconst 0, 0, 0, 0, 0, []), (22, 1, .lastore, 0, 0, 0, 0, []), (23, 1, .iconst 0, 0, 0, 0, 0, []), (24, 1, .istore 0, 2, 0, 0, 0, []), (25, 1, .iload 0, 2, 0, 0, 0, []),
  (26, 1, .aload 0, 0, 0, 0, 0, []), (27, 3, .getfield 0, 12, 36, 0, 0, [1075]), (30, 3, .if_icmp .ge 0, 118, 0, 0, 0, []), (33, 1, .aload 0, 0, 0, 0, 0, []), (34, 1, .iload 0, 1, 0, 0, 0, []), (35, 3, .invokevirtual 0, 143, 2, 12, 1, [1316, 1318, 35, 86]),
  (38, 3, .ifCond .eq 0, 118, 0, 0, 0, []), (41, 1, .aload 0, 0, 0, 0, 0, []), (42, 3, .getfield 0, 12, 6, 2, 0, [1045]), (45, 1, .iload 0, 1, 0, 0, 0, []), (46, 1, .baload, 0, 0, 0, 0, []), (47, 3, .ifCond .ne 0, 118, 0, 0, 0, []),
  (50, 1, .iconst 0, 0, 0, 0, 0, []), (51, 1, .istore 0, 3, 0, 0, 0, []), (52, 1, .iload 0, 3, 0, 0, 0, []), (53, 1, .aload 0, 0, 0, 0, 0, []), (54, 3, .getfield 0, 12, 23, 0, 0, [1062]), (57, 3, .if_icmp .ge 0, 112, 0, 0, 0, []),
  (60, 1, .aload 0, 0, 0, 0, 0, []), (61, 1, .iload 0, 2, 0, 0, 0, []), (62, 1, .iload 0, 1, 0, 0, 0, []), (63, 1, .iload 0, 3, 0, 0, 0, []), (64, 3, .invokevirtual 0, 170, 4, 12, 2, [1374, 1376, 42, 86]), (67, 2, .lstore 0, 4, 0, 0, 0, []),
  (69, 2, .lload 0, 4, 0, 0, 0, []), (71, 1, .aload 0, 0, 0, 0, 0, []), (72, 3, .getfield 0, 12, 40, 2, 0, [1079]), (75, 1, .iload 0, 1, 0, 0, 0, []), (76, 1, .laload, 0, 0, 0, 0, []), (77, 1, .lcmp, 0, 0, 0, 0, []),
  (78, 3, .ifCond .gt 0, 84, 0, 0, 0, []), (81, 3, .goto 0, 106, 0, 0, 0, []), (84, 1, .aload 0, 0, 0, 0, 0, []), (85, 3, .getfield 0, 12, 40, 2, 0, [1079]), (88, 1, .iload 0, 1, 0, 0, 0, []), (89, 2, .lload 0, 4, 0, 0, 0, []),
  (91, 1, .lastore, 0, 0, 0, 0, []), (92, 1, .aload 0, 0, 0, 0, 0, []), (93, 3, .getfield 0, 12, 38, 2, 0, [1077]), (96, 1, .iload 0, 1, 0, 0, 0, []), (97, 1, .iload 0, 2, 0, 0, 0, []), (98, 1, .iastore, 0, 0, 0, 0, []),
  (99, 1, .aload 0, 0, 0, 0, 0, []), (100, 3, .getfield 0, 12, 39, 2, 0, [1078]), (103, 1, .iload 0, 1, 0, 0, 0, []), (104, 1, .iload 0, 3, 0, 0, 0, []), (105, 1, .iastore, 0, 0, 0, 0, []), (106, 3, .iinc 0 0, 3, 0, 0, 1, []),
  (109, 3, .goto 0, 52, 0, 0, 0, []), (112, 3, .iinc 0 0, 2, 0, 0, 1, []), (115, 3, .goto 0, 25, 0, 0, 0, []), (118, 1, .return_, 0, 0, 0, 0, [])
  ]
def mc_X12_finds : List mv_E := [
  (0, 1, .aload 0, 0, 0, 0, 0, []), (1, 3, .invokevirtual 0, 159, 1, 12, 0, [1370, 1372, 41, 86]), (4, 1, .iconst 0, 0, 0, 0, 0, []), (5, 1, .istore 0, 1, 0, 0, 0, []), (6, 1, .iload 0, 1, 0, 0, 0, []), (7, 2, .iconst 0, 0, 0, 0, 48, []),
  (9, 3, .if_icmp .ge 0, 23, 0, 0, 0, []), (12, 1, .aload 0, 0, 0, 0, 0, []), (13, 1, .iload 0, 1, 0, 0, 0, []), (14, 3, .invokevirtual 0, 172, 2, 12, 0, [1406, 1408, 49, 86]), (17, 3, .iinc 0 0, 1, 0, 0, 1, []), (20, 3, .goto 0, 6, 0, 0, 0, []),
  (23, 1, .return_, 0, 0, 0, 0, [])
  ]
def mc_X12_goes : List mv_E := [
  (0, 1, .aload 0, 0, 0, 0, 0, []), (1, 1, .iload 0, 1, 0, 0, 0, []), (2, 3, .invokevirtual 0, 142, 2, 12, 1, [1274, 1276, 30, 86]), (5, 1, .istore 0, 3, 0, 0, 0, []), (6, 1, .iload 0, 3, 0, 0, 0, []), (7, 3, .ifCond .ge 0, 16, 0, 0, 0, []),
  (10, 1, .aload 0, 0, 0, 0, 0, []), (11, 1, .iconst 0, 0, 0, 0, (-1), []), (12, 3, .invokevirtual 0, 133, 2, 12, 1, [1244, 1246, 26, 86]), (15, 1, .ireturn, 0, 0, 0, 0, []), (16, 1, .iload 0, 2, 0, 0, 0, []), (17, 1, .i2l, 0, 0, 0, 0, []),
  (18, 1, .lconst 0, 0, 0, 0, 0, []), (19, 1, .lconst 0, 0, 0, 0, 1, []), (20, 3, .invokestatic 0, 135, 3, 1, 1, [1267, 1268, 86]), (23, 3, .ifCond .ne 0, 33, 0, 0, 0, []), (26, 1, .aload 0, 0, 0, 0, 0, []), (27, 2, .iconst 0, 0, 0, 0, (-2), []),
  (29, 3, .invokevirtual 0, 133, 2, 12, 1, [1244, 1246, 26, 86]), (32, 1, .ireturn, 0, 0, 0, 0, []), (33, 1, .aload 0, 0, 0, 0, 0, []), (34, 3, .invokevirtual 0, 173, 1, 12, 0, [1402, 1404, 48, 86]), (37, 1, .iload 0, 2, 0, 0, 0, []), (38, 3, .ifCond .ne 0, 50, 0, 0, 0, []),
  (41, 1, .aload 0, 0, 0, 0, 0, []), (42, 3, .getfield 0, 12, 38, 2, 0, [1077]), (45, 1, .iload 0, 3, 0, 0, 0, []), (46, 1, .iaload, 0, 0, 0, 0, []), (47, 3, .goto 0, 56, 0, 0, 0, []), (50, 1, .aload 0, 0, 0, 0, 0, []),
  (51, 3, .getfield 0, 12, 39, 2, 0, [1078]), (54, 1, .iload 0, 3, 0, 0, 0, []), (55, 1, .iaload, 0, 0, 0, 0, []), (56, 1, .ireturn, 0, 0, 0, 0, [])
  ]
def mc_X12_rentOf : List mv_E := [
  (0, 1, .aload 0, 0, 0, 0, 0, []), (1, 3, .getfield 0, 12, 40, 2, 0, [1079]), (4, 1, .iload 0, 1, 0, 0, 0, []), (5, 1, .laload, 0, 0, 0, 0, []), (6, 1, .aload 0, 0, 0, 0, 0, []), (7, 3, .getfield 0, 12, 40, 2, 0, [1079]),
  (10, 1, .iload 0, 1, 0, 0, 0, []), (11, 1, .laload, 0, 0, 0, 0, []), (12, 1, .aload 0, 0, 0, 0, 0, []), (13, 3, .getfield 0, 12, 37, 0, 0, [1076]), (16, 1, .i2l, 0, 0, 0, 0, []), (17, 1, .lmul, 0, 0, 0, 0, []),
  (18, 3, .lconst 0, 0, 0, 0, 100, [1359]), (21, 1, .ldiv, 0, 0, 0, 0, []), (22, 1, .lsub, 0, 0, 0, 0, []), (23, 1, .lreturn, 0, 0, 0, 0, [])
  ]
def mc_X12_allRents : List mv_E := [
  (0, 1, .lconst 0, 0, 0, 0, 0, []), (1, 1, .lstore 0, 1, 0, 0, 0, []), (2, 1, .iconst 0, 0, 0, 0, 0, []), (3, 1, .istore 0, 3, 0, 0, 0, []), (4, 1, .iload 0, 3, 0, 0, 0, []), (5, 2, .iconst 0, 0, 0, 0, 48, []),
  (7, 3, .if_icmp .ge 0, 24, 0, 0, 0, []), (10, 1, .lload 0, 1, 0, 0, 0, []), (11, 1, .aload 0, 0, 0, 0, 0, []), (12, 1, .iload 0, 3, 0, 0, 0, []), (13, 3, .invokevirtual 0, 175, 2, 12, 2, [1418, 1420, 51, 86]), (16, 1, .ladd, 0, 0, 0, 0, []),
  (17, 1, .lstore 0, 1, 0, 0, 0, []), (18, 3, .iinc 0 0, 3, 0, 0, 1, []), (21, 3, .goto 0, 4, 0, 0, 0, []), (24, 1, .lload 0, 1, 0, 0, 0, []), (25, 1, .lreturn, 0, 0, 0, 0, [])
  ]
def mc_X12_rent : List mv_E := [
  (0, 1, .iload 0, 1, 0, 0, 0, []), (1, 1, .iconst 0, 0, 0, 0, (-1), []), (2, 3, .if_icmp .ne 0, 9, 0, 0, 0, []), (5, 1, .iconst 0, 0, 0, 0, 0, []), (6, 3, .goto 0, 14, 0, 0, 0, []), (9, 1, .aload 0, 0, 0, 0, 0, []),
  (10, 1, .iload 0, 1, 0, 0, 0, []), (11, 3, .invokevirtual 0, 142, 2, 12, 1, [1274, 1276, 30, 86]), (14, 1, .istore 0, 2, 0, 0, 0, []), (15, 1, .iload 0, 2, 0, 0, 0, []), (16, 3, .ifCond .ge 0, 25, 0, 0, 0, []), (19, 1, .aload 0, 0, 0, 0, 0, []),
  (20, 1, .iconst 0, 0, 0, 0, (-1), []), (21, 3, .invokevirtual 0, 134, 2, 12, 2, [1365, 1367, 40, 86]), (24, 1, .lreturn, 0, 0, 0, 0, []), (25, 1, .aload 0, 0, 0, 0, 0, []), (26, 3, .invokevirtual 0, 173, 1, 12, 0, [1402, 1404, 48, 86]), (29, 1, .iload 0, 1, 0, 0, 0, []),
  (30, 1, .iconst 0, 0, 0, 0, (-1), []), (31, 3, .if_icmp .ne 0, 41, 0, 0, 0, []), (34, 1, .aload 0, 0, 0, 0, 0, []), (35, 3, .invokevirtual 0, 176, 1, 12, 2, [1414, 1416, 50, 86]), (38, 3, .goto 0, 46, 0, 0, 0, []), (41, 1, .aload 0, 0, 0, 0, 0, []),
  (42, 1, .iload 0, 2, 0, 0, 0, []), (43, 3, .invokevirtual 0, 175, 2, 12, 2, [1418, 1420, 51, 86]), (46, 1, .lreturn, 0, 0, 0, 0, [])
  ]
def mc_X12_comesTo : List mv_E := [
  (0, 1, .iconst 0, 0, 0, 0, 0, []), (1, 1, .istore 0, 3, 0, 0, 0, []), (2, 1, .iconst 0, 0, 0, 0, 0, []), (3, 2, .istore 0, 4, 0, 0, 0, []), (5, 2, .iload 0, 4, 0, 0, 0, []), (7, 2, .iconst 0, 0, 0, 0, 48, []),
  (9, 3, .if_icmp .ge 0, 59, 0, 0, 0, []), (12, 1, .iload 0, 3, 0, 0, 0, []), (13, 1, .aload 0, 0, 0, 0, 0, []), (14, 3, .getfield 0, 12, 38, 2, 0, [1077]), (17, 2, .iload 0, 4, 0, 0, 0, []), (19, 1, .iaload, 0, 0, 0, 0, []),
  (20, 1, .iload 0, 1, 0, 0, 0, []), (21, 3, .if_icmp .ne 0, 50, 0, 0, 0, []), (24, 1, .aload 0, 0, 0, 0, 0, []), (25, 3, .getfield 0, 12, 39, 2, 0, [1078]), (28, 2, .iload 0, 4, 0, 0, 0, []), (30, 1, .iaload, 0, 0, 0, 0, []),
  (31, 1, .iload 0, 2, 0, 0, 0, []), (32, 3, .if_icmp .ne 0, 50, 0, 0, 0, []), (35, 1, .aload 0, 0, 0, 0, 0, []), (36, 1, .iload 0, 1, 0, 0, 0, []), (37, 1, .aload 0, 0, 0, 0, 0, []), (38, 3, .getfield 0, 12, 2, 2, 0, [1041]),
  (41, 2, .iload 0, 4, 0, 0, 0, []), (43, 1, .iaload, 0, 0, 0, 0, []), (44, 3, .invokevirtual 0, 165, 3, 12, 1, [1386, 1388, 45, 86]), (47, 3, .goto 0, 51, 0, 0, 0, []), (50, 1, .iconst 0, 0, 0, 0, 0, []), (51, 1, .iadd, 0, 0, 0, 0, []),
  (52, 1, .istore 0, 3, 0, 0, 0, []), (53, 3, .iinc 0 0, 4, 0, 0, 1, []), (56, 3, .goto 0, 5, 0, 0, 0, []), (59, 1, .iload 0, 3, 0, 0, 0, []), (60, 1, .ireturn, 0, 0, 0, 0, [])
  ]
def mc_X12_comes : List mv_E := [
  (0, 1, .aload 0, 0, 0, 0, 0, []), (1, 1, .iload 0, 1, 0, 0, 0, []), (2, 3, .invokevirtual 0, 160, 2, 12, 1, [1341, 1343, 38, 86]), (5, 3, .ifCond .eq 0, 16, 0, 0, 0, []), (8, 1, .aload 0, 0, 0, 0, 0, []), (9, 1, .iload 0, 2, 0, 0, 0, []),
  (10, 3, .invokevirtual 0, 158, 2, 12, 1, [1350, 1352, 39, 86]), (13, 3, .ifCond .ne 0, 22, 0, 0, 0, []), (16, 1, .aload 0, 0, 0, 0, 0, []), (17, 1, .iconst 0, 0, 0, 0, (-1), []), (18, 3, .invokevirtual 0, 133, 2, 12, 1, [1244, 1246, 26, 86]), (21, 1, .ireturn, 0, 0, 0, 0, []),
  (22, 1, .aload 0, 0, 0, 0, 0, []), (23, 3, .invokevirtual 0, 173, 1, 12, 0, [1402, 1404, 48, 86]), (26, 1, .aload 0, 0, 0, 0, 0, []), (27, 1, .iload 0, 1, 0, 0, 0, []), (28, 1, .iload 0, 2, 0, 0, 0, []), (29, 3, .invokevirtual 0, 178, 3, 12, 1, [1426, 1428, 52, 86]),
  (32, 1, .ireturn, 0, 0, 0, 0, [])
  ]
def mc_X12_piece : List mv_E := [
  (0, 1, .aload 0, 0, 0, 0, 0, []), (1, 1, .iload 0, 1, 0, 0, 0, []), (2, 3, .invokevirtual 0, 160, 2, 12, 1, [1341, 1343, 38, 86]), (5, 3, .ifCond .eq 0, 16, 0, 0, 0, []), (8, 1, .aload 0, 0, 0, 0, 0, []), (9, 1, .iload 0, 2, 0, 0, 0, []),
  (10, 3, .invokevirtual 0, 158, 2, 12, 1, [1350, 1352, 39, 86]), (13, 3, .ifCond .ne 0, 22, 0, 0, 0, []), (16, 1, .aload 0, 0, 0, 0, 0, []), (17, 1, .iconst 0, 0, 0, 0, (-1), []), (18, 3, .invokevirtual 0, 133, 2, 12, 1, [1244, 1246, 26, 86]), (21, 1, .ireturn, 0, 0, 0, 0, []),
  (22, 1, .iconst 0, 0, 0, 0, 3, []), (23, 1, .iload 0, 1, 0, 0, 0, []), (24, 1, .imul, 0, 0, 0, 0, []), (25, 1, .iload 0, 2, 0, 0, 0, []), (26, 1, .iadd, 0, 0, 0, 0, []), (27, 2, .istore 0, 5, 0, 0, 0, []),
  (29, 1, .iload 0, 3, 0, 0, 0, []), (30, 3, .ifCond .lt 0, 38, 0, 0, 0, []), (33, 2, .iload 0, 4, 0, 0, 0, []), (35, 3, .ifCond .ge 0, 43, 0, 0, 0, []), (38, 2, .iconst 0, 0, 0, 0, (-4), []), (40, 3, .goto 0, 76, 0, 0, 0, []),
  (43, 1, .iload 0, 3, 0, 0, 0, []), (44, 3, .iconst 0, 0, 0, 0, 9999, []), (47, 3, .if_icmp .gt 0, 70, 0, 0, 0, []), (50, 2, .iload 0, 4, 0, 0, 0, []), (52, 3, .iconst 0, 0, 0, 0, 999, []), (55, 3, .if_icmp .gt 0, 70, 0, 0, 0, []),
  (58, 1, .aload 0, 0, 0, 0, 0, []), (59, 3, .getfield 0, 12, 35, 2, 0, [1074]), (62, 2, .iload 0, 5, 0, 0, 0, []), (64, 1, .iaload, 0, 0, 0, 0, []), (65, 2, .iconst 0, 0, 0, 0, 6, []), (67, 3, .if_icmp .ne 0, 75, 0, 0, 0, []),
  (70, 2, .iconst 0, 0, 0, 0, (-6), []), (72, 3, .goto 0, 76, 0, 0, 0, []), (75, 1, .iconst 0, 0, 0, 0, 0, []), (76, 2, .istore 0, 6, 0, 0, 0, []), (78, 2, .iload 0, 6, 0, 0, 0, []), (80, 3, .ifCond .eq 0, 90, 0, 0, 0, []),
  (83, 1, .aload 0, 0, 0, 0, 0, []), (84, 2, .iload 0, 6, 0, 0, 0, []), (86, 3, .invokevirtual 0, 133, 2, 12, 1, [1244, 1246, 26, 86]), (89, 1, .ireturn, 0, 0, 0, 0, []), (90, 1, .aload 0, 0, 0, 0, 0, []), (91, 3, .getfield 0, 12, 33, 2, 0, [1072]),
  (94, 2, .iconst 0, 0, 0, 0, 6, []), (96, 2, .iload 0, 5, 0, 0, 0, []), (98, 1, .imul, 0, 0, 0, 0, []), (99, 1, .aload 0, 0, 0, 0, 0, []), (100, 3, .getfield 0, 12, 35, 2, 0, [1074]), (103, 2, .iload 0, 5, 0, 0, 0, []),
  (105, 1, .iaload, 0, 0, 0, 0, []), (106, 1, .iadd, 0, 0, 0, 0, []), (107, 1, .iload 0, 3, 0, 0, 0, []), (108, 1, .iastore, 0, 0, 0, 0, []), (109, 1, .aload 0, 0, 0, 0, 0, []), (110, 3, .getfield 0, 12, 34, 2, 0, [1073]),
  (113, 2, .iconst 0, 0, 0, 0, 6, []), (115, 2, .iload 0, 5, 0, 0, 0, []), (117, 1, .imul, 0, 0, 0, 0, []), (118, 1, .aload 0, 0, 0, 0, 0, []), (119, 3, .getfield 0, 12, 35, 2, 0, [1074]), (122, 2, .iload 0, 5, 0, 0, 0, []),
  (124, 1, .iaload, 0, 0, 0, 0, []), (125, 1, .iadd, 0, 0, 0, 0, []), (126, 2, .iload 0, 4, 0, 0, 0, []), (128, 1, .iastore, 0, 0, 0, 0, []), (129, 1, .aload 0, 0, 0, 0, 0, []), (130, 3, .getfield 0, 12, 35, 2, 0, [1074]),
  (133, 2, .iload 0, 5, 0, 0, 0, []), (135, 1, .dup2, 0, 0, 0, 0, []), (136, 1, .iaload, 0, 0, 0, 0, []), (137, 1, .iconst 0, 0, 0, 0, 1, []), (138, 1, .iadd, 0, 0, 0, 0, []), (139, 1, .iastore, 0, 0, 0, 0, []),
  (140, 1, .aload 0, 0, 0, 0, 0, []), (141, 3, .getfield 0, 12, 35, 2, 0, [1074]), (144, 2, .iload 0, 5, 0, 0, 0, []), (146, 1, .iaload, 0, 0, 0, 0, []), (147, 1, .ireturn, 0, 0, 0, 0, [])
  ]
def mc_X12_boughtOf : List mv_E := [
  (0, 1, .iconst 0, 0, 0, 0, 0, []), (1, 2, .istore 0, 4, 0, 0, 0, []), (3, 2, .iconst 0, 0, 0, 0, 6, []), (5, 1, .iconst 0, 0, 0, 0, 3, []), (6, 1, .iload 0, 1, 0, 0, 0, []), (7, 1, .imul, 0, 0, 0, 0, []),
  (8, 1, .iload 0, 2, 0, 0, 0, []), (9, 1, .iadd, 0, 0, 0, 0, []), (10, 1, .imul, 0, 0, 0, 0, []), (11, 2, .istore 0, 5, 0, 0, 0, []), (13, 2, .iload 0, 5, 0, 0, 0, []), (15, 2, .iconst 0, 0, 0, 0, 6, []),
  (17, 1, .iconst 0, 0, 0, 0, 3, []), (18, 1, .iload 0, 1, 0, 0, 0, []), (19, 1, .imul, 0, 0, 0, 0, []), (20, 1, .iload 0, 2, 0, 0, 0, []), (21, 1, .iadd, 0, 0, 0, 0, []), (22, 1, .imul, 0, 0, 0, 0, []),
  (23, 1, .aload 0, 0, 0, 0, 0, []), (24, 3, .getfield 0, 12, 35, 2, 0, [1074]), (27, 1, .iconst 0, 0, 0, 0, 3, []), (28, 1, .iload 0, 1, 0, 0, 0, []), (29, 1, .imul, 0, 0, 0, 0, []), (30, 1, .iload 0, 2, 0, 0, 0, []),
  (31, 1, .iadd, 0, 0, 0, 0, []), (32, 1, .iaload, 0, 0, 0, 0, []), (33, 1, .iadd, 0, 0, 0, 0, []), (34, 3, .if_icmp .ge 0, 70, 0, 0, 0, []), (37, 2, .iload 0, 4, 0, 0, 0, []), (39, 1, .aload 0, 0, 0, 0, 0, []),
  (40, 3, .getfield 0, 12, 34, 2, 0, [1073]), (43, 2, .iload 0, 5, 0, 0, 0, []), (45, 1, .iaload, 0, 0, 0, 0, []), (46, 1, .iload 0, 3, 0, 0, 0, []), (47, 3, .if_icmp .lt 0, 60, 0, 0, 0, []), (50, 1, .aload 0, 0, 0, 0, 0, []),
  (51, 3, .getfield 0, 12, 33, 2, 0, [1072]), (54, 2, .iload 0, 5, 0, 0, 0, []), (56, 1, .iaload, 0, 0, 0, 0, []), (57, 3, .goto 0, 61, 0, 0, 0, []), (60, 1, .iconst 0, 0, 0, 0, 0, []), (61, 1, .iadd, 0, 0, 0, 0, []),
  (62, 2, .istore 0, 4, 0, 0, 0, []), (64, 3, .iinc 0 0, 5, 0, 0, 1, []), (67, 3, .goto 0, 13, 0, 0, 0, []), (70, 2, .iload 0, 4, 0, 0, 0, []), (72, 1, .ireturn, 0, 0, 0, 0, [])
  ]
def mc_X12_bought : List mv_E := [
  (0, 1, .aload 0, 0, 0, 0, 0, []), (1, 1, .iload 0, 1, 0, 0, 0, []), (2, 3, .invokevirtual 0, 160, 2, 12, 1, [1341, 1343, 38, 86]), (5, 3, .ifCond .eq 0, 16, 0, 0, 0, []), (8, 1, .aload 0, 0, 0, 0, 0, []), (9, 1, .iload 0, 2, 0, 0, 0, []),
  (10, 3, .invokevirtual 0, 158, 2, 12, 1, [1350, 1352, 39, 86]), (13, 3, .ifCond .ne 0, 22, 0, 0, 0, []), (16, 1, .aload 0, 0, 0, 0, 0, []), (17, 1, .iconst 0, 0, 0, 0, (-1), []), (18, 3, .invokevirtual 0, 133, 2, 12, 1, [1244, 1246, 26, 86]), (21, 1, .ireturn, 0, 0, 0, 0, []),
  (22, 1, .iload 0, 3, 0, 0, 0, []), (23, 1, .i2l, 0, 0, 0, 0, []), (24, 1, .lconst 0, 0, 0, 0, 0, []), (25, 3, .lconst 0, 0, 0, 0, 999, [1354]), (28, 3, .invokestatic 0, 136, 3, 1, 1, [1241, 1242, 86]), (31, 2, .istore 0, 4, 0, 0, 0, []),
  (33, 2, .iload 0, 4, 0, 0, 0, []), (35, 3, .ifCond .eq 0, 47, 0, 0, 0, []), (38, 1, .aload 0, 0, 0, 0, 0, []), (39, 2, .iload 0, 4, 0, 0, 0, []), (41, 3, .invokevirtual 0, 133, 2, 12, 1, [1244, 1246, 26, 86]), (44, 3, .goto 0, 54, 0, 0, 0, []),
  (47, 1, .aload 0, 0, 0, 0, 0, []), (48, 1, .iload 0, 1, 0, 0, 0, []), (49, 1, .iload 0, 2, 0, 0, 0, []), (50, 1, .iload 0, 3, 0, 0, 0, []), (51, 3, .invokevirtual 0, 181, 4, 12, 1, [1438, 1440, 53, 86]), (54, 1, .ireturn, 0, 0, 0, 0, [])
  ]
def mc_X12_wouldGo : List mv_E := [
  (0, 1, .aload 0, 0, 0, 0, 0, []), (1, 1, .iload 0, 1, 0, 0, 0, []), (2, 3, .invokevirtual 0, 143, 2, 12, 1, [1316, 1318, 35, 86]), (5, 3, .ifCond .eq 0, 17, 0, 0, 0, []), (8, 1, .aload 0, 0, 0, 0, 0, []), (9, 3, .getfield 0, 12, 6, 2, 0, [1045]),
  (12, 1, .iload 0, 1, 0, 0, 0, []), (13, 1, .baload, 0, 0, 0, 0, []), (14, 3, .ifCond .eq 0, 19, 0, 0, 0, []), (17, 1, .iconst 0, 0, 0, 0, 0, []), (18, 1, .ireturn, 1, 0, 0, 0, []), (19, 1, .aload 0, 0, 0, 0, 0, []),
  (20, 1, .iload 0, 2, 0, 0, 0, []), (21, 1, .iload 0, 1, 0, 0, 0, []), (22, 1, .iload 0, 3, 0, 0, 0, []), (23, 3, .invokevirtual 0, 170, 4, 12, 2, [1374, 1376, 42, 86]), (26, 2, .lstore 0, 4, 0, 0, 0, []), (28, 2, .lload 0, 4, 0, 0, 0, []),
  (30, 1, .lconst 0, 0, 0, 0, 0, []), (31, 1, .lcmp, 0, 0, 0, 0, []), (32, 3, .ifCond .le 0, 47, 0, 0, 0, []), (35, 2, .lload 0, 4, 0, 0, 0, []), (37, 1, .aload 0, 0, 0, 0, 0, []), (38, 3, .getfield 0, 12, 40, 2, 0, [1079]),
  (41, 1, .iload 0, 1, 0, 0, 0, []), (42, 1, .laload, 0, 0, 0, 0, []), (43, 1, .lcmp, 0, 0, 0, 0, []), (44, 3, .ifCond .ge 0, 49, 0, 0, 0, []), (47, 1, .iconst 0, 0, 0, 0, 0, []), (48, 1, .ireturn, 1, 0, 0, 0, []),
  (49, 2, .lload 0, 4, 0, 0, 0, []), (51, 1, .aload 0, 0, 0, 0, 0, []), (52, 3, .getfield 0, 12, 40, 2, 0, [1079]), (55, 1, .iload 0, 1, 0, 0, 0, []), (56, 1, .laload, 0, 0, 0, 0, []), (57, 1, .lcmp, 0, 0, 0, 0, []),
  (58, 3, .ifCond .gt 0, 91, 0, 0, 0, []), (61, 1, .iload 0, 2, 0, 0, 0, []), (62, 1, .aload 0, 0, 0, 0, 0, []), (63, 3, .getfield 0, 12, 38, 2, 0, [1077]), (66, 1, .iload 0, 1, 0, 0, 0, []), (67, 1, .iaload, 0, 0, 0, 0, []),
  (68, 3, .if_icmp .lt 0, 91, 0, 0, 0, []), (71, 1, .iload 0, 2, 0, 0, 0, []), (72, 1, .aload 0, 0, 0, 0, 0, []), (73, 3, .getfield 0, 12, 38, 2, 0, [1077]), (76, 1, .iload 0, 1, 0, 0, 0, []), (77, 1, .iaload, 0, 0, 0, 0, []),
  (78, 3, .if_icmp .ne 0, 95, 0, 0, 0, []), (81, 1, .iload 0, 3, 0, 0, 0, []), (82, 1, .aload 0, 0, 0, 0, 0, []), (83, 3, .getfield 0, 12, 39, 2, 0, [1078]), (86, 1, .iload 0, 1, 0, 0, 0, []), (87, 1, .iaload, 0, 0, 0, 0, []),
  (88, 3, .if_icmp .ge 0, 95, 0, 0, 0, []), (91, 1, .iconst 0, 0, 0, 0, 1, []), (92, 3, .goto 0, 96, 0, 0, 0, []), (95, 1, .iconst 0, 0, 0, 0, 0, []), (96, 1, .ireturn, 1, 0, 0, 0, [])
  ]
def mc_X12_clearsOf : List mv_E := [
  (0, 1, .iconst 0, 0, 0, 0, 3, []), (1, 1, .iload 0, 1, 0, 0, 0, []), (2, 1, .imul, 0, 0, 0, 0, []), (3, 1, .iload 0, 2, 0, 0, 0, []), (4, 1, .iadd, 0, 0, 0, 0, []), (5, 1, .istore 0, 3, 0, 0, 0, []),
  (6, 1, .aload 0, 0, 0, 0, 0, []), (7, 3, .getfield 0, 12, 32, 2, 0, [1071]), (10, 1, .iload 0, 3, 0, 0, 0, []), (11, 1, .iaload, 0, 0, 0, 0, []), (12, 2, .istore 0, 4, 0, 0, 0, []), (14, 2, .iconst 0, 0, 0, 0, (-9), []),
  (16, 2, .istore 0, 5, 0, 0, 0, []), (18, 1, .aload 0, 0, 0, 0, 0, []), (19, 3, .invokevirtual 0, 159, 1, 12, 0, [1370, 1372, 41, 86]), (22, 1, .iconst 0, 0, 0, 0, 0, []), (23, 2, .istore 0, 6, 0, 0, 0, []), (25, 2, .iload 0, 6, 0, 0, 0, []),
  (27, 2, .iconst 0, 0, 0, 0, 48, []), (29, 3, .if_icmp .ge 0, 46, 0, 0, 0, []), (32, 1, .aload 0, 0, 0, 0, 0, []), (33, 2, .iload 0, 6, 0, 0, 0, []), (35, 1, .iload 0, 1, 0, 0, 0, []), (36, 1, .iload 0, 2, 0, 0, 0, []),
  (37, 3, .invokevirtual 0, 185, 4, 12, 0, [1450, 1452, 55, 86]), (40, 3, .iinc 0 0, 6, 0, 0, 1, []), (43, 3, .goto 0, 25, 0, 0, 0, []), (46, 1, .iconst 0, 0, 0, 0, 0, []), (47, 2, .istore 0, 6, 0, 0, 0, []), (49, 2, .iload 0, 6, 0, 0, 0, []),
  (51, 3, .iconst 0, 0, 0, 0, 1000, []), (54, 3, .if_icmp .ge 0, 146, 0, 0, 0, []), (57, 2, .iload 0, 5, 0, 0, 0, []), (59, 2, .iconst 0, 0, 0, 0, (-9), []), (61, 3, .if_icmp .ne 0, 146, 0, 0, 0, []), (64, 1, .aload 0, 0, 0, 0, 0, []),
  (65, 3, .getfield 0, 12, 32, 2, 0, [1071]), (68, 1, .iload 0, 3, 0, 0, 0, []), (69, 2, .iload 0, 6, 0, 0, 0, []), (71, 1, .iastore, 0, 0, 0, 0, []), (72, 1, .iconst 0, 0, 0, 0, 0, []), (73, 2, .istore 0, 7, 0, 0, 0, []),
  (75, 1, .iconst 0, 0, 0, 0, 0, []), (76, 2, .istore 0, 8, 0, 0, 0, []), (78, 2, .iload 0, 8, 0, 0, 0, []), (80, 2, .iconst 0, 0, 0, 0, 48, []), (82, 3, .if_icmp .ge 0, 123, 0, 0, 0, []), (85, 2, .iload 0, 7, 0, 0, 0, []),
  (87, 1, .aload 0, 0, 0, 0, 0, []), (88, 2, .iload 0, 8, 0, 0, 0, []), (90, 1, .iload 0, 1, 0, 0, 0, []), (91, 1, .iload 0, 2, 0, 0, 0, []), (92, 3, .invokevirtual 0, 183, 4, 12, 1, [1454, 1456, 56, 86]), (95, 3, .ifCond .eq 0, 113, 0, 0, 0, []),
  (98, 1, .aload 0, 0, 0, 0, 0, []), (99, 1, .iload 0, 1, 0, 0, 0, []), (100, 1, .aload 0, 0, 0, 0, 0, []), (101, 3, .getfield 0, 12, 2, 2, 0, [1041]), (104, 2, .iload 0, 8, 0, 0, 0, []), (106, 1, .iaload, 0, 0, 0, 0, []),
  (107, 3, .invokevirtual 0, 165, 3, 12, 1, [1386, 1388, 45, 86]), (110, 3, .goto 0, 114, 0, 0, 0, []), (113, 1, .iconst 0, 0, 0, 0, 0, []), (114, 1, .iadd, 0, 0, 0, 0, []), (115, 2, .istore 0, 7, 0, 0, 0, []), (117, 3, .iinc 0 0, 8, 0, 0, 1, []),
  (120, 3, .goto 0, 78, 0, 0, 0, []), (123, 2, .iload 0, 7, 0, 0, 0, []), (125, 1, .aload 0, 0, 0, 0, 0, []), (126, 1, .iload 0, 1, 0, 0, 0, []), (127, 1, .iload 0, 2, 0, 0, 0, []), (128, 2, .iload 0, 6, 0, 0, 0, []),
  (130, 3, .invokevirtual 0, 181, 4, 12, 1, [1438, 1440, 53, 86]), (133, 3, .if_icmp .lt 0, 140, 0, 0, 0, []), (136, 2, .iload 0, 6, 0, 0, 0, []), (138, 2, .istore 0, 5, 0, 0, 0, []), (140, 3, .iinc 0 0, 6, 0, 0, 1, []), (143, 3, .goto 0, 49, 0, 0, 0, []),
  (146, 1, .aload 0, 0, 0, 0, 0, []), (147, 3, .getfield 0, 12, 32, 2, 0, [1071]), (150, 1, .iload 0, 3, 0, 0, 0, []), (151, 2, .iload 0, 4, 0, 0, 0, []), (153, 1, .iastore, 0, 0, 0, 0, []), (154, 2, .iload 0, 5, 0, 0, 0, []),
  (156, 1, .ireturn, 0, 0, 0, 0, [])
  ]
def mc_X12_findOthers : List mv_E := [
  (0, 1, .aload 0, 0, 0, 0, 0, []), (1, 3, .getfield 0, 12, 38, 2, 0, [1077]), (4, 1, .iload 0, 1, 0, 0, 0, []), (5, 2, .iconst 0, 0, 0, 0, (-9), []), (7, 1, .iastore, 0, 0, 0, 0, []), (8, 1, .aload 0, 0, 0, 0, 0, []),
  (9, 3, .getfield 0, 12, 39, 2, 0, [1078]), (12, 1, .iload 0, 1, 0, 0, 0, []), (13, 2, .iconst 0, 0, 0, 0, (-9), []), (15, 1, .iastore, 0, 0, 0, 0, []), (16, 1, .aload 0, 0, 0, 0, 0, []), (17, 3, .getfield 0, 12, 40, 2, 0, [1079]),
  (20, 1, .iload 0, 1, 0, 0, 0, []), (21, 1, .lconst 0, 0, 0, 0, 0, []), (22, 1, .lastore, 0, 0, 0, 0, []), (23, 1, .iconst 0, 0, 0, 0, 0, []), (24, 2, .istore 0, 4, 0, 0, 0, []), (26, 2, .iload 0, 4, 0, 0, 0, []),
  (28, 1, .aload 0, 0, 0, 0, 0, []), (29, 3, .getfield 0, 12, 36, 0, 0, [1075]), (32, 3, .if_icmp .ge 0, 133, 0, 0, 0, []), (35, 1, .aload 0, 0, 0, 0, 0, []), (36, 1, .iload 0, 1, 0, 0, 0, []), (37, 3, .invokevirtual 0, 143, 2, 12, 1, [1316, 1318, 35, 86]),
  (40, 3, .ifCond .eq 0, 133, 0, 0, 0, []), (43, 1, .iconst 0, 0, 0, 0, 0, []), (44, 2, .istore 0, 5, 0, 0, 0, []), (46, 2, .iload 0, 5, 0, 0, 0, []), (48, 1, .aload 0, 0, 0, 0, 0, []), (49, 3, .getfield 0, 12, 23, 0, 0, [1062]),
  (52, 3, .if_icmp .ge 0, 127, 0, 0, 0, []), (55, 2, .iload 0, 4, 0, 0, 0, []), (57, 1, .iload 0, 2, 0, 0, 0, []), (58, 3, .if_icmp .ne 0, 71, 0, 0, 0, []), (61, 2, .iload 0, 5, 0, 0, 0, []), (63, 1, .iload 0, 3, 0, 0, 0, []),
  (64, 3, .if_icmp .ne 0, 71, 0, 0, 0, []), (67, 1, .lconst 0, 0, 0, 0, 0, []), (68, 3, .goto 0, 80, 0, 0, 0, []), (71, 1, .aload 0, 0, 0, 0, 0, []), (72, 2, .iload 0, 4, 0, 0, 0, []), (74, 1, .iload 0, 1, 0, 0, 0, []),
  (75, 2, .iload 0, 5, 0, 0, 0, []), (77, 3, .invokevirtual 0, 170, 4, 12, 2, [1374, 1376, 42, 86]), (80, 2, .lstore 0, 6, 0, 0, 0, []), (82, 2, .lload 0, 6, 0, 0, 0, []), (84, 1, .aload 0, 0, 0, 0, 0, []), (85, 3, .getfield 0, 12, 40, 2, 0, [1079]),
  (88, 1, .iload 0, 1, 0, 0, 0, []), (89, 1, .laload, 0, 0, 0, 0, []), (90, 1, .lcmp, 0, 0, 0, 0, []), (91, 3, .ifCond .gt 0, 97, 0, 0, 0, []), (94, 3, .goto 0, 121, 0, 0, 0, []), (97, 1, .aload 0, 0, 0, 0, 0, []),
  (98, 3, .getfield 0, 12, 40, 2, 0, [1079]), (101, 1, .iload 0, 1, 0, 0, 0, []), (102, 2, .lload 0, 6, 0, 0, 0, []), (104, 1, .lastore, 0, 0, 0, 0, []), (105, 1, .aload 0, 0, 0, 0, 0, []), (106, 3, .getfield 0, 12, 38, 2, 0, [1077]),
  (109, 1, .iload 0, 1, 0, 0, 0, []), (110, 2, .iload 0, 4, 0, 0, 0, []), (112, 1, .iastore, 0, 0, 0, 0, []), (113, 1, .aload 0, 0, 0, 0, 0, []), (114, 3, .getfield 0, 12, 39, 2, 0, [1078]), (117, 1, .iload 0, 1, 0, 0, 0, []),
  (118, 2, .iload 0, 5, 0, 0, 0, []), (120, 1, .iastore, 0, 0, 0, 0, []), (121, 3, .iinc 0 0, 5, 0, 0, 1, []), (124, 3, .goto 0, 46, 0, 0, 0, []), (127, 3, .iinc 0 0, 4, 0, 0, 1, []), (130, 3, .goto 0, 26, 0, 0, 0, []),
  (133, 1, .return_, 0, 0, 0, 0, [])
  ]
def mc_X12_clears : List mv_E := [
  (0, 1, .aload 0, 0, 0, 0, 0, []), (1, 1, .iload 0, 1, 0, 0, 0, []), (2, 3, .invokevirtual 0, 160, 2, 12, 1, [1341, 1343, 38, 86]), (5, 3, .ifCond .eq 0, 16, 0, 0, 0, []), (8, 1, .aload 0, 0, 0, 0, 0, []), (9, 1, .iload 0, 2, 0, 0, 0, []),
  (10, 3, .invokevirtual 0, 158, 2, 12, 1, [1350, 1352, 39, 86]), (13, 3, .ifCond .ne 0, 22, 0, 0, 0, []), (16, 1, .aload 0, 0, 0, 0, 0, []), (17, 1, .iconst 0, 0, 0, 0, (-1), []), (18, 3, .invokevirtual 0, 133, 2, 12, 1, [1244, 1246, 26, 86]), (21, 1, .ireturn, 0, 0, 0, 0, []),
  (22, 1, .aload 0, 0, 0, 0, 0, []), (23, 1, .iload 0, 1, 0, 0, 0, []), (24, 1, .iload 0, 2, 0, 0, 0, []), (25, 3, .invokevirtual 0, 184, 3, 12, 1, [1446, 1448, 54, 86]), (28, 1, .ireturn, 0, 0, 0, 0, [])
  ]
def mc_X12_goesRound : List mv_E := [
  (0, 1, .iconst 0, 0, 0, 0, 0, []), (1, 1, .istore 0, 1, 0, 0, 0, []), (2, 1, .iconst 0, 0, 0, 0, 0, []), (3, 1, .istore 0, 2, 0, 0, 0, []), (4, 1, .iload 0, 2, 0, 0, 0, []), (5, 1, .aload 0, 0, 0, 0, 0, []),
  (6, 3, .getfield 0, 12, 36, 0, 0, [1075]), (9, 3, .if_icmp .ge 0, 97, 0, 0, 0, []), (12, 1, .iconst 0, 0, 0, 0, 0, []), (13, 1, .istore 0, 3, 0, 0, 0, []), (14, 1, .iload 0, 3, 0, 0, 0, []), (15, 1, .aload 0, 0, 0, 0, 0, []),
  (16, 3, .getfield 0, 12, 23, 0, 0, [1062]), (19, 3, .if_icmp .ge 0, 91, 0, 0, 0, []), (22, 1, .aload 0, 0, 0, 0, 0, []), (23, 3, .getfield 0, 12, 35, 2, 0, [1074]), (26, 1, .iconst 0, 0, 0, 0, 3, []), (27, 1, .iload 0, 2, 0, 0, 0, []),
  (28, 1, .imul, 0, 0, 0, 0, []), (29, 1, .iload 0, 3, 0, 0, 0, []), (30, 1, .iadd, 0, 0, 0, 0, []), (31, 1, .iaload, 0, 0, 0, 0, []), (32, 3, .ifCond .ne 0, 38, 0, 0, 0, []), (35, 3, .goto 0, 85, 0, 0, 0, []),
  (38, 1, .aload 0, 0, 0, 0, 0, []), (39, 1, .iload 0, 2, 0, 0, 0, []), (40, 1, .iload 0, 3, 0, 0, 0, []), (41, 3, .invokevirtual 0, 184, 3, 12, 1, [1446, 1448, 54, 86]), (44, 2, .istore 0, 4, 0, 0, 0, []), (46, 2, .iload 0, 4, 0, 0, 0, []),
  (48, 2, .iconst 0, 0, 0, 0, (-9), []), (50, 3, .if_icmp .eq 0, 85, 0, 0, 0, []), (53, 2, .iload 0, 4, 0, 0, 0, []), (55, 1, .aload 0, 0, 0, 0, 0, []), (56, 3, .getfield 0, 12, 32, 2, 0, [1071]), (59, 1, .iconst 0, 0, 0, 0, 3, []),
  (60, 1, .iload 0, 2, 0, 0, 0, []), (61, 1, .imul, 0, 0, 0, 0, []), (62, 1, .iload 0, 3, 0, 0, 0, []), (63, 1, .iadd, 0, 0, 0, 0, []), (64, 1, .iaload, 0, 0, 0, 0, []), (65, 3, .if_icmp .ne 0, 71, 0, 0, 0, []),
  (68, 3, .goto 0, 85, 0, 0, 0, []), (71, 1, .aload 0, 0, 0, 0, 0, []), (72, 3, .getfield 0, 12, 32, 2, 0, [1071]), (75, 1, .iconst 0, 0, 0, 0, 3, []), (76, 1, .iload 0, 2, 0, 0, 0, []), (77, 1, .imul, 0, 0, 0, 0, []),
  (78, 1, .iload 0, 3, 0, 0, 0, []), (79, 1, .iadd, 0, 0, 0, 0, []), (80, 2, .iload 0, 4, 0, 0, 0, []), (82, 1, .iastore, 0, 0, 0, 0, []), (83, 1, .iconst 0, 0, 0, 0, 1, []), (84, 1, .istore 0, 1, 0, 0, 0, []),
  (85, 3, .iinc 0 0, 3, 0, 0, 1, []), (88, 3, .goto 0, 14, 0, 0, 0, []), (91, 3, .iinc 0 0, 2, 0, 0, 1, []), (94, 3, .goto 0, 4, 0, 0, 0, []), (97, 1, .iload 0, 1, 0, 0, 0, []), (98, 1, .ireturn, 1, 0, 0, 0, [])
  ]
def mc_X12_rounds : List mv_E := [
  (0, 1, .iload 0, 1, 0, 0, 0, []), (1, 1, .i2l, 0, 0, 0, 0, []), (2, 1, .lconst 0, 0, 0, 0, 1, []), (3, 3, .lconst 0, 0, 0, 0, 20, [1462]), (6, 3, .invokestatic 0, 136, 3, 1, 1, [1241, 1242, 86]), (9, 1, .istore 0, 2, 0, 0, 0, []),
  (10, 1, .iload 0, 2, 0, 0, 0, []), (11, 3, .ifCond .eq 0, 20, 0, 0, 0, []), (14, 1, .aload 0, 0, 0, 0, 0, []), (15, 1, .iload 0, 2, 0, 0, 0, []), (16, 3, .invokevirtual 0, 133, 2, 12, 1, [1244, 1246, 26, 86]), (19, 1, .ireturn, 0, 0, 0, 0, []),
  (20, 1, .iconst 0, 0, 0, 0, 0, []), (21, 1, .istore 0, 3, 0, 0, 0, []), (22, 1, .iconst 0, 0, 0, 0, 1, []), (23, 2, .istore 0, 4, 0, 0, 0, []), (25, 1, .iload 0, 3, 0, 0, 0, []), (26, 1, .iload 0, 1, 0, 0, 0, []),
  (27, 3, .if_icmp .ge 0, 47, 0, 0, 0, []), (30, 2, .iload 0, 4, 0, 0, 0, []), (32, 3, .ifCond .eq 0, 47, 0, 0, 0, []), (35, 1, .aload 0, 0, 0, 0, 0, []), (36, 3, .invokevirtual 0, 187, 1, 12, 1, [1463, 1465, 57, 86]), (39, 2, .istore 0, 4, 0, 0, 0, []),
  (41, 3, .iinc 0 0, 3, 0, 0, 1, []), (44, 3, .goto 0, 25, 0, 0, 0, []), (47, 1, .iload 0, 3, 0, 0, 0, []), (48, 1, .ireturn, 0, 0, 0, 0, [])
  ]
def mc_X12_divisor : List mv_E := [
  (0, 1, .lload 0, 0, 0, 0, 0, []), (1, 1, .lconst 0, 0, 0, 0, 0, []), (2, 1, .lcmp, 0, 0, 0, 0, []), (3, 3, .ifCond .ge 0, 11, 0, 0, 0, []), (6, 1, .lload 0, 0, 0, 0, 0, []), (7, 1, .lneg, 0, 0, 0, 0, []),
  (8, 3, .goto 0, 12, 0, 0, 0, []), (11, 1, .lload 0, 0, 0, 0, 0, []), (12, 2, .lstore 0, 4, 0, 0, 0, []), (14, 1, .lload 0, 2, 0, 0, 0, []), (15, 1, .lconst 0, 0, 0, 0, 0, []), (16, 1, .lcmp, 0, 0, 0, 0, []),
  (17, 3, .ifCond .ge 0, 25, 0, 0, 0, []), (20, 1, .lload 0, 2, 0, 0, 0, []), (21, 1, .lneg, 0, 0, 0, 0, []), (22, 3, .goto 0, 26, 0, 0, 0, []), (25, 1, .lload 0, 2, 0, 0, 0, []), (26, 2, .lstore 0, 6, 0, 0, 0, []),
  (28, 2, .lload 0, 6, 0, 0, 0, []), (30, 1, .lconst 0, 0, 0, 0, 0, []), (31, 1, .lcmp, 0, 0, 0, 0, []), (32, 3, .ifCond .eq 0, 53, 0, 0, 0, []), (35, 2, .lload 0, 4, 0, 0, 0, []), (37, 2, .lload 0, 6, 0, 0, 0, []),
  (39, 1, .lrem, 0, 0, 0, 0, []), (40, 2, .lstore 0, 8, 0, 0, 0, []), (42, 2, .lload 0, 6, 0, 0, 0, []), (44, 2, .lstore 0, 4, 0, 0, 0, []), (46, 2, .lload 0, 8, 0, 0, 0, []), (48, 2, .lstore 0, 6, 0, 0, 0, []),
  (50, 3, .goto 0, 28, 0, 0, 0, []), (53, 2, .lload 0, 4, 0, 0, 0, []), (55, 1, .lreturn, 0, 0, 0, 0, [])
  ]
def mc_X12_marksAt : List mv_E := [
  (0, 1, .lload 0, 3, 0, 0, 0, []), (1, 1, .lconst 0, 0, 0, 0, 0, []), (2, 1, .lcmp, 0, 0, 0, 0, []), (3, 3, .ifCond .eq 0, 37, 0, 0, 0, []), (6, 1, .lload 0, 1, 0, 0, 0, []), (7, 1, .lconst 0, 0, 0, 0, 0, []),
  (8, 1, .lcmp, 0, 0, 0, 0, []), (9, 3, .ifCond .eq 0, 37, 0, 0, 0, []), (12, 1, .lload 0, 1, 0, 0, 0, []), (13, 1, .lconst 0, 0, 0, 0, 0, []), (14, 1, .lcmp, 0, 0, 0, 0, []), (15, 3, .ifCond .ge 0, 22, 0, 0, 0, []),
  (18, 1, .iconst 0, 0, 0, 0, 1, []), (19, 3, .goto 0, 23, 0, 0, 0, []), (22, 1, .iconst 0, 0, 0, 0, 0, []), (23, 1, .lload 0, 3, 0, 0, 0, []), (24, 1, .lconst 0, 0, 0, 0, 0, []), (25, 1, .lcmp, 0, 0, 0, 0, []),
  (26, 3, .ifCond .ge 0, 33, 0, 0, 0, []), (29, 1, .iconst 0, 0, 0, 0, 1, []), (30, 3, .goto 0, 34, 0, 0, 0, []), (33, 1, .iconst 0, 0, 0, 0, 0, []), (34, 3, .if_icmp .eq 0, 38, 0, 0, 0, []), (37, 1, .return_, 0, 0, 0, 0, []),
  (38, 1, .lload 0, 1, 0, 0, 0, []), (39, 1, .lload 0, 3, 0, 0, 0, []), (40, 3, .invokestatic 0, 189, 2, 1, 2, [1484, 1485, 86]), (43, 2, .lstore 0, 5, 0, 0, 0, []), (45, 1, .lload 0, 1, 0, 0, 0, []), (46, 1, .lconst 0, 0, 0, 0, 0, []),
  (47, 1, .lcmp, 0, 0, 0, 0, []), (48, 3, .ifCond .ge 0, 56, 0, 0, 0, []), (51, 1, .lload 0, 1, 0, 0, 0, []), (52, 1, .lneg, 0, 0, 0, 0, []), (53, 3, .goto 0, 57, 0, 0, 0, []), (56, 1, .lload 0, 1, 0, 0, 0, []),
  (57, 2, .lload 0, 5, 0, 0, 0, []), (59, 1, .ldiv, 0, 0, 0, 0, []), (60, 2, .lstore 0, 7, 0, 0, 0, []), (62, 1, .lload 0, 3, 0, 0, 0, []), (63, 1, .lconst 0, 0, 0, 0, 0, []), (64, 1, .lcmp, 0, 0, 0, 0, []),
  (65, 3, .ifCond .ge 0, 73, 0, 0, 0, []), (68, 1, .lload 0, 3, 0, 0, 0, []), (69, 1, .lneg, 0, 0, 0, 0, []), (70, 3, .goto 0, 74, 0, 0, 0, []), (73, 1, .lload 0, 3, 0, 0, 0, []), (74, 2, .lload 0, 5, 0, 0, 0, []),
  (76, 1, .ldiv, 0, 0, 0, 0, []), (77, 2, .lstore 0, 9, 0, 0, 0, []), (79, 1, .iconst 0, 0, 0, 0, 0, []), (80, 2, .istore 0, 11, 0, 0, 0, []), (82, 2, .iload 0, 11, 0, 0, 0, []), (84, 1, .aload 0, 0, 0, 0, 0, []),
  (85, 3, .getfield 0, 12, 46, 0, 0, [1085]), (88, 3, .if_icmp .ge 0, 121, 0, 0, 0, []), (91, 1, .aload 0, 0, 0, 0, 0, []), (92, 3, .getfield 0, 12, 41, 2, 0, [1080]), (95, 2, .iload 0, 11, 0, 0, 0, []), (97, 1, .laload, 0, 0, 0, 0, []),
  (98, 2, .lload 0, 9, 0, 0, 0, []), (100, 1, .lmul, 0, 0, 0, 0, []), (101, 2, .lload 0, 7, 0, 0, 0, []), (103, 1, .aload 0, 0, 0, 0, 0, []), (104, 3, .getfield 0, 12, 42, 2, 0, [1081]), (107, 2, .iload 0, 11, 0, 0, 0, []),
  (109, 1, .laload, 0, 0, 0, 0, []), (110, 1, .lmul, 0, 0, 0, 0, []), (111, 1, .lcmp, 0, 0, 0, 0, []), (112, 3, .ifCond .ge 0, 121, 0, 0, 0, []), (115, 3, .iinc 0 0, 11, 0, 0, 1, []), (118, 3, .goto 0, 82, 0, 0, 0, []),
  (121, 2, .iload 0, 11, 0, 0, 0, []), (123, 1, .aload 0, 0, 0, 0, 0, []), (124, 3, .getfield 0, 12, 46, 0, 0, [1085]), (127, 3, .if_icmp .ge 0, 157, 0, 0, 0, []), (130, 1, .aload 0, 0, 0, 0, 0, []), (131, 3, .getfield 0, 12, 41, 2, 0, [1080]),
  (134, 2, .iload 0, 11, 0, 0, 0, []), (136, 1, .laload, 0, 0, 0, 0, []), (137, 2, .lload 0, 7, 0, 0, 0, []), (139, 1, .lcmp, 0, 0, 0, 0, []), (140, 3, .ifCond .ne 0, 157, 0, 0, 0, []), (143, 1, .aload 0, 0, 0, 0, 0, []),
  (144, 3, .getfield 0, 12, 42, 2, 0, [1081]), (147, 2, .iload 0, 11, 0, 0, 0, []), (149, 1, .laload, 0, 0, 0, 0, []), (150, 2, .lload 0, 9, 0, 0, 0, []), (152, 1, .lcmp, 0, 0, 0, 0, []), (153, 3, .ifCond .ne 0, 157, 0, 0, 0, []),
  (156, 1, .return_, 0, 0, 0, 0, []), (157, 1, .aload 0, 0, 0, 0, 0, []), (158, 3, .getfield 0, 12, 46, 0, 0, [1085]), (161, 2, .istore 0, 12, 0, 0, 0, []), (163, 2, .iload 0, 12, 0, 0, 0, []), (165, 2, .iload 0, 11, 0, 0, 0, []),
  (167, 3, .if_icmp .le 0, 208, 0, 0, 0, []), (170, 1, .aload 0, 0, 0, 0, 0, []), (171, 3, .getfield 0, 12, 41, 2, 0, [1080]), (174, 2, .iload 0, 12, 0, 0, 0, []), (176, 1, .aload 0, 0, 0, 0, 0, []), (177, 3, .getfield 0, 12, 41, 2, 0, [1080]),
  (180, 2, .iload 0, 12, 0, 0, 0, []), (182, 1, .iconst 0, 0, 0, 0, 1, []), (183, 1, .isub, 0, 0, 0, 0, []), (184, 1, .laload, 0, 0, 0, 0, []), (185, 1, .lastore, 0, 0, 0, 0, []), (186, 1, .aload 0, 0, 0, 0, 0, []),
  (187, 3, .getfield 0, 12, 42, 2, 0, [1081]), (190, 2, .iload 0, 12, 0, 0, 0, []), (192, 1, .aload 0, 0, 0, 0, 0, []), (193, 3, .getfield 0, 12, 42, 2, 0, [1081]), (196, 2, .iload 0, 12, 0, 0, 0, []), (198, 1, .iconst 0, 0, 0, 0, 1, []),
  (199, 1, .isub, 0, 0, 0, 0, []), (200, 1, .laload, 0, 0, 0, 0, []), (201, 1, .lastore, 0, 0, 0, 0, []), (202, 3, .iinc 0 0, 12, 0, 0, (-1), []), (205, 3, .goto 0, 163, 0, 0, 0, []), (208, 1, .aload 0, 0, 0, 0, 0, []),
  (209, 3, .getfield 0, 12, 41, 2, 0, [1080]), (212, 2, .iload 0, 11, 0, 0, 0, []), (214, 2, .lload 0, 7, 0, 0, 0, []), (216, 1, .lastore, 0, 0, 0, 0, []), (217, 1, .aload 0, 0, 0, 0, 0, []), (218, 3, .getfield 0, 12, 42, 2, 0, [1081]),
  (221, 2, .iload 0, 11, 0, 0, 0, []), (223, 2, .lload 0, 9, 0, 0, 0, []), (225, 1, .lastore, 0, 0, 0, 0, []), (226, 1, .aload 0, 0, 0, 0, 0, []), (227, 1, .dup, 0, 0, 0, 0, []), (228, 3, .getfield 0, 12, 46, 0, 0, [1085]),
  (231, 1, .iconst 0, 0, 0, 0, 1, []), (232, 1, .iadd, 0, 0, 0, 0, []), (233, 3, .putfield 0, 12, 46, 0, 0, [1085]), (236, 1, .return_, 0, 0, 0, 0, [])
  ]
def mc_X12_isRinged : List mv_E := [
  (0, 1, .aload 0, 0, 0, 0, 0, []), (1, 3, .getfield 0, 12, 24, 2, 0, [1063]), (4, 1, .iload 0, 1, 0, 0, 0, []), (5, 1, .iaload, 0, 0, 0, 0, []), (6, 1, .iconst 0, 0, 0, 0, 5, []), (7, 3, .if_icmp .eq 0, 24, 0, 0, 0, []),
  (10, 1, .aload 0, 0, 0, 0, 0, []), (11, 3, .getfield 0, 12, 24, 2, 0, [1063]), (14, 1, .iload 0, 1, 0, 0, 0, []), (15, 1, .iaload, 0, 0, 0, 0, []), (16, 1, .iconst 0, 0, 0, 0, 4, []), (17, 3, .if_icmp .eq 0, 24, 0, 0, 0, []),
  (20, 1, .iconst 0, 0, 0, 0, 1, []), (21, 3, .goto 0, 25, 0, 0, 0, []), (24, 1, .iconst 0, 0, 0, 0, 0, []), (25, 1, .ireturn, 1, 0, 0, 0, [])
  ]
def mc_X12_slope : List mv_E := [
  (0, 1, .aload 0, 0, 0, 0, 0, []), (1, 1, .iload 0, 1, 0, 0, 0, []), (2, 3, .invokevirtual 0, 167, 2, 12, 1, [1394, 1396, 47, 86]), (5, 1, .i2l, 0, 0, 0, 0, []), (6, 1, .aload 0, 0, 0, 0, 0, []), (7, 1, .iload 0, 1, 0, 0, 0, []),
  (8, 1, .iload 0, 2, 0, 0, 0, []), (9, 3, .invokevirtual 0, 165, 3, 12, 1, [1386, 1388, 45, 86]), (12, 1, .i2l, 0, 0, 0, 0, []), (13, 1, .lmul, 0, 0, 0, 0, []), (14, 1, .lreturn, 0, 0, 0, 0, [])
  ]
def mc_X12_findMarks : List mv_E := [
  (0, 1, .aload 0, 0, 0, 0, 0, []), (1, 1, .iconst 0, 0, 0, 0, 0, []), (2, 3, .putfield 0, 12, 46, 0, 0, [1085]), (5, 1, .aload 0, 0, 0, 0, 0, []), (6, 3, .lconst 0, 0, 0, 0, 60, [1479]), (9, 1, .lconst 0, 0, 0, 0, 1, []),
  (10, 3, .invokevirtual 0, 190, 3, 12, 0, [1480, 1482, 60, 86]), (13, 1, .iconst 0, 0, 0, 0, 0, []), (14, 1, .istore 0, 2, 0, 0, 0, []), (15, 1, .iload 0, 2, 0, 0, 0, []), (16, 1, .aload 0, 0, 0, 0, 0, []), (17, 3, .getfield 0, 12, 36, 0, 0, [1075]),
  (20, 3, .if_icmp .ge 0, 110, 0, 0, 0, []), (23, 1, .aload 0, 0, 0, 0, 0, []), (24, 1, .iload 0, 2, 0, 0, 0, []), (25, 3, .invokevirtual 0, 191, 2, 12, 1, [1487, 1489, 61, 86]), (28, 3, .ifCond .ne 0, 34, 0, 0, 0, []), (31, 3, .goto 0, 104, 0, 0, 0, []),
  (34, 1, .aload 0, 0, 0, 0, 0, []), (35, 1, .aload 0, 0, 0, 0, 0, []), (36, 1, .iload 0, 2, 0, 0, 0, []), (37, 1, .iload 0, 1, 0, 0, 0, []), (38, 1, .iconst 0, 0, 0, 0, 0, []), (39, 3, .invokevirtual 0, 168, 4, 12, 2, [1382, 1384, 44, 86]),
  (42, 1, .aload 0, 0, 0, 0, 0, []), (43, 1, .iload 0, 2, 0, 0, 0, []), (44, 1, .iload 0, 1, 0, 0, 0, []), (45, 3, .invokevirtual 0, 192, 3, 12, 2, [1491, 1493, 62, 86]), (48, 3, .invokevirtual 0, 190, 3, 12, 0, [1480, 1482, 60, 86]), (51, 1, .iconst 0, 0, 0, 0, 0, []),
  (52, 1, .istore 0, 3, 0, 0, 0, []), (53, 1, .iload 0, 3, 0, 0, 0, []), (54, 1, .iload 0, 2, 0, 0, 0, []), (55, 3, .if_icmp .ge 0, 104, 0, 0, 0, []), (58, 1, .aload 0, 0, 0, 0, 0, []), (59, 1, .iload 0, 3, 0, 0, 0, []),
  (60, 3, .invokevirtual 0, 191, 2, 12, 1, [1487, 1489, 61, 86]), (63, 3, .ifCond .eq 0, 98, 0, 0, 0, []), (66, 1, .aload 0, 0, 0, 0, 0, []), (67, 1, .aload 0, 0, 0, 0, 0, []), (68, 1, .iload 0, 2, 0, 0, 0, []), (69, 1, .iload 0, 1, 0, 0, 0, []),
  (70, 1, .iconst 0, 0, 0, 0, 0, []), (71, 3, .invokevirtual 0, 168, 4, 12, 2, [1382, 1384, 44, 86]), (74, 1, .aload 0, 0, 0, 0, 0, []), (75, 1, .iload 0, 3, 0, 0, 0, []), (76, 1, .iload 0, 1, 0, 0, 0, []), (77, 1, .iconst 0, 0, 0, 0, 0, []),
  (78, 3, .invokevirtual 0, 168, 4, 12, 2, [1382, 1384, 44, 86]), (81, 1, .lsub, 0, 0, 0, 0, []), (82, 1, .aload 0, 0, 0, 0, 0, []), (83, 1, .iload 0, 2, 0, 0, 0, []), (84, 1, .iload 0, 1, 0, 0, 0, []), (85, 3, .invokevirtual 0, 192, 3, 12, 2, [1491, 1493, 62, 86]),
  (88, 1, .aload 0, 0, 0, 0, 0, []), (89, 1, .iload 0, 3, 0, 0, 0, []), (90, 1, .iload 0, 1, 0, 0, 0, []), (91, 3, .invokevirtual 0, 192, 3, 12, 2, [1491, 1493, 62, 86]), (94, 1, .lsub, 0, 0, 0, 0, []), (95, 3, .invokevirtual 0, 190, 3, 12, 0, [1480, 1482, 60, 86]),
  (98, 3, .iinc 0 0, 3, 0, 0, 1, []), (101, 3, .goto 0, 53, 0, 0, 0, []), (104, 3, .iinc 0 0, 2, 0, 0, 1, []), (107, 3, .goto 0, 15, 0, 0, 0, []), (110, 1, .return_, 0, 0, 0, 0, [])
  ]
def mc_X12_useAt : List mv_E := [
  (0, 2, .iconst 0, 0, 0, 0, (-9), []), (2, 2, .istore 0, 6, 0, 0, 0, []), (4, 1, .iconst 0, 0, 0, 0, 0, []), (5, 2, .istore 0, 7, 0, 0, 0, []), (7, 2, .iload 0, 7, 0, 0, 0, []), (9, 1, .aload 0, 0, 0, 0, 0, []),
  (10, 3, .getfield 0, 12, 36, 0, 0, [1075]), (13, 3, .if_icmp .ge 0, 132, 0, 0, 0, []), (16, 1, .aload 0, 0, 0, 0, 0, []), (17, 2, .iload 0, 7, 0, 0, 0, []), (19, 3, .invokevirtual 0, 191, 2, 12, 1, [1487, 1489, 61, 86]), (22, 3, .ifCond .eq 0, 126, 0, 0, 0, []),
  (25, 1, .aload 0, 0, 0, 0, 0, []), (26, 3, .getfield 0, 12, 24, 2, 0, [1063]), (29, 2, .iload 0, 7, 0, 0, 0, []), (31, 1, .iaload, 0, 0, 0, 0, []), (32, 1, .iconst 0, 0, 0, 0, 2, []), (33, 3, .if_icmp .ne 0, 47, 0, 0, 0, []),
  (36, 1, .lload 0, 2, 0, 0, 0, []), (37, 3, .lconst 0, 0, 0, 0, 60, [1479]), (40, 2, .lload 0, 4, 0, 0, 0, []), (42, 1, .lmul, 0, 0, 0, 0, []), (43, 1, .lcmp, 0, 0, 0, 0, []), (44, 3, .ifCond .gt 0, 126, 0, 0, 0, []),
  (47, 1, .aload 0, 0, 0, 0, 0, []), (48, 2, .iload 0, 7, 0, 0, 0, []), (50, 1, .iload 0, 1, 0, 0, 0, []), (51, 1, .iconst 0, 0, 0, 0, 0, []), (52, 3, .invokevirtual 0, 168, 4, 12, 2, [1382, 1384, 44, 86]), (55, 2, .lload 0, 4, 0, 0, 0, []),
  (57, 1, .lmul, 0, 0, 0, 0, []), (58, 1, .aload 0, 0, 0, 0, 0, []), (59, 2, .iload 0, 7, 0, 0, 0, []), (61, 1, .iload 0, 1, 0, 0, 0, []), (62, 3, .invokevirtual 0, 192, 3, 12, 2, [1491, 1493, 62, 86]), (65, 1, .lload 0, 2, 0, 0, 0, []),
  (66, 1, .lmul, 0, 0, 0, 0, []), (67, 1, .lcmp, 0, 0, 0, 0, []), (68, 3, .ifCond .gt 0, 74, 0, 0, 0, []), (71, 3, .goto 0, 126, 0, 0, 0, []), (74, 2, .iload 0, 6, 0, 0, 0, []), (76, 2, .iconst 0, 0, 0, 0, (-9), []),
  (78, 3, .if_icmp .eq 0, 122, 0, 0, 0, []), (81, 1, .aload 0, 0, 0, 0, 0, []), (82, 2, .iload 0, 7, 0, 0, 0, []), (84, 1, .iload 0, 1, 0, 0, 0, []), (85, 1, .iconst 0, 0, 0, 0, 0, []), (86, 3, .invokevirtual 0, 168, 4, 12, 2, [1382, 1384, 44, 86]),
  (89, 1, .aload 0, 0, 0, 0, 0, []), (90, 2, .iload 0, 6, 0, 0, 0, []), (92, 1, .iload 0, 1, 0, 0, 0, []), (93, 1, .iconst 0, 0, 0, 0, 0, []), (94, 3, .invokevirtual 0, 168, 4, 12, 2, [1382, 1384, 44, 86]), (97, 1, .lsub, 0, 0, 0, 0, []),
  (98, 2, .lload 0, 4, 0, 0, 0, []), (100, 1, .lmul, 0, 0, 0, 0, []), (101, 1, .aload 0, 0, 0, 0, 0, []), (102, 2, .iload 0, 7, 0, 0, 0, []), (104, 1, .iload 0, 1, 0, 0, 0, []), (105, 3, .invokevirtual 0, 192, 3, 12, 2, [1491, 1493, 62, 86]),
  (108, 1, .aload 0, 0, 0, 0, 0, []), (109, 2, .iload 0, 6, 0, 0, 0, []), (111, 1, .iload 0, 1, 0, 0, 0, []), (112, 3, .invokevirtual 0, 192, 3, 12, 2, [1491, 1493, 62, 86]), (115, 1, .lsub, 0, 0, 0, 0, []), (116, 1, .lload 0, 2, 0, 0, 0, []),
  (117, 1, .lmul, 0, 0, 0, 0, []), (118, 1, .lcmp, 0, 0, 0, 0, []), (119, 3, .ifCond .le 0, 126, 0, 0, 0, []), (122, 2, .iload 0, 7, 0, 0, 0, []), (124, 2, .istore 0, 6, 0, 0, 0, []), (126, 3, .iinc 0 0, 7, 0, 0, 1, []),
  (129, 3, .goto 0, 7, 0, 0, 0, []), (132, 2, .iload 0, 6, 0, 0, 0, []), (134, 1, .ireturn, 0, 0, 0, 0, [])
  ]
def mc_X12_findRings : List mv_E := [
  (0, 1, .aload 0, 0, 0, 0, 0, []), (1, 1, .iload 0, 1, 0, 0, 0, []), (2, 3, .invokevirtual 0, 193, 2, 12, 0, [1475, 1477, 59, 86]), (5, 1, .aload 0, 0, 0, 0, 0, []), (6, 1, .iconst 0, 0, 0, 0, 0, []), (7, 3, .putfield 0, 12, 47, 0, 0, [1086]),
  (10, 2, .iconst 0, 0, 0, 0, (-9), []), (12, 1, .istore 0, 2, 0, 0, 0, []), (13, 1, .iconst 0, 0, 0, 0, 0, []), (14, 1, .istore 0, 3, 0, 0, 0, []), (15, 1, .iload 0, 3, 0, 0, 0, []), (16, 1, .aload 0, 0, 0, 0, 0, []),
  (17, 3, .getfield 0, 12, 46, 0, 0, [1085]), (20, 3, .if_icmp .gt 0, 260, 0, 0, 0, []), (23, 1, .iload 0, 3, 0, 0, 0, []), (24, 3, .ifCond .ne 0, 31, 0, 0, 0, []), (27, 1, .lconst 0, 0, 0, 0, 0, []), (28, 3, .goto 0, 39, 0, 0, 0, []),
  (31, 1, .aload 0, 0, 0, 0, 0, []), (32, 3, .getfield 0, 12, 41, 2, 0, [1080]), (35, 1, .iload 0, 3, 0, 0, 0, []), (36, 1, .iconst 0, 0, 0, 0, 1, []), (37, 1, .isub, 0, 0, 0, 0, []), (38, 1, .laload, 0, 0, 0, 0, []),
  (39, 2, .lstore 0, 4, 0, 0, 0, []), (41, 1, .iload 0, 3, 0, 0, 0, []), (42, 3, .ifCond .ne 0, 49, 0, 0, 0, []), (45, 1, .lconst 0, 0, 0, 0, 1, []), (46, 3, .goto 0, 57, 0, 0, 0, []), (49, 1, .aload 0, 0, 0, 0, 0, []),
  (50, 3, .getfield 0, 12, 42, 2, 0, [1081]), (53, 1, .iload 0, 3, 0, 0, 0, []), (54, 1, .iconst 0, 0, 0, 0, 1, []), (55, 1, .isub, 0, 0, 0, 0, []), (56, 1, .laload, 0, 0, 0, 0, []), (57, 2, .lstore 0, 6, 0, 0, 0, []),
  (59, 1, .iload 0, 3, 0, 0, 0, []), (60, 1, .aload 0, 0, 0, 0, 0, []), (61, 3, .getfield 0, 12, 46, 0, 0, [1085]), (64, 3, .if_icmp .ne 0, 75, 0, 0, 0, []), (67, 2, .lload 0, 4, 0, 0, 0, []), (69, 2, .lload 0, 6, 0, 0, 0, []),
  (71, 1, .ladd, 0, 0, 0, 0, []), (72, 3, .goto 0, 94, 0, 0, 0, []), (75, 2, .lload 0, 4, 0, 0, 0, []), (77, 1, .aload 0, 0, 0, 0, 0, []), (78, 3, .getfield 0, 12, 42, 2, 0, [1081]), (81, 1, .iload 0, 3, 0, 0, 0, []),
  (82, 1, .laload, 0, 0, 0, 0, []), (83, 1, .lmul, 0, 0, 0, 0, []), (84, 1, .aload 0, 0, 0, 0, 0, []), (85, 3, .getfield 0, 12, 41, 2, 0, [1080]), (88, 1, .iload 0, 3, 0, 0, 0, []), (89, 1, .laload, 0, 0, 0, 0, []),
  (90, 2, .lload 0, 6, 0, 0, 0, []), (92, 1, .lmul, 0, 0, 0, 0, []), (93, 1, .ladd, 0, 0, 0, 0, []), (94, 2, .lstore 0, 8, 0, 0, 0, []), (96, 1, .iload 0, 3, 0, 0, 0, []), (97, 1, .aload 0, 0, 0, 0, 0, []),
  (98, 3, .getfield 0, 12, 46, 0, 0, [1085]), (101, 3, .if_icmp .ne 0, 109, 0, 0, 0, []), (104, 2, .lload 0, 6, 0, 0, 0, []), (106, 3, .goto 0, 122, 0, 0, 0, []), (109, 3, .lconst 0, 0, 0, 0, 2, [1495]), (112, 2, .lload 0, 6, 0, 0, 0, []),
  (114, 1, .lmul, 0, 0, 0, 0, []), (115, 1, .aload 0, 0, 0, 0, 0, []), (116, 3, .getfield 0, 12, 42, 2, 0, [1081]), (119, 1, .iload 0, 3, 0, 0, 0, []), (120, 1, .laload, 0, 0, 0, 0, []), (121, 1, .lmul, 0, 0, 0, 0, []),
  (122, 2, .lstore 0, 10, 0, 0, 0, []), (124, 2, .lload 0, 8, 0, 0, 0, []), (126, 2, .lload 0, 10, 0, 0, 0, []), (128, 3, .invokestatic 0, 189, 2, 1, 2, [1484, 1485, 86]), (131, 2, .lstore 0, 12, 0, 0, 0, []), (133, 1, .aload 0, 0, 0, 0, 0, []),
  (134, 1, .iload 0, 1, 0, 0, 0, []), (135, 2, .lload 0, 8, 0, 0, 0, []), (137, 2, .lload 0, 12, 0, 0, 0, []), (139, 1, .ldiv, 0, 0, 0, 0, []), (140, 2, .lload 0, 10, 0, 0, 0, []), (142, 2, .lload 0, 12, 0, 0, 0, []),
  (144, 1, .ldiv, 0, 0, 0, 0, []), (145, 3, .invokevirtual 0, 194, 4, 12, 1, [1496, 1498, 63, 86]), (148, 2, .istore 0, 14, 0, 0, 0, []), (150, 2, .iload 0, 14, 0, 0, 0, []), (152, 2, .iconst 0, 0, 0, 0, (-9), []), (154, 3, .if_icmp .eq 0, 184, 0, 0, 0, []),
  (157, 2, .iload 0, 14, 0, 0, 0, []), (159, 1, .iload 0, 2, 0, 0, 0, []), (160, 3, .if_icmp .eq 0, 184, 0, 0, 0, []), (163, 1, .aload 0, 0, 0, 0, 0, []), (164, 3, .getfield 0, 12, 45, 2, 0, [1084]), (167, 1, .aload 0, 0, 0, 0, 0, []),
  (168, 3, .getfield 0, 12, 47, 0, 0, [1086]), (171, 2, .iload 0, 14, 0, 0, 0, []), (173, 1, .iastore, 0, 0, 0, 0, []), (174, 1, .aload 0, 0, 0, 0, 0, []), (175, 1, .dup, 0, 0, 0, 0, []), (176, 3, .getfield 0, 12, 47, 0, 0, [1086]),
  (179, 1, .iconst 0, 0, 0, 0, 1, []), (180, 1, .iadd, 0, 0, 0, 0, []), (181, 3, .putfield 0, 12, 47, 0, 0, [1086]), (184, 2, .iload 0, 14, 0, 0, 0, []), (186, 2, .iconst 0, 0, 0, 0, (-9), []), (188, 3, .if_icmp .eq 0, 251, 0, 0, 0, []),
  (191, 1, .aload 0, 0, 0, 0, 0, []), (192, 3, .getfield 0, 12, 43, 2, 0, [1082]), (195, 1, .aload 0, 0, 0, 0, 0, []), (196, 3, .getfield 0, 12, 47, 0, 0, [1086]), (199, 1, .iconst 0, 0, 0, 0, 1, []), (200, 1, .isub, 0, 0, 0, 0, []),
  (201, 1, .iload 0, 3, 0, 0, 0, []), (202, 1, .aload 0, 0, 0, 0, 0, []), (203, 3, .getfield 0, 12, 46, 0, 0, [1085]), (206, 3, .if_icmp .ne 0, 215, 0, 0, 0, []), (209, 3, .lconst 0, 0, 0, 0, (-9), [1500]), (212, 3, .goto 0, 221, 0, 0, 0, []),
  (215, 1, .aload 0, 0, 0, 0, 0, []), (216, 3, .getfield 0, 12, 41, 2, 0, [1080]), (219, 1, .iload 0, 3, 0, 0, 0, []), (220, 1, .laload, 0, 0, 0, 0, []), (221, 1, .lastore, 0, 0, 0, 0, []), (222, 1, .aload 0, 0, 0, 0, 0, []),
  (223, 3, .getfield 0, 12, 44, 2, 0, [1083]), (226, 1, .aload 0, 0, 0, 0, 0, []), (227, 3, .getfield 0, 12, 47, 0, 0, [1086]), (230, 1, .iconst 0, 0, 0, 0, 1, []), (231, 1, .isub, 0, 0, 0, 0, []), (232, 1, .iload 0, 3, 0, 0, 0, []),
  (233, 1, .aload 0, 0, 0, 0, 0, []), (234, 3, .getfield 0, 12, 46, 0, 0, [1085]), (237, 3, .if_icmp .ne 0, 244, 0, 0, 0, []), (240, 1, .lconst 0, 0, 0, 0, 1, []), (241, 3, .goto 0, 250, 0, 0, 0, []), (244, 1, .aload 0, 0, 0, 0, 0, []),
  (245, 3, .getfield 0, 12, 42, 2, 0, [1081]), (248, 1, .iload 0, 3, 0, 0, 0, []), (249, 1, .laload, 0, 0, 0, 0, []), (250, 1, .lastore, 0, 0, 0, 0, []), (251, 2, .iload 0, 14, 0, 0, 0, []), (253, 1, .istore 0, 2, 0, 0, 0, []),
  (254, 3, .iinc 0 0, 3, 0, 0, 1, []), (257, 3, .goto 0, 15, 0, 0, 0, []), (260, 1, .return_, 0, 0, 0, 0, [])
  ]
def mc_X12_ring : List mv_E := [
  (0, 1, .iload 0, 1, 0, 0, 0, []), (1, 3, .ifCond .lt 0, 8, 0, 0, 0, []), (4, 1, .iload 0, 2, 0, 0, 0, []), (5, 3, .ifCond .ge 0, 13, 0, 0, 0, []), (8, 2, .iconst 0, 0, 0, 0, (-4), []), (10, 3, .goto 0, 43, 0, 0, 0, []),
  (13, 1, .iload 0, 1, 0, 0, 0, []), (14, 2, .iconst 0, 0, 0, 0, 9, []), (16, 3, .if_icmp .gt 0, 25, 0, 0, 0, []), (19, 1, .iload 0, 2, 0, 0, 0, []), (20, 2, .iconst 0, 0, 0, 0, 9, []), (22, 3, .if_icmp .le 0, 30, 0, 0, 0, []),
  (25, 2, .iconst 0, 0, 0, 0, (-6), []), (27, 3, .goto 0, 43, 0, 0, 0, []), (30, 1, .aload 0, 0, 0, 0, 0, []), (31, 3, .getfield 0, 12, 23, 0, 0, [1062]), (34, 3, .ifCond .ne 0, 42, 0, 0, 0, []), (37, 2, .iconst 0, 0, 0, 0, (-3), []),
  (39, 3, .goto 0, 43, 0, 0, 0, []), (42, 1, .iconst 0, 0, 0, 0, 0, []), (43, 1, .istore 0, 3, 0, 0, 0, []), (44, 1, .iload 0, 3, 0, 0, 0, []), (45, 3, .ifCond .eq 0, 54, 0, 0, 0, []), (48, 1, .aload 0, 0, 0, 0, 0, []),
  (49, 1, .iload 0, 3, 0, 0, 0, []), (50, 3, .invokevirtual 0, 133, 2, 12, 1, [1244, 1246, 26, 86]), (53, 1, .ireturn, 0, 0, 0, 0, []), (54, 1, .aload 0, 0, 0, 0, 0, []), (55, 1, .iload 0, 1, 0, 0, 0, []), (56, 3, .invokevirtual 0, 195, 2, 12, 0, [1471, 1473, 58, 86]),
  (59, 1, .iload 0, 2, 0, 0, 0, []), (60, 1, .aload 0, 0, 0, 0, 0, []), (61, 3, .getfield 0, 12, 47, 0, 0, [1086]), (64, 3, .if_icmp .ge 0, 76, 0, 0, 0, []), (67, 1, .aload 0, 0, 0, 0, 0, []), (68, 3, .getfield 0, 12, 45, 2, 0, [1084]),
  (71, 1, .iload 0, 2, 0, 0, 0, []), (72, 1, .iaload, 0, 0, 0, 0, []), (73, 3, .goto 0, 78, 0, 0, 0, []), (76, 2, .iconst 0, 0, 0, 0, (-9), []), (78, 1, .ireturn, 0, 0, 0, 0, [])
  ]
def mc_X12_edge : List mv_E := [
  (0, 1, .iload 0, 3, 0, 0, 0, []), (1, 1, .i2l, 0, 0, 0, 0, []), (2, 1, .lconst 0, 0, 0, 0, 0, []), (3, 1, .lconst 0, 0, 0, 0, 1, []), (4, 3, .invokestatic 0, 135, 3, 1, 1, [1267, 1268, 86]), (7, 3, .ifCond .ne 0, 17, 0, 0, 0, []),
  (10, 1, .aload 0, 0, 0, 0, 0, []), (11, 2, .iconst 0, 0, 0, 0, (-2), []), (13, 3, .invokevirtual 0, 134, 2, 12, 2, [1365, 1367, 40, 86]), (16, 1, .lreturn, 0, 0, 0, 0, []), (17, 1, .iload 0, 1, 0, 0, 0, []), (18, 3, .ifCond .lt 0, 25, 0, 0, 0, []),
  (21, 1, .iload 0, 2, 0, 0, 0, []), (22, 3, .ifCond .ge 0, 30, 0, 0, 0, []), (25, 2, .iconst 0, 0, 0, 0, (-4), []), (27, 3, .goto 0, 60, 0, 0, 0, []), (30, 1, .iload 0, 1, 0, 0, 0, []), (31, 2, .iconst 0, 0, 0, 0, 9, []),
  (33, 3, .if_icmp .gt 0, 42, 0, 0, 0, []), (36, 1, .iload 0, 2, 0, 0, 0, []), (37, 2, .iconst 0, 0, 0, 0, 9, []), (39, 3, .if_icmp .le 0, 47, 0, 0, 0, []), (42, 2, .iconst 0, 0, 0, 0, (-6), []), (44, 3, .goto 0, 60, 0, 0, 0, []),
  (47, 1, .aload 0, 0, 0, 0, 0, []), (48, 3, .getfield 0, 12, 23, 0, 0, [1062]), (51, 3, .ifCond .ne 0, 59, 0, 0, 0, []), (54, 2, .iconst 0, 0, 0, 0, (-3), []), (56, 3, .goto 0, 60, 0, 0, 0, []), (59, 1, .iconst 0, 0, 0, 0, 0, []),
  (60, 2, .istore 0, 4, 0, 0, 0, []), (62, 2, .iload 0, 4, 0, 0, 0, []), (64, 3, .ifCond .eq 0, 74, 0, 0, 0, []), (67, 1, .aload 0, 0, 0, 0, 0, []), (68, 2, .iload 0, 4, 0, 0, 0, []), (70, 3, .invokevirtual 0, 134, 2, 12, 2, [1365, 1367, 40, 86]),
  (73, 1, .lreturn, 0, 0, 0, 0, []), (74, 1, .aload 0, 0, 0, 0, 0, []), (75, 1, .iload 0, 1, 0, 0, 0, []), (76, 3, .invokevirtual 0, 195, 2, 12, 0, [1471, 1473, 58, 86]), (79, 1, .iload 0, 2, 0, 0, 0, []), (80, 1, .aload 0, 0, 0, 0, 0, []),
  (81, 3, .getfield 0, 12, 47, 0, 0, [1086]), (84, 3, .if_icmp .lt 0, 93, 0, 0, 0, []), (87, 1, .aload 0, 0, 0, 0, 0, []), (88, 1, .iconst 0, 0, 0, 0, (-1), []), (89, 3, .invokevirtual 0, 134, 2, 12, 2, [1365, 1367, 40, 86]), (92, 1, .lreturn, 0, 0, 0, 0, []),
  (93, 1, .iload 0, 3, 0, 0, 0, []), (94, 3, .ifCond .ne 0, 106, 0, 0, 0, []), (97, 1, .aload 0, 0, 0, 0, 0, []), (98, 3, .getfield 0, 12, 43, 2, 0, [1082]), (101, 1, .iload 0, 2, 0, 0, 0, []), (102, 1, .laload, 0, 0, 0, 0, []),
  (103, 3, .goto 0, 112, 0, 0, 0, []), (106, 1, .aload 0, 0, 0, 0, 0, []), (107, 3, .getfield 0, 12, 44, 2, 0, [1083]), (110, 1, .iload 0, 2, 0, 0, 0, []), (111, 1, .laload, 0, 0, 0, 0, []), (112, 1, .lreturn, 0, 0, 0, 0, [])
  ]
def mc_X12_out : List mv_E := [
  (0, 1, .aload 0, 0, 0, 0, 0, []), (1, 1, .iload 0, 1, 0, 0, 0, []), (2, 3, .invokevirtual 0, 160, 2, 12, 1, [1341, 1343, 38, 86]), (5, 3, .ifCond .ne 0, 14, 0, 0, 0, []), (8, 1, .aload 0, 0, 0, 0, 0, []), (9, 1, .iconst 0, 0, 0, 0, (-1), []),
  (10, 3, .invokevirtual 0, 133, 2, 12, 1, [1244, 1246, 26, 86]), (13, 1, .ireturn, 0, 0, 0, 0, []), (14, 1, .aload 0, 0, 0, 0, 0, []), (15, 3, .invokevirtual 0, 173, 1, 12, 0, [1402, 1404, 48, 86]), (18, 2, .iconst 0, 0, 0, 0, (-9), []), (20, 1, .istore 0, 2, 0, 0, 0, []),
  (21, 1, .iconst 0, 0, 0, 0, 0, []), (22, 1, .istore 0, 3, 0, 0, 0, []), (23, 1, .iload 0, 3, 0, 0, 0, []), (24, 2, .iconst 0, 0, 0, 0, 48, []), (26, 3, .if_icmp .ge 0, 74, 0, 0, 0, []), (29, 1, .aload 0, 0, 0, 0, 0, []),
  (30, 3, .getfield 0, 12, 38, 2, 0, [1077]), (33, 1, .iload 0, 3, 0, 0, 0, []), (34, 1, .iaload, 0, 0, 0, 0, []), (35, 1, .iload 0, 1, 0, 0, 0, []), (36, 3, .if_icmp .ne 0, 68, 0, 0, 0, []), (39, 1, .aload 0, 0, 0, 0, 0, []),
  (40, 1, .iload 0, 1, 0, 0, 0, []), (41, 1, .iload 0, 3, 0, 0, 0, []), (42, 1, .aload 0, 0, 0, 0, 0, []), (43, 3, .getfield 0, 12, 39, 2, 0, [1078]), (46, 1, .iload 0, 3, 0, 0, 0, []), (47, 1, .iaload, 0, 0, 0, 0, []),
  (48, 3, .invokevirtual 0, 169, 4, 12, 1, [1378, 1380, 43, 86]), (51, 1, .iload 0, 2, 0, 0, 0, []), (52, 3, .if_icmp .le 0, 68, 0, 0, 0, []), (55, 1, .aload 0, 0, 0, 0, 0, []), (56, 1, .iload 0, 1, 0, 0, 0, []), (57, 1, .iload 0, 3, 0, 0, 0, []),
  (58, 1, .aload 0, 0, 0, 0, 0, []), (59, 3, .getfield 0, 12, 39, 2, 0, [1078]), (62, 1, .iload 0, 3, 0, 0, 0, []), (63, 1, .iaload, 0, 0, 0, 0, []), (64, 3, .invokevirtual 0, 169, 4, 12, 1, [1378, 1380, 43, 86]), (67, 1, .istore 0, 2, 0, 0, 0, []),
  (68, 3, .iinc 0 0, 3, 0, 0, 1, []), (71, 3, .goto 0, 23, 0, 0, 0, []), (74, 1, .iload 0, 2, 0, 0, 0, []), (75, 1, .ireturn, 0, 0, 0, 0, [])
  ]
def mc_X12_isBorder : List mv_E := [
  (0, 1, .aload 0, 0, 0, 0, 0, []), (1, 1, .iload 0, 2, 0, 0, 0, []), (2, 3, .invokevirtual 0, 143, 2, 12, 1, [1316, 1318, 35, 86]), (5, 3, .ifCond .eq 0, 45, 0, 0, 0, []), (8, 1, .aload 0, 0, 0, 0, 0, []), (9, 3, .getfield 0, 12, 39, 2, 0, [1078]),
  (12, 1, .iload 0, 1, 0, 0, 0, []), (13, 1, .iaload, 0, 0, 0, 0, []), (14, 3, .ifCond .lt 0, 45, 0, 0, 0, []), (17, 1, .aload 0, 0, 0, 0, 0, []), (18, 3, .getfield 0, 12, 39, 2, 0, [1078]), (21, 1, .iload 0, 2, 0, 0, 0, []),
  (22, 1, .iaload, 0, 0, 0, 0, []), (23, 3, .ifCond .lt 0, 45, 0, 0, 0, []), (26, 1, .aload 0, 0, 0, 0, 0, []), (27, 3, .getfield 0, 12, 39, 2, 0, [1078]), (30, 1, .iload 0, 1, 0, 0, 0, []), (31, 1, .iaload, 0, 0, 0, 0, []),
  (32, 1, .aload 0, 0, 0, 0, 0, []), (33, 3, .getfield 0, 12, 39, 2, 0, [1078]), (36, 1, .iload 0, 2, 0, 0, 0, []), (37, 1, .iaload, 0, 0, 0, 0, []), (38, 3, .if_icmp .eq 0, 45, 0, 0, 0, []), (41, 1, .iconst 0, 0, 0, 0, 1, []),
  (42, 3, .goto 0, 46, 0, 0, 0, []), (45, 1, .iconst 0, 0, 0, 0, 0, []), (46, 1, .ireturn, 1, 0, 0, 0, [])
  ]
def mc_X12_borders : List mv_E := [
  (0, 1, .aload 0, 0, 0, 0, 0, []), (1, 3, .invokevirtual 0, 173, 1, 12, 0, [1402, 1404, 48, 86]), (4, 1, .iconst 0, 0, 0, 0, 0, []), (5, 1, .istore 0, 1, 0, 0, 0, []), (6, 1, .iconst 0, 0, 0, 0, 0, []), (7, 1, .istore 0, 2, 0, 0, 0, []),
  (8, 1, .iload 0, 2, 0, 0, 0, []), (9, 2, .iconst 0, 0, 0, 0, 48, []), (11, 3, .if_icmp .ge 0, 85, 0, 0, 0, []), (14, 1, .aload 0, 0, 0, 0, 0, []), (15, 1, .iload 0, 2, 0, 0, 0, []), (16, 3, .invokevirtual 0, 143, 2, 12, 1, [1316, 1318, 35, 86]),
  (19, 3, .ifCond .ne 0, 25, 0, 0, 0, []), (22, 3, .goto 0, 79, 0, 0, 0, []), (25, 1, .iload 0, 1, 0, 0, 0, []), (26, 1, .iload 0, 2, 0, 0, 0, []), (27, 2, .iconst 0, 0, 0, 0, 8, []), (29, 1, .irem, 0, 0, 0, 0, []),
  (30, 2, .iconst 0, 0, 0, 0, 7, []), (32, 3, .if_icmp .ge 0, 50, 0, 0, 0, []), (35, 1, .aload 0, 0, 0, 0, 0, []), (36, 1, .iload 0, 2, 0, 0, 0, []), (37, 1, .iload 0, 2, 0, 0, 0, []), (38, 1, .iconst 0, 0, 0, 0, 1, []),
  (39, 1, .iadd, 0, 0, 0, 0, []), (40, 3, .invokevirtual 0, 199, 3, 12, 1, [1513, 1515, 64, 86]), (43, 3, .ifCond .eq 0, 50, 0, 0, 0, []), (46, 1, .iconst 0, 0, 0, 0, 1, []), (47, 3, .goto 0, 51, 0, 0, 0, []), (50, 1, .iconst 0, 0, 0, 0, 0, []),
  (51, 1, .iadd, 0, 0, 0, 0, []), (52, 1, .istore 0, 1, 0, 0, 0, []), (53, 1, .iload 0, 1, 0, 0, 0, []), (54, 1, .iload 0, 2, 0, 0, 0, []), (55, 2, .iconst 0, 0, 0, 0, 40, []), (57, 3, .if_icmp .ge 0, 76, 0, 0, 0, []),
  (60, 1, .aload 0, 0, 0, 0, 0, []), (61, 1, .iload 0, 2, 0, 0, 0, []), (62, 1, .iload 0, 2, 0, 0, 0, []), (63, 2, .iconst 0, 0, 0, 0, 8, []), (65, 1, .iadd, 0, 0, 0, 0, []), (66, 3, .invokevirtual 0, 199, 3, 12, 1, [1513, 1515, 64, 86]),
  (69, 3, .ifCond .eq 0, 76, 0, 0, 0, []), (72, 1, .iconst 0, 0, 0, 0, 1, []), (73, 3, .goto 0, 77, 0, 0, 0, []), (76, 1, .iconst 0, 0, 0, 0, 0, []), (77, 1, .iadd, 0, 0, 0, 0, []), (78, 1, .istore 0, 1, 0, 0, 0, []),
  (79, 3, .iinc 0 0, 2, 0, 0, 1, []), (82, 3, .goto 0, 8, 0, 0, 0, []), (85, 1, .iload 0, 1, 0, 0, 0, []), (86, 1, .ireturn, 0, 0, 0, 0, [])
  ]
def mc_X12_plan : List mv_E := [
  (0, 1, .aload 0, 0, 0, 0, 0, []), (1, 1, .iload 0, 1, 0, 0, 0, []), (2, 3, .invokevirtual 0, 142, 2, 12, 1, [1274, 1276, 30, 86]), (5, 2, .istore 0, 5, 0, 0, 0, []), (7, 1, .aload 0, 0, 0, 0, 0, []), (8, 1, .iload 0, 2, 0, 0, 0, []),
  (9, 3, .invokevirtual 0, 142, 2, 12, 1, [1274, 1276, 30, 86]), (12, 2, .istore 0, 6, 0, 0, 0, []), (14, 2, .iload 0, 5, 0, 0, 0, []), (16, 3, .ifCond .lt 0, 34, 0, 0, 0, []), (19, 2, .iload 0, 6, 0, 0, 0, []), (21, 3, .ifCond .lt 0, 34, 0, 0, 0, []),
  (24, 2, .iload 0, 5, 0, 0, 0, []), (26, 2, .iload 0, 6, 0, 0, 0, []), (28, 3, .invokestatic 0, 146, 2, 1, 1, [1286, 1287, 86]), (31, 3, .ifCond .ne 0, 40, 0, 0, 0, []), (34, 1, .aload 0, 0, 0, 0, 0, []), (35, 1, .iconst 0, 0, 0, 0, (-1), []),
  (36, 3, .invokevirtual 0, 133, 2, 12, 1, [1244, 1246, 26, 86]), (39, 1, .ireturn, 0, 0, 0, 0, []), (40, 1, .iload 0, 3, 0, 0, 0, []), (41, 1, .i2l, 0, 0, 0, 0, []), (42, 1, .lconst 0, 0, 0, 0, 1, []), (43, 3, .lconst 0, 0, 0, 0, 3, [1289]),
  (46, 3, .invokestatic 0, 135, 3, 1, 1, [1267, 1268, 86]), (49, 3, .ifCond .ne 0, 59, 0, 0, 0, []), (52, 1, .aload 0, 0, 0, 0, 0, []), (53, 2, .iconst 0, 0, 0, 0, (-2), []), (55, 3, .invokevirtual 0, 133, 2, 12, 1, [1244, 1246, 26, 86]), (58, 1, .ireturn, 0, 0, 0, 0, []),
  (59, 2, .iload 0, 4, 0, 0, 0, []), (61, 1, .i2l, 0, 0, 0, 0, []), (62, 1, .lconst 0, 0, 0, 0, 0, []), (63, 3, .lconst 0, 0, 0, 0, 99999, [1521]), (66, 3, .invokestatic 0, 136, 3, 1, 1, [1241, 1242, 86]), (69, 2, .istore 0, 7, 0, 0, 0, []),
  (71, 2, .iload 0, 7, 0, 0, 0, []), (73, 3, .ifCond .ne 0, 89, 0, 0, 0, []), (76, 1, .aload 0, 0, 0, 0, 0, []), (77, 3, .getfield 0, 12, 55, 0, 0, [1094]), (80, 2, .iconst 0, 0, 0, 0, 8, []), (82, 3, .if_icmp .ne 0, 89, 0, 0, 0, []),
  (85, 2, .iconst 0, 0, 0, 0, (-6), []), (87, 2, .istore 0, 7, 0, 0, 0, []), (89, 2, .iload 0, 7, 0, 0, 0, []), (91, 3, .ifCond .ne 0, 109, 0, 0, 0, []), (94, 1, .aload 0, 0, 0, 0, 0, []), (95, 2, .iload 0, 5, 0, 0, 0, []),
  (97, 2, .iload 0, 6, 0, 0, 0, []), (99, 3, .invokevirtual 0, 147, 3, 12, 1, [1290, 1292, 32, 86]), (102, 3, .ifCond .lt 0, 109, 0, 0, 0, []), (105, 2, .iconst 0, 0, 0, 0, (-3), []), (107, 2, .istore 0, 7, 0, 0, 0, []), (109, 2, .iload 0, 7, 0, 0, 0, []),
  (111, 3, .ifCond .eq 0, 121, 0, 0, 0, []), (114, 1, .aload 0, 0, 0, 0, 0, []), (115, 2, .iload 0, 7, 0, 0, 0, []), (117, 3, .invokevirtual 0, 133, 2, 12, 1, [1244, 1246, 26, 86]), (120, 1, .ireturn, 0, 0, 0, 0, []), (121, 1, .aload 0, 0, 0, 0, 0, []),
  (122, 3, .getfield 0, 12, 48, 2, 0, [1087]), (125, 1, .aload 0, 0, 0, 0, 0, []), (126, 3, .getfield 0, 12, 55, 0, 0, [1094]), (129, 2, .iload 0, 5, 0, 0, 0, []), (131, 1, .iastore, 0, 0, 0, 0, []), (132, 1, .aload 0, 0, 0, 0, 0, []),
  (133, 3, .getfield 0, 12, 49, 2, 0, [1088]), (136, 1, .aload 0, 0, 0, 0, 0, []), (137, 3, .getfield 0, 12, 55, 0, 0, [1094]), (140, 2, .iload 0, 6, 0, 0, 0, []), (142, 1, .iastore, 0, 0, 0, 0, []), (143, 1, .aload 0, 0, 0, 0, 0, []),
  (144, 3, .getfield 0, 12, 50, 2, 0, [1089]), (147, 1, .aload 0, 0, 0, 0, 0, []), (148, 3, .getfield 0, 12, 55, 0, 0, [1094]), (151, 1, .iload 0, 3, 0, 0, 0, []), (152, 1, .iastore, 0, 0, 0, 0, []), (153, 1, .aload 0, 0, 0, 0, 0, []),
  (154, 3, .getfield 0, 12, 51, 2, 0, [1090]), (157, 1, .aload 0, 0, 0, 0, 0, []), (158, 3, .getfield 0, 12, 55, 0, 0, [1094]), (161, 2, .iload 0, 4, 0, 0, 0, []), (163, 1, .iastore, 0, 0, 0, 0, []), (164, 1, .aload 0, 0, 0, 0, 0, []),
  (165, 1, .dup, 0, 0, 0, 0, []), (166, 3, .getfield 0, 12, 55, 0, 0, [1094]), (169, 1, .iconst 0, 0, 0, 0, 1, []), (170, 1, .iadd, 0, 0, 0, 0, []), (171, 3, .putfield 0, 12, 55, 0, 0, [1094]), (174, 1, .aload 0, 0, 0, 0, 0, []),
  (175, 3, .getfield 0, 12, 55, 0, 0, [1094]), (178, 1, .iconst 0, 0, 0, 0, 1, []), (179, 1, .isub, 0, 0, 0, 0, []), (180, 1, .ireturn, 0, 0, 0, 0, [])
  ]
def mc_X12_isPlan : List mv_E := [
  (0, 1, .iload 0, 1, 0, 0, 0, []), (1, 3, .ifCond .lt 0, 16, 0, 0, 0, []), (4, 1, .iload 0, 1, 0, 0, 0, []), (5, 1, .aload 0, 0, 0, 0, 0, []), (6, 3, .getfield 0, 12, 55, 0, 0, [1094]), (9, 3, .if_icmp .ge 0, 16, 0, 0, 0, []),
  (12, 1, .iconst 0, 0, 0, 0, 1, []), (13, 3, .goto 0, 17, 0, 0, 0, []), (16, 1, .iconst 0, 0, 0, 0, 0, []), (17, 1, .ireturn, 1, 0, 0, 0, [])
  ]
def mc_X12_isTaken : List mv_E := [
  (0, 1, .aload 0, 0, 0, 0, 0, []), (1, 1, .aload 0, 0, 0, 0, 0, []), (2, 3, .getfield 0, 12, 48, 2, 0, [1087]), (5, 1, .iload 0, 1, 0, 0, 0, []), (6, 1, .iaload, 0, 0, 0, 0, []), (7, 1, .aload 0, 0, 0, 0, 0, []),
  (8, 3, .getfield 0, 12, 49, 2, 0, [1088]), (11, 1, .iload 0, 1, 0, 0, 0, []), (12, 1, .iaload, 0, 0, 0, 0, []), (13, 3, .invokevirtual 0, 147, 3, 12, 1, [1290, 1292, 32, 86]), (16, 3, .ifCond .lt 0, 23, 0, 0, 0, []), (19, 1, .iconst 0, 0, 0, 0, 1, []),
  (20, 3, .goto 0, 24, 0, 0, 0, []), (23, 1, .iconst 0, 0, 0, 0, 0, []), (24, 1, .ireturn, 1, 0, 0, 0, [])
  ]
def mc_X12_findsWith : List mv_E := [
  (0, 1, .aload 0, 0, 0, 0, 0, []), (1, 3, .getfield 0, 12, 17, 0, 0, [1056]), (4, 1, .istore 0, 2, 0, 0, 0, []), (5, 1, .iconst 0, 0, 0, 0, 0, []), (6, 1, .istore 0, 3, 0, 0, 0, []), (7, 1, .iload 0, 3, 0, 0, 0, []),
  (8, 1, .aload 0, 0, 0, 0, 0, []), (9, 3, .getfield 0, 12, 17, 0, 0, [1056]), (12, 3, .if_icmp .ge 0, 57, 0, 0, 0, []), (15, 1, .aload 0, 0, 0, 0, 0, []), (16, 3, .getfield 0, 12, 52, 2, 0, [1091]), (19, 1, .iload 0, 3, 0, 0, 0, []),
  (20, 1, .aload 0, 0, 0, 0, 0, []), (21, 3, .getfield 0, 12, 13, 2, 0, [1052]), (24, 1, .iload 0, 3, 0, 0, 0, []), (25, 1, .iaload, 0, 0, 0, 0, []), (26, 1, .iastore, 0, 0, 0, 0, []), (27, 1, .aload 0, 0, 0, 0, 0, []),
  (28, 3, .getfield 0, 12, 53, 2, 0, [1092]), (31, 1, .iload 0, 3, 0, 0, 0, []), (32, 1, .aload 0, 0, 0, 0, 0, []), (33, 3, .getfield 0, 12, 14, 2, 0, [1053]), (36, 1, .iload 0, 3, 0, 0, 0, []), (37, 1, .iaload, 0, 0, 0, 0, []),
  (38, 1, .iastore, 0, 0, 0, 0, []), (39, 1, .aload 0, 0, 0, 0, 0, []), (40, 3, .getfield 0, 12, 54, 2, 0, [1093]), (43, 1, .iload 0, 3, 0, 0, 0, []), (44, 1, .aload 0, 0, 0, 0, 0, []), (45, 3, .getfield 0, 12, 15, 2, 0, [1054]),
  (48, 1, .iload 0, 3, 0, 0, 0, []), (49, 1, .iaload, 0, 0, 0, 0, []), (50, 1, .iastore, 0, 0, 0, 0, []), (51, 3, .iinc 0 0, 3, 0, 0, 1, []), (54, 3, .goto 0, 7, 0, 0, 0, []), (57, 1, .iconst 0, 0, 0, 0, 0, []),
  (58, 1, .istore 0, 3, 0, 0, 0, []), (59, 1, .iload 0, 3, 0, 0, 0, []), (60, 1, .aload 0, 0, 0, 0, 0, []), (61, 3, .getfield 0, 12, 55, 0, 0, [1094]), (64, 3, .if_icmp .ge 0, 104, 0, 0, 0, []), (67, 1, .iload 0, 1, 0, 0, 0, []),
  (68, 1, .iload 0, 3, 0, 0, 0, []), (69, 1, .ishr, 0, 0, 0, 0, []), (70, 1, .iconst 0, 0, 0, 0, 1, []), (71, 1, .iand, 0, 0, 0, 0, []), (72, 1, .iconst 0, 0, 0, 0, 1, []), (73, 3, .if_icmp .ne 0, 98, 0, 0, 0, []),
  (76, 1, .aload 0, 0, 0, 0, 0, []), (77, 1, .aload 0, 0, 0, 0, 0, []), (78, 3, .getfield 0, 12, 48, 2, 0, [1087]), (81, 1, .iload 0, 3, 0, 0, 0, []), (82, 1, .iaload, 0, 0, 0, 0, []), (83, 1, .aload 0, 0, 0, 0, 0, []),
  (84, 3, .getfield 0, 12, 49, 2, 0, [1088]), (87, 1, .iload 0, 3, 0, 0, 0, []), (88, 1, .iaload, 0, 0, 0, 0, []), (89, 1, .aload 0, 0, 0, 0, 0, []), (90, 3, .getfield 0, 12, 50, 2, 0, [1089]), (93, 1, .iload 0, 3, 0, 0, 0, []),
  (94, 1, .iaload, 0, 0, 0, 0, []), (95, 3, .invokevirtual 0, 148, 4, 12, 0, [1294, 1296, 33, 86]), (98, 3, .iinc 0 0, 3, 0, 0, 1, []), (101, 3, .goto 0, 59, 0, 0, 0, []), (104, 1, .aload 0, 0, 0, 0, 0, []), (105, 3, .invokevirtual 0, 173, 1, 12, 0, [1402, 1404, 48, 86]),
  (108, 1, .aload 0, 0, 0, 0, 0, []), (109, 1, .iload 0, 2, 0, 0, 0, []), (110, 3, .putfield 0, 12, 17, 0, 0, [1056]), (113, 1, .iconst 0, 0, 0, 0, 0, []), (114, 1, .istore 0, 3, 0, 0, 0, []), (115, 1, .iload 0, 3, 0, 0, 0, []),
  (116, 1, .aload 0, 0, 0, 0, 0, []), (117, 3, .getfield 0, 12, 17, 0, 0, [1056]), (120, 3, .if_icmp .ge 0, 165, 0, 0, 0, []), (123, 1, .aload 0, 0, 0, 0, 0, []), (124, 3, .getfield 0, 12, 13, 2, 0, [1052]), (127, 1, .iload 0, 3, 0, 0, 0, []),
  (128, 1, .aload 0, 0, 0, 0, 0, []), (129, 3, .getfield 0, 12, 52, 2, 0, [1091]), (132, 1, .iload 0, 3, 0, 0, 0, []), (133, 1, .iaload, 0, 0, 0, 0, []), (134, 1, .iastore, 0, 0, 0, 0, []), (135, 1, .aload 0, 0, 0, 0, 0, []),
  (136, 3, .getfield 0, 12, 14, 2, 0, [1053]), (139, 1, .iload 0, 3, 0, 0, 0, []), (140, 1, .aload 0, 0, 0, 0, 0, []), (141, 3, .getfield 0, 12, 53, 2, 0, [1092]), (144, 1, .iload 0, 3, 0, 0, 0, []), (145, 1, .iaload, 0, 0, 0, 0, []),
  (146, 1, .iastore, 0, 0, 0, 0, []), (147, 1, .aload 0, 0, 0, 0, 0, []), (148, 3, .getfield 0, 12, 15, 2, 0, [1054]), (151, 1, .iload 0, 3, 0, 0, 0, []), (152, 1, .aload 0, 0, 0, 0, 0, []), (153, 3, .getfield 0, 12, 54, 2, 0, [1093]),
  (156, 1, .iload 0, 3, 0, 0, 0, []), (157, 1, .iaload, 0, 0, 0, 0, []), (158, 1, .iastore, 0, 0, 0, 0, []), (159, 3, .iinc 0 0, 3, 0, 0, 1, []), (162, 3, .goto 0, 115, 0, 0, 0, []), (165, 1, .return_, 0, 0, 0, 0, [])
  ]
def mc_X12_gain : List mv_E := [
  (0, 1, .aload 0, 0, 0, 0, 0, []), (1, 1, .iload 0, 1, 0, 0, 0, []), (2, 3, .invokevirtual 0, 202, 2, 12, 1, [1526, 1528, 65, 86]), (5, 3, .ifCond .ne 0, 14, 0, 0, 0, []), (8, 1, .aload 0, 0, 0, 0, 0, []), (9, 1, .iconst 0, 0, 0, 0, (-1), []),
  (10, 3, .invokevirtual 0, 134, 2, 12, 2, [1365, 1367, 40, 86]), (13, 1, .lreturn, 0, 0, 0, 0, []), (14, 1, .aload 0, 0, 0, 0, 0, []), (15, 1, .iload 0, 1, 0, 0, 0, []), (16, 3, .invokevirtual 0, 203, 2, 12, 1, [1530, 1532, 66, 86]), (19, 3, .ifCond .eq 0, 29, 0, 0, 0, []),
  (22, 1, .aload 0, 0, 0, 0, 0, []), (23, 2, .iconst 0, 0, 0, 0, (-3), []), (25, 3, .invokevirtual 0, 134, 2, 12, 2, [1365, 1367, 40, 86]), (28, 1, .lreturn, 0, 0, 0, 0, []), (29, 1, .aload 0, 0, 0, 0, 0, []), (30, 3, .invokevirtual 0, 173, 1, 12, 0, [1402, 1404, 48, 86]),
  (33, 1, .aload 0, 0, 0, 0, 0, []), (34, 3, .invokevirtual 0, 176, 1, 12, 2, [1414, 1416, 50, 86]), (37, 1, .lstore 0, 2, 0, 0, 0, []), (38, 1, .aload 0, 0, 0, 0, 0, []), (39, 1, .iconst 0, 0, 0, 0, 1, []), (40, 1, .iload 0, 1, 0, 0, 0, []),
  (41, 1, .ishl, 0, 0, 0, 0, []), (42, 3, .invokevirtual 0, 204, 2, 12, 0, [1534, 1536, 67, 86]), (45, 1, .aload 0, 0, 0, 0, 0, []), (46, 3, .invokevirtual 0, 176, 1, 12, 2, [1414, 1416, 50, 86]), (49, 1, .lload 0, 2, 0, 0, 0, []), (50, 1, .lsub, 0, 0, 0, 0, []),
  (51, 3, .lconst 0, 0, 0, 0, 100, [1359]), (54, 1, .aload 0, 0, 0, 0, 0, []), (55, 3, .getfield 0, 12, 51, 2, 0, [1090]), (58, 1, .iload 0, 1, 0, 0, 0, []), (59, 1, .iaload, 0, 0, 0, 0, []), (60, 1, .i2l, 0, 0, 0, 0, []),
  (61, 1, .lmul, 0, 0, 0, 0, []), (62, 1, .lsub, 0, 0, 0, 0, []), (63, 1, .lreturn, 0, 0, 0, 0, [])
  ]
def mc_X12_costOf : List mv_E := [
  (0, 1, .iconst 0, 0, 0, 0, 0, []), (1, 1, .istore 0, 2, 0, 0, 0, []), (2, 1, .iconst 0, 0, 0, 0, 0, []), (3, 1, .istore 0, 3, 0, 0, 0, []), (4, 1, .iload 0, 3, 0, 0, 0, []), (5, 1, .aload 0, 0, 0, 0, 0, []),
  (6, 3, .getfield 0, 12, 55, 0, 0, [1094]), (9, 3, .if_icmp .ge 0, 40, 0, 0, 0, []), (12, 1, .iload 0, 2, 0, 0, 0, []), (13, 1, .iload 0, 1, 0, 0, 0, []), (14, 1, .iload 0, 3, 0, 0, 0, []), (15, 1, .ishr, 0, 0, 0, 0, []),
  (16, 1, .iconst 0, 0, 0, 0, 1, []), (17, 1, .iand, 0, 0, 0, 0, []), (18, 1, .iconst 0, 0, 0, 0, 1, []), (19, 3, .if_icmp .ne 0, 31, 0, 0, 0, []), (22, 1, .aload 0, 0, 0, 0, 0, []), (23, 3, .getfield 0, 12, 51, 2, 0, [1090]),
  (26, 1, .iload 0, 3, 0, 0, 0, []), (27, 1, .iaload, 0, 0, 0, 0, []), (28, 3, .goto 0, 32, 0, 0, 0, []), (31, 1, .iconst 0, 0, 0, 0, 0, []), (32, 1, .iadd, 0, 0, 0, 0, []), (33, 1, .istore 0, 2, 0, 0, 0, []),
  (34, 3, .iinc 0 0, 3, 0, 0, 1, []), (37, 3, .goto 0, 4, 0, 0, 0, []), (40, 1, .iload 0, 2, 0, 0, 0, []), (41, 1, .ireturn, 0, 0, 0, 0, [])
  ]
def mc_X12_best : List mv_E := [
  (0, 1, .iload 0, 1, 0, 0, 0, []), (1, 1, .i2l, 0, 0, 0, 0, []), (2, 1, .lconst 0, 0, 0, 0, 0, []), (3, 3, .lconst 0, 0, 0, 0, 99999, [1521]), (6, 3, .invokestatic 0, 136, 3, 1, 1, [1241, 1242, 86]), (9, 1, .istore 0, 2, 0, 0, 0, []),
  (10, 1, .iconst 0, 0, 0, 0, 0, []), (11, 1, .istore 0, 3, 0, 0, 0, []), (12, 1, .iload 0, 3, 0, 0, 0, []), (13, 1, .aload 0, 0, 0, 0, 0, []), (14, 3, .getfield 0, 12, 55, 0, 0, [1094]), (17, 3, .if_icmp .ge 0, 45, 0, 0, 0, []),
  (20, 1, .iload 0, 2, 0, 0, 0, []), (21, 3, .ifCond .ne 0, 45, 0, 0, 0, []), (24, 1, .aload 0, 0, 0, 0, 0, []), (25, 1, .iload 0, 3, 0, 0, 0, []), (26, 3, .invokevirtual 0, 203, 2, 12, 1, [1530, 1532, 66, 86]), (29, 3, .ifCond .eq 0, 37, 0, 0, 0, []),
  (32, 2, .iconst 0, 0, 0, 0, (-3), []), (34, 3, .goto 0, 38, 0, 0, 0, []), (37, 1, .iconst 0, 0, 0, 0, 0, []), (38, 1, .istore 0, 2, 0, 0, 0, []), (39, 3, .iinc 0 0, 3, 0, 0, 1, []), (42, 3, .goto 0, 12, 0, 0, 0, []),
  (45, 1, .iload 0, 2, 0, 0, 0, []), (46, 3, .ifCond .eq 0, 55, 0, 0, 0, []), (49, 1, .aload 0, 0, 0, 0, 0, []), (50, 1, .iload 0, 2, 0, 0, 0, []), (51, 3, .invokevirtual 0, 133, 2, 12, 1, [1244, 1246, 26, 86]), (54, 1, .ireturn, 0, 0, 0, 0, []),
  (55, 1, .iconst 0, 0, 0, 0, (-1), []), (56, 1, .istore 0, 3, 0, 0, 0, []), (57, 1, .lconst 0, 0, 0, 0, 0, []), (58, 2, .lstore 0, 4, 0, 0, 0, []), (60, 1, .iconst 0, 0, 0, 0, 0, []), (61, 2, .istore 0, 6, 0, 0, 0, []),
  (63, 2, .iload 0, 6, 0, 0, 0, []), (65, 1, .iconst 0, 0, 0, 0, 1, []), (66, 1, .aload 0, 0, 0, 0, 0, []), (67, 3, .getfield 0, 12, 55, 0, 0, [1094]), (70, 1, .ishl, 0, 0, 0, 0, []), (71, 3, .if_icmp .ge 0, 149, 0, 0, 0, []),
  (74, 1, .aload 0, 0, 0, 0, 0, []), (75, 2, .iload 0, 6, 0, 0, 0, []), (77, 3, .invokevirtual 0, 206, 2, 12, 1, [1542, 1544, 68, 86]), (80, 1, .iload 0, 1, 0, 0, 0, []), (81, 3, .if_icmp .le 0, 87, 0, 0, 0, []), (84, 3, .goto 0, 143, 0, 0, 0, []),
  (87, 1, .aload 0, 0, 0, 0, 0, []), (88, 2, .iload 0, 6, 0, 0, 0, []), (90, 3, .invokevirtual 0, 204, 2, 12, 0, [1534, 1536, 67, 86]), (93, 1, .aload 0, 0, 0, 0, 0, []), (94, 3, .invokevirtual 0, 176, 1, 12, 2, [1414, 1416, 50, 86]), (97, 2, .lstore 0, 7, 0, 0, 0, []),
  (99, 1, .iload 0, 3, 0, 0, 0, []), (100, 3, .ifCond .lt 0, 136, 0, 0, 0, []), (103, 2, .lload 0, 7, 0, 0, 0, []), (105, 2, .lload 0, 4, 0, 0, 0, []), (107, 1, .lcmp, 0, 0, 0, 0, []), (108, 3, .ifCond .lt 0, 143, 0, 0, 0, []),
  (111, 2, .lload 0, 7, 0, 0, 0, []), (113, 2, .lload 0, 4, 0, 0, 0, []), (115, 1, .lcmp, 0, 0, 0, 0, []), (116, 3, .ifCond .ne 0, 136, 0, 0, 0, []), (119, 1, .aload 0, 0, 0, 0, 0, []), (120, 2, .iload 0, 6, 0, 0, 0, []),
  (122, 3, .invokevirtual 0, 206, 2, 12, 1, [1542, 1544, 68, 86]), (125, 1, .aload 0, 0, 0, 0, 0, []), (126, 1, .iload 0, 3, 0, 0, 0, []), (127, 3, .invokevirtual 0, 206, 2, 12, 1, [1542, 1544, 68, 86]), (130, 3, .if_icmp .lt 0, 136, 0, 0, 0, []), (133, 3, .goto 0, 143, 0, 0, 0, []),
  (136, 2, .iload 0, 6, 0, 0, 0, []), (138, 1, .istore 0, 3, 0, 0, 0, []), (139, 2, .lload 0, 7, 0, 0, 0, []), (141, 2, .lstore 0, 4, 0, 0, 0, []), (143, 3, .iinc 0 0, 6, 0, 0, 1, []), (146, 3, .goto 0, 63, 0, 0, 0, []),
  (149, 1, .iload 0, 3, 0, 0, 0, []), (150, 1, .ireturn, 0, 0, 0, 0, [])
  ]
def mc_X12_losers : List mv_E := [
  (0, 1, .aload 0, 0, 0, 0, 0, []), (1, 1, .iload 0, 1, 0, 0, 0, []), (2, 3, .invokevirtual 0, 202, 2, 12, 1, [1526, 1528, 65, 86]), (5, 3, .ifCond .ne 0, 14, 0, 0, 0, []), (8, 1, .aload 0, 0, 0, 0, 0, []), (9, 1, .iconst 0, 0, 0, 0, (-1), []),
  (10, 3, .invokevirtual 0, 133, 2, 12, 1, [1244, 1246, 26, 86]), (13, 1, .ireturn, 0, 0, 0, 0, []), (14, 1, .aload 0, 0, 0, 0, 0, []), (15, 1, .iload 0, 1, 0, 0, 0, []), (16, 3, .invokevirtual 0, 203, 2, 12, 1, [1530, 1532, 66, 86]), (19, 3, .ifCond .eq 0, 29, 0, 0, 0, []),
  (22, 1, .aload 0, 0, 0, 0, 0, []), (23, 2, .iconst 0, 0, 0, 0, (-3), []), (25, 3, .invokevirtual 0, 133, 2, 12, 1, [1244, 1246, 26, 86]), (28, 1, .ireturn, 0, 0, 0, 0, []), (29, 1, .aload 0, 0, 0, 0, 0, []), (30, 3, .invokevirtual 0, 173, 1, 12, 0, [1402, 1404, 48, 86]),
  (33, 1, .iconst 0, 0, 0, 0, 0, []), (34, 1, .istore 0, 2, 0, 0, 0, []), (35, 1, .iload 0, 2, 0, 0, 0, []), (36, 2, .iconst 0, 0, 0, 0, 48, []), (38, 3, .if_icmp .ge 0, 58, 0, 0, 0, []), (41, 1, .aload 0, 0, 0, 0, 0, []),
  (42, 3, .getfield 0, 12, 56, 2, 0, [1095]), (45, 1, .iload 0, 2, 0, 0, 0, []), (46, 1, .aload 0, 0, 0, 0, 0, []), (47, 1, .iload 0, 2, 0, 0, 0, []), (48, 3, .invokevirtual 0, 175, 2, 12, 2, [1418, 1420, 51, 86]), (51, 1, .lastore, 0, 0, 0, 0, []),
  (52, 3, .iinc 0 0, 2, 0, 0, 1, []), (55, 3, .goto 0, 35, 0, 0, 0, []), (58, 1, .aload 0, 0, 0, 0, 0, []), (59, 1, .iconst 0, 0, 0, 0, 1, []), (60, 1, .iload 0, 1, 0, 0, 0, []), (61, 1, .ishl, 0, 0, 0, 0, []),
  (62, 3, .invokevirtual 0, 204, 2, 12, 0, [1534, 1536, 67, 86]), (65, 1, .iconst 0, 0, 0, 0, 0, []), (66, 1, .istore 0, 2, 0, 0, 0, []), (67, 1, .iconst 0, 0, 0, 0, 0, []), (68, 1, .istore 0, 3, 0, 0, 0, []), (69, 1, .iload 0, 3, 0, 0, 0, []),
  (70, 2, .iconst 0, 0, 0, 0, 48, []), (72, 3, .if_icmp .ge 0, 104, 0, 0, 0, []), (75, 1, .iload 0, 2, 0, 0, 0, []), (76, 1, .aload 0, 0, 0, 0, 0, []), (77, 1, .iload 0, 3, 0, 0, 0, []), (78, 3, .invokevirtual 0, 175, 2, 12, 2, [1418, 1420, 51, 86]),
  (81, 1, .aload 0, 0, 0, 0, 0, []), (82, 3, .getfield 0, 12, 56, 2, 0, [1095]), (85, 1, .iload 0, 3, 0, 0, 0, []), (86, 1, .laload, 0, 0, 0, 0, []), (87, 1, .lcmp, 0, 0, 0, 0, []), (88, 3, .ifCond .ge 0, 95, 0, 0, 0, []),
  (91, 1, .iconst 0, 0, 0, 0, 1, []), (92, 3, .goto 0, 96, 0, 0, 0, []), (95, 1, .iconst 0, 0, 0, 0, 0, []), (96, 1, .iadd, 0, 0, 0, 0, []), (97, 1, .istore 0, 2, 0, 0, 0, []), (98, 3, .iinc 0 0, 3, 0, 0, 1, []),
  (101, 3, .goto 0, 69, 0, 0, 0, []), (104, 1, .iload 0, 2, 0, 0, 0, []), (105, 1, .ireturn, 0, 0, 0, 0, [])
  ]
def mc_X12_falls : List mv_E := [
  (0, 1, .aload 0, 0, 0, 0, 0, []), (1, 1, .iload 0, 1, 0, 0, 0, []), (2, 3, .invokevirtual 0, 160, 2, 12, 1, [1341, 1343, 38, 86]), (5, 3, .ifCond .ne 0, 14, 0, 0, 0, []), (8, 1, .aload 0, 0, 0, 0, 0, []), (9, 1, .iconst 0, 0, 0, 0, (-1), []),
  (10, 3, .invokevirtual 0, 133, 2, 12, 1, [1244, 1246, 26, 86]), (13, 1, .ireturn, 0, 0, 0, 0, []), (14, 1, .iload 0, 2, 0, 0, 0, []), (15, 1, .i2l, 0, 0, 0, 0, []), (16, 1, .lconst 0, 0, 0, 0, 0, []), (17, 3, .lconst 0, 0, 0, 0, 9999, [1360]),
  (20, 3, .invokestatic 0, 136, 3, 1, 1, [1241, 1242, 86]), (23, 1, .istore 0, 3, 0, 0, 0, []), (24, 1, .iload 0, 3, 0, 0, 0, []), (25, 3, .ifCond .eq 0, 34, 0, 0, 0, []), (28, 1, .aload 0, 0, 0, 0, 0, []), (29, 1, .iload 0, 3, 0, 0, 0, []),
  (30, 3, .invokevirtual 0, 133, 2, 12, 1, [1244, 1246, 26, 86]), (33, 1, .ireturn, 0, 0, 0, 0, []), (34, 1, .aload 0, 0, 0, 0, 0, []), (35, 3, .invokevirtual 0, 173, 1, 12, 0, [1402, 1404, 48, 86]), (38, 1, .iconst 0, 0, 0, 0, 0, []), (39, 2, .istore 0, 4, 0, 0, 0, []),
  (41, 2, .iload 0, 4, 0, 0, 0, []), (43, 2, .iconst 0, 0, 0, 0, 48, []), (45, 3, .if_icmp .ge 0, 77, 0, 0, 0, []), (48, 1, .aload 0, 0, 0, 0, 0, []), (49, 3, .getfield 0, 12, 57, 2, 0, [1096]), (52, 2, .iload 0, 4, 0, 0, 0, []),
  (54, 1, .aload 0, 0, 0, 0, 0, []), (55, 3, .getfield 0, 12, 38, 2, 0, [1077]), (58, 2, .iload 0, 4, 0, 0, 0, []), (60, 1, .iaload, 0, 0, 0, 0, []), (61, 1, .iload 0, 1, 0, 0, 0, []), (62, 3, .if_icmp .ne 0, 69, 0, 0, 0, []),
  (65, 1, .iconst 0, 0, 0, 0, 1, []), (66, 3, .goto 0, 70, 0, 0, 0, []), (69, 1, .iconst 0, 0, 0, 0, 0, []), (70, 1, .bastore, 0, 0, 0, 0, []), (71, 3, .iinc 0 0, 4, 0, 0, 1, []), (74, 3, .goto 0, 41, 0, 0, 0, []),
  (77, 1, .aload 0, 0, 0, 0, 0, []), (78, 3, .getfield 0, 12, 29, 2, 0, [1068]), (81, 1, .iload 0, 1, 0, 0, 0, []), (82, 1, .iaload, 0, 0, 0, 0, []), (83, 2, .istore 0, 4, 0, 0, 0, []), (85, 1, .aload 0, 0, 0, 0, 0, []),
  (86, 3, .getfield 0, 12, 29, 2, 0, [1068]), (89, 1, .iload 0, 1, 0, 0, 0, []), (90, 1, .iload 0, 2, 0, 0, 0, []), (91, 1, .iastore, 0, 0, 0, 0, []), (92, 1, .aload 0, 0, 0, 0, 0, []), (93, 3, .invokevirtual 0, 173, 1, 12, 0, [1402, 1404, 48, 86]),
  (96, 1, .aload 0, 0, 0, 0, 0, []), (97, 3, .getfield 0, 12, 29, 2, 0, [1068]), (100, 1, .iload 0, 1, 0, 0, 0, []), (101, 2, .iload 0, 4, 0, 0, 0, []), (103, 1, .iastore, 0, 0, 0, 0, []), (104, 1, .iconst 0, 0, 0, 0, 0, []),
  (105, 2, .istore 0, 5, 0, 0, 0, []), (107, 1, .iconst 0, 0, 0, 0, 0, []), (108, 2, .istore 0, 6, 0, 0, 0, []), (110, 2, .iload 0, 6, 0, 0, 0, []), (112, 2, .iconst 0, 0, 0, 0, 48, []), (114, 3, .if_icmp .ge 0, 155, 0, 0, 0, []),
  (117, 2, .iload 0, 5, 0, 0, 0, []), (119, 1, .aload 0, 0, 0, 0, 0, []), (120, 3, .getfield 0, 12, 57, 2, 0, [1096]), (123, 2, .iload 0, 6, 0, 0, 0, []), (125, 1, .baload, 0, 0, 0, 0, []), (126, 3, .ifCond .eq 0, 145, 0, 0, 0, []),
  (129, 1, .aload 0, 0, 0, 0, 0, []), (130, 3, .getfield 0, 12, 38, 2, 0, [1077]), (133, 2, .iload 0, 6, 0, 0, 0, []), (135, 1, .iaload, 0, 0, 0, 0, []), (136, 2, .iconst 0, 0, 0, 0, (-9), []), (138, 3, .if_icmp .ne 0, 145, 0, 0, 0, []),
  (141, 1, .iconst 0, 0, 0, 0, 1, []), (142, 3, .goto 0, 146, 0, 0, 0, []), (145, 1, .iconst 0, 0, 0, 0, 0, []), (146, 1, .iadd, 0, 0, 0, 0, []), (147, 2, .istore 0, 5, 0, 0, 0, []), (149, 3, .iinc 0 0, 6, 0, 0, 1, []),
  (152, 3, .goto 0, 110, 0, 0, 0, []), (155, 2, .iload 0, 5, 0, 0, 0, []), (157, 1, .ireturn, 0, 0, 0, 0, [])
  ]
def mc_X12_own : List mv_E := [
  (0, 1, .aload 0, 0, 0, 0, 0, []), (1, 1, .iload 0, 1, 0, 0, 0, []), (2, 3, .invokevirtual 0, 142, 2, 12, 1, [1274, 1276, 30, 86]), (5, 1, .istore 0, 3, 0, 0, 0, []), (6, 1, .iload 0, 3, 0, 0, 0, []), (7, 3, .ifCond .ge 0, 16, 0, 0, 0, []),
  (10, 1, .aload 0, 0, 0, 0, 0, []), (11, 1, .iconst 0, 0, 0, 0, (-1), []), (12, 3, .invokevirtual 0, 133, 2, 12, 1, [1244, 1246, 26, 86]), (15, 1, .ireturn, 0, 0, 0, 0, []), (16, 1, .iload 0, 2, 0, 0, 0, []), (17, 1, .i2l, 0, 0, 0, 0, []),
  (18, 3, .lconst 0, 0, 0, 0, (-1), [1558]), (21, 3, .lconst 0, 0, 0, 0, 3, [1289]), (24, 3, .invokestatic 0, 136, 3, 1, 1, [1241, 1242, 86]), (27, 2, .istore 0, 4, 0, 0, 0, []), (29, 2, .iload 0, 4, 0, 0, 0, []), (31, 3, .ifCond .eq 0, 41, 0, 0, 0, []),
  (34, 1, .aload 0, 0, 0, 0, 0, []), (35, 2, .iload 0, 4, 0, 0, 0, []), (37, 3, .invokevirtual 0, 133, 2, 12, 1, [1244, 1246, 26, 86]), (40, 1, .ireturn, 0, 0, 0, 0, []), (41, 1, .iload 0, 2, 0, 0, 0, []), (42, 3, .ifCond .ge 0, 50, 0, 0, 0, []),
  (45, 2, .iconst 0, 0, 0, 0, (-9), []), (47, 3, .goto 0, 51, 0, 0, 0, []), (50, 1, .iload 0, 2, 0, 0, 0, []), (51, 2, .istore 0, 5, 0, 0, 0, []), (53, 1, .aload 0, 0, 0, 0, 0, []), (54, 3, .getfield 0, 12, 4, 2, 0, [1043]),
  (57, 1, .iload 0, 3, 0, 0, 0, []), (58, 1, .iaload, 0, 0, 0, 0, []), (59, 2, .iload 0, 5, 0, 0, 0, []), (61, 3, .if_icmp .ne 0, 66, 0, 0, 0, []), (64, 1, .iconst 0, 0, 0, 0, 0, []), (65, 1, .ireturn, 0, 0, 0, 0, []),
  (66, 1, .aload 0, 0, 0, 0, 0, []), (67, 3, .getfield 0, 12, 4, 2, 0, [1043]), (70, 1, .iload 0, 3, 0, 0, 0, []), (71, 2, .iload 0, 5, 0, 0, 0, []), (73, 1, .iastore, 0, 0, 0, 0, []), (74, 1, .iconst 0, 0, 0, 0, 1, []),
  (75, 1, .ireturn, 0, 0, 0, 0, [])
  ]
def mc_X12_held : List mv_E := [
  (0, 1, .aload 0, 0, 0, 0, 0, []), (1, 1, .iload 0, 1, 0, 0, 0, []), (2, 3, .invokevirtual 0, 142, 2, 12, 1, [1274, 1276, 30, 86]), (5, 1, .istore 0, 3, 0, 0, 0, []), (6, 1, .iload 0, 3, 0, 0, 0, []), (7, 3, .ifCond .ge 0, 16, 0, 0, 0, []),
  (10, 1, .aload 0, 0, 0, 0, 0, []), (11, 1, .iconst 0, 0, 0, 0, (-1), []), (12, 3, .invokevirtual 0, 133, 2, 12, 1, [1244, 1246, 26, 86]), (15, 1, .ireturn, 0, 0, 0, 0, []), (16, 1, .aload 0, 0, 0, 0, 0, []), (17, 3, .getfield 0, 12, 6, 2, 0, [1045]),
  (20, 1, .iload 0, 3, 0, 0, 0, []), (21, 1, .baload, 0, 0, 0, 0, []), (22, 1, .iload 0, 2, 0, 0, 0, []), (23, 3, .if_icmp .ne 0, 28, 0, 0, 0, []), (26, 1, .iconst 0, 0, 0, 0, 0, []), (27, 1, .ireturn, 0, 0, 0, 0, []),
  (28, 1, .aload 0, 0, 0, 0, 0, []), (29, 3, .getfield 0, 12, 6, 2, 0, [1045]), (32, 1, .iload 0, 3, 0, 0, 0, []), (33, 1, .iload 0, 2, 0, 0, 0, []), (34, 1, .bastore, 0, 0, 0, 0, []), (35, 1, .iconst 0, 0, 0, 0, 1, []),
  (36, 1, .ireturn, 0, 0, 0, 0, [])
  ]
def mc_X12_rentsBehind : List mv_E := [
  (0, 1, .iconst 0, 0, 0, 0, 0, []), (1, 1, .istore 0, 2, 0, 0, 0, []), (2, 1, .iload 0, 2, 0, 0, 0, []), (3, 2, .iconst 0, 0, 0, 0, 18, []), (5, 3, .if_icmp .ge 0, 26, 0, 0, 0, []), (8, 1, .aload 0, 0, 0, 0, 0, []),
  (9, 3, .getfield 0, 12, 58, 2, 0, [1097]), (12, 1, .iload 0, 2, 0, 0, 0, []), (13, 1, .aload 0, 0, 0, 0, 0, []), (14, 3, .getfield 0, 12, 32, 2, 0, [1071]), (17, 1, .iload 0, 2, 0, 0, 0, []), (18, 1, .iaload, 0, 0, 0, 0, []),
  (19, 1, .iastore, 0, 0, 0, 0, []), (20, 3, .iinc 0 0, 2, 0, 0, 1, []), (23, 3, .goto 0, 2, 0, 0, 0, []), (26, 1, .aload 0, 0, 0, 0, 0, []), (27, 3, .invokevirtual 0, 187, 1, 12, 1, [1463, 1465, 57, 86]), (30, 1, .pop, 0, 0, 0, 0, []),
  (31, 1, .aload 0, 0, 0, 0, 0, []), (32, 3, .invokevirtual 0, 173, 1, 12, 0, [1402, 1404, 48, 86]), (35, 1, .iconst 0, 0, 0, 0, 0, []), (36, 1, .istore 0, 2, 0, 0, 0, []), (37, 1, .iload 0, 2, 0, 0, 0, []), (38, 2, .iconst 0, 0, 0, 0, 18, []),
  (40, 3, .if_icmp .ge 0, 61, 0, 0, 0, []), (43, 1, .aload 0, 0, 0, 0, 0, []), (44, 3, .getfield 0, 12, 32, 2, 0, [1071]), (47, 1, .iload 0, 2, 0, 0, 0, []), (48, 1, .aload 0, 0, 0, 0, 0, []), (49, 3, .getfield 0, 12, 58, 2, 0, [1097]),
  (52, 1, .iload 0, 2, 0, 0, 0, []), (53, 1, .iaload, 0, 0, 0, 0, []), (54, 1, .iastore, 0, 0, 0, 0, []), (55, 3, .iinc 0 0, 2, 0, 0, 1, []), (58, 3, .goto 0, 37, 0, 0, 0, []), (61, 1, .lconst 0, 0, 0, 0, 0, []),
  (62, 1, .lstore 0, 2, 0, 0, 0, []), (63, 1, .iconst 0, 0, 0, 0, 0, []), (64, 2, .istore 0, 4, 0, 0, 0, []), (66, 2, .iload 0, 4, 0, 0, 0, []), (68, 2, .iconst 0, 0, 0, 0, 48, []), (70, 3, .if_icmp .ge 0, 103, 0, 0, 0, []),
  (73, 1, .lload 0, 2, 0, 0, 0, []), (74, 1, .aload 0, 0, 0, 0, 0, []), (75, 3, .getfield 0, 12, 4, 2, 0, [1043]), (78, 2, .iload 0, 4, 0, 0, 0, []), (80, 1, .iaload, 0, 0, 0, 0, []), (81, 1, .iload 0, 1, 0, 0, 0, []),
  (82, 3, .if_icmp .ne 0, 94, 0, 0, 0, []), (85, 1, .aload 0, 0, 0, 0, 0, []), (86, 2, .iload 0, 4, 0, 0, 0, []), (88, 3, .invokevirtual 0, 175, 2, 12, 2, [1418, 1420, 51, 86]), (91, 3, .goto 0, 95, 0, 0, 0, []), (94, 1, .lconst 0, 0, 0, 0, 0, []),
  (95, 1, .ladd, 0, 0, 0, 0, []), (96, 1, .lstore 0, 2, 0, 0, 0, []), (97, 3, .iinc 0 0, 4, 0, 0, 1, []), (100, 3, .goto 0, 66, 0, 0, 0, []), (103, 1, .lload 0, 2, 0, 0, 0, []), (104, 1, .lreturn, 0, 0, 0, 0, [])
  ]
def mc_X12_hold : List mv_E := [
  (0, 1, .iload 0, 1, 0, 0, 0, []), (1, 1, .i2l, 0, 0, 0, 0, []), (2, 1, .lconst 0, 0, 0, 0, 0, []), (3, 3, .lconst 0, 0, 0, 0, 3, [1289]), (6, 3, .invokestatic 0, 136, 3, 1, 1, [1241, 1242, 86]), (9, 1, .istore 0, 2, 0, 0, 0, []),
  (10, 1, .iload 0, 2, 0, 0, 0, []), (11, 3, .ifCond .eq 0, 20, 0, 0, 0, []), (14, 1, .aload 0, 0, 0, 0, 0, []), (15, 1, .iload 0, 2, 0, 0, 0, []), (16, 3, .invokevirtual 0, 133, 2, 12, 1, [1244, 1246, 26, 86]), (19, 1, .ireturn, 0, 0, 0, 0, []),
  (20, 1, .aload 0, 0, 0, 0, 0, []), (21, 3, .invokevirtual 0, 173, 1, 12, 0, [1402, 1404, 48, 86]), (24, 1, .iconst 0, 0, 0, 0, 0, []), (25, 1, .istore 0, 3, 0, 0, 0, []), (26, 1, .iload 0, 3, 0, 0, 0, []), (27, 2, .iconst 0, 0, 0, 0, 48, []),
  (29, 3, .if_icmp .ge 0, 68, 0, 0, 0, []), (32, 1, .aload 0, 0, 0, 0, 0, []), (33, 3, .getfield 0, 12, 57, 2, 0, [1096]), (36, 1, .iload 0, 3, 0, 0, 0, []), (37, 1, .aload 0, 0, 0, 0, 0, []), (38, 3, .getfield 0, 12, 38, 2, 0, [1077]),
  (41, 1, .iload 0, 3, 0, 0, 0, []), (42, 1, .iaload, 0, 0, 0, 0, []), (43, 3, .ifCond .lt 0, 60, 0, 0, 0, []), (46, 1, .aload 0, 0, 0, 0, 0, []), (47, 3, .getfield 0, 12, 4, 2, 0, [1043]), (50, 1, .iload 0, 3, 0, 0, 0, []),
  (51, 1, .iaload, 0, 0, 0, 0, []), (52, 1, .iload 0, 1, 0, 0, 0, []), (53, 3, .if_icmp .ne 0, 60, 0, 0, 0, []), (56, 1, .iconst 0, 0, 0, 0, 1, []), (57, 3, .goto 0, 61, 0, 0, 0, []), (60, 1, .iconst 0, 0, 0, 0, 0, []),
  (61, 1, .bastore, 0, 0, 0, 0, []), (62, 3, .iinc 0 0, 3, 0, 0, 1, []), (65, 3, .goto 0, 26, 0, 0, 0, []), (68, 1, .aload 0, 0, 0, 0, 0, []), (69, 1, .iload 0, 1, 0, 0, 0, []), (70, 3, .invokevirtual 0, 212, 2, 12, 2, [1567, 1569, 69, 86]),
  (73, 1, .lstore 0, 3, 0, 0, 0, []), (74, 2, .iconst 0, 0, 0, 0, (-9), []), (76, 2, .istore 0, 5, 0, 0, 0, []), (78, 1, .iconst 0, 0, 0, 0, 0, []), (79, 2, .istore 0, 6, 0, 0, 0, []), (81, 2, .iload 0, 6, 0, 0, 0, []),
  (83, 2, .iconst 0, 0, 0, 0, 80, []), (85, 3, .if_icmp .ge 0, 160, 0, 0, 0, []), (88, 1, .aload 0, 0, 0, 0, 0, []), (89, 2, .iload 0, 6, 0, 0, 0, []), (91, 3, .invokevirtual 0, 142, 2, 12, 1, [1274, 1276, 30, 86]), (94, 2, .istore 0, 7, 0, 0, 0, []),
  (96, 2, .iload 0, 7, 0, 0, 0, []), (98, 3, .ifCond .lt 0, 154, 0, 0, 0, []), (101, 1, .aload 0, 0, 0, 0, 0, []), (102, 3, .getfield 0, 12, 57, 2, 0, [1096]), (105, 2, .iload 0, 7, 0, 0, 0, []), (107, 1, .baload, 0, 0, 0, 0, []),
  (108, 3, .ifCond .ne 0, 114, 0, 0, 0, []), (111, 3, .goto 0, 154, 0, 0, 0, []), (114, 1, .aload 0, 0, 0, 0, 0, []), (115, 3, .getfield 0, 12, 6, 2, 0, [1045]), (118, 2, .iload 0, 7, 0, 0, 0, []), (120, 1, .iconst 0, 0, 0, 0, 1, []),
  (121, 1, .bastore, 0, 0, 0, 0, []), (122, 1, .aload 0, 0, 0, 0, 0, []), (123, 1, .iload 0, 1, 0, 0, 0, []), (124, 3, .invokevirtual 0, 212, 2, 12, 2, [1567, 1569, 69, 86]), (127, 2, .lstore 0, 8, 0, 0, 0, []), (129, 1, .aload 0, 0, 0, 0, 0, []),
  (130, 3, .getfield 0, 12, 6, 2, 0, [1045]), (133, 2, .iload 0, 7, 0, 0, 0, []), (135, 1, .iconst 0, 0, 0, 0, 0, []), (136, 1, .bastore, 0, 0, 0, 0, []), (137, 2, .lload 0, 8, 0, 0, 0, []), (139, 1, .lload 0, 3, 0, 0, 0, []),
  (140, 1, .lcmp, 0, 0, 0, 0, []), (141, 3, .ifCond .gt 0, 147, 0, 0, 0, []), (144, 3, .goto 0, 154, 0, 0, 0, []), (147, 2, .lload 0, 8, 0, 0, 0, []), (149, 1, .lstore 0, 3, 0, 0, 0, []), (150, 2, .iload 0, 6, 0, 0, 0, []),
  (152, 2, .istore 0, 5, 0, 0, 0, []), (154, 3, .iinc 0 0, 6, 0, 0, 1, []), (157, 3, .goto 0, 81, 0, 0, 0, []), (160, 2, .iload 0, 5, 0, 0, 0, []), (162, 1, .ireturn, 0, 0, 0, 0, [])
  ]
def mc_X12_put : List mv_E := [
  (0, 1, .iload 0, 1, 0, 0, 0, []), (1, 1, .i2l, 0, 0, 0, 0, []), (2, 3, .lconst 0, 0, 0, 0, (-1), [1558]), (5, 3, .lconst 0, 0, 0, 0, 99, [1302]), (8, 3, .invokestatic 0, 136, 3, 1, 1, [1241, 1242, 86]), (11, 1, .istore 0, 2, 0, 0, 0, []),
  (12, 1, .iload 0, 2, 0, 0, 0, []), (13, 3, .ifCond .ne 0, 28, 0, 0, 0, []), (16, 1, .aload 0, 0, 0, 0, 0, []), (17, 3, .getfield 0, 12, 60, 0, 0, [1099]), (20, 2, .iconst 0, 0, 0, 0, 48, []), (22, 3, .if_icmp .ne 0, 28, 0, 0, 0, []),
  (25, 2, .iconst 0, 0, 0, 0, (-6), []), (27, 1, .istore 0, 2, 0, 0, 0, []), (28, 1, .iload 0, 2, 0, 0, 0, []), (29, 3, .ifCond .eq 0, 38, 0, 0, 0, []), (32, 1, .aload 0, 0, 0, 0, 0, []), (33, 1, .iload 0, 2, 0, 0, 0, []),
  (34, 3, .invokevirtual 0, 133, 2, 12, 1, [1244, 1246, 26, 86]), (37, 1, .ireturn, 0, 0, 0, 0, []), (38, 1, .aload 0, 0, 0, 0, 0, []), (39, 3, .getfield 0, 12, 59, 2, 0, [1098]), (42, 1, .aload 0, 0, 0, 0, 0, []), (43, 3, .getfield 0, 12, 60, 0, 0, [1099]),
  (46, 1, .iload 0, 1, 0, 0, 0, []), (47, 1, .iastore, 0, 0, 0, 0, []), (48, 1, .aload 0, 0, 0, 0, 0, []), (49, 1, .dup, 0, 0, 0, 0, []), (50, 3, .getfield 0, 12, 60, 0, 0, [1099]), (53, 1, .iconst 0, 0, 0, 0, 1, []),
  (54, 1, .iadd, 0, 0, 0, 0, []), (55, 3, .putfield 0, 12, 60, 0, 0, [1099]), (58, 1, .aload 0, 0, 0, 0, 0, []), (59, 3, .getfield 0, 12, 60, 0, 0, [1099]), (62, 1, .ireturn, 0, 0, 0, 0, [])
  ]
def mc_X12_judge : List mv_E := [
  (0, 1, .aload 0, 0, 0, 0, 0, []), (1, 3, .invokevirtual 0, 173, 1, 12, 0, [1402, 1404, 48, 86]), (4, 1, .aload 0, 0, 0, 0, 0, []), (5, 3, .getfield 0, 12, 60, 0, 0, [1099]), (8, 1, .istore 0, 1, 0, 0, 0, []), (9, 1, .aload 0, 0, 0, 0, 0, []),
  (10, 1, .iconst 0, 0, 0, 0, 0, []), (11, 3, .putfield 0, 12, 60, 0, 0, [1099]), (14, 1, .iconst 0, 0, 0, 0, 0, []), (15, 1, .istore 0, 2, 0, 0, 0, []), (16, 1, .iload 0, 2, 0, 0, 0, []), (17, 1, .aload 0, 0, 0, 0, 0, []),
  (18, 3, .getfield 0, 12, 8, 0, 0, [1047]), (21, 1, .aload 0, 0, 0, 0, 0, []), (22, 3, .getfield 0, 12, 9, 0, 0, [1048]), (25, 1, .imul, 0, 0, 0, 0, []), (26, 3, .if_icmp .ge 0, 96, 0, 0, 0, []), (29, 2, .iconst 0, 0, 0, 0, 8, []),
  (31, 1, .iload 0, 2, 0, 0, 0, []), (32, 1, .aload 0, 0, 0, 0, 0, []), (33, 3, .getfield 0, 12, 8, 0, 0, [1047]), (36, 1, .idiv, 0, 0, 0, 0, []), (37, 1, .imul, 0, 0, 0, 0, []), (38, 1, .iload 0, 2, 0, 0, 0, []),
  (39, 1, .aload 0, 0, 0, 0, 0, []), (40, 3, .getfield 0, 12, 8, 0, 0, [1047]), (43, 1, .irem, 0, 0, 0, 0, []), (44, 1, .iadd, 0, 0, 0, 0, []), (45, 1, .istore 0, 3, 0, 0, 0, []), (46, 1, .aload 0, 0, 0, 0, 0, []),
  (47, 3, .getfield 0, 12, 38, 2, 0, [1077]), (50, 1, .iload 0, 3, 0, 0, 0, []), (51, 1, .iaload, 0, 0, 0, 0, []), (52, 2, .iconst 0, 0, 0, 0, (-9), []), (54, 3, .if_icmp .ne 0, 61, 0, 0, 0, []), (57, 1, .iconst 0, 0, 0, 0, (-1), []),
  (58, 3, .goto 0, 67, 0, 0, 0, []), (61, 1, .aload 0, 0, 0, 0, 0, []), (62, 3, .getfield 0, 12, 38, 2, 0, [1077]), (65, 1, .iload 0, 3, 0, 0, 0, []), (66, 1, .iaload, 0, 0, 0, 0, []), (67, 2, .istore 0, 4, 0, 0, 0, []),
  (69, 1, .iload 0, 2, 0, 0, 0, []), (70, 1, .iload 0, 1, 0, 0, 0, []), (71, 3, .if_icmp .ge 0, 85, 0, 0, 0, []), (74, 1, .aload 0, 0, 0, 0, 0, []), (75, 3, .getfield 0, 12, 59, 2, 0, [1098]), (78, 1, .iload 0, 2, 0, 0, 0, []),
  (79, 1, .iaload, 0, 0, 0, 0, []), (80, 2, .iload 0, 4, 0, 0, 0, []), (82, 3, .if_icmp .eq 0, 90, 0, 0, 0, []), (85, 1, .iload 0, 3, 0, 0, 0, []), (86, 3, .invokestatic 0, 144, 1, 1, 1, [1579, 1580, 86]), (89, 1, .ireturn, 0, 0, 0, 0, []),
  (90, 3, .iinc 0 0, 2, 0, 0, 1, []), (93, 3, .goto 0, 16, 0, 0, 0, []), (96, 1, .iload 0, 1, 0, 0, 0, []), (97, 1, .aload 0, 0, 0, 0, 0, []), (98, 3, .getfield 0, 12, 8, 0, 0, [1047]), (101, 1, .aload 0, 0, 0, 0, 0, []),
  (102, 3, .getfield 0, 12, 9, 0, 0, [1048]), (105, 1, .imul, 0, 0, 0, 0, []), (106, 3, .if_icmp .le 0, 114, 0, 0, 0, []), (109, 2, .iconst 0, 0, 0, 0, 99, []), (111, 3, .goto 0, 116, 0, 0, 0, []), (114, 2, .iconst 0, 0, 0, 0, (-9), []),
  (116, 1, .ireturn, 0, 0, 0, 0, [])
  ]
def mc_X12_passes : List mv_E := [
  (0, 1, .iconst 0, 0, 0, 0, 0, []), (1, 1, .istore 0, 2, 0, 0, 0, []), (2, 1, .iload 0, 2, 0, 0, 0, []), (3, 1, .aload 0, 1, 0, 0, 0, []), (4, 1, .arraylength, 0, 0, 0, 0, []), (5, 3, .if_icmp .ge 0, 58, 0, 0, 0, []),
  (8, 1, .aload 0, 0, 0, 0, 0, []), (9, 3, .getfield 0, 12, 63, 1, 0, [1102]), (12, 3, .ifCond .eq 0, 30, 0, 0, 0, []), (15, 1, .aload 0, 0, 0, 0, 0, []), (16, 3, .getfield 0, 12, 61, 2, 0, [1100]), (19, 1, .aload 0, 0, 0, 0, 0, []),
  (20, 3, .getfield 0, 12, 64, 0, 0, [1103]), (23, 1, .aload 0, 1, 0, 0, 0, []), (24, 1, .iload 0, 2, 0, 0, 0, []), (25, 1, .iaload, 0, 0, 0, 0, []), (26, 1, .iastore, 0, 0, 0, 0, []), (27, 3, .goto 0, 42, 0, 0, 0, []),
  (30, 1, .aload 0, 1, 0, 0, 0, []), (31, 1, .iload 0, 2, 0, 0, 0, []), (32, 1, .aload 0, 0, 0, 0, 0, []), (33, 3, .getfield 0, 12, 61, 2, 0, [1100]), (36, 1, .aload 0, 0, 0, 0, 0, []), (37, 3, .getfield 0, 12, 64, 0, 0, [1103]),
  (40, 1, .iaload, 0, 0, 0, 0, []), (41, 1, .iastore, 0, 0, 0, 0, []), (42, 1, .aload 0, 0, 0, 0, 0, []), (43, 1, .dup, 0, 0, 0, 0, []), (44, 3, .getfield 0, 12, 64, 0, 0, [1103]), (47, 1, .iconst 0, 0, 0, 0, 1, []),
  (48, 1, .iadd, 0, 0, 0, 0, []), (49, 3, .putfield 0, 12, 64, 0, 0, [1103]), (52, 3, .iinc 0 0, 2, 0, 0, 1, []), (55, 3, .goto 0, 2, 0, 0, 0, []), (58, 1, .return_, 0, 0, 0, 0, [])
  ]
def mc_X12_passOne : List mv_E := [
  (0, 1, .aload 0, 0, 0, 0, 0, []), (1, 3, .getfield 0, 12, 63, 1, 0, [1102]), (4, 3, .ifCond .eq 0, 11, 0, 0, 0, []), (7, 1, .iload 0, 1, 0, 0, 0, []), (8, 3, .goto 0, 20, 0, 0, 0, []), (11, 1, .aload 0, 0, 0, 0, 0, []),
  (12, 3, .getfield 0, 12, 61, 2, 0, [1100]), (15, 1, .aload 0, 0, 0, 0, 0, []), (16, 3, .getfield 0, 12, 64, 0, 0, [1103]), (19, 1, .iaload, 0, 0, 0, 0, []), (20, 1, .istore 0, 2, 0, 0, 0, []), (21, 1, .aload 0, 0, 0, 0, 0, []),
  (22, 3, .getfield 0, 12, 63, 1, 0, [1102]), (25, 3, .ifCond .eq 0, 38, 0, 0, 0, []), (28, 1, .aload 0, 0, 0, 0, 0, []), (29, 3, .getfield 0, 12, 61, 2, 0, [1100]), (32, 1, .aload 0, 0, 0, 0, 0, []), (33, 3, .getfield 0, 12, 64, 0, 0, [1103]),
  (36, 1, .iload 0, 1, 0, 0, 0, []), (37, 1, .iastore, 0, 0, 0, 0, []), (38, 1, .aload 0, 0, 0, 0, 0, []), (39, 1, .dup, 0, 0, 0, 0, []), (40, 3, .getfield 0, 12, 64, 0, 0, [1103]), (43, 1, .iconst 0, 0, 0, 0, 1, []),
  (44, 1, .iadd, 0, 0, 0, 0, []), (45, 3, .putfield 0, 12, 64, 0, 0, [1103]), (48, 1, .iload 0, 2, 0, 0, 0, []), (49, 1, .ireturn, 0, 0, 0, 0, [])
  ]
def mc_X12_passesAll : List mv_E := [
  (0, 1, .aload 0, 0, 0, 0, 0, []), (1, 1, .iconst 0, 0, 0, 0, 0, []), (2, 3, .putfield 0, 12, 64, 0, 0, [1103]), (5, 1, .aload 0, 0, 0, 0, 0, []), (6, 1, .aload 0, 0, 0, 0, 0, []), (7, 3, .getfield 0, 12, 2, 2, 0, [1041]),
  (10, 3, .invokevirtual 0, 216, 2, 12, 0, [1590, 1592, 71, 86]), (13, 1, .aload 0, 0, 0, 0, 0, []), (14, 1, .aload 0, 0, 0, 0, 0, []), (15, 3, .getfield 0, 12, 3, 2, 0, [1042]), (18, 3, .invokevirtual 0, 216, 2, 12, 0, [1590, 1592, 71, 86]), (21, 1, .aload 0, 0, 0, 0, 0, []),
  (22, 1, .aload 0, 0, 0, 0, 0, []), (23, 3, .getfield 0, 12, 4, 2, 0, [1043]), (26, 3, .invokevirtual 0, 216, 2, 12, 0, [1590, 1592, 71, 86]), (29, 1, .aload 0, 0, 0, 0, 0, []), (30, 1, .aload 0, 0, 0, 0, 0, []), (31, 3, .getfield 0, 12, 13, 2, 0, [1052]),
  (34, 3, .invokevirtual 0, 216, 2, 12, 0, [1590, 1592, 71, 86]), (37, 1, .aload 0, 0, 0, 0, 0, []), (38, 1, .aload 0, 0, 0, 0, 0, []), (39, 3, .getfield 0, 12, 14, 2, 0, [1053]), (42, 3, .invokevirtual 0, 216, 2, 12, 0, [1590, 1592, 71, 86]), (45, 1, .aload 0, 0, 0, 0, 0, []),
  (46, 1, .aload 0, 0, 0, 0, 0, []), (47, 3, .getfield 0, 12, 15, 2, 0, [1054]), (50, 3, .invokevirtual 0, 216, 2, 12, 0, [1590, 1592, 71, 86]), (53, 1, .aload 0, 0, 0, 0, 0, []), (54, 1, .aload 0, 0, 0, 0, 0, []), (55, 3, .getfield 0, 12, 16, 2, 0, [1055]),
  (58, 3, .invokevirtual 0, 216, 2, 12, 0, [1590, 1592, 71, 86]), (61, 1, .aload 0, 0, 0, 0, 0, []), (62, 1, .aload 0, 0, 0, 0, 0, []), (63, 3, .getfield 0, 12, 21, 2, 0, [1060]), (66, 3, .invokevirtual 0, 216, 2, 12, 0, [1590, 1592, 71, 86]), (69, 1, .aload 0, 0, 0, 0, 0, []),
  (70, 1, .aload 0, 0, 0, 0, 0, []), (71, 3, .getfield 0, 12, 24, 2, 0, [1063]), (74, 3, .invokevirtual 0, 216, 2, 12, 0, [1590, 1592, 71, 86]), (77, 1, .aload 0, 0, 0, 0, 0, []), (78, 1, .aload 0, 0, 0, 0, 0, []), (79, 3, .getfield 0, 12, 25, 2, 0, [1064]),
  (82, 3, .invokevirtual 0, 216, 2, 12, 0, [1590, 1592, 71, 86]), (85, 1, .aload 0, 0, 0, 0, 0, []), (86, 1, .aload 0, 0, 0, 0, 0, []), (87, 3, .getfield 0, 12, 26, 2, 0, [1065]), (90, 3, .invokevirtual 0, 216, 2, 12, 0, [1590, 1592, 71, 86]), (93, 1, .aload 0, 0, 0, 0, 0, []),
  (94, 1, .aload 0, 0, 0, 0, 0, []), (95, 3, .getfield 0, 12, 27, 2, 0, [1066]), (98, 3, .invokevirtual 0, 216, 2, 12, 0, [1590, 1592, 71, 86]), (101, 1, .aload 0, 0, 0, 0, 0, []), (102, 1, .aload 0, 0, 0, 0, 0, []), (103, 3, .getfield 0, 12, 28, 2, 0, [1067]),
  (106, 3, .invokevirtual 0, 216, 2, 12, 0, [1590, 1592, 71, 86]), (109, 1, .aload 0, 0, 0, 0, 0, []), (110, 1, .aload 0, 0, 0, 0, 0, []), (111, 3, .getfield 0, 12, 29, 2, 0, [1068]), (114, 3, .invokevirtual 0, 216, 2, 12, 0, [1590, 1592, 71, 86]), (117, 1, .aload 0, 0, 0, 0, 0, []),
  (118, 1, .aload 0, 0, 0, 0, 0, []), (119, 3, .getfield 0, 12, 30, 2, 0, [1069]), (122, 3, .invokevirtual 0, 216, 2, 12, 0, [1590, 1592, 71, 86]), (125, 1, .aload 0, 0, 0, 0, 0, []), (126, 1, .aload 0, 0, 0, 0, 0, []), (127, 3, .getfield 0, 12, 31, 2, 0, [1070]),
  (130, 3, .invokevirtual 0, 216, 2, 12, 0, [1590, 1592, 71, 86]), (133, 1, .aload 0, 0, 0, 0, 0, []), (134, 1, .aload 0, 0, 0, 0, 0, []), (135, 3, .getfield 0, 12, 32, 2, 0, [1071]), (138, 3, .invokevirtual 0, 216, 2, 12, 0, [1590, 1592, 71, 86]), (141, 1, .aload 0, 0, 0, 0, 0, []),
  (142, 1, .aload 0, 0, 0, 0, 0, []), (143, 3, .getfield 0, 12, 33, 2, 0, [1072]), (146, 3, .invokevirtual 0, 216, 2, 12, 0, [1590, 1592, 71, 86]), (149, 1, .aload 0, 0, 0, 0, 0, []), (150, 1, .aload 0, 0, 0, 0, 0, []), (151, 3, .getfield 0, 12, 34, 2, 0, [1073]),
  (154, 3, .invokevirtual 0, 216, 2, 12, 0, [1590, 1592, 71, 86]), (157, 1, .aload 0, 0, 0, 0, 0, []), (158, 1, .aload 0, 0, 0, 0, 0, []), (159, 3, .getfield 0, 12, 35, 2, 0, [1074]), (162, 3, .invokevirtual 0, 216, 2, 12, 0, [1590, 1592, 71, 86]), (165, 1, .aload 0, 0, 0, 0, 0, []),
  (166, 1, .aload 0, 0, 0, 0, 0, []), (167, 3, .getfield 0, 12, 48, 2, 0, [1087]), (170, 3, .invokevirtual 0, 216, 2, 12, 0, [1590, 1592, 71, 86]), (173, 1, .aload 0, 0, 0, 0, 0, []), (174, 1, .aload 0, 0, 0, 0, 0, []), (175, 3, .getfield 0, 12, 49, 2, 0, [1088]),
  (178, 3, .invokevirtual 0, 216, 2, 12, 0, [1590, 1592, 71, 86]), (181, 1, .aload 0, 0, 0, 0, 0, []), (182, 1, .aload 0, 0, 0, 0, 0, []), (183, 3, .getfield 0, 12, 50, 2, 0, [1089]), (186, 3, .invokevirtual 0, 216, 2, 12, 0, [1590, 1592, 71, 86]), (189, 1, .aload 0, 0, 0, 0, 0, []),
  (190, 1, .aload 0, 0, 0, 0, 0, []), (191, 3, .getfield 0, 12, 51, 2, 0, [1090]), (194, 3, .invokevirtual 0, 216, 2, 12, 0, [1590, 1592, 71, 86]), (197, 1, .aload 0, 0, 0, 0, 0, []), (198, 1, .aload 0, 0, 0, 0, 0, []), (199, 1, .aload 0, 0, 0, 0, 0, []),
  (200, 3, .getfield 0, 12, 8, 0, 0, [1047]), (203, 3, .invokevirtual 0, 217, 2, 12, 1, [1594, 1596, 72, 86]), (206, 3, .putfield 0, 12, 8, 0, 0, [1047]), (209, 1, .aload 0, 0, 0, 0, 0, []), (210, 1, .aload 0, 0, 0, 0, 0, []), (211, 1, .aload 0, 0, 0, 0, 0, []),
  (212, 3, .getfield 0, 12, 9, 0, 0, [1048]), (215, 3, .invokevirtual 0, 217, 2, 12, 1, [1594, 1596, 72, 86]), (218, 3, .putfield 0, 12, 9, 0, 0, [1048]), (221, 1, .aload 0, 0, 0, 0, 0, []), (222, 1, .aload 0, 0, 0, 0, 0, []), (223, 1, .aload 0, 0, 0, 0, 0, []),
  (224, 3, .getfield 0, 12, 17, 0, 0, [1056]), (227, 3, .invokevirtual 0, 217, 2, 12, 1, [1594, 1596, 72, 86]), (230, 3, .putfield 0, 12, 17, 0, 0, [1056]), (233, 1, .aload 0, 0, 0, 0, 0, []), (234, 1, .aload 0, 0, 0, 0, 0, []), (235, 1, .aload 0, 0, 0, 0, 0, []),
  (236, 3, .getfield 0, 12, 23, 0, 0, [1062]), (239, 3, .invokevirtual 0, 217, 2, 12, 1, [1594, 1596, 72, 86]), (242, 3, .putfield 0, 12, 23, 0, 0, [1062]), (245, 1, .aload 0, 0, 0, 0, 0, []), (246, 1, .aload 0, 0, 0, 0, 0, []), (247, 1, .aload 0, 0, 0, 0, 0, []),
  (248, 3, .getfield 0, 12, 36, 0, 0, [1075]), (251, 3, .invokevirtual 0, 217, 2, 12, 1, [1594, 1596, 72, 86]), (254, 3, .putfield 0, 12, 36, 0, 0, [1075]), (257, 1, .aload 0, 0, 0, 0, 0, []), (258, 1, .aload 0, 0, 0, 0, 0, []), (259, 1, .aload 0, 0, 0, 0, 0, []),
  (260, 3, .getfield 0, 12, 37, 0, 0, [1076]), (263, 3, .invokevirtual 0, 217, 2, 12, 1, [1594, 1596, 72, 86]), (266, 3, .putfield 0, 12, 37, 0, 0, [1076]), (269, 1, .aload 0, 0, 0, 0, 0, []), (270, 1, .aload 0, 0, 0, 0, 0, []), (271, 1, .aload 0, 0, 0, 0, 0, []),
  (272, 3, .getfield 0, 12, 55, 0, 0, [1094]), (275, 3, .invokevirtual 0, 217, 2, 12, 1, [1594, 1596, 72, 86]), (278, 3, .putfield 0, 12, 55, 0, 0, [1094]), (281, 1, .iconst 0, 0, 0, 0, 0, []), (282, 1, .istore 0, 1, 0, 0, 0, []), (283, 1, .iload 0, 1, 0, 0, 0, []),
  (284, 2, .iconst 0, 0, 0, 0, 48, []), (286, 3, .if_icmp .ge 0, 328, 0, 0, 0, []), (289, 1, .aload 0, 0, 0, 0, 0, []), (290, 3, .getfield 0, 12, 6, 2, 0, [1045]), (293, 1, .iload 0, 1, 0, 0, 0, []), (294, 1, .aload 0, 0, 0, 0, 0, []),
  (295, 1, .aload 0, 0, 0, 0, 0, []), (296, 3, .getfield 0, 12, 6, 2, 0, [1045]), (299, 1, .iload 0, 1, 0, 0, 0, []), (300, 1, .baload, 0, 0, 0, 0, []), (301, 3, .ifCond .eq 0, 308, 0, 0, 0, []), (304, 1, .iconst 0, 0, 0, 0, 1, []),
  (305, 3, .goto 0, 309, 0, 0, 0, []), (308, 1, .iconst 0, 0, 0, 0, 0, []), (309, 3, .invokevirtual 0, 217, 2, 12, 1, [1594, 1596, 72, 86]), (312, 1, .iconst 0, 0, 0, 0, 1, []), (313, 3, .if_icmp .ne 0, 320, 0, 0, 0, []), (316, 1, .iconst 0, 0, 0, 0, 1, []),
  (317, 3, .goto 0, 321, 0, 0, 0, []), (320, 1, .iconst 0, 0, 0, 0, 0, []), (321, 1, .bastore, 0, 0, 0, 0, []), (322, 3, .iinc 0 0, 1, 0, 0, 1, []), (325, 3, .goto 0, 283, 0, 0, 0, []), (328, 1, .return_, 0, 0, 0, 0, [])
  ]
def mc_X12_image : List mv_E := [
  (0, 1, .aload 0, 0, 0, 0, 0, []), (1, 1, .iconst 0, 0, 0, 0, 1, []), (2, 3, .putfield 0, 12, 63, 1, 0, [1102]), (5, 1, .aload 0, 0, 0, 0, 0, []), (6, 1, .iconst 0, 0, 0, 0, 1, []), (7, 3, .putfield 0, 12, 62, 1, 0, [1101]),
  (10, 1, .aload 0, 0, 0, 0, 0, []), (11, 3, .invokevirtual 0, 218, 1, 12, 0, [1586, 1588, 70, 86]), (14, 1, .aload 0, 0, 0, 0, 0, []), (15, 3, .getfield 0, 12, 8, 0, 0, [1047]), (18, 1, .aload 0, 0, 0, 0, 0, []), (19, 3, .getfield 0, 12, 9, 0, 0, [1048]),
  (22, 1, .imul, 0, 0, 0, 0, []), (23, 1, .ireturn, 0, 0, 0, 0, [])
  ]
def mc_X12_on : List mv_E := [
  (0, 1, .aload 0, 0, 0, 0, 0, []), (1, 3, .getfield 0, 12, 62, 1, 0, [1101]), (4, 3, .ifCond .ne 0, 14, 0, 0, 0, []), (7, 1, .aload 0, 0, 0, 0, 0, []), (8, 2, .iconst 0, 0, 0, 0, (-3), []), (10, 3, .invokevirtual 0, 133, 2, 12, 1, [1244, 1246, 26, 86]),
  (13, 1, .ireturn, 0, 0, 0, 0, []), (14, 1, .aload 0, 0, 0, 0, 0, []), (15, 1, .iconst 0, 0, 0, 0, 0, []), (16, 3, .putfield 0, 12, 63, 1, 0, [1102]), (19, 1, .aload 0, 0, 0, 0, 0, []), (20, 3, .invokevirtual 0, 218, 1, 12, 0, [1586, 1588, 70, 86]),
  (23, 1, .aload 0, 0, 0, 0, 0, []), (24, 3, .getfield 0, 12, 8, 0, 0, [1047]), (27, 1, .aload 0, 0, 0, 0, 0, []), (28, 3, .getfield 0, 12, 9, 0, 0, [1048]), (31, 1, .imul, 0, 0, 0, 0, []), (32, 1, .ireturn, 0, 0, 0, 0, [])
  ]
def mc_X12_count : List mv_E := [
  (0, 1, .iload 0, 1, 0, 0, 0, []), (1, 1, .i2l, 0, 0, 0, 0, []), (2, 3, .lconst 0, 0, 0, 0, 11, [1606]), (5, 3, .lconst 0, 0, 0, 0, 16, [1607]), (8, 3, .invokestatic 0, 135, 3, 1, 1, [1267, 1268, 86]), (11, 3, .ifCond .eq 0, 24, 0, 0, 0, []),
  (14, 1, .aload 0, 0, 0, 0, 0, []), (15, 3, .getfield 0, 12, 0, 2, 0, [1039]), (18, 1, .iload 0, 1, 0, 0, 0, []), (19, 2, .iconst 0, 0, 0, 0, 10, []), (21, 1, .isub, 0, 0, 0, 0, []), (22, 1, .iaload, 0, 0, 0, 0, []),
  (23, 1, .ireturn, 0, 0, 0, 0, []), (24, 1, .iconst 0, 0, 0, 0, 0, []), (25, 1, .istore 0, 2, 0, 0, 0, []), (26, 1, .iload 0, 1, 0, 0, 0, []), (27, 53, .tableswitch 0 0 0 #[], 200, 0, 0, 0, [80, 85, 90, 95, 100, 105, 110, 157, 190, 195]), (80, 1, .aload 0, 0, 0, 0, 0, []),
  (81, 3, .getfield 0, 12, 8, 0, 0, [1047]), (84, 1, .ireturn, 0, 0, 0, 0, []), (85, 1, .aload 0, 0, 0, 0, 0, []), (86, 3, .getfield 0, 12, 9, 0, 0, [1048]), (89, 1, .ireturn, 0, 0, 0, 0, []), (90, 1, .aload 0, 0, 0, 0, 0, []),
  (91, 3, .getfield 0, 12, 23, 0, 0, [1062]), (94, 1, .ireturn, 0, 0, 0, 0, []), (95, 1, .aload 0, 0, 0, 0, 0, []), (96, 3, .getfield 0, 12, 36, 0, 0, [1075]), (99, 1, .ireturn, 0, 0, 0, 0, []), (100, 1, .aload 0, 0, 0, 0, 0, []),
  (101, 3, .getfield 0, 12, 17, 0, 0, [1056]), (104, 1, .ireturn, 0, 0, 0, 0, []), (105, 1, .aload 0, 0, 0, 0, 0, []), (106, 3, .getfield 0, 12, 55, 0, 0, [1094]), (109, 1, .ireturn, 0, 0, 0, 0, []), (110, 1, .aload 0, 0, 0, 0, 0, []),
  (111, 3, .invokevirtual 0, 173, 1, 12, 0, [1402, 1404, 48, 86]), (114, 1, .iconst 0, 0, 0, 0, 0, []), (115, 1, .istore 0, 3, 0, 0, 0, []), (116, 1, .iload 0, 3, 0, 0, 0, []), (117, 2, .iconst 0, 0, 0, 0, 48, []), (119, 3, .if_icmp .ge 0, 155, 0, 0, 0, []),
  (122, 1, .iload 0, 2, 0, 0, 0, []), (123, 1, .aload 0, 0, 0, 0, 0, []), (124, 1, .iload 0, 3, 0, 0, 0, []), (125, 3, .invokevirtual 0, 143, 2, 12, 1, [1316, 1318, 35, 86]), (128, 3, .ifCond .eq 0, 146, 0, 0, 0, []), (131, 1, .aload 0, 0, 0, 0, 0, []),
  (132, 3, .getfield 0, 12, 38, 2, 0, [1077]), (135, 1, .iload 0, 3, 0, 0, 0, []), (136, 1, .iaload, 0, 0, 0, 0, []), (137, 2, .iconst 0, 0, 0, 0, (-9), []), (139, 3, .if_icmp .ne 0, 146, 0, 0, 0, []), (142, 1, .iconst 0, 0, 0, 0, 1, []),
  (143, 3, .goto 0, 147, 0, 0, 0, []), (146, 1, .iconst 0, 0, 0, 0, 0, []), (147, 1, .iadd, 0, 0, 0, 0, []), (148, 1, .istore 0, 2, 0, 0, 0, []), (149, 3, .iinc 0 0, 3, 0, 0, 1, []), (152, 3, .goto 0, 116, 0, 0, 0, []),
  (155, 1, .iload 0, 2, 0, 0, 0, []), (156, 1, .ireturn, 0, 0, 0, 0, []), (157, 1, .iconst 0, 0, 0, 0, 0, []), (158, 1, .istore 0, 3, 0, 0, 0, []), (159, 1, .iload 0, 3, 0, 0, 0, []), (160, 2, .iconst 0, 0, 0, 0, 48, []),
  (162, 3, .if_icmp .ge 0, 188, 0, 0, 0, []), (165, 1, .iload 0, 2, 0, 0, 0, []), (166, 1, .aload 0, 0, 0, 0, 0, []), (167, 3, .getfield 0, 12, 6, 2, 0, [1045]), (170, 1, .iload 0, 3, 0, 0, 0, []), (171, 1, .baload, 0, 0, 0, 0, []),
  (172, 3, .ifCond .eq 0, 179, 0, 0, 0, []), (175, 1, .iconst 0, 0, 0, 0, 1, []), (176, 3, .goto 0, 180, 0, 0, 0, []), (179, 1, .iconst 0, 0, 0, 0, 0, []), (180, 1, .iadd, 0, 0, 0, 0, []), (181, 1, .istore 0, 2, 0, 0, 0, []),
  (182, 3, .iinc 0 0, 3, 0, 0, 1, []), (185, 3, .goto 0, 159, 0, 0, 0, []), (188, 1, .iload 0, 2, 0, 0, 0, []), (189, 1, .ireturn, 0, 0, 0, 0, []), (190, 1, .aload 0, 0, 0, 0, 0, []), (191, 3, .getfield 0, 12, 7, 0, 0, [1046]),
  (194, 1, .ireturn, 0, 0, 0, 0, []), (195, 1, .aload 0, 0, 0, 0, 0, []), (196, 3, .getfield 0, 12, 60, 0, 0, [1099]), (199, 1, .ireturn, 0, 0, 0, 0, []), (200, 2, .iconst 0, 0, 0, 0, (-9), []), (202, 1, .ireturn, 0, 0, 0, 0, [])
  ]
def mc_J9_floorDiv_f86c9 : List mv_E := [
  (0, 1, .lload 0, 0, 0, 0, 0, []), (1, 1, .lload 0, 2, 0, 0, 0, []), (2, 1, .ldiv, 0, 0, 0, 0, []), (3, 2, .lstore 0, 4, 0, 0, 0, []), (5, 1, .lload 0, 0, 0, 0, 0, []), (6, 1, .lload 0, 2, 0, 0, 0, []),
  (7, 1, .lxor, 0, 0, 0, 0, []), (8, 1, .lconst 0, 0, 0, 0, 0, []), (9, 1, .lcmp, 0, 0, 0, 0, []), (10, 3, .ifCond .ge 0, 27, 0, 0, 0, []), (13, 2, .lload 0, 4, 0, 0, 0, []), (15, 1, .lload 0, 2, 0, 0, 0, []),
  (16, 1, .lmul, 0, 0, 0, 0, []), (17, 1, .lload 0, 0, 0, 0, 0, []), (18, 1, .lcmp, 0, 0, 0, 0, []), (19, 3, .ifCond .eq 0, 27, 0, 0, 0, []), (22, 2, .lload 0, 4, 0, 0, 0, []), (24, 1, .lconst 0, 0, 0, 0, 1, []),
  (25, 1, .lsub, 0, 0, 0, 0, []), (26, 1, .lreturn, 0, 0, 0, 0, []), (27, 2, .lload 0, 4, 0, 0, 0, []), (29, 1, .lreturn, 0, 0, 0, 0, [])
  ]
def mc_J9_max_7cf53 : List mv_E := [
  (0, 1, .iload 0, 0, 0, 0, 0, []), (1, 1, .iload 0, 1, 0, 0, 0, []), (2, 3, .if_icmp .lt 0, 9, 0, 0, 0, []), (5, 1, .iload 0, 0, 0, 0, 0, []), (6, 3, .goto 0, 10, 0, 0, 0, []), (9, 1, .iload 0, 1, 0, 0, 0, []),
  (10, 1, .ireturn, 0, 0, 0, 0, [])
  ]
def mc_J9_max_f86c9 : List mv_E := [
  (0, 1, .lload 0, 0, 0, 0, 0, []), (1, 1, .lload 0, 2, 0, 0, 0, []), (2, 1, .lcmp, 0, 0, 0, 0, []), (3, 3, .ifCond .lt 0, 10, 0, 0, 0, []), (6, 1, .lload 0, 0, 0, 0, 0, []), (7, 3, .goto 0, 11, 0, 0, 0, []),
  (10, 1, .lload 0, 2, 0, 0, 0, []), (11, 1, .lreturn, 0, 0, 0, 0, [])
  ]
def mc_J9_min_f86c9 : List mv_E := [
  (0, 1, .lload 0, 0, 0, 0, 0, []), (1, 1, .lload 0, 2, 0, 0, 0, []), (2, 1, .lcmp, 0, 0, 0, 0, []), (3, 3, .ifCond .gt 0, 10, 0, 0, 0, []), (6, 1, .lload 0, 0, 0, 0, 0, []), (7, 3, .goto 0, 11, 0, 0, 0, []),
  (10, 1, .lload 0, 2, 0, 0, 0, []), (11, 1, .lreturn, 0, 0, 0, 0, [])
  ]
def mc_L_law : List mv_E := [
  (0, 3, .new 0, 11, 13, 0, 0, [89, 90, 74]), (3, 1, .dup, 0, 0, 0, 0, []), (4, 3, .invokespecial 0, 85, 1, 88, 4736, [91, 92, 74]), (7, 1, .astore 0, 1, 0, 0, 0, []), (8, 3, .new 0, 12, 65, 0, 0, [1033, 1034, 86]), (11, 1, .dup, 0, 0, 0, 0, []),
  (12, 3, .invokespecial 0, 132, 1, 50, 2606, [1035, 1036, 86]), (15, 1, .astore 0, 2, 0, 0, 0, []), (16, 1, .iconst 0, 0, 0, 0, 0, []), (17, 1, .istore 0, 3, 0, 0, 0, []), (18, 1, .iload 0, 3, 0, 0, 0, []), (19, 1, .aload 0, 0, 0, 0, 0, []),
  (20, 1, .arraylength, 0, 0, 0, 0, []), (21, 2, .iconst 0, 0, 0, 0, 6, []), (23, 1, .isub, 0, 0, 0, 0, []), (24, 3, .if_icmp .gt 0, 1393, 0, 0, 0, []), (27, 1, .aload 0, 0, 0, 0, 0, []), (28, 1, .iload 0, 3, 0, 0, 0, []),
  (29, 1, .iaload, 0, 0, 0, 0, []), (30, 2, .iconst 0, 0, 0, 0, 63, []), (32, 1, .iand, 0, 0, 0, 0, []), (33, 163, .tableswitch 0 0 0 #[], 1387, 0, 0, 0, [196, 259, 272, 305, 348, 381, 414, 447, 470, 533, 566, 609, 642, 686, 719, 743, 776, 829, 872, 905, 928, 961, 1005, 1028, 1041, 1094, 1118, 1141, 1164, 1197, 1230, 1279, 1302, 1325, 1338, 1351, 1364]), (196, 1, .aload 0, 1, 0, 0, 0, []), (197, 1, .aload 0, 0, 0, 0, 0, []),
  (198, 1, .iload 0, 3, 0, 0, 0, []), (199, 1, .iconst 0, 0, 0, 0, 1, []), (200, 1, .iadd, 0, 0, 0, 0, []), (201, 1, .iaload, 0, 0, 0, 0, []), (202, 1, .aload 0, 0, 0, 0, 0, []), (203, 1, .iload 0, 3, 0, 0, 0, []),
  (204, 1, .iconst 0, 0, 0, 0, 2, []), (205, 1, .iadd, 0, 0, 0, 0, []), (206, 1, .iaload, 0, 0, 0, 0, []), (207, 1, .i2l, 0, 0, 0, 0, []), (208, 2, .iconst 0, 0, 0, 0, 32, []), (210, 1, .lshl, 0, 0, 0, 0, []),
  (211, 1, .aload 0, 0, 0, 0, 0, []), (212, 1, .iload 0, 3, 0, 0, 0, []), (213, 1, .iconst 0, 0, 0, 0, 3, []), (214, 1, .iadd, 0, 0, 0, 0, []), (215, 1, .iaload, 0, 0, 0, 0, []), (216, 1, .i2l, 0, 0, 0, 0, []),
  (217, 3, .lconst 0, 0, 0, 0, 4294967295, [1608]), (220, 1, .land, 0, 0, 0, 0, []), (221, 1, .lor, 0, 0, 0, 0, []), (222, 3, .invokevirtual 0, 86, 3, 11, 1, [504, 505, 506, 74]), (225, 1, .aload 0, 2, 0, 0, 0, []), (226, 1, .aload 0, 0, 0, 0, 0, []),
  (227, 1, .iload 0, 3, 0, 0, 0, []), (228, 1, .iconst 0, 0, 0, 0, 1, []), (229, 1, .iadd, 0, 0, 0, 0, []), (230, 1, .iaload, 0, 0, 0, 0, []), (231, 1, .aload 0, 0, 0, 0, 0, []), (232, 1, .iload 0, 3, 0, 0, 0, []),
  (233, 1, .iconst 0, 0, 0, 0, 2, []), (234, 1, .iadd, 0, 0, 0, 0, []), (235, 1, .iaload, 0, 0, 0, 0, []), (236, 1, .i2l, 0, 0, 0, 0, []), (237, 2, .iconst 0, 0, 0, 0, 32, []), (239, 1, .lshl, 0, 0, 0, 0, []),
  (240, 1, .aload 0, 0, 0, 0, 0, []), (241, 1, .iload 0, 3, 0, 0, 0, []), (242, 1, .iconst 0, 0, 0, 0, 3, []), (243, 1, .iadd, 0, 0, 0, 0, []), (244, 1, .iaload, 0, 0, 0, 0, []), (245, 1, .i2l, 0, 0, 0, 0, []),
  (246, 3, .lconst 0, 0, 0, 0, 4294967295, [1608]), (249, 1, .land, 0, 0, 0, 0, []), (250, 1, .lor, 0, 0, 0, 0, []), (251, 3, .invokevirtual 0, 137, 3, 12, 1, [1236, 1237, 1238, 86]), (254, 3, .if_icmp .eq 0, 1387, 0, 0, 0, []), (257, 1, .iconst 0, 0, 0, 0, 0, []),
  (258, 1, .ireturn, 1, 0, 0, 0, []), (259, 1, .aload 0, 1, 0, 0, 0, []), (260, 3, .invokevirtual 0, 87, 1, 11, 1, [517, 518, 519, 74]), (263, 1, .aload 0, 2, 0, 0, 0, []), (264, 3, .invokevirtual 0, 141, 1, 12, 1, [1249, 1250, 1251, 86]), (267, 3, .if_icmp .eq 0, 1387, 0, 0, 0, []),
  (270, 1, .iconst 0, 0, 0, 0, 0, []), (271, 1, .ireturn, 1, 0, 0, 0, []), (272, 1, .aload 0, 1, 0, 0, 0, []), (273, 1, .aload 0, 0, 0, 0, 0, []), (274, 1, .iload 0, 3, 0, 0, 0, []), (275, 1, .iconst 0, 0, 0, 0, 1, []),
  (276, 1, .iadd, 0, 0, 0, 0, []), (277, 1, .iaload, 0, 0, 0, 0, []), (278, 1, .aload 0, 0, 0, 0, 0, []), (279, 1, .iload 0, 3, 0, 0, 0, []), (280, 1, .iconst 0, 0, 0, 0, 2, []), (281, 1, .iadd, 0, 0, 0, 0, []),
  (282, 1, .iaload, 0, 0, 0, 0, []), (283, 3, .invokevirtual 0, 88, 3, 11, 1, [540, 541, 542, 74]), (286, 1, .aload 0, 2, 0, 0, 0, []), (287, 1, .aload 0, 0, 0, 0, 0, []), (288, 1, .iload 0, 3, 0, 0, 0, []), (289, 1, .iconst 0, 0, 0, 0, 1, []),
  (290, 1, .iadd, 0, 0, 0, 0, []), (291, 1, .iaload, 0, 0, 0, 0, []), (292, 1, .aload 0, 0, 0, 0, 0, []), (293, 1, .iload 0, 3, 0, 0, 0, []), (294, 1, .iconst 0, 0, 0, 0, 2, []), (295, 1, .iadd, 0, 0, 0, 0, []),
  (296, 1, .iaload, 0, 0, 0, 0, []), (297, 3, .invokevirtual 0, 145, 3, 12, 1, [1270, 1271, 1272, 86]), (300, 3, .if_icmp .eq 0, 1387, 0, 0, 0, []), (303, 1, .iconst 0, 0, 0, 0, 0, []), (304, 1, .ireturn, 1, 0, 0, 0, []), (305, 1, .aload 0, 1, 0, 0, 0, []),
  (306, 1, .aload 0, 0, 0, 0, 0, []), (307, 1, .iload 0, 3, 0, 0, 0, []), (308, 1, .iconst 0, 0, 0, 0, 1, []), (309, 1, .iadd, 0, 0, 0, 0, []), (310, 1, .iaload, 0, 0, 0, 0, []), (311, 1, .aload 0, 0, 0, 0, 0, []),
  (312, 1, .iload 0, 3, 0, 0, 0, []), (313, 1, .iconst 0, 0, 0, 0, 2, []), (314, 1, .iadd, 0, 0, 0, 0, []), (315, 1, .iaload, 0, 0, 0, 0, []), (316, 1, .aload 0, 0, 0, 0, 0, []), (317, 1, .iload 0, 3, 0, 0, 0, []),
  (318, 1, .iconst 0, 0, 0, 0, 3, []), (319, 1, .iadd, 0, 0, 0, 0, []), (320, 1, .iaload, 0, 0, 0, 0, []), (321, 3, .invokevirtual 0, 89, 4, 11, 1, [552, 553, 554, 74]), (324, 1, .aload 0, 2, 0, 0, 0, []), (325, 1, .aload 0, 0, 0, 0, 0, []),
  (326, 1, .iload 0, 3, 0, 0, 0, []), (327, 1, .iconst 0, 0, 0, 0, 1, []), (328, 1, .iadd, 0, 0, 0, 0, []), (329, 1, .iaload, 0, 0, 0, 0, []), (330, 1, .aload 0, 0, 0, 0, 0, []), (331, 1, .iload 0, 3, 0, 0, 0, []),
  (332, 1, .iconst 0, 0, 0, 0, 2, []), (333, 1, .iadd, 0, 0, 0, 0, []), (334, 1, .iaload, 0, 0, 0, 0, []), (335, 1, .aload 0, 0, 0, 0, 0, []), (336, 1, .iload 0, 3, 0, 0, 0, []), (337, 1, .iconst 0, 0, 0, 0, 3, []),
  (338, 1, .iadd, 0, 0, 0, 0, []), (339, 1, .iaload, 0, 0, 0, 0, []), (340, 3, .invokevirtual 0, 149, 4, 12, 1, [1282, 1283, 1284, 86]), (343, 3, .if_icmp .eq 0, 1387, 0, 0, 0, []), (346, 1, .iconst 0, 0, 0, 0, 0, []), (347, 1, .ireturn, 1, 0, 0, 0, []),
  (348, 1, .aload 0, 1, 0, 0, 0, []), (349, 1, .aload 0, 0, 0, 0, 0, []), (350, 1, .iload 0, 3, 0, 0, 0, []), (351, 1, .iconst 0, 0, 0, 0, 1, []), (352, 1, .iadd, 0, 0, 0, 0, []), (353, 1, .iaload, 0, 0, 0, 0, []),
  (354, 1, .aload 0, 0, 0, 0, 0, []), (355, 1, .iload 0, 3, 0, 0, 0, []), (356, 1, .iconst 0, 0, 0, 0, 2, []), (357, 1, .iadd, 0, 0, 0, 0, []), (358, 1, .iaload, 0, 0, 0, 0, []), (359, 3, .invokevirtual 0, 90, 3, 11, 1, [572, 573, 574, 74]),
  (362, 1, .aload 0, 2, 0, 0, 0, []), (363, 1, .aload 0, 0, 0, 0, 0, []), (364, 1, .iload 0, 3, 0, 0, 0, []), (365, 1, .iconst 0, 0, 0, 0, 1, []), (366, 1, .iadd, 0, 0, 0, 0, []), (367, 1, .iaload, 0, 0, 0, 0, []),
  (368, 1, .aload 0, 0, 0, 0, 0, []), (369, 1, .iload 0, 3, 0, 0, 0, []), (370, 1, .iconst 0, 0, 0, 0, 2, []), (371, 1, .iadd, 0, 0, 0, 0, []), (372, 1, .iaload, 0, 0, 0, 0, []), (373, 3, .invokevirtual 0, 150, 3, 12, 1, [1298, 1299, 1300, 86]),
  (376, 3, .if_icmp .eq 0, 1387, 0, 0, 0, []), (379, 1, .iconst 0, 0, 0, 0, 0, []), (380, 1, .ireturn, 1, 0, 0, 0, []), (381, 1, .aload 0, 1, 0, 0, 0, []), (382, 1, .aload 0, 0, 0, 0, 0, []), (383, 1, .iload 0, 3, 0, 0, 0, []),
  (384, 1, .iconst 0, 0, 0, 0, 1, []), (385, 1, .iadd, 0, 0, 0, 0, []), (386, 1, .iaload, 0, 0, 0, 0, []), (387, 1, .aload 0, 0, 0, 0, 0, []), (388, 1, .iload 0, 3, 0, 0, 0, []), (389, 1, .iconst 0, 0, 0, 0, 2, []),
  (390, 1, .iadd, 0, 0, 0, 0, []), (391, 1, .iaload, 0, 0, 0, 0, []), (392, 3, .invokevirtual 0, 91, 3, 11, 1, [579, 580, 581, 74]), (395, 1, .aload 0, 2, 0, 0, 0, []), (396, 1, .aload 0, 0, 0, 0, 0, []), (397, 1, .iload 0, 3, 0, 0, 0, []),
  (398, 1, .iconst 0, 0, 0, 0, 1, []), (399, 1, .iadd, 0, 0, 0, 0, []), (400, 1, .iaload, 0, 0, 0, 0, []), (401, 1, .aload 0, 0, 0, 0, 0, []), (402, 1, .iload 0, 3, 0, 0, 0, []), (403, 1, .iconst 0, 0, 0, 0, 2, []),
  (404, 1, .iadd, 0, 0, 0, 0, []), (405, 1, .iaload, 0, 0, 0, 0, []), (406, 3, .invokevirtual 0, 151, 3, 12, 1, [1303, 1304, 1305, 86]), (409, 3, .if_icmp .eq 0, 1387, 0, 0, 0, []), (412, 1, .iconst 0, 0, 0, 0, 0, []), (413, 1, .ireturn, 1, 0, 0, 0, []),
  (414, 1, .aload 0, 1, 0, 0, 0, []), (415, 1, .aload 0, 0, 0, 0, 0, []), (416, 1, .iload 0, 3, 0, 0, 0, []), (417, 1, .iconst 0, 0, 0, 0, 1, []), (418, 1, .iadd, 0, 0, 0, 0, []), (419, 1, .iaload, 0, 0, 0, 0, []),
  (420, 1, .aload 0, 0, 0, 0, 0, []), (421, 1, .iload 0, 3, 0, 0, 0, []), (422, 1, .iconst 0, 0, 0, 0, 2, []), (423, 1, .iadd, 0, 0, 0, 0, []), (424, 1, .iaload, 0, 0, 0, 0, []), (425, 3, .invokevirtual 0, 92, 3, 11, 1, [583, 584, 585, 74]),
  (428, 1, .aload 0, 2, 0, 0, 0, []), (429, 1, .aload 0, 0, 0, 0, 0, []), (430, 1, .iload 0, 3, 0, 0, 0, []), (431, 1, .iconst 0, 0, 0, 0, 1, []), (432, 1, .iadd, 0, 0, 0, 0, []), (433, 1, .iaload, 0, 0, 0, 0, []),
  (434, 1, .aload 0, 0, 0, 0, 0, []), (435, 1, .iload 0, 3, 0, 0, 0, []), (436, 1, .iconst 0, 0, 0, 0, 2, []), (437, 1, .iadd, 0, 0, 0, 0, []), (438, 1, .iaload, 0, 0, 0, 0, []), (439, 3, .invokevirtual 0, 155, 3, 12, 1, [1307, 1308, 1309, 86]),
  (442, 3, .if_icmp .eq 0, 1387, 0, 0, 0, []), (445, 1, .iconst 0, 0, 0, 0, 0, []), (446, 1, .ireturn, 1, 0, 0, 0, []), (447, 1, .aload 0, 1, 0, 0, 0, []), (448, 1, .aload 0, 0, 0, 0, 0, []), (449, 1, .iload 0, 3, 0, 0, 0, []),
  (450, 1, .iconst 0, 0, 0, 0, 1, []), (451, 1, .iadd, 0, 0, 0, 0, []), (452, 1, .iaload, 0, 0, 0, 0, []), (453, 3, .invokevirtual 0, 93, 2, 11, 1, [654, 655, 656, 74]), (456, 1, .aload 0, 2, 0, 0, 0, []), (457, 1, .aload 0, 0, 0, 0, 0, []),
  (458, 1, .iload 0, 3, 0, 0, 0, []), (459, 1, .iconst 0, 0, 0, 0, 1, []), (460, 1, .iadd, 0, 0, 0, 0, []), (461, 1, .iaload, 0, 0, 0, 0, []), (462, 3, .invokevirtual 0, 157, 2, 12, 1, [1328, 1329, 1330, 86]), (465, 3, .if_icmp .eq 0, 1387, 0, 0, 0, []),
  (468, 1, .iconst 0, 0, 0, 0, 0, []), (469, 1, .ireturn, 1, 0, 0, 0, []), (470, 1, .aload 0, 1, 0, 0, 0, []), (471, 1, .aload 0, 0, 0, 0, 0, []), (472, 1, .iload 0, 3, 0, 0, 0, []), (473, 1, .iconst 0, 0, 0, 0, 1, []),
  (474, 1, .iadd, 0, 0, 0, 0, []), (475, 1, .iaload, 0, 0, 0, 0, []), (476, 1, .aload 0, 0, 0, 0, 0, []), (477, 1, .iload 0, 3, 0, 0, 0, []), (478, 1, .iconst 0, 0, 0, 0, 2, []), (479, 1, .iadd, 0, 0, 0, 0, []),
  (480, 1, .iaload, 0, 0, 0, 0, []), (481, 1, .aload 0, 0, 0, 0, 0, []), (482, 1, .iload 0, 3, 0, 0, 0, []), (483, 1, .iconst 0, 0, 0, 0, 3, []), (484, 1, .iadd, 0, 0, 0, 0, []), (485, 1, .iaload, 0, 0, 0, 0, []),
  (486, 1, .aload 0, 0, 0, 0, 0, []), (487, 1, .iload 0, 3, 0, 0, 0, []), (488, 1, .iconst 0, 0, 0, 0, 4, []), (489, 1, .iadd, 0, 0, 0, 0, []), (490, 1, .iaload, 0, 0, 0, 0, []), (491, 1, .aload 0, 0, 0, 0, 0, []),
  (492, 1, .iload 0, 3, 0, 0, 0, []), (493, 1, .iconst 0, 0, 0, 0, 5, []), (494, 1, .iadd, 0, 0, 0, 0, []), (495, 1, .iaload, 0, 0, 0, 0, []), (496, 3, .invokevirtual 0, 94, 6, 11, 1, [658, 659, 660, 74]), (499, 1, .aload 0, 2, 0, 0, 0, []),
  (500, 1, .aload 0, 0, 0, 0, 0, []), (501, 1, .iload 0, 3, 0, 0, 0, []), (502, 1, .iconst 0, 0, 0, 0, 1, []), (503, 1, .iadd, 0, 0, 0, 0, []), (504, 1, .iaload, 0, 0, 0, 0, []), (505, 1, .aload 0, 0, 0, 0, 0, []),
  (506, 1, .iload 0, 3, 0, 0, 0, []), (507, 1, .iconst 0, 0, 0, 0, 2, []), (508, 1, .iadd, 0, 0, 0, 0, []), (509, 1, .iaload, 0, 0, 0, 0, []), (510, 1, .aload 0, 0, 0, 0, 0, []), (511, 1, .iload 0, 3, 0, 0, 0, []),
  (512, 1, .iconst 0, 0, 0, 0, 3, []), (513, 1, .iadd, 0, 0, 0, 0, []), (514, 1, .iaload, 0, 0, 0, 0, []), (515, 1, .aload 0, 0, 0, 0, 0, []), (516, 1, .iload 0, 3, 0, 0, 0, []), (517, 1, .iconst 0, 0, 0, 0, 4, []),
  (518, 1, .iadd, 0, 0, 0, 0, []), (519, 1, .iaload, 0, 0, 0, 0, []), (520, 1, .aload 0, 0, 0, 0, 0, []), (521, 1, .iload 0, 3, 0, 0, 0, []), (522, 1, .iconst 0, 0, 0, 0, 5, []), (523, 1, .iadd, 0, 0, 0, 0, []),
  (524, 1, .iaload, 0, 0, 0, 0, []), (525, 3, .invokevirtual 0, 161, 6, 12, 1, [1332, 1333, 1334, 86]), (528, 3, .if_icmp .eq 0, 1387, 0, 0, 0, []), (531, 1, .iconst 0, 0, 0, 0, 0, []), (532, 1, .ireturn, 1, 0, 0, 0, []), (533, 1, .aload 0, 1, 0, 0, 0, []),
  (534, 1, .aload 0, 0, 0, 0, 0, []), (535, 1, .iload 0, 3, 0, 0, 0, []), (536, 1, .iconst 0, 0, 0, 0, 1, []), (537, 1, .iadd, 0, 0, 0, 0, []), (538, 1, .iaload, 0, 0, 0, 0, []), (539, 1, .aload 0, 0, 0, 0, 0, []),
  (540, 1, .iload 0, 3, 0, 0, 0, []), (541, 1, .iconst 0, 0, 0, 0, 2, []), (542, 1, .iadd, 0, 0, 0, 0, []), (543, 1, .iaload, 0, 0, 0, 0, []), (544, 3, .invokevirtual 0, 95, 3, 11, 1, [670, 671, 672, 74]), (547, 1, .aload 0, 2, 0, 0, 0, []),
  (548, 1, .aload 0, 0, 0, 0, 0, []), (549, 1, .iload 0, 3, 0, 0, 0, []), (550, 1, .iconst 0, 0, 0, 0, 1, []), (551, 1, .iadd, 0, 0, 0, 0, []), (552, 1, .iaload, 0, 0, 0, 0, []), (553, 1, .aload 0, 0, 0, 0, 0, []),
  (554, 1, .iload 0, 3, 0, 0, 0, []), (555, 1, .iconst 0, 0, 0, 0, 2, []), (556, 1, .iadd, 0, 0, 0, 0, []), (557, 1, .iaload, 0, 0, 0, 0, []), (558, 3, .invokevirtual 0, 162, 3, 12, 1, [1337, 1338, 1339, 86]), (561, 3, .if_icmp .eq 0, 1387, 0, 0, 0, []),
  (564, 1, .iconst 0, 0, 0, 0, 0, []), (565, 1, .ireturn, 1, 0, 0, 0, []), (566, 1, .aload 0, 1, 0, 0, 0, []), (567, 1, .aload 0, 0, 0, 0, 0, []), (568, 1, .iload 0, 3, 0, 0, 0, []), (569, 1, .iconst 0, 0, 0, 0, 1, []),
  (570, 1, .iadd, 0, 0, 0, 0, []), (571, 1, .iaload, 0, 0, 0, 0, []), (572, 1, .aload 0, 0, 0, 0, 0, []), (573, 1, .iload 0, 3, 0, 0, 0, []), (574, 1, .iconst 0, 0, 0, 0, 2, []), (575, 1, .iadd, 0, 0, 0, 0, []),
  (576, 1, .iaload, 0, 0, 0, 0, []), (577, 1, .aload 0, 0, 0, 0, 0, []), (578, 1, .iload 0, 3, 0, 0, 0, []), (579, 1, .iconst 0, 0, 0, 0, 3, []), (580, 1, .iadd, 0, 0, 0, 0, []), (581, 1, .iaload, 0, 0, 0, 0, []),
  (582, 3, .invokevirtual 0, 96, 4, 11, 1, [678, 679, 680, 74]), (585, 1, .aload 0, 2, 0, 0, 0, []), (586, 1, .aload 0, 0, 0, 0, 0, []), (587, 1, .iload 0, 3, 0, 0, 0, []), (588, 1, .iconst 0, 0, 0, 0, 1, []), (589, 1, .iadd, 0, 0, 0, 0, []),
  (590, 1, .iaload, 0, 0, 0, 0, []), (591, 1, .aload 0, 0, 0, 0, 0, []), (592, 1, .iload 0, 3, 0, 0, 0, []), (593, 1, .iconst 0, 0, 0, 0, 2, []), (594, 1, .iadd, 0, 0, 0, 0, []), (595, 1, .iaload, 0, 0, 0, 0, []),
  (596, 1, .aload 0, 0, 0, 0, 0, []), (597, 1, .iload 0, 3, 0, 0, 0, []), (598, 1, .iconst 0, 0, 0, 0, 3, []), (599, 1, .iadd, 0, 0, 0, 0, []), (600, 1, .iaload, 0, 0, 0, 0, []), (601, 3, .invokevirtual 0, 163, 4, 12, 1, [1346, 1347, 1348, 86]),
  (604, 3, .if_icmp .eq 0, 1387, 0, 0, 0, []), (607, 1, .iconst 0, 0, 0, 0, 0, []), (608, 1, .ireturn, 1, 0, 0, 0, []), (609, 1, .aload 0, 1, 0, 0, 0, []), (610, 1, .aload 0, 0, 0, 0, 0, []), (611, 1, .iload 0, 3, 0, 0, 0, []),
  (612, 1, .iconst 0, 0, 0, 0, 1, []), (613, 1, .iadd, 0, 0, 0, 0, []), (614, 1, .iaload, 0, 0, 0, 0, []), (615, 1, .aload 0, 0, 0, 0, 0, []), (616, 1, .iload 0, 3, 0, 0, 0, []), (617, 1, .iconst 0, 0, 0, 0, 2, []),
  (618, 1, .iadd, 0, 0, 0, 0, []), (619, 1, .iaload, 0, 0, 0, 0, []), (620, 3, .invokevirtual 0, 97, 3, 11, 1, [689, 690, 691, 74]), (623, 1, .aload 0, 2, 0, 0, 0, []), (624, 1, .aload 0, 0, 0, 0, 0, []), (625, 1, .iload 0, 3, 0, 0, 0, []),
  (626, 1, .iconst 0, 0, 0, 0, 1, []), (627, 1, .iadd, 0, 0, 0, 0, []), (628, 1, .iaload, 0, 0, 0, 0, []), (629, 1, .aload 0, 0, 0, 0, 0, []), (630, 1, .iload 0, 3, 0, 0, 0, []), (631, 1, .iconst 0, 0, 0, 0, 2, []),
  (632, 1, .iadd, 0, 0, 0, 0, []), (633, 1, .iaload, 0, 0, 0, 0, []), (634, 3, .invokevirtual 0, 164, 3, 12, 1, [1355, 1356, 1357, 86]), (637, 3, .if_icmp .eq 0, 1387, 0, 0, 0, []), (640, 1, .iconst 0, 0, 0, 0, 0, []), (641, 1, .ireturn, 1, 0, 0, 0, []),
  (642, 1, .aload 0, 1, 0, 0, 0, []), (643, 1, .aload 0, 0, 0, 0, 0, []), (644, 1, .iload 0, 3, 0, 0, 0, []), (645, 1, .iconst 0, 0, 0, 0, 1, []), (646, 1, .iadd, 0, 0, 0, 0, []), (647, 1, .iaload, 0, 0, 0, 0, []),
  (648, 1, .aload 0, 0, 0, 0, 0, []), (649, 1, .iload 0, 3, 0, 0, 0, []), (650, 1, .iconst 0, 0, 0, 0, 2, []), (651, 1, .iadd, 0, 0, 0, 0, []), (652, 1, .iaload, 0, 0, 0, 0, []), (653, 1, .aload 0, 0, 0, 0, 0, []),
  (654, 1, .iload 0, 3, 0, 0, 0, []), (655, 1, .iconst 0, 0, 0, 0, 3, []), (656, 1, .iadd, 0, 0, 0, 0, []), (657, 1, .iaload, 0, 0, 0, 0, []), (658, 3, .invokevirtual 0, 99, 4, 11, 2, [697, 698, 699, 74]), (661, 1, .aload 0, 2, 0, 0, 0, []),
  (662, 1, .aload 0, 0, 0, 0, 0, []), (663, 1, .iload 0, 3, 0, 0, 0, []), (664, 1, .iconst 0, 0, 0, 0, 1, []), (665, 1, .iadd, 0, 0, 0, 0, []), (666, 1, .iaload, 0, 0, 0, 0, []), (667, 1, .aload 0, 0, 0, 0, 0, []),
  (668, 1, .iload 0, 3, 0, 0, 0, []), (669, 1, .iconst 0, 0, 0, 0, 2, []), (670, 1, .iadd, 0, 0, 0, 0, []), (671, 1, .iaload, 0, 0, 0, 0, []), (672, 1, .aload 0, 0, 0, 0, 0, []), (673, 1, .iload 0, 3, 0, 0, 0, []),
  (674, 1, .iconst 0, 0, 0, 0, 3, []), (675, 1, .iadd, 0, 0, 0, 0, []), (676, 1, .iaload, 0, 0, 0, 0, []), (677, 3, .invokevirtual 0, 171, 4, 12, 2, [1361, 1362, 1363, 86]), (680, 1, .lcmp, 0, 0, 0, 0, []), (681, 3, .ifCond .eq 0, 1387, 0, 0, 0, []),
  (684, 1, .iconst 0, 0, 0, 0, 0, []), (685, 1, .ireturn, 1, 0, 0, 0, []), (686, 1, .aload 0, 1, 0, 0, 0, []), (687, 1, .aload 0, 0, 0, 0, 0, []), (688, 1, .iload 0, 3, 0, 0, 0, []), (689, 1, .iconst 0, 0, 0, 0, 1, []),
  (690, 1, .iadd, 0, 0, 0, 0, []), (691, 1, .iaload, 0, 0, 0, 0, []), (692, 1, .aload 0, 0, 0, 0, 0, []), (693, 1, .iload 0, 3, 0, 0, 0, []), (694, 1, .iconst 0, 0, 0, 0, 2, []), (695, 1, .iadd, 0, 0, 0, 0, []),
  (696, 1, .iaload, 0, 0, 0, 0, []), (697, 3, .invokevirtual 0, 100, 3, 11, 1, [706, 707, 708, 74]), (700, 1, .aload 0, 2, 0, 0, 0, []), (701, 1, .aload 0, 0, 0, 0, 0, []), (702, 1, .iload 0, 3, 0, 0, 0, []), (703, 1, .iconst 0, 0, 0, 0, 1, []),
  (704, 1, .iadd, 0, 0, 0, 0, []), (705, 1, .iaload, 0, 0, 0, 0, []), (706, 1, .aload 0, 0, 0, 0, 0, []), (707, 1, .iload 0, 3, 0, 0, 0, []), (708, 1, .iconst 0, 0, 0, 0, 2, []), (709, 1, .iadd, 0, 0, 0, 0, []),
  (710, 1, .iaload, 0, 0, 0, 0, []), (711, 3, .invokevirtual 0, 174, 3, 12, 1, [1398, 1399, 1400, 86]), (714, 3, .if_icmp .eq 0, 1387, 0, 0, 0, []), (717, 1, .iconst 0, 0, 0, 0, 0, []), (718, 1, .ireturn, 1, 0, 0, 0, []), (719, 1, .aload 0, 1, 0, 0, 0, []),
  (720, 1, .aload 0, 0, 0, 0, 0, []), (721, 1, .iload 0, 3, 0, 0, 0, []), (722, 1, .iconst 0, 0, 0, 0, 1, []), (723, 1, .iadd, 0, 0, 0, 0, []), (724, 1, .iaload, 0, 0, 0, 0, []), (725, 3, .invokevirtual 0, 101, 2, 11, 2, [710, 711, 712, 74]),
  (728, 1, .aload 0, 2, 0, 0, 0, []), (729, 1, .aload 0, 0, 0, 0, 0, []), (730, 1, .iload 0, 3, 0, 0, 0, []), (731, 1, .iconst 0, 0, 0, 0, 1, []), (732, 1, .iadd, 0, 0, 0, 0, []), (733, 1, .iaload, 0, 0, 0, 0, []),
  (734, 3, .invokevirtual 0, 177, 2, 12, 2, [1410, 1411, 1412, 86]), (737, 1, .lcmp, 0, 0, 0, 0, []), (738, 3, .ifCond .eq 0, 1387, 0, 0, 0, []), (741, 1, .iconst 0, 0, 0, 0, 0, []), (742, 1, .ireturn, 1, 0, 0, 0, []), (743, 1, .aload 0, 1, 0, 0, 0, []),
  (744, 1, .aload 0, 0, 0, 0, 0, []), (745, 1, .iload 0, 3, 0, 0, 0, []), (746, 1, .iconst 0, 0, 0, 0, 1, []), (747, 1, .iadd, 0, 0, 0, 0, []), (748, 1, .iaload, 0, 0, 0, 0, []), (749, 1, .aload 0, 0, 0, 0, 0, []),
  (750, 1, .iload 0, 3, 0, 0, 0, []), (751, 1, .iconst 0, 0, 0, 0, 2, []), (752, 1, .iadd, 0, 0, 0, 0, []), (753, 1, .iaload, 0, 0, 0, 0, []), (754, 3, .invokevirtual 0, 102, 3, 11, 1, [728, 729, 730, 74]), (757, 1, .aload 0, 2, 0, 0, 0, []),
  (758, 1, .aload 0, 0, 0, 0, 0, []), (759, 1, .iload 0, 3, 0, 0, 0, []), (760, 1, .iconst 0, 0, 0, 0, 1, []), (761, 1, .iadd, 0, 0, 0, 0, []), (762, 1, .iaload, 0, 0, 0, 0, []), (763, 1, .aload 0, 0, 0, 0, 0, []),
  (764, 1, .iload 0, 3, 0, 0, 0, []), (765, 1, .iconst 0, 0, 0, 0, 2, []), (766, 1, .iadd, 0, 0, 0, 0, []), (767, 1, .iaload, 0, 0, 0, 0, []), (768, 3, .invokevirtual 0, 179, 3, 12, 1, [1422, 1423, 1424, 86]), (771, 3, .if_icmp .eq 0, 1387, 0, 0, 0, []),
  (774, 1, .iconst 0, 0, 0, 0, 0, []), (775, 1, .ireturn, 1, 0, 0, 0, []), (776, 1, .aload 0, 1, 0, 0, 0, []), (777, 1, .aload 0, 0, 0, 0, 0, []), (778, 1, .iload 0, 3, 0, 0, 0, []), (779, 1, .iconst 0, 0, 0, 0, 1, []),
  (780, 1, .iadd, 0, 0, 0, 0, []), (781, 1, .iaload, 0, 0, 0, 0, []), (782, 1, .aload 0, 0, 0, 0, 0, []), (783, 1, .iload 0, 3, 0, 0, 0, []), (784, 1, .iconst 0, 0, 0, 0, 2, []), (785, 1, .iadd, 0, 0, 0, 0, []),
  (786, 1, .iaload, 0, 0, 0, 0, []), (787, 1, .aload 0, 0, 0, 0, 0, []), (788, 1, .iload 0, 3, 0, 0, 0, []), (789, 1, .iconst 0, 0, 0, 0, 3, []), (790, 1, .iadd, 0, 0, 0, 0, []), (791, 1, .iaload, 0, 0, 0, 0, []),
  (792, 1, .aload 0, 0, 0, 0, 0, []), (793, 1, .iload 0, 3, 0, 0, 0, []), (794, 1, .iconst 0, 0, 0, 0, 4, []), (795, 1, .iadd, 0, 0, 0, 0, []), (796, 1, .iaload, 0, 0, 0, 0, []), (797, 3, .invokevirtual 0, 103, 5, 11, 1, [737, 738, 739, 74]),
  (800, 1, .aload 0, 2, 0, 0, 0, []), (801, 1, .aload 0, 0, 0, 0, 0, []), (802, 1, .iload 0, 3, 0, 0, 0, []), (803, 1, .iconst 0, 0, 0, 0, 1, []), (804, 1, .iadd, 0, 0, 0, 0, []), (805, 1, .iaload, 0, 0, 0, 0, []),
  (806, 1, .aload 0, 0, 0, 0, 0, []), (807, 1, .iload 0, 3, 0, 0, 0, []), (808, 1, .iconst 0, 0, 0, 0, 2, []), (809, 1, .iadd, 0, 0, 0, 0, []), (810, 1, .iaload, 0, 0, 0, 0, []), (811, 1, .aload 0, 0, 0, 0, 0, []),
  (812, 1, .iload 0, 3, 0, 0, 0, []), (813, 1, .iconst 0, 0, 0, 0, 3, []), (814, 1, .iadd, 0, 0, 0, 0, []), (815, 1, .iaload, 0, 0, 0, 0, []), (816, 1, .aload 0, 0, 0, 0, 0, []), (817, 1, .iload 0, 3, 0, 0, 0, []),
  (818, 1, .iconst 0, 0, 0, 0, 4, []), (819, 1, .iadd, 0, 0, 0, 0, []), (820, 1, .iaload, 0, 0, 0, 0, []), (821, 3, .invokevirtual 0, 180, 5, 12, 1, [1430, 1431, 1432, 86]), (824, 3, .if_icmp .eq 0, 1387, 0, 0, 0, []), (827, 1, .iconst 0, 0, 0, 0, 0, []),
  (828, 1, .ireturn, 1, 0, 0, 0, []), (829, 1, .aload 0, 1, 0, 0, 0, []), (830, 1, .aload 0, 0, 0, 0, 0, []), (831, 1, .iload 0, 3, 0, 0, 0, []), (832, 1, .iconst 0, 0, 0, 0, 1, []), (833, 1, .iadd, 0, 0, 0, 0, []),
  (834, 1, .iaload, 0, 0, 0, 0, []), (835, 1, .aload 0, 0, 0, 0, 0, []), (836, 1, .iload 0, 3, 0, 0, 0, []), (837, 1, .iconst 0, 0, 0, 0, 2, []), (838, 1, .iadd, 0, 0, 0, 0, []), (839, 1, .iaload, 0, 0, 0, 0, []),
  (840, 1, .aload 0, 0, 0, 0, 0, []), (841, 1, .iload 0, 3, 0, 0, 0, []), (842, 1, .iconst 0, 0, 0, 0, 3, []), (843, 1, .iadd, 0, 0, 0, 0, []), (844, 1, .iaload, 0, 0, 0, 0, []), (845, 3, .invokevirtual 0, 104, 4, 11, 1, [745, 746, 747, 74]),
  (848, 1, .aload 0, 2, 0, 0, 0, []), (849, 1, .aload 0, 0, 0, 0, 0, []), (850, 1, .iload 0, 3, 0, 0, 0, []), (851, 1, .iconst 0, 0, 0, 0, 1, []), (852, 1, .iadd, 0, 0, 0, 0, []), (853, 1, .iaload, 0, 0, 0, 0, []),
  (854, 1, .aload 0, 0, 0, 0, 0, []), (855, 1, .iload 0, 3, 0, 0, 0, []), (856, 1, .iconst 0, 0, 0, 0, 2, []), (857, 1, .iadd, 0, 0, 0, 0, []), (858, 1, .iaload, 0, 0, 0, 0, []), (859, 1, .aload 0, 0, 0, 0, 0, []),
  (860, 1, .iload 0, 3, 0, 0, 0, []), (861, 1, .iconst 0, 0, 0, 0, 3, []), (862, 1, .iadd, 0, 0, 0, 0, []), (863, 1, .iaload, 0, 0, 0, 0, []), (864, 3, .invokevirtual 0, 182, 4, 12, 1, [1434, 1435, 1436, 86]), (867, 3, .if_icmp .eq 0, 1387, 0, 0, 0, []),
  (870, 1, .iconst 0, 0, 0, 0, 0, []), (871, 1, .ireturn, 1, 0, 0, 0, []), (872, 1, .aload 0, 1, 0, 0, 0, []), (873, 1, .aload 0, 0, 0, 0, 0, []), (874, 1, .iload 0, 3, 0, 0, 0, []), (875, 1, .iconst 0, 0, 0, 0, 1, []),
  (876, 1, .iadd, 0, 0, 0, 0, []), (877, 1, .iaload, 0, 0, 0, 0, []), (878, 1, .aload 0, 0, 0, 0, 0, []), (879, 1, .iload 0, 3, 0, 0, 0, []), (880, 1, .iconst 0, 0, 0, 0, 2, []), (881, 1, .iadd, 0, 0, 0, 0, []),
  (882, 1, .iaload, 0, 0, 0, 0, []), (883, 3, .invokevirtual 0, 105, 3, 11, 1, [753, 754, 755, 74]), (886, 1, .aload 0, 2, 0, 0, 0, []), (887, 1, .aload 0, 0, 0, 0, 0, []), (888, 1, .iload 0, 3, 0, 0, 0, []), (889, 1, .iconst 0, 0, 0, 0, 1, []),
  (890, 1, .iadd, 0, 0, 0, 0, []), (891, 1, .iaload, 0, 0, 0, 0, []), (892, 1, .aload 0, 0, 0, 0, 0, []), (893, 1, .iload 0, 3, 0, 0, 0, []), (894, 1, .iconst 0, 0, 0, 0, 2, []), (895, 1, .iadd, 0, 0, 0, 0, []),
  (896, 1, .iaload, 0, 0, 0, 0, []), (897, 3, .invokevirtual 0, 186, 3, 12, 1, [1442, 1443, 1444, 86]), (900, 3, .if_icmp .eq 0, 1387, 0, 0, 0, []), (903, 1, .iconst 0, 0, 0, 0, 0, []), (904, 1, .ireturn, 1, 0, 0, 0, []), (905, 1, .aload 0, 1, 0, 0, 0, []),
  (906, 1, .aload 0, 0, 0, 0, 0, []), (907, 1, .iload 0, 3, 0, 0, 0, []), (908, 1, .iconst 0, 0, 0, 0, 1, []), (909, 1, .iadd, 0, 0, 0, 0, []), (910, 1, .iaload, 0, 0, 0, 0, []), (911, 3, .invokevirtual 0, 106, 2, 11, 1, [785, 786, 787, 74]),
  (914, 1, .aload 0, 2, 0, 0, 0, []), (915, 1, .aload 0, 0, 0, 0, 0, []), (916, 1, .iload 0, 3, 0, 0, 0, []), (917, 1, .iconst 0, 0, 0, 0, 1, []), (918, 1, .iadd, 0, 0, 0, 0, []), (919, 1, .iaload, 0, 0, 0, 0, []),
  (920, 3, .invokevirtual 0, 188, 2, 12, 1, [1458, 1459, 1460, 86]), (923, 3, .if_icmp .eq 0, 1387, 0, 0, 0, []), (926, 1, .iconst 0, 0, 0, 0, 0, []), (927, 1, .ireturn, 1, 0, 0, 0, []), (928, 1, .aload 0, 1, 0, 0, 0, []), (929, 1, .aload 0, 0, 0, 0, 0, []),
  (930, 1, .iload 0, 3, 0, 0, 0, []), (931, 1, .iconst 0, 0, 0, 0, 1, []), (932, 1, .iadd, 0, 0, 0, 0, []), (933, 1, .iaload, 0, 0, 0, 0, []), (934, 1, .aload 0, 0, 0, 0, 0, []), (935, 1, .iload 0, 3, 0, 0, 0, []),
  (936, 1, .iconst 0, 0, 0, 0, 2, []), (937, 1, .iadd, 0, 0, 0, 0, []), (938, 1, .iaload, 0, 0, 0, 0, []), (939, 3, .invokevirtual 0, 107, 3, 11, 1, [799, 800, 801, 74]), (942, 1, .aload 0, 2, 0, 0, 0, []), (943, 1, .aload 0, 0, 0, 0, 0, []),
  (944, 1, .iload 0, 3, 0, 0, 0, []), (945, 1, .iconst 0, 0, 0, 0, 1, []), (946, 1, .iadd, 0, 0, 0, 0, []), (947, 1, .iaload, 0, 0, 0, 0, []), (948, 1, .aload 0, 0, 0, 0, 0, []), (949, 1, .iload 0, 3, 0, 0, 0, []),
  (950, 1, .iconst 0, 0, 0, 0, 2, []), (951, 1, .iadd, 0, 0, 0, 0, []), (952, 1, .iaload, 0, 0, 0, 0, []), (953, 3, .invokevirtual 0, 196, 3, 12, 1, [1467, 1468, 1469, 86]), (956, 3, .if_icmp .eq 0, 1387, 0, 0, 0, []), (959, 1, .iconst 0, 0, 0, 0, 0, []),
  (960, 1, .ireturn, 1, 0, 0, 0, []), (961, 1, .aload 0, 1, 0, 0, 0, []), (962, 1, .aload 0, 0, 0, 0, 0, []), (963, 1, .iload 0, 3, 0, 0, 0, []), (964, 1, .iconst 0, 0, 0, 0, 1, []), (965, 1, .iadd, 0, 0, 0, 0, []),
  (966, 1, .iaload, 0, 0, 0, 0, []), (967, 1, .aload 0, 0, 0, 0, 0, []), (968, 1, .iload 0, 3, 0, 0, 0, []), (969, 1, .iconst 0, 0, 0, 0, 2, []), (970, 1, .iadd, 0, 0, 0, 0, []), (971, 1, .iaload, 0, 0, 0, 0, []),
  (972, 1, .aload 0, 0, 0, 0, 0, []), (973, 1, .iload 0, 3, 0, 0, 0, []), (974, 1, .iconst 0, 0, 0, 0, 3, []), (975, 1, .iadd, 0, 0, 0, 0, []), (976, 1, .iaload, 0, 0, 0, 0, []), (977, 3, .invokevirtual 0, 108, 4, 11, 2, [839, 840, 841, 74]),
  (980, 1, .aload 0, 2, 0, 0, 0, []), (981, 1, .aload 0, 0, 0, 0, 0, []), (982, 1, .iload 0, 3, 0, 0, 0, []), (983, 1, .iconst 0, 0, 0, 0, 1, []), (984, 1, .iadd, 0, 0, 0, 0, []), (985, 1, .iaload, 0, 0, 0, 0, []),
  (986, 1, .aload 0, 0, 0, 0, 0, []), (987, 1, .iload 0, 3, 0, 0, 0, []), (988, 1, .iconst 0, 0, 0, 0, 2, []), (989, 1, .iadd, 0, 0, 0, 0, []), (990, 1, .iaload, 0, 0, 0, 0, []), (991, 1, .aload 0, 0, 0, 0, 0, []),
  (992, 1, .iload 0, 3, 0, 0, 0, []), (993, 1, .iconst 0, 0, 0, 0, 3, []), (994, 1, .iadd, 0, 0, 0, 0, []), (995, 1, .iaload, 0, 0, 0, 0, []), (996, 3, .invokevirtual 0, 197, 4, 12, 2, [1501, 1502, 1503, 86]), (999, 1, .lcmp, 0, 0, 0, 0, []),
  (1000, 3, .ifCond .eq 0, 1387, 0, 0, 0, []), (1003, 1, .iconst 0, 0, 0, 0, 0, []), (1004, 1, .ireturn, 1, 0, 0, 0, []), (1005, 1, .aload 0, 1, 0, 0, 0, []), (1006, 1, .aload 0, 0, 0, 0, 0, []), (1007, 1, .iload 0, 3, 0, 0, 0, []),
  (1008, 1, .iconst 0, 0, 0, 0, 1, []), (1009, 1, .iadd, 0, 0, 0, 0, []), (1010, 1, .iaload, 0, 0, 0, 0, []), (1011, 3, .invokevirtual 0, 110, 2, 11, 1, [843, 844, 845, 74]), (1014, 1, .aload 0, 2, 0, 0, 0, []), (1015, 1, .aload 0, 0, 0, 0, 0, []),
  (1016, 1, .iload 0, 3, 0, 0, 0, []), (1017, 1, .iconst 0, 0, 0, 0, 1, []), (1018, 1, .iadd, 0, 0, 0, 0, []), (1019, 1, .iaload, 0, 0, 0, 0, []), (1020, 3, .invokevirtual 0, 198, 2, 12, 1, [1505, 1506, 1507, 86]), (1023, 3, .if_icmp .eq 0, 1387, 0, 0, 0, []),
  (1026, 1, .iconst 0, 0, 0, 0, 0, []), (1027, 1, .ireturn, 1, 0, 0, 0, []), (1028, 1, .aload 0, 1, 0, 0, 0, []), (1029, 3, .invokevirtual 0, 111, 1, 11, 1, [858, 859, 860, 74]), (1032, 1, .aload 0, 2, 0, 0, 0, []), (1033, 3, .invokevirtual 0, 200, 1, 12, 1, [1509, 1510, 1511, 86]),
  (1036, 3, .if_icmp .eq 0, 1387, 0, 0, 0, []), (1039, 1, .iconst 0, 0, 0, 0, 0, []), (1040, 1, .ireturn, 1, 0, 0, 0, []), (1041, 1, .aload 0, 1, 0, 0, 0, []), (1042, 1, .aload 0, 0, 0, 0, 0, []), (1043, 1, .iload 0, 3, 0, 0, 0, []),
  (1044, 1, .iconst 0, 0, 0, 0, 1, []), (1045, 1, .iadd, 0, 0, 0, 0, []), (1046, 1, .iaload, 0, 0, 0, 0, []), (1047, 1, .aload 0, 0, 0, 0, 0, []), (1048, 1, .iload 0, 3, 0, 0, 0, []), (1049, 1, .iconst 0, 0, 0, 0, 2, []),
  (1050, 1, .iadd, 0, 0, 0, 0, []), (1051, 1, .iaload, 0, 0, 0, 0, []), (1052, 1, .aload 0, 0, 0, 0, 0, []), (1053, 1, .iload 0, 3, 0, 0, 0, []), (1054, 1, .iconst 0, 0, 0, 0, 3, []), (1055, 1, .iadd, 0, 0, 0, 0, []),
  (1056, 1, .iaload, 0, 0, 0, 0, []), (1057, 1, .aload 0, 0, 0, 0, 0, []), (1058, 1, .iload 0, 3, 0, 0, 0, []), (1059, 1, .iconst 0, 0, 0, 0, 4, []), (1060, 1, .iadd, 0, 0, 0, 0, []), (1061, 1, .iaload, 0, 0, 0, 0, []),
  (1062, 3, .invokevirtual 0, 112, 5, 11, 1, [871, 872, 873, 74]), (1065, 1, .aload 0, 2, 0, 0, 0, []), (1066, 1, .aload 0, 0, 0, 0, 0, []), (1067, 1, .iload 0, 3, 0, 0, 0, []), (1068, 1, .iconst 0, 0, 0, 0, 1, []), (1069, 1, .iadd, 0, 0, 0, 0, []),
  (1070, 1, .iaload, 0, 0, 0, 0, []), (1071, 1, .aload 0, 0, 0, 0, 0, []), (1072, 1, .iload 0, 3, 0, 0, 0, []), (1073, 1, .iconst 0, 0, 0, 0, 2, []), (1074, 1, .iadd, 0, 0, 0, 0, []), (1075, 1, .iaload, 0, 0, 0, 0, []),
  (1076, 1, .aload 0, 0, 0, 0, 0, []), (1077, 1, .iload 0, 3, 0, 0, 0, []), (1078, 1, .iconst 0, 0, 0, 0, 3, []), (1079, 1, .iadd, 0, 0, 0, 0, []), (1080, 1, .iaload, 0, 0, 0, 0, []), (1081, 1, .aload 0, 0, 0, 0, 0, []),
  (1082, 1, .iload 0, 3, 0, 0, 0, []), (1083, 1, .iconst 0, 0, 0, 0, 4, []), (1084, 1, .iadd, 0, 0, 0, 0, []), (1085, 1, .iaload, 0, 0, 0, 0, []), (1086, 3, .invokevirtual 0, 201, 5, 12, 1, [1517, 1518, 1519, 86]), (1089, 3, .if_icmp .eq 0, 1387, 0, 0, 0, []),
  (1092, 1, .iconst 0, 0, 0, 0, 0, []), (1093, 1, .ireturn, 1, 0, 0, 0, []), (1094, 1, .aload 0, 1, 0, 0, 0, []), (1095, 1, .aload 0, 0, 0, 0, 0, []), (1096, 1, .iload 0, 3, 0, 0, 0, []), (1097, 1, .iconst 0, 0, 0, 0, 1, []),
  (1098, 1, .iadd, 0, 0, 0, 0, []), (1099, 1, .iaload, 0, 0, 0, 0, []), (1100, 3, .invokevirtual 0, 113, 2, 11, 2, [880, 881, 882, 74]), (1103, 1, .aload 0, 2, 0, 0, 0, []), (1104, 1, .aload 0, 0, 0, 0, 0, []), (1105, 1, .iload 0, 3, 0, 0, 0, []),
  (1106, 1, .iconst 0, 0, 0, 0, 1, []), (1107, 1, .iadd, 0, 0, 0, 0, []), (1108, 1, .iaload, 0, 0, 0, 0, []), (1109, 3, .invokevirtual 0, 205, 2, 12, 2, [1522, 1523, 1524, 86]), (1112, 1, .lcmp, 0, 0, 0, 0, []), (1113, 3, .ifCond .eq 0, 1387, 0, 0, 0, []),
  (1116, 1, .iconst 0, 0, 0, 0, 0, []), (1117, 1, .ireturn, 1, 0, 0, 0, []), (1118, 1, .aload 0, 1, 0, 0, 0, []), (1119, 1, .aload 0, 0, 0, 0, 0, []), (1120, 1, .iload 0, 3, 0, 0, 0, []), (1121, 1, .iconst 0, 0, 0, 0, 1, []),
  (1122, 1, .iadd, 0, 0, 0, 0, []), (1123, 1, .iaload, 0, 0, 0, 0, []), (1124, 3, .invokevirtual 0, 114, 2, 11, 1, [915, 916, 917, 74]), (1127, 1, .aload 0, 2, 0, 0, 0, []), (1128, 1, .aload 0, 0, 0, 0, 0, []), (1129, 1, .iload 0, 3, 0, 0, 0, []),
  (1130, 1, .iconst 0, 0, 0, 0, 1, []), (1131, 1, .iadd, 0, 0, 0, 0, []), (1132, 1, .iaload, 0, 0, 0, 0, []), (1133, 3, .invokevirtual 0, 207, 2, 12, 1, [1538, 1539, 1540, 86]), (1136, 3, .if_icmp .eq 0, 1387, 0, 0, 0, []), (1139, 1, .iconst 0, 0, 0, 0, 0, []),
  (1140, 1, .ireturn, 1, 0, 0, 0, []), (1141, 1, .aload 0, 1, 0, 0, 0, []), (1142, 1, .aload 0, 0, 0, 0, 0, []), (1143, 1, .iload 0, 3, 0, 0, 0, []), (1144, 1, .iconst 0, 0, 0, 0, 1, []), (1145, 1, .iadd, 0, 0, 0, 0, []),
  (1146, 1, .iaload, 0, 0, 0, 0, []), (1147, 3, .invokevirtual 0, 115, 2, 11, 1, [932, 933, 934, 74]), (1150, 1, .aload 0, 2, 0, 0, 0, []), (1151, 1, .aload 0, 0, 0, 0, 0, []), (1152, 1, .iload 0, 3, 0, 0, 0, []), (1153, 1, .iconst 0, 0, 0, 0, 1, []),
  (1154, 1, .iadd, 0, 0, 0, 0, []), (1155, 1, .iaload, 0, 0, 0, 0, []), (1156, 3, .invokevirtual 0, 208, 2, 12, 1, [1546, 1547, 1548, 86]), (1159, 3, .if_icmp .eq 0, 1387, 0, 0, 0, []), (1162, 1, .iconst 0, 0, 0, 0, 0, []), (1163, 1, .ireturn, 1, 0, 0, 0, []),
  (1164, 1, .aload 0, 1, 0, 0, 0, []), (1165, 1, .aload 0, 0, 0, 0, 0, []), (1166, 1, .iload 0, 3, 0, 0, 0, []), (1167, 1, .iconst 0, 0, 0, 0, 1, []), (1168, 1, .iadd, 0, 0, 0, 0, []), (1169, 1, .iaload, 0, 0, 0, 0, []),
  (1170, 1, .aload 0, 0, 0, 0, 0, []), (1171, 1, .iload 0, 3, 0, 0, 0, []), (1172, 1, .iconst 0, 0, 0, 0, 2, []), (1173, 1, .iadd, 0, 0, 0, 0, []), (1174, 1, .iaload, 0, 0, 0, 0, []), (1175, 3, .invokevirtual 0, 117, 3, 11, 1, [941, 942, 943, 74]),
  (1178, 1, .aload 0, 2, 0, 0, 0, []), (1179, 1, .aload 0, 0, 0, 0, 0, []), (1180, 1, .iload 0, 3, 0, 0, 0, []), (1181, 1, .iconst 0, 0, 0, 0, 1, []), (1182, 1, .iadd, 0, 0, 0, 0, []), (1183, 1, .iaload, 0, 0, 0, 0, []),
  (1184, 1, .aload 0, 0, 0, 0, 0, []), (1185, 1, .iload 0, 3, 0, 0, 0, []), (1186, 1, .iconst 0, 0, 0, 0, 2, []), (1187, 1, .iadd, 0, 0, 0, 0, []), (1188, 1, .iaload, 0, 0, 0, 0, []), (1189, 3, .invokevirtual 0, 209, 3, 12, 1, [1550, 1551, 1552, 86]),
  (1192, 3, .if_icmp .eq 0, 1387, 0, 0, 0, []), (1195, 1, .iconst 0, 0, 0, 0, 0, []), (1196, 1, .ireturn, 1, 0, 0, 0, []), (1197, 1, .aload 0, 1, 0, 0, 0, []), (1198, 1, .aload 0, 0, 0, 0, 0, []), (1199, 1, .iload 0, 3, 0, 0, 0, []),
  (1200, 1, .iconst 0, 0, 0, 0, 1, []), (1201, 1, .iadd, 0, 0, 0, 0, []), (1202, 1, .iaload, 0, 0, 0, 0, []), (1203, 1, .aload 0, 0, 0, 0, 0, []), (1204, 1, .iload 0, 3, 0, 0, 0, []), (1205, 1, .iconst 0, 0, 0, 0, 2, []),
  (1206, 1, .iadd, 0, 0, 0, 0, []), (1207, 1, .iaload, 0, 0, 0, 0, []), (1208, 3, .invokevirtual 0, 118, 3, 11, 1, [950, 951, 952, 74]), (1211, 1, .aload 0, 2, 0, 0, 0, []), (1212, 1, .aload 0, 0, 0, 0, 0, []), (1213, 1, .iload 0, 3, 0, 0, 0, []),
  (1214, 1, .iconst 0, 0, 0, 0, 1, []), (1215, 1, .iadd, 0, 0, 0, 0, []), (1216, 1, .iaload, 0, 0, 0, 0, []), (1217, 1, .aload 0, 0, 0, 0, 0, []), (1218, 1, .iload 0, 3, 0, 0, 0, []), (1219, 1, .iconst 0, 0, 0, 0, 2, []),
  (1220, 1, .iadd, 0, 0, 0, 0, []), (1221, 1, .iaload, 0, 0, 0, 0, []), (1222, 3, .invokevirtual 0, 210, 3, 12, 1, [1554, 1555, 1556, 86]), (1225, 3, .if_icmp .eq 0, 1387, 0, 0, 0, []), (1228, 1, .iconst 0, 0, 0, 0, 0, []), (1229, 1, .ireturn, 1, 0, 0, 0, []),
  (1230, 1, .aload 0, 1, 0, 0, 0, []), (1231, 1, .aload 0, 0, 0, 0, 0, []), (1232, 1, .iload 0, 3, 0, 0, 0, []), (1233, 1, .iconst 0, 0, 0, 0, 1, []), (1234, 1, .iadd, 0, 0, 0, 0, []), (1235, 1, .iaload, 0, 0, 0, 0, []),
  (1236, 1, .aload 0, 0, 0, 0, 0, []), (1237, 1, .iload 0, 3, 0, 0, 0, []), (1238, 1, .iconst 0, 0, 0, 0, 2, []), (1239, 1, .iadd, 0, 0, 0, 0, []), (1240, 1, .iaload, 0, 0, 0, 0, []), (1241, 3, .ifCond .eq 0, 1248, 0, 0, 0, []),
  (1244, 1, .iconst 0, 0, 0, 0, 1, []), (1245, 3, .goto 0, 1249, 0, 0, 0, []), (1248, 1, .iconst 0, 0, 0, 0, 0, []), (1249, 3, .invokevirtual 0, 119, 3, 11, 1, [954, 955, 956, 74]), (1252, 1, .aload 0, 2, 0, 0, 0, []), (1253, 1, .aload 0, 0, 0, 0, 0, []),
  (1254, 1, .iload 0, 3, 0, 0, 0, []), (1255, 1, .iconst 0, 0, 0, 0, 1, []), (1256, 1, .iadd, 0, 0, 0, 0, []), (1257, 1, .iaload, 0, 0, 0, 0, []), (1258, 1, .aload 0, 0, 0, 0, 0, []), (1259, 1, .iload 0, 3, 0, 0, 0, []),
  (1260, 1, .iconst 0, 0, 0, 0, 2, []), (1261, 1, .iadd, 0, 0, 0, 0, []), (1262, 1, .iaload, 0, 0, 0, 0, []), (1263, 3, .ifCond .eq 0, 1270, 0, 0, 0, []), (1266, 1, .iconst 0, 0, 0, 0, 1, []), (1267, 3, .goto 0, 1271, 0, 0, 0, []),
  (1270, 1, .iconst 0, 0, 0, 0, 0, []), (1271, 3, .invokevirtual 0, 211, 3, 12, 1, [1559, 1560, 1561, 86]), (1274, 3, .if_icmp .eq 0, 1387, 0, 0, 0, []), (1277, 1, .iconst 0, 0, 0, 0, 0, []), (1278, 1, .ireturn, 1, 0, 0, 0, []), (1279, 1, .aload 0, 1, 0, 0, 0, []),
  (1280, 1, .aload 0, 0, 0, 0, 0, []), (1281, 1, .iload 0, 3, 0, 0, 0, []), (1282, 1, .iconst 0, 0, 0, 0, 1, []), (1283, 1, .iadd, 0, 0, 0, 0, []), (1284, 1, .iaload, 0, 0, 0, 0, []), (1285, 3, .invokevirtual 0, 120, 2, 11, 1, [958, 959, 960, 74]),
  (1288, 1, .aload 0, 2, 0, 0, 0, []), (1289, 1, .aload 0, 0, 0, 0, 0, []), (1290, 1, .iload 0, 3, 0, 0, 0, []), (1291, 1, .iconst 0, 0, 0, 0, 1, []), (1292, 1, .iadd, 0, 0, 0, 0, []), (1293, 1, .iaload, 0, 0, 0, 0, []),
  (1294, 3, .invokevirtual 0, 213, 2, 12, 1, [1563, 1564, 1565, 86]), (1297, 3, .if_icmp .eq 0, 1387, 0, 0, 0, []), (1300, 1, .iconst 0, 0, 0, 0, 0, []), (1301, 1, .ireturn, 1, 0, 0, 0, []), (1302, 1, .aload 0, 1, 0, 0, 0, []), (1303, 1, .aload 0, 0, 0, 0, 0, []),
  (1304, 1, .iload 0, 3, 0, 0, 0, []), (1305, 1, .iconst 0, 0, 0, 0, 1, []), (1306, 1, .iadd, 0, 0, 0, 0, []), (1307, 1, .iaload, 0, 0, 0, 0, []), (1308, 3, .invokevirtual 0, 121, 2, 11, 1, [978, 979, 980, 74]), (1311, 1, .aload 0, 2, 0, 0, 0, []),
  (1312, 1, .aload 0, 0, 0, 0, 0, []), (1313, 1, .iload 0, 3, 0, 0, 0, []), (1314, 1, .iconst 0, 0, 0, 0, 1, []), (1315, 1, .iadd, 0, 0, 0, 0, []), (1316, 1, .iaload, 0, 0, 0, 0, []), (1317, 3, .invokevirtual 0, 214, 2, 12, 1, [1571, 1572, 1573, 86]),
  (1320, 3, .if_icmp .eq 0, 1387, 0, 0, 0, []), (1323, 1, .iconst 0, 0, 0, 0, 0, []), (1324, 1, .ireturn, 1, 0, 0, 0, []), (1325, 1, .aload 0, 1, 0, 0, 0, []), (1326, 3, .invokevirtual 0, 122, 1, 11, 1, [986, 987, 988, 74]), (1329, 1, .aload 0, 2, 0, 0, 0, []),
  (1330, 3, .invokevirtual 0, 215, 1, 12, 1, [1575, 1576, 1577, 86]), (1333, 3, .if_icmp .eq 0, 1387, 0, 0, 0, []), (1336, 1, .iconst 0, 0, 0, 0, 0, []), (1337, 1, .ireturn, 1, 0, 0, 0, []), (1338, 1, .aload 0, 1, 0, 0, 0, []), (1339, 3, .invokevirtual 0, 123, 1, 11, 1, [994, 995, 996, 74]),
  (1342, 1, .aload 0, 2, 0, 0, 0, []), (1343, 3, .invokevirtual 0, 219, 1, 12, 1, [1582, 1583, 1584, 86]), (1346, 3, .if_icmp .eq 0, 1387, 0, 0, 0, []), (1349, 1, .iconst 0, 0, 0, 0, 0, []), (1350, 1, .ireturn, 1, 0, 0, 0, []), (1351, 1, .aload 0, 1, 0, 0, 0, []),
  (1352, 3, .invokevirtual 0, 124, 1, 11, 1, [1017, 1018, 1019, 74]), (1355, 1, .aload 0, 2, 0, 0, 0, []), (1356, 3, .invokevirtual 0, 220, 1, 12, 1, [1598, 1599, 1600, 86]), (1359, 3, .if_icmp .eq 0, 1387, 0, 0, 0, []), (1362, 1, .iconst 0, 0, 0, 0, 0, []), (1363, 1, .ireturn, 1, 0, 0, 0, []),
  (1364, 1, .aload 0, 1, 0, 0, 0, []), (1365, 1, .aload 0, 0, 0, 0, 0, []), (1366, 1, .iload 0, 3, 0, 0, 0, []), (1367, 1, .iconst 0, 0, 0, 0, 1, []), (1368, 1, .iadd, 0, 0, 0, 0, []), (1369, 1, .iaload, 0, 0, 0, 0, []),
  (1370, 3, .invokevirtual 0, 125, 2, 11, 1, [1021, 1022, 1023, 74]), (1373, 1, .aload 0, 2, 0, 0, 0, []), (1374, 1, .aload 0, 0, 0, 0, 0, []), (1375, 1, .iload 0, 3, 0, 0, 0, []), (1376, 1, .iconst 0, 0, 0, 0, 1, []), (1377, 1, .iadd, 0, 0, 0, 0, []),
  (1378, 1, .iaload, 0, 0, 0, 0, []), (1379, 3, .invokevirtual 0, 221, 2, 12, 1, [1602, 1603, 1604, 86]), (1382, 3, .if_icmp .eq 0, 1387, 0, 0, 0, []), (1385, 1, .iconst 0, 0, 0, 0, 0, []), (1386, 1, .ireturn, 1, 0, 0, 0, []), (1387, 3, .iinc 0 0, 3, 0, 0, 6, []),
  (1390, 3, .goto 0, 18, 0, 0, 0, []), (1393, 1, .iconst 0, 0, 0, 0, 1, []), (1394, 1, .ireturn, 1, 0, 0, 0, [])
  ]
def mr_X0_init : mv_T := (yX0_init, cX0_init, 2, none, RX0, mc_X0_init, 1, 8, 439, 20)
def mr_X0_layOut : mv_T := (yX0_layOut, cX0_layOut, 5, none, RX0, mc_X0_layOut, 1, 0, 0, 21)
def mr_X0_clearAway : mv_T := (yX0_clearAway, cX0_clearAway, 2, none, RX0, mc_X0_clearAway, 0, 0, 0, 0)
def mr_X0_takeFrom : mv_T := (yX0_takeFrom, cX0_takeFrom, 2, none, RX0, mc_X0_takeFrom, 1, 0, 0, 26)
def mr_X0_placeOf : mv_T := (yX0_placeOf, cX0_placeOf, 2, (some .int), RX0, mc_X0_placeOf, 0, 0, 0, 0)
def mr_X0_beside : mv_T := (yX0_beside, cX0_beside, 5, (some .int), RX0, mc_X0_beside, 0, 0, 0, 0)
def mr_X0_sideTowards : mv_T := (yX0_sideTowards, cX0_sideTowards, 4, (some .int), RX0, mc_X0_sideTowards, 1, 0, 0, 24)
def mr_X0_roadAt : mv_T := (yX0_roadAt, cX0_roadAt, 4, (some .int), RX0, mc_X0_roadAt, 0, 0, 0, 0)
def mr_X0_layRoad : mv_T := (yX0_layRoad, cX0_layRoad, 5, none, RX0, mc_X0_layRoad, 1, 0, 0, 24)
def mr_X0_marketOn : mv_T := (yX0_marketOn, cX0_marketOn, 3, (some .int), RX0, mc_X0_marketOn, 0, 0, 0, 0)
def mr_X0_idleAcres : mv_T := (yX0_idleAcres, cX0_idleAcres, 3, (some .int), RX0, mc_X0_idleAcres, 0, 0, 0, 0)
def mr_X1_init : mv_T := (yX1_init, cX1_init, 1, none, RX1, mc_X1_init, 3, 37, 2636, 61)
def mr_X1_forgetWays : mv_T := (yX1_forgetWays, cX1_forgetWays, 1, none, RX1, mc_X1_forgetWays, 0, 0, 0, 0)
def mr_X1_forgetBids : mv_T := (yX1_forgetBids, cX1_forgetBids, 1, none, RX1, mc_X1_forgetBids, 0, 0, 0, 0)
def mr_X1_settle : mv_T := (yX1_settle, cX1_settle, 1, none, RX1, mc_X1_settle, 4, 0, 0, 96)
def mr_X1_reckonBids : mv_T := (yX1_reckonBids, cX1_reckonBids, 2, none, RX1, mc_X1_reckonBids, 3, 0, 0, 75)
def mr_X1_reckonOffer : mv_T := (yX1_reckonOffer, cX1_reckonOffer, 8, none, RX1, mc_X1_reckonOffer, 2, 0, 0, 48)
def mr_X1_wayOf : mv_T := (yX1_wayOf, cX1_wayOf, 4, (some .int), RX1, mc_X1_wayOf, 0, 0, 0, 0)
def mr_X1_takerOf : mv_T := (yX1_takerOf, cX1_takerOf, 2, (some .int), RX1, mc_X1_takerOf, 1, 0, 0, 28)
def mr_X1_greatest : mv_T := (yX1_greatest, cX1_greatest, 9, (some .int), RX1, mc_X1_greatest, 0, 0, 0, 0)
def mr_X1_rentAt : mv_T := (yX1_rentAt, cX1_rentAt, 2, (some .long), RX1, mc_X1_rentAt, 1, 0, 0, 24)
def mr_X1_rentBy : mv_T := (yX1_rentBy, cX1_rentBy, 5, (some .long), RX1, mc_X1_rentBy, 0, 0, 0, 0)
def mr_X1_allRents : mv_T := (yX1_allRents, cX1_allRents, 4, (some .long), RX1, mc_X1_allRents, 2, 0, 0, 45)
def mr_X1_rentsOf : mv_T := (yX1_rentsOf, cX1_rentsOf, 5, (some .long), RX1, mc_X1_rentsOf, 2, 0, 0, 49)
def mr_X1_arriving : mv_T := (yX1_arriving, cX1_arriving, 4, (some .int), RX1, mc_X1_arriving, 1, 0, 0, 22)
def mr_X1_isTakenBy : mv_T := (yX1_isTakenBy, cX1_isTakenBy, 3, (some .boolean), RX1, mc_X1_isTakenBy, 0, 0, 0, 0)
def mr_X1_farthest : mv_T := (yX1_farthest, cX1_farthest, 4, (some .int), RX1, mc_X1_farthest, 1, 0, 0, 23)
def mr_X1_borderPairs : mv_T := (yX1_borderPairs, cX1_borderPairs, 3, (some .int), RX1, mc_X1_borderPairs, 1, 0, 0, 24)
def mr_X1_isBorder : mv_T := (yX1_isBorder, cX1_isBorder, 3, (some .boolean), RX1, mc_X1_isBorder, 0, 0, 0, 0)
def mr_X1_wasteAcres : mv_T := (yX1_wasteAcres, cX1_wasteAcres, 3, (some .int), RX1, mc_X1_wasteAcres, 0, 0, 0, 0)
def mr_X1_fallingWaste : mv_T := (yX1_fallingWaste, cX1_fallingWaste, 6, (some .int), RX1, mc_X1_fallingWaste, 3, 0, 0, 75)
def mr_X2_init : mv_T := (yX2_init, cX2_init, 1, none, RX2, mc_X2_init, 1, 4, 32, 20)
def mr_X2_append : mv_T := (yX2_append, cX2_append, 6, (some .int), RX2, mc_X2_append, 0, 0, 0, 0)
def mr_X2_takeFrom : mv_T := (yX2_takeFrom, cX2_takeFrom, 2, none, RX2, mc_X2_takeFrom, 1, 0, 0, 26)
def mr_X3_init : mv_T := (yX3_init, cX3_init, 1, none, RX3, mc_X3_init, 1, 7, 127, 20)
def mr_X3_reckon : mv_T := (yX3_reckon, cX3_reckon, 11, none, RX3, mc_X3_reckon, 3, 0, 0, 72)
def mr_X3_findCuts : mv_T := (yX3_findCuts, cX3_findCuts, 5, none, RX3, mc_X3_findCuts, 2, 0, 0, 48)
def mr_X3_addCut : mv_T := (yX3_addCut, cX3_addCut, 11, none, RX3, mc_X3_addCut, 0, 0, 0, 0)
def mr_X3_takerAt : mv_T := (yX3_takerAt, cX3_takerAt, 12, (some .int), RX3, mc_X3_takerAt, 1, 0, 0, 25)
def mr_X3_isThere : mv_T := (yX3_isThere, cX3_isThere, 6, (some .boolean), RX3, mc_X3_isThere, 0, 0, 0, 0)
def mr_X3_extend : mv_T := (yX3_extend, cX3_extend, 7, none, RX3, mc_X3_extend, 1, 0, 0, 30)
def mr_X3_commonDivisor : mv_T := (yX3_commonDivisor, cX3_commonDivisor, 11, (some .long), RX3, mc_X3_commonDivisor, 0, 0, 0, 0)
def mr_X4_init : mv_T := (yX4_init, cX4_init, 1, none, RX4, mc_X4_init, 1, 1, 48, 20)
def mr_X4_append : mv_T := (yX4_append, cX4_append, 2, none, RX4, mc_X4_append, 0, 0, 0, 0)
def mr_X4_firstWrong : mv_T := (yX4_firstWrong, cX4_firstWrong, 6, (some .int), RX4, mc_X4_firstWrong, 0, 0, 0, 0)
def mr_X5_init : mv_T := (yX5_init, cX5_init, 1, none, RX5, mc_X5_init, 1, 1, 60, 20)
def mr_X5_append : mv_T := (yX5_append, cX5_append, 7, none, RX5, mc_X5_append, 0, 0, 0, 0)
def mr_X5_firstFault : mv_T := (yX5_firstFault, cX5_firstFault, 5, (some .int), RX5, mc_X5_firstFault, 1, 0, 0, 20)
def mr_X5_isDigit : mv_T := (yX5_isDigit, cX5_isDigit, 1, (some .boolean), RX5, mc_X5_isDigit, 0, 0, 0, 0)
def mr_X6_init : mv_T := (yX6_init, cX6_init, 1, none, RX6, mc_X6_init, 1, 4, 978, 20)
def mr_X6_clearingPrice : mv_T := (yX6_clearingPrice, cX6_clearingPrice, 8, (some .int), RX6, mc_X6_clearingPrice, 2, 0, 0, 60)
def mr_X6_comingAt : mv_T := (yX6_comingAt, cX6_comingAt, 5, (some .int), RX6, mc_X6_comingAt, 0, 0, 0, 0)
def mr_X6_leastPriceFor : mv_T := (yX6_leastPriceFor, cX6_leastPriceFor, 13, (some .int), RX6, mc_X6_leastPriceFor, 1, 0, 0, 28)
def mr_X6_runRounds : mv_T := (yX6_runRounds, cX6_runRounds, 4, (some .int), RX6, mc_X6_runRounds, 4, 0, 0, 112)
def mr_X6_runRound : mv_T := (yX6_runRound, cX6_runRound, 6, (some .boolean), RX6, mc_X6_runRound, 3, 0, 0, 87)
def mr_X6_bestToHold : mv_T := (yX6_bestToHold, cX6_bestToHold, 11, (some .int), RX6, mc_X6_bestToHold, 5, 0, 0, 136)
def mr_X6_rentsAfterRound : mv_T := (yX6_rentsAfterRound, cX6_rentsAfterRound, 5, (some .long), RX6, mc_X6_rentsAfterRound, 4, 0, 0, 112)
def mr_X7_init : mv_T := (yX7_init, cX7_init, 1, none, RX7, mc_X7_init, 1, 12, 300, 20)
def mr_X7_append : mv_T := (yX7_append, cX7_append, 7, (some .int), RX7, mc_X7_append, 0, 0, 0, 0)
def mr_X7_appendPiece : mv_T := (yX7_appendPiece, cX7_appendPiece, 5, none, RX7, mc_X7_appendPiece, 0, 0, 0, 0)
def mr_X7_takeFrom : mv_T := (yX7_takeFrom, cX7_takeFrom, 2, none, RX7, mc_X7_takeFrom, 1, 0, 0, 26)
def mr_X7_yieldOn : mv_T := (yX7_yieldOn, cX7_yieldOn, 3, (some .int), RX7, mc_X7_yieldOn, 0, 0, 0, 0)
def mr_X7_reckonedPrice : mv_T := (yX7_reckonedPrice, cX7_reckonedPrice, 4, (some .int), RX7, mc_X7_reckonedPrice, 0, 0, 0, 0)
def mr_X7_payAtHome : mv_T := (yX7_payAtHome, cX7_payAtHome, 6, (some .long), RX7, mc_X7_payAtHome, 1, 0, 0, 23)
def mr_X7_carriage : mv_T := (yX7_carriage, cX7_carriage, 4, (some .long), RX7, mc_X7_carriage, 1, 0, 0, 22)
def mr_X7_canGo : mv_T := (yX7_canGo, cX7_canGo, 3, (some .boolean), RX7, mc_X7_canGo, 0, 0, 0, 0)
def mr_X7_boughtAt : mv_T := (yX7_boughtAt, cX7_boughtAt, 5, (some .int), RX7, mc_X7_boughtAt, 0, 0, 0, 0)
def mr_X8_init : mv_T := (yX8_init, cX8_init, 1, none, RX8, mc_X8_init, 1, 6, 912, 20)
def mr_X8_reckonFoot : mv_T := (yX8_reckonFoot, cX8_reckonFoot, 5, none, RX8, mc_X8_reckonFoot, 2, 0, 0, 57)
def mr_X8_reckonRoads : mv_T := (yX8_reckonRoads, cX8_reckonRoads, 5, none, RX8, mc_X8_reckonRoads, 2, 0, 0, 57)
def mr_X8_between : mv_T := (yX8_between, cX8_between, 4, (some .int), RX8, mc_X8_between, 2, 0, 0, 57)
def mr_X8_search : mv_T := (yX8_search, cX8_search, 11, none, RX8, mc_X8_search, 1, 0, 0, 27)
def mr_X8_leastFrom : mv_T := (yX8_leastFrom, cX8_leastFrom, 8, (some .int), RX8, mc_X8_leastFrom, 0, 0, 0, 0)
def mr_X9_init : mv_T := (yX9_init, cX9_init, 1, none, RX9, mc_X9_init, 1, 1, 48, 20)
def mr_X9_isBuilt : mv_T := (yX9_isBuilt, cX9_isBuilt, 3, (some .boolean), RX9, mc_X9_isBuilt, 1, 0, 0, 23)
def mr_X9_isAnyBuilt : mv_T := (yX9_isAnyBuilt, cX9_isAnyBuilt, 3, (some .boolean), RX9, mc_X9_isAnyBuilt, 2, 0, 0, 45)
def mr_X9_gainOf : mv_T := (yX9_gainOf, cX9_gainOf, 7, (some .long), RX9, mc_X9_gainOf, 5, 0, 0, 118)
def mr_X9_losersBy : mv_T := (yX9_losersBy, cX9_losersBy, 6, (some .int), RX9, mc_X9_losersBy, 5, 0, 0, 118)
def mr_X9_bestSet : mv_T := (yX9_bestSet, cX9_bestSet, 11, (some .int), RX9, mc_X9_bestSet, 5, 0, 0, 118)
def mr_X9_costOf : mv_T := (yX9_costOf, cX9_costOf, 5, (some .int), RX9, mc_X9_costOf, 0, 0, 0, 0)
def mr_X9_build : mv_T := (yX9_build, cX9_build, 3, none, RX9, mc_X9_build, 4, 0, 0, 96)
def mr_X9_tearDown : mv_T := (yX9_tearDown, cX9_tearDown, 3, none, RX9, mc_X9_tearDown, 3, 0, 0, 73)
def mr_X9_layRoads : mv_T := (yX9_layRoads, cX9_layRoads, 6, none, RX9, mc_X9_layRoads, 2, 0, 0, 48)
def mr_X10_init : mv_T := (yX10_init, cX10_init, 1, none, RX10, mc_X10_init, 2, 27, 803, 41)
def mr_X10_takeFrom : mv_T := (yX10_takeFrom, cX10_takeFrom, 2, none, RX10, mc_X10_takeFrom, 2, 0, 0, 47)
def mr_X11_init : mv_T := (yX11_init, cX11_init, 1, none, RX11, mc_X11_init, 4, 86, 4736, 81)
def mr_X11_feed : mv_T := (yX11_feed, cX11_feed, 4, (some .int), RX11, mc_X11_feed, 1, 0, 0, 26)
def mr_X11_read : mv_T := (yX11_read, cX11_read, 2, (some .int), RX11, mc_X11_read, 2, 0, 0, 45)
def mr_X11_acre : mv_T := (yX11_acre, cX11_acre, 4, (some .int), RX11, mc_X11_acre, 1, 0, 0, 22)
def mr_X11_road : mv_T := (yX11_road, cX11_road, 7, (some .int), RX11, mc_X11_road, 2, 0, 0, 48)
def mr_X11_step : mv_T := (yX11_step, cX11_step, 5, (some .int), RX11, mc_X11_step, 1, 0, 0, 22)
def mr_X11_toll : mv_T := (yX11_toll, cX11_toll, 6, (some .int), RX11, mc_X11_toll, 1, 0, 0, 22)
def mr_X11_way : mv_T := (yX11_way, cX11_way, 5, (some .int), RX11, mc_X11_way, 5, 0, 0, 116)
def mr_X11_market : mv_T := (yX11_market, cX11_market, 4, (some .int), RX11, mc_X11_market, 1, 0, 0, 22)
def mr_X11_use : mv_T := (yX11_use, cX11_use, 7, (some .int), RX11, mc_X11_use, 1, 0, 0, 26)
def mr_X11_year : mv_T := (yX11_year, cX11_year, 3, (some .int), RX11, mc_X11_year, 1, 0, 0, 21)
def mr_X11_price : mv_T := (yX11_price, cX11_price, 7, (some .int), RX11, mc_X11_price, 1, 0, 0, 22)
def mr_X11_tax : mv_T := (yX11_tax, cX11_tax, 5, (some .int), RX11, mc_X11_tax, 2, 0, 0, 45)
def mr_X11_rentTax : mv_T := (yX11_rentTax, cX11_rentTax, 4, (some .int), RX11, mc_X11_rentTax, 1, 0, 0, 22)
def mr_X11_bid : mv_T := (yX11_bid, cX11_bid, 5, (some .long), RX11, mc_X11_bid, 5, 0, 0, 116)
def mr_X11_goes : mv_T := (yX11_goes, cX11_goes, 5, (some .int), RX11, mc_X11_goes, 5, 0, 0, 116)
def mr_X11_rent : mv_T := (yX11_rent, cX11_rent, 3, (some .long), RX11, mc_X11_rent, 5, 0, 0, 116)
def mr_X11_comes : mv_T := (yX11_comes, cX11_comes, 3, (some .int), RX11, mc_X11_comes, 5, 0, 0, 116)
def mr_X11_piece : mv_T := (yX11_piece, cX11_piece, 6, (some .int), RX11, mc_X11_piece, 1, 0, 0, 24)
def mr_X11_bought : mv_T := (yX11_bought, cX11_bought, 5, (some .int), RX11, mc_X11_bought, 1, 0, 0, 24)
def mr_X11_clears : mv_T := (yX11_clears, cX11_clears, 3, (some .int), RX11, mc_X11_clears, 5, 0, 0, 116)
def mr_X11_rounds : mv_T := (yX11_rounds, cX11_rounds, 4, (some .int), RX11, mc_X11_rounds, 5, 0, 0, 135)
def mr_X11_ring : mv_T := (yX11_ring, cX11_ring, 4, (some .int), RX11, mc_X11_ring, 4, 0, 0, 102)
def mr_X11_edge : mv_T := (yX11_edge, cX11_edge, 5, (some .long), RX11, mc_X11_edge, 4, 0, 0, 102)
def mr_X11_unfitRing : mv_T := (yX11_unfitRing, cX11_unfitRing, 3, (some .int), RX11, mc_X11_unfitRing, 0, 0, 0, 0)
def mr_X11_out : mv_T := (yX11_out, cX11_out, 2, (some .int), RX11, mc_X11_out, 5, 0, 0, 116)
def mr_X11_borders : mv_T := (yX11_borders, cX11_borders, 1, (some .int), RX11, mc_X11_borders, 5, 0, 0, 116)
def mr_X11_plan : mv_T := (yX11_plan, cX11_plan, 7, (some .int), RX11, mc_X11_plan, 2, 0, 0, 47)
def mr_X11_gain : mv_T := (yX11_gain, cX11_gain, 3, (some .long), RX11, mc_X11_gain, 6, 0, 0, 144)
def mr_X11_best : mv_T := (yX11_best, cX11_best, 3, (some .int), RX11, mc_X11_best, 6, 0, 0, 148)
def mr_X11_losers : mv_T := (yX11_losers, cX11_losers, 3, (some .int), RX11, mc_X11_losers, 6, 0, 0, 143)
def mr_X11_unfitPlan : mv_T := (yX11_unfitPlan, cX11_unfitPlan, 2, (some .int), RX11, mc_X11_unfitPlan, 2, 0, 0, 45)
def mr_X11_falls : mv_T := (yX11_falls, cX11_falls, 4, (some .int), RX11, mc_X11_falls, 5, 0, 0, 116)
def mr_X11_own : mv_T := (yX11_own, cX11_own, 5, (some .int), RX11, mc_X11_own, 1, 0, 0, 22)
def mr_X11_held : mv_T := (yX11_held, cX11_held, 5, (some .int), RX11, mc_X11_held, 1, 0, 0, 21)
def mr_X11_hold : mv_T := (yX11_hold, cX11_hold, 3, (some .int), RX11, mc_X11_hold, 6, 0, 0, 166)
def mr_X11_put : mv_T := (yX11_put, cX11_put, 2, (some .int), RX11, mc_X11_put, 1, 0, 0, 21)
def mr_X11_judge : mv_T := (yX11_judge, cX11_judge, 2, (some .int), RX11, mc_X11_judge, 5, 0, 0, 116)
def mr_X11_image : mv_T := (yX11_image, cX11_image, 1, (some .int), RX11, mc_X11_image, 3, 0, 0, 68)
def mr_X11_on : mv_T := (yX11_on, cX11_on, 1, (some .int), RX11, mc_X11_on, 3, 0, 0, 68)
def mr_X11_count : mv_T := (yX11_count, cX11_count, 2, (some .int), RX11, mc_X11_count, 5, 0, 0, 116)
def mr_X11_refuse : mv_T := (yX11_refuse, cX11_refuse, 2, (some .int), RX11, mc_X11_refuse, 0, 0, 0, 0)
def mr_X11_refuseLong : mv_T := (yX11_refuseLong, cX11_refuseLong, 2, (some .long), RX11, mc_X11_refuseLong, 1, 0, 0, 21)
def mr_X11_unfit : mv_T := (yX11_unfit, cX11_unfit, 3, (some .int), RX11, mc_X11_unfit, 0, 0, 0, 0)
def mr_X11_isNoUse : mv_T := (yX11_isNoUse, cX11_isNoUse, 2, (some .boolean), RX11, mc_X11_isNoUse, 0, 0, 0, 0)
def mr_X11_isNoMarket : mv_T := (yX11_isNoMarket, cX11_isNoMarket, 2, (some .boolean), RX11, mc_X11_isNoMarket, 0, 0, 0, 0)
def mr_X11_offerOf : mv_T := (yX11_offerOf, cX11_offerOf, 2, (some .int), RX11, mc_X11_offerOf, 0, 0, 0, 0)
def mr_X12_init : mv_T := (yX12_init, cX12_init, 2, none, RX12, mc_X12_init, 1, 48, 2606, 20)
def mr_X12_no : mv_T := (yX12_no, cX12_no, 2, (some .int), RX12, mc_X12_no, 0, 0, 0, 0)
def mr_X12_noLong : mv_T := (yX12_noLong, cX12_noLong, 2, (some .long), RX12, mc_X12_noLong, 0, 0, 0, 0)
def mr_X12_isIn : mv_T := (yX12_isIn, cX12_isIn, 6, (some .boolean), RX12, mc_X12_isIn, 0, 0, 0, 0)
def mr_X12_outOf : mv_T := (yX12_outOf, cX12_outOf, 6, (some .int), RX12, mc_X12_outOf, 0, 0, 0, 0)
def mr_X12_feed : mv_T := (yX12_feed, cX12_feed, 6, (some .int), RX12, mc_X12_feed, 1, 0, 0, 25)
def mr_X12_sign : mv_T := (yX12_sign, cX12_sign, 1, (some .int), RX12, mc_X12_sign, 0, 0, 0, 0)
def mr_X12_readsLine : mv_T := (yX12_readsLine, cX12_readsLine, 3, (some .boolean), RX12, mc_X12_readsLine, 1, 0, 0, 25)
def mr_X12_reads : mv_T := (yX12_reads, cX12_reads, 1, (some .boolean), RX12, mc_X12_reads, 2, 0, 0, 47)
def mr_X12_read : mv_T := (yX12_read, cX12_read, 3, (some .int), RX12, mc_X12_read, 3, 0, 0, 67)
def mr_X12_acreOf : mv_T := (yX12_acreOf, cX12_acreOf, 2, (some .int), RX12, mc_X12_acreOf, 0, 0, 0, 0)
def mr_X12_isAcre : mv_T := (yX12_isAcre, cX12_isAcre, 2, (some .boolean), RX12, mc_X12_isAcre, 0, 0, 0, 0)
def mr_X12_told : mv_T := (yX12_told, cX12_told, 1, (some .int), RX12, mc_X12_told, 0, 0, 0, 0)
def mr_X12_acre : mv_T := (yX12_acre, cX12_acre, 4, (some .int), RX12, mc_X12_acre, 1, 0, 0, 22)
def mr_X12_areBeside : mv_T := (yX12_areBeside, cX12_areBeside, 4, (some .boolean), RX12, mc_X12_areBeside, 0, 0, 0, 0)
def mr_X12_roadOf : mv_T := (yX12_roadOf, cX12_roadOf, 4, (some .int), RX12, mc_X12_roadOf, 0, 0, 0, 0)
def mr_X12_puts : mv_T := (yX12_puts, cX12_puts, 5, none, RX12, mc_X12_puts, 1, 0, 0, 23)
def mr_X12_road : mv_T := (yX12_road, cX12_road, 9, (some .int), RX12, mc_X12_road, 2, 0, 0, 47)
def mr_X12_step : mv_T := (yX12_step, cX12_step, 5, (some .int), RX12, mc_X12_step, 1, 0, 0, 25)
def mr_X12_toll : mv_T := (yX12_toll, cX12_toll, 6, (some .int), RX12, mc_X12_toll, 1, 0, 0, 25)
def mr_X12_stepOf : mv_T := (yX12_stepOf, cX12_stepOf, 4, (some .int), RX12, mc_X12_stepOf, 1, 0, 0, 23)
def mr_X12_findWays : mv_T := (yX12_findWays, cX12_findWays, 5, none, RX12, mc_X12_findWays, 3, 0, 0, 74)
def mr_X12_shortens : mv_T := (yX12_shortens, cX12_shortens, 9, (some .boolean), RX12, mc_X12_shortens, 2, 0, 0, 46)
def mr_X12_way : mv_T := (yX12_way, cX12_way, 5, (some .int), RX12, mc_X12_way, 4, 0, 0, 98)
def mr_X12_marketOn : mv_T := (yX12_marketOn, cX12_marketOn, 3, (some .int), RX12, mc_X12_marketOn, 0, 0, 0, 0)
def mr_X12_market : mv_T := (yX12_market, cX12_market, 3, (some .int), RX12, mc_X12_market, 1, 0, 0, 22)
def mr_X12_isMarket : mv_T := (yX12_isMarket, cX12_isMarket, 2, (some .boolean), RX12, mc_X12_isMarket, 0, 0, 0, 0)
def mr_X12_findMarketWays : mv_T := (yX12_findMarketWays, cX12_findMarketWays, 4, none, RX12, mc_X12_findMarketWays, 4, 0, 0, 98)
def mr_X12_isUse : mv_T := (yX12_isUse, cX12_isUse, 2, (some .boolean), RX12, mc_X12_isUse, 0, 0, 0, 0)
def mr_X12_use : mv_T := (yX12_use, cX12_use, 7, (some .int), RX12, mc_X12_use, 1, 0, 0, 25)
def mr_X12_year : mv_T := (yX12_year, cX12_year, 4, (some .int), RX12, mc_X12_year, 1, 0, 0, 25)
def mr_X12_price : mv_T := (yX12_price, cX12_price, 6, (some .int), RX12, mc_X12_price, 1, 0, 0, 25)
def mr_X12_tax : mv_T := (yX12_tax, cX12_tax, 5, (some .int), RX12, mc_X12_tax, 1, 0, 0, 25)
def mr_X12_yieldOf : mv_T := (yX12_yieldOf, cX12_yieldOf, 3, (some .int), RX12, mc_X12_yieldOf, 0, 0, 0, 0)
def mr_X12_mean : mv_T := (yX12_mean, cX12_mean, 4, (some .int), RX12, mc_X12_mean, 0, 0, 0, 0)
def mr_X12_fareOf : mv_T := (yX12_fareOf, cX12_fareOf, 2, (some .int), RX12, mc_X12_fareOf, 0, 0, 0, 0)
def mr_X12_worth : mv_T := (yX12_worth, cX12_worth, 4, (some .long), RX12, mc_X12_worth, 1, 0, 0, 23)
def mr_X12_wayOf : mv_T := (yX12_wayOf, cX12_wayOf, 4, (some .int), RX12, mc_X12_wayOf, 0, 0, 0, 0)
def mr_X12_bidOf : mv_T := (yX12_bidOf, cX12_bidOf, 4, (some .long), RX12, mc_X12_bidOf, 2, 0, 0, 46)
def mr_X12_bid : mv_T := (yX12_bid, cX12_bid, 5, (some .long), RX12, mc_X12_bid, 5, 0, 0, 121)
def mr_X12_findGoing : mv_T := (yX12_findGoing, cX12_findGoing, 6, none, RX12, mc_X12_findGoing, 3, 0, 0, 69)
def mr_X12_finds : mv_T := (yX12_finds, cX12_finds, 2, none, RX12, mc_X12_finds, 5, 0, 0, 121)
def mr_X12_goes : mv_T := (yX12_goes, cX12_goes, 4, (some .int), RX12, mc_X12_goes, 6, 0, 0, 142)
def mr_X12_rentOf : mv_T := (yX12_rentOf, cX12_rentOf, 2, (some .long), RX12, mc_X12_rentOf, 0, 0, 0, 0)
def mr_X12_allRents : mv_T := (yX12_allRents, cX12_allRents, 4, (some .long), RX12, mc_X12_allRents, 1, 0, 0, 21)
def mr_X12_rent : mv_T := (yX12_rent, cX12_rent, 3, (some .long), RX12, mc_X12_rent, 6, 0, 0, 142)
def mr_X12_comesTo : mv_T := (yX12_comesTo, cX12_comesTo, 5, (some .int), RX12, mc_X12_comesTo, 1, 0, 0, 22)
def mr_X12_comes : mv_T := (yX12_comes, cX12_comes, 3, (some .int), RX12, mc_X12_comes, 6, 0, 0, 142)
def mr_X12_piece : mv_T := (yX12_piece, cX12_piece, 7, (some .int), RX12, mc_X12_piece, 1, 0, 0, 21)
def mr_X12_boughtOf : mv_T := (yX12_boughtOf, cX12_boughtOf, 6, (some .int), RX12, mc_X12_boughtOf, 0, 0, 0, 0)
def mr_X12_bought : mv_T := (yX12_bought, cX12_bought, 5, (some .int), RX12, mc_X12_bought, 1, 0, 0, 25)
def mr_X12_wouldGo : mv_T := (yX12_wouldGo, cX12_wouldGo, 6, (some .boolean), RX12, mc_X12_wouldGo, 3, 0, 0, 69)
def mr_X12_clearsOf : mv_T := (yX12_clearsOf, cX12_clearsOf, 9, (some .int), RX12, mc_X12_clearsOf, 5, 0, 0, 121)
def mr_X12_findOthers : mv_T := (yX12_findOthers, cX12_findOthers, 8, none, RX12, mc_X12_findOthers, 3, 0, 0, 69)
def mr_X12_clears : mv_T := (yX12_clears, cX12_clears, 3, (some .int), RX12, mc_X12_clears, 6, 0, 0, 149)
def mr_X12_goesRound : mv_T := (yX12_goesRound, cX12_goesRound, 5, (some .boolean), RX12, mc_X12_goesRound, 6, 0, 0, 149)
def mr_X12_rounds : mv_T := (yX12_rounds, cX12_rounds, 5, (some .int), RX12, mc_X12_rounds, 7, 0, 0, 173)
def mr_X12_divisor : mv_T := (yX12_divisor, cX12_divisor, 10, (some .long), RX12, mc_X12_divisor, 0, 0, 0, 0)
def mr_X12_marksAt : mv_T := (yX12_marksAt, cX12_marksAt, 13, none, RX12, mc_X12_marksAt, 1, 0, 0, 29)
def mr_X12_isRinged : mv_T := (yX12_isRinged, cX12_isRinged, 2, (some .boolean), RX12, mc_X12_isRinged, 0, 0, 0, 0)
def mr_X12_slope : mv_T := (yX12_slope, cX12_slope, 3, (some .long), RX12, mc_X12_slope, 1, 0, 0, 22)
def mr_X12_findMarks : mv_T := (yX12_findMarks, cX12_findMarks, 4, none, RX12, mc_X12_findMarks, 2, 0, 0, 61)
def mr_X12_useAt : mv_T := (yX12_useAt, cX12_useAt, 8, (some .int), RX12, mc_X12_useAt, 2, 0, 0, 46)
def mr_X12_findRings : mv_T := (yX12_findRings, cX12_findRings, 15, none, RX12, mc_X12_findRings, 3, 0, 0, 84)
def mr_X12_ring : mv_T := (yX12_ring, cX12_ring, 4, (some .int), RX12, mc_X12_ring, 4, 0, 0, 118)
def mr_X12_edge : mv_T := (yX12_edge, cX12_edge, 5, (some .long), RX12, mc_X12_edge, 4, 0, 0, 118)
def mr_X12_out : mv_T := (yX12_out, cX12_out, 4, (some .int), RX12, mc_X12_out, 6, 0, 0, 142)
def mr_X12_isBorder : mv_T := (yX12_isBorder, cX12_isBorder, 3, (some .boolean), RX12, mc_X12_isBorder, 1, 0, 0, 21)
def mr_X12_borders : mv_T := (yX12_borders, cX12_borders, 3, (some .int), RX12, mc_X12_borders, 6, 0, 0, 142)
def mr_X12_plan : mv_T := (yX12_plan, cX12_plan, 8, (some .int), RX12, mc_X12_plan, 1, 0, 0, 25)
def mr_X12_isPlan : mv_T := (yX12_isPlan, cX12_isPlan, 2, (some .boolean), RX12, mc_X12_isPlan, 0, 0, 0, 0)
def mr_X12_isTaken : mv_T := (yX12_isTaken, cX12_isTaken, 2, (some .boolean), RX12, mc_X12_isTaken, 1, 0, 0, 23)
def mr_X12_findsWith : mv_T := (yX12_findsWith, cX12_findsWith, 4, none, RX12, mc_X12_findsWith, 6, 0, 0, 142)
def mr_X12_gain : mv_T := (yX12_gain, cX12_gain, 4, (some .long), RX12, mc_X12_gain, 7, 0, 0, 165)
def mr_X12_costOf : mv_T := (yX12_costOf, cX12_costOf, 4, (some .int), RX12, mc_X12_costOf, 0, 0, 0, 0)
def mr_X12_best : mv_T := (yX12_best, cX12_best, 9, (some .int), RX12, mc_X12_best, 7, 0, 0, 165)
def mr_X12_losers : mv_T := (yX12_losers, cX12_losers, 4, (some .int), RX12, mc_X12_losers, 7, 0, 0, 165)
def mr_X12_falls : mv_T := (yX12_falls, cX12_falls, 7, (some .int), RX12, mc_X12_falls, 6, 0, 0, 142)
def mr_X12_own : mv_T := (yX12_own, cX12_own, 6, (some .int), RX12, mc_X12_own, 1, 0, 0, 25)
def mr_X12_held : mv_T := (yX12_held, cX12_held, 4, (some .int), RX12, mc_X12_held, 1, 0, 0, 21)
def mr_X12_rentsBehind : mv_T := (yX12_rentsBehind, cX12_rentsBehind, 5, (some .long), RX12, mc_X12_rentsBehind, 7, 0, 0, 173)
def mr_X12_hold : mv_T := (yX12_hold, cX12_hold, 10, (some .int), RX12, mc_X12_hold, 8, 0, 0, 197)
def mr_X12_put : mv_T := (yX12_put, cX12_put, 3, (some .int), RX12, mc_X12_put, 1, 0, 0, 25)
def mr_X12_judge : mv_T := (yX12_judge, cX12_judge, 5, (some .int), RX12, mc_X12_judge, 6, 0, 0, 142)
def mr_X12_passes : mv_T := (yX12_passes, cX12_passes, 3, none, RX12, mc_X12_passes, 0, 0, 0, 0)
def mr_X12_passOne : mv_T := (yX12_passOne, cX12_passOne, 3, (some .int), RX12, mc_X12_passOne, 0, 0, 0, 0)
def mr_X12_passesAll : mv_T := (yX12_passesAll, cX12_passesAll, 2, none, RX12, mc_X12_passesAll, 1, 0, 0, 22)
def mr_X12_image : mv_T := (yX12_image, cX12_image, 1, (some .int), RX12, mc_X12_image, 2, 0, 0, 43)
def mr_X12_on : mv_T := (yX12_on, cX12_on, 1, (some .int), RX12, mc_X12_on, 2, 0, 0, 43)
def mr_X12_count : mv_T := (yX12_count, cX12_count, 4, (some .int), RX12, mc_X12_count, 6, 0, 0, 142)
def mr_J9_floorDiv_f86c9 : mv_T := (yJ9_floorDiv_f86c9, cJ9_floorDiv_f86c9, 6, (some .long), RJ9, mc_J9_floorDiv_f86c9, 0, 0, 0, 0)
def mr_J9_max_7cf53 : mv_T := (yJ9_max_7cf53, cJ9_max_7cf53, 2, (some .int), RJ9, mc_J9_max_7cf53, 0, 0, 0, 0)
def mr_J9_max_f86c9 : mv_T := (yJ9_max_f86c9, cJ9_max_f86c9, 4, (some .long), RJ9, mc_J9_max_f86c9, 0, 0, 0, 0)
def mr_J9_min_f86c9 : mv_T := (yJ9_min_f86c9, cJ9_min_f86c9, 4, (some .long), RJ9, mc_J9_min_f86c9, 0, 0, 0, 0)
def mr_L_law : mv_T := (yL_law, cL_law, 4, (some .boolean), RL, mc_L_law, 9, 136, 7420, 226)
def mv_TT : List mv_T := [
  mr_X0_init, mr_X0_layOut, mr_X0_clearAway, mr_X0_takeFrom, mr_X0_placeOf, mr_X0_beside, mr_X0_sideTowards, mr_X0_roadAt,
  mr_X0_layRoad, mr_X0_marketOn, mr_X0_idleAcres, mr_X1_init, mr_X1_forgetWays, mr_X1_forgetBids, mr_X1_settle, mr_X1_reckonBids,
  mr_X1_reckonOffer, mr_X1_wayOf, mr_X1_takerOf, mr_X1_greatest, mr_X1_rentAt, mr_X1_rentBy, mr_X1_allRents, mr_X1_rentsOf,
  mr_X1_arriving, mr_X1_isTakenBy, mr_X1_farthest, mr_X1_borderPairs, mr_X1_isBorder, mr_X1_wasteAcres, mr_X1_fallingWaste, mr_X2_init,
  mr_X2_append, mr_X2_takeFrom, mr_X3_init, mr_X3_reckon, mr_X3_findCuts, mr_X3_addCut, mr_X3_takerAt, mr_X3_isThere,
  mr_X3_extend, mr_X3_commonDivisor, mr_X4_init, mr_X4_append, mr_X4_firstWrong, mr_X5_init, mr_X5_append, mr_X5_firstFault,
  mr_X5_isDigit, mr_X6_init, mr_X6_clearingPrice, mr_X6_comingAt, mr_X6_leastPriceFor, mr_X6_runRounds, mr_X6_runRound, mr_X6_bestToHold,
  mr_X6_rentsAfterRound, mr_X7_init, mr_X7_append, mr_X7_appendPiece, mr_X7_takeFrom, mr_X7_yieldOn, mr_X7_reckonedPrice, mr_X7_payAtHome,
  mr_X7_carriage, mr_X7_canGo, mr_X7_boughtAt, mr_X8_init, mr_X8_reckonFoot, mr_X8_reckonRoads, mr_X8_between, mr_X8_search,
  mr_X8_leastFrom, mr_X9_init, mr_X9_isBuilt, mr_X9_isAnyBuilt, mr_X9_gainOf, mr_X9_losersBy, mr_X9_bestSet, mr_X9_costOf,
  mr_X9_build, mr_X9_tearDown, mr_X9_layRoads, mr_X10_init, mr_X10_takeFrom, mr_X11_init, mr_X11_feed, mr_X11_read,
  mr_X11_acre, mr_X11_road, mr_X11_step, mr_X11_toll, mr_X11_way, mr_X11_market, mr_X11_use, mr_X11_year,
  mr_X11_price, mr_X11_tax, mr_X11_rentTax, mr_X11_bid, mr_X11_goes, mr_X11_rent, mr_X11_comes, mr_X11_piece,
  mr_X11_bought, mr_X11_clears, mr_X11_rounds, mr_X11_ring, mr_X11_edge, mr_X11_unfitRing, mr_X11_out, mr_X11_borders,
  mr_X11_plan, mr_X11_gain, mr_X11_best, mr_X11_losers, mr_X11_unfitPlan, mr_X11_falls, mr_X11_own, mr_X11_held,
  mr_X11_hold, mr_X11_put, mr_X11_judge, mr_X11_image, mr_X11_on, mr_X11_count, mr_X11_refuse, mr_X11_refuseLong,
  mr_X11_unfit, mr_X11_isNoUse, mr_X11_isNoMarket, mr_X11_offerOf, mr_X12_init, mr_X12_no, mr_X12_noLong, mr_X12_isIn,
  mr_X12_outOf, mr_X12_feed, mr_X12_sign, mr_X12_readsLine, mr_X12_reads, mr_X12_read, mr_X12_acreOf, mr_X12_isAcre,
  mr_X12_told, mr_X12_acre, mr_X12_areBeside, mr_X12_roadOf, mr_X12_puts, mr_X12_road, mr_X12_step, mr_X12_toll,
  mr_X12_stepOf, mr_X12_findWays, mr_X12_shortens, mr_X12_way, mr_X12_marketOn, mr_X12_market, mr_X12_isMarket, mr_X12_findMarketWays,
  mr_X12_isUse, mr_X12_use, mr_X12_year, mr_X12_price, mr_X12_tax, mr_X12_yieldOf, mr_X12_mean, mr_X12_fareOf,
  mr_X12_worth, mr_X12_wayOf, mr_X12_bidOf, mr_X12_bid, mr_X12_findGoing, mr_X12_finds, mr_X12_goes, mr_X12_rentOf,
  mr_X12_allRents, mr_X12_rent, mr_X12_comesTo, mr_X12_comes, mr_X12_piece, mr_X12_boughtOf, mr_X12_bought, mr_X12_wouldGo,
  mr_X12_clearsOf, mr_X12_findOthers, mr_X12_clears, mr_X12_goesRound, mr_X12_rounds, mr_X12_divisor, mr_X12_marksAt, mr_X12_isRinged,
  mr_X12_slope, mr_X12_findMarks, mr_X12_useAt, mr_X12_findRings, mr_X12_ring, mr_X12_edge, mr_X12_out, mr_X12_isBorder,
  mr_X12_borders, mr_X12_plan, mr_X12_isPlan, mr_X12_isTaken, mr_X12_findsWith, mr_X12_gain, mr_X12_costOf, mr_X12_best,
  mr_X12_losers, mr_X12_falls, mr_X12_own, mr_X12_held, mr_X12_rentsBehind, mr_X12_hold, mr_X12_put, mr_X12_judge,
  mr_X12_passes, mr_X12_passOne, mr_X12_passesAll, mr_X12_image, mr_X12_on, mr_X12_count, mr_J9_floorDiv_f86c9, mr_J9_max_7cf53,
  mr_J9_max_f86c9, mr_J9_min_f86c9, mr_L_law
  ]
def mv_r (i : Nat) : mv_T := mv_TT.getD i mr_L_law
end
section
/-! WHAT A PROGRAM DECIDES OF THE CODE LISTS: that they are the methods' bytes, and that the tables have the words which they need -/
def mv_gd : Jvm.Cond → Bool
  | .methodLinkNest _ _ _ _ => true
  | w => goodWord w
def mv_tbl : List Jvm.Cond := lw_tbl.filter mv_gd
def mv_hw (ts : List Nat) (k : Nat) (w : Jvm.Cond) : Bool := decide ((ts[k]?).bind (fun i => lw_tbl[i]?) = some w) && mv_gd w
theorem mv_hw_mem {ts : List Nat} {k : Nat} {w : Jvm.Cond} (h : mv_hw ts k w = true) : w ∈ mv_tbl := by
  unfold mv_hw at h
  simp only [Bool.and_eq_true, decide_eq_true_eq] at h
  obtain ⟨h1, h2⟩ := h
  cases ht : ts[k]? with
  | none => rw [ht] at h1; cases h1
  | some i =>
    rw [ht] at h1
    exact List.mem_filter.mpr ⟨List.mem_of_getElem? h1, h2⟩
def mv_tys : List (Nat → FieldType) := [tyX0, tyX1, tyX2, tyX3, tyX4, tyX5, tyX6, tyX7, tyX8, tyX9, tyX10, tyX11, tyX12]
def mv_ty (ci k : Nat) : FieldType := (mv_tys.getD ci tyX0) k
def mv_kd (ci k : Nat) : Nat := match mv_ty ci k with
  | .int => 0
  | .boolean => 1
  | .object _ => 2
  | .array _ => 2
  | _ => 3
def mv_nf (ci : Nat) : Nat := ((vwCl[ci]?).map (fun q => q.2.2)).getD 0
def mv_tg (ty : ArrayType) : Nat := match ty with
  | .int => 100
  | .long => 101
  | .boolean => 102
  | _ => 0
/-- a link of a call: plain, or to a nest mate's private method -/
def mv_lk (ts : List Nat) (own : String) (idx : Nat) (y : MethodName) : Bool :=
  mv_hw ts 0 (.methodLink own idx y) || (match ((ts[0]?).bind (fun i => lw_tbl[i]?) : Option Jvm.Cond) with
    | some (.methodLinkNest o j z _) => decide (o = own) && (decide (j = idx) && decide (z = y))
    | _ => false)
def mv_cl (r q : mv_T) (n : Nat) : Bool :=
  decide ((mt_y q).cls ≠ "java/lang/invoke/MethodHandle" ∧ (mt_y q).cls ≠ "java/lang/invoke/VarHandle") && (decide ((parseMethodDescriptor (mt_y q).desc).map (fun d => d.parameters.length) = some n) &&
    (Nat.ble (mt_fr q + 1) (mt_fr r) && Nat.ble (8 + (mt_nL q + 11) + mt_lo q) (mt_lo r)))
def mv_fl (r : mv_T) (idx a b c : Nat) (ts : List Nat) : Bool := match vwCl[a]? with
  | some (_, T, N) => Nat.blt b N && (mv_hw ts 0 (.fieldLink (mt_own r) idx (T b).1 (T b).2.1 (T b).2.2.1) && decide (c = mv_kd a b))
  | none => false
def mv_fit (r : mv_T) (pc ln : Nat) (ni : Instr) (a b c : Nat) (v : Int) (ts : List Nat) (i : Instr) : Bool := match ni with
  | .iconst _ => decide (mv_R32 v) && (match i with
    | .iconst n => decide (ln = 1) && decide (Int32.ofInt n = Int32.ofInt v)
    | .bipush n => decide (ln = 2) && decide ((Int8.ofInt n).toInt32 = Int32.ofInt v)
    | .sipush n => decide (ln = 3) && decide ((Int16.ofInt n).toInt32 = Int32.ofInt v)
    | .ldc idx => decide (ln = 2) && mv_hw ts 0 (.constant (mt_own r) idx (Int32.ofInt v))
    | .ldc_w idx => decide (ln = 3) && mv_hw ts 0 (.constant (mt_own r) idx (Int32.ofInt v))
    | _ => false)
  | .lconst _ => decide (mv_R64 v) && (match i with
    | .lconst n => decide (ln = 1) && decide (Int64.ofNat (n : Nat) = Int64.ofInt v)
    | .ldc2_w idx => decide (ln = 3) && mv_hw ts 0 (.constantLong (mt_own r) idx (Int64.ofInt v))
    | _ => false)
  | .iload _ => (match i with
    | .iload_n k => decide (ln = 1) && decide ((k : Nat) = a)
    | .iload k => decide (ln = 2) && decide (k = a)
    | _ => false)
  | .lload _ => (match i with
    | .lload_n k => decide (ln = 1) && decide ((k : Nat) = a)
    | .lload k => decide (ln = 2) && decide (k = a)
    | _ => false)
  | .aload _ => (match i with
    | .aload_n k => decide (ln = 1) && decide ((k : Nat) = a)
    | .aload k => decide (ln = 2) && decide (k = a)
    | _ => false)
  | .istore _ => Nat.blt a (mt_nL r) && (match i with
    | .istore_n k => decide (ln = 1) && decide ((k : Nat) = a)
    | .istore k => decide (ln = 2) && decide (k = a)
    | _ => false)
  | .lstore _ => Nat.blt (a + 1) (mt_nL r) && (match i with
    | .lstore_n k => decide (ln = 1) && decide ((k : Nat) = a)
    | .lstore k => decide (ln = 2) && decide (k = a)
    | _ => false)
  | .astore _ => Nat.blt a (mt_nL r) && (match i with
    | .astore_n k => decide (ln = 1) && decide ((k : Nat) = a)
    | .astore k => decide (ln = 2) && decide (k = a)
    | _ => false)
  | .iinc _ _ => Nat.blt a (mt_nL r) && (match i with
    | .iinc k n => decide (ln = 3) && (decide (k = a) && decide (Int32.ofInt n = Int32.ofInt v))
    | _ => false)
  | .goto _ => (match i with
    | .goto off => decide (ln = 3) && decide ((pc : Int) + off = (a : Int))
    | _ => false)
  | .ifCond k _ => (match i with
    | .ifCond k' off => decide (ln = 3) && (decide (k' = k) && decide ((pc : Int) + off = (a : Int)))
    | _ => false)
  | .if_icmp k _ => (match i with
    | .if_icmp k' off => decide (ln = 3) && (decide (k' = k) && decide ((pc : Int) + off = (a : Int)))
    | _ => false)
  | .tableswitch _ _ _ _ => decide (mv_R32 v) && (match i with
    | .tableswitch d lo hi offs => decide ((pc : Int) + d = (a : Int)) && (decide (lo = v) && (decide (hi + 1 = v + (ts.length : Int)) && decide (offs.toList = ts.map (fun t : Nat => (t : Int) - (pc : Int)))))
    | _ => false)
  | .getfield _ => (match i with
    | .getfield idx => decide (ln = 3) && mv_fl r idx a b c ts
    | _ => false)
  | .putfield _ => (match i with
    | .putfield idx => decide (ln = 3) && (mv_fl r idx a b c ts && (match vwCl[a]? with
      | some (_, T, _) => !(T b).2.2.2 || (decide ((mt_y r).name = "<init>") && decide ((T b).1 = mt_own r))
      | none => false))
    | _ => false)
  | .newarray ty => (match i with
    | .newarray ty' => decide (ln = 2) && (decide (ty' = ty) && (mv_hw ts 0 (.arrayClass (newarray.typeOf ty)) && (decide (a = mv_tg ty) && Nat.ble 100 a)))
    | _ => false)
  | .new _ => (match i with
    | .new idx => decide (ln = 3) && (match vwCl[a]? with
      | some (C, _, N) => decide (N = b) && (mv_hw ts 0 (.classLink (mt_own r) idx C) && (mv_hw ts 1 (.instantiable C N) && mv_hw ts 2 (.initialized C)))
      | none => false)
    | _ => false)
  | .invokespecial _ => (match i with
    | .invokespecial idx => decide (ln = 3) && (if c = 1 then mv_hw ts 0 (.methodLink (mt_own r) idx objectInit) && (mv_hw ts 1 (.instanceMethod objectInit) && (mv_hw ts 2 (.code objectInit ⟨#[0xb1]⟩ 1 none) && (Nat.ble 1 (mt_fr r) && Nat.ble 20 (mt_lo r))))
      else mv_lk ts (mt_own r) idx (mt_y (mv_r a)) && (mv_hw ts 1 (.instanceMethod (mt_y (mv_r a))) && (mv_hw ts 2 (.initialized (mt_y (mv_r a)).cls) && (decide ((mt_y (mv_r a)).name = "<init>") && (decide (mt_ret (mv_r a) = none) &&
        (decide (c = 2 + mt_mc (mv_r a)) && (decide (v = (mt_ms (mv_r a) : Int)) && (Nat.ble 1 b && mv_cl r (mv_r a) (b - 1)))))))))
    | _ => false)
  | .invokevirtual _ => (match i with
    | .invokevirtual idx => decide (ln = 3) && (mv_hw ts 0 (.methodLink (mt_own r) idx (mt_y (mv_r a))) && (mv_hw ts 1 (.instanceMethod (mt_y (mv_r a))) && (mv_hw ts 2 (.selects (mt_y (mv_r a)).cls (mt_y (mv_r a)) (mt_y (mv_r a))) &&
        (mv_hw ts 3 (.initialized (mt_y (mv_r a)).cls) && (decide ((vwCl[c]?).map (fun q => q.1) = some (mt_y (mv_r a)).cls) && (decide (mt_mc (mv_r a) = 0 ∧ mt_ms (mv_r a) = 0) && (Nat.ble 1 b && mv_cl r (mv_r a) (b - 1))))))))
    | _ => false)
  | .invokestatic _ => (match i with
    | .invokestatic idx => decide (ln = 3) && (if c = 1 then mv_lk ts (mt_own r) idx (mt_y (mv_r a)) && (mv_hw ts 1 (.static (mt_y (mv_r a))) && (mv_hw ts 2 (.initialized (mt_y (mv_r a)).cls) && (decide (mt_mc (mv_r a) = 0 ∧ mt_ms (mv_r a) = 0) && mv_cl r (mv_r a) b)))
      else mv_hw ts 0 (.methodLink (mt_own r) idx arraycopyName) && (mv_hw ts 1 (.native arraycopyName) && (mv_hw ts 2 (.static arraycopyName) && (mv_hw ts 3 (.initialized "java/lang/System") && (decide (c = 100 ∨ c = 101) && (Nat.ble 1 (mt_fr r) && Nat.ble 26 (mt_lo r)))))))
    | _ => false)
  | .ireturn => decide (ln = 1) && (decide (i = .ireturn) && (if a = 1 then decide (mt_ret r = some .boolean) else decide (mt_ret r = some .int)))
  | .lreturn => decide (ln = 1) && (decide (i = .lreturn) && decide (mt_ret r = some .long))
  | .return_ => decide (ln = 1) && (decide (i = .return_) && decide (mt_ret r = none))
  | _ => decide (ln = 1) && decide (i = ni)
def mv_okE (r : mv_T) (e : mv_E) : Bool := match e with
  | (pc, ln, ni, a, b, c, v, ts) => (match decode (mt_cc r) pc with
    | .ok (i, n) => decide (n = ln) && mv_fit r pc ln ni a b c v ts i
    | .error _ => false)
def mv_ch : List mv_E → Bool
  | e :: e' :: r => decide (e.1 + e.2.1 = e'.1) && mv_ch (e' :: r)
  | _ => true
def mv_okM (i : Nat) : Bool := (mt_code (mv_r i)).all (mv_okE (mv_r i)) && mv_ch (mt_code (mv_r i))
end
section
/-! THE SMALL MACHINE STANDS FOR THE MACHINE (by program: wip/whole/simgen.py) -/
/-- launch; the script's address, the first new address; class ids and slots; the classes of int[], long[], boolean[]; the script -/
abbrev mv_G : Type := Launch × Nat × Nat × (Nat → ClassId) × (Nat → Nat → Nat) × ClassId × ClassId × ClassId × Nat × (Nat → Int)
def mg_l (G : mv_G) : Launch := G.1
def mg_b (G : mv_G) : Nat := G.2.1
def mg_o (G : mv_G) : Nat := G.2.2.1
def mg_D (G : mv_G) : va_G := (G.2.2.2.1, G.2.2.2.2.1)
def mg_I (G : mv_G) : ClassId := G.2.2.2.2.2.1
def mg_J (G : mv_G) : ClassId := G.2.2.2.2.2.2.1
def mg_Z (G : mv_G) : ClassId := G.2.2.2.2.2.2.2.1
def mg_L (G : mv_G) : Nat := G.2.2.2.2.2.2.2.2.1
def mg_X (G : mv_G) : Nat → Int := G.2.2.2.2.2.2.2.2.2
def mg_A (G : mv_G) : Nat → Prop := fun q => mg_o G ≤ q
def mg_ty (G : mv_G) : List (ClassId × FieldType) := [(mg_I G, .int), (mg_J G, .long), (mg_Z G, .boolean)]
def mv_ad (G : mv_G) (k : Nat) : Nat := if k = 0 then mg_b G else mg_o G + (k - 1)
def mv_ct (G : mv_G) : mv_V → Value
  | .inl x => .int (Int32.ofInt x)
  | .inr (.inl x) => .long (Int64.ofInt x)
  | .inr (.inr k) => .ref (mv_ad G k)
def mv_ov : mv_V → Prop
  | .inl x => mv_R32 x
  | .inr (.inl x) => mv_R64 x
  | .inr (.inr _) => True
def mv_fv (G : mv_G) (sh : mv_SH) (M : mv_Mem) (ci k f : Nat) : Value := if mv_kd ci f = 2 then (if sh.2.2.2.2 k f = 0 then .null else .ref (mv_ad G (sh.2.2.2.2 k f))) else .int (Int32.ofInt (M k f))
def mv_ce (G : mv_G) (sh : mv_SH) (M : mv_Mem) (k : Nat) : va_E :=
  if sh.2.2.1 k = 100 then .inl (mg_I G, sh.2.2.2.1 k, .inl (fun i => Int32.ofInt (M k i)))
  else if sh.2.2.1 k = 101 then .inl (mg_J G, sh.2.2.2.1 k, .inr (.inl (fun i => Int64.ofInt (M k i))))
  else if sh.2.2.1 k = 102 then .inl (mg_Z G, sh.2.2.2.1 k, .inl (fun i => Int32.ofInt (M k i)))
  else .inr (sh.2.2.1 k, (List.range (mv_nf (sh.2.2.1 k))).map (mv_fv G sh M (sh.2.2.1 k) k))
def mv_ws (G : mv_G) (sh : mv_SH) (M : mv_Mem) : va_W := (List.range sh.1).map (fun j => (mg_o G + j, mv_ce G sh M (j + 1)))
def mv_Nm (G : mv_G) (sh : mv_SH) (M : mv_Mem) : Prop :=
  (sh.2.2.1 0 = 100 ∧ sh.2.2.2.1 0 = mg_L G ∧ ∀ i, M 0 i = mg_X G i) ∧ (∀ k i, mv_R64 (M k i) ∧ (sh.2.2.1 k ≠ 101 → mv_R32 (M k i))) ∧ ∀ k, sh.2.2.2.1 k ≤ 100000
def mv_Wd (G : mv_G) (sh : mv_SH) (M : mv_Mem) (H : Heap) : Prop :=
  va_P (mg_D G) vwCl (mv_ws G sh M) H ∧ va_D (mg_A G) (mv_ws G sh M) ∧ mv_Nm G sh M
/-- what a method's end says -/
def mv_Po (G : mv_G) (n1 s1 : Nat) (post : Option mv_V → mv_SH → mv_Mem → Prop) : Array Value → State → Outcome → State → Prop := fun _ st o t =>
  (∃ (r : Option mv_V) (sh : mv_SH) (M : mv_Mem), o = .returned (r.map (mv_ct G)) ∧ (∀ x, r = some x → mv_ov x) ∧ post r sh M ∧ sh.1 = n1 ∧ sh.2.1 = s1 ∧ mv_Wd G sh M t.heap) ∧ va_F (mg_A G) st t
def mv_Pc (G : mv_G) (as : List mv_V) (sh : mv_SH) (M : mv_Mem) : Array Value → State → Prop :=
  va_Pc (as.map (mv_ct G)) (fun U => U.heap.size = mg_o G + sh.1 ∧ mv_Wd G sh M U.heap ∧ va_K (mg_D G) vwCl (mg_ty G) U ∧ va_X (mg_b G) (mg_L G) (fun j => Int32.ofInt (mg_X G j)) U U.heap ∧ mg_b G < mg_o G ∧ ∀ x ∈ as, mv_ov x)
def mv_wl (q : mv_T) : List Jvm.Cond := .code (mt_y q) (mt_cc q) (mt_nL q) (mt_ret q) :: mv_tbl
/-- a call of method c with these arguments in this world ends, with an answer and a world of which 'post' holds -/
def mv_Wp (G : mv_G) (c : Nat) (as : List mv_V) (sh : mv_SH) (M : mv_Mem) (post : Option mv_V → mv_SH → mv_Mem → Prop) : Prop :=
  Jvm.Cond.code (mt_y (mv_r c)) (mt_cc (mv_r c)) (mt_nL (mv_r c)) (mt_ret (mv_r c)) ∈ mv_tbl ∧ 
  Met (mg_l G) (mt_y (mv_r c)) (mv_wl (mv_r c)) (mt_rm (mv_r c)) (mv_Pc G as sh M) (mv_Po G (sh.1 + mt_mc (mv_r c)) (sh.2.1 + mt_ms (mv_r c)) post) (mt_mc (mv_r c)) (mt_ms (mv_r c)) (mg_A G)
def mv_Cx (G : mv_G) (mi n0 : Nat) (p : Program) (s : State) (m : MethodId) (args : Array Value) (meth : Method) (c : Code) : Prop :=
  p.tables.exec = Jvm.exec ∧ c.code = mt_cc (mv_r mi) ∧ c.maxLocals = mt_nL (mv_r mi) ∧ s.vm.findClass (mt_own (mv_r mi)) = some m.cls ∧ (∀ w ∈ mv_tbl, w.before args s = true) ∧ meth.sig.returnType = mt_ret (mv_r mi) ∧ meth.locks = false ∧
  meth.name = (mt_y (mv_r mi)).name ∧ s.heap.size = mg_o G + n0 ∧ va_X (mg_b G) (mg_L G) (fun j => Int32.ofInt (mg_X G j)) s s.heap ∧ mg_b G < mg_o G ∧ va_K (mg_D G) vwCl (mg_ty G) s
/-- from the place pc of method mi on, with these locals and this stack, in this world: the method ends, with an answer and a world of which 'post' holds -/
def mv_Run (G : mv_G) (mi n0 s0 pc : Nat) (L : mv_L) (st : List mv_V) (sh : mv_SH) (M : mv_Mem) (post : Option mv_V → mv_SH → mv_Mem → Prop) : Prop :=
  ∀ (p : Program) (e : Env) (s : State) (m : MethodId) (args : Array Value) (below : List Frame) (meth : Method) (c : Code) (H : Heap) (locs : List Loc) (ls : Array Slot),
    mv_Cx G mi n0 p s m args meth c → lv_has ls (mt_nL (mv_r mi)) (L.map (fun q => (q.1, mv_ct G q.2))) → (∀ q ∈ L, mv_ov q.2) → (∀ x ∈ st, mv_ov x) → mv_Wd G sh M H → va_S (mg_A G) s.heap H locs →
    (n0 ≤ sh.1 ∧ sh.1 ≤ n0 + mt_mc (mv_r mi)) → (s0 ≤ sh.2.1 ∧ sh.2.1 ≤ s0 + mt_ms (mv_r mi)) →
    W p (mg_l G) e (mt_rm (mv_r mi)) s m args below meth c H locs (sh.1 - n0) (sh.2.1 - s0) (MQ below (mv_Po G (n0 + mt_mc (mv_r mi)) (s0 + mt_ms (mv_r mi)) post) args s (mt_mc (mv_r mi)) (mt_ms (mv_r mi)) (mg_A G)) (F0 m pc ls (st.map (mv_ct G)))
/-- what is to be shown from a place on, up to the next cuts -/
def mv_vc (G : mv_G) (mi n0 s0 : Nat) (cuts : List (Nat × List Nat)) (post : Option mv_V → mv_SH → mv_Mem → Prop) : Nat → Bool → List mv_E → mv_L → List mv_V → mv_SH → mv_Mem → Prop
  | 0, _, _, _, _, _, _ => False
  | _ + 1, _, [], _, _, _, _ => False
  | n + 1, f, e :: r, L, st, sh, M => match (if f = true then none else mv_cut e.1 cuts) with
    | some ks => mv_Run G mi n0 s0 e.1 (mv_pk ks L) st sh M post
    | none => mv_body (mv_Wp G) (mv_vc G mi n0 s0 cuts post n false r) (fun t => mv_vc G mi n0 s0 cuts post n false (mv_at t (mt_code (mv_r mi)))) post n0 s0 (mt_mc (mv_r mi)) (mt_ms (mv_r mi)) e.2.2.1 e.2.2.2.1 e.2.2.2.2.1 e.2.2.2.2.2.1 e.2.2.2.2.2.2.1 e.2.2.2.2.2.2.2 L st sh M
/-! numbers -/
theorem mv_i32 {x : Int} (h : mv_R32 x) : (Int32.ofInt x).toInt = x := Int32.toInt_ofInt_of_le (by omega) (by omega)
theorem mv_i64 {x : Int} (h : mv_R64 x) : (Int64.ofInt x).toInt = x := Int64.toInt_ofInt_of_le (by omega) (by omega)
theorem mv_r32 (x : Int32) : mv_R32 x.toInt := by
  have h1 := Int32.le_toInt x
  have h2 := Int32.toInt_lt x
  constructor <;> omega
theorem mv_r64 (x : Int64) : mv_R64 x.toInt := by
  have h1 := Int64.le_toInt x
  have h2 := Int64.toInt_lt x
  constructor <;> omega
theorem mv_e32 {x y : Int} (h : mv_R32 x) (h' : mv_R32 y) : Int32.ofInt x = Int32.ofInt y ↔ x = y := by
  rw [← Int32.toInt_inj, mv_i32 h, mv_i32 h']
theorem mv_l32 {x y : Int} (h : mv_R32 x) (h' : mv_R32 y) : Int32.ofInt x < Int32.ofInt y ↔ x < y := by
  rw [Int32.lt_iff_toInt_lt, mv_i32 h, mv_i32 h']
theorem mv_le32 {x y : Int} (h : mv_R32 x) (h' : mv_R32 y) : Int32.ofInt x ≤ Int32.ofInt y ↔ x ≤ y := by
  rw [Int32.le_iff_toInt_le, mv_i32 h, mv_i32 h']
theorem mv_e64 {x y : Int} (h : mv_R64 x) (h' : mv_R64 y) : Int64.ofInt x = Int64.ofInt y ↔ x = y := by
  rw [← Int64.toInt_inj, mv_i64 h, mv_i64 h']
theorem mv_l64 {x y : Int} (h : mv_R64 x) (h' : mv_R64 y) : Int64.ofInt x < Int64.ofInt y ↔ x < y := by
  rw [Int64.lt_iff_toInt_lt, mv_i64 h, mv_i64 h']
theorem mv_z32 : mv_R32 0 := by constructor <;> omega
theorem mv_z64 : mv_R64 0 := by constructor <;> omega
theorem mv_clamp {i : Int} (h : mv_R32 i) : (Int32.ofInt i).toNatClampNeg = i.toNat := by
  show (Int32.ofInt i).toInt.toNat = i.toNat
  rw [mv_i32 h]
theorem mv_vin {i : Int} {n : Nat} (h : mv_R32 i) (h0 : 0 ≤ i ∧ i < (n : Int)) : vp_in (Int32.ofInt i) n := by
  rw [vp_in_iff, mv_i32 h]
  exact h0
theorem mv_tmR {x y lo : Int} (h : -lo ≤ x ∧ x ≤ lo) : -lo ≤ x.tmod y ∧ x.tmod y ≤ lo := by
  have h1 : (x.tmod y).natAbs ≤ x.natAbs := by
    rw [Int.natAbs_tmod]
    exact Nat.mod_le _ _
  omega
/-! the stack, the locals -/
theorem mv_pi_s {st : List mv_V} {k : Int → List mv_V → Prop} (h : mv_pi st k) : ∃ x r, st = .inl x :: r ∧ k x r := by
  unfold mv_pi at h
  split at h
  · exact ⟨_, _, rfl, h⟩
  · exact h.elim
theorem mv_pl_s {st : List mv_V} {k : Int → List mv_V → Prop} (h : mv_pl st k) : ∃ x r, st = .inr (.inl x) :: r ∧ k x r := by
  unfold mv_pl at h
  split at h
  · exact ⟨_, _, rfl, h⟩
  · exact h.elim
theorem mv_pr_s {st : List mv_V} {k : Nat → List mv_V → Prop} (h : mv_pr st k) : ∃ x r, st = .inr (.inr x) :: r ∧ k x r := by
  unfold mv_pr at h
  split at h
  · exact ⟨_, _, rfl, h⟩
  · exact h.elim
theorem mv_lg_mem {a : Nat} {v : mv_V} : ∀ {L : mv_L}, mv_lg a L = some v → (a, v) ∈ L
  | [], h => by cases h
  | q :: r, h => by
    unfold mv_lg at h
    split at h
    · rename_i hq
      cases h
      subst hq
      exact List.mem_cons_self
    · exact List.mem_cons_of_mem _ (mv_lg_mem h)
theorem mv_lg_at {G : mv_G} {a nL : Nat} {v : mv_V} {L : mv_L} {ls : Array Slot} (hl : lv_has ls nL (L.map (fun q => (q.1, mv_ct G q.2)))) (h : mv_lg a L = some v) : ls[a]? = some (.val (mv_ct G v)) :=
  hl.2.2 (a, mv_ct G v) (List.mem_map.mpr ⟨(a, v), mv_lg_mem h, rfl⟩)
theorem mv_lg_pos {G : mv_G} {a : Nat} {v : mv_V} {L : mv_L} (h : mv_lg a L = some v) : ∃ k : Nat, (L.map (fun q => (q.1, mv_ct G q.2)))[k]? = some (a, mv_ct G v) := by
  obtain ⟨k, hk⟩ := List.getElem?_of_mem (mv_lg_mem h)
  exact ⟨k, by rw [List.getElem?_map, hk]; rfl⟩
theorem mv_cat_e (G : mv_G) (v : mv_V) : ((mv_ct G v).category == 2) = mv_isL v := by
  obtain x | x | x := v <;> rfl
theorem mv_st1_m (G : mv_G) (a : Nat) (v : mv_V) (L : mv_L) : (a, mv_ct G v) :: (L.map (fun q => (q.1, mv_ct G q.2))).filter (fun q => !(q.1 == a) && !(q.1 + 1 == a && q.2.category == 2)) = (mv_st1 a v L).map (fun q => (q.1, mv_ct G q.2)) := by
  unfold mv_st1
  rw [List.map_cons, List.filter_map]
  congr 3
  funext q
  show (!(q.1 == a) && !(q.1 + 1 == a && (mv_ct G q.2).category == 2)) = _
  rw [mv_cat_e]
theorem mv_st2_m (G : mv_G) (a : Nat) (x : Int) (L : mv_L) : (a, mv_ct G (.inr (.inl x))) :: (L.map (fun q => (q.1, mv_ct G q.2))).filter (fun q => !(q.1 == a) && (!(q.1 == a + 1) && !(q.1 + 1 == a && q.2.category == 2))) = (mv_st2 a x L).map (fun q => (q.1, mv_ct G q.2)) := by
  unfold mv_st2
  rw [List.map_cons, List.filter_map]
  congr 3
  funext q
  show (!(q.1 == a) && (!(q.1 == a + 1) && !(q.1 + 1 == a && (mv_ct G q.2).category == 2))) = _
  rw [mv_cat_e]
theorem mv_st1_o {a : Nat} {v : mv_V} {L : mv_L} (hL : ∀ q ∈ L, mv_ov q.2) (hv : mv_ov v) : ∀ q ∈ mv_st1 a v L, mv_ov q.2 := by
  intro q hq
  rcases List.mem_cons.mp hq with rfl | hq
  · exact hv
  · exact hL q (List.mem_filter.mp hq).1
theorem mv_st2_o {a : Nat} {x : Int} {L : mv_L} (hL : ∀ q ∈ L, mv_ov q.2) (hv : mv_R64 x) : ∀ q ∈ mv_st2 a x L, mv_ov q.2 := by
  intro q hq
  rcases List.mem_cons.mp hq with rfl | hq
  · exact hv
  · exact hL q (List.mem_filter.mp hq).1
theorem mv_lg_o {a : Nat} {v : mv_V} {L : mv_L} (hL : ∀ q ∈ L, mv_ov q.2) (h : mv_lg a L = some v) : mv_ov v := hL _ (mv_lg_mem h)
theorem mv_stw_e (G : mv_G) (st : List mv_V) : ((st.map (mv_ct G)).map fun v => v.category).sum = mv_stw st := by
  unfold mv_stw
  rw [List.map_map]
  congr 1
  apply List.map_congr_left
  intro v _
  obtain x | x | x := v <;> rfl
/-! the world -/
theorem mv_ws_get {G : mv_G} {sh : mv_SH} {M : mv_Mem} {k : Nat} (h1 : 1 ≤ k) (h2 : k ≤ sh.1) : (mv_ws G sh M)[k - 1]? = some (mv_ad G k, mv_ce G sh M k) := by
  unfold mv_ws mv_ad
  rw [List.getElem?_map, List.getElem?_range (by omega), if_neg (by omega)]
  show some (_, mv_ce G sh M (k - 1 + 1)) = _
  rw [show k - 1 + 1 = k by omega]
theorem mv_ws_set {G : mv_G} {sh sh' : mv_SH} {M M' : mv_Mem} {k : Nat} {e : va_E} (h1 : 1 ≤ k) (h2 : k ≤ sh.1) (hs : sh'.1 = sh.1) (he : mv_ce G sh' M' k = e) (ho : ∀ j, j ≠ k → mv_ce G sh' M' j = mv_ce G sh M j) : (mv_ws G sh M).set (k - 1) (mv_ad G k, e) = mv_ws G sh' M' := by
  apply List.ext_getElem?
  intro j
  unfold mv_ws mv_ad
  rw [List.getElem?_set, hs, List.getElem?_map, List.length_map, List.length_range, if_neg (show ¬ k = 0 by omega)]
  by_cases hj : k - 1 = j
  · subst hj
    rw [if_pos rfl, if_pos (by omega), List.getElem?_map, List.getElem?_range (by omega)]
    show _ = some (_, mv_ce G sh' M' (k - 1 + 1))
    rw [show k - 1 + 1 = k by omega, he]
  · rw [if_neg hj, List.getElem?_map]
    by_cases hl : j < sh.1
    · rw [List.getElem?_range hl]
      show some (mg_o G + j, mv_ce G sh M (j + 1)) = some (mg_o G + j, mv_ce G sh' M' (j + 1))
      rw [ho (j + 1) (by omega)]
    · rw [List.getElem?_eq_none (by simp; omega)]
      rfl
theorem mv_ws_push {G : mv_G} {sh sh' : mv_SH} {M M' : mv_Mem} {e : va_E} (hs : sh'.1 = sh.1 + 1) (he : mv_ce G sh' M' (sh.1 + 1) = e) (ho : ∀ j, j ≠ sh.1 + 1 → mv_ce G sh' M' j = mv_ce G sh M j) : mv_ws G sh M ++ [(mg_o G + sh.1, e)] = mv_ws G sh' M' := by
  unfold mv_ws
  rw [hs, List.range_succ, List.map_append, List.map_cons, List.map_nil, he]
  congr 1
  apply List.map_congr_left
  intro j hj
  have := List.mem_range.mp hj
  rw [ho (j + 1) (by omega)]
theorem mv_ce_c {G : mv_G} {sh sh' : mv_SH} {M M' : mv_Mem} {k : Nat} (h1 : sh'.2.2.1 k = sh.2.2.1 k) (h2 : sh'.2.2.2.1 k = sh.2.2.2.1 k) (h3 : ∀ f, sh'.2.2.2.2 k f = sh.2.2.2.2 k f) (h4 : ∀ i, M' k i = M k i) : mv_ce G sh' M' k = mv_ce G sh M k := by
  unfold mv_ce
  rw [h1, h2]
  have e1 : (fun i => Int32.ofInt (M' k i)) = (fun i => Int32.ofInt (M k i)) := funext fun i => by rw [h4 i]
  have e2 : (fun i => Int64.ofInt (M' k i)) = (fun i => Int64.ofInt (M k i)) := funext fun i => by rw [h4 i]
  have e3 : mv_fv G sh' M' (sh.2.2.1 k) k = mv_fv G sh M (sh.2.2.1 k) k := funext fun f => by unfold mv_fv; rw [h3 f, h4 f]
  rw [e1, e2, e3]
theorem mv_up_ne {M : mv_Mem} {a j k : Nat} {x : Int} (h : k ≠ a) (i : Nat) : mv_up M a j x k i = M k i := by
  unfold mv_up
  rw [if_neg (fun q => h q.1)]
theorem mv_up_f {M : mv_Mem} {a j : Nat} {x : Int} (g : Int → Int32) : (fun i => g (mv_up M a j x a i)) = upd (fun i => g (M a i)) j (g x) := by
  funext i
  unfold mv_up upd
  by_cases h : i = j
  · rw [if_pos ⟨rfl, h⟩, if_pos h]
  · rw [if_neg (fun q => h q.2), if_neg h]
theorem mv_up_fl {M : mv_Mem} {a j : Nat} {x : Int} (g : Int → Int64) : (fun i => g (mv_up M a j x a i)) = vp_updL (fun i => g (M a i)) j (g x) := by
  funext i
  unfold mv_up vp_updL
  by_cases h : i = j
  · rw [if_pos ⟨rfl, h⟩, if_pos h]
  · rw [if_neg (fun q => h q.2), if_neg h]
theorem mv_nm_up {G : mv_G} {sh : mv_SH} {M : mv_Mem} {k j : Nat} {x : Int} (h : mv_Nm G sh M) (hk : 1 ≤ k) (hx : mv_R64 x ∧ (sh.2.2.1 k ≠ 101 → mv_R32 x)) : mv_Nm G sh (mv_up M k j x) := by
  obtain ⟨⟨a1, a2, a3⟩, a4, a5⟩ := h
  refine ⟨⟨a1, a2, fun i => by rw [mv_up_ne (by omega)]; exact a3 i⟩, fun k' i => ?_, a5⟩
  unfold mv_up
  split
  · rename_i hq
    rw [hq.1]
    exact hx
  · exact a4 k' i
theorem mv_R6 {x : Int} (h : mv_R32 x) : mv_R64 x := by omega
theorem mv_sz {p : Program} {l : Launch} {e : Env} {R : Room} {s : State} {m : MethodId} {args : Array Value} {below : List Frame} {meth : Method} {c : Code} {H : Heap} {locs : List Loc} {cells slots : Nat} {Q : State → Prop} {g : JFrame}
    (k : H.size ≤ s.heap.size + cells → W p l e R s m args below meth c H locs cells slots Q g) : W p l e R s m args below meth c H locs cells slots Q g := fun T hT X => k (hT ▸ X.heapSize) T hT X
theorem mv_low {G : mv_G} {sh : mv_SH} {M : mv_Mem} {H H0 : Heap} {locs : List Loc} {n0 : Nat} (hW : mv_Wd G sh M H) (hS : va_S (mg_A G) H0 H locs) (h0 : H0.size = mg_o G + n0) (hn : n0 ≤ sh.1) : mg_o G + sh.1 ≤ H.size := by
  by_cases hz : sh.1 = 0
  · have := hS.1
    omega
  · have h := (hW.1 (sh.1 - 1) _ (mv_ws_get (k := sh.1) (by omega) (Nat.le_refl _))).lt
    have e : mv_ad G sh.1 = mg_o G + (sh.1 - 1) := by unfold mv_ad; rw [if_neg hz]
    have h' : mv_ad G sh.1 < H.size := h
    omega
theorem mw_0 : ∀ w ∈ u_ws RX0 TX0 13, w ∈ mv_tbl := by
  have h : (u_ws RX0 TX0 13).all (fun w => decide (w ∈ lw_tbl) && mv_gd w) = true := by decide +kernel
  intro w hw
  have h1 := List.all_eq_true.mp h w hw
  simp only [Bool.and_eq_true, decide_eq_true_eq] at h1
  exact List.mem_filter.mpr h1
theorem mw_1 : ∀ w ∈ u_ws RX1 TX1 8, w ∈ mv_tbl := by
  have h : (u_ws RX1 TX1 8).all (fun w => decide (w ∈ lw_tbl) && mv_gd w) = true := by decide +kernel
  intro w hw
  have h1 := List.all_eq_true.mp h w hw
  simp only [Bool.and_eq_true, decide_eq_true_eq] at h1
  exact List.mem_filter.mpr h1
theorem mw_2 : ∀ w ∈ u_ws RX2 TX2 5, w ∈ mv_tbl := by
  have h : (u_ws RX2 TX2 5).all (fun w => decide (w ∈ lw_tbl) && mv_gd w) = true := by decide +kernel
  intro w hw
  have h1 := List.all_eq_true.mp h w hw
  simp only [Bool.and_eq_true, decide_eq_true_eq] at h1
  exact List.mem_filter.mpr h1
theorem mw_3 : ∀ w ∈ u_ws RX3 TX3 9, w ∈ mv_tbl := by
  have h : (u_ws RX3 TX3 9).all (fun w => decide (w ∈ lw_tbl) && mv_gd w) = true := by decide +kernel
  intro w hw
  have h1 := List.all_eq_true.mp h w hw
  simp only [Bool.and_eq_true, decide_eq_true_eq] at h1
  exact List.mem_filter.mpr h1
theorem mw_4 : ∀ w ∈ u_ws RX4 TX4 2, w ∈ mv_tbl := by
  have h : (u_ws RX4 TX4 2).all (fun w => decide (w ∈ lw_tbl) && mv_gd w) = true := by decide +kernel
  intro w hw
  have h1 := List.all_eq_true.mp h w hw
  simp only [Bool.and_eq_true, decide_eq_true_eq] at h1
  exact List.mem_filter.mpr h1
theorem mw_5 : ∀ w ∈ u_ws RX5 TX5 2, w ∈ mv_tbl := by
  have h : (u_ws RX5 TX5 2).all (fun w => decide (w ∈ lw_tbl) && mv_gd w) = true := by decide +kernel
  intro w hw
  have h1 := List.all_eq_true.mp h w hw
  simp only [Bool.and_eq_true, decide_eq_true_eq] at h1
  exact List.mem_filter.mpr h1
theorem mw_6 : ∀ w ∈ u_ws RX6 TX6 4, w ∈ mv_tbl := by
  have h : (u_ws RX6 TX6 4).all (fun w => decide (w ∈ lw_tbl) && mv_gd w) = true := by decide +kernel
  intro w hw
  have h1 := List.all_eq_true.mp h w hw
  simp only [Bool.and_eq_true, decide_eq_true_eq] at h1
  exact List.mem_filter.mpr h1
theorem mw_7 : ∀ w ∈ u_ws RX7 TX7 14, w ∈ mv_tbl := by
  have h : (u_ws RX7 TX7 14).all (fun w => decide (w ∈ lw_tbl) && mv_gd w) = true := by decide +kernel
  intro w hw
  have h1 := List.all_eq_true.mp h w hw
  simp only [Bool.and_eq_true, decide_eq_true_eq] at h1
  exact List.mem_filter.mpr h1
theorem mw_8 : ∀ w ∈ u_ws RX8 TX8 6, w ∈ mv_tbl := by
  have h : (u_ws RX8 TX8 6).all (fun w => decide (w ∈ lw_tbl) && mv_gd w) = true := by decide +kernel
  intro w hw
  have h1 := List.all_eq_true.mp h w hw
  simp only [Bool.and_eq_true, decide_eq_true_eq] at h1
  exact List.mem_filter.mpr h1
theorem mw_9 : ∀ w ∈ u_ws RX9 TX9 1, w ∈ mv_tbl := by
  have h : (u_ws RX9 TX9 1).all (fun w => decide (w ∈ lw_tbl) && mv_gd w) = true := by decide +kernel
  intro w hw
  have h1 := List.all_eq_true.mp h w hw
  simp only [Bool.and_eq_true, decide_eq_true_eq] at h1
  exact List.mem_filter.mpr h1
theorem mw_10 : ∀ w ∈ u_ws RX10 TX10 3, w ∈ mv_tbl := by
  have h : (u_ws RX10 TX10 3).all (fun w => decide (w ∈ lw_tbl) && mv_gd w) = true := by decide +kernel
  intro w hw
  have h1 := List.all_eq_true.mp h w hw
  simp only [Bool.and_eq_true, decide_eq_true_eq] at h1
  exact List.mem_filter.mpr h1
theorem mw_11 : ∀ w ∈ u_ws RX11 TX11 13, w ∈ mv_tbl := by
  have h : (u_ws RX11 TX11 13).all (fun w => decide (w ∈ lw_tbl) && mv_gd w) = true := by decide +kernel
  intro w hw
  have h1 := List.all_eq_true.mp h w hw
  simp only [Bool.and_eq_true, decide_eq_true_eq] at h1
  exact List.mem_filter.mpr h1
theorem mw_12 : ∀ w ∈ u_ws RX12 TX12 65, w ∈ mv_tbl := by
  have h : (u_ws RX12 TX12 65).all (fun w => decide (w ∈ lw_tbl) && mv_gd w) = true := by decide +kernel
  intro w hw
  have h1 := List.all_eq_true.mp h w hw
  simp only [Bool.and_eq_true, decide_eq_true_eq] at h1
  exact List.mem_filter.mpr h1
/-- the class table's facts, by its places -/
theorem mv_cls {ci N : Nat} {C : String} {T : u_T} (h : vwCl[ci]? = some (C, T, N)) : (∀ w ∈ u_ws C T N, w ∈ mv_tbl) ∧ (∀ k, k < N → parseFieldDescriptor (T k).2.2.1 = some (mv_ty ci k)) ∧ (∀ a, a < N → ∀ b, b < N → a ≠ b → (T a).2.1 ≠ (T b).2.1) ∧ mv_nf ci = N ∧ ci < 100 := by
  have hl : ci < 13 := (List.getElem?_eq_some_iff.mp h).1
  match ci, hl, h with
  | 0, _, h => cases h; exact ⟨mw_0, tyX0_ok, nmX0, rfl, by omega⟩
  | 1, _, h => cases h; exact ⟨mw_1, tyX1_ok, nmX1, rfl, by omega⟩
  | 2, _, h => cases h; exact ⟨mw_2, tyX2_ok, nmX2, rfl, by omega⟩
  | 3, _, h => cases h; exact ⟨mw_3, tyX3_ok, nmX3, rfl, by omega⟩
  | 4, _, h => cases h; exact ⟨mw_4, tyX4_ok, nmX4, rfl, by omega⟩
  | 5, _, h => cases h; exact ⟨mw_5, tyX5_ok, nmX5, rfl, by omega⟩
  | 6, _, h => cases h; exact ⟨mw_6, tyX6_ok, nmX6, rfl, by omega⟩
  | 7, _, h => cases h; exact ⟨mw_7, tyX7_ok, nmX7, rfl, by omega⟩
  | 8, _, h => cases h; exact ⟨mw_8, tyX8_ok, nmX8, rfl, by omega⟩
  | 9, _, h => cases h; exact ⟨mw_9, tyX9_ok, nmX9, rfl, by omega⟩
  | 10, _, h => cases h; exact ⟨mw_10, tyX10_ok, nmX10, rfl, by omega⟩
  | 11, _, h => cases h; exact ⟨mw_11, tyX11_ok, nmX11, rfl, by omega⟩
  | 12, _, h => cases h; exact ⟨mw_12, tyX12_ok, nmX12, rfl, by omega⟩
  | n + 13, hl, _ => omega
end
section
theorem mv_if_s {c : Prop} [Decidable c] {A : Prop} (h : if c then A else False) : c ∧ A := by
  by_cases q : c
  · rw [if_pos q] at h; exact ⟨q, h⟩
  · rw [if_neg q] at h; exact h.elim
/-! ONE INSTRUCTION OF THE SMALL MACHINE, BY THE KIT'S ROW (by program: wip/whole/stepgen.py) -/
section MS
variable {G : mv_G} {mi n0 s0 : Nat} {post : Option mv_V → mv_SH → mv_Mem → Prop} {pc a b c : Nat} {v : Int} {ts : List Nat} {L : mv_L} {st : List mv_V} {sh : mv_SH} {M : mv_Mem}
variable {NX : mv_L → List mv_V → mv_SH → mv_Mem → Prop} {JP : Nat → mv_L → List mv_V → mv_SH → mv_Mem → Prop}
abbrev mv_RN (G : mv_G) (mi n0 s0 pc : Nat) (post : Option mv_V → mv_SH → mv_Mem → Prop) (NX : mv_L → List mv_V → mv_SH → mv_Mem → Prop) : Prop := ∀ L st sh M, NX L st sh M → mv_Run G mi n0 s0 pc L st sh M post
theorem ms_iadd (hd : decode (mt_cc (mv_r mi)) pc = .ok (.iadd, 1)) (hn : mv_RN G mi n0 s0 (pc + 1) post NX)
    (hb : mv_pi st fun y r => mv_pi r fun x r => mv_R32 (x + y) ∧ NX L (.inl (x + y) :: r) sh M) : mv_Run G mi n0 s0 pc L st sh M post := by
  obtain ⟨y, r, rfl, hb1⟩ := mv_pi_s hb
  obtain ⟨x, r, rfl, hb2⟩ := mv_pi_s hb1
  obtain ⟨hR, hb2⟩ := hb2
  intro p e s m args below meth cx H locs ls C hl hL hS hW hV hn0 hs0
  obtain ⟨hx, hcb, hml, hown, hts, hrt, hlk, hnm, hsz, hX, hbo, hK⟩ := id C
  have K := hn _ _ _ _ hb2 p e s m args below meth cx H locs ls C hl hL (List.forall_mem_cons.mpr ⟨hR, (List.forall_mem_cons.mp (List.forall_mem_cons.mp hS).2).2⟩) hW hV hn0 hs0
  refine lv_iadd hx hcb hd ?_
  rw [← Int32.ofInt_add]
  exact K
theorem ms_ladd (hd : decode (mt_cc (mv_r mi)) pc = .ok (.ladd, 1)) (hn : mv_RN G mi n0 s0 (pc + 1) post NX)
    (hb : mv_pl st fun y r => mv_pl r fun x r => mv_R64 (x + y) ∧ NX L (.inr (.inl (x + y)) :: r) sh M) : mv_Run G mi n0 s0 pc L st sh M post := by
  obtain ⟨y, r, rfl, hb1⟩ := mv_pl_s hb
  obtain ⟨x, r, rfl, hb2⟩ := mv_pl_s hb1
  obtain ⟨hR, hb2⟩ := hb2
  intro p e s m args below meth cx H locs ls C hl hL hS hW hV hn0 hs0
  obtain ⟨hx, hcb, hml, hown, hts, hrt, hlk, hnm, hsz, hX, hbo, hK⟩ := id C
  have K := hn _ _ _ _ hb2 p e s m args below meth cx H locs ls C hl hL (List.forall_mem_cons.mpr ⟨hR, (List.forall_mem_cons.mp (List.forall_mem_cons.mp hS).2).2⟩) hW hV hn0 hs0
  refine lv_ladd hx hcb hd ?_
  rw [← Int64.ofInt_add]
  exact K
theorem ms_isub (hd : decode (mt_cc (mv_r mi)) pc = .ok (.isub, 1)) (hn : mv_RN G mi n0 s0 (pc + 1) post NX)
    (hb : mv_pi st fun y r => mv_pi r fun x r => mv_R32 (x - y) ∧ NX L (.inl (x - y) :: r) sh M) : mv_Run G mi n0 s0 pc L st sh M post := by
  obtain ⟨y, r, rfl, hb1⟩ := mv_pi_s hb
  obtain ⟨x, r, rfl, hb2⟩ := mv_pi_s hb1
  obtain ⟨hR, hb2⟩ := hb2
  intro p e s m args below meth cx H locs ls C hl hL hS hW hV hn0 hs0
  obtain ⟨hx, hcb, hml, hown, hts, hrt, hlk, hnm, hsz, hX, hbo, hK⟩ := id C
  have K := hn _ _ _ _ hb2 p e s m args below meth cx H locs ls C hl hL (List.forall_mem_cons.mpr ⟨hR, (List.forall_mem_cons.mp (List.forall_mem_cons.mp hS).2).2⟩) hW hV hn0 hs0
  refine lv_isub hx hcb hd ?_
  rw [← Int32.ofInt_sub]
  exact K
theorem ms_lsub (hd : decode (mt_cc (mv_r mi)) pc = .ok (.lsub, 1)) (hn : mv_RN G mi n0 s0 (pc + 1) post NX)
    (hb : mv_pl st fun y r => mv_pl r fun x r => mv_R64 (x - y) ∧ NX L (.inr (.inl (x - y)) :: r) sh M) : mv_Run G mi n0 s0 pc L st sh M post := by
  obtain ⟨y, r, rfl, hb1⟩ := mv_pl_s hb
  obtain ⟨x, r, rfl, hb2⟩ := mv_pl_s hb1
  obtain ⟨hR, hb2⟩ := hb2
  intro p e s m args below meth cx H locs ls C hl hL hS hW hV hn0 hs0
  obtain ⟨hx, hcb, hml, hown, hts, hrt, hlk, hnm, hsz, hX, hbo, hK⟩ := id C
  have K := hn _ _ _ _ hb2 p e s m args below meth cx H locs ls C hl hL (List.forall_mem_cons.mpr ⟨hR, (List.forall_mem_cons.mp (List.forall_mem_cons.mp hS).2).2⟩) hW hV hn0 hs0
  refine lv_lsub hx hcb hd ?_
  rw [← Int64.ofInt_sub]
  exact K
theorem ms_imul (hd : decode (mt_cc (mv_r mi)) pc = .ok (.imul, 1)) (hn : mv_RN G mi n0 s0 (pc + 1) post NX)
    (hb : mv_pi st fun y r => mv_pi r fun x r => mv_R32 (x * y) ∧ NX L (.inl (x * y) :: r) sh M) : mv_Run G mi n0 s0 pc L st sh M post := by
  obtain ⟨y, r, rfl, hb1⟩ := mv_pi_s hb
  obtain ⟨x, r, rfl, hb2⟩ := mv_pi_s hb1
  obtain ⟨hR, hb2⟩ := hb2
  intro p e s m args below meth cx H locs ls C hl hL hS hW hV hn0 hs0
  obtain ⟨hx, hcb, hml, hown, hts, hrt, hlk, hnm, hsz, hX, hbo, hK⟩ := id C
  have K := hn _ _ _ _ hb2 p e s m args below meth cx H locs ls C hl hL (List.forall_mem_cons.mpr ⟨hR, (List.forall_mem_cons.mp (List.forall_mem_cons.mp hS).2).2⟩) hW hV hn0 hs0
  refine lv_imul hx hcb hd ?_
  rw [← Int32.ofInt_mul]
  exact K
theorem ms_lmul (hd : decode (mt_cc (mv_r mi)) pc = .ok (.lmul, 1)) (hn : mv_RN G mi n0 s0 (pc + 1) post NX)
    (hb : mv_pl st fun y r => mv_pl r fun x r => mv_R64 (x * y) ∧ NX L (.inr (.inl (x * y)) :: r) sh M) : mv_Run G mi n0 s0 pc L st sh M post := by
  obtain ⟨y, r, rfl, hb1⟩ := mv_pl_s hb
  obtain ⟨x, r, rfl, hb2⟩ := mv_pl_s hb1
  obtain ⟨hR, hb2⟩ := hb2
  intro p e s m args below meth cx H locs ls C hl hL hS hW hV hn0 hs0
  obtain ⟨hx, hcb, hml, hown, hts, hrt, hlk, hnm, hsz, hX, hbo, hK⟩ := id C
  have K := hn _ _ _ _ hb2 p e s m args below meth cx H locs ls C hl hL (List.forall_mem_cons.mpr ⟨hR, (List.forall_mem_cons.mp (List.forall_mem_cons.mp hS).2).2⟩) hW hV hn0 hs0
  refine lv_lmul hx hcb hd ?_
  rw [← Int64.ofInt_mul]
  exact K
theorem mv_dv32 {x y : Int} (hx : mv_R32 x) (hy : mv_R32 y) : Int32.ofInt x / Int32.ofInt y = Int32.ofInt (x.tdiv y) := by
  have e1 : Int32.minValue.toInt = -2147483648 := by decide
  have e2 : Int32.maxValue.toInt = 2147483648 - 1 := by decide
  exact (Int32.ofInt_tdiv (by omega) (by omega) (by omega) (by omega)).symm
theorem mv_md32 {x y : Int} (hx : mv_R32 x) (hy : mv_R32 y) : Int32.ofInt x - Int32.ofInt x / Int32.ofInt y * Int32.ofInt y = Int32.ofInt (x.tmod y) := by
  rw [mv_dv32 hx hy, ← Int32.ofInt_mul, ← Int32.ofInt_sub, Int.tmod_def, Int.mul_comm]
theorem mv_nz32 {y : Int} (hy : mv_R32 y) (h : ¬ y = 0) : ¬ Int32.ofInt y = 0 := by
  intro q
  exact h ((mv_e32 hy mv_z32).mp q)
theorem ms_idiv (hd : decode (mt_cc (mv_r mi)) pc = .ok (.idiv, 1)) (hn : mv_RN G mi n0 s0 (pc + 1) post NX)
    (hb : mv_pi st fun y r => mv_pi r fun x r => (¬ y = 0 ∧ mv_R32 (x.tdiv y)) ∧ NX L (.inl (x.tdiv y) :: r) sh M) : mv_Run G mi n0 s0 pc L st sh M post := by
  obtain ⟨y, r, rfl, hb1⟩ := mv_pi_s hb
  obtain ⟨x, r, rfl, hb2⟩ := mv_pi_s hb1
  obtain ⟨⟨hz, hR⟩, hb2⟩ := hb2
  intro p e s m args below meth cx H locs ls C hl hL hS hW hV hn0 hs0
  obtain ⟨hx, hcb, hml, hown, hts, hrt, hlk, hnm, hsz, hX, hbo, hK⟩ := id C
  have hy := (List.forall_mem_cons.mp hS).1
  have hx2 := (List.forall_mem_cons.mp (List.forall_mem_cons.mp hS).2).1
  have K := hn _ _ _ _ hb2 p e s m args below meth cx H locs ls C hl hL (List.forall_mem_cons.mpr ⟨hR, (List.forall_mem_cons.mp (List.forall_mem_cons.mp hS).2).2⟩) hW hV hn0 hs0
  refine lv_idiv hx hcb hd (mv_nz32 hy hz) ?_
  rw [mv_dv32 hx2 hy]
  exact K
theorem ms_irem (hd : decode (mt_cc (mv_r mi)) pc = .ok (.irem, 1)) (hn : mv_RN G mi n0 s0 (pc + 1) post NX)
    (hb : mv_pi st fun y r => mv_pi r fun x r => ¬ y = 0 ∧ NX L (.inl (x.tmod y) :: r) sh M) : mv_Run G mi n0 s0 pc L st sh M post := by
  obtain ⟨y, r, rfl, hb1⟩ := mv_pi_s hb
  obtain ⟨x, r, rfl, hb2⟩ := mv_pi_s hb1
  obtain ⟨hz, hb2⟩ := hb2
  intro p e s m args below meth cx H locs ls C hl hL hS hW hV hn0 hs0
  obtain ⟨hx, hcb, hml, hown, hts, hrt, hlk, hnm, hsz, hX, hbo, hK⟩ := id C
  have hy := (List.forall_mem_cons.mp hS).1
  have hx2 := (List.forall_mem_cons.mp (List.forall_mem_cons.mp hS).2).1
  have hR : mv_R32 (x.tmod y) := by
    have h0 : mv_R32 x := hx2
    have h1 : (x.tmod y).natAbs ≤ x.natAbs := by
      rw [Int.natAbs_tmod]
      exact Nat.mod_le _ _
    have h2 : 0 ≤ x → 0 ≤ x.tmod y := fun h => Int.tmod_nonneg y h
    have h3 : x.tmod y = -((-x).tmod y) := by rw [Int.neg_tmod, Int.neg_neg]
    have h4 : x ≤ 0 → 0 ≤ (-x).tmod y := fun h => Int.tmod_nonneg y (by omega)
    constructor <;> omega
  have K := hn _ _ _ _ hb2 p e s m args below meth cx H locs ls C hl hL (List.forall_mem_cons.mpr ⟨hR, (List.forall_mem_cons.mp (List.forall_mem_cons.mp hS).2).2⟩) hW hV hn0 hs0
  refine lv_irem hx hcb hd (mv_nz32 hy hz) ?_
  rw [mv_md32 hx2 hy]
  exact K
theorem ms_ineg (hd : decode (mt_cc (mv_r mi)) pc = .ok (.ineg, 1)) (hn : mv_RN G mi n0 s0 (pc + 1) post NX)
    (hb : mv_pi st fun x r => mv_R32 (-x) ∧ NX L (.inl (-x) :: r) sh M) : mv_Run G mi n0 s0 pc L st sh M post := by
  obtain ⟨x, r, rfl, hb1⟩ := mv_pi_s hb
  obtain ⟨hR, hb1⟩ := hb1
  intro p e s m args below meth cx H locs ls C hl hL hS hW hV hn0 hs0
  obtain ⟨hx, hcb, hml, hown, hts, hrt, hlk, hnm, hsz, hX, hbo, hK⟩ := id C
  have K := hn _ _ _ _ hb1 p e s m args below meth cx H locs ls C hl hL (List.forall_mem_cons.mpr ⟨hR, (List.forall_mem_cons.mp hS).2⟩) hW hV hn0 hs0
  refine lv_ineg hx hcb hd ?_
  rw [← Int32.ofInt_neg]
  exact K
theorem mv_dv64 {x y : Int} (hx : mv_R64 x) (hy : mv_R64 y) : Int64.ofInt x / Int64.ofInt y = Int64.ofInt (x.tdiv y) := by
  have e1 : Int64.minValue.toInt = -9223372036854775808 := by decide
  have e2 : Int64.maxValue.toInt = 9223372036854775808 - 1 := by decide
  exact (Int64.ofInt_tdiv (by omega) (by omega) (by omega) (by omega)).symm
theorem mv_md64 {x y : Int} (hx : mv_R64 x) (hy : mv_R64 y) : Int64.ofInt x - Int64.ofInt x / Int64.ofInt y * Int64.ofInt y = Int64.ofInt (x.tmod y) := by
  rw [mv_dv64 hx hy, ← Int64.ofInt_mul, ← Int64.ofInt_sub, Int.tmod_def, Int.mul_comm]
theorem mv_nz64 {y : Int} (hy : mv_R64 y) (h : ¬ y = 0) : ¬ Int64.ofInt y = 0 := by
  intro q
  exact h ((mv_e64 hy mv_z64).mp q)
theorem ms_ldiv (hd : decode (mt_cc (mv_r mi)) pc = .ok (.ldiv, 1)) (hn : mv_RN G mi n0 s0 (pc + 1) post NX)
    (hb : mv_pl st fun y r => mv_pl r fun x r => (¬ y = 0 ∧ mv_R64 (x.tdiv y)) ∧ NX L (.inr (.inl (x.tdiv y)) :: r) sh M) : mv_Run G mi n0 s0 pc L st sh M post := by
  obtain ⟨y, r, rfl, hb1⟩ := mv_pl_s hb
  obtain ⟨x, r, rfl, hb2⟩ := mv_pl_s hb1
  obtain ⟨⟨hz, hR⟩, hb2⟩ := hb2
  intro p e s m args below meth cx H locs ls C hl hL hS hW hV hn0 hs0
  obtain ⟨hx, hcb, hml, hown, hts, hrt, hlk, hnm, hsz, hX, hbo, hK⟩ := id C
  have hy := (List.forall_mem_cons.mp hS).1
  have hx2 := (List.forall_mem_cons.mp (List.forall_mem_cons.mp hS).2).1
  have K := hn _ _ _ _ hb2 p e s m args below meth cx H locs ls C hl hL (List.forall_mem_cons.mpr ⟨hR, (List.forall_mem_cons.mp (List.forall_mem_cons.mp hS).2).2⟩) hW hV hn0 hs0
  refine lv_ldiv hx hcb hd (mv_nz64 hy hz) ?_
  rw [mv_dv64 hx2 hy]
  exact K
theorem ms_lrem (hd : decode (mt_cc (mv_r mi)) pc = .ok (.lrem, 1)) (hn : mv_RN G mi n0 s0 (pc + 1) post NX)
    (hb : mv_pl st fun y r => mv_pl r fun x r => ¬ y = 0 ∧ NX L (.inr (.inl (x.tmod y)) :: r) sh M) : mv_Run G mi n0 s0 pc L st sh M post := by
  obtain ⟨y, r, rfl, hb1⟩ := mv_pl_s hb
  obtain ⟨x, r, rfl, hb2⟩ := mv_pl_s hb1
  obtain ⟨hz, hb2⟩ := hb2
  intro p e s m args below meth cx H locs ls C hl hL hS hW hV hn0 hs0
  obtain ⟨hx, hcb, hml, hown, hts, hrt, hlk, hnm, hsz, hX, hbo, hK⟩ := id C
  have hy := (List.forall_mem_cons.mp hS).1
  have hx2 := (List.forall_mem_cons.mp (List.forall_mem_cons.mp hS).2).1
  have hR : mv_R64 (x.tmod y) := by
    have h0 : mv_R64 x := hx2
    have h1 : (x.tmod y).natAbs ≤ x.natAbs := by
      rw [Int.natAbs_tmod]
      exact Nat.mod_le _ _
    have h2 : 0 ≤ x → 0 ≤ x.tmod y := fun h => Int.tmod_nonneg y h
    have h3 : x.tmod y = -((-x).tmod y) := by rw [Int.neg_tmod, Int.neg_neg]
    have h4 : x ≤ 0 → 0 ≤ (-x).tmod y := fun h => Int.tmod_nonneg y (by omega)
    constructor <;> omega
  have K := hn _ _ _ _ hb2 p e s m args below meth cx H locs ls C hl hL (List.forall_mem_cons.mpr ⟨hR, (List.forall_mem_cons.mp (List.forall_mem_cons.mp hS).2).2⟩) hW hV hn0 hs0
  refine lv_lrem hx hcb hd (mv_nz64 hy hz) ?_
  rw [mv_md64 hx2 hy]
  exact K
theorem ms_lneg (hd : decode (mt_cc (mv_r mi)) pc = .ok (.lneg, 1)) (hn : mv_RN G mi n0 s0 (pc + 1) post NX)
    (hb : mv_pl st fun x r => mv_R64 (-x) ∧ NX L (.inr (.inl (-x)) :: r) sh M) : mv_Run G mi n0 s0 pc L st sh M post := by
  obtain ⟨x, r, rfl, hb1⟩ := mv_pl_s hb
  obtain ⟨hR, hb1⟩ := hb1
  intro p e s m args below meth cx H locs ls C hl hL hS hW hV hn0 hs0
  obtain ⟨hx, hcb, hml, hown, hts, hrt, hlk, hnm, hsz, hX, hbo, hK⟩ := id C
  have K := hn _ _ _ _ hb1 p e s m args below meth cx H locs ls C hl hL (List.forall_mem_cons.mpr ⟨hR, (List.forall_mem_cons.mp hS).2⟩) hW hV hn0 hs0
  refine lv_lneg hx hcb hd ?_
  rw [← Int64.ofInt_neg]
  exact K
theorem ms_iand (hd : decode (mt_cc (mv_r mi)) pc = .ok (.iand, 1)) (hn : mv_RN G mi n0 s0 (pc + 1) post NX)
    (hb : mv_pi st fun y r => mv_pi r fun x r => NX L (.inl (mv_and x y) :: r) sh M) : mv_Run G mi n0 s0 pc L st sh M post := by
  obtain ⟨y, r, rfl, hb1⟩ := mv_pi_s hb
  obtain ⟨x, r, rfl, hb2⟩ := mv_pi_s hb1
  intro p e s m args below meth cx H locs ls C hl hL hS hW hV hn0 hs0
  obtain ⟨hx, hcb, hml, hown, hts, hrt, hlk, hnm, hsz, hX, hbo, hK⟩ := id C
  have K := hn _ _ _ _ hb2 p e s m args below meth cx H locs ls C hl hL (List.forall_mem_cons.mpr ⟨mv_r32 _, (List.forall_mem_cons.mp (List.forall_mem_cons.mp hS).2).2⟩) hW hV hn0 hs0
  refine lv_iand hx hcb hd ?_
  have E : mv_ct G (.inl (mv_and x y)) = .int _ := congrArg Value.int (Int32.ofInt_toInt _)
  rw [List.map_cons, E] at K
  exact K
theorem ms_ixor (hd : decode (mt_cc (mv_r mi)) pc = .ok (.ixor, 1)) (hn : mv_RN G mi n0 s0 (pc + 1) post NX)
    (hb : mv_pi st fun y r => mv_pi r fun x r => NX L (.inl (mv_xor x y) :: r) sh M) : mv_Run G mi n0 s0 pc L st sh M post := by
  obtain ⟨y, r, rfl, hb1⟩ := mv_pi_s hb
  obtain ⟨x, r, rfl, hb2⟩ := mv_pi_s hb1
  intro p e s m args below meth cx H locs ls C hl hL hS hW hV hn0 hs0
  obtain ⟨hx, hcb, hml, hown, hts, hrt, hlk, hnm, hsz, hX, hbo, hK⟩ := id C
  have K := hn _ _ _ _ hb2 p e s m args below meth cx H locs ls C hl hL (List.forall_mem_cons.mpr ⟨mv_r32 _, (List.forall_mem_cons.mp (List.forall_mem_cons.mp hS).2).2⟩) hW hV hn0 hs0
  refine lv_ixor hx hcb hd ?_
  have E : mv_ct G (.inl (mv_xor x y)) = .int _ := congrArg Value.int (Int32.ofInt_toInt _)
  rw [List.map_cons, E] at K
  exact K
theorem ms_ishl (hd : decode (mt_cc (mv_r mi)) pc = .ok (.ishl, 1)) (hn : mv_RN G mi n0 s0 (pc + 1) post NX)
    (hb : mv_pi st fun y r => mv_pi r fun x r => NX L (.inl (mv_shl x y) :: r) sh M) : mv_Run G mi n0 s0 pc L st sh M post := by
  obtain ⟨y, r, rfl, hb1⟩ := mv_pi_s hb
  obtain ⟨x, r, rfl, hb2⟩ := mv_pi_s hb1
  intro p e s m args below meth cx H locs ls C hl hL hS hW hV hn0 hs0
  obtain ⟨hx, hcb, hml, hown, hts, hrt, hlk, hnm, hsz, hX, hbo, hK⟩ := id C
  have K := hn _ _ _ _ hb2 p e s m args below meth cx H locs ls C hl hL (List.forall_mem_cons.mpr ⟨mv_r32 _, (List.forall_mem_cons.mp (List.forall_mem_cons.mp hS).2).2⟩) hW hV hn0 hs0
  refine lv_ishl hx hcb hd ?_
  have E : mv_ct G (.inl (mv_shl x y)) = .int _ := congrArg Value.int (Int32.ofInt_toInt _)
  rw [List.map_cons, E] at K
  exact K
theorem ms_ishr (hd : decode (mt_cc (mv_r mi)) pc = .ok (.ishr, 1)) (hn : mv_RN G mi n0 s0 (pc + 1) post NX)
    (hb : mv_pi st fun y r => mv_pi r fun x r => NX L (.inl (mv_shr x y) :: r) sh M) : mv_Run G mi n0 s0 pc L st sh M post := by
  obtain ⟨y, r, rfl, hb1⟩ := mv_pi_s hb
  obtain ⟨x, r, rfl, hb2⟩ := mv_pi_s hb1
  intro p e s m args below meth cx H locs ls C hl hL hS hW hV hn0 hs0
  obtain ⟨hx, hcb, hml, hown, hts, hrt, hlk, hnm, hsz, hX, hbo, hK⟩ := id C
  have K := hn _ _ _ _ hb2 p e s m args below meth cx H locs ls C hl hL (List.forall_mem_cons.mpr ⟨mv_r32 _, (List.forall_mem_cons.mp (List.forall_mem_cons.mp hS).2).2⟩) hW hV hn0 hs0
  refine lv_ishr hx hcb hd ?_
  have E : mv_ct G (.inl (mv_shr x y)) = .int _ := congrArg Value.int (Int32.ofInt_toInt _)
  rw [List.map_cons, E] at K
  exact K
theorem ms_land (hd : decode (mt_cc (mv_r mi)) pc = .ok (.land, 1)) (hn : mv_RN G mi n0 s0 (pc + 1) post NX)
    (hb : mv_pl st fun y r => mv_pl r fun x r => NX L (.inr (.inl (mv_land x y)) :: r) sh M) : mv_Run G mi n0 s0 pc L st sh M post := by
  obtain ⟨y, r, rfl, hb1⟩ := mv_pl_s hb
  obtain ⟨x, r, rfl, hb2⟩ := mv_pl_s hb1
  intro p e s m args below meth cx H locs ls C hl hL hS hW hV hn0 hs0
  obtain ⟨hx, hcb, hml, hown, hts, hrt, hlk, hnm, hsz, hX, hbo, hK⟩ := id C
  have K := hn _ _ _ _ hb2 p e s m args below meth cx H locs ls C hl hL (List.forall_mem_cons.mpr ⟨mv_r64 _, (List.forall_mem_cons.mp (List.forall_mem_cons.mp hS).2).2⟩) hW hV hn0 hs0
  refine lv_land hx hcb hd ?_
  have E : mv_ct G (.inr (.inl (mv_land x y))) = .long _ := congrArg Value.long (Int64.ofInt_toInt _)
  rw [List.map_cons, E] at K
  exact K
theorem ms_lor (hd : decode (mt_cc (mv_r mi)) pc = .ok (.lor, 1)) (hn : mv_RN G mi n0 s0 (pc + 1) post NX)
    (hb : mv_pl st fun y r => mv_pl r fun x r => NX L (.inr (.inl (mv_lor x y)) :: r) sh M) : mv_Run G mi n0 s0 pc L st sh M post := by
  obtain ⟨y, r, rfl, hb1⟩ := mv_pl_s hb
  obtain ⟨x, r, rfl, hb2⟩ := mv_pl_s hb1
  intro p e s m args below meth cx H locs ls C hl hL hS hW hV hn0 hs0
  obtain ⟨hx, hcb, hml, hown, hts, hrt, hlk, hnm, hsz, hX, hbo, hK⟩ := id C
  have K := hn _ _ _ _ hb2 p e s m args below meth cx H locs ls C hl hL (List.forall_mem_cons.mpr ⟨mv_r64 _, (List.forall_mem_cons.mp (List.forall_mem_cons.mp hS).2).2⟩) hW hV hn0 hs0
  refine lv_lor hx hcb hd ?_
  have E : mv_ct G (.inr (.inl (mv_lor x y))) = .long _ := congrArg Value.long (Int64.ofInt_toInt _)
  rw [List.map_cons, E] at K
  exact K
theorem ms_lxor (hd : decode (mt_cc (mv_r mi)) pc = .ok (.lxor, 1)) (hn : mv_RN G mi n0 s0 (pc + 1) post NX)
    (hb : mv_pl st fun y r => mv_pl r fun x r => NX L (.inr (.inl (mv_lxor x y)) :: r) sh M) : mv_Run G mi n0 s0 pc L st sh M post := by
  obtain ⟨y, r, rfl, hb1⟩ := mv_pl_s hb
  obtain ⟨x, r, rfl, hb2⟩ := mv_pl_s hb1
  intro p e s m args below meth cx H locs ls C hl hL hS hW hV hn0 hs0
  obtain ⟨hx, hcb, hml, hown, hts, hrt, hlk, hnm, hsz, hX, hbo, hK⟩ := id C
  have K := hn _ _ _ _ hb2 p e s m args below meth cx H locs ls C hl hL (List.forall_mem_cons.mpr ⟨mv_r64 _, (List.forall_mem_cons.mp (List.forall_mem_cons.mp hS).2).2⟩) hW hV hn0 hs0
  refine lv_lxor hx hcb hd ?_
  have E : mv_ct G (.inr (.inl (mv_lxor x y))) = .long _ := congrArg Value.long (Int64.ofInt_toInt _)
  rw [List.map_cons, E] at K
  exact K
theorem ms_lshl (hd : decode (mt_cc (mv_r mi)) pc = .ok (.lshl, 1)) (hn : mv_RN G mi n0 s0 (pc + 1) post NX)
    (hb : mv_pi st fun y r => mv_pl r fun x r => NX L (.inr (.inl (mv_lshl x y)) :: r) sh M) : mv_Run G mi n0 s0 pc L st sh M post := by
  obtain ⟨y, r, rfl, hb1⟩ := mv_pi_s hb
  obtain ⟨x, r, rfl, hb2⟩ := mv_pl_s hb1
  intro p e s m args below meth cx H locs ls C hl hL hS hW hV hn0 hs0
  obtain ⟨hx, hcb, hml, hown, hts, hrt, hlk, hnm, hsz, hX, hbo, hK⟩ := id C
  have K := hn _ _ _ _ hb2 p e s m args below meth cx H locs ls C hl hL (List.forall_mem_cons.mpr ⟨mv_r64 _, (List.forall_mem_cons.mp (List.forall_mem_cons.mp hS).2).2⟩) hW hV hn0 hs0
  refine lv_lshl hx hcb hd rfl ?_
  have E : mv_ct G (.inr (.inl (mv_lshl x y))) = .long _ := congrArg Value.long (Int64.ofInt_toInt _)
  rw [List.map_cons, E] at K
  exact K
theorem ms_lshr (hd : decode (mt_cc (mv_r mi)) pc = .ok (.lshr, 1)) (hn : mv_RN G mi n0 s0 (pc + 1) post NX)
    (hb : mv_pi st fun y r => mv_pl r fun x r => NX L (.inr (.inl (mv_lshr x y)) :: r) sh M) : mv_Run G mi n0 s0 pc L st sh M post := by
  obtain ⟨y, r, rfl, hb1⟩ := mv_pi_s hb
  obtain ⟨x, r, rfl, hb2⟩ := mv_pl_s hb1
  intro p e s m args below meth cx H locs ls C hl hL hS hW hV hn0 hs0
  obtain ⟨hx, hcb, hml, hown, hts, hrt, hlk, hnm, hsz, hX, hbo, hK⟩ := id C
  have K := hn _ _ _ _ hb2 p e s m args below meth cx H locs ls C hl hL (List.forall_mem_cons.mpr ⟨mv_r64 _, (List.forall_mem_cons.mp (List.forall_mem_cons.mp hS).2).2⟩) hW hV hn0 hs0
  refine lv_lshr hx hcb hd rfl ?_
  have E : mv_ct G (.inr (.inl (mv_lshr x y))) = .long _ := congrArg Value.long (Int64.ofInt_toInt _)
  rw [List.map_cons, E] at K
  exact K
theorem ms_lushr (hd : decode (mt_cc (mv_r mi)) pc = .ok (.lushr, 1)) (hn : mv_RN G mi n0 s0 (pc + 1) post NX)
    (hb : mv_pi st fun y r => mv_pl r fun x r => NX L (.inr (.inl (mv_lushr x y)) :: r) sh M) : mv_Run G mi n0 s0 pc L st sh M post := by
  obtain ⟨y, r, rfl, hb1⟩ := mv_pi_s hb
  obtain ⟨x, r, rfl, hb2⟩ := mv_pl_s hb1
  intro p e s m args below meth cx H locs ls C hl hL hS hW hV hn0 hs0
  obtain ⟨hx, hcb, hml, hown, hts, hrt, hlk, hnm, hsz, hX, hbo, hK⟩ := id C
  have K := hn _ _ _ _ hb2 p e s m args below meth cx H locs ls C hl hL (List.forall_mem_cons.mpr ⟨mv_r64 _, (List.forall_mem_cons.mp (List.forall_mem_cons.mp hS).2).2⟩) hW hV hn0 hs0
  refine lv_lushr hx hcb hd rfl ?_
  have E : mv_ct G (.inr (.inl (mv_lushr x y))) = .long _ := congrArg Value.long (Int64.ofInt_toInt _)
  rw [List.map_cons, E] at K
  exact K
theorem ms_i2l (hd : decode (mt_cc (mv_r mi)) pc = .ok (.i2l, 1)) (hn : mv_RN G mi n0 s0 (pc + 1) post NX)
    (hb : mv_pi st fun x r => NX L (.inr (.inl x) :: r) sh M) : mv_Run G mi n0 s0 pc L st sh M post := by
  obtain ⟨x, r, rfl, hb1⟩ := mv_pi_s hb
  intro p e s m args below meth cx H locs ls C hl hL hS hW hV hn0 hs0
  obtain ⟨hx, hcb, hml, hown, hts, hrt, hlk, hnm, hsz, hX, hbo, hK⟩ := id C
  have h0 : mv_R32 x := (List.forall_mem_cons.mp hS).1
  have K := hn _ _ _ _ hb1 p e s m args below meth cx H locs ls C hl hL (List.forall_mem_cons.mpr ⟨mv_R6 h0, (List.forall_mem_cons.mp hS).2⟩) hW hV hn0 hs0
  have e1 : Int32.minValue.toInt = -2147483648 := by decide
  have e2 : Int32.maxValue.toInt = 2147483647 := by decide
  exact lv_i2l hx hcb hd (Int32.toInt64_ofInt (by omega) (by omega)) K
theorem ms_l2i (hd : decode (mt_cc (mv_r mi)) pc = .ok (.l2i, 1)) (hn : mv_RN G mi n0 s0 (pc + 1) post NX)
    (hb : mv_pl st fun x r => mv_R32 x ∧ NX L (.inl x :: r) sh M) : mv_Run G mi n0 s0 pc L st sh M post := by
  obtain ⟨x, r, rfl, hb1⟩ := mv_pl_s hb
  obtain ⟨hR, hb1⟩ := hb1
  intro p e s m args below meth cx H locs ls C hl hL hS hW hV hn0 hs0
  obtain ⟨hx, hcb, hml, hown, hts, hrt, hlk, hnm, hsz, hX, hbo, hK⟩ := id C
  have K := hn _ _ _ _ hb1 p e s m args below meth cx H locs ls C hl hL (List.forall_mem_cons.mpr ⟨hR, (List.forall_mem_cons.mp hS).2⟩) hW hV hn0 hs0
  exact lv_l2i hx hcb hd Int64.toInt32_ofInt K
theorem mv_cmp_e {x y : Int} (hx : mv_R64 x) (hy : mv_R64 y) : lg_cmp (Int64.ofInt x) (Int64.ofInt y) = Int32.ofInt (mv_cmp x y) := by
  unfold lg_cmp mv_cmp
  by_cases h : y < x
  · rw [if_pos ((mv_l64 hy hx).mpr h), if_pos h]; rfl
  · rw [if_neg (fun q => h ((mv_l64 hy hx).mp q)), if_neg h]
    by_cases h2 : x = y
    · rw [if_pos ((mv_e64 hx hy).mpr h2), if_pos h2]; rfl
    · rw [if_neg (fun q => h2 ((mv_e64 hx hy).mp q)), if_neg h2]; rfl
theorem mv_cmp_r (x y : Int) : mv_R32 (mv_cmp x y) := by
  unfold mv_cmp
  split
  · constructor <;> omega
  · split <;> constructor <;> omega
theorem ms_lcmp (hd : decode (mt_cc (mv_r mi)) pc = .ok (.lcmp, 1)) (hn : mv_RN G mi n0 s0 (pc + 1) post NX)
    (hb : mv_pl st fun y r => mv_pl r fun x r => NX L (.inl (mv_cmp x y) :: r) sh M) : mv_Run G mi n0 s0 pc L st sh M post := by
  obtain ⟨y, r, rfl, hb1⟩ := mv_pl_s hb
  obtain ⟨x, r, rfl, hb2⟩ := mv_pl_s hb1
  intro p e s m args below meth cx H locs ls C hl hL hS hW hV hn0 hs0
  obtain ⟨hx, hcb, hml, hown, hts, hrt, hlk, hnm, hsz, hX, hbo, hK⟩ := id C
  have hy : mv_R64 y := (List.forall_mem_cons.mp hS).1
  have hx2 : mv_R64 x := (List.forall_mem_cons.mp (List.forall_mem_cons.mp hS).2).1
  have K := hn _ _ _ _ hb2 p e s m args below meth cx H locs ls C hl hL (List.forall_mem_cons.mpr ⟨mv_cmp_r x y, (List.forall_mem_cons.mp (List.forall_mem_cons.mp hS).2).2⟩) hW hV hn0 hs0
  refine W.lcmp hx hcb hd ?_
  rw [mv_cmp_e hx2 hy]
  exact K
theorem mv_c1 {x : mv_V} (h : mv_isL x = false) : (mv_ct G x).category = 1 := by
  obtain x | x | x := x
  · rfl
  · cases h
  · rfl
theorem ms_dup (hd : decode (mt_cc (mv_r mi)) pc = .ok (.dup, 1)) (hn : mv_RN G mi n0 s0 (pc + 1) post NX)
    (hb : match (generalizing := false) st with
      | x :: r => if mv_isL x = false then NX L (x :: x :: r) sh M else False
      | _ => False) : mv_Run G mi n0 s0 pc L st sh M post := by
  obtain _ | ⟨x, r⟩ := st
  · exact hb.elim
  · have hc := mv_if_s hb
    obtain ⟨hc, hb⟩ := hc
    intro p e s m args below meth cx H locs ls C hl hL hS hW hV hn0 hs0
    obtain ⟨hx, hcb, hml, hown, hts, hrt, hlk, hnm, hsz, hX, hbo, hK⟩ := id C
    have K := hn _ _ _ _ hb p e s m args below meth cx H locs ls C hl hL (List.forall_mem_cons.mpr ⟨(List.forall_mem_cons.mp hS).1, hS⟩) hW hV hn0 hs0
    exact lv_dup hx hcb hd (mv_c1 hc) K
theorem ms_pop (hd : decode (mt_cc (mv_r mi)) pc = .ok (.pop, 1)) (hn : mv_RN G mi n0 s0 (pc + 1) post NX)
    (hb : match (generalizing := false) st with
      | x :: r => if mv_isL x = false then NX L r sh M else False
      | _ => False) : mv_Run G mi n0 s0 pc L st sh M post := by
  obtain _ | ⟨x, r⟩ := st
  · exact hb.elim
  · have hc := mv_if_s hb
    obtain ⟨hc, hb⟩ := hc
    intro p e s m args below meth cx H locs ls C hl hL hS hW hV hn0 hs0
    obtain ⟨hx, hcb, hml, hown, hts, hrt, hlk, hnm, hsz, hX, hbo, hK⟩ := id C
    have K := hn _ _ _ _ hb p e s m args below meth cx H locs ls C hl hL (List.forall_mem_cons.mp hS).2 hW hV hn0 hs0
    exact lv_pop hx hcb hd (mv_c1 hc) K
theorem ms_dup2 (hd : decode (mt_cc (mv_r mi)) pc = .ok (.dup2, 1)) (hn : mv_RN G mi n0 s0 (pc + 1) post NX)
    (hb : match (generalizing := false) st with
      | y :: x :: r => if mv_isL x = false ∧ mv_isL y = false then NX L (y :: x :: y :: x :: r) sh M else False
      | _ => False) : mv_Run G mi n0 s0 pc L st sh M post := by
  obtain _ | ⟨y, _ | ⟨x, r⟩⟩ := st
  · exact hb.elim
  · exact hb.elim
  · have hc := mv_if_s hb
    obtain ⟨⟨hc, hc2⟩, hb⟩ := hc
    intro p e s m args below meth cx H locs ls C hl hL hS hW hV hn0 hs0
    obtain ⟨hx, hcb, hml, hown, hts, hrt, hlk, hnm, hsz, hX, hbo, hK⟩ := id C
    have h1 := (List.forall_mem_cons.mp hS).1
    have h2 := (List.forall_mem_cons.mp (List.forall_mem_cons.mp hS).2).1
    have K := hn _ _ _ _ hb p e s m args below meth cx H locs ls C hl hL (List.forall_mem_cons.mpr ⟨h1, List.forall_mem_cons.mpr ⟨h2, hS⟩⟩) hW hV hn0 hs0
    exact lv_dup2_11 hx hcb hd (mv_c1 hc2) (mv_c1 hc) K
theorem ms_iconst {i : Instr} {ln : Nat} (hd : decode (mt_cc (mv_r mi)) pc = .ok (i, ln)) (hf : mv_fit (mv_r mi) pc ln (.iconst 0) a b c v ts i = true) (hn : mv_RN G mi n0 s0 (pc + ln) post NX)
    (hb : NX L (.inl v :: st) sh M) : mv_Run G mi n0 s0 pc L st sh M post := by
  intro p e s m args below meth cx H locs ls C hl hL hS hW hV hn0 hs0
  obtain ⟨hx, hcb, hml, hown, hts, hrt, hlk, hnm, hsz, hX, hbo, hK⟩ := id C
  unfold mv_fit at hf
  dsimp only at hf
  rw [Bool.and_eq_true, decide_eq_true_eq] at hf
  obtain ⟨hR, hf⟩ := hf
  have K := hn _ _ _ _ hb p e s m args below meth cx H locs ls C hl hL (List.forall_mem_cons.mpr ⟨hR, hS⟩) hW hV hn0 hs0
  cases i with
  | iconst n =>
    simp only [Bool.and_eq_true, decide_eq_true_eq] at hf
    obtain ⟨rfl, h⟩ := hf
    exact lv_iconst hx hcb hd h K
  | bipush n =>
    simp only [Bool.and_eq_true, decide_eq_true_eq] at hf
    obtain ⟨rfl, h⟩ := hf
    exact lv_bipush hx hcb hd h K
  | sipush n =>
    simp only [Bool.and_eq_true, decide_eq_true_eq] at hf
    obtain ⟨rfl, h⟩ := hf
    exact lv_sipush hx hcb hd h K
  | ldc n =>
    simp only [Bool.and_eq_true, decide_eq_true_eq] at hf
    obtain ⟨rfl, h⟩ := hf
    exact lv_ldc hx hcb hown (hts _ (mv_hw_mem h)) hd K
  | ldc_w n =>
    simp only [Bool.and_eq_true, decide_eq_true_eq] at hf
    obtain ⟨rfl, h⟩ := hf
    exact lv_ldcw hx hcb hown (hts _ (mv_hw_mem h)) hd K
  | _ => cases hf
theorem ms_lconst {i : Instr} {ln : Nat} (hd : decode (mt_cc (mv_r mi)) pc = .ok (i, ln)) (hf : mv_fit (mv_r mi) pc ln (.lconst 0) a b c v ts i = true) (hn : mv_RN G mi n0 s0 (pc + ln) post NX)
    (hb : NX L (.inr (.inl v) :: st) sh M) : mv_Run G mi n0 s0 pc L st sh M post := by
  intro p e s m args below meth cx H locs ls C hl hL hS hW hV hn0 hs0
  obtain ⟨hx, hcb, hml, hown, hts, hrt, hlk, hnm, hsz, hX, hbo, hK⟩ := id C
  unfold mv_fit at hf
  dsimp only at hf
  rw [Bool.and_eq_true, decide_eq_true_eq] at hf
  obtain ⟨hR, hf⟩ := hf
  have K := hn _ _ _ _ hb p e s m args below meth cx H locs ls C hl hL (List.forall_mem_cons.mpr ⟨hR, hS⟩) hW hV hn0 hs0
  cases i with
  | lconst n =>
    simp only [Bool.and_eq_true, decide_eq_true_eq] at hf
    obtain ⟨rfl, h⟩ := hf
    exact lv_lconst hx hcb hd h K
  | ldc2_w n =>
    simp only [Bool.and_eq_true, decide_eq_true_eq] at hf
    obtain ⟨rfl, h⟩ := hf
    exact lv_ldc2 hx hcb hown (hts _ (mv_hw_mem h)) hd K
  | _ => cases hf
theorem ms_iload {i : Instr} {ln : Nat} (hd : decode (mt_cc (mv_r mi)) pc = .ok (i, ln)) (hf : mv_fit (mv_r mi) pc ln (.iload 0) a b c v ts i = true) (hn : mv_RN G mi n0 s0 (pc + ln) post NX)
    (hb : match mv_lg a L with
      | some (.inl x) => NX L (.inl x :: st) sh M
      | _ => False) : mv_Run G mi n0 s0 pc L st sh M post := by
  split at hb
  · rename_i x hg
    intro p e s m args below meth cx H locs ls C hl hL hS hW hV hn0 hs0
    obtain ⟨hx, hcb, hml, hown, hts, hrt, hlk, hnm, hsz, hX, hbo, hK⟩ := id C
    have K := hn _ _ _ _ hb p e s m args below meth cx H locs ls C hl hL (List.forall_mem_cons.mpr ⟨mv_lg_o hL hg, hS⟩) hW hV hn0 hs0
    have hg2 := mv_lg_at hl hg
    unfold mv_fit at hf
    dsimp only at hf
    cases i with
    | iload_n n =>
      simp only [Bool.and_eq_true, decide_eq_true_eq] at hf
      obtain ⟨rfl, h⟩ := hf
      exact lv_iload_n hx hcb hd h hg2 K
    | iload n =>
      simp only [Bool.and_eq_true, decide_eq_true_eq] at hf
      obtain ⟨rfl, rfl⟩ := hf
      exact lv_iload hx hcb hd hg2 K
    | _ => cases hf
  · exact hb.elim
theorem ms_lload {i : Instr} {ln : Nat} (hd : decode (mt_cc (mv_r mi)) pc = .ok (i, ln)) (hf : mv_fit (mv_r mi) pc ln (.lload 0) a b c v ts i = true) (hn : mv_RN G mi n0 s0 (pc + ln) post NX)
    (hb : match mv_lg a L with
      | some (.inr (.inl x)) => NX L (.inr (.inl x) :: st) sh M
      | _ => False) : mv_Run G mi n0 s0 pc L st sh M post := by
  split at hb
  · rename_i x hg
    intro p e s m args below meth cx H locs ls C hl hL hS hW hV hn0 hs0
    obtain ⟨hx, hcb, hml, hown, hts, hrt, hlk, hnm, hsz, hX, hbo, hK⟩ := id C
    have K := hn _ _ _ _ hb p e s m args below meth cx H locs ls C hl hL (List.forall_mem_cons.mpr ⟨mv_lg_o hL hg, hS⟩) hW hV hn0 hs0
    have hg2 := mv_lg_at hl hg
    unfold mv_fit at hf
    dsimp only at hf
    cases i with
    | lload_n n =>
      simp only [Bool.and_eq_true, decide_eq_true_eq] at hf
      obtain ⟨rfl, h⟩ := hf
      exact lv_lload_n hx hcb hd h hg2 K
    | lload n =>
      simp only [Bool.and_eq_true, decide_eq_true_eq] at hf
      obtain ⟨rfl, rfl⟩ := hf
      exact lv_lload hx hcb hd hg2 K
    | _ => cases hf
  · exact hb.elim
theorem ms_aload {i : Instr} {ln : Nat} (hd : decode (mt_cc (mv_r mi)) pc = .ok (i, ln)) (hf : mv_fit (mv_r mi) pc ln (.aload 0) a b c v ts i = true) (hn : mv_RN G mi n0 s0 (pc + ln) post NX)
    (hb : match mv_lg a L with
      | some (.inr (.inr x)) => NX L (.inr (.inr x) :: st) sh M
      | _ => False) : mv_Run G mi n0 s0 pc L st sh M post := by
  split at hb
  · rename_i x hg
    intro p e s m args below meth cx H locs ls C hl hL hS hW hV hn0 hs0
    obtain ⟨hx, hcb, hml, hown, hts, hrt, hlk, hnm, hsz, hX, hbo, hK⟩ := id C
    have K := hn _ _ _ _ hb p e s m args below meth cx H locs ls C hl hL (List.forall_mem_cons.mpr ⟨mv_lg_o hL hg, hS⟩) hW hV hn0 hs0
    have hg2 := mv_lg_at hl hg
    unfold mv_fit at hf
    dsimp only at hf
    cases i with
    | aload_n n =>
      simp only [Bool.and_eq_true, decide_eq_true_eq] at hf
      obtain ⟨rfl, h⟩ := hf
      exact lv_aload_n hx hcb hd h hg2 K
    | aload n =>
      simp only [Bool.and_eq_true, decide_eq_true_eq] at hf
      obtain ⟨rfl, rfl⟩ := hf
      exact lv_aload hx hcb hd hg2 K
    | _ => cases hf
  · exact hb.elim
theorem ms_istore {i : Instr} {ln : Nat} (hd : decode (mt_cc (mv_r mi)) pc = .ok (i, ln)) (hf : mv_fit (mv_r mi) pc ln (.istore 0) a b c v ts i = true) (hn : mv_RN G mi n0 s0 (pc + ln) post NX)
    (hb : mv_pi st fun x r => NX (mv_st1 a (.inl x) L) r sh M) : mv_Run G mi n0 s0 pc L st sh M post := by
  obtain ⟨x, r, rfl, hb1⟩ := mv_pi_s hb
  intro p e s m args below meth cx H locs ls C hl hL hS hW hV hn0 hs0
  obtain ⟨hx, hcb, hml, hown, hts, hrt, hlk, hnm, hsz, hX, hbo, hK⟩ := id C
  have hS2 := List.forall_mem_cons.mp hS
  unfold mv_fit at hf
  dsimp only at hf
  rw [Bool.and_eq_true] at hf
  obtain ⟨hlt, hf⟩ := hf
  have hlt : a < mt_nL (mv_r mi) := Nat.le_of_ble_eq_true hlt
  have K := fun (ls : Array Slot) hl => hn _ _ _ _ hb1 p e s m args below meth cx H locs ls C hl (mv_st1_o hL hS2.1) hS2.2 hW hV hn0 hs0
  cases i with
  | istore_n n =>
    simp only [Bool.and_eq_true, decide_eq_true_eq] at hf
    obtain ⟨rfl, h⟩ := hf
    exact lv_istore_n hx hcb hd h hl hlt (mv_st1_m G a (.inl x) L) K
  | istore n =>
    simp only [Bool.and_eq_true, decide_eq_true_eq] at hf
    obtain ⟨rfl, rfl⟩ := hf
    exact lv_istore hx hcb hd hl hlt (mv_st1_m G _ (.inl x) L) K
  | _ => cases hf
theorem ms_astore {i : Instr} {ln : Nat} (hd : decode (mt_cc (mv_r mi)) pc = .ok (i, ln)) (hf : mv_fit (mv_r mi) pc ln (.astore 0) a b c v ts i = true) (hn : mv_RN G mi n0 s0 (pc + ln) post NX)
    (hb : mv_pr st fun x r => NX (mv_st1 a (.inr (.inr x)) L) r sh M) : mv_Run G mi n0 s0 pc L st sh M post := by
  obtain ⟨x, r, rfl, hb1⟩ := mv_pr_s hb
  intro p e s m args below meth cx H locs ls C hl hL hS hW hV hn0 hs0
  obtain ⟨hx, hcb, hml, hown, hts, hrt, hlk, hnm, hsz, hX, hbo, hK⟩ := id C
  have hS2 := List.forall_mem_cons.mp hS
  unfold mv_fit at hf
  dsimp only at hf
  rw [Bool.and_eq_true] at hf
  obtain ⟨hlt, hf⟩ := hf
  have hlt : a < mt_nL (mv_r mi) := Nat.le_of_ble_eq_true hlt
  have K := fun (ls : Array Slot) hl => hn _ _ _ _ hb1 p e s m args below meth cx H locs ls C hl (mv_st1_o hL hS2.1) hS2.2 hW hV hn0 hs0
  cases i with
  | astore_n n =>
    simp only [Bool.and_eq_true, decide_eq_true_eq] at hf
    obtain ⟨rfl, h⟩ := hf
    exact lv_astore_n hx hcb hd h hl hlt (mv_st1_m G a (.inr (.inr x)) L) K
  | astore n =>
    simp only [Bool.and_eq_true, decide_eq_true_eq] at hf
    obtain ⟨rfl, rfl⟩ := hf
    exact lv_astore hx hcb hd hl hlt (mv_st1_m G _ (.inr (.inr x)) L) K
  | _ => cases hf
theorem ms_lstore {i : Instr} {ln : Nat} (hd : decode (mt_cc (mv_r mi)) pc = .ok (i, ln)) (hf : mv_fit (mv_r mi) pc ln (.lstore 0) a b c v ts i = true) (hn : mv_RN G mi n0 s0 (pc + ln) post NX)
    (hb : mv_pl st fun x r => NX (mv_st2 a x L) r sh M) : mv_Run G mi n0 s0 pc L st sh M post := by
  obtain ⟨x, r, rfl, hb1⟩ := mv_pl_s hb
  intro p e s m args below meth cx H locs ls C hl hL hS hW hV hn0 hs0
  obtain ⟨hx, hcb, hml, hown, hts, hrt, hlk, hnm, hsz, hX, hbo, hK⟩ := id C
  have hS2 := List.forall_mem_cons.mp hS
  unfold mv_fit at hf
  dsimp only at hf
  rw [Bool.and_eq_true] at hf
  obtain ⟨hlt, hf⟩ := hf
  have hlt : a + 1 < mt_nL (mv_r mi) := Nat.le_of_ble_eq_true hlt
  have K := fun (ls : Array Slot) hl => hn _ _ _ _ hb1 p e s m args below meth cx H locs ls C hl (mv_st2_o hL hS2.1) hS2.2 hW hV hn0 hs0
  cases i with
  | lstore_n n =>
    simp only [Bool.and_eq_true, decide_eq_true_eq] at hf
    obtain ⟨rfl, h⟩ := hf
    exact lv_lstore_n hx hcb hd h hl hlt (mv_st2_m G a x L) K
  | lstore n =>
    simp only [Bool.and_eq_true, decide_eq_true_eq] at hf
    obtain ⟨rfl, rfl⟩ := hf
    exact lv_lstore hx hcb hd hl hlt (mv_st2_m G _ x L) K
  | _ => cases hf
theorem ms_iinc {i : Instr} {ln : Nat} (hd : decode (mt_cc (mv_r mi)) pc = .ok (i, ln)) (hf : mv_fit (mv_r mi) pc ln (.iinc 0 0) a b c v ts i = true) (hn : mv_RN G mi n0 s0 (pc + ln) post NX)
    (hb : match mv_lg a L with
      | some (.inl x) => mv_R32 (x + v) ∧ NX (mv_st1 a (.inl (x + v)) L) st sh M
      | _ => False) : mv_Run G mi n0 s0 pc L st sh M post := by
  split at hb
  · rename_i x hg
    obtain ⟨hR, hb⟩ := hb
    intro p e s m args below meth cx H locs ls C hl hL hS hW hV hn0 hs0
    obtain ⟨hx, hcb, hml, hown, hts, hrt, hlk, hnm, hsz, hX, hbo, hK⟩ := id C
    unfold mv_fit at hf
    dsimp only at hf
    rw [Bool.and_eq_true] at hf
    obtain ⟨hlt, hf⟩ := hf
    have hlt : a < mt_nL (mv_r mi) := Nat.le_of_ble_eq_true hlt
    have K := fun (ls : Array Slot) hl => hn _ _ _ _ hb p e s m args below meth cx H locs ls C hl (mv_st1_o hL hR) hS hW hV hn0 hs0
    obtain ⟨k, hk⟩ := mv_lg_pos (G := G) hg
    cases i with
    | iinc n z =>
      simp only [Bool.and_eq_true, decide_eq_true_eq] at hf
      obtain ⟨rfl, rfl, h⟩ := hf
      exact lv_iinc hx hcb hd hl hk (v := Int32.ofInt (x + v)) (by rw [h, ← Int32.ofInt_add]) hlt (mv_st1_m G _ (.inl (x + v)) L) K
    | _ => cases hf
  · exact hb.elim
theorem ms_goto {i : Instr} {ln : Nat} (hd : decode (mt_cc (mv_r mi)) pc = .ok (i, ln)) (hf : mv_fit (mv_r mi) pc ln (.goto 0) a b c v ts i = true) (hj : mv_RN G mi n0 s0 a post NX)
    (hb : NX L st sh M) : mv_Run G mi n0 s0 pc L st sh M post := by
  intro p e s m args below meth cx H locs ls C hl hL hS hW hV hn0 hs0
  obtain ⟨hx, hcb, hml, hown, hts, hrt, hlk, hnm, hsz, hX, hbo, hK⟩ := id C
  have K := hj _ _ _ _ hb p e s m args below meth cx H locs ls C hl hL hS hW hV hn0 hs0
  unfold mv_fit at hf
  dsimp only at hf
  cases i with
  | goto off =>
    simp only [Bool.and_eq_true, decide_eq_true_eq] at hf
    obtain ⟨rfl, h⟩ := hf
    exact lv_goto hx hcb hd h K
  | _ => cases hf
theorem ms_if {i : Instr} {ln : Nat} {k : Jvm.ClassFile.Cond} (hd : decode (mt_cc (mv_r mi)) pc = .ok (i, ln)) (hf : mv_fit (mv_r mi) pc ln (.ifCond k 0) a b c v ts i = true) (hn : mv_RN G mi n0 s0 (pc + ln) post NX) (hj : mv_RN G mi n0 s0 a post (JP a))
    (hb : mv_pi st fun x r => mv_cd k x 0 (JP a L r sh M) (NX L r sh M)) : mv_Run G mi n0 s0 pc L st sh M post := by
  obtain ⟨x, r, rfl, hb1⟩ := mv_pi_s hb
  intro p e s m args below meth cx H locs ls C hl hL hS hW hV hn0 hs0
  obtain ⟨hx, hcb, hml, hown, hts, hrt, hlk, hnm, hsz, hX, hbo, hK⟩ := id C
  have hS2 := List.forall_mem_cons.mp hS
  have hxr : mv_R32 x := hS2.1
  have KN := fun hb1 => hn _ _ _ _ hb1 p e s m args below meth cx H locs ls C hl hL hS2.2 hW hV hn0 hs0
  have KJ := fun hb1 => hj _ _ _ _ hb1 p e s m args below meth cx H locs ls C hl hL hS2.2 hW hV hn0 hs0
  unfold mv_fit at hf
  dsimp only at hf
  cases i with
  | ifCond k' off =>
    simp only [Bool.and_eq_true, decide_eq_true_eq] at hf
    obtain ⟨rfl, rfl, h⟩ := hf
    cases k' with
    | eq => exact lv_if_eq hx hcb hd h (fun q => KJ (by dsimp only [mv_cd] at hb1; rw [if_pos ((mv_e32 hxr mv_z32).mp q)] at hb1; exact hb1)) (fun q => KN (by dsimp only [mv_cd] at hb1; rw [if_neg (fun z => q ((mv_e32 hxr mv_z32).mpr z))] at hb1; exact hb1))
    | ne => exact lv_if_ne hx hcb hd h (fun q => KJ (by dsimp only [mv_cd] at hb1; rw [if_neg (fun z => q ((mv_e32 hxr mv_z32).mpr z))] at hb1; exact hb1)) (fun q => KN (by dsimp only [mv_cd] at hb1; rw [if_pos ((mv_e32 hxr mv_z32).mp q)] at hb1; exact hb1))
    | lt => exact lv_if_lt hx hcb hd h (fun q => KJ (by dsimp only [mv_cd] at hb1; rw [if_pos ((mv_l32 hxr mv_z32).mp q)] at hb1; exact hb1)) (fun q => KN (by dsimp only [mv_cd] at hb1; rw [if_neg (fun z => q ((mv_l32 hxr mv_z32).mpr z))] at hb1; exact hb1))
    | ge => exact lv_if_ge hx hcb hd h (fun q => KJ (by dsimp only [mv_cd] at hb1; rw [if_pos ((mv_le32 mv_z32 hxr).mp q)] at hb1; exact hb1)) (fun q => KN (by dsimp only [mv_cd] at hb1; rw [if_neg (fun z => q ((mv_le32 mv_z32 hxr).mpr z))] at hb1; exact hb1))
    | gt => exact lv_if_gt hx hcb hd h (fun q => KJ (by dsimp only [mv_cd] at hb1; rw [if_pos ((mv_l32 mv_z32 hxr).mp q)] at hb1; exact hb1)) (fun q => KN (by dsimp only [mv_cd] at hb1; rw [if_neg (fun z => q ((mv_l32 mv_z32 hxr).mpr z))] at hb1; exact hb1))
    | le => exact lv_if_le hx hcb hd h (fun q => KJ (by dsimp only [mv_cd] at hb1; rw [if_pos ((mv_le32 hxr mv_z32).mp q)] at hb1; exact hb1)) (fun q => KN (by dsimp only [mv_cd] at hb1; rw [if_neg (fun z => q ((mv_le32 hxr mv_z32).mpr z))] at hb1; exact hb1))
  | _ => cases hf
theorem ms_icmp {i : Instr} {ln : Nat} {k : Jvm.ClassFile.Cond} (hd : decode (mt_cc (mv_r mi)) pc = .ok (i, ln)) (hf : mv_fit (mv_r mi) pc ln (.if_icmp k 0) a b c v ts i = true) (hn : mv_RN G mi n0 s0 (pc + ln) post NX) (hj : mv_RN G mi n0 s0 a post (JP a))
    (hb : mv_pi st fun y r => mv_pi r fun x r => mv_cd k x y (JP a L r sh M) (NX L r sh M)) : mv_Run G mi n0 s0 pc L st sh M post := by
  obtain ⟨y, r, rfl, hb1⟩ := mv_pi_s hb
  obtain ⟨x, r, rfl, hb2⟩ := mv_pi_s hb1
  intro p e s m args below meth cx H locs ls C hl hL hS hW hV hn0 hs0
  obtain ⟨hx, hcb, hml, hown, hts, hrt, hlk, hnm, hsz, hX, hbo, hK⟩ := id C
  have hS1 := List.forall_mem_cons.mp hS
  have hyr : mv_R32 y := hS1.1
  have hS2 := List.forall_mem_cons.mp hS1.2
  have hxr : mv_R32 x := hS2.1
  have KN := fun hb2 => hn _ _ _ _ hb2 p e s m args below meth cx H locs ls C hl hL hS2.2 hW hV hn0 hs0
  have KJ := fun hb2 => hj _ _ _ _ hb2 p e s m args below meth cx H locs ls C hl hL hS2.2 hW hV hn0 hs0
  unfold mv_fit at hf
  dsimp only at hf
  cases i with
  | if_icmp k' off =>
    simp only [Bool.and_eq_true, decide_eq_true_eq] at hf
    obtain ⟨rfl, rfl, h⟩ := hf
    cases k' with
    | eq => exact lv_icmp_eq hx hcb hd h (fun q => KJ (by dsimp only [mv_cd] at hb2; rw [if_pos ((mv_e32 hxr hyr).mp q)] at hb2; exact hb2)) (fun q => KN (by dsimp only [mv_cd] at hb2; rw [if_neg (fun z => q ((mv_e32 hxr hyr).mpr z))] at hb2; exact hb2))
    | ne => exact lv_icmp_ne hx hcb hd h (fun q => KJ (by dsimp only [mv_cd] at hb2; rw [if_neg (fun z => q ((mv_e32 hxr hyr).mpr z))] at hb2; exact hb2)) (fun q => KN (by dsimp only [mv_cd] at hb2; rw [if_pos ((mv_e32 hxr hyr).mp q)] at hb2; exact hb2))
    | lt => exact lv_icmp_lt hx hcb hd h (fun q => KJ (by dsimp only [mv_cd] at hb2; rw [if_pos ((mv_l32 hxr hyr).mp q)] at hb2; exact hb2)) (fun q => KN (by dsimp only [mv_cd] at hb2; rw [if_neg (fun z => q ((mv_l32 hxr hyr).mpr z))] at hb2; exact hb2))
    | ge => exact lv_icmp_ge hx hcb hd h (fun q => KJ (by dsimp only [mv_cd] at hb2; rw [if_pos ((mv_le32 hyr hxr).mp q)] at hb2; exact hb2)) (fun q => KN (by dsimp only [mv_cd] at hb2; rw [if_neg (fun z => q ((mv_le32 hyr hxr).mpr z))] at hb2; exact hb2))
    | gt => exact lv_icmp_gt hx hcb hd h (fun q => KJ (by dsimp only [mv_cd] at hb2; rw [if_pos ((mv_l32 hyr hxr).mp q)] at hb2; exact hb2)) (fun q => KN (by dsimp only [mv_cd] at hb2; rw [if_neg (fun z => q ((mv_l32 hyr hxr).mpr z))] at hb2; exact hb2))
    | le => exact lv_icmp_le hx hcb hd h (fun q => KJ (by dsimp only [mv_cd] at hb2; rw [if_pos ((mv_le32 hxr hyr).mp q)] at hb2; exact hb2)) (fun q => KN (by dsimp only [mv_cd] at hb2; rw [if_neg (fun z => q ((mv_le32 hxr hyr).mpr z))] at hb2; exact hb2))
  | _ => cases hf
end MS
end
section
/-! ONE INSTRUCTION OF THE SMALL MACHINE: fields, arrays, new cells, switches, ends -/
section MC
variable {G : mv_G} {mi n0 s0 : Nat} {post : Option mv_V → mv_SH → mv_Mem → Prop} {pc a b c : Nat} {v : Int} {ts : List Nat} {L : mv_L} {st : List mv_V} {sh : mv_SH} {M : mv_Mem}
variable {NX : mv_L → List mv_V → mv_SH → mv_Mem → Prop} {JP : Nat → mv_L → List mv_V → mv_SH → mv_Mem → Prop}
theorem mv_fl_s {r : mv_T} {idx : Nat} (h : mv_fl r idx a b c ts = true) : ∃ (C : String) (T : u_T) (N : Nat), vwCl[a]? = some (C, T, N) ∧ b < N ∧ Jvm.Cond.fieldLink (mt_own r) idx (T b).1 (T b).2.1 (T b).2.2.1 ∈ mv_tbl ∧ c = mv_kd a b := by
  unfold mv_fl at h
  split at h
  · rename_i C T N hC
    simp only [Bool.and_eq_true, decide_eq_true_eq] at h
    exact ⟨C, T, N, hC, Nat.le_of_ble_eq_true h.1, mv_hw_mem h.2.1, h.2.2⟩
  · cases h
theorem mv_ce_o {k : Nat} (h : sh.2.2.1 k = a) (ha : a < 100) : mv_ce G sh M k = .inr (a, (List.range (mv_nf a)).map (mv_fv G sh M a k)) := by
  unfold mv_ce
  rw [h, if_neg (by omega), if_neg (by omega), if_neg (by omega)]
theorem mv_ce_i {k : Nat} (h : sh.2.2.1 k = 100) : mv_ce G sh M k = .inl (mg_I G, sh.2.2.2.1 k, .inl (fun i => Int32.ofInt (M k i))) := by
  unfold mv_ce
  rw [if_pos h]
theorem mv_ce_j {k : Nat} (h : sh.2.2.1 k = 101) : mv_ce G sh M k = .inl (mg_J G, sh.2.2.2.1 k, .inr (.inl (fun i => Int64.ofInt (M k i)))) := by
  unfold mv_ce
  rw [if_neg (by omega), if_pos h]
theorem mv_ce_z {k : Nat} (h : sh.2.2.1 k = 102) : mv_ce G sh M k = .inl (mg_Z G, sh.2.2.2.1 k, .inl (fun i => Int32.ofInt (M k i))) := by
  unfold mv_ce
  rw [if_neg (by omega), if_neg (by omega), if_pos h]
theorem mv_set_map {N b : Nat} {g g' : Nat → Value} {v : Value} (h : g' b = v) (ho : ∀ j, j ≠ b → g' j = g j) : ((List.range N).map g).set b v = (List.range N).map g' := by
  apply List.ext_getElem?
  intro j
  rw [List.getElem?_set, List.length_map, List.length_range, List.getElem?_map, List.getElem?_map]
  by_cases hj : b = j
  · subst hj
    rw [if_pos rfl]
    by_cases hb : b < N
    · rw [if_pos hb, List.getElem?_range hb]
      show some v = some (g' b)
      rw [h]
    · rw [if_neg hb, List.getElem?_eq_none (by simp; omega)]
      rfl
  · rw [if_neg hj]
    by_cases hb : j < N
    · rw [List.getElem?_range hb]
      show some (g j) = some (g' j)
      rw [ho j (fun q => hj q.symm)]
    · rw [List.getElem?_eq_none (by simp; omega)]
      rfl
theorem ms_getfield {i : Instr} {ln : Nat} (hd : decode (mt_cc (mv_r mi)) pc = .ok (i, ln)) (hf : mv_fit (mv_r mi) pc ln (.getfield 0) a b c v ts i = true) (hn : mv_RN G mi n0 s0 (pc + ln) post NX)
    (hb : mv_pr st fun k r => if 1 ≤ k ∧ k ≤ sh.1 ∧ sh.2.2.1 k = a then
      (if c = 2 then (if 1 ≤ sh.2.2.2.2 k b then NX L (.inr (.inr (sh.2.2.2.2 k b)) :: r) sh M else False) else NX L (.inl (M k b) :: r) sh M) else False) : mv_Run G mi n0 s0 pc L st sh M post := by
  obtain ⟨k, r, rfl, hb1⟩ := mv_pr_s hb
  obtain ⟨⟨h1, h2, h3⟩, hb2⟩ := mv_if_s hb1
  intro p e s m args below meth cx H locs ls C hl hL hS hW hV hn0 hs0
  obtain ⟨hx, hcb, hml, hown, hts, hrt, hlk, hnm, hsz, hX, hbo, hK⟩ := id C
  have hS2 := List.forall_mem_cons.mp hS
  unfold mv_fit at hf
  dsimp only at hf
  cases i with
  | getfield idx =>
    simp only [Bool.and_eq_true, decide_eq_true_eq] at hf
    obtain ⟨rfl, hf⟩ := hf
    obtain ⟨C', T, N, hC, hbN, hlk2, hc⟩ := mv_fl_s hf
    obtain ⟨hin, hty, hnm2, hN, h100⟩ := mv_cls hC
    have he := mv_ws_get (G := G) (M := M) h1 h2
    rw [mv_ce_o h3 h100, hN] at he
    have hv0 : ((List.range N).map (mv_fv G sh M a k))[b]? = some (mv_fv G sh M a k b) := by rw [List.getElem?_map, List.getElem?_range hbN]; rfl
    by_cases h9 : c = 2
    · rw [if_pos h9] at hb2
      obtain ⟨hR, hb3⟩ := mv_if_s hb2
      have E : mv_fv G sh M a k b = mv_ct G (.inr (.inr (sh.2.2.2.2 k b))) := by
        unfold mv_fv
        rw [if_pos (hc.symm.trans h9), if_neg (by omega)]
        rfl
      rw [E] at hv0
      exact va_get hx hcb hts hin hown hK hW.1 (k - 1) he hC b hbN (hts _ hlk2) (fun _ h => h) hv0 hd (hn _ _ _ _ hb3 p e s m args below meth cx H locs ls C hl hL (List.forall_mem_cons.mpr ⟨trivial, hS2.2⟩) hW hV hn0 hs0)
    · rw [if_neg h9] at hb2
      have E : mv_fv G sh M a k b = mv_ct G (.inl (M k b)) := by
        unfold mv_fv
        rw [if_neg (fun q => h9 (hc.trans q))]
        rfl
      rw [E] at hv0
      exact va_get hx hcb hts hin hown hK hW.1 (k - 1) he hC b hbN (hts _ hlk2) (fun _ h => h) hv0 hd (hn _ _ _ _ hb2 p e s m args below meth cx H locs ls C hl hL (List.forall_mem_cons.mpr ⟨(hW.2.2.2.1 k b).2 (by omega), hS2.2⟩) hW hV hn0 hs0)
  | _ => cases hf
/-- a field is written: a final one in its class's constructor, another anywhere -/
theorem mv_put {p : Program} {l : Launch} {e : Env} {R : Room} {s : State} {m : MethodId} {args : Array Value} {below : List Frame} {meth : Method} {cx : Code} {H : Heap} {locs : List Loc} {cells slots : Nat} {Q : State → Prop} {ls : Array Slot} {rest : List Value}
    (C : mv_Cx G mi n0 p s m args meth cx) {idx N k : Nat} {C' : String} {T : u_T} {sh' : mv_SH} {M' : mv_Mem} {x : Value} (hC : vwCl[a]? = some (C', T, N)) (hbN : b < N) (hlk2 : Jvm.Cond.fieldLink (mt_own (mv_r mi)) idx (T b).1 (T b).2.1 (T b).2.2.1 ∈ mv_tbl)
    (hfin : (T b).2.2.2 = false ∨ ((mt_y (mv_r mi)).name = "<init>" ∧ (T b).1 = mt_own (mv_r mi))) (h1 : 1 ≤ k) (h2 : k ≤ sh.1) (h3 : sh.2.2.1 k = a) (hn : narrow (mv_ty a b) x = x) (hfit : fits (mv_ty a b) x = true) (hW : mv_Wd G sh M H) (hV : va_S (mg_A G) s.heap H locs)
    (hs : sh'.1 = sh.1) (ht : sh'.2.2.1 = sh.2.2.1) (hlen : sh'.2.2.2.1 = sh.2.2.2.1) (he1 : mv_fv G sh' M' a k b = x) (he2 : ∀ f, f ≠ b → mv_fv G sh' M' a k f = mv_fv G sh M a k f) (ho : ∀ j, j ≠ k → (∀ f, sh'.2.2.2.2 j f = sh.2.2.2.2 j f) ∧ ∀ f, M' j f = M j f) (hNm : mv_Nm G sh' M') (hd : decode (mt_cc (mv_r mi)) pc = .ok (.putfield idx, 3))
    (kk : ∀ H1 locs1, mv_Wd G sh' M' H1 → va_S (mg_A G) s.heap H1 locs1 → W p l e R s m args below meth cx H1 locs1 cells slots Q (F0 m (pc + 3) ls rest)) : W p l e R s m args below meth cx H locs cells slots Q (F0 m pc ls (x :: .ref (mv_ad G k) :: rest)) := by
  obtain ⟨hx, hcb, hml, hown, hts, hrt, hlk, hnm, hsz, hX, hbo, hK⟩ := C
  obtain ⟨hin, hty, hnm2, hN, h100⟩ := mv_cls hC
  have he := mv_ws_get (G := G) (M := M) h1 h2
  rw [mv_ce_o h3 h100, hN] at he
  have hset : (mv_ws G sh M).set (k - 1) (mv_ad G k, .inr (a, ((List.range N).map (mv_fv G sh M a k)).set b x)) = mv_ws G sh' M' := by
    refine mv_ws_set h1 h2 hs ?_ (fun j hj => ?_)
    · rw [mv_ce_o (by rw [ht]; exact h3) h100, hN, mv_set_map he1 he2]
    · exact mv_ce_c (by rw [ht]) (by rw [hlen]) (ho j hj).1 (ho j hj).2
  have hl2 : b < ((List.range N).map (mv_fv G sh M a k)).length := by rw [List.length_map, List.length_range]; exact hbN
  have kk' : ∀ (H1 : Heap) (locs1 : List Loc), va_P (mg_D G) vwCl ((mv_ws G sh M).set (k - 1) (mv_ad G k, .inr (a, ((List.range N).map (mv_fv G sh M a k)).set b x))) H1 → va_D (mg_A G) ((mv_ws G sh M).set (k - 1) (mv_ad G k, .inr (a, ((List.range N).map (mv_fv G sh M a k)).set b x))) → va_S (mg_A G) s.heap H1 locs1 → W p l e R s m args below meth cx H1 locs1 cells slots Q (F0 m (pc + 3) ls rest) := by
    rw [hset]
    exact fun H1 locs1 q1 q2 q3 => kk H1 locs1 ⟨q1, q2, hNm⟩ q3
  rcases hfin with hfin | ⟨hfin, hdecl⟩
  · exact va_put hx hcb hts hin (mv_ty a) hty hnm2 hown hK hW.1 hW.2.1 hV (k - 1) he hC b hbN (hts _ hlk2) (fun _ h => h) hfin (hty b hbN) hn hfit hl2 hd kk'
  · cases hfn : (T b).2.2.2 with
    | false => exact va_put hx hcb hts hin (mv_ty a) hty hnm2 hown hK hW.1 hW.2.1 hV (k - 1) he hC b hbN (hts _ hlk2) (fun _ h => h) hfn (hty b hbN) hn hfit hl2 hd kk'
    | true => exact va_putF hx hcb hts hin (mv_ty a) hty hnm2 hown hK hW.1 hW.2.1 hV (k - 1) he hC b hbN (hts _ hlk2) (fun _ h => h) hfn (hnm.trans hfin) hdecl (hty b hbN) hn hfit hl2 hd kk'
theorem mv_kd2 {r : Nat} (h : mv_kd a b = 2) : narrow (mv_ty a b) (.ref r) = .ref r ∧ fits (mv_ty a b) (.ref r) = true := by
  unfold mv_kd at h
  cases ht : mv_ty a b with
  | object n => exact ⟨rfl, rfl⟩
  | array t => exact ⟨rfl, rfl⟩
  | _ => rw [ht] at h; simp at h
theorem mv_kd0 {x : Int32} (h : mv_kd a b = 0) : narrow (mv_ty a b) (.int x) = .int x ∧ fits (mv_ty a b) (.int x) = true := by
  unfold mv_kd at h
  cases ht : mv_ty a b with
  | int => exact ⟨rfl, rfl⟩
  | _ => rw [ht] at h; simp at h
theorem mv_kd1 {x : Int} (h : mv_kd a b = 1) (hx : x = 0 ∨ x = 1) : narrow (mv_ty a b) (.int (Int32.ofInt x)) = .int (Int32.ofInt x) ∧ fits (mv_ty a b) (.int (Int32.ofInt x)) = true := by
  unfold mv_kd at h
  cases ht : mv_ty a b with
  | boolean => rcases hx with rfl | rfl <;> exact ⟨by decide, by decide⟩
  | _ => rw [ht] at h; simp at h
/-- of every field's kind: an int, a boolean, a reference -/
theorem mv_kds : (List.range 13).all (fun ci => (List.range (mv_nf ci)).all (fun k => Nat.ble (mv_kd ci k) 2)) = true := by decide +kernel
theorem mv_kd_le (ha : a < 13) (hb : b < mv_nf a) : mv_kd a b ≤ 2 := by
  have h := List.all_eq_true.mp mv_kds a (List.mem_range.mpr ha)
  exact Nat.le_of_ble_eq_true (List.all_eq_true.mp h b (List.mem_range.mpr hb))
theorem mv_rf_s {k j : Nat} : (mv_rf sh k b j).2.2.2.2 k b = j := by
  unfold mv_rf
  simp
theorem mv_rf_n {k j q f : Nat} (h : ¬ (q = k ∧ f = b)) : (mv_rf sh k b j).2.2.2.2 q f = sh.2.2.2.2 q f := by
  unfold mv_rf
  exact if_neg h
theorem mv_up_s {k j : Nat} {x : Int} : mv_up M k j x k j = x := by
  unfold mv_up
  exact if_pos ⟨rfl, rfl⟩
theorem mv_up_n {k j q f : Nat} {x : Int} (h : ¬ (q = k ∧ f = j)) : mv_up M k j x q f = M q f := by
  unfold mv_up
  exact if_neg h
theorem ms_putfield {i : Instr} {ln : Nat} (hd : decode (mt_cc (mv_r mi)) pc = .ok (i, ln)) (hf : mv_fit (mv_r mi) pc ln (.putfield 0) a b c v ts i = true) (hn : mv_RN G mi n0 s0 (pc + ln) post NX)
    (hb : if c = 2 then (mv_pr st fun j r => mv_pr r fun k r => if 1 ≤ k ∧ k ≤ sh.1 ∧ sh.2.2.1 k = a ∧ 1 ≤ j ∧ j ≤ sh.1 then NX L r (mv_rf sh k b j) M else False)
      else mv_pi st fun x r => mv_pr r fun k r => if 1 ≤ k ∧ k ≤ sh.1 ∧ sh.2.2.1 k = a then (if c = 1 then (x = 0 ∨ x = 1) ∧ NX L r sh (mv_up M k b x) else NX L r sh (mv_up M k b x)) else False) : mv_Run G mi n0 s0 pc L st sh M post := by
  unfold mv_fit at hf
  dsimp only at hf
  cases i with
  | putfield idx =>
    rw [Bool.and_eq_true, decide_eq_true_eq, Bool.and_eq_true] at hf
    obtain ⟨rfl, hf1, hf2⟩ := hf
    obtain ⟨C', T, N, hC, hbN, hlk2, hc⟩ := mv_fl_s hf1
    rw [hC] at hf2
    simp only [Bool.or_eq_true, Bool.not_eq_true', Bool.and_eq_true, decide_eq_true_eq] at hf2
    obtain ⟨hin, hty, hnm2, hN, h100⟩ := mv_cls hC
    by_cases h9 : c = 2
    · rw [if_pos h9] at hb
      obtain ⟨j, r, rfl, hb1⟩ := mv_pr_s hb
      obtain ⟨k, r, rfl, hb2⟩ := mv_pr_s hb1
      obtain ⟨⟨h1, h2, h3, h4, h5⟩, hb3⟩ := mv_if_s hb2
      intro p e s m args below meth cx H locs ls C hl hL hS hW hV hn0 hs0
      have hS2 := List.forall_mem_cons.mp (List.forall_mem_cons.mp hS).2
      have hk2 := mv_kd2 (r := mv_ad G j) (hc.symm.trans h9)
      refine mv_put (sh' := mv_rf sh k b j) (M' := M) C hC hbN hlk2 hf2 h1 h2 h3 hk2.1 hk2.2 hW hV rfl rfl rfl ?_ ?_ ?_ hW.2.2 hd (fun H1 locs1 q1 q2 => hn _ _ _ _ hb3 p e s m args below meth cx H1 locs1 ls C hl hL hS2.2 q1 q2 hn0 hs0)
      · unfold mv_fv
        rw [mv_rf_s, if_pos (hc.symm.trans h9), if_neg (by omega)]
        rfl
      · intro f hf
        unfold mv_fv
        rw [mv_rf_n (fun q => hf q.2)]
      · intro q hq
        exact ⟨fun f => mv_rf_n (fun z => hq z.1), fun _ => rfl⟩
    · rw [if_neg h9] at hb
      obtain ⟨x, r, rfl, hb1⟩ := mv_pi_s hb
      obtain ⟨k, r, rfl, hb2⟩ := mv_pr_s hb1
      obtain ⟨⟨h1, h2, h3⟩, hb3⟩ := mv_if_s hb2
      intro p e s m args below meth cx H locs ls C hl hL hS hW hV hn0 hs0
      have hS1 := List.forall_mem_cons.mp hS
      have hS2 := List.forall_mem_cons.mp hS1.2
      have hxr : mv_R32 x := hS1.1
      have hle := mv_kd_le (a := a) (b := b) (by have := (List.getElem?_eq_some_iff.mp hC).1; exact this) (by rw [hN]; exact hbN)
      have hkd : narrow (mv_ty a b) (.int (Int32.ofInt x)) = .int (Int32.ofInt x) ∧ fits (mv_ty a b) (.int (Int32.ofInt x)) = true := by
        by_cases h8 : c = 1
        · rw [if_pos h8] at hb3
          exact mv_kd1 (hc.symm.trans h8) hb3.1
        · exact mv_kd0 (by omega)
      have hb4 : NX L r sh (mv_up M k b x) := by
        by_cases h8 : c = 1
        · rw [if_pos h8] at hb3
          exact hb3.2
        · rw [if_neg h8] at hb3
          exact hb3
      refine mv_put (sh' := sh) (M' := mv_up M k b x) C hC hbN hlk2 hf2 h1 h2 h3 hkd.1 hkd.2 hW hV rfl rfl rfl ?_ ?_ ?_ (mv_nm_up hW.2.2 h1 ⟨mv_R6 hxr, fun _ => hxr⟩) hd (fun H1 locs1 q1 q2 => hn _ _ _ _ hb4 p e s m args below meth cx H1 locs1 ls C hl hL hS2.2 q1 q2 hn0 hs0)
      · unfold mv_fv
        rw [mv_up_s, if_neg (fun q => h9 (hc.trans q))]
        rfl
      · intro f hf
        unfold mv_fv
        rw [mv_up_n (fun q => hf q.2)]
      · intro q hq
        exact ⟨fun _ => rfl, fun f => mv_up_ne hq f⟩
  | _ => cases hf
theorem ms_iaload (hd : decode (mt_cc (mv_r mi)) pc = .ok (.iaload, 1)) (hn : mv_RN G mi n0 s0 (pc + 1) post NX)
    (hb : mv_pi st fun i r => mv_pr r fun k r => if k ≤ sh.1 ∧ sh.2.2.1 k = 100 then (0 ≤ i ∧ i < (sh.2.2.2.1 k : Int)) ∧ NX L (.inl (M k i.toNat) :: r) sh M else False) : mv_Run G mi n0 s0 pc L st sh M post := by
  obtain ⟨i, r, rfl, hb1⟩ := mv_pi_s hb
  obtain ⟨k, r, rfl, hb2⟩ := mv_pr_s hb1
  obtain ⟨⟨h2, h3⟩, hi, hb3⟩ := mv_if_s hb2
  intro p e s m args below meth cx H locs ls C hl hL hS hW hV hn0 hs0
  obtain ⟨hx, hcb, hml, hown, hts, hrt, hlk, hnm, hsz, hX, hbo, hK⟩ := id C
  have hS1 := List.forall_mem_cons.mp hS
  have hir : mv_R32 i := hS1.1
  have hS2 := List.forall_mem_cons.mp hS1.2
  have K := hn _ _ _ _ hb3 p e s m args below meth cx H locs ls C hl hL (List.forall_mem_cons.mpr ⟨(hW.2.2.2.1 k i.toNat).2 (by omega), hS2.2⟩) hW hV hn0 hs0
  by_cases h0 : k = 0
  · subst h0
    obtain ⟨⟨-, g2, g3⟩, -⟩ := hW.2.2
    rw [g2] at hi
    refine va_sld hx hcb hX (by omega) (fun q => by have : mg_o G ≤ mg_b G := q; omega) hV (mv_vin hir hi) hd ?_
    rw [mv_clamp hir, ← g3]
    exact K
  · have he := mv_ws_get (G := G) (M := M) (show 1 ≤ k by omega) h2
    rw [mv_ce_i h3] at he
    refine va_iald hx hcb hK hW.1 (k - 1) 0 he rfl (mv_vin hir hi) hd ?_
    rw [mv_clamp hir]
    exact K
theorem mv_zn {x : Int} (h : x = 0 ∨ x = 1) : vp_nar .boolean (Int32.ofInt x) = Int32.ofInt x := by
  rcases h with rfl | rfl <;> decide
theorem ms_laload (hd : decode (mt_cc (mv_r mi)) pc = .ok (.laload, 1)) (hn : mv_RN G mi n0 s0 (pc + 1) post NX)
    (hb : mv_pi st fun i r => mv_pr r fun k r => if 1 ≤ k ∧ k ≤ sh.1 ∧ sh.2.2.1 k = 101 then (0 ≤ i ∧ i < (sh.2.2.2.1 k : Int)) ∧ NX L (.inr (.inl (M k i.toNat)) :: r) sh M else False) : mv_Run G mi n0 s0 pc L st sh M post := by
  obtain ⟨i, r, rfl, hb1⟩ := mv_pi_s hb
  obtain ⟨k, r, rfl, hb2⟩ := mv_pr_s hb1
  obtain ⟨⟨h1, h2, h3⟩, hi, hb3⟩ := mv_if_s hb2
  intro p e s m args below meth cx H locs ls C hl hL hS hW hV hn0 hs0
  obtain ⟨hx, hcb, hml, hown, hts, hrt, hlk, hnm, hsz, hX, hbo, hK⟩ := id C
  have hS1 := List.forall_mem_cons.mp hS
  have hir : mv_R32 i := hS1.1
  have hS2 := List.forall_mem_cons.mp hS1.2
  have K := hn _ _ _ _ hb3 p e s m args below meth cx H locs ls C hl hL (List.forall_mem_cons.mpr ⟨(hW.2.2.2.1 k i.toNat).1, hS2.2⟩) hW hV hn0 hs0
  have he := mv_ws_get (G := G) (M := M) h1 h2
  rw [mv_ce_j h3] at he
  refine va_lald hx hcb hK hW.1 (k - 1) 1 he rfl (mv_vin hir hi) hd ?_
  rw [mv_clamp hir]
  exact K
theorem ms_baload (hd : decode (mt_cc (mv_r mi)) pc = .ok (.baload, 1)) (hn : mv_RN G mi n0 s0 (pc + 1) post NX)
    (hb : mv_pi st fun i r => mv_pr r fun k r => if 1 ≤ k ∧ k ≤ sh.1 ∧ sh.2.2.1 k = 102 then (0 ≤ i ∧ i < (sh.2.2.2.1 k : Int)) ∧ NX L (.inl (M k i.toNat) :: r) sh M else False) : mv_Run G mi n0 s0 pc L st sh M post := by
  obtain ⟨i, r, rfl, hb1⟩ := mv_pi_s hb
  obtain ⟨k, r, rfl, hb2⟩ := mv_pr_s hb1
  obtain ⟨⟨h1, h2, h3⟩, hi, hb3⟩ := mv_if_s hb2
  intro p e s m args below meth cx H locs ls C hl hL hS hW hV hn0 hs0
  obtain ⟨hx, hcb, hml, hown, hts, hrt, hlk, hnm, hsz, hX, hbo, hK⟩ := id C
  have hS1 := List.forall_mem_cons.mp hS
  have hir : mv_R32 i := hS1.1
  have hS2 := List.forall_mem_cons.mp hS1.2
  have K := hn _ _ _ _ hb3 p e s m args below meth cx H locs ls C hl hL (List.forall_mem_cons.mpr ⟨(hW.2.2.2.1 k i.toNat).2 (by omega), hS2.2⟩) hW hV hn0 hs0
  have he := mv_ws_get (G := G) (M := M) h1 h2
  rw [mv_ce_z h3] at he
  refine va_zald hx hcb hK hW.1 (k - 1) 2 he rfl (mv_vin hir hi) hd ?_
  rw [mv_clamp hir]
  exact K
theorem ms_iastore (hd : decode (mt_cc (mv_r mi)) pc = .ok (.iastore, 1)) (hn : mv_RN G mi n0 s0 (pc + 1) post NX)
    (hb : mv_pi st fun x r => mv_pi r fun i r => mv_pr r fun k r => if 1 ≤ k ∧ k ≤ sh.1 ∧ sh.2.2.1 k = 100 then (0 ≤ i ∧ i < (sh.2.2.2.1 k : Int)) ∧ NX L r sh (mv_up M k i.toNat x) else False) : mv_Run G mi n0 s0 pc L st sh M post := by
  obtain ⟨x, r, rfl, hb1⟩ := mv_pi_s hb
  obtain ⟨i, r, rfl, hb2⟩ := mv_pi_s hb1
  obtain ⟨k, r, rfl, hb3⟩ := mv_pr_s hb2
  obtain ⟨⟨h1, h2, h3⟩, hi, hb4⟩ := mv_if_s hb3
  intro p e s m args below meth cx H locs ls C hl hL hS hW hV hn0 hs0
  obtain ⟨hx, hcb, hml, hown, hts, hrt, hlk, hnm, hsz, hX, hbo, hK⟩ := id C
  have hS0 := List.forall_mem_cons.mp hS
  have hxr : mv_R32 x := hS0.1
  have hS1 := List.forall_mem_cons.mp hS0.2
  have hir : mv_R32 i := hS1.1
  have hS2 := List.forall_mem_cons.mp hS1.2
  have he := mv_ws_get (G := G) (M := M) h1 h2
  rw [mv_ce_i h3] at he
  have hset := mv_ws_set (G := G) (M := M) (M' := mv_up M k i.toNat x) (sh' := sh) h1 h2 rfl rfl (fun j hj => mv_ce_c rfl rfl (fun _ => rfl) (fun q => mv_up_ne hj q))
  rw [mv_ce_i h3, mv_up_f Int32.ofInt] at hset
  refine va_iast hx hcb hK hW.1 hW.2.1 hV (k - 1) 0 he rfl (mv_vin hir hi) hd ?_
  rw [mv_clamp hir, hset]
  exact fun H1 locs1 q1 q2 q3 => hn _ _ _ _ hb4 p e s m args below meth cx H1 locs1 ls C hl hL hS2.2 ⟨q1, q2, mv_nm_up hW.2.2 h1 ⟨mv_R6 hxr, fun _ => hxr⟩⟩ q3 hn0 hs0
theorem ms_lastore (hd : decode (mt_cc (mv_r mi)) pc = .ok (.lastore, 1)) (hn : mv_RN G mi n0 s0 (pc + 1) post NX)
    (hb : mv_pl st fun x r => mv_pi r fun i r => mv_pr r fun k r => if 1 ≤ k ∧ k ≤ sh.1 ∧ sh.2.2.1 k = 101 then (0 ≤ i ∧ i < (sh.2.2.2.1 k : Int)) ∧ NX L r sh (mv_up M k i.toNat x) else False) : mv_Run G mi n0 s0 pc L st sh M post := by
  obtain ⟨x, r, rfl, hb1⟩ := mv_pl_s hb
  obtain ⟨i, r, rfl, hb2⟩ := mv_pi_s hb1
  obtain ⟨k, r, rfl, hb3⟩ := mv_pr_s hb2
  obtain ⟨⟨h1, h2, h3⟩, hi, hb4⟩ := mv_if_s hb3
  intro p e s m args below meth cx H locs ls C hl hL hS hW hV hn0 hs0
  obtain ⟨hx, hcb, hml, hown, hts, hrt, hlk, hnm, hsz, hX, hbo, hK⟩ := id C
  have hS0 := List.forall_mem_cons.mp hS
  have hxr : mv_R64 x := hS0.1
  have hS1 := List.forall_mem_cons.mp hS0.2
  have hir : mv_R32 i := hS1.1
  have hS2 := List.forall_mem_cons.mp hS1.2
  have he := mv_ws_get (G := G) (M := M) h1 h2
  rw [mv_ce_j h3] at he
  have hset := mv_ws_set (G := G) (M := M) (M' := mv_up M k i.toNat x) (sh' := sh) h1 h2 rfl rfl (fun j hj => mv_ce_c rfl rfl (fun _ => rfl) (fun q => mv_up_ne hj q))
  rw [mv_ce_j h3, mv_up_fl Int64.ofInt] at hset
  refine va_last hx hcb hK hW.1 hW.2.1 hV (k - 1) 1 he rfl (mv_vin hir hi) hd ?_
  rw [mv_clamp hir, hset]
  exact fun H1 locs1 q1 q2 q3 => hn _ _ _ _ hb4 p e s m args below meth cx H1 locs1 ls C hl hL hS2.2 ⟨q1, q2, mv_nm_up hW.2.2 h1 ⟨hxr, fun q => absurd h3 q⟩⟩ q3 hn0 hs0
theorem ms_bastore (hd : decode (mt_cc (mv_r mi)) pc = .ok (.bastore, 1)) (hn : mv_RN G mi n0 s0 (pc + 1) post NX)
    (hb : mv_pi st fun x r => mv_pi r fun i r => mv_pr r fun k r => if 1 ≤ k ∧ k ≤ sh.1 ∧ sh.2.2.1 k = 102 then ((0 ≤ i ∧ i < (sh.2.2.2.1 k : Int)) ∧ (x = 0 ∨ x = 1)) ∧ NX L r sh (mv_up M k i.toNat x) else False) : mv_Run G mi n0 s0 pc L st sh M post := by
  obtain ⟨x, r, rfl, hb1⟩ := mv_pi_s hb
  obtain ⟨i, r, rfl, hb2⟩ := mv_pi_s hb1
  obtain ⟨k, r, rfl, hb3⟩ := mv_pr_s hb2
  obtain ⟨⟨h1, h2, h3⟩, hi, hb4⟩ := mv_if_s hb3
  intro p e s m args below meth cx H locs ls C hl hL hS hW hV hn0 hs0
  obtain ⟨hx, hcb, hml, hown, hts, hrt, hlk, hnm, hsz, hX, hbo, hK⟩ := id C
  have hS0 := List.forall_mem_cons.mp hS
  have hxr : mv_R32 x := hS0.1
  have hS1 := List.forall_mem_cons.mp hS0.2
  have hir : mv_R32 i := hS1.1
  have hS2 := List.forall_mem_cons.mp hS1.2
  have he := mv_ws_get (G := G) (M := M) h1 h2
  rw [mv_ce_z h3] at he
  have hset := mv_ws_set (G := G) (M := M) (M' := mv_up M k i.toNat x) (sh' := sh) h1 h2 rfl rfl (fun j hj => mv_ce_c rfl rfl (fun _ => rfl) (fun q => mv_up_ne hj q))
  rw [mv_ce_z h3, mv_up_f Int32.ofInt] at hset
  refine va_zast hx hcb hK hW.1 hW.2.1 hV (k - 1) 2 he rfl (mv_vin hir hi.1) hd ?_
  rw [mv_clamp hir, mv_zn hi.2, hset]
  exact fun H1 locs1 q1 q2 q3 => hn _ _ _ _ hb4 p e s m args below meth cx H1 locs1 ls C hl hL hS2.2 ⟨q1, q2, mv_nm_up hW.2.2 h1 ⟨mv_R6 hxr, fun _ => hxr⟩⟩ q3 hn0 hs0
end MC
end
section
/-! ONE INSTRUCTION OF THE SMALL MACHINE: lengths, copies, new cells, switches, calls, ends -/
section MN
variable {G : mv_G} {mi n0 s0 : Nat} {post : Option mv_V → mv_SH → mv_Mem → Prop} {pc a b c : Nat} {v : Int} {ts : List Nat} {L : mv_L} {st : List mv_V} {sh : mv_SH} {M : mv_Mem}
variable {NX : mv_L → List mv_V → mv_SH → mv_Mem → Prop} {JP : Nat → mv_L → List mv_V → mv_SH → mv_Mem → Prop}
theorem ms_arraylength (hd : decode (mt_cc (mv_r mi)) pc = .ok (.arraylength, 1)) (hn : mv_RN G mi n0 s0 (pc + 1) post NX)
    (hb : mv_pr st fun k r => if k ≤ sh.1 ∧ sh.2.2.1 k = 100 then NX L (.inl (sh.2.2.2.1 k : Int) :: r) sh M else False) : mv_Run G mi n0 s0 pc L st sh M post := by
  obtain ⟨k, r, rfl, hb2⟩ := mv_pr_s hb
  obtain ⟨⟨h2, h3⟩, hb3⟩ := mv_if_s hb2
  intro p e s m args below meth cx H locs ls C hl hL hS hW hV hn0 hs0
  obtain ⟨hx, hcb, hml, hown, hts, hrt, hlk, hnm, hsz, hX, hbo, hK⟩ := id C
  have hS2 := List.forall_mem_cons.mp hS
  have hle := hW.2.2.2.2 k
  have hR : mv_R32 (sh.2.2.2.1 k : Int) := by constructor <;> omega
  have K := hn _ _ _ _ hb3 p e s m args below meth cx H locs ls C hl hL (List.forall_mem_cons.mpr ⟨hR, hS2.2⟩) hW hV hn0 hs0
  by_cases h0 : k = 0
  · subst h0
    obtain ⟨⟨-, g2, g3⟩, -⟩ := hW.2.2
    refine va_slen (b := mg_b G) hx hcb hX (by omega) (fun q => by have : mg_o G ≤ mg_b G := q; omega) hV hd ?_
    rw [← Int32.ofInt_eq_ofNat, ← g2]
    exact K
  · have he := mv_ws_get (G := G) (M := M) (show 1 ≤ k by omega) h2
    rw [mv_ce_i h3] at he
    exact va_alen hx hcb hK hW.1 (k - 1) 0 he rfl (v := Int32.ofInt (sh.2.2.2.1 k : Int)) Int32.ofInt_eq_ofNat.symm hd K
theorem mv_cp_ne {src sp dst dp n k : Nat} (h : k ≠ dst) (i : Nat) : mv_cp M src sp dst dp n k i = M k i := by
  unfold mv_cp
  rw [if_neg (fun q => h q.1)]
theorem mv_cp_f {α : Type} {src sp dst dp n : Nat} (g : Int → α) : va_cpy (fun i => g (M src i)) (fun i => g (M dst i)) sp dp n = fun i => g (mv_cp M src sp dst dp n dst i) := by
  funext i
  unfold va_cpy mv_cp
  by_cases h : dp ≤ i ∧ i < dp + n
  · rw [if_pos h, if_pos ⟨rfl, h⟩]
  · rw [if_neg h, if_neg (fun q => h q.2)]
theorem mv_nm_cp {src sp dst dp n : Nat} (h : mv_Nm G sh M) (hk : 1 ≤ dst) (ht : sh.2.2.1 src = sh.2.2.1 dst) : mv_Nm G sh (mv_cp M src sp dst dp n) := by
  obtain ⟨⟨a1, a2, a3⟩, a4, a5⟩ := h
  refine ⟨⟨a1, a2, fun i => by rw [mv_cp_ne (by omega)]; exact a3 i⟩, fun k' i => ?_, a5⟩
  unfold mv_cp
  split
  · rename_i hq
    rw [hq.1, ← ht]
    exact a4 src _
  · exact a4 k' i
theorem ms_copy {i : Instr} {ln : Nat} (hd : decode (mt_cc (mv_r mi)) pc = .ok (i, ln)) (hf : mv_fit (mv_r mi) pc ln (.invokestatic 0) a b c v ts i = true) (hn : mv_RN G mi n0 s0 (pc + ln) post NX) (h9 : ¬ c = 1)
    (hb : mv_pi st fun n r => mv_pi r fun dp r => mv_pr r fun d r => mv_pi r fun sp r => mv_pr r fun s r =>
        if (1 ≤ s ∧ s ≤ sh.1 ∧ sh.2.2.1 s = c) ∧ (1 ≤ d ∧ d ≤ sh.1 ∧ sh.2.2.1 d = c) ∧ mv_stw r ≤ 8 then (0 ≤ sp ∧ 0 ≤ dp ∧ 0 ≤ n ∧ sp + n ≤ (sh.2.2.2.1 s : Int) ∧ dp + n ≤ (sh.2.2.2.1 d : Int)) ∧ NX L r sh (mv_cp M s sp.toNat d dp.toNat n.toNat) else False) : mv_Run G mi n0 s0 pc L st sh M post := by
  obtain ⟨n, r, rfl, hb1⟩ := mv_pi_s hb
  obtain ⟨dp, r, rfl, hb2⟩ := mv_pi_s hb1
  obtain ⟨d, r, rfl, hb3⟩ := mv_pr_s hb2
  obtain ⟨sp, r, rfl, hb4⟩ := mv_pi_s hb3
  obtain ⟨k, r, rfl, hb5⟩ := mv_pr_s hb4
  obtain ⟨⟨⟨k1, k2, k3⟩, ⟨d1, d2, d3⟩, hst⟩, ⟨hsp, hdp, hn1, hsl, hdl⟩, hb6⟩ := mv_if_s hb5
  intro p e s m args below meth cx H locs ls C hl hL hS hW hV hn0 hs0
  obtain ⟨hx, hcb, hml, hown, hts, hrt, hlk, hnm, hsz, hX, hbo, hK⟩ := id C
  have hS0 := List.forall_mem_cons.mp hS
  have hnr : mv_R32 n := hS0.1
  have hS1 := List.forall_mem_cons.mp hS0.2
  have hdr : mv_R32 dp := hS1.1
  have hS2 := List.forall_mem_cons.mp (List.forall_mem_cons.mp hS1.2).2
  have hsr : mv_R32 sp := hS2.1
  have hS3 := (List.forall_mem_cons.mp hS2.2).2
  unfold mv_fit at hf
  dsimp only at hf
  cases i with
  | invokestatic idx =>
    dsimp only at hf
    rw [if_neg h9] at hf
    simp only [Bool.and_eq_true, decide_eq_true_eq] at hf
    obtain ⟨rfl, w0, w1, w2, w3, hc, hfr, hlo⟩ := hf
    have hfr := Nat.le_of_ble_eq_true hfr
    have hlo := Nat.le_of_ble_eq_true hlo
    have hes := mv_ws_get (G := G) (M := M) k1 k2
    have hed := mv_ws_get (G := G) (M := M) d1 d2
    have hNm : mv_Nm G sh (mv_cp M k sp.toNat d dp.toNat n.toNat) := mv_nm_cp hW.2.2 d1 (k3.trans d3.symm)
    have hset := mv_ws_set (G := G) (M := M) (M' := mv_cp M k sp.toNat d dp.toNat n.toNat) (sh' := sh) d1 d2 rfl rfl (fun j hj => mv_ce_c rfl rfl (fun _ => rfl) (fun q => mv_cp_ne hj q))
    have hloc : ((r.map (mv_ct G)).map fun v => v.category).sum + (nativeFrameWords "java/lang/System" "arraycopy" 5 + 11) ≤ (mt_rm (mv_r mi)).locals := by
      rw [mv_stw_e]
      have e1 : nativeFrameWords "java/lang/System" "arraycopy" 5 = 7 := by decide +kernel
      rw [e1]
      show _ ≤ mt_lo (mv_r mi)
      omega
    have z0 : ∀ {x : Int}, mv_R32 x → 0 ≤ x → ¬ Int32.ofInt x < 0 := fun hr h q => by
      have := (mv_l32 hr mv_z32).mp q
      omega
    rcases hc with rfl | rfl
    · rw [mv_ce_i k3] at hes
      rw [mv_ce_i d3] at hed hset
      refine va_copyi hx hcb (hml.trans hl.1.symm) hown (hts _ (mv_hw_mem w0)) (hts _ (mv_hw_mem w1)) (hts _ (mv_hw_mem w2)) (hts _ (mv_hw_mem w3)) hK hW.1 hW.2.1 hV (k - 1) (d - 1) 0 0 hes hed rfl rfl rfl (sp := Int32.ofInt sp) (dp := Int32.ofInt dp) (n := Int32.ofInt n) (z0 hsr hsp) (z0 hdr hdp) (z0 hnr hn1) ?_ ?_ (fun _ _ => rfl) hfr hloc hd ?_
      · rw [mv_clamp hsr, mv_clamp hnr]; omega
      · rw [mv_clamp hdr, mv_clamp hnr]; omega
      · rw [mv_clamp hsr, mv_clamp hdr, mv_clamp hnr, mv_cp_f Int32.ofInt, hset]
        exact fun H1 locs1 q1 q2 q3 => hn _ _ _ _ hb6 p e s m args below meth cx H1 locs1 ls C hl hL hS3 ⟨q1, q2, hNm⟩ q3 hn0 hs0
    · rw [mv_ce_j k3] at hes
      rw [mv_ce_j d3] at hed hset
      refine va_copyl hx hcb (hml.trans hl.1.symm) hown (hts _ (mv_hw_mem w0)) (hts _ (mv_hw_mem w1)) (hts _ (mv_hw_mem w2)) (hts _ (mv_hw_mem w3)) hK hW.1 hW.2.1 hV (k - 1) (d - 1) 1 1 hes hed rfl rfl rfl (sp := Int32.ofInt sp) (dp := Int32.ofInt dp) (n := Int32.ofInt n) (z0 hsr hsp) (z0 hdr hdp) (z0 hnr hn1) ?_ ?_ (fun _ _ => rfl) hfr hloc hd ?_
      · rw [mv_clamp hsr, mv_clamp hnr]; omega
      · rw [mv_clamp hdr, mv_clamp hnr]; omega
      · rw [mv_clamp hsr, mv_clamp hdr, mv_clamp hnr, mv_cp_f Int64.ofInt, hset]
        exact fun H1 locs1 q1 q2 q3 => hn _ _ _ _ hb6 p e s m args below meth cx H1 locs1 ls C hl hL hS3 ⟨q1, q2, hNm⟩ q3 hn0 hs0
  | _ => cases hf
/-- where a new cell lies -/
theorem mv_new_at {e : va_E} {q : Nat} {H1 : Heap} (hD : va_D (mg_A G) (mv_ws G sh M ++ [(q, e)])) (hq : q < H1.size) (hz : H1.size ≤ mg_o G + sh.1 + 1) : q = mg_o G + sh.1 := by
  have hl : (mv_ws G sh M).length = sh.1 := by unfold mv_ws; rw [List.length_map, List.length_range]
  have hlast : (mv_ws G sh M ++ [(q, e)])[sh.1]? = some (q, e) := by
    rw [List.getElem?_append_right (by omega), hl, Nat.sub_self]
    rfl
  have hA : mg_o G ≤ q := hD.2 _ _ hlast
  rcases Nat.lt_or_ge q (mg_o G + sh.1) with h | h
  · exfalso
    have hk := mv_ws_get (G := G) (sh := sh) (M := M) (k := q - mg_o G + 1) (by omega) (by omega)
    have he : mv_ad G (q - mg_o G + 1) = q := by
      unfold mv_ad
      rw [if_neg (by omega)]
      omega
    have hk2 : (mv_ws G sh M ++ [(q, e)])[q - mg_o G]? = some (mv_ad G (q - mg_o G + 1), mv_ce G sh M (q - mg_o G + 1)) := by
      rw [List.getElem?_append_left (by omega)]
      exact hk
    have := hD.1 _ _ _ _ hk2 hlast he
    omega
  · omega
theorem mv_new_ad : mv_ad G (sh.1 + 1) = mg_o G + sh.1 := by
  unfold mv_ad
  rw [if_neg (by omega)]
  rfl
theorem mv_nmA {n : Nat} (h : mv_Nm G sh M) (ha : 100 ≤ a) (hn : n ≤ 100000) : mv_Nm G (mv_nwA sh a n) (mv_nwM sh M) := by
  obtain ⟨⟨a1, a2, a3⟩, a4, a5⟩ := h
  refine ⟨⟨?_, ?_, fun i => ?_⟩, fun k i => ?_, fun k => ?_⟩
  · show (if 0 = sh.1 + 1 then a else sh.2.2.1 0) = 100
    rw [if_neg (by omega)]; exact a1
  · show (if 0 = sh.1 + 1 then n else sh.2.2.2.1 0) = _
    rw [if_neg (by omega)]; exact a2
  · show (if 0 = sh.1 + 1 then 0 else M 0 i) = _
    rw [if_neg (by omega)]; exact a3 i
  · show mv_R64 (if k = sh.1 + 1 then 0 else M k i) ∧ ((if k = sh.1 + 1 then a else sh.2.2.1 k) ≠ 101 → mv_R32 (if k = sh.1 + 1 then 0 else M k i))
    by_cases hk : k = sh.1 + 1
    · rw [if_pos hk]; exact ⟨mv_z64, fun _ => mv_z32⟩
    · rw [if_neg hk, if_neg hk]; exact a4 k i
  · show (if k = sh.1 + 1 then n else sh.2.2.2.1 k) ≤ 100000
    split
    · exact hn
    · exact a5 k
theorem mv_nmO {n : Nat} (h : mv_Nm G sh M) : mv_Nm G (mv_nwO sh a n) (mv_nwM sh M) := by
  obtain ⟨⟨a1, a2, a3⟩, a4, a5⟩ := h
  refine ⟨⟨?_, a2, fun i => ?_⟩, fun k i => ?_, a5⟩
  · show (if 0 = sh.1 + 1 then a else sh.2.2.1 0) = 100
    rw [if_neg (by omega)]; exact a1
  · show (if 0 = sh.1 + 1 then 0 else M 0 i) = _
    rw [if_neg (by omega)]; exact a3 i
  · show mv_R64 (if k = sh.1 + 1 then 0 else M k i) ∧ ((if k = sh.1 + 1 then a else sh.2.2.1 k) ≠ 101 → mv_R32 (if k = sh.1 + 1 then 0 else M k i))
    by_cases hk : k = sh.1 + 1
    · rw [if_pos hk]; exact ⟨mv_z64, fun _ => mv_z32⟩
    · rw [if_neg hk, if_neg hk]; exact a4 k i
theorem mv_ceA {n k : Nat} (h : k ≠ sh.1 + 1) : mv_ce G (mv_nwA sh a n) (mv_nwM sh M) k = mv_ce G sh M k := by
  refine mv_ce_c ?_ ?_ (fun _ => rfl) (fun i => ?_)
  · exact if_neg h
  · exact if_neg h
  · exact if_neg h
theorem mv_ceO {n k : Nat} (h : k ≠ sh.1 + 1) : mv_ce G (mv_nwO sh a n) (mv_nwM sh M) k = mv_ce G sh M k := by
  refine mv_ce_c ?_ rfl (fun f => ?_) (fun i => ?_)
  · exact if_neg h
  · exact if_neg h
  · exact if_neg h
theorem mv_nwM_0 (i : Nat) : mv_nwM sh M (sh.1 + 1) i = 0 := if_pos rfl
theorem mv_tagA {n : Nat} : (mv_nwA sh a n).2.2.1 (sh.1 + 1) = a := if_pos rfl
theorem mv_lenA {n : Nat} : (mv_nwA sh a n).2.2.2.1 (sh.1 + 1) = n := if_pos rfl
theorem mv_tagO {n : Nat} : (mv_nwO sh a n).2.2.1 (sh.1 + 1) = a := if_pos rfl
theorem mv_refO {n f : Nat} : (mv_nwO sh a n).2.2.2.2 (sh.1 + 1) f = 0 := if_pos rfl
theorem ms_newarray_int {i : Instr} {ln : Nat} (hd : decode (mt_cc (mv_r mi)) pc = .ok (i, ln)) (hf : mv_fit (mv_r mi) pc ln (.newarray .int) a b c v ts i = true) (hn : mv_RN G mi n0 s0 (pc + ln) post NX)
    (hb : mv_pi st fun n r => if 0 ≤ n ∧ n ≤ 100000 ∧ sh.1 + 1 ≤ n0 + mt_mc (mv_r mi) ∧ sh.2.1 + n.toNat ≤ s0 + mt_ms (mv_r mi) then NX L (.inr (.inr (sh.1 + 1)) :: r) (mv_nwA sh a n.toNat) (mv_nwM sh M) else False) : mv_Run G mi n0 s0 pc L st sh M post := by
  obtain ⟨n, r, rfl, hb1⟩ := mv_pi_s hb
  obtain ⟨⟨g1, g2, g3, g4⟩, hb2⟩ := mv_if_s hb1
  intro p e s m args below meth cx H locs ls C hl hL hS hW hV hn0 hs0
  obtain ⟨hx, hcb, hml, hown, hts, hrt, hlk, hnm, hsz, hX, hbo, hK⟩ := id C
  have hS0 := List.forall_mem_cons.mp hS
  have hnr : mv_R32 n := hS0.1
  unfold mv_fit at hf
  dsimp only at hf
  cases i with
  | newarray ty' =>
    simp only [Bool.and_eq_true, decide_eq_true_eq] at hf
    obtain ⟨rfl, rfl, w0, ha, h100⟩ := hf
    have ha : a = 100 := ha
    subst ha
    have hAq : ∀ q, s.heap.size ≤ q → mg_A G q := fun q h => Nat.le_trans (show mg_o G ≤ s.heap.size by omega) h
    refine va_newa hx hcb (atype := .int) (hts _ (mv_hw_mem w0)) rfl hK hW.1 hW.2.1 hV hAq (n := Int32.ofInt n) (N' := n.toNat) (a0 := (n.toNat, .inl fun _ => 0)) (fun cA => rfl) (fun q => by have := (mv_l32 hnr mv_z32).mp q; omega) (mv_clamp hnr) (Nat.le_trans (Nat.mul_le_mul (show n.toNat ≤ 100000 by omega) (show componentBytes .int ≤ 8 by decide)) (by omega)) (by show _ ≤ mt_mc (mv_r mi); omega) (by show _ ≤ mt_ms (mv_r mi); omega) hd (fun q cA H1 hK1 hP1 hD1 hS1 => ?_)
    refine mv_sz (fun hz => ?_)
    have hql : q < H1.size := by
      have h := hP1 sh.1 (q, .inl (cA, (n.toNat, .inl fun _ => 0))) (by
        have hlen : (mv_ws G sh M).length = sh.1 := by unfold mv_ws; rw [List.length_map, List.length_range]
        rw [List.getElem?_append_right (by omega), hlen, Nat.sub_self]
        rfl)
      exact h.lt
    have hq := mv_new_at hD1 hql (by omega)
    subst hq
    have hcA : cA = mg_I G := by
      have h1 := (hK1.2 3 (cA, .int) rfl).2
      have h2 := (hK.2 0 (mg_I G, .int) rfl).2
      exact Option.some.inj (h1.symm.trans h2)
    subst hcA
    have he : mv_ce G (mv_nwA sh 100 n.toNat) (mv_nwM sh M) (sh.1 + 1) = .inl (mg_I G, (n.toNat, .inl fun _ => 0)) := by
      rw [mv_ce_i mv_tagA, mv_lenA]
      have e1 : (fun i => Int32.ofInt (mv_nwM sh M (sh.1 + 1) i)) = fun _ => 0 := funext fun i => by rw [mv_nwM_0]; rfl
      rw [e1]
    have hpush := mv_ws_push (G := G) (sh := sh) (sh' := mv_nwA sh 100 n.toNat) (M := M) (M' := mv_nwM sh M) rfl he (fun j hj => mv_ceA hj)
    rw [hpush] at hP1 hD1
    have K := hn _ _ _ _ hb2 p e s m args below meth cx H1 locs ls C hl hL (List.forall_mem_cons.mpr ⟨trivial, hS0.2⟩) ⟨hP1, hD1, mv_nmA hW.2.2 (by decide) (by omega)⟩ hS1 (show n0 ≤ sh.1 + 1 ∧ sh.1 + 1 ≤ _ by omega) (show s0 ≤ sh.2.1 + n.toNat ∧ sh.2.1 + n.toNat ≤ _ by omega)
    rw [List.map_cons, show mv_ct G (.inr (.inr (sh.1 + 1))) = .ref (mg_o G + sh.1) from congrArg Value.ref mv_new_ad] at K
    exact W.cs (show sh.1 - n0 + 1 = sh.1 + 1 - n0 by omega) (show sh.2.1 - s0 + n.toNat = sh.2.1 + n.toNat - s0 by omega) K
  | _ => cases hf
theorem ms_newarray_long {i : Instr} {ln : Nat} (hd : decode (mt_cc (mv_r mi)) pc = .ok (i, ln)) (hf : mv_fit (mv_r mi) pc ln (.newarray .long) a b c v ts i = true) (hn : mv_RN G mi n0 s0 (pc + ln) post NX)
    (hb : mv_pi st fun n r => if 0 ≤ n ∧ n ≤ 100000 ∧ sh.1 + 1 ≤ n0 + mt_mc (mv_r mi) ∧ sh.2.1 + n.toNat ≤ s0 + mt_ms (mv_r mi) then NX L (.inr (.inr (sh.1 + 1)) :: r) (mv_nwA sh a n.toNat) (mv_nwM sh M) else False) : mv_Run G mi n0 s0 pc L st sh M post := by
  obtain ⟨n, r, rfl, hb1⟩ := mv_pi_s hb
  obtain ⟨⟨g1, g2, g3, g4⟩, hb2⟩ := mv_if_s hb1
  intro p e s m args below meth cx H locs ls C hl hL hS hW hV hn0 hs0
  obtain ⟨hx, hcb, hml, hown, hts, hrt, hlk, hnm, hsz, hX, hbo, hK⟩ := id C
  have hS0 := List.forall_mem_cons.mp hS
  have hnr : mv_R32 n := hS0.1
  unfold mv_fit at hf
  dsimp only at hf
  cases i with
  | newarray ty' =>
    simp only [Bool.and_eq_true, decide_eq_true_eq] at hf
    obtain ⟨rfl, rfl, w0, ha, h100⟩ := hf
    have ha : a = 101 := ha
    subst ha
    have hAq : ∀ q, s.heap.size ≤ q → mg_A G q := fun q h => Nat.le_trans (show mg_o G ≤ s.heap.size by omega) h
    refine va_newa hx hcb (atype := .long) (hts _ (mv_hw_mem w0)) rfl hK hW.1 hW.2.1 hV hAq (n := Int32.ofInt n) (N' := n.toNat) (a0 := (n.toNat, .inr (.inl fun _ => 0))) (fun cA => rfl) (fun q => by have := (mv_l32 hnr mv_z32).mp q; omega) (mv_clamp hnr) (Nat.le_trans (Nat.mul_le_mul (show n.toNat ≤ 100000 by omega) (show componentBytes .long ≤ 8 by decide)) (by omega)) (by show _ ≤ mt_mc (mv_r mi); omega) (by show _ ≤ mt_ms (mv_r mi); omega) hd (fun q cA H1 hK1 hP1 hD1 hS1 => ?_)
    refine mv_sz (fun hz => ?_)
    have hql : q < H1.size := by
      have h := hP1 sh.1 (q, .inl (cA, (n.toNat, .inr (.inl fun _ => 0)))) (by
        have hlen : (mv_ws G sh M).length = sh.1 := by unfold mv_ws; rw [List.length_map, List.length_range]
        rw [List.getElem?_append_right (by omega), hlen, Nat.sub_self]
        rfl)
      exact h.lt
    have hq := mv_new_at hD1 hql (by omega)
    subst hq
    have hcA : cA = mg_J G := by
      have h1 := (hK1.2 3 (cA, .long) rfl).2
      have h2 := (hK.2 1 (mg_J G, .long) rfl).2
      exact Option.some.inj (h1.symm.trans h2)
    subst hcA
    have he : mv_ce G (mv_nwA sh 101 n.toNat) (mv_nwM sh M) (sh.1 + 1) = .inl (mg_J G, (n.toNat, .inr (.inl fun _ => 0))) := by
      rw [mv_ce_j mv_tagA, mv_lenA]
      have e1 : (fun i => Int64.ofInt (mv_nwM sh M (sh.1 + 1) i)) = fun _ => 0 := funext fun i => by rw [mv_nwM_0]; rfl
      rw [e1]
    have hpush := mv_ws_push (G := G) (sh := sh) (sh' := mv_nwA sh 101 n.toNat) (M := M) (M' := mv_nwM sh M) rfl he (fun j hj => mv_ceA hj)
    rw [hpush] at hP1 hD1
    have K := hn _ _ _ _ hb2 p e s m args below meth cx H1 locs ls C hl hL (List.forall_mem_cons.mpr ⟨trivial, hS0.2⟩) ⟨hP1, hD1, mv_nmA hW.2.2 (by decide) (by omega)⟩ hS1 (show n0 ≤ sh.1 + 1 ∧ sh.1 + 1 ≤ _ by omega) (show s0 ≤ sh.2.1 + n.toNat ∧ sh.2.1 + n.toNat ≤ _ by omega)
    rw [List.map_cons, show mv_ct G (.inr (.inr (sh.1 + 1))) = .ref (mg_o G + sh.1) from congrArg Value.ref mv_new_ad] at K
    exact W.cs (show sh.1 - n0 + 1 = sh.1 + 1 - n0 by omega) (show sh.2.1 - s0 + n.toNat = sh.2.1 + n.toNat - s0 by omega) K
  | _ => cases hf
theorem ms_newarray_boolean {i : Instr} {ln : Nat} (hd : decode (mt_cc (mv_r mi)) pc = .ok (i, ln)) (hf : mv_fit (mv_r mi) pc ln (.newarray .boolean) a b c v ts i = true) (hn : mv_RN G mi n0 s0 (pc + ln) post NX)
    (hb : mv_pi st fun n r => if 0 ≤ n ∧ n ≤ 100000 ∧ sh.1 + 1 ≤ n0 + mt_mc (mv_r mi) ∧ sh.2.1 + n.toNat ≤ s0 + mt_ms (mv_r mi) then NX L (.inr (.inr (sh.1 + 1)) :: r) (mv_nwA sh a n.toNat) (mv_nwM sh M) else False) : mv_Run G mi n0 s0 pc L st sh M post := by
  obtain ⟨n, r, rfl, hb1⟩ := mv_pi_s hb
  obtain ⟨⟨g1, g2, g3, g4⟩, hb2⟩ := mv_if_s hb1
  intro p e s m args below meth cx H locs ls C hl hL hS hW hV hn0 hs0
  obtain ⟨hx, hcb, hml, hown, hts, hrt, hlk, hnm, hsz, hX, hbo, hK⟩ := id C
  have hS0 := List.forall_mem_cons.mp hS
  have hnr : mv_R32 n := hS0.1
  unfold mv_fit at hf
  dsimp only at hf
  cases i with
  | newarray ty' =>
    simp only [Bool.and_eq_true, decide_eq_true_eq] at hf
    obtain ⟨rfl, rfl, w0, ha, h100⟩ := hf
    have ha : a = 102 := ha
    subst ha
    have hAq : ∀ q, s.heap.size ≤ q → mg_A G q := fun q h => Nat.le_trans (show mg_o G ≤ s.heap.size by omega) h
    refine va_newa hx hcb (atype := .boolean) (hts _ (mv_hw_mem w0)) rfl hK hW.1 hW.2.1 hV hAq (n := Int32.ofInt n) (N' := n.toNat) (a0 := (n.toNat, .inl fun _ => 0)) (fun cA => rfl) (fun q => by have := (mv_l32 hnr mv_z32).mp q; omega) (mv_clamp hnr) (Nat.le_trans (Nat.mul_le_mul (show n.toNat ≤ 100000 by omega) (show componentBytes .boolean ≤ 8 by decide)) (by omega)) (by show _ ≤ mt_mc (mv_r mi); omega) (by show _ ≤ mt_ms (mv_r mi); omega) hd (fun q cA H1 hK1 hP1 hD1 hS1 => ?_)
    refine mv_sz (fun hz => ?_)
    have hql : q < H1.size := by
      have h := hP1 sh.1 (q, .inl (cA, (n.toNat, .inl fun _ => 0))) (by
        have hlen : (mv_ws G sh M).length = sh.1 := by unfold mv_ws; rw [List.length_map, List.length_range]
        rw [List.getElem?_append_right (by omega), hlen, Nat.sub_self]
        rfl)
      exact h.lt
    have hq := mv_new_at hD1 hql (by omega)
    subst hq
    have hcA : cA = mg_Z G := by
      have h1 := (hK1.2 3 (cA, .boolean) rfl).2
      have h2 := (hK.2 2 (mg_Z G, .boolean) rfl).2
      exact Option.some.inj (h1.symm.trans h2)
    subst hcA
    have he : mv_ce G (mv_nwA sh 102 n.toNat) (mv_nwM sh M) (sh.1 + 1) = .inl (mg_Z G, (n.toNat, .inl fun _ => 0)) := by
      rw [mv_ce_z mv_tagA, mv_lenA]
      have e1 : (fun i => Int32.ofInt (mv_nwM sh M (sh.1 + 1) i)) = fun _ => 0 := funext fun i => by rw [mv_nwM_0]; rfl
      rw [e1]
    have hpush := mv_ws_push (G := G) (sh := sh) (sh' := mv_nwA sh 102 n.toNat) (M := M) (M' := mv_nwM sh M) rfl he (fun j hj => mv_ceA hj)
    rw [hpush] at hP1 hD1
    have K := hn _ _ _ _ hb2 p e s m args below meth cx H1 locs ls C hl hL (List.forall_mem_cons.mpr ⟨trivial, hS0.2⟩) ⟨hP1, hD1, mv_nmA hW.2.2 (by decide) (by omega)⟩ hS1 (show n0 ≤ sh.1 + 1 ∧ sh.1 + 1 ≤ _ by omega) (show s0 ≤ sh.2.1 + n.toNat ∧ sh.2.1 + n.toNat ≤ _ by omega)
    rw [List.map_cons, show mv_ct G (.inr (.inr (sh.1 + 1))) = .ref (mg_o G + sh.1) from congrArg Value.ref mv_new_ad] at K
    exact W.cs (show sh.1 - n0 + 1 = sh.1 + 1 - n0 by omega) (show sh.2.1 - s0 + n.toNat = sh.2.1 + n.toNat - s0 by omega) K
  | _ => cases hf
theorem mv_df (ha : a < 13) (hb : b < mv_nf a) : defaultValue (mv_ty a b) = if mv_kd a b = 2 then .null else .int 0 := by
  have h := mv_kd_le ha hb
  unfold mv_kd at h ⊢
  cases ht : mv_ty a b with
  | int => rfl
  | boolean => rfl
  | object n => rfl
  | array t => rfl
  | _ => rw [ht] at h; simp at h
theorem ms_new {i : Instr} {ln : Nat} (hd : decode (mt_cc (mv_r mi)) pc = .ok (i, ln)) (hf : mv_fit (mv_r mi) pc ln (.new 0) a b c v ts i = true) (hn : mv_RN G mi n0 s0 (pc + ln) post NX)
    (hb : if sh.1 + 1 ≤ n0 + mt_mc (mv_r mi) ∧ sh.2.1 + b ≤ s0 + mt_ms (mv_r mi) then NX L (.inr (.inr (sh.1 + 1)) :: st) (mv_nwO sh a b) (mv_nwM sh M) else False) : mv_Run G mi n0 s0 pc L st sh M post := by
  obtain ⟨⟨g3, g4⟩, hb2⟩ := mv_if_s hb
  intro p e s m args below meth cx H locs ls C hl hL hS hW hV hn0 hs0
  obtain ⟨hx, hcb, hml, hown, hts, hrt, hlk, hnm, hsz, hX, hbo, hK⟩ := id C
  unfold mv_fit at hf
  dsimp only at hf
  cases i with
  | new idx =>
    rw [Bool.and_eq_true, decide_eq_true_eq] at hf
    obtain ⟨rfl, hf⟩ := hf
    split at hf
    · rename_i C' T N hC
      simp only [Bool.and_eq_true, decide_eq_true_eq] at hf
      obtain ⟨rfl, w0, w1, w2⟩ := hf
      obtain ⟨hin, hty, hnm2, hN, h100⟩ := mv_cls hC
      have ha13 : a < 13 := (List.getElem?_eq_some_iff.mp hC).1
      have hfs : ∀ j, j < N → defaultValue (mv_ty a j) = vp_V ((List.range N).map (mv_fv G (mv_nwO sh a N) (mv_nwM sh M) a (sh.1 + 1))) j := by
        intro j hj
        rw [mv_df ha13 (by rw [hN]; exact hj)]
        unfold vp_V
        rw [List.getD_eq_getElem?_getD, List.getElem?_map, List.getElem?_range hj]
        show _ = mv_fv G (mv_nwO sh a N) (mv_nwM sh M) a (sh.1 + 1) j
        unfold mv_fv
        rw [mv_refO, mv_nwM_0, if_pos rfl]
        rfl
      have hAq : ∀ q, s.heap.size ≤ q → mg_A G q := fun q h => Nat.le_trans (show mg_o G ≤ s.heap.size by omega) h
      refine va_new hx hcb hts hin (mv_ty a) hty hown (hts _ (mv_hw_mem w0)) (hts _ (mv_hw_mem w1)) (hts _ (mv_hw_mem w2)) hK hW.1 hW.2.1 hV hAq hC hfs (by show _ ≤ mt_mc (mv_r mi); omega) (by show _ ≤ mt_ms (mv_r mi); omega) hd (fun q H1 hP1 hD1 hS1 => ?_)
      refine mv_sz (fun hz => ?_)
      have hql : q < H1.size := by
        have h := hP1 sh.1 (q, .inr (a, (List.range N).map (mv_fv G (mv_nwO sh a N) (mv_nwM sh M) a (sh.1 + 1)))) (by
          have hlen : (mv_ws G sh M).length = sh.1 := by unfold mv_ws; rw [List.length_map, List.length_range]
          rw [List.getElem?_append_right (by omega), hlen, Nat.sub_self]
          rfl)
        exact h.lt
      have hq := mv_new_at hD1 hql (by omega)
      subst hq
      have he : mv_ce G (mv_nwO sh a N) (mv_nwM sh M) (sh.1 + 1) = .inr (a, (List.range N).map (mv_fv G (mv_nwO sh a N) (mv_nwM sh M) a (sh.1 + 1))) := by
        rw [mv_ce_o mv_tagO h100, hN]
      have hpush := mv_ws_push (G := G) (sh := sh) (sh' := mv_nwO sh a N) (M := M) (M' := mv_nwM sh M) rfl he (fun j hj => mv_ceO hj)
      rw [hpush] at hP1 hD1
      have K := hn _ _ _ _ hb2 p e s m args below meth cx H1 locs ls C hl hL (List.forall_mem_cons.mpr ⟨trivial, hS⟩) ⟨hP1, hD1, mv_nmO hW.2.2⟩ hS1 (show n0 ≤ sh.1 + 1 ∧ sh.1 + 1 ≤ _ by omega) (show s0 ≤ sh.2.1 + N ∧ sh.2.1 + N ≤ _ by omega)
      rw [List.map_cons, show mv_ct G (.inr (.inr (sh.1 + 1))) = .ref (mg_o G + sh.1) from congrArg Value.ref mv_new_ad] at K
      exact W.cs (show sh.1 - n0 + 1 = sh.1 + 1 - n0 by omega) (show sh.2.1 - s0 + N = sh.2.1 + N - s0 by omega) K
    · cases hf
  | _ => cases hf
end MN
end
section
/-! THE SMALL MACHINE: calls, ends, switches; a whole method -/
section MR
variable {G : mv_G} {mi n0 s0 : Nat} {post : Option mv_V → mv_SH → mv_Mem → Prop} {pc a b c : Nat} {v : Int} {ts : List Nat} {L : mv_L} {st : List mv_V} {sh : mv_SH} {M : mv_Mem}
variable {NX : mv_L → List mv_V → mv_SH → mv_Mem → Prop} {JP : Nat → mv_L → List mv_V → mv_SH → mv_Mem → Prop}
theorem mv_pay {w : Jvm.Cond} {args : Array Value} {s : State} (hg : mv_gd w = true) (hw : w.before args s = true) (a' : Array Value) (U : State) (hW : s.WarmedH U.vm) : w.before a' U = true := by
  cases w <;> first | exact word_at hW (good_of_word hg) hw | exact va_Nw.use rfl (va_Nw.warmM hW (va_Nw.of rfl hw))
theorem mv_wl_ok {q : mv_T} {args : Array Value} {s : State} (hts : ∀ w ∈ mv_tbl, w.before args s = true) (hc : Jvm.Cond.code (mt_y q) (mt_cc q) (mt_nL q) (mt_ret q) ∈ mv_tbl) : ∀ w ∈ mv_wl q, ∀ (a' : Array Value) (U : State), s.WarmedH U.vm → w.before a' U = true := by
  intro w hw a' U hW
  have hm : w ∈ mv_tbl := by
    rcases List.mem_cons.mp hw with rfl | h
    · exact hc
    · exact h
  exact mv_pay (List.mem_filter.mp hm).2 (hts w hm) a' U hW
theorem mv_blind {as : List mv_V} : FrameBlind (mv_Pc G as sh M) := by
  intro x U g mk q
  obtain ⟨h1, h2, h3, h4, h5, h6, h7⟩ := q
  exact ⟨h1, h2, h3, va_K.moved (u := U) (U := U.calling g mk x) (Vm.Alike.refl U.vm) h4, va_X.moved (u := U) (U := U.calling g mk x) (Vm.Alike.refl U.vm) h5, h6, h7⟩
theorem mv_pre {p : Program} {s : State} {m : MethodId} {args : Array Value} {meth : Method} {cx : Code} {H : Heap} {locs : List Loc} {as : List mv_V} (C : mv_Cx G mi n0 p s m args meth cx) (hW : mv_Wd G sh M H) (hV : va_S (mg_A G) s.heap H locs) (hn : n0 ≤ sh.1) (hz : H.size ≤ s.heap.size + (sh.1 - n0)) (ha : ∀ x ∈ as, mv_ov x) :
    ∀ U : State, U.heap = H → s.WarmedH U.vm → mv_Pc G as sh M (as.map (mv_ct G)).toArray U := by
  obtain ⟨hx, hcb, hml, hown, hts, hrt, hlk, hnm, hsz, hX, hbo, hK⟩ := C
  intro U hU hWm
  have hlow := mv_low hW hV hsz hn
  have hX2 := va_X.moved hWm.alike (va_X.kept hX (hV.2.1 (mg_b G) (by omega) (fun q => by have : mg_o G ≤ mg_b G := q; omega)))
  refine ⟨rfl, by rw [hU]; omega, by rw [hU]; exact hW, va_K.moved hWm.alike hK, by rw [hU]; exact hX2, hbo, ha⟩
/-- behind a call -/
theorem mv_cont {p : Program} {l : Launch} {e : Env} {R : Room} {s : State} {m : MethodId} {args : Array Value} {below : List Frame} {meth : Method} {cx : Code} {H : Heap} {locs : List Loc} {cells slots k1 k2 n1 s1 : Nat} {Q : State → Prop} {ls : Array Slot} {rest st0 : List Value} {Φ : Option mv_V → mv_SH → mv_Mem → Prop} {x : Array Value}
    (hr : va_Run p l e R s m args below meth cx H locs cells slots k1 k2 (F0 m pc ls st0) rest (mv_Po G n1 s1 Φ x) (mg_A G)) (hS : va_S (mg_A G) s.heap H locs)
    (kk : ∀ (r : Option mv_V) (sh' : mv_SH) (M' : mv_Mem) (H1 : Heap) (locs1 : List Loc), Φ r sh' M' → (∀ z, r = some z → mv_ov z) → sh'.1 = n1 → sh'.2.1 = s1 → mv_Wd G sh' M' H1 → va_S (mg_A G) s.heap H1 locs1 → W p l e R s m args below meth cx H1 locs1 (cells + k1) (slots + k2) Q (F0 m (pc + 3) ls ((r.map (mv_ct G)).toList ++ rest))) :
    W p l e R s m args below meth cx H locs cells slots Q (F0 m pc ls st0) := by
  intro T hT X
  obtain ⟨v, st₀, t, T', L, h0, X', hL, e1, e2, ⟨⟨r, sh', M', hv, hov, hΦ, h1, h2, hW1⟩, hz, hk⟩, st⟩ := hr T hT X
  cases hv
  rw [h0] at hz hk
  obtain ⟨t2, a1, b1⟩ := kk r sh' M' T'.heap (locs ++ L) hΦ hov h1 h2 (by rw [e1]; exact hW1)
    ⟨Nat.le_trans hS.1 (by rw [e1]; exact hz), fun q h1 h2 => by rw [e1, hk q (Nat.lt_of_lt_of_le h1 hS.1) h2]; exact hS.2.1 q h1 h2, fun q hq => by
      rcases List.mem_append.mp hq with h | h
      · exact hS.2.2 q h
      · exact hL q h⟩ T' rfl X'
  exact ⟨t2, st t2 a1, b1⟩
theorem mv_lk_s {own : String} {idx : Nat} {y : MethodName} (h : mv_lk ts own idx y = true) : Jvm.Cond.methodLink own idx y ∈ mv_tbl ∨ ∃ host, Jvm.Cond.methodLinkNest own idx y host ∈ mv_tbl := by
  unfold mv_lk at h
  rw [Bool.or_eq_true] at h
  rcases h with h | h
  · exact Or.inl (mv_hw_mem h)
  · split at h
    · rename_i o j z host heq
      simp only [Bool.and_eq_true, decide_eq_true_eq] at h
      obtain ⟨rfl, rfl, rfl⟩ := h
      refine Or.inr ⟨host, List.mem_filter.mpr ⟨?_, rfl⟩⟩
      cases ht : ts[0]? with
      | none => rw [ht] at heq; cases heq
      | some i => rw [ht] at heq; exact List.mem_of_getElem? heq
    · cases h
theorem mv_cl_s {r q : mv_T} {n : Nat} (h : mv_cl r q n = true) : ((mt_y q).cls ≠ "java/lang/invoke/MethodHandle" ∧ (mt_y q).cls ≠ "java/lang/invoke/VarHandle") ∧ (∀ sig, parseMethodDescriptor (mt_y q).desc = some sig → n = sig.parameters.length) ∧ mt_fr q + 1 ≤ mt_fr r ∧ 8 + (mt_nL q + 11) + mt_lo q ≤ mt_lo r := by
  unfold mv_cl at h
  simp only [Bool.and_eq_true, decide_eq_true_eq] at h
  obtain ⟨h1, h2, h3, h4⟩ := h
  refine ⟨h1, fun sig hs => ?_, Nat.le_of_ble_eq_true h3, Nat.le_of_ble_eq_true h4⟩
  rw [hs] at h2
  exact (Option.some.inj h2).symm
theorem mv_tk {x : mv_V} {As : List mv_V} (h : (st.take b).reverse = x :: As) : st = As.reverse ++ x :: st.drop b := by
  have h1 : st.take b = (x :: As).reverse := by rw [← h, List.reverse_reverse]
  have h2 := List.take_append_drop b st
  rw [h1, List.reverse_cons, List.append_assoc] at h2
  exact h2.symm
theorem mv_tk0 : st = ((st.take b).reverse).reverse ++ st.drop b := by rw [List.reverse_reverse, List.take_append_drop]
theorem mv_rl (r : Option mv_V) (rest : List mv_V) : (r.map (mv_ct G)).toList ++ rest.map (mv_ct G) = (r.toList ++ rest).map (mv_ct G) := by cases r <;> rfl
theorem mv_rl_o {r : Option mv_V} {rest : List mv_V} (h : ∀ z, r = some z → mv_ov z) (hr : ∀ x ∈ rest, mv_ov x) : ∀ x ∈ r.toList ++ rest, mv_ov x := by
  intro x hx
  rcases List.mem_append.mp hx with h1 | h1
  · cases r with
    | none => cases h1
    | some z => rw [List.mem_singleton.mp h1]; exact h z rfl
  · exact hr x h1
theorem mv_lenA2 {x : mv_V} {As : List mv_V} (h : (st.take b).reverse = x :: As) (hl : b ≤ st.length) : As.length = b - 1 := by
  have := congrArg List.length h
  rw [List.length_reverse, List.length_take, List.length_cons] at this
  omega
/-- a weaker end -/
theorem mv_mono {as : List mv_V} {Φ Ψ : Option mv_V → mv_SH → mv_Mem → Prop} (h : mv_Wp G a as sh M Φ) (hi : ∀ r sh' M', Φ r sh' M' → Ψ r sh' M') : mv_Wp G a as sh M Ψ := by
  refine ⟨h.1, MetFree.mono h.2 (fun _ _ q => q) (fun _ _ _ _ _ q => q) (fun x st o t _ q => ?_)⟩
  obtain ⟨⟨⟨r, sh', M', e1, e2, e3, e4⟩, e5⟩, e6⟩ := q
  exact ⟨⟨⟨r, sh', M', e1, e2, hi _ _ _ e3, e4⟩, e5⟩, e6⟩
theorem mv_three {as rest : List mv_V} (h : if v = 1 then mv_Wp G a as sh M (mv_qi sh fun x M' => NX L (.inl x :: rest) sh M') else if v = 2 then mv_Wp G a as sh M (mv_ql sh fun x M' => NX L (.inr (.inl x) :: rest) sh M') else mv_Wp G a as sh M (mv_qv sh fun M' => NX L rest sh M')) :
    mv_Wp G a as sh M (fun r sh' M' => NX L (r.toList ++ rest) sh' M') := by
  split at h
  · exact mv_mono h (fun r sh' M' q => by obtain ⟨rfl, x, rfl, q⟩ := q; exact q)
  · split at h
    · exact mv_mono h (fun r sh' M' q => by obtain ⟨rfl, x, rfl, q⟩ := q; exact q)
    · exact mv_mono h (fun r sh' M' q => by obtain ⟨rfl, rfl, q⟩ := q; exact q)
theorem ms_virtual {i : Instr} {ln : Nat} (hd : decode (mt_cc (mv_r mi)) pc = .ok (i, ln)) (hf : mv_fit (mv_r mi) pc ln (.invokevirtual 0) a b c v ts i = true) (hn : mv_RN G mi n0 s0 (pc + ln) post NX)
    (hb : match (st.take b).reverse with
        | .inr (.inr k) :: As => if (1 ≤ k ∧ k ≤ sh.1 ∧ sh.2.2.1 k = c) ∧ mv_stw (st.drop b) ≤ 8 ∧ b ≤ st.length then (if v = 1 then mv_Wp G a (.inr (.inr k) :: As) sh M (mv_qi sh fun x M' => NX L (.inl x :: st.drop b) sh M') else if v = 2 then mv_Wp G a (.inr (.inr k) :: As) sh M (mv_ql sh fun x M' => NX L (.inr (.inl x) :: st.drop b) sh M') else mv_Wp G a (.inr (.inr k) :: As) sh M (mv_qv sh fun M' => NX L (st.drop b) sh M')) else False
        | _ => False) : mv_Run G mi n0 s0 pc L st sh M post := by
  split at hb
  · rename_i k As hst
    obtain ⟨⟨⟨h1, h2, h3⟩, h4, h5⟩, hb⟩ := mv_if_s hb
    obtain ⟨hcode, hM⟩ := mv_three hb
    intro p e s m args below meth cx H locs ls C hl hL hS hW hV hn0 hs0
    obtain ⟨hx, hcb, hml, hown, hts, hrt, hlk, hnm, hsz, hX, hbo, hK⟩ := id C
    have hst2 := mv_tk hst
    have hSa : ∀ x ∈ (.inr (.inr k) :: As : List mv_V), mv_ov x := fun x hx => hS x (by
      rw [hst2]
      rcases List.mem_cons.mp hx with rfl | h
      · exact List.mem_append_right _ List.mem_cons_self
      · exact List.mem_append_left _ (List.mem_reverse.mpr h))
    have hSr : ∀ x ∈ st.drop b, mv_ov x := fun x hx => hS x (List.mem_of_mem_drop hx)
    unfold mv_fit at hf
    dsimp only at hf
    cases i with
    | invokevirtual idx =>
      simp only [Bool.and_eq_true, decide_eq_true_eq] at hf
      obtain ⟨rfl, w0, w1, w2, w3, hcn, ⟨hmc, hms⟩, hb1, hcl⟩ := hf
      have hb1 := Nat.le_of_ble_eq_true hb1
      obtain ⟨hy, hlen, hfr, hlo⟩ := mv_cl_s hcl
      obtain ⟨q, hq, hqc⟩ := Option.map_eq_some_iff.mp hcn
      obtain ⟨C', T, N⟩ := q
      have hqc : C' = (mt_y (mv_r a)).cls := hqc
      obtain ⟨-, -, -, -, h100⟩ := mv_cls hq
      have he := mv_ws_get (G := G) (M := M) h1 h2
      rw [mv_ce_o h3 h100] at he
      rw [hmc, hms] at hM
      refine mv_sz (fun hz => ?_)
      have cw : CallW (mt_rm (mv_r mi)) s args (mt_own (mv_r mi)) (mt_y (mv_r a)).cls idx (mt_y (mv_r a)) (mt_cc (mv_r a)) (mt_nL (mv_r a)) (mt_ret (mv_r a)) (mv_wl (mv_r a)) (mt_rm (mv_r a)) 0 0 (b - 1) :=
        ⟨⟨hmc, hms, hfr, hlo, mv_wl_ok hts hcode, List.mem_cons_self, hts _ hcode, hts _ (mv_hw_mem w3), hy, hlen, hts _ (mv_hw_mem w0)⟩, hts _ (mv_hw_mem w1), hts _ (mv_hw_mem w2)⟩
      have hrecv := va_recv hK hW.1 hq he
      rw [hqc] at hrecv
      refine mv_cont (va_runV (As := As.map (mv_ct G)) (rest := (st.drop b).map (mv_ct G)) ⟨hx, hcb, hml, hown, hts⟩ hM cw ⟨mv_blind, hrecv, mv_pre C hW hV hn0.1 hz hSa⟩ rfl (by rw [List.length_map]; exact mv_lenA2 hst h5) hl.1 ?_ (lv_room (by rw [mv_stw_e]; exact h4)) hd ⟨by show _ ≤ mt_mc (mv_r mi); omega, by show _ ≤ mt_ms (mv_r mi); omega⟩) hV (fun r sh' M' H1 locs1 hΦ hov g1 g2 hW1 hS1 => ?_)
      · have h := congrArg (List.map (mv_ct G)) hst2
        rw [List.map_append, List.map_reverse, List.map_cons] at h
        exact h
      · have K := hn _ _ _ _ hΦ p e s m args below meth cx H1 locs1 ls C hl hL (mv_rl_o hov hSr) hW1 hS1 (by omega) (by omega)
        rw [mv_rl]
        exact W.cs (by omega) (by omega) K
    | _ => cases hf
  · exact hb.elim
theorem ms_static {i : Instr} {ln : Nat} (hd : decode (mt_cc (mv_r mi)) pc = .ok (i, ln)) (hf : mv_fit (mv_r mi) pc ln (.invokestatic 0) a b c v ts i = true) (hn : mv_RN G mi n0 s0 (pc + ln) post NX) (h9 : c = 1)
    (hb : if mv_stw (st.drop b) ≤ 8 ∧ b ≤ st.length then (if v = 1 then mv_Wp G a (st.take b).reverse sh M (mv_qi sh fun x M' => NX L (.inl x :: st.drop b) sh M') else if v = 2 then mv_Wp G a (st.take b).reverse sh M (mv_ql sh fun x M' => NX L (.inr (.inl x) :: st.drop b) sh M') else mv_Wp G a (st.take b).reverse sh M (mv_qv sh fun M' => NX L (st.drop b) sh M')) else False) : mv_Run G mi n0 s0 pc L st sh M post := by
  obtain ⟨⟨h4, h5⟩, hb⟩ := mv_if_s hb
  obtain ⟨hcode, hM⟩ := mv_three hb
  intro p e s m args below meth cx H locs ls C hl hL hS hW hV hn0 hs0
  obtain ⟨hx, hcb, hml, hown, hts, hrt, hlk, hnm, hsz, hX, hbo, hK⟩ := id C
  have hSa : ∀ x ∈ (st.take b).reverse, mv_ov x := fun x hx => hS x (List.mem_of_mem_take (List.mem_reverse.mp hx))
  have hSr : ∀ x ∈ st.drop b, mv_ov x := fun x hx => hS x (List.mem_of_mem_drop hx)
  unfold mv_fit at hf
  dsimp only at hf
  cases i with
  | invokestatic idx =>
    dsimp only at hf
    rw [if_pos h9] at hf
    simp only [Bool.and_eq_true, decide_eq_true_eq] at hf
    obtain ⟨rfl, w0, w1, w2, ⟨hmc, hms⟩, hcl⟩ := hf
    obtain ⟨hy, hlen, hfr, hlo⟩ := mv_cl_s hcl
    rw [hmc, hms] at hM
    refine mv_sz (fun hz => ?_)
    have hlenA : (((st.take b).reverse).map (mv_ct G)).length = b := by rw [List.length_map, List.length_reverse, List.length_take]; omega
    have hstk : st.map (mv_ct G) = (((st.take b).reverse).map (mv_ct G)).reverse ++ (st.drop b).map (mv_ct G) := by
      rw [← List.map_reverse, ← List.map_append, ← mv_tk0]
    have kk : ∀ (r : Option mv_V) (sh' : mv_SH) (M' : mv_Mem) (H1 : Heap) (locs1 : List Loc), NX L (r.toList ++ st.drop b) sh' M' → (∀ z, r = some z → mv_ov z) → sh'.1 = sh.1 + 0 → sh'.2.1 = sh.2.1 + 0 → mv_Wd G sh' M' H1 → va_S (mg_A G) s.heap H1 locs1 → W p (mg_l G) e (mt_rm (mv_r mi)) s m args below meth cx H1 locs1 (sh.1 - n0 + 0) (sh.2.1 - s0 + 0) (MQ below (mv_Po G (n0 + mt_mc (mv_r mi)) (s0 + mt_ms (mv_r mi)) post) args s (mt_mc (mv_r mi)) (mt_ms (mv_r mi)) (mg_A G)) (F0 m (pc + 3) ls ((r.map (mv_ct G)).toList ++ (st.drop b).map (mv_ct G))) := by
      intro r sh' M' H1 locs1 hΦ hov g1 g2 hW1 hS1
      have K := hn _ _ _ _ hΦ p e s m args below meth cx H1 locs1 ls C hl hL (mv_rl_o hov hSr) hW1 hS1 (by omega) (by omega)
      rw [mv_rl]
      exact W.cs (by omega) (by omega) K
    rcases mv_lk_s w0 with hw | ⟨host, hw⟩
    · have cw : CallB (mt_rm (mv_r mi)) s args (mt_own (mv_r mi)) idx (mt_y (mv_r a)) (mt_cc (mv_r a)) (mt_nL (mv_r a)) (mt_ret (mv_r a)) (mv_wl (mv_r a)) (mt_rm (mv_r a)) 0 0 b ∧ (Cond.static (mt_y (mv_r a))).before args s = true :=
        ⟨⟨hmc, hms, hfr, hlo, mv_wl_ok hts hcode, List.mem_cons_self, hts _ hcode, hts _ (mv_hw_mem w2), hy, hlen, hts _ hw⟩, hts _ (mv_hw_mem w1)⟩
      exact mv_cont (va_runS (As := ((st.take b).reverse).map (mv_ct G)) (rest := (st.drop b).map (mv_ct G)) ⟨hx, hcb, hml, hown, hts⟩ hM cw ⟨mv_blind, mv_pre C hW hV hn0.1 hz hSa⟩ rfl hlenA hl.1 hstk (lv_room (by rw [mv_stw_e]; exact h4)) hd ⟨by show _ ≤ mt_mc (mv_r mi); omega, by show _ ≤ mt_ms (mv_r mi); omega⟩) hV kk
    · have cw : va_CN (mt_rm (mv_r mi)) s args (mt_own (mv_r mi)) idx (mt_y (mv_r a)) host (mt_cc (mv_r a)) (mt_nL (mv_r a)) (mt_ret (mv_r a)) (mv_wl (mv_r a)) (mt_rm (mv_r a)) 0 0 b ∧ (Cond.static (mt_y (mv_r a))).before args s = true ∧ True :=
        ⟨⟨⟨hmc, hms, hfr, hlo, mv_wl_ok hts hcode, List.mem_cons_self⟩, hts _ hcode, hts _ (mv_hw_mem w2), hy, hlen, hts _ hw⟩, hts _ (mv_hw_mem w1), trivial⟩
      exact mv_cont (va_runSN (As := ((st.take b).reverse).map (mv_ct G)) (rest := (st.drop b).map (mv_ct G)) ⟨hx, hcb, hml, hown, hts⟩ hM cw ⟨mv_blind, mv_pre C hW hV hn0.1 hz hSa⟩ rfl hlenA hl.1 hstk (lv_room (by rw [mv_stw_e]; exact h4)) hd ⟨by show _ ≤ mt_mc (mv_r mi); omega, by show _ ≤ mt_ms (mv_r mi); omega⟩) hV kk
  | _ => cases hf
theorem ms_special {i : Instr} {ln : Nat} (hd : decode (mt_cc (mv_r mi)) pc = .ok (i, ln)) (hf : mv_fit (mv_r mi) pc ln (.invokespecial 0) a b c v ts i = true) (hn : mv_RN G mi n0 s0 (pc + ln) post NX) (h9 : ¬ c = 1)
    (hb : match (st.take b).reverse with
        | .inr (.inr k) :: As => if mv_stw (st.drop b) ≤ 8 ∧ b ≤ st.length ∧ sh.1 + (c - 2) ≤ n0 + mt_mc (mv_r mi) ∧ sh.2.1 + v.toNat ≤ s0 + mt_ms (mv_r mi) then mv_Wp G a (.inr (.inr k) :: As) sh M (fun r sh' M' => NX L (r.toList ++ st.drop b) sh' M') else False
        | _ => False) : mv_Run G mi n0 s0 pc L st sh M post := by
  split at hb
  · rename_i k As hst
    obtain ⟨⟨h4, h5, h6, h7⟩, hcode, hM⟩ := mv_if_s hb
    intro p e s m args below meth cx H locs ls C hl hL hS hW hV hn0 hs0
    obtain ⟨hx, hcb, hml, hown, hts, hrt, hlk, hnm, hsz, hX, hbo, hK⟩ := id C
    have hst2 := mv_tk hst
    have hSa : ∀ x ∈ (.inr (.inr k) :: As : List mv_V), mv_ov x := fun x hx => hS x (by
      rw [hst2]
      rcases List.mem_cons.mp hx with rfl | h
      · exact List.mem_append_right _ List.mem_cons_self
      · exact List.mem_append_left _ (List.mem_reverse.mpr h))
    have hSr : ∀ x ∈ st.drop b, mv_ov x := fun x hx => hS x (List.mem_of_mem_drop hx)
    unfold mv_fit at hf
    dsimp only at hf
    cases i with
    | invokespecial idx =>
      dsimp only at hf
      rw [if_neg h9] at hf
      simp only [Bool.and_eq_true, decide_eq_true_eq] at hf
      obtain ⟨rfl, w0, w1, w2, hin, hret, hc2, hv2, hb1, hcl⟩ := hf
      have hb1 := Nat.le_of_ble_eq_true hb1
      obtain ⟨hy, hlen, hfr, hlo⟩ := mv_cl_s hcl
      subst hc2
      subst hv2
      have h6 : sh.1 + mt_mc (mv_r a) ≤ n0 + mt_mc (mv_r mi) := by omega
      have h7 : sh.2.1 + mt_ms (mv_r a) ≤ s0 + mt_ms (mv_r mi) := by omega
      refine mv_sz (fun hz => ?_)
      have hlenA : (As.map (mv_ct G)).length = b - 1 := by rw [List.length_map]; exact mv_lenA2 hst h5
      have hstk : st.map (mv_ct G) = (As.map (mv_ct G)).reverse ++ .ref (mv_ad G k) :: (st.drop b).map (mv_ct G) := by
        have h := congrArg (List.map (mv_ct G)) hst2
        rw [List.map_append, List.map_reverse, List.map_cons] at h
        exact h
      have kk : ∀ (r : Option mv_V) (sh' : mv_SH) (M' : mv_Mem) (H1 : Heap) (locs1 : List Loc), NX L (r.toList ++ st.drop b) sh' M' → (∀ z, r = some z → mv_ov z) → sh'.1 = sh.1 + mt_mc (mv_r a) → sh'.2.1 = sh.2.1 + mt_ms (mv_r a) → mv_Wd G sh' M' H1 → va_S (mg_A G) s.heap H1 locs1 → W p (mg_l G) e (mt_rm (mv_r mi)) s m args below meth cx H1 locs1 (sh.1 - n0 + mt_mc (mv_r a)) (sh.2.1 - s0 + mt_ms (mv_r a)) (MQ below (mv_Po G (n0 + mt_mc (mv_r mi)) (s0 + mt_ms (mv_r mi)) post) args s (mt_mc (mv_r mi)) (mt_ms (mv_r mi)) (mg_A G)) (F0 m (pc + 3) ls ((r.map (mv_ct G)).toList ++ (st.drop b).map (mv_ct G))) := by
        intro r sh' M' H1 locs1 hΦ hov g1 g2 hW1 hS1
        have K := hn _ _ _ _ hΦ p e s m args below meth cx H1 locs1 ls C hl hL (mv_rl_o hov hSr) hW1 hS1 (by omega) (by omega)
        rw [mv_rl]
        exact W.cs (by omega) (by omega) K
      rw [hret] at hcode
      have hwl : mv_wl (mv_r a) = Cond.code (mt_y (mv_r a)) (mt_cc (mv_r a)) (mt_nL (mv_r a)) none :: mv_tbl := by unfold mv_wl; rw [hret]
      have hwok : ∀ w ∈ mv_wl (mv_r a), ∀ (a' : Array Value) (U : State), s.WarmedH U.vm → w.before a' U = true := mv_wl_ok hts (by rw [hret]; exact hcode)
      rcases mv_lk_s w0 with hw | ⟨host, hw⟩
      · have cw : CallB (mt_rm (mv_r mi)) s args (mt_own (mv_r mi)) idx (mt_y (mv_r a)) (mt_cc (mv_r a)) (mt_nL (mv_r a)) none (mv_wl (mv_r a)) (mt_rm (mv_r a)) (mt_mc (mv_r a)) (mt_ms (mv_r a)) (b - 1) ∧ (mt_y (mv_r a)).name = "<init>" ∧ (Cond.instanceMethod (mt_y (mv_r a))).before args s = true :=
          ⟨⟨rfl, rfl, hfr, hlo, hwok, by rw [hwl]; exact List.mem_cons_self, hts _ hcode, hts _ (mv_hw_mem w2), hy, hlen, hts _ hw⟩, hin, hts _ (mv_hw_mem w1)⟩
        exact mv_cont (va_runI (As := As.map (mv_ct G)) (rest := (st.drop b).map (mv_ct G)) ⟨hx, hcb, hml, hown, hts⟩ hM cw ⟨mv_blind, mv_pre C hW hV hn0.1 hz hSa⟩ rfl hlenA hl.1 hstk (lv_room (by rw [mv_stw_e]; exact h4)) hd ⟨by show _ ≤ mt_mc (mv_r mi); omega, by show _ ≤ mt_ms (mv_r mi); omega⟩) hV kk
      · have cw : va_CN (mt_rm (mv_r mi)) s args (mt_own (mv_r mi)) idx (mt_y (mv_r a)) host (mt_cc (mv_r a)) (mt_nL (mv_r a)) none (mv_wl (mv_r a)) (mt_rm (mv_r a)) (mt_mc (mv_r a)) (mt_ms (mv_r a)) (b - 1) ∧ (mt_y (mv_r a)).name = "<init>" ∧ (Cond.instanceMethod (mt_y (mv_r a))).before args s = true :=
          ⟨⟨⟨rfl, rfl, hfr, hlo, hwok, by rw [hwl]; exact List.mem_cons_self⟩, hts _ hcode, hts _ (mv_hw_mem w2), hy, hlen, hts _ hw⟩, hin, hts _ (mv_hw_mem w1)⟩
        exact mv_cont (va_runIN (As := As.map (mv_ct G)) (rest := (st.drop b).map (mv_ct G)) ⟨hx, hcb, hml, hown, hts⟩ hM cw ⟨mv_blind, mv_pre C hW hV hn0.1 hz hSa⟩ rfl hlenA hl.1 hstk (lv_room (by rw [mv_stw_e]; exact h4)) hd ⟨by show _ ≤ mt_mc (mv_r mi); omega, by show _ ≤ mt_ms (mv_r mi); omega⟩) hV kk
    | _ => cases hf
  · exact hb.elim
theorem ms_objInit {i : Instr} {ln : Nat} (hd : decode (mt_cc (mv_r mi)) pc = .ok (i, ln)) (hf : mv_fit (mv_r mi) pc ln (.invokespecial 0) a b c v ts i = true) (hn : mv_RN G mi n0 s0 (pc + ln) post NX) (h9 : c = 1)
    (hb : mv_pr st fun _ r => if mv_stw r ≤ 8 then NX L r sh M else False) : mv_Run G mi n0 s0 pc L st sh M post := by
  obtain ⟨k, r, rfl, hb1⟩ := mv_pr_s hb
  obtain ⟨h4, hb2⟩ := mv_if_s hb1
  intro p e s m args below meth cx H locs ls C hl hL hS hW hV hn0 hs0
  obtain ⟨hx, hcb, hml, hown, hts, hrt, hlk, hnm, hsz, hX, hbo, hK⟩ := id C
  have hS2 := List.forall_mem_cons.mp hS
  unfold mv_fit at hf
  dsimp only at hf
  cases i with
  | invokespecial idx =>
    dsimp only at hf
    rw [if_pos h9] at hf
    simp only [Bool.and_eq_true, decide_eq_true_eq] at hf
    obtain ⟨rfl, w0, w1, w2, hfr, hlo⟩ := hf
    have hfr := Nat.le_of_ble_eq_true hfr
    have hlo := Nat.le_of_ble_eq_true hlo
    have K := hn _ _ _ _ hb2 p e s m args below meth cx H locs ls C hl hL hS2.2 hW hV hn0 hs0
    refine W.objInit (rest := r.map (mv_ct G)) hx hcb hown (hts _ (mv_hw_mem w0)) (hts _ (mv_hw_mem w1)) (hts _ (mv_hw_mem w2)) rfl (by rw [hml]; exact hl.1) rfl hd hfr ?_ K
    rw [mv_stw_e]
    show 2 * 0 + mv_stw r + 12 ≤ mt_lo (mv_r mi)
    omega
  | _ => cases hf
theorem ms_ireturn {i : Instr} {ln : Nat} (hd : decode (mt_cc (mv_r mi)) pc = .ok (i, ln)) (hf : mv_fit (mv_r mi) pc ln .ireturn a b c v ts i = true)
    (hb : match st with
      | [.inl x] => if sh.1 = n0 + mt_mc (mv_r mi) ∧ sh.2.1 = s0 + mt_ms (mv_r mi) then (if a = 1 then (x = 0 ∨ x = 1) ∧ post (some (.inl x)) sh M else post (some (.inl x)) sh M) else False
      | _ => False) : mv_Run G mi n0 s0 pc L st sh M post := by
  split at hb
  · rename_i x
    obtain ⟨⟨h1, h2⟩, hb⟩ := mv_if_s hb
    intro p e s m args below meth cx H locs ls C hl hL hS hW hV hn0 hs0
    obtain ⟨hx, hcb, hml, hown, hts, hrt, hlk, hnm, hsz, hX, hbo, hK⟩ := id C
    have h : (decide (ln = 1) && (decide (i = .ireturn) && (if a = 1 then decide (mt_ret (mv_r mi) = some .boolean) else decide (mt_ret (mv_r mi) = some .int)))) = true := hf
    rw [Bool.and_eq_true, Bool.and_eq_true, decide_eq_true_eq, decide_eq_true_eq] at h
    obtain ⟨rfl, rfl, h⟩ := h
    rw [show sh.1 - n0 = mt_mc (mv_r mi) by omega, show sh.2.1 - s0 = mt_ms (mv_r mi) by omega]
    by_cases h9 : a = 1
    · rw [if_pos h9] at hb h
      have hret := hrt.trans (of_decide_eq_true h)
      exact W.zret (v := Int32.ofInt x) hx hcb hret (by rcases hb.1 with rfl | rfl <;> decide) (fun t ht _ => ⟨⟨some (.inl x), sh, M, rfl, fun z hz => by cases hz; exact hS _ List.mem_cons_self, hb.2, h1, h2, by rw [ht]; exact hW⟩, hV.F ht⟩) hV.2.2 hd hlk
    · rw [if_neg h9] at hb h
      have hret := hrt.trans (of_decide_eq_true h)
      exact W.iret (v := Int32.ofInt x) hx hcb hret (fun t ht _ => ⟨⟨some (.inl x), sh, M, rfl, fun z hz => by cases hz; exact hS _ List.mem_cons_self, hb, h1, h2, by rw [ht]; exact hW⟩, hV.F ht⟩) hV.2.2 hd hlk
  · exact hb.elim
theorem ms_lreturn {i : Instr} {ln : Nat} (hd : decode (mt_cc (mv_r mi)) pc = .ok (i, ln)) (hf : mv_fit (mv_r mi) pc ln .lreturn a b c v ts i = true)
    (hb : match st with
      | [.inr (.inl x)] => if sh.1 = n0 + mt_mc (mv_r mi) ∧ sh.2.1 = s0 + mt_ms (mv_r mi) then post (some (.inr (.inl x))) sh M else False
      | _ => False) : mv_Run G mi n0 s0 pc L st sh M post := by
  split at hb
  · rename_i x
    obtain ⟨⟨h1, h2⟩, hb⟩ := mv_if_s hb
    intro p e s m args below meth cx H locs ls C hl hL hS hW hV hn0 hs0
    obtain ⟨hx, hcb, hml, hown, hts, hrt, hlk, hnm, hsz, hX, hbo, hK⟩ := id C
    have h : (decide (ln = 1) && (decide (i = .lreturn) && decide (mt_ret (mv_r mi) = some .long))) = true := hf
    simp only [Bool.and_eq_true, decide_eq_true_eq] at h
    obtain ⟨rfl, rfl, h⟩ := h
    rw [show sh.1 - n0 = mt_mc (mv_r mi) by omega, show sh.2.1 - s0 = mt_ms (mv_r mi) by omega]
    exact W.lret (v := Int64.ofInt x) hx hcb (hrt.trans h) (fun t ht _ => ⟨⟨some (.inr (.inl x)), sh, M, rfl, fun z hz => by cases hz; exact hS _ List.mem_cons_self, hb, h1, h2, by rw [ht]; exact hW⟩, hV.F ht⟩) hV.2.2 hd hlk
  · exact hb.elim
theorem ms_return {i : Instr} {ln : Nat} (hd : decode (mt_cc (mv_r mi)) pc = .ok (i, ln)) (hf : mv_fit (mv_r mi) pc ln .return_ a b c v ts i = true)
    (hb : match st with
      | [] => if sh.1 = n0 + mt_mc (mv_r mi) ∧ sh.2.1 = s0 + mt_ms (mv_r mi) then post none sh M else False
      | _ => False) : mv_Run G mi n0 s0 pc L st sh M post := by
  split at hb
  · obtain ⟨⟨h1, h2⟩, hb⟩ := mv_if_s hb
    intro p e s m args below meth cx H locs ls C hl hL hS hW hV hn0 hs0
    obtain ⟨hx, hcb, hml, hown, hts, hrt, hlk, hnm, hsz, hX, hbo, hK⟩ := id C
    have h : (decide (ln = 1) && (decide (i = .return_) && decide (mt_ret (mv_r mi) = none))) = true := hf
    simp only [Bool.and_eq_true, decide_eq_true_eq] at h
    obtain ⟨rfl, rfl, h⟩ := h
    rw [show sh.1 - n0 = mt_mc (mv_r mi) by omega, show sh.2.1 - s0 = mt_ms (mv_r mi) by omega]
    exact W.vret hx hcb (hrt.trans h) (fun t ht _ => ⟨⟨none, sh, M, rfl, fun z hz => (by cases hz), hb, h1, h2, by rw [ht]; exact hW⟩, hV.F ht⟩) hV.2.2 hd hlk
  · exact hb.elim
theorem mv_sw_s {jump : Nat → Prop} {x : Int} {d : Nat} : ∀ {ts : List Nat} {lo : Int}, mv_sw jump x d lo ts → (∃ (j t : Nat), ts[j]? = some t ∧ x = lo + (j : Int) ∧ jump t) ∨ ((x < lo ∨ lo + (ts.length : Int) ≤ x) ∧ jump d)
  | [], lo, h => Or.inr ⟨by rw [List.length_nil]; omega, h⟩
  | t :: ts, lo, h => by
    unfold mv_sw at h
    split at h
    · exact Or.inl ⟨0, t, rfl, by omega, h⟩
    · rename_i hx
      rcases mv_sw_s h with ⟨j, t', h1, h2, h3⟩ | ⟨h1, h2⟩
      · exact Or.inl ⟨j + 1, t', by rw [List.getElem?_cons_succ]; exact h1, by omega, h3⟩
      · exact Or.inr ⟨by rw [List.length_cons]; omega, h2⟩
theorem ms_switch {i : Instr} {ln : Nat} (hd : decode (mt_cc (mv_r mi)) pc = .ok (i, ln)) (hf : mv_fit (mv_r mi) pc ln (.tableswitch 0 0 0 #[]) a b c v ts i = true) (hj : ∀ t, mv_RN G mi n0 s0 t post (JP t))
    (hb : mv_pi st fun x r => mv_sw (fun t => JP t L r sh M) x a v ts) : mv_Run G mi n0 s0 pc L st sh M post := by
  obtain ⟨x, r, rfl, hb1⟩ := mv_pi_s hb
  intro p e s m args below meth cx H locs ls C hl hL hS hW hV hn0 hs0
  obtain ⟨hx, hcb, hml, hown, hts, hrt, hlk, hnm, hsz, hX, hbo, hK⟩ := id C
  have hS2 := List.forall_mem_cons.mp hS
  have hxr : mv_R32 x := hS2.1
  unfold mv_fit at hf
  dsimp only at hf
  rw [Bool.and_eq_true] at hf
  obtain ⟨-, hf⟩ := hf
  cases i with
  | tableswitch d lo hi offs =>
    simp only [Bool.and_eq_true, decide_eq_true_eq] at hf
    obtain ⟨h1, rfl, h2, h3⟩ := hf
    rcases mv_sw_s hb1 with ⟨j, t, g1, g2, g3⟩ | ⟨g1, g2⟩
    · have hjl : j < ts.length := (List.getElem?_eq_some_iff.mp g1).1
      have ho : offs[((Int32.ofInt x).toInt - lo).toNat]? = some ((t : Int) - (pc : Int)) := by
        rw [mv_i32 hxr, ← Array.getElem?_toList, h3, List.getElem?_map, show (x - lo).toNat = j by omega, g1]
        rfl
      exact lv_tableIn hx hcb hd (by rw [mv_i32 hxr]; omega) (by rw [mv_i32 hxr]; omega) ho (by omega) (hj t _ _ _ _ g3 p e s m args below meth cx H locs ls C hl hL hS2.2 hW hV hn0 hs0)
    · exact lv_tableOut hx hcb hd (by rw [mv_i32 hxr]; omega) h1 (hj a _ _ _ _ g2 p e s m args below meth cx H locs ls C hl hL hS2.2 hW hV hn0 hs0)
  | _ => cases hf
end MR
end
section
/-! THE SMALL MACHINE: any instruction; a stretch of code; a method -/
section MB
variable {G : mv_G} {mi n0 s0 : Nat} {post : Option mv_V → mv_SH → mv_Mem → Prop} {pc a b c : Nat} {v : Int} {ts : List Nat} {L : mv_L} {st : List mv_V} {sh : mv_SH} {M : mv_Mem}
variable {NX : mv_L → List mv_V → mv_SH → mv_Mem → Prop} {JP : Nat → mv_L → List mv_V → mv_SH → mv_Mem → Prop}
set_option maxHeartbeats 4000000 in
theorem mv_body_ok {i ni : Instr} {ln : Nat} (hd : decode (mt_cc (mv_r mi)) pc = .ok (i, ln)) (hf : mv_fit (mv_r mi) pc ln ni a b c v ts i = true) (hn : mv_RN G mi n0 s0 (pc + ln) post NX) (hj : ∀ t, mv_RN G mi n0 s0 t post (JP t))
    (hb : mv_body (mv_Wp G) NX JP post n0 s0 (mt_mc (mv_r mi)) (mt_ms (mv_r mi)) ni a b c v ts L st sh M) : mv_Run G mi n0 s0 pc L st sh M post := by
  cases ni with
  | iadd =>
    have h : (decide (ln = 1) && decide (i = Instr.iadd)) = true := hf
    simp only [Bool.and_eq_true, decide_eq_true_eq] at h
    obtain ⟨rfl, rfl⟩ := h
    exact ms_iadd hd hn hb
  | isub =>
    have h : (decide (ln = 1) && decide (i = Instr.isub)) = true := hf
    simp only [Bool.and_eq_true, decide_eq_true_eq] at h
    obtain ⟨rfl, rfl⟩ := h
    exact ms_isub hd hn hb
  | imul =>
    have h : (decide (ln = 1) && decide (i = Instr.imul)) = true := hf
    simp only [Bool.and_eq_true, decide_eq_true_eq] at h
    obtain ⟨rfl, rfl⟩ := h
    exact ms_imul hd hn hb
  | idiv =>
    have h : (decide (ln = 1) && decide (i = Instr.idiv)) = true := hf
    simp only [Bool.and_eq_true, decide_eq_true_eq] at h
    obtain ⟨rfl, rfl⟩ := h
    exact ms_idiv hd hn hb
  | irem =>
    have h : (decide (ln = 1) && decide (i = Instr.irem)) = true := hf
    simp only [Bool.and_eq_true, decide_eq_true_eq] at h
    obtain ⟨rfl, rfl⟩ := h
    exact ms_irem hd hn hb
  | ineg =>
    have h : (decide (ln = 1) && decide (i = Instr.ineg)) = true := hf
    simp only [Bool.and_eq_true, decide_eq_true_eq] at h
    obtain ⟨rfl, rfl⟩ := h
    exact ms_ineg hd hn hb
  | iand =>
    have h : (decide (ln = 1) && decide (i = Instr.iand)) = true := hf
    simp only [Bool.and_eq_true, decide_eq_true_eq] at h
    obtain ⟨rfl, rfl⟩ := h
    exact ms_iand hd hn hb
  | ixor =>
    have h : (decide (ln = 1) && decide (i = Instr.ixor)) = true := hf
    simp only [Bool.and_eq_true, decide_eq_true_eq] at h
    obtain ⟨rfl, rfl⟩ := h
    exact ms_ixor hd hn hb
  | ishl =>
    have h : (decide (ln = 1) && decide (i = Instr.ishl)) = true := hf
    simp only [Bool.and_eq_true, decide_eq_true_eq] at h
    obtain ⟨rfl, rfl⟩ := h
    exact ms_ishl hd hn hb
  | ishr =>
    have h : (decide (ln = 1) && decide (i = Instr.ishr)) = true := hf
    simp only [Bool.and_eq_true, decide_eq_true_eq] at h
    obtain ⟨rfl, rfl⟩ := h
    exact ms_ishr hd hn hb
  | ladd =>
    have h : (decide (ln = 1) && decide (i = Instr.ladd)) = true := hf
    simp only [Bool.and_eq_true, decide_eq_true_eq] at h
    obtain ⟨rfl, rfl⟩ := h
    exact ms_ladd hd hn hb
  | lsub =>
    have h : (decide (ln = 1) && decide (i = Instr.lsub)) = true := hf
    simp only [Bool.and_eq_true, decide_eq_true_eq] at h
    obtain ⟨rfl, rfl⟩ := h
    exact ms_lsub hd hn hb
  | lmul =>
    have h : (decide (ln = 1) && decide (i = Instr.lmul)) = true := hf
    simp only [Bool.and_eq_true, decide_eq_true_eq] at h
    obtain ⟨rfl, rfl⟩ := h
    exact ms_lmul hd hn hb
  | ldiv =>
    have h : (decide (ln = 1) && decide (i = Instr.ldiv)) = true := hf
    simp only [Bool.and_eq_true, decide_eq_true_eq] at h
    obtain ⟨rfl, rfl⟩ := h
    exact ms_ldiv hd hn hb
  | lrem =>
    have h : (decide (ln = 1) && decide (i = Instr.lrem)) = true := hf
    simp only [Bool.and_eq_true, decide_eq_true_eq] at h
    obtain ⟨rfl, rfl⟩ := h
    exact ms_lrem hd hn hb
  | lneg =>
    have h : (decide (ln = 1) && decide (i = Instr.lneg)) = true := hf
    simp only [Bool.and_eq_true, decide_eq_true_eq] at h
    obtain ⟨rfl, rfl⟩ := h
    exact ms_lneg hd hn hb
  | land =>
    have h : (decide (ln = 1) && decide (i = Instr.land)) = true := hf
    simp only [Bool.and_eq_true, decide_eq_true_eq] at h
    obtain ⟨rfl, rfl⟩ := h
    exact ms_land hd hn hb
  | lor =>
    have h : (decide (ln = 1) && decide (i = Instr.lor)) = true := hf
    simp only [Bool.and_eq_true, decide_eq_true_eq] at h
    obtain ⟨rfl, rfl⟩ := h
    exact ms_lor hd hn hb
  | lxor =>
    have h : (decide (ln = 1) && decide (i = Instr.lxor)) = true := hf
    simp only [Bool.and_eq_true, decide_eq_true_eq] at h
    obtain ⟨rfl, rfl⟩ := h
    exact ms_lxor hd hn hb
  | lshl =>
    have h : (decide (ln = 1) && decide (i = Instr.lshl)) = true := hf
    simp only [Bool.and_eq_true, decide_eq_true_eq] at h
    obtain ⟨rfl, rfl⟩ := h
    exact ms_lshl hd hn hb
  | lshr =>
    have h : (decide (ln = 1) && decide (i = Instr.lshr)) = true := hf
    simp only [Bool.and_eq_true, decide_eq_true_eq] at h
    obtain ⟨rfl, rfl⟩ := h
    exact ms_lshr hd hn hb
  | lushr =>
    have h : (decide (ln = 1) && decide (i = Instr.lushr)) = true := hf
    simp only [Bool.and_eq_true, decide_eq_true_eq] at h
    obtain ⟨rfl, rfl⟩ := h
    exact ms_lushr hd hn hb
  | i2l =>
    have h : (decide (ln = 1) && decide (i = Instr.i2l)) = true := hf
    simp only [Bool.and_eq_true, decide_eq_true_eq] at h
    obtain ⟨rfl, rfl⟩ := h
    exact ms_i2l hd hn hb
  | l2i =>
    have h : (decide (ln = 1) && decide (i = Instr.l2i)) = true := hf
    simp only [Bool.and_eq_true, decide_eq_true_eq] at h
    obtain ⟨rfl, rfl⟩ := h
    exact ms_l2i hd hn hb
  | lcmp =>
    have h : (decide (ln = 1) && decide (i = Instr.lcmp)) = true := hf
    simp only [Bool.and_eq_true, decide_eq_true_eq] at h
    obtain ⟨rfl, rfl⟩ := h
    exact ms_lcmp hd hn hb
  | dup =>
    have h : (decide (ln = 1) && decide (i = Instr.dup)) = true := hf
    simp only [Bool.and_eq_true, decide_eq_true_eq] at h
    obtain ⟨rfl, rfl⟩ := h
    exact ms_dup hd hn hb
  | dup2 =>
    have h : (decide (ln = 1) && decide (i = Instr.dup2)) = true := hf
    simp only [Bool.and_eq_true, decide_eq_true_eq] at h
    obtain ⟨rfl, rfl⟩ := h
    exact ms_dup2 hd hn hb
  | pop =>
    have h : (decide (ln = 1) && decide (i = Instr.pop)) = true := hf
    simp only [Bool.and_eq_true, decide_eq_true_eq] at h
    obtain ⟨rfl, rfl⟩ := h
    exact ms_pop hd hn hb
  | iaload =>
    have h : (decide (ln = 1) && decide (i = Instr.iaload)) = true := hf
    simp only [Bool.and_eq_true, decide_eq_true_eq] at h
    obtain ⟨rfl, rfl⟩ := h
    exact ms_iaload hd hn hb
  | laload =>
    have h : (decide (ln = 1) && decide (i = Instr.laload)) = true := hf
    simp only [Bool.and_eq_true, decide_eq_true_eq] at h
    obtain ⟨rfl, rfl⟩ := h
    exact ms_laload hd hn hb
  | baload =>
    have h : (decide (ln = 1) && decide (i = Instr.baload)) = true := hf
    simp only [Bool.and_eq_true, decide_eq_true_eq] at h
    obtain ⟨rfl, rfl⟩ := h
    exact ms_baload hd hn hb
  | iastore =>
    have h : (decide (ln = 1) && decide (i = Instr.iastore)) = true := hf
    simp only [Bool.and_eq_true, decide_eq_true_eq] at h
    obtain ⟨rfl, rfl⟩ := h
    exact ms_iastore hd hn hb
  | lastore =>
    have h : (decide (ln = 1) && decide (i = Instr.lastore)) = true := hf
    simp only [Bool.and_eq_true, decide_eq_true_eq] at h
    obtain ⟨rfl, rfl⟩ := h
    exact ms_lastore hd hn hb
  | bastore =>
    have h : (decide (ln = 1) && decide (i = Instr.bastore)) = true := hf
    simp only [Bool.and_eq_true, decide_eq_true_eq] at h
    obtain ⟨rfl, rfl⟩ := h
    exact ms_bastore hd hn hb
  | arraylength =>
    have h : (decide (ln = 1) && decide (i = Instr.arraylength)) = true := hf
    simp only [Bool.and_eq_true, decide_eq_true_eq] at h
    obtain ⟨rfl, rfl⟩ := h
    exact ms_arraylength hd hn hb
  | iconst n => exact ms_iconst (a := a) (b := b) (c := c) (v := v) (ts := ts) hd hf hn hb
  | lconst n => exact ms_lconst (a := a) (b := b) (c := c) (v := v) (ts := ts) hd hf hn hb
  | iload n => exact ms_iload (a := a) (b := b) (c := c) (v := v) (ts := ts) hd hf hn hb
  | lload n => exact ms_lload (a := a) (b := b) (c := c) (v := v) (ts := ts) hd hf hn hb
  | aload n => exact ms_aload (a := a) (b := b) (c := c) (v := v) (ts := ts) hd hf hn hb
  | istore n => exact ms_istore (a := a) (b := b) (c := c) (v := v) (ts := ts) hd hf hn hb
  | lstore n => exact ms_lstore (a := a) (b := b) (c := c) (v := v) (ts := ts) hd hf hn hb
  | astore n => exact ms_astore (a := a) (b := b) (c := c) (v := v) (ts := ts) hd hf hn hb
  | iinc n k => exact ms_iinc (a := a) (b := b) (c := c) (v := v) (ts := ts) hd hf hn hb
  | goto n => exact ms_goto (a := a) (b := b) (c := c) (v := v) (ts := ts) hd hf (hj a) hb
  | ifCond k n => exact ms_if (JP := JP) (a := a) (b := b) (c := c) (v := v) (ts := ts) hd hf hn (hj a) hb
  | if_icmp k n => exact ms_icmp (JP := JP) (a := a) (b := b) (c := c) (v := v) (ts := ts) hd hf hn (hj a) hb
  | tableswitch d lo hi offs => exact ms_switch (a := a) (b := b) (c := c) (v := v) (ts := ts) hd hf hj hb
  | getfield n => exact ms_getfield (a := a) (b := b) (c := c) (v := v) (ts := ts) hd hf hn hb
  | putfield n => exact ms_putfield (a := a) (b := b) (c := c) (v := v) (ts := ts) hd hf hn hb
  | newarray ty =>
    cases ty with
    | int => exact ms_newarray_int (a := a) (b := b) (c := c) (v := v) (ts := ts) hd hf hn hb
    | long => exact ms_newarray_long (a := a) (b := b) (c := c) (v := v) (ts := ts) hd hf hn hb
    | boolean => exact ms_newarray_boolean (a := a) (b := b) (c := c) (v := v) (ts := ts) hd hf hn hb
    | _ =>
      exfalso
      unfold mv_fit at hf
      dsimp only at hf
      cases i with
      | newarray ty' =>
        simp only [Bool.and_eq_true, decide_eq_true_eq] at hf
        obtain ⟨-, -, -, h1, h2⟩ := hf
        have h3 := Nat.le_of_ble_eq_true h2
        have h4 : a = 0 := h1
        omega
      | _ => cases hf
  | new n => exact ms_new (a := a) (b := b) (c := c) (v := v) (ts := ts) hd hf hn hb
  | invokespecial n =>
    by_cases h9 : c = 1
    · have hb' : (if c = 1 then _ else _) := hb
      rw [if_pos h9] at hb'
      exact ms_objInit (a := a) (b := b) (c := c) (v := v) (ts := ts) hd hf hn h9 hb'
    · have hb' : (if c = 1 then _ else _) := hb
      rw [if_neg h9] at hb'
      exact ms_special (a := a) (b := b) (c := c) (v := v) (ts := ts) hd hf hn h9 hb'
  | invokevirtual n => exact ms_virtual (a := a) (b := b) (c := c) (v := v) (ts := ts) hd hf hn hb
  | invokestatic n =>
    by_cases h9 : c = 1
    · have hb' : (if c = 1 then _ else _) := hb
      rw [if_pos h9] at hb'
      exact ms_static (a := a) (b := b) (c := c) (v := v) (ts := ts) hd hf hn h9 hb'
    · have hb' : (if c = 1 then _ else _) := hb
      rw [if_neg h9] at hb'
      exact ms_copy (a := a) (b := b) (c := c) (v := v) (ts := ts) hd hf hn h9 hb'
  | ireturn => exact ms_ireturn (a := a) (b := b) (c := c) (v := v) (ts := ts) hd hf hb
  | lreturn => exact ms_lreturn (a := a) (b := b) (c := c) (v := v) (ts := ts) hd hf hb
  | return_ => exact ms_return (a := a) (b := b) (c := c) (v := v) (ts := ts) hd hf hb
  | _ => exact hb.elim
def mv_sx (mi : Nat) (s : List mv_E) : Prop := (∀ e ∈ s, mv_okE (mv_r mi) e = true) ∧ mv_ch s = true
theorem mv_okM_s (h : mv_okM mi = true) : mv_sx mi (mt_code (mv_r mi)) := by
  unfold mv_okM at h
  rw [Bool.and_eq_true] at h
  exact ⟨fun e he => List.all_eq_true.mp h.1 e he, h.2⟩
theorem mv_sx_tl {e : mv_E} {r : List mv_E} (h : mv_sx mi (e :: r)) : mv_sx mi r := by
  refine ⟨fun x hx => h.1 x (List.mem_cons_of_mem _ hx), ?_⟩
  have h2 := h.2
  cases r with
  | nil => rfl
  | cons e' r' =>
    unfold mv_ch at h2
    rw [Bool.and_eq_true] at h2
    exact h2.2
theorem mv_sx_ch {e e' : mv_E} {r : List mv_E} (h : mv_sx mi (e :: e' :: r)) : e.1 + e.2.1 = e'.1 := by
  have h2 := h.2
  unfold mv_ch at h2
  rw [Bool.and_eq_true, decide_eq_true_eq] at h2
  exact h2.1
theorem mv_at_s {t : Nat} : ∀ {s : List mv_E}, mv_sx mi s → mv_sx mi (mv_at t s)
  | [], h => h
  | e :: r, h => by
    unfold mv_at
    split
    · exact h
    · exact mv_at_s (mv_sx_tl h)
theorem mv_at_h {t : Nat} {e : mv_E} {r : List mv_E} : ∀ {s : List mv_E}, mv_at t s = e :: r → e.1 = t
  | [], h => by cases h
  | x :: s, h => by
    unfold mv_at at h
    split at h
    · rename_i hx
      cases h
      exact hx
    · exact mv_at_h h
theorem mv_run_pk {ks : List Nat} (h : mv_Run G mi n0 s0 pc (mv_pk ks L) st sh M post) : mv_Run G mi n0 s0 pc L st sh M post := by
  intro p e s m args below meth cx H locs ls C hl hL hS hW hV hn0 hs0
  have key : ∀ q ∈ mv_pk ks L, q ∈ L := by
    intro q hq
    obtain ⟨k, -, hk⟩ := List.mem_filterMap.mp hq
    obtain ⟨x, hx, rfl⟩ := Option.map_eq_some_iff.mp hk
    exact mv_lg_mem hx
  refine h p e s m args below meth cx H locs ls C ⟨hl.1, hl.2.1, fun q hq => ?_⟩ (fun q hq => hL q (key q hq)) hS hW hV hn0 hs0
  obtain ⟨x, hx, rfl⟩ := List.mem_map.mp hq
  exact hl.2.2 _ (List.mem_map.mpr ⟨x, key x hx, rfl⟩)
theorem mv_vc_nil {cuts : List (Nat × List Nat)} {n : Nat} {f : Bool} (h : mv_vc G mi n0 s0 cuts post n f [] L st sh M) : False := by
  cases n <;> exact h
theorem mv_vc_ok {cuts : List (Nat × List Nat)} (hok : mv_okM mi = true) : ∀ (n : Nat) (f : Bool) (e : mv_E) (r : List mv_E) (L : mv_L) (st : List mv_V) (sh : mv_SH) (M : mv_Mem), mv_sx mi (e :: r) → mv_vc G mi n0 s0 cuts post n f (e :: r) L st sh M → mv_Run G mi n0 s0 e.1 L st sh M post
  | 0, _, _, _, _, _, _, _, _, h => h.elim
  | n + 1, f, e, r, L, st, sh, M, hs, h => by
    unfold mv_vc at h
    split at h
    · exact mv_run_pk h
    · have h1 := hs.1 e List.mem_cons_self
      obtain ⟨pc, ln, ni, a, b, c, v, ts⟩ := e
      unfold mv_okE at h1
      dsimp only at h1
      split at h1
      · rename_i i k hd
        rw [Bool.and_eq_true, decide_eq_true_eq] at h1
        obtain ⟨rfl, hf⟩ := h1
        refine mv_body_ok hd hf (NX := mv_vc G mi n0 s0 cuts post n false r) (JP := fun t => mv_vc G mi n0 s0 cuts post n false (mv_at t (mt_code (mv_r mi)))) (fun L' st' sh' M' h' => ?_) (fun t L' st' sh' M' h' => ?_) h
        · cases r with
          | nil => exact (mv_vc_nil h').elim
          | cons e' r' =>
            have hc := mv_sx_ch hs
            have K := mv_vc_ok hok n false e' r' L' st' sh' M' (mv_sx_tl hs) h'
            rw [← hc] at K
            exact K
        · cases hat : mv_at t (mt_code (mv_r mi)) with
          | nil => rw [hat] at h'; exact (mv_vc_nil h').elim
          | cons e' r' =>
            rw [hat] at h'
            have hc := mv_at_h hat
            have K := mv_vc_ok hok n false e' r' L' st' sh' M' (by rw [← hat]; exact mv_at_s (mv_okM_s hok)) h'
            rw [hc] at K
            exact K
      · cases h1
/-- from a cut on: it's enough to show what mv_vc says -/
theorem mv_run (cuts : List (Nat × List Nat)) (n : Nat) (hok : mv_okM mi = true) (h : mv_vc G mi n0 s0 cuts post n true (mv_at pc (mt_code (mv_r mi))) L st sh M) : mv_Run G mi n0 s0 pc L st sh M post := by
  cases hat : mv_at pc (mt_code (mv_r mi)) with
  | nil => rw [hat] at h; exact (mv_vc_nil h).elim
  | cons e r =>
    rw [hat] at h
    have K := mv_vc_ok hok n true e r L st sh M (by rw [← hat]; exact mv_at_s (mv_okM_s hok)) h
    rw [mv_at_h hat] at K
    exact K
theorem mv_en_m {as : List mv_V} : ∀ (i : Nat), lv_args i (as.map (mv_ct G)) = (mv_en i as).map (fun q => (q.1, mv_ct G q.2)) := by
  induction as with
  | nil => intro i; rfl
  | cons x as ih =>
    intro i
    show (i, mv_ct G x) :: lv_args (if (mv_ct G x).category = 2 then i + 2 else i + 1) (as.map (mv_ct G)) = (i, mv_ct G x) :: (mv_en (i + if mv_isL x then 2 else 1) as).map _
    have e1 : (if (mv_ct G x).category = 2 then i + 2 else i + 1) = i + if mv_isL x then 2 else 1 := by obtain x | x | x := x <;> rfl
    rw [e1, ih]
theorem mv_en_o {as : List mv_V} (h : ∀ x ∈ as, mv_ov x) : ∀ (i : Nat), ∀ q ∈ mv_en i as, mv_ov q.2 := by
  induction as with
  | nil => intro i q hq; cases hq
  | cons x as ih =>
    intro i q hq
    rcases List.mem_cons.mp hq with rfl | hq
    · exact h _ List.mem_cons_self
    · exact ih (fun y hy => h y (List.mem_cons_of_mem _ hy)) _ q hq
theorem mv_sl_e {as : List mv_V} : (lg_sl (as.map (mv_ct G))).length = mv_stw as := by
  induction as with
  | nil => rfl
  | cons x as ih =>
    have e1 : mv_stw (x :: as) = (if mv_isL x then 2 else 1) + mv_stw as := rfl
    rw [e1, ← ih]
    show ((if (mv_ct G x).category = 2 then [Slot.val (mv_ct G x), Slot.second] else [Slot.val (mv_ct G x)]) ++ lg_sl (as.map (mv_ct G))).length = _
    rw [List.length_append]
    obtain x | x | x := x <;> rfl
/-- a contract by a walk, of any method that no entry runs instead -/
theorem mv_ofW {l : Launch} {y : MethodName} {ws ws' : List Jvm.Cond} {rm : Room} {Pc : Array Value → State → Prop} {Qc : Array Value → State → Outcome → State → Prop} {mc ms : Nat} {free : Addr → Prop} {cc : ByteArray} {maxL : Nat} {ret : Option FieldType}
    (hy : plainFor y = true) (hw : ws = Jvm.Cond.code y cc maxL ret :: ws')
    (body : ∀ p e s m args below meth c s₁, BodyLoose p l y (headSpec ws rm) cc maxL ret e s m args below meth c s₁ → c.maxLocals = maxL → Pc args s →
      W p l e (headSpec ws rm).room s m args below meth c s.heap [] 0 0 (MQ below Qc args s mc ms free) (entryFrame m args maxL)) : Met l y ws rm Pc Qc mc ms free := by
  refine MetFree.of_bodySF (code := cc) (maxLocals := maxL) (ret := ret) hy ?_ ?_
  · intro args s m h hn
    obtain ⟨meth, c, h1, h2, h3, h4, h5, h6, -, -⟩ := Cond.code_spec hn (atoms_spec (ws := ws) h _ (by rw [hw]; exact List.mem_cons_self))
    exact ⟨meth, c, h1, h2, h3, h4, h5, h6⟩
  · intro p e s m args below meth c s₁ B hml hP _
    have hh0 : s₁.heap = s.heap := by rw [B.state]; rfl
    obtain ⟨t, a1, o, b1, b2, b3⟩ := body p e s m args below meth c s₁ B hml hP s₁ hh0 (Stand.of_body B)
    exact ⟨t, o, a1, b1, b2, ⟨b3.1, b3.2⟩⟩
def mv_okC (i p : Nat) : Bool := plainFor (mt_y (mv_r i)) && (decide (mt_own (mv_r i) = (mt_y (mv_r i)).cls) && mv_hw [p] 0 (.code (mt_y (mv_r i)) (mt_cc (mv_r i)) (mt_nL (mv_r i)) (mt_ret (mv_r i))))
/-- a call: it's enough to show what mv_vc says from the method's entry on -/
theorem mv_wp (cuts : List (Nat × List Nat)) (n : Nat) {p : Nat} {as : List mv_V} (hok : mv_okM mi = true) (hc : mv_okC mi p = true) (hst : Nat.ble (mv_stw as) (mt_nL (mv_r mi)) = true) (h : mv_vc G mi sh.1 sh.2.1 cuts post n true (mv_at 0 (mt_code (mv_r mi))) (mv_en 0 as) [] sh M) : mv_Wp G mi as sh M post := by
  have hrun := mv_run cuts n hok h
  unfold mv_okC at hc
  simp only [Bool.and_eq_true, decide_eq_true_eq] at hc
  obtain ⟨h1, h2, h3⟩ := hc
  refine ⟨mv_hw_mem h3, mv_ofW (cc := mt_cc (mv_r mi)) (maxL := mt_nL (mv_r mi)) (ret := mt_ret (mv_r mi)) h1 rfl ?_⟩
  intro p e s m args below meth cx s₁ B hml hv
  obtain ⟨rfl, hsz, hW, hK, hX, hbo, ho⟩ := hv
  have hts : ∀ w ∈ mv_tbl, w.before (as.map (mv_ct G)).toArray s = true := fun w hw => atoms_spec (ws := mv_wl (mv_r mi)) B.pre w (List.mem_cons_of_mem _ hw)
  have hown : s.vm.findClass (mt_own (mv_r mi)) = some m.cls := by rw [h2]; exact findClass_of_methodNamed B.named
  have C : mv_Cx G mi sh.1 p s m (as.map (mv_ct G)).toArray meth cx := ⟨B.exec, B.bytes, hml, hown, hts, B.returns, B.notSynchronized, (name_of_methodNamed B.named B.method).1, hsz, hX, hbo, hK⟩
  have hl := lv_entry (as.map (mv_ct G)) (n := mt_nL (mv_r mi)) (by rw [mv_sl_e]; exact Nat.le_of_ble_eq_true hst)
  rw [mv_en_m] at hl
  rw [lg_entry_eq]
  have K := hrun p e s m (as.map (mv_ct G)).toArray below meth cx s.heap [] _ C hl (mv_en_o ho 0) (fun _ h => by cases h) hW va_S.rf ⟨Nat.le_refl _, Nat.le_add_right _ _⟩ ⟨Nat.le_refl _, Nat.le_add_right _ _⟩
  rw [Nat.sub_self, Nat.sub_self] at K
  exact K
end MB
end
