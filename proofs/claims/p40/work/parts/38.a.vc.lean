/-! WHAT IS TO BE SHOWN of the land (by program: wip/p40/landvc.py) -/
set_option maxRecDepth 100000 in
theorem vw_L_land {G : mv_G} {l : Nat} {post : Option mv_V → mv_SH → mv_Mem → Prop} {M : mv_Mem} (h : mv_Wp G 227 [.inr (.inr 0), .inl 0] (mh l) M (mv_qi (mh l) fun x1 M1 =>
  mv_Wp G 228 [.inl x1, .inl 3] (mh l) M1 (mv_qi (mh l) fun x2 M2 =>
  mv_R32 (2 + x2) ∧
  mv_Wp G 227 [.inr (.inr 0), .inl 0] (mh l) M2 (mv_qi (mh l) fun x3 M3 =>
  mv_Wp G 228 [.inl (mv_shr x3 2), .inl 3] (mh l) M3 (mv_qi (mh l) fun x4 M4 =>
  mv_R32 (1 + x4) ∧
  mv_Run G 230 87 4749 29 [(0, .inr (.inr 1)), (1, .inr (.inr 0)), (2, .inl (2 + x2)), (3, .inl (1 + x4)), (4, .inl 0)] [] (mh l) M4 post))))) :
    mv_Wp G 230 [.inr (.inr 1), .inr (.inr 0)] (mh l) M post := mv_wp [(29, [0, 1, 2, 3, 4]), (38, [0, 1, 2, 3, 4, 5]), (110, [0, 1, 2, 3, 4]), (204, [0, 1, 2, 3]), (236, [0, 1, 2]), (253, [0, 1, 2, 4, 5]), (352, [0, 1, 2, 4, 5]), (355, [0, 1, 2, 4, 5, 7]), (400, [0, 1, 2, 4, 5]), (439, [0, 1, 2, 4, 5]), (445, [0, 1, 2])] 291 ok_230 oc_230 rfl h
set_option maxRecDepth 100000 in
theorem vr_L_land_29 {G : mv_G} {l : Nat} {post : Option mv_V → mv_SH → mv_Mem → Prop} {M : mv_Mem} {v2 v3 v4 : Int} (h : (if v3 ≤ v4 then
    mv_Wp G 87 [.inr (.inr 1)] (mh l) M (mv_qi (mh l) fun x1 M1 =>
    mv_Run G 230 87 4749 110 [(0, .inr (.inr 1)), (1, .inr (.inr 0)), (2, .inl v2), (3, .inl v3), (4, .inl 0)] [] (mh l) M1 post)
  else
    mv_Run G 230 87 4749 38 [(0, .inr (.inr 1)), (1, .inr (.inr 0)), (2, .inl v2), (3, .inl v3), (4, .inl v4), (5, .inl 0)] [] (mh l) M post)) :
    mv_Run G 230 87 4749 29 [(0, .inr (.inr 1)), (1, .inr (.inr 0)), (2, .inl v2), (3, .inl v3), (4, .inl v4)] [] (mh l) M post := mv_run [(29, [0, 1, 2, 3, 4]), (38, [0, 1, 2, 3, 4, 5]), (110, [0, 1, 2, 3, 4]), (204, [0, 1, 2, 3]), (236, [0, 1, 2]), (253, [0, 1, 2, 4, 5]), (352, [0, 1, 2, 4, 5]), (355, [0, 1, 2, 4, 5, 7]), (400, [0, 1, 2, 4, 5]), (439, [0, 1, 2, 4, 5]), (445, [0, 1, 2])] 291 ok_230 h
set_option maxRecDepth 100000 in
theorem vr_L_land_38 {G : mv_G} {l : Nat} {post : Option mv_V → mv_SH → mv_Mem → Prop} {M : mv_Mem} {v2 v3 v4 v5 : Int} (h : (if v2 ≤ v5 then
    mv_R32 (v3 - 1) ∧
    (if (v3 - 1) ≤ v4 then
      mv_R32 (v4 + 1) ∧
      mv_Run G 230 87 4749 29 [(0, .inr (.inr 1)), (1, .inr (.inr 0)), (2, .inl v2), (3, .inl v3), (4, .inl (v4 + 1))] [] (mh l) M post
    else
      mv_Wp G 86 [.inr (.inr 1), .inl 1, .inr (.inl 47)] (mh l) M (mv_qi (mh l) fun x1 M1 =>
      mv_R32 (v4 + 1) ∧
      mv_Run G 230 87 4749 29 [(0, .inr (.inr 1)), (1, .inr (.inr 0)), (2, .inl v2), (3, .inl v3), (4, .inl (v4 + 1))] [] (mh l) M1 post))
  else
    mv_Wp G 227 [.inr (.inr 0), .inl 1] (mh l) M (mv_qi (mh l) fun x2 M2 =>
    mv_R32 (v2 * v4) ∧
    mv_R32 ((v2 * v4) + v5) ∧
    mv_R32 (2 * ((v2 * v4) + v5)) ∧
    mv_Wp G 228 [.inl (mv_shr x2 (2 * ((v2 * v4) + v5))), .inl 4] (mh l) M2 (mv_qi (mh l) fun x3 M3 =>
    mv_R32 (48 + x3) ∧
    mv_Wp G 86 [.inr (.inr 1), .inl 1, .inr (.inl (48 + x3))] (mh l) M3 (mv_qi (mh l) fun x4 M4 =>
    mv_R32 (v5 + 1) ∧
    mv_Run G 230 87 4749 38 [(0, .inr (.inr 1)), (1, .inr (.inr 0)), (2, .inl v2), (3, .inl v3), (4, .inl v4), (5, .inl (v5 + 1))] [] (mh l) M4 post))))) :
    mv_Run G 230 87 4749 38 [(0, .inr (.inr 1)), (1, .inr (.inr 0)), (2, .inl v2), (3, .inl v3), (4, .inl v4), (5, .inl v5)] [] (mh l) M post := mv_run [(29, [0, 1, 2, 3, 4]), (38, [0, 1, 2, 3, 4, 5]), (110, [0, 1, 2, 3, 4]), (204, [0, 1, 2, 3]), (236, [0, 1, 2]), (253, [0, 1, 2, 4, 5]), (352, [0, 1, 2, 4, 5]), (355, [0, 1, 2, 4, 5, 7]), (400, [0, 1, 2, 4, 5]), (439, [0, 1, 2, 4, 5]), (445, [0, 1, 2])] 291 ok_230 h
set_option maxRecDepth 100000 in
theorem vr_L_land_110 {G : mv_G} {l : Nat} {post : Option mv_V → mv_SH → mv_Mem → Prop} {M : mv_Mem} {v2 v3 v4 : Int} (h : (if 3 ≤ v4 then
    mv_Run G 230 87 4749 204 [(0, .inr (.inr 1)), (1, .inr (.inr 0)), (2, .inl v2), (3, .inl v3)] [] (mh l) M post
  else
    mv_R32 (2 + v4) ∧
    mv_Wp G 227 [.inr (.inr 0), .inl (2 + v4)] (mh l) M (mv_qi (mh l) fun x1 M1 =>
    mv_R32 (v2 * v3) ∧
    mv_Wp G 228 [.inl x1, .inl (v2 * v3)] (mh l) M1 (mv_qi (mh l) fun x2 M2 =>
    mv_Wp G 229 [.inl x2, .inl v2] (mh l) M2 (mv_qi (mh l) fun x3 M3 =>
    mv_R32 (v2 * v3) ∧
    mv_Wp G 228 [.inl x1, .inl (v2 * v3)] (mh l) M3 (mv_qi (mh l) fun x4 M4 =>
    mv_R32 (x4 + 1) ∧
    mv_Wp G 229 [.inl (x4 + 1), .inl v2] (mh l) M4 (mv_qi (mh l) fun x5 M5 =>
    mv_Wp G 228 [.inl (mv_shr x1 6), .inl 3] (mh l) M5 (mv_qi (mh l) fun x6 M6 =>
    mv_R32 (1 + x6) ∧
    mv_Wp G 89 [.inr (.inr 1), .inl x3, .inl x5, .inl (1 + x6)] (mh l) M6 (mv_qi (mh l) fun x7 M7 =>
    mv_R32 (v2 * v3) ∧
    mv_Wp G 228 [.inl (mv_shr x1 9), .inl (v2 * v3)] (mh l) M7 (mv_qi (mh l) fun x8 M8 =>
    mv_Wp G 229 [.inl x8, .inl v2] (mh l) M8 (mv_qi (mh l) fun x9 M9 =>
    mv_Wp G 228 [.inl (mv_shr x1 14), .inl 20] (mh l) M9 (mv_qi (mh l) fun x10 M10 =>
    mv_Wp G 91 [.inr (.inr 1), .inl x9, .inl x10] (mh l) M10 (mv_qi (mh l) fun x11 M11 =>
    mv_R32 (v4 + 1) ∧
    mv_Run G 230 87 4749 110 [(0, .inr (.inr 1)), (1, .inr (.inr 0)), (2, .inl v2), (3, .inl v3), (4, .inl (v4 + 1))] [] (mh l) M11 post))))))))))))) :
    mv_Run G 230 87 4749 110 [(0, .inr (.inr 1)), (1, .inr (.inr 0)), (2, .inl v2), (3, .inl v3), (4, .inl v4)] [] (mh l) M post := mv_run [(29, [0, 1, 2, 3, 4]), (38, [0, 1, 2, 3, 4, 5]), (110, [0, 1, 2, 3, 4]), (204, [0, 1, 2, 3]), (236, [0, 1, 2]), (253, [0, 1, 2, 4, 5]), (352, [0, 1, 2, 4, 5]), (355, [0, 1, 2, 4, 5, 7]), (400, [0, 1, 2, 4, 5]), (439, [0, 1, 2, 4, 5]), (445, [0, 1, 2])] 291 ok_230 h
set_option maxRecDepth 100000 in
theorem vr_L_land_204 {G : mv_G} {l : Nat} {post : Option mv_V → mv_SH → mv_Mem → Prop} {M : mv_Mem} {v2 v3 : Int} (h : mv_Wp G 93 [.inr (.inr 1), .inl 0] (mh l) M (mv_qi (mh l) fun x1 M1 =>
  mv_Wp G 227 [.inr (.inr 0), .inl 5] (mh l) M1 (mv_qi (mh l) fun x2 M2 =>
  mv_Wp G 228 [.inl x2, .inl 2] (mh l) M2 (mv_qi (mh l) fun x3 M3 =>
  (if x3 = 0 then
    mv_R32 (v2 * v3) ∧
    mv_R32 ((v2 * v3) - 1) ∧
    mv_Wp G 229 [.inl ((v2 * v3) - 1), .inl v2] (mh l) M3 (mv_qi (mh l) fun x4 M4 =>
    mv_Wp G 93 [.inr (.inr 1), .inl x4] (mh l) M4 (mv_qi (mh l) fun x5 M5 =>
    mv_Run G 230 87 4749 236 [(0, .inr (.inr 1)), (1, .inr (.inr 0)), (2, .inl v2)] [] (mh l) M5 post))
  else
    mv_Run G 230 87 4749 236 [(0, .inr (.inr 1)), (1, .inr (.inr 0)), (2, .inl v2)] [] (mh l) M3 post))))) :
    mv_Run G 230 87 4749 204 [(0, .inr (.inr 1)), (1, .inr (.inr 0)), (2, .inl v2), (3, .inl v3)] [] (mh l) M post := mv_run [(29, [0, 1, 2, 3, 4]), (38, [0, 1, 2, 3, 4, 5]), (110, [0, 1, 2, 3, 4]), (204, [0, 1, 2, 3]), (236, [0, 1, 2]), (253, [0, 1, 2, 4, 5]), (352, [0, 1, 2, 4, 5]), (355, [0, 1, 2, 4, 5, 7]), (400, [0, 1, 2, 4, 5]), (439, [0, 1, 2, 4, 5]), (445, [0, 1, 2])] 291 ok_230 h
set_option maxRecDepth 100000 in
theorem vr_L_land_236 {G : mv_G} {l : Nat} {post : Option mv_V → mv_SH → mv_Mem → Prop} {M : mv_Mem} {v2 : Int} (h : mv_Wp G 227 [.inr (.inr 0), .inl 6] (mh l) M (mv_qi (mh l) fun x1 M1 =>
  mv_Wp G 228 [.inl x1, .inl 3] (mh l) M1 (mv_qi (mh l) fun x2 M2 =>
  mv_R32 (1 + x2) ∧
  mv_Run G 230 87 4749 253 [(0, .inr (.inr 1)), (1, .inr (.inr 0)), (2, .inl v2), (4, .inl (1 + x2)), (5, .inl 0)] [] (mh l) M2 post))) :
    mv_Run G 230 87 4749 236 [(0, .inr (.inr 1)), (1, .inr (.inr 0)), (2, .inl v2)] [] (mh l) M post := mv_run [(29, [0, 1, 2, 3, 4]), (38, [0, 1, 2, 3, 4, 5]), (110, [0, 1, 2, 3, 4]), (204, [0, 1, 2, 3]), (236, [0, 1, 2]), (253, [0, 1, 2, 4, 5]), (352, [0, 1, 2, 4, 5]), (355, [0, 1, 2, 4, 5, 7]), (400, [0, 1, 2, 4, 5]), (439, [0, 1, 2, 4, 5]), (445, [0, 1, 2])] 291 ok_230 h
set_option maxRecDepth 100000 in
theorem vr_L_land_253 {G : mv_G} {l : Nat} {post : Option mv_V → mv_SH → mv_Mem → Prop} {M : mv_Mem} {v2 v4 v5 : Int} (h : (if v4 ≤ v5 then
    mv_Run G 230 87 4749 445 [(0, .inr (.inr 1)), (1, .inr (.inr 0)), (2, .inl v2)] [] (mh l) M post
  else
    mv_R32 (7 + v5) ∧
    mv_Wp G 227 [.inr (.inr 0), .inl (7 + v5)] (mh l) M (mv_qi (mh l) fun x1 M1 =>
    mv_Wp G 228 [.inl x1, .inl 6] (mh l) M1 (mv_qi (mh l) fun x2 M2 =>
    mv_Wp G 228 [.inl (mv_shr x1 3), .inl 12] (mh l) M2 (mv_qi (mh l) fun x3 M3 =>
    mv_Wp G 228 [.inl (mv_shr x1 7), .inl 4] (mh l) M3 (mv_qi (mh l) fun x4 M4 =>
    mv_Wp G 228 [.inl (mv_shr x1 9), .inl 120] (mh l) M4 (mv_qi (mh l) fun x5 M5 =>
    mv_Wp G 228 [.inl (mv_shr x1 16), .inl 9] (mh l) M5 (mv_qi (mh l) fun x6 M6 =>
    mv_Wp G 94 [.inr (.inr 1), .inl x2, .inl x3, .inl x4, .inl x5, .inl x6] (mh l) M6 (mv_qi (mh l) fun x7 M7 =>
    mv_Wp G 228 [.inl x1, .inl 6] (mh l) M7 (mv_qi (mh l) fun x8 M8 =>
    (if x8 = 3 then
      mv_Wp G 228 [.inl (mv_shr x1 20), .inl 40] (mh l) M8 (mv_qi (mh l) fun x9 M9 =>
      mv_R32 (x9 - 20) ∧
      mv_Wp G 95 [.inr (.inr 1), .inl v5, .inl (x9 - 20)] (mh l) M9 (mv_qi (mh l) fun x10 M10 =>
      mv_Run G 230 87 4749 352 [(0, .inr (.inr 1)), (1, .inr (.inr 0)), (2, .inl v2), (4, .inl v4), (5, .inl v5)] [] (mh l) M10 post))
    else
      mv_Run G 230 87 4749 352 [(0, .inr (.inr 1)), (1, .inr (.inr 0)), (2, .inl v2), (4, .inl v4), (5, .inl v5)] [] (mh l) M8 post))))))))))) :
    mv_Run G 230 87 4749 253 [(0, .inr (.inr 1)), (1, .inr (.inr 0)), (2, .inl v2), (4, .inl v4), (5, .inl v5)] [] (mh l) M post := mv_run [(29, [0, 1, 2, 3, 4]), (38, [0, 1, 2, 3, 4, 5]), (110, [0, 1, 2, 3, 4]), (204, [0, 1, 2, 3]), (236, [0, 1, 2]), (253, [0, 1, 2, 4, 5]), (352, [0, 1, 2, 4, 5]), (355, [0, 1, 2, 4, 5, 7]), (400, [0, 1, 2, 4, 5]), (439, [0, 1, 2, 4, 5]), (445, [0, 1, 2])] 291 ok_230 h
set_option maxRecDepth 100000 in
theorem vr_L_land_352 {G : mv_G} {l : Nat} {post : Option mv_V → mv_SH → mv_Mem → Prop} {M : mv_Mem} {v2 v4 v5 : Int} (h : mv_Run G 230 87 4749 355 [(0, .inr (.inr 1)), (1, .inr (.inr 0)), (2, .inl v2), (4, .inl v4), (5, .inl v5), (7, .inl 0)] [] (mh l) M post) :
    mv_Run G 230 87 4749 352 [(0, .inr (.inr 1)), (1, .inr (.inr 0)), (2, .inl v2), (4, .inl v4), (5, .inl v5)] [] (mh l) M post := mv_run [(29, [0, 1, 2, 3, 4]), (38, [0, 1, 2, 3, 4, 5]), (110, [0, 1, 2, 3, 4]), (204, [0, 1, 2, 3]), (236, [0, 1, 2]), (253, [0, 1, 2, 4, 5]), (352, [0, 1, 2, 4, 5]), (355, [0, 1, 2, 4, 5, 7]), (400, [0, 1, 2, 4, 5]), (439, [0, 1, 2, 4, 5]), (445, [0, 1, 2])] 291 ok_230 h
set_option maxRecDepth 100000 in
theorem vr_L_land_355 {G : mv_G} {l : Nat} {post : Option mv_V → mv_SH → mv_Mem → Prop} {M : mv_Mem} {v2 v4 v5 v7 : Int} (h : mv_Wp G 125 [.inr (.inr 1), .inl 2] (mh l) M (mv_qi (mh l) fun x1 M1 =>
  (if x1 ≤ v7 then
    mv_Run G 230 87 4749 400 [(0, .inr (.inr 1)), (1, .inr (.inr 0)), (2, .inl v2), (4, .inl v4), (5, .inl v5)] [] (mh l) M1 post
  else
    mv_R32 (10 + v5) ∧
    mv_Wp G 227 [.inr (.inr 0), .inl (10 + v5)] (mh l) M1 (mv_qi (mh l) fun x2 M2 =>
    mv_R32 (8 * v7) ∧
    mv_Wp G 228 [.inl (mv_shr x2 (8 * v7)), .inl 40] (mh l) M2 (mv_qi (mh l) fun x3 M3 =>
    mv_Wp G 96 [.inr (.inr 1), .inl v5, .inl v7, .inl x3] (mh l) M3 (mv_qi (mh l) fun x4 M4 =>
    mv_R32 (v7 + 1) ∧
    mv_Run G 230 87 4749 355 [(0, .inr (.inr 1)), (1, .inr (.inr 0)), (2, .inl v2), (4, .inl v4), (5, .inl v5), (7, .inl (v7 + 1))] [] (mh l) M4 post)))))) :
    mv_Run G 230 87 4749 355 [(0, .inr (.inr 1)), (1, .inr (.inr 0)), (2, .inl v2), (4, .inl v4), (5, .inl v5), (7, .inl v7)] [] (mh l) M post := mv_run [(29, [0, 1, 2, 3, 4]), (38, [0, 1, 2, 3, 4, 5]), (110, [0, 1, 2, 3, 4]), (204, [0, 1, 2, 3]), (236, [0, 1, 2]), (253, [0, 1, 2, 4, 5]), (352, [0, 1, 2, 4, 5]), (355, [0, 1, 2, 4, 5, 7]), (400, [0, 1, 2, 4, 5]), (439, [0, 1, 2, 4, 5]), (445, [0, 1, 2])] 291 ok_230 h
set_option maxRecDepth 100000 in
theorem vr_L_land_400 {G : mv_G} {l : Nat} {post : Option mv_V → mv_SH → mv_Mem → Prop} {M : mv_Mem} {v2 v4 v5 : Int} (h : mv_Wp G 227 [.inr (.inr 0), .inl 13] (mh l) M (mv_qi (mh l) fun x1 M1 =>
  mv_Wp G 228 [.inl x1, .inl 3] (mh l) M1 (mv_qi (mh l) fun x2 M2 =>
  (if x2 = 0 then
    mv_Wp G 227 [.inr (.inr 0), .inl 13] (mh l) M2 (mv_qi (mh l) fun x3 M3 =>
    mv_R32 (6 * v5) ∧
    mv_R32 (2 + (6 * v5)) ∧
    mv_Wp G 228 [.inl (mv_shr x3 (2 + (6 * v5))), .inl 40] (mh l) M3 (mv_qi (mh l) fun x4 M4 =>
    mv_Wp G 97 [.inr (.inr 1), .inl v5, .inl x4] (mh l) M4 (mv_qi (mh l) fun x5 M5 =>
    mv_Run G 230 87 4749 439 [(0, .inr (.inr 1)), (1, .inr (.inr 0)), (2, .inl v2), (4, .inl v4), (5, .inl v5)] [] (mh l) M5 post)))
  else
    mv_Run G 230 87 4749 439 [(0, .inr (.inr 1)), (1, .inr (.inr 0)), (2, .inl v2), (4, .inl v4), (5, .inl v5)] [] (mh l) M2 post)))) :
    mv_Run G 230 87 4749 400 [(0, .inr (.inr 1)), (1, .inr (.inr 0)), (2, .inl v2), (4, .inl v4), (5, .inl v5)] [] (mh l) M post := mv_run [(29, [0, 1, 2, 3, 4]), (38, [0, 1, 2, 3, 4, 5]), (110, [0, 1, 2, 3, 4]), (204, [0, 1, 2, 3]), (236, [0, 1, 2]), (253, [0, 1, 2, 4, 5]), (352, [0, 1, 2, 4, 5]), (355, [0, 1, 2, 4, 5, 7]), (400, [0, 1, 2, 4, 5]), (439, [0, 1, 2, 4, 5]), (445, [0, 1, 2])] 291 ok_230 h
set_option maxRecDepth 100000 in
theorem vr_L_land_439 {G : mv_G} {l : Nat} {post : Option mv_V → mv_SH → mv_Mem → Prop} {M : mv_Mem} {v2 v4 v5 : Int} (h : mv_R32 (v5 + 1) ∧
  mv_Run G 230 87 4749 253 [(0, .inr (.inr 1)), (1, .inr (.inr 0)), (2, .inl v2), (4, .inl v4), (5, .inl (v5 + 1))] [] (mh l) M post) :
    mv_Run G 230 87 4749 439 [(0, .inr (.inr 1)), (1, .inr (.inr 0)), (2, .inl v2), (4, .inl v4), (5, .inl v5)] [] (mh l) M post := mv_run [(29, [0, 1, 2, 3, 4]), (38, [0, 1, 2, 3, 4, 5]), (110, [0, 1, 2, 3, 4]), (204, [0, 1, 2, 3]), (236, [0, 1, 2]), (253, [0, 1, 2, 4, 5]), (352, [0, 1, 2, 4, 5]), (355, [0, 1, 2, 4, 5, 7]), (400, [0, 1, 2, 4, 5]), (439, [0, 1, 2, 4, 5]), (445, [0, 1, 2])] 291 ok_230 h
set_option maxRecDepth 100000 in
theorem vr_L_land_445 {G : mv_G} {l : Nat} {post : Option mv_V → mv_SH → mv_Mem → Prop} {M : mv_Mem} {v2 : Int} (h : mv_Wp G 227 [.inr (.inr 0), .inl 14] (mh l) M (mv_qi (mh l) fun x1 M1 =>
  mv_Wp G 228 [.inl x1, .inl 3] (mh l) M1 (mv_qi (mh l) fun x2 M2 =>
  (if x2 = 0 then
    mv_Wp G 227 [.inr (.inr 0), .inl 14] (mh l) M2 (mv_qi (mh l) fun x4 M4 =>
    mv_Wp G 228 [.inl (mv_shr x4 2), .inl 60] (mh l) M4 (mv_qi (mh l) fun x5 M5 =>
    mv_Wp G 97 [.inr (.inr 1), .inl (-1), .inl x5] (mh l) M5 (mv_qi (mh l) fun x6 M6 =>
    post (some (.inl v2)) (mh l) M6)))
  else
    mv_Wp G 97 [.inr (.inr 1), .inl (-1), .inl 0] (mh l) M2 (mv_qi (mh l) fun x3 M3 =>
    post (some (.inl v2)) (mh l) M3))))) :
    mv_Run G 230 87 4749 445 [(0, .inr (.inr 1)), (1, .inr (.inr 0)), (2, .inl v2)] [] (mh l) M post := mv_run [(29, [0, 1, 2, 3, 4]), (38, [0, 1, 2, 3, 4, 5]), (110, [0, 1, 2, 3, 4]), (204, [0, 1, 2, 3]), (236, [0, 1, 2]), (253, [0, 1, 2, 4, 5]), (352, [0, 1, 2, 4, 5]), (355, [0, 1, 2, 4, 5, 7]), (400, [0, 1, 2, 4, 5]), (439, [0, 1, 2, 4, 5]), (445, [0, 1, 2])] 291 ok_230 h
