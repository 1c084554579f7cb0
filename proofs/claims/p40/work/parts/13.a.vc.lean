/-! WHAT IS TO BE SHOWN of the methods (by program: wip/p40/allvc.py) -/
set_option maxRecDepth 100000 in
theorem vw_X0_layOut {G : mv_G} {l : Nat} {post : Option mv_V → mv_SH → mv_Mem → Prop} {M : mv_Mem} (h : mv_Wp G 2 [.inr (.inr 8)] (mh l) M (mv_qv (mh l) fun M1 =>
  mv_Run G 1 87 4749 11 [(0, .inr (.inr 8)), (1, .inr (.inr 2)), (2, .inl 0), (3, .inl 0), (4, .inl 0)] [] (mh l) M1 post)) :
    mv_Wp G 1 [.inr (.inr 8), .inr (.inr 2)] (mh l) M post := mv_wp [(11, [0, 1, 2, 3, 4])] 85 ok_1 oc_1 rfl h
set_option maxRecDepth 100000 in
theorem vr_X0_layOut_11 {G : mv_G} {l : Nat} {post : Option mv_V → mv_SH → mv_Mem → Prop} {M : mv_Mem} {v2 v3 v4 : Int} (h : (if (M 2 1) ≤ v4 then
    mv_R32 (v3 + 1) ∧
    post none (mh l) (mv_up (mv_up M 8 0 v2) 8 1 (v3 + 1))
  else
    (0 ≤ (v4 : Int) ∧ (v4 : Int) < ((60 : Nat) : Int)) ∧
    (if (M 3 (Int.toNat v4)) = 47 then
      mv_R32 (v3 + 1) ∧
      mv_R32 (v4 + 1) ∧
      mv_Run G 1 87 4749 11 [(0, .inr (.inr 8)), (1, .inr (.inr 2)), (2, .inl 0), (3, .inl (v3 + 1)), (4, .inl (v4 + 1))] [] (mh l) M post
    else
      (if 48 ≤ (M 8 2) then
        mv_R32 (v4 + 1) ∧
        mv_Run G 1 87 4749 11 [(0, .inr (.inr 8)), (1, .inr (.inr 2)), (2, .inl v2), (3, .inl v3), (4, .inl (v4 + 1))] [] (mh l) M post
      else
        (0 ≤ (v4 : Int) ∧ (v4 : Int) < ((60 : Nat) : Int)) ∧
        mv_R32 ((M 3 (Int.toNat v4)) - 48) ∧
        (0 ≤ (M 8 2 : Int) ∧ (M 8 2 : Int) < ((48 : Nat) : Int)) ∧
        mv_R32 (10 * v2) ∧
        mv_R32 ((10 * v2) + v3) ∧
        (0 ≤ ((mv_up M 10 (Int.toNat (M 8 2)) ((M 3 (Int.toNat v4)) - 48)) 8 2 : Int) ∧ ((mv_up M 10 (Int.toNat (M 8 2)) ((M 3 (Int.toNat v4)) - 48)) 8 2 : Int) < ((48 : Nat) : Int)) ∧
        mv_R32 (((mv_up (mv_up M 10 (Int.toNat (M 8 2)) ((M 3 (Int.toNat v4)) - 48)) 9 (Int.toNat ((mv_up M 10 (Int.toNat (M 8 2)) ((M 3 (Int.toNat v4)) - 48)) 8 2)) ((10 * v2) + v3)) 8 2) + 1) ∧
        mv_R32 (v2 + 1) ∧
        mv_R32 (v4 + 1) ∧
        mv_Run G 1 87 4749 11 [(0, .inr (.inr 8)), (1, .inr (.inr 2)), (2, .inl (v2 + 1)), (3, .inl v3), (4, .inl (v4 + 1))] [] (mh l) (mv_up (mv_up (mv_up M 10 (Int.toNat (M 8 2)) ((M 3 (Int.toNat v4)) - 48)) 9 (Int.toNat ((mv_up M 10 (Int.toNat (M 8 2)) ((M 3 (Int.toNat v4)) - 48)) 8 2)) ((10 * v2) + v3)) 8 2 (((mv_up (mv_up M 10 (Int.toNat (M 8 2)) ((M 3 (Int.toNat v4)) - 48)) 9 (Int.toNat ((mv_up M 10 (Int.toNat (M 8 2)) ((M 3 (Int.toNat v4)) - 48)) 8 2)) ((10 * v2) + v3)) 8 2) + 1)) post)))) :
    mv_Run G 1 87 4749 11 [(0, .inr (.inr 8)), (1, .inr (.inr 2)), (2, .inl v2), (3, .inl v3), (4, .inl v4)] [] (mh l) M post := mv_run [(11, [0, 1, 2, 3, 4])] 85 ok_1 h
set_option maxRecDepth 100000 in
theorem vw_X0_clearAway {G : mv_G} {l : Nat} {post : Option mv_V → mv_SH → mv_Mem → Prop} {M : mv_Mem} (h : mv_Run G 2 87 4749 17 [(0, .inr (.inr 8)), (1, .inl 0)] [] (mh l) (mv_up (mv_up (mv_up M 8 2 0) 8 3 0) 8 4 0) post) :
    mv_Wp G 2 [.inr (.inr 8)] (mh l) M post := mv_wp [(17, [0, 1]), (52, [0, 1])] 64 ok_2 oc_2 rfl h
set_option maxRecDepth 100000 in
theorem vr_X0_clearAway_17 {G : mv_G} {l : Nat} {post : Option mv_V → mv_SH → mv_Mem → Prop} {M : mv_Mem} {v1 : Int} (h : (if 48 ≤ v1 then
    mv_Run G 2 87 4749 52 [(0, .inr (.inr 8)), (1, .inl 0)] [] (mh l) M post
  else
    (0 ≤ (v1 : Int) ∧ (v1 : Int) < ((48 : Nat) : Int)) ∧
    (0 ≤ (v1 : Int) ∧ (v1 : Int) < ((48 : Nat) : Int)) ∧
    (0 ≤ (v1 : Int) ∧ (v1 : Int) < ((48 : Nat) : Int)) ∧
    mv_R32 (v1 + 1) ∧
    mv_Run G 2 87 4749 17 [(0, .inr (.inr 8)), (1, .inl (v1 + 1))] [] (mh l) (mv_up (mv_up (mv_up M 11 (Int.toNat v1) 0) 12 (Int.toNat v1) (-1)) 13 (Int.toNat v1) 0) post)) :
    mv_Run G 2 87 4749 17 [(0, .inr (.inr 8)), (1, .inl v1)] [] (mh l) M post := mv_run [(17, [0, 1]), (52, [0, 1])] 64 ok_2 h
set_option maxRecDepth 100000 in
theorem vr_X0_clearAway_52 {G : mv_G} {l : Nat} {post : Option mv_V → mv_SH → mv_Mem → Prop} {M : mv_Mem} {v1 : Int} (h : (if 192 ≤ v1 then
    post none (mh l) M
  else
    (0 ≤ (v1 : Int) ∧ (v1 : Int) < ((192 : Nat) : Int)) ∧
    mv_R32 (v1 + 1) ∧
    mv_Run G 2 87 4749 52 [(0, .inr (.inr 8)), (1, .inl (v1 + 1))] [] (mh l) (mv_up M 14 (Int.toNat v1) 0) post)) :
    mv_Run G 2 87 4749 52 [(0, .inr (.inr 8)), (1, .inl v1)] [] (mh l) M post := mv_run [(17, [0, 1]), (52, [0, 1])] 64 ok_2 h
set_option maxRecDepth 100000 in
theorem vw_X0_takeFrom_i {G : mv_G} {l : Nat} {post : Option mv_V → mv_SH → mv_Mem → Prop} {M : mv_Mem} (h : (0 ≤ (0 : Int) ∧ 0 ≤ (0 : Int) ∧ 0 ≤ (48 : Int) ∧ 0 + 48 ≤ ((48 : Nat) : Int) ∧ 0 + 48 ≤ ((48 : Nat) : Int)) ∧
  (0 ≤ (0 : Int) ∧ 0 ≤ (0 : Int) ∧ 0 ≤ (48 : Int) ∧ 0 + 48 ≤ ((48 : Nat) : Int) ∧ 0 + 48 ≤ ((48 : Nat) : Int)) ∧
  (0 ≤ (0 : Int) ∧ 0 ≤ (0 : Int) ∧ 0 ≤ (48 : Int) ∧ 0 + 48 ≤ ((48 : Nat) : Int) ∧ 0 + 48 ≤ ((48 : Nat) : Int)) ∧
  (0 ≤ (0 : Int) ∧ 0 ≤ (0 : Int) ∧ 0 ≤ (48 : Int) ∧ 0 + 48 ≤ ((48 : Nat) : Int) ∧ 0 + 48 ≤ ((48 : Nat) : Int)) ∧
  (0 ≤ (0 : Int) ∧ 0 ≤ (0 : Int) ∧ 0 ≤ (48 : Int) ∧ 0 + 48 ≤ ((48 : Nat) : Int) ∧ 0 + 48 ≤ ((48 : Nat) : Int)) ∧
  (0 ≤ (0 : Int) ∧ 0 ≤ (0 : Int) ∧ 0 ≤ (192 : Int) ∧ 0 + 192 ≤ ((192 : Nat) : Int) ∧ 0 + 192 ≤ ((192 : Nat) : Int)) ∧
  (0 ≤ (0 : Int) ∧ 0 ≤ (0 : Int) ∧ 0 ≤ (3 : Int) ∧ 0 + 3 ≤ ((3 : Nat) : Int) ∧ 0 + 3 ≤ ((3 : Nat) : Int)) ∧
  (0 ≤ (0 : Int) ∧ 0 ≤ (0 : Int) ∧ 0 ≤ (4 : Int) ∧ 0 + 4 ≤ ((4 : Nat) : Int) ∧ 0 + 4 ≤ ((4 : Nat) : Int)) ∧
  post none (mh l) (mv_cp (mv_cp (mv_cp (mv_cp (mv_cp (mv_cp (mv_cp (mv_cp (mv_up (mv_up (mv_up (mv_up (mv_up M 45 0 (M 8 0)) 45 1 ((mv_up M 45 0 (M 8 0)) 8 1)) 45 2 ((mv_up (mv_up M 45 0 (M 8 0)) 45 1 ((mv_up M 45 0 (M 8 0)) 8 1)) 8 2)) 45 3 ((mv_up (mv_up (mv_up M 45 0 (M 8 0)) 45 1 ((mv_up M 45 0 (M 8 0)) 8 1)) 45 2 ((mv_up (mv_up M 45 0 (M 8 0)) 45 1 ((mv_up M 45 0 (M 8 0)) 8 1)) 8 2)) 8 3)) 45 4 ((mv_up (mv_up (mv_up (mv_up M 45 0 (M 8 0)) 45 1 ((mv_up M 45 0 (M 8 0)) 8 1)) 45 2 ((mv_up (mv_up M 45 0 (M 8 0)) 45 1 ((mv_up M 45 0 (M 8 0)) 8 1)) 8 2)) 45 3 ((mv_up (mv_up (mv_up M 45 0 (M 8 0)) 45 1 ((mv_up M 45 0 (M 8 0)) 8 1)) 45 2 ((mv_up (mv_up M 45 0 (M 8 0)) 45 1 ((mv_up M 45 0 (M 8 0)) 8 1)) 8 2)) 8 3)) 8 4)) 9 (Int.toNat 0) 46 (Int.toNat 0) (Int.toNat 48)) 10 (Int.toNat 0) 47 (Int.toNat 0) (Int.toNat 48)) 11 (Int.toNat 0) 48 (Int.toNat 0) (Int.toNat 48)) 12 (Int.toNat 0) 49 (Int.toNat 0) (Int.toNat 48)) 13 (Int.toNat 0) 50 (Int.toNat 0) (Int.toNat 48)) 14 (Int.toNat 0) 51 (Int.toNat 0) (Int.toNat 192)) 15 (Int.toNat 0) 52 (Int.toNat 0) (Int.toNat 3)) 16 (Int.toNat 0) 53 (Int.toNat 0) (Int.toNat 4))) :
    mv_Wp G 3 [.inr (.inr 45), .inr (.inr 8)] (mh l) M post := mv_wp [] 105 ok_3 oc_3 rfl h
set_option maxRecDepth 100000 in
theorem vw_X0_takeFrom_o {G : mv_G} {l : Nat} {post : Option mv_V → mv_SH → mv_Mem → Prop} {M : mv_Mem} (h : (0 ≤ (0 : Int) ∧ 0 ≤ (0 : Int) ∧ 0 ≤ (48 : Int) ∧ 0 + 48 ≤ ((48 : Nat) : Int) ∧ 0 + 48 ≤ ((48 : Nat) : Int)) ∧
  (0 ≤ (0 : Int) ∧ 0 ≤ (0 : Int) ∧ 0 ≤ (48 : Int) ∧ 0 + 48 ≤ ((48 : Nat) : Int) ∧ 0 + 48 ≤ ((48 : Nat) : Int)) ∧
  (0 ≤ (0 : Int) ∧ 0 ≤ (0 : Int) ∧ 0 ≤ (48 : Int) ∧ 0 + 48 ≤ ((48 : Nat) : Int) ∧ 0 + 48 ≤ ((48 : Nat) : Int)) ∧
  (0 ≤ (0 : Int) ∧ 0 ≤ (0 : Int) ∧ 0 ≤ (48 : Int) ∧ 0 + 48 ≤ ((48 : Nat) : Int) ∧ 0 + 48 ≤ ((48 : Nat) : Int)) ∧
  (0 ≤ (0 : Int) ∧ 0 ≤ (0 : Int) ∧ 0 ≤ (48 : Int) ∧ 0 + 48 ≤ ((48 : Nat) : Int) ∧ 0 + 48 ≤ ((48 : Nat) : Int)) ∧
  (0 ≤ (0 : Int) ∧ 0 ≤ (0 : Int) ∧ 0 ≤ (192 : Int) ∧ 0 + 192 ≤ ((192 : Nat) : Int) ∧ 0 + 192 ≤ ((192 : Nat) : Int)) ∧
  (0 ≤ (0 : Int) ∧ 0 ≤ (0 : Int) ∧ 0 ≤ (3 : Int) ∧ 0 + 3 ≤ ((3 : Nat) : Int) ∧ 0 + 3 ≤ ((3 : Nat) : Int)) ∧
  (0 ≤ (0 : Int) ∧ 0 ≤ (0 : Int) ∧ 0 ≤ (4 : Int) ∧ 0 + 4 ≤ ((4 : Nat) : Int) ∧ 0 + 4 ≤ ((4 : Nat) : Int)) ∧
  post none (mh l) (mv_cp (mv_cp (mv_cp (mv_cp (mv_cp (mv_cp (mv_cp (mv_cp (mv_up (mv_up (mv_up (mv_up (mv_up M 8 0 (M 45 0)) 8 1 ((mv_up M 8 0 (M 45 0)) 45 1)) 8 2 ((mv_up (mv_up M 8 0 (M 45 0)) 8 1 ((mv_up M 8 0 (M 45 0)) 45 1)) 45 2)) 8 3 ((mv_up (mv_up (mv_up M 8 0 (M 45 0)) 8 1 ((mv_up M 8 0 (M 45 0)) 45 1)) 8 2 ((mv_up (mv_up M 8 0 (M 45 0)) 8 1 ((mv_up M 8 0 (M 45 0)) 45 1)) 45 2)) 45 3)) 8 4 ((mv_up (mv_up (mv_up (mv_up M 8 0 (M 45 0)) 8 1 ((mv_up M 8 0 (M 45 0)) 45 1)) 8 2 ((mv_up (mv_up M 8 0 (M 45 0)) 8 1 ((mv_up M 8 0 (M 45 0)) 45 1)) 45 2)) 8 3 ((mv_up (mv_up (mv_up M 8 0 (M 45 0)) 8 1 ((mv_up M 8 0 (M 45 0)) 45 1)) 8 2 ((mv_up (mv_up M 8 0 (M 45 0)) 8 1 ((mv_up M 8 0 (M 45 0)) 45 1)) 45 2)) 45 3)) 45 4)) 46 (Int.toNat 0) 9 (Int.toNat 0) (Int.toNat 48)) 47 (Int.toNat 0) 10 (Int.toNat 0) (Int.toNat 48)) 48 (Int.toNat 0) 11 (Int.toNat 0) (Int.toNat 48)) 49 (Int.toNat 0) 12 (Int.toNat 0) (Int.toNat 48)) 50 (Int.toNat 0) 13 (Int.toNat 0) (Int.toNat 48)) 51 (Int.toNat 0) 14 (Int.toNat 0) (Int.toNat 192)) 52 (Int.toNat 0) 15 (Int.toNat 0) (Int.toNat 3)) 53 (Int.toNat 0) 16 (Int.toNat 0) (Int.toNat 4))) :
    mv_Wp G 3 [.inr (.inr 8), .inr (.inr 45)] (mh l) M post := mv_wp [] 105 ok_3 oc_3 rfl h
set_option maxRecDepth 100000 in
theorem vw_X0_placeOf {G : mv_G} {l : Nat} {post : Option mv_V → mv_SH → mv_Mem → Prop} {M : mv_Mem} {a : Int} (h : (if a < 0 then
    post (some (.inl (-1))) (mh l) M
  else
    (¬ (10 : Int) = 0 ∧ mv_R32 (Int.tdiv a 10)) ∧
    (if (M 8 0) ≤ (Int.tdiv a 10) then
      post (some (.inl (-1))) (mh l) M
    else
      ¬ (10 : Int) = 0 ∧
      (if (Int.tmod a 10) < (M 8 1) then
        ¬ (10 : Int) = 0 ∧
        mv_R32 ((Int.tmod a 10) * (M 8 0)) ∧
        (¬ (10 : Int) = 0 ∧ mv_R32 (Int.tdiv a 10)) ∧
        mv_R32 (((Int.tmod a 10) * (M 8 0)) + (Int.tdiv a 10)) ∧
        post (some (.inl (((Int.tmod a 10) * (M 8 0)) + (Int.tdiv a 10)))) (mh l) M
      else
        post (some (.inl (-1))) (mh l) M)))) :
    mv_Wp G 4 [.inr (.inr 8), .inl a] (mh l) M post := mv_wp [] 47 ok_4 oc_4 rfl h
set_option maxRecDepth 100000 in
theorem vw_X0_beside {G : mv_G} {l : Nat} {post : Option mv_V → mv_SH → mv_Mem → Prop} {M : mv_Mem} {a b : Int} (h : (0 ≤ (a : Int) ∧ (a : Int) < ((48 : Nat) : Int)) ∧
  (¬ (10 : Int) = 0 ∧ mv_R32 (Int.tdiv (M 9 (Int.toNat a)) 10)) ∧
  (0 ≤ (a : Int) ∧ (a : Int) < ((48 : Nat) : Int)) ∧
  ¬ (10 : Int) = 0 ∧
  (if b = 0 then
    mv_R32 ((Int.tdiv (M 9 (Int.toNat a)) 10) + 1) ∧
    (if (M 8 0) ≤ ((Int.tdiv (M 9 (Int.toNat a)) 10) + 1) then
      post (some (.inl (-1))) (mh l) M
    else
      mv_R32 (a + 1) ∧
      post (some (.inl (a + 1))) (mh l) M)
  else
    (if b = (0 + 1) then
    (if (Int.tdiv (M 9 (Int.toNat a)) 10) ≤ 0 then
      post (some (.inl (-1))) (mh l) M
    else
      mv_R32 (a - 1) ∧
      post (some (.inl (a - 1))) (mh l) M)
  else
    (if b = (0 + 1 + 1) then
    mv_R32 ((Int.tmod (M 9 (Int.toNat a)) 10) + 1) ∧
    (if (M 8 1) ≤ ((Int.tmod (M 9 (Int.toNat a)) 10) + 1) then
      post (some (.inl (-1))) (mh l) M
    else
      mv_R32 (a + (M 8 0)) ∧
      post (some (.inl (a + (M 8 0)))) (mh l) M)
  else
    (if (Int.tmod (M 9 (Int.toNat a)) 10) ≤ 0 then
    post (some (.inl (-1))) (mh l) M
  else
    mv_R32 (a - (M 8 0)) ∧
    post (some (.inl (a - (M 8 0)))) (mh l) M))))) :
    mv_Wp G 5 [.inr (.inr 8), .inl a, .inl b] (mh l) M post := mv_wp [] 78 ok_5 oc_5 rfl h
set_option maxRecDepth 100000 in
theorem vw_X0_sideTowards {G : mv_G} {l : Nat} {post : Option mv_V → mv_SH → mv_Mem → Prop} {M : mv_Mem} {a b : Int} (h : (if a = (-1) then
    post (some (.inl (-1))) (mh l) M
  else
    (if b = (-1) then
      post (some (.inl (-1))) (mh l) M
    else
      mv_Run G 6 87 4749 14 [(0, .inr (.inr 8)), (1, .inl a), (2, .inl b), (3, .inl 0)] [] (mh l) M post))) :
    mv_Wp G 6 [.inr (.inr 8), .inl a, .inl b] (mh l) M post := mv_wp [(14, [0, 1, 2, 3])] 45 ok_6 oc_6 rfl h
set_option maxRecDepth 100000 in
theorem vr_X0_sideTowards_14 {G : mv_G} {l : Nat} {post : Option mv_V → mv_SH → mv_Mem → Prop} {M : mv_Mem} {a b v3 : Int} (h : (if 4 ≤ v3 then
    post (some (.inl (-1))) (mh l) M
  else
    mv_Wp G 5 [.inr (.inr 8), .inl a, .inl v3] (mh l) M (mv_qi (mh l) fun x1 M1 =>
    (if x1 = b then
      post (some (.inl v3)) (mh l) M1
    else
      mv_R32 (v3 + 1) ∧
      mv_Run G 6 87 4749 14 [(0, .inr (.inr 8)), (1, .inl a), (2, .inl b), (3, .inl (v3 + 1))] [] (mh l) M1 post)))) :
    mv_Run G 6 87 4749 14 [(0, .inr (.inr 8)), (1, .inl a), (2, .inl b), (3, .inl v3)] [] (mh l) M post := mv_run [(14, [0, 1, 2, 3])] 45 ok_6 h
set_option maxRecDepth 100000 in
theorem vw_X0_roadAt {G : mv_G} {l : Nat} {post : Option mv_V → mv_SH → mv_Mem → Prop} {M : mv_Mem} {a b : Int} (h : mv_R32 (a * 4) ∧
  mv_R32 ((a * 4) + b) ∧
  (0 ≤ ((a * 4) + b : Int) ∧ ((a * 4) + b : Int) < ((192 : Nat) : Int)) ∧
  (if (M 14 (Int.toNat ((a * 4) + b))) = 4 then
    post (some (.inl 3)) (mh l) M
  else
    post (some (.inl (M 14 (Int.toNat ((a * 4) + b))))) (mh l) M)) :
    mv_Wp G 7 [.inr (.inr 8), .inl a, .inl b] (mh l) M post := mv_wp [] 36 ok_7 oc_7 rfl h
set_option maxRecDepth 100000 in
theorem vw_X0_layRoad {G : mv_G} {l : Nat} {post : Option mv_V → mv_SH → mv_Mem → Prop} {M : mv_Mem} {a b c : Int} (h : mv_Wp G 5 [.inr (.inr 8), .inl a, .inl b] (mh l) M (mv_qi (mh l) fun x1 M1 =>
  (if x1 = (-1) then
    post none (mh l) M1
  else
    mv_R32 (a * 4) ∧
    mv_R32 ((a * 4) + b) ∧
    (0 ≤ ((a * 4) + b : Int) ∧ ((a * 4) + b : Int) < ((192 : Nat) : Int)) ∧
    mv_R32 (x1 * 4) ∧
    mv_R32 ((x1 * 4) + (mv_xor b 1)) ∧
    (if c = 3 then
      (0 ≤ ((x1 * 4) + (mv_xor b 1) : Int) ∧ ((x1 * 4) + (mv_xor b 1) : Int) < ((192 : Nat) : Int)) ∧
      post none (mh l) (mv_up (mv_up M1 14 (Int.toNat ((a * 4) + b)) c) 14 (Int.toNat ((x1 * 4) + (mv_xor b 1))) 4)
    else
      (0 ≤ ((x1 * 4) + (mv_xor b 1) : Int) ∧ ((x1 * 4) + (mv_xor b 1) : Int) < ((192 : Nat) : Int)) ∧
      post none (mh l) (mv_up (mv_up M1 14 (Int.toNat ((a * 4) + b)) c) 14 (Int.toNat ((x1 * 4) + (mv_xor b 1))) c))))) :
    mv_Wp G 8 [.inr (.inr 8), .inl a, .inl b, .inl c] (mh l) M post := mv_wp [] 54 ok_8 oc_8 rfl h
set_option maxRecDepth 100000 in
theorem vw_X0_marketOn {G : mv_G} {l : Nat} {post : Option mv_V → mv_SH → mv_Mem → Prop} {M : mv_Mem} {a : Int} (h : mv_Run G 9 87 4749 2 [(0, .inr (.inr 8)), (1, .inl a), (2, .inl 0)] [] (mh l) M post) :
    mv_Wp G 9 [.inr (.inr 8), .inl a] (mh l) M post := mv_wp [(2, [0, 1, 2])] 38 ok_9 oc_9 rfl h
set_option maxRecDepth 100000 in
theorem vr_X0_marketOn_2 {G : mv_G} {l : Nat} {post : Option mv_V → mv_SH → mv_Mem → Prop} {M : mv_Mem} {a v2 : Int} (h : (if (M 8 4) ≤ v2 then
    post (some (.inl (-9))) (mh l) M
  else
    (0 ≤ (v2 : Int) ∧ (v2 : Int) < ((3 : Nat) : Int)) ∧
    (if (M 15 (Int.toNat v2)) = a then
      post (some (.inl v2)) (mh l) M
    else
      mv_R32 (v2 + 1) ∧
      mv_Run G 9 87 4749 2 [(0, .inr (.inr 8)), (1, .inl a), (2, .inl (v2 + 1))] [] (mh l) M post))) :
    mv_Run G 9 87 4749 2 [(0, .inr (.inr 8)), (1, .inl a), (2, .inl v2)] [] (mh l) M post := mv_run [(2, [0, 1, 2])] 38 ok_9 h
set_option maxRecDepth 100000 in
theorem vw_X0_idleAcres {G : mv_G} {l : Nat} {post : Option mv_V → mv_SH → mv_Mem → Prop} {M : mv_Mem} (h : mv_Run G 10 87 4749 4 [(0, .inr (.inr 8)), (1, .inl 0), (2, .inl 0)] [] (mh l) M post) :
    mv_Wp G 10 [.inr (.inr 8)] (mh l) M post := mv_wp [(4, [0, 1, 2])] 39 ok_10 oc_10 rfl h
set_option maxRecDepth 100000 in
theorem vr_X0_idleAcres_4 {G : mv_G} {l : Nat} {post : Option mv_V → mv_SH → mv_Mem → Prop} {M : mv_Mem} {v1 v2 : Int} (h : (if (M 8 2) ≤ v2 then
    post (some (.inl v1)) (mh l) M
  else
    (0 ≤ (v2 : Int) ∧ (v2 : Int) < ((48 : Nat) : Int)) ∧
    mv_R32 (v1 + (M 13 (Int.toNat v2))) ∧
    mv_R32 (v2 + 1) ∧
    mv_Run G 10 87 4749 4 [(0, .inr (.inr 8)), (1, .inl (v1 + (M 13 (Int.toNat v2)))), (2, .inl (v2 + 1))] [] (mh l) M post)) :
    mv_Run G 10 87 4749 4 [(0, .inr (.inr 8)), (1, .inl v1), (2, .inl v2)] [] (mh l) M post := mv_run [(4, [0, 1, 2])] 39 ok_10 h
set_option maxRecDepth 100000 in
theorem vw_X1_forgetWays {G : mv_G} {l : Nat} {post : Option mv_V → mv_SH → mv_Mem → Prop} {M : mv_Mem} (h : ((0 : Int) = 0 ∨ (0 : Int) = 1) ∧
  ((0 : Int) = 0 ∨ (0 : Int) = 1) ∧
  post none (mh l) (mv_up (mv_up M 6 6 0) 6 7 0)) :
    mv_Wp G 12 [.inr (.inr 6)] (mh l) M post := mv_wp [] 27 ok_12 oc_12 rfl h
set_option maxRecDepth 100000 in
theorem vw_X1_forgetBids {G : mv_G} {l : Nat} {post : Option mv_V → mv_SH → mv_Mem → Prop} {M : mv_Mem} (h : ((0 : Int) = 0 ∨ (0 : Int) = 1) ∧
  post none (mh l) (mv_up M 6 7 0)) :
    mv_Wp G 13 [.inr (.inr 6)] (mh l) M post := mv_wp [] 24 ok_13 oc_13 rfl h
set_option maxRecDepth 100000 in
theorem vw_X1_settle {G : mv_G} {l : Nat} {post : Option mv_V → mv_SH → mv_Mem → Prop} {M : mv_Mem} (h : (if (M 6 6) = 0 then
    mv_Wp G 68 [.inr (.inr 35), .inr (.inr 8)] (mh l) M (mv_qv (mh l) fun M2 =>
    mv_Wp G 69 [.inr (.inr 35), .inr (.inr 8)] (mh l) M2 (mv_qv (mh l) fun M3 =>
    ((1 : Int) = 0 ∨ (1 : Int) = 1) ∧
    (if ((mv_up M3 6 6 1) 6 7) = 0 then
      mv_Wp G 15 [.inr (.inr 6)] (mh l) (mv_up M3 6 6 1) (mv_qv (mh l) fun M4 =>
      ((1 : Int) = 0 ∨ (1 : Int) = 1) ∧
      post none (mh l) (mv_up M4 6 7 1))
    else
      post none (mh l) (mv_up M3 6 6 1))))
  else
    (if (M 6 7) = 0 then
      mv_Wp G 15 [.inr (.inr 6)] (mh l) M (mv_qv (mh l) fun M1 =>
      ((1 : Int) = 0 ∨ (1 : Int) = 1) ∧
      post none (mh l) (mv_up M1 6 7 1))
    else
      post none (mh l) M))) :
    mv_Wp G 14 [.inr (.inr 6)] (mh l) M post := mv_wp [] 45 ok_14 oc_14 rfl h
set_option maxRecDepth 100000 in
theorem vw_X1_reckonBids {G : mv_G} {l : Nat} {post : Option mv_V → mv_SH → mv_Mem → Prop} {M : mv_Mem} (h : mv_Run G 15 87 4749 2 [(0, .inr (.inr 6)), (1, .inl 0)] [] (mh l) M post) :
    mv_Wp G 15 [.inr (.inr 6)] (mh l) M post := mv_wp [(2, [0, 1]), (41, [0, 1])] 58 ok_15 oc_15 rfl h
set_option maxRecDepth 100000 in
theorem vr_X1_reckonBids_2 {G : mv_G} {l : Nat} {post : Option mv_V → mv_SH → mv_Mem → Prop} {M : mv_Mem} {v1 : Int} (h : mv_R32 ((M 17 0) * 3) ∧
  (if ((M 17 0) * 3) ≤ v1 then
    mv_Run G 15 87 4749 41 [(0, .inr (.inr 6)), (1, .inl 0)] [] (mh l) M post
  else
    ¬ (3 : Int) = 0 ∧
    (if (M 8 4) ≤ (Int.tmod v1 3) then
      mv_R32 (v1 + 1) ∧
      mv_Run G 15 87 4749 2 [(0, .inr (.inr 6)), (1, .inl (v1 + 1))] [] (mh l) M post
    else
      mv_Wp G 16 [.inr (.inr 6), .inl v1] (mh l) M (mv_qv (mh l) fun M1 =>
      mv_R32 (v1 + 1) ∧
      mv_Run G 15 87 4749 2 [(0, .inr (.inr 6)), (1, .inl (v1 + 1))] [] (mh l) M1 post)))) :
    mv_Run G 15 87 4749 2 [(0, .inr (.inr 6)), (1, .inl v1)] [] (mh l) M post := mv_run [(2, [0, 1]), (41, [0, 1])] 58 ok_15 h
set_option maxRecDepth 100000 in
theorem vr_X1_reckonBids_41 {G : mv_G} {l : Nat} {post : Option mv_V → mv_SH → mv_Mem → Prop} {M : mv_Mem} {v1 : Int} (h : (if (M 8 2) ≤ v1 then
    post none (mh l) M
  else
    mv_Wp G 18 [.inr (.inr 6), .inl v1] (mh l) M (mv_qi (mh l) fun x1 M1 =>
    (0 ≤ (v1 : Int) ∧ (v1 : Int) < ((48 : Nat) : Int)) ∧
    mv_R32 (v1 + 1) ∧
    mv_Run G 15 87 4749 41 [(0, .inr (.inr 6)), (1, .inl (v1 + 1))] [] (mh l) (mv_up M1 43 (Int.toNat v1) x1) post))) :
    mv_Run G 15 87 4749 41 [(0, .inr (.inr 6)), (1, .inl v1)] [] (mh l) M post := mv_run [(2, [0, 1]), (41, [0, 1])] 58 ok_15 h
set_option maxRecDepth 100000 in
theorem vw_X1_reckonOffer {G : mv_G} {l : Nat} {post : Option mv_V → mv_SH → mv_Mem → Prop} {M : mv_Mem} {a : Int} (h : (¬ (3 : Int) = 0 ∧ mv_R32 (Int.tdiv a 3)) ∧
  mv_Run G 16 87 4749 6 [(0, .inr (.inr 6)), (1, .inl a), (2, .inl (Int.tdiv a 3)), (3, .inl 0)] [] (mh l) M post) :
    mv_Wp G 16 [.inr (.inr 6), .inl a] (mh l) M post := mv_wp [(6, [0, 1, 2, 3])] 77 ok_16 oc_16 rfl h
set_option maxRecDepth 100000 in
theorem vr_X1_reckonOffer_6 {G : mv_G} {l : Nat} {post : Option mv_V → mv_SH → mv_Mem → Prop} {M : mv_Mem} {a v2 v3 : Int} (h : (if (M 8 2) ≤ v3 then
    post none (mh l) M
  else
    mv_Wp G 17 [.inr (.inr 6), .inl a, .inl v3] (mh l) M (mv_qi (mh l) fun x1 M1 =>
    mv_Wp G 65 [.inr (.inr 17), .inl v2, .inl x1] (mh l) M1 (mv_qi (mh l) fun x2 M2 =>
    (if x2 = 0 then
      mv_R32 (a * 48) ∧
      mv_R32 ((a * 48) + v3) ∧
      (0 ≤ ((a * 48) + v3 : Int) ∧ ((a * 48) + v3 : Int) < ((864 : Nat) : Int)) ∧
      mv_R32 (v3 + 1) ∧
      mv_Run G 16 87 4749 6 [(0, .inr (.inr 6)), (1, .inl a), (2, .inl v2), (3, .inl (v3 + 1))] [] (mh l) (mv_up M2 42 (Int.toNat ((a * 48) + v3)) 0) post
    else
      (0 ≤ (v3 : Int) ∧ (v3 : Int) < ((48 : Nat) : Int)) ∧
      mv_Wp G 63 [.inr (.inr 17), .inl a, .inl (M2 10 (Int.toNat v3))] (mh l) M2 (mv_ql (mh l) fun x3 M3 =>
      mv_Wp G 64 [.inr (.inr 17), .inl v2, .inl (M2 10 (Int.toNat v3))] (mh l) M3 (mv_ql (mh l) fun x4 M4 =>
      mv_R64 (x4 * x1) ∧
      mv_R64 (x3 - (x4 * x1)) ∧
      mv_R32 (a * 48) ∧
      mv_R32 ((a * 48) + v3) ∧
      (0 ≤ ((a * 48) + v3 : Int) ∧ ((a * 48) + v3 : Int) < ((864 : Nat) : Int)) ∧
      mv_R32 (v3 + 1) ∧
      mv_Run G 16 87 4749 6 [(0, .inr (.inr 6)), (1, .inl a), (2, .inl v2), (3, .inl (v3 + 1))] [] (mh l) (mv_up M4 42 (Int.toNat ((a * 48) + v3)) (x3 - (x4 * x1))) post))))))) :
    mv_Run G 16 87 4749 6 [(0, .inr (.inr 6)), (1, .inl a), (2, .inl v2), (3, .inl v3)] [] (mh l) M post := mv_run [(6, [0, 1, 2, 3])] 77 ok_16 h
set_option maxRecDepth 100000 in
theorem vw_X1_wayOf {G : mv_G} {l : Nat} {post : Option mv_V → mv_SH → mv_Mem → Prop} {M : mv_Mem} {a b : Int} (h : ¬ (3 : Int) = 0 ∧
  mv_R32 ((Int.tmod a 3) * 48) ∧
  mv_R32 (((Int.tmod a 3) * 48) + b) ∧
  (¬ (3 : Int) = 0 ∧ mv_R32 (Int.tdiv a 3)) ∧
  (0 ≤ (Int.tdiv a 3 : Int) ∧ (Int.tdiv a 3 : Int) < ((6 : Nat) : Int)) ∧
  (if (M 18 (Int.toNat (Int.tdiv a 3))) = 1 then
    (0 ≤ (((Int.tmod a 3) * 48) + b : Int) ∧ (((Int.tmod a 3) * 48) + b : Int) < ((144 : Nat) : Int)) ∧
    post (some (.inl (M 37 (Int.toNat (((Int.tmod a 3) * 48) + b))))) (mh l) M
  else
    (0 ≤ (((Int.tmod a 3) * 48) + b : Int) ∧ (((Int.tmod a 3) * 48) + b : Int) < ((144 : Nat) : Int)) ∧
    post (some (.inl (M 36 (Int.toNat (((Int.tmod a 3) * 48) + b))))) (mh l) M)) :
    mv_Wp G 17 [.inr (.inr 6), .inl a, .inl b] (mh l) M post := mv_wp [] 49 ok_17 oc_17 rfl h
set_option maxRecDepth 100000 in
theorem vw_X1_takerOf {G : mv_G} {l : Nat} {post : Option mv_V → mv_SH → mv_Mem → Prop} {M : mv_Mem} {a : Int} (h : (0 ≤ (a : Int) ∧ (a : Int) < ((48 : Nat) : Int)) ∧
  (if (M 13 (Int.toNat a)) = 0 then
    mv_Wp G 19 [.inr (.inr 6), .inl a, .inl (-1)] (mh l) M (mv_qi (mh l) fun x1 M1 =>
    post (some (.inl x1)) (mh l) M1)
  else
    post (some (.inl (-1))) (mh l) M)) :
    mv_Wp G 18 [.inr (.inr 6), .inl a] (mh l) M post := mv_wp [] 33 ok_18 oc_18 rfl h
set_option maxRecDepth 100000 in
theorem vw_X1_greatest {G : mv_G} {l : Nat} {post : Option mv_V → mv_SH → mv_Mem → Prop} {M : mv_Mem} {a b : Int} (h : mv_Run G 19 87 4749 8 [(0, .inr (.inr 6)), (1, .inl a), (2, .inl b), (3, .inl (-1)), (4, .inr (.inl 0)), (6, .inl 0)] [] (mh l) M post) :
    mv_Wp G 19 [.inr (.inr 6), .inl a, .inl b] (mh l) M post := mv_wp [(8, [0, 1, 2, 3, 4, 6])] 64 ok_19 oc_19 rfl h
set_option maxRecDepth 100000 in
theorem vr_X1_greatest_8 {G : mv_G} {l : Nat} {post : Option mv_V → mv_SH → mv_Mem → Prop} {M : mv_Mem} {a b v3 v4 v6 : Int} (h : mv_R32 ((M 17 0) * 3) ∧
  (if ((M 17 0) * 3) ≤ v6 then
    post (some (.inl v3)) (mh l) M
  else
    mv_R32 (v6 * 48) ∧
    mv_R32 ((v6 * 48) + a) ∧
    (0 ≤ ((v6 * 48) + a : Int) ∧ ((v6 * 48) + a : Int) < ((864 : Nat) : Int)) ∧
    (if (mv_cmp (M 42 (Int.toNat ((v6 * 48) + a))) v4) ≤ 0 then
      mv_R32 (v6 + 1) ∧
      mv_Run G 19 87 4749 8 [(0, .inr (.inr 6)), (1, .inl a), (2, .inl b), (3, .inl v3), (4, .inr (.inl v4)), (6, .inl (v6 + 1))] [] (mh l) M post
    else
      (if v6 = b then
        mv_R32 (v6 + 1) ∧
        mv_Run G 19 87 4749 8 [(0, .inr (.inr 6)), (1, .inl a), (2, .inl b), (3, .inl v3), (4, .inr (.inl v4)), (6, .inl (v6 + 1))] [] (mh l) M post
      else
        ¬ (3 : Int) = 0 ∧
        (if (M 8 4) ≤ (Int.tmod v6 3) then
          mv_R32 (v6 + 1) ∧
          mv_Run G 19 87 4749 8 [(0, .inr (.inr 6)), (1, .inl a), (2, .inl b), (3, .inl v3), (4, .inr (.inl v4)), (6, .inl (v6 + 1))] [] (mh l) M post
        else
          mv_R32 (v6 + 1) ∧
          mv_Run G 19 87 4749 8 [(0, .inr (.inr 6)), (1, .inl a), (2, .inl b), (3, .inl v6), (4, .inr (.inl (M 42 (Int.toNat ((v6 * 48) + a))))), (6, .inl (v6 + 1))] [] (mh l) M post))))) :
    mv_Run G 19 87 4749 8 [(0, .inr (.inr 6)), (1, .inl a), (2, .inl b), (3, .inl v3), (4, .inr (.inl v4)), (6, .inl v6)] [] (mh l) M post := mv_run [(8, [0, 1, 2, 3, 4, 6])] 64 ok_19 h
set_option maxRecDepth 100000 in
theorem vw_X1_rentAt {G : mv_G} {l : Nat} {post : Option mv_V → mv_SH → mv_Mem → Prop} {M : mv_Mem} {a : Int} (h : (0 ≤ (a : Int) ∧ (a : Int) < ((48 : Nat) : Int)) ∧
  mv_Wp G 21 [.inr (.inr 6), .inl (M 43 (Int.toNat a)), .inl a] (mh l) M (mv_ql (mh l) fun x1 M1 =>
  post (some (.inr (.inl x1))) (mh l) M1)) :
    mv_Wp G 20 [.inr (.inr 6), .inl a] (mh l) M post := mv_wp [] 28 ok_20 oc_20 rfl h
set_option maxRecDepth 100000 in
theorem vw_X1_rentBy {G : mv_G} {l : Nat} {post : Option mv_V → mv_SH → mv_Mem → Prop} {M : mv_Mem} {a b : Int} (h : (if a = (-1) then
    post (some (.inr (.inl 0))) (mh l) M
  else
    mv_R32 (a * 48) ∧
    mv_R32 ((a * 48) + b) ∧
    (0 ≤ ((a * 48) + b : Int) ∧ ((a * 48) + b : Int) < ((864 : Nat) : Int)) ∧
    mv_R64 ((M 42 (Int.toNat ((a * 48) + b))) * (M 17 1)) ∧
    (¬ (100 : Int) = 0 ∧ mv_R64 (Int.tdiv ((M 42 (Int.toNat ((a * 48) + b))) * (M 17 1)) 100)) ∧
    mv_R64 ((M 42 (Int.toNat ((a * 48) + b))) - (Int.tdiv ((M 42 (Int.toNat ((a * 48) + b))) * (M 17 1)) 100)) ∧
    post (some (.inr (.inl ((M 42 (Int.toNat ((a * 48) + b))) - (Int.tdiv ((M 42 (Int.toNat ((a * 48) + b))) * (M 17 1)) 100))))) (mh l) M)) :
    mv_Wp G 21 [.inr (.inr 6), .inl a, .inl b] (mh l) M post := mv_wp [] 45 ok_21 oc_21 rfl h
set_option maxRecDepth 100000 in
theorem vw_X1_allRents {G : mv_G} {l : Nat} {post : Option mv_V → mv_SH → mv_Mem → Prop} {M : mv_Mem} (h : mv_Run G 22 87 4749 4 [(0, .inr (.inr 6)), (1, .inr (.inl 0)), (3, .inl 0)] [] (mh l) M post) :
    mv_Wp G 22 [.inr (.inr 6)] (mh l) M post := mv_wp [(4, [0, 1, 3])] 39 ok_22 oc_22 rfl h
set_option maxRecDepth 100000 in
theorem vr_X1_allRents_4 {G : mv_G} {l : Nat} {post : Option mv_V → mv_SH → mv_Mem → Prop} {M : mv_Mem} {v1 v3 : Int} (h : (if (M 8 2) ≤ v3 then
    post (some (.inr (.inl v1))) (mh l) M
  else
    mv_Wp G 20 [.inr (.inr 6), .inl v3] (mh l) M (mv_ql (mh l) fun x1 M1 =>
    mv_R64 (v1 + x1) ∧
    mv_R32 (v3 + 1) ∧
    mv_Run G 22 87 4749 4 [(0, .inr (.inr 6)), (1, .inr (.inl (v1 + x1))), (3, .inl (v3 + 1))] [] (mh l) M1 post))) :
    mv_Run G 22 87 4749 4 [(0, .inr (.inr 6)), (1, .inr (.inl v1)), (3, .inl v3)] [] (mh l) M post := mv_run [(4, [0, 1, 3])] 39 ok_22 h
set_option maxRecDepth 100000 in
theorem vw_X1_rentsOf {G : mv_G} {l : Nat} {post : Option mv_V → mv_SH → mv_Mem → Prop} {M : mv_Mem} {a : Int} (h : mv_Run G 23 87 4749 5 [(0, .inr (.inr 6)), (1, .inl a), (2, .inr (.inl 0)), (4, .inl 0)] [] (mh l) M post) :
    mv_Wp G 23 [.inr (.inr 6), .inl a] (mh l) M post := mv_wp [(5, [0, 1, 2, 4])] 49 ok_23 oc_23 rfl h
set_option maxRecDepth 100000 in
theorem vr_X1_rentsOf_5 {G : mv_G} {l : Nat} {post : Option mv_V → mv_SH → mv_Mem → Prop} {M : mv_Mem} {a v2 v4 : Int} (h : (if (M 8 2) ≤ v4 then
    post (some (.inr (.inl v2))) (mh l) M
  else
    (0 ≤ (v4 : Int) ∧ (v4 : Int) < ((48 : Nat) : Int)) ∧
    (if (M 12 (Int.toNat v4)) = a then
      mv_Wp G 18 [.inr (.inr 6), .inl v4] (mh l) M (mv_qi (mh l) fun x1 M1 =>
      mv_Wp G 21 [.inr (.inr 6), .inl x1, .inl v4] (mh l) M1 (mv_ql (mh l) fun x2 M2 =>
      mv_R64 (v2 + x2) ∧
      mv_R32 (v4 + 1) ∧
      mv_Run G 23 87 4749 5 [(0, .inr (.inr 6)), (1, .inl a), (2, .inr (.inl (v2 + x2))), (4, .inl (v4 + 1))] [] (mh l) M2 post))
    else
      mv_R32 (v4 + 1) ∧
      mv_Run G 23 87 4749 5 [(0, .inr (.inr 6)), (1, .inl a), (2, .inr (.inl v2)), (4, .inl (v4 + 1))] [] (mh l) M post))) :
    mv_Run G 23 87 4749 5 [(0, .inr (.inr 6)), (1, .inl a), (2, .inr (.inl v2)), (4, .inl v4)] [] (mh l) M post := mv_run [(5, [0, 1, 2, 4])] 49 ok_23 h
set_option maxRecDepth 100000 in
theorem vw_X1_isTakenBy {G : mv_G} {l : Nat} {post : Option mv_V → mv_SH → mv_Mem → Prop} {M : mv_Mem} {a b : Int} (h : (0 ≤ (b : Int) ∧ (b : Int) < ((48 : Nat) : Int)) ∧
  (if (M 43 (Int.toNat b)) = (-1) then
    ((0 : Int) = 0 ∨ (0 : Int) = 1) ∧ post (some (.inl 0)) (mh l) M
  else
    (0 ≤ (b : Int) ∧ (b : Int) < ((48 : Nat) : Int)) ∧
    (¬ (3 : Int) = 0 ∧ mv_R32 (Int.tdiv (M 43 (Int.toNat b)) 3)) ∧
    (if (Int.tdiv (M 43 (Int.toNat b)) 3) = a then
      ((1 : Int) = 0 ∨ (1 : Int) = 1) ∧ post (some (.inl 1)) (mh l) M
    else
      ((0 : Int) = 0 ∨ (0 : Int) = 1) ∧ post (some (.inl 0)) (mh l) M))) :
    mv_Wp G 25 [.inr (.inr 6), .inl a, .inl b] (mh l) M post := mv_wp [] 38 ok_25 oc_25 rfl h
set_option maxRecDepth 100000 in
theorem vw_X1_wasteAcres {G : mv_G} {l : Nat} {post : Option mv_V → mv_SH → mv_Mem → Prop} {M : mv_Mem} (h : mv_Run G 29 87 4749 4 [(0, .inr (.inr 6)), (1, .inl 0), (2, .inl 0)] [] (mh l) M post) :
    mv_Wp G 29 [.inr (.inr 6)] (mh l) M post := mv_wp [(4, [0, 1, 2])] 45 ok_29 oc_29 rfl h
set_option maxRecDepth 100000 in
theorem vr_X1_wasteAcres_4 {G : mv_G} {l : Nat} {post : Option mv_V → mv_SH → mv_Mem → Prop} {M : mv_Mem} {v1 v2 : Int} (h : (if (M 8 2) ≤ v2 then
    post (some (.inl v1)) (mh l) M
  else
    (0 ≤ (v2 : Int) ∧ (v2 : Int) < ((48 : Nat) : Int)) ∧
    (if (M 43 (Int.toNat v2)) = (-1) then
      mv_R32 (v1 + 1) ∧
      mv_R32 (v2 + 1) ∧
      mv_Run G 29 87 4749 4 [(0, .inr (.inr 6)), (1, .inl (v1 + 1)), (2, .inl (v2 + 1))] [] (mh l) M post
    else
      mv_R32 (v1 + 0) ∧
      mv_R32 (v2 + 1) ∧
      mv_Run G 29 87 4749 4 [(0, .inr (.inr 6)), (1, .inl (v1 + 0)), (2, .inl (v2 + 1))] [] (mh l) M post))) :
    mv_Run G 29 87 4749 4 [(0, .inr (.inr 6)), (1, .inl v1), (2, .inl v2)] [] (mh l) M post := mv_run [(4, [0, 1, 2])] 45 ok_29 h
set_option maxRecDepth 100000 in
theorem vw_X1_fallingWaste {G : mv_G} {l : Nat} {post : Option mv_V → mv_SH → mv_Mem → Prop} {M : mv_Mem} {a b : Int} (h : (0 ≤ (a : Int) ∧ (a : Int) < ((6 : Nat) : Int)) ∧
  (0 ≤ (a : Int) ∧ (a : Int) < ((6 : Nat) : Int)) ∧
  mv_Run G 30 87 4749 23 [(0, .inr (.inr 6)), (1, .inl a), (3, .inl (M 23 (Int.toNat a))), (4, .inl 0)] [] (mh l) (mv_up M 23 (Int.toNat a) b) post) :
    mv_Wp G 30 [.inr (.inr 6), .inl a, .inl b] (mh l) M post := mv_wp [(23, [0, 1, 3, 4]), (57, [0, 1, 3, 4, 5])] 79 ok_30 oc_30 rfl h
set_option maxRecDepth 100000 in
theorem vr_X1_fallingWaste_23 {G : mv_G} {l : Nat} {post : Option mv_V → mv_SH → mv_Mem → Prop} {M : mv_Mem} {a v3 v4 : Int} (h : (if (M 8 4) ≤ v4 then
    mv_Run G 30 87 4749 57 [(0, .inr (.inr 6)), (1, .inl a), (3, .inl v3), (4, .inl 0), (5, .inl 0)] [] (mh l) M post
  else
    mv_Wp G 131 [.inl a, .inl v4] (mh l) M (mv_qi (mh l) fun x1 M1 =>
    mv_Wp G 16 [.inr (.inr 6), .inl x1] (mh l) M1 (mv_qv (mh l) fun M2 =>
    mv_R32 (v4 + 1) ∧
    mv_Run G 30 87 4749 23 [(0, .inr (.inr 6)), (1, .inl a), (3, .inl v3), (4, .inl (v4 + 1))] [] (mh l) M2 post)))) :
    mv_Run G 30 87 4749 23 [(0, .inr (.inr 6)), (1, .inl a), (3, .inl v3), (4, .inl v4)] [] (mh l) M post := mv_run [(23, [0, 1, 3, 4]), (57, [0, 1, 3, 4, 5])] 79 ok_30 h
set_option maxRecDepth 100000 in
theorem vr_X1_fallingWaste_57 {G : mv_G} {l : Nat} {post : Option mv_V → mv_SH → mv_Mem → Prop} {M : mv_Mem} {a v3 v4 v5 : Int} (h : (if (M 8 2) ≤ v5 then
    (0 ≤ (a : Int) ∧ (a : Int) < ((6 : Nat) : Int)) ∧
    ((0 : Int) = 0 ∨ (0 : Int) = 1) ∧
    post (some (.inl v4)) (mh l) (mv_up (mv_up M 23 (Int.toNat a) v3) 6 7 0)
  else
    mv_Wp G 25 [.inr (.inr 6), .inl a, .inl v5] (mh l) M (mv_qi (mh l) fun x1 M1 =>
    (if x1 = 0 then
      mv_R32 (v5 + 1) ∧
      mv_Run G 30 87 4749 57 [(0, .inr (.inr 6)), (1, .inl a), (3, .inl v3), (4, .inl v4), (5, .inl (v5 + 1))] [] (mh l) M1 post
    else
      mv_Wp G 18 [.inr (.inr 6), .inl v5] (mh l) M1 (mv_qi (mh l) fun x2 M2 =>
      (if x2 = (-1) then
        mv_R32 (v4 + 1) ∧
        mv_R32 (v5 + 1) ∧
        mv_Run G 30 87 4749 57 [(0, .inr (.inr 6)), (1, .inl a), (3, .inl v3), (4, .inl (v4 + 1)), (5, .inl (v5 + 1))] [] (mh l) M2 post
      else
        mv_R32 (v5 + 1) ∧
        mv_Run G 30 87 4749 57 [(0, .inr (.inr 6)), (1, .inl a), (3, .inl v3), (4, .inl v4), (5, .inl (v5 + 1))] [] (mh l) M2 post)))))) :
    mv_Run G 30 87 4749 57 [(0, .inr (.inr 6)), (1, .inl a), (3, .inl v3), (4, .inl v4), (5, .inl v5)] [] (mh l) M post := mv_run [(23, [0, 1, 3, 4]), (57, [0, 1, 3, 4, 5])] 79 ok_30 h
set_option maxRecDepth 100000 in
theorem vw_X2_takeFrom_i {G : mv_G} {l : Nat} {post : Option mv_V → mv_SH → mv_Mem → Prop} {M : mv_Mem} (h : (0 ≤ (0 : Int) ∧ 0 ≤ (0 : Int) ∧ 0 ≤ (8 : Int) ∧ 0 + 8 ≤ ((8 : Nat) : Int) ∧ 0 + 8 ≤ ((8 : Nat) : Int)) ∧
  (0 ≤ (0 : Int) ∧ 0 ≤ (0 : Int) ∧ 0 ≤ (8 : Int) ∧ 0 + 8 ≤ ((8 : Nat) : Int) ∧ 0 + 8 ≤ ((8 : Nat) : Int)) ∧
  (0 ≤ (0 : Int) ∧ 0 ≤ (0 : Int) ∧ 0 ≤ (8 : Int) ∧ 0 + 8 ≤ ((8 : Nat) : Int) ∧ 0 + 8 ≤ ((8 : Nat) : Int)) ∧
  (0 ≤ (0 : Int) ∧ 0 ≤ (0 : Int) ∧ 0 ≤ (8 : Int) ∧ 0 + 8 ≤ ((8 : Nat) : Int) ∧ 0 + 8 ≤ ((8 : Nat) : Int)) ∧
  post none (mh l) (mv_cp (mv_cp (mv_cp (mv_cp (mv_up M 67 0 (M 30 0)) 31 (Int.toNat 0) 68 (Int.toNat 0) (Int.toNat 8)) 32 (Int.toNat 0) 69 (Int.toNat 0) (Int.toNat 8)) 33 (Int.toNat 0) 70 (Int.toNat 0) (Int.toNat 8)) 34 (Int.toNat 0) 71 (Int.toNat 0) (Int.toNat 8))) :
    mv_Wp G 33 [.inr (.inr 67), .inr (.inr 30)] (mh l) M post := mv_wp [] 57 ok_33 oc_33 rfl h
set_option maxRecDepth 100000 in
theorem vw_X2_takeFrom_o {G : mv_G} {l : Nat} {post : Option mv_V → mv_SH → mv_Mem → Prop} {M : mv_Mem} (h : (0 ≤ (0 : Int) ∧ 0 ≤ (0 : Int) ∧ 0 ≤ (8 : Int) ∧ 0 + 8 ≤ ((8 : Nat) : Int) ∧ 0 + 8 ≤ ((8 : Nat) : Int)) ∧
  (0 ≤ (0 : Int) ∧ 0 ≤ (0 : Int) ∧ 0 ≤ (8 : Int) ∧ 0 + 8 ≤ ((8 : Nat) : Int) ∧ 0 + 8 ≤ ((8 : Nat) : Int)) ∧
  (0 ≤ (0 : Int) ∧ 0 ≤ (0 : Int) ∧ 0 ≤ (8 : Int) ∧ 0 + 8 ≤ ((8 : Nat) : Int) ∧ 0 + 8 ≤ ((8 : Nat) : Int)) ∧
  (0 ≤ (0 : Int) ∧ 0 ≤ (0 : Int) ∧ 0 ≤ (8 : Int) ∧ 0 + 8 ≤ ((8 : Nat) : Int) ∧ 0 + 8 ≤ ((8 : Nat) : Int)) ∧
  post none (mh l) (mv_cp (mv_cp (mv_cp (mv_cp (mv_up M 30 0 (M 67 0)) 68 (Int.toNat 0) 31 (Int.toNat 0) (Int.toNat 8)) 69 (Int.toNat 0) 32 (Int.toNat 0) (Int.toNat 8)) 70 (Int.toNat 0) 33 (Int.toNat 0) (Int.toNat 8)) 71 (Int.toNat 0) 34 (Int.toNat 0) (Int.toNat 8))) :
    mv_Wp G 33 [.inr (.inr 30), .inr (.inr 67)] (mh l) M post := mv_wp [] 57 ok_33 oc_33 rfl h
set_option maxRecDepth 100000 in
theorem vw_X5_append {G : mv_G} {l : Nat} {post : Option mv_V → mv_SH → mv_Mem → Prop} {M : mv_Mem} {a b : Int} (h : mv_Run G 46 87 4749 6 [(0, .inr (.inr 2)), (1, .inl a), (4, .inr (.inl b)), (6, .inl 0)] [] (mh l) M post) :
    mv_Wp G 46 [.inr (.inr 2), .inl a, .inr (.inl b)] (mh l) M post := mv_wp [(6, [0, 1, 4, 6])] 53 ok_46 oc_46 rfl h
set_option maxRecDepth 100000 in
theorem vr_X5_append_6 {G : mv_G} {l : Nat} {post : Option mv_V → mv_SH → mv_Mem → Prop} {M : mv_Mem} {a v4 v6 : Int} (h : (if a ≤ v6 then
    post none (mh l) M
  else
    (if 60 ≤ (M 2 1) then
      post none (mh l) M
    else
      mv_R32 (mv_land v4 255) ∧
      (0 ≤ (M 2 1 : Int) ∧ (M 2 1 : Int) < ((60 : Nat) : Int)) ∧
      mv_R32 (((mv_up M 3 (Int.toNat (M 2 1)) (mv_land v4 255)) 2 1) + 1) ∧
      mv_R32 (v6 + 1) ∧
      mv_Run G 46 87 4749 6 [(0, .inr (.inr 2)), (1, .inl a), (4, .inr (.inl (mv_lushr v4 8))), (6, .inl (v6 + 1))] [] (mh l) (mv_up (mv_up M 3 (Int.toNat (M 2 1)) (mv_land v4 255)) 2 1 (((mv_up M 3 (Int.toNat (M 2 1)) (mv_land v4 255)) 2 1) + 1)) post))) :
    mv_Run G 46 87 4749 6 [(0, .inr (.inr 2)), (1, .inl a), (4, .inr (.inl v4)), (6, .inl v6)] [] (mh l) M post := mv_run [(6, [0, 1, 4, 6])] 53 ok_46 h
set_option maxRecDepth 100000 in
theorem vw_X5_firstFault {G : mv_G} {l : Nat} {post : Option mv_V → mv_SH → mv_Mem → Prop} {M : mv_Mem} (h : mv_Run G 47 87 4749 10 [(0, .inr (.inr 2)), (1, .inl 8), (2, .inl 0), (3, .inl 0), (4, .inl 0)] [] (mh l) M post) :
    mv_Wp G 47 [.inr (.inr 2)] (mh l) M post := mv_wp [(10, [0, 1, 2, 3, 4])] 84 ok_47 oc_47 rfl h
set_option maxRecDepth 100000 in
theorem vr_X5_firstFault_10 {G : mv_G} {l : Nat} {post : Option mv_V → mv_SH → mv_Mem → Prop} {M : mv_Mem} {v1 v2 v3 v4 : Int} (h : (if (M 2 1) ≤ v4 then
    (if v3 = 0 then
      post (some (.inl (M 2 1))) (mh l) M
    else
      (if v2 ≤ 0 then
        post (some (.inl (-1))) (mh l) M
      else
        (if v1 ≤ v3 then
          post (some (.inl (-1))) (mh l) M
        else
          post (some (.inl (M 2 1))) (mh l) M)))
  else
    (0 ≤ (v4 : Int) ∧ (v4 : Int) < ((60 : Nat) : Int)) ∧
    (if (M 3 (Int.toNat v4)) = 47 then
      (if v3 = 0 then
        post (some (.inl v4)) (mh l) M
      else
        (if v2 ≤ 0 then
          mv_R32 (v2 + 1) ∧
          (if (v2 + 1) = 6 then
            post (some (.inl v4)) (mh l) M
          else
            mv_R32 (v2 + 1) ∧
            mv_R32 (v4 + 1) ∧
            mv_Run G 47 87 4749 10 [(0, .inr (.inr 2)), (1, .inl v3), (2, .inl (v2 + 1)), (3, .inl 0), (4, .inl (v4 + 1))] [] (mh l) M post)
        else
          (if v3 < v1 then
            post (some (.inl v4)) (mh l) M
          else
            mv_R32 (v2 + 1) ∧
            (if (v2 + 1) = 6 then
              post (some (.inl v4)) (mh l) M
            else
              mv_R32 (v2 + 1) ∧
              mv_R32 (v4 + 1) ∧
              mv_Run G 47 87 4749 10 [(0, .inr (.inr 2)), (1, .inl v3), (2, .inl (v2 + 1)), (3, .inl 0), (4, .inl (v4 + 1))] [] (mh l) M post))))
    else
      (0 ≤ (v4 : Int) ∧ (v4 : Int) < ((60 : Nat) : Int)) ∧
      mv_Wp G 48 [.inl (M 3 (Int.toNat v4))] (mh l) M (mv_qi (mh l) fun x1 M1 =>
      (if x1 = 0 then
        post (some (.inl v4)) (mh l) M1
      else
        (if v3 = v1 then
          post (some (.inl v4)) (mh l) M1
        else
          mv_R32 (v3 + 1) ∧
          mv_R32 (v4 + 1) ∧
          mv_Run G 47 87 4749 10 [(0, .inr (.inr 2)), (1, .inl v1), (2, .inl v2), (3, .inl (v3 + 1)), (4, .inl (v4 + 1))] [] (mh l) M1 post)))))) :
    mv_Run G 47 87 4749 10 [(0, .inr (.inr 2)), (1, .inl v1), (2, .inl v2), (3, .inl v3), (4, .inl v4)] [] (mh l) M post := mv_run [(10, [0, 1, 2, 3, 4])] 84 ok_47 h
set_option maxRecDepth 100000 in
theorem vw_X5_isDigit {G : mv_G} {l : Nat} {post : Option mv_V → mv_SH → mv_Mem → Prop} {M : mv_Mem} {a : Int} (h : (if a < 48 then
    ((0 : Int) = 0 ∨ (0 : Int) = 1) ∧ post (some (.inl 0)) (mh l) M
  else
    (if 57 < a then
      ((0 : Int) = 0 ∨ (0 : Int) = 1) ∧ post (some (.inl 0)) (mh l) M
    else
      ((1 : Int) = 0 ∨ (1 : Int) = 1) ∧ post (some (.inl 1)) (mh l) M))) :
    mv_Wp G 48 [.inl a] (mh l) M post := mv_wp [] 30 ok_48 oc_48 rfl h
set_option maxRecDepth 100000 in
theorem vw_X6_clearingPrice {G : mv_G} {l : Nat} {post : Option mv_V → mv_SH → mv_Mem → Prop} {M : mv_Mem} {b : Int} (h : mv_Run G 50 87 4749 20 [(0, .inr (.inr 72)), (1, .inr (.inr 6)), (2, .inl b), (3, .inr (.inr 8)), (4, .inr (.inr 17)), (5, .inl 0)] [] (mh l) M post) :
    mv_Wp G 50 [.inr (.inr 72), .inr (.inr 6), .inl b] (mh l) M post := mv_wp [(20, [0, 1, 2, 3, 4, 5]), (80, [0, 2, 3, 4, 5, 6])] 97 ok_50 oc_50 rfl h
set_option maxRecDepth 100000 in
theorem vr_X6_clearingPrice_20 {G : mv_G} {l : Nat} {post : Option mv_V → mv_SH → mv_Mem → Prop} {M : mv_Mem} {b v5 : Int} (h : (if (M 8 2) ≤ v5 then
    mv_Run G 50 87 4749 80 [(0, .inr (.inr 72)), (2, .inl b), (3, .inr (.inr 8)), (4, .inr (.inr 17)), (5, .inl (-1)), (6, .inl 512)] [] (mh l) M post
  else
    (¬ (3 : Int) = 0 ∧ mv_R32 (Int.tdiv b 3)) ∧
    (0 ≤ (v5 : Int) ∧ (v5 : Int) < ((48 : Nat) : Int)) ∧
    mv_Wp G 61 [.inr (.inr 17), .inl (Int.tdiv b 3), .inl (M 10 (Int.toNat v5))] (mh l) M (mv_qi (mh l) fun x1 M1 =>
    (0 ≤ (v5 : Int) ∧ (v5 : Int) < ((48 : Nat) : Int)) ∧
    mv_Wp G 52 [.inr (.inr 72), .inr (.inr 6), .inl b, .inl v5] (mh l) (mv_up M1 74 (Int.toNat v5) x1) (mv_qi (mh l) fun x2 M2 =>
    (0 ≤ (v5 : Int) ∧ (v5 : Int) < ((48 : Nat) : Int)) ∧
    mv_R32 (v5 + 1) ∧
    mv_Run G 50 87 4749 20 [(0, .inr (.inr 72)), (1, .inr (.inr 6)), (2, .inl b), (3, .inr (.inr 8)), (4, .inr (.inr 17)), (5, .inl (v5 + 1))] [] (mh l) (mv_up M2 73 (Int.toNat v5) x2) post)))) :
    mv_Run G 50 87 4749 20 [(0, .inr (.inr 72)), (1, .inr (.inr 6)), (2, .inl b), (3, .inr (.inr 8)), (4, .inr (.inr 17)), (5, .inl v5)] [] (mh l) M post := mv_run [(20, [0, 1, 2, 3, 4, 5]), (80, [0, 2, 3, 4, 5, 6])] 97 ok_50 h
set_option maxRecDepth 100000 in
theorem vr_X6_clearingPrice_80 {G : mv_G} {l : Nat} {post : Option mv_V → mv_SH → mv_Mem → Prop} {M : mv_Mem} {b v5 v6 : Int} (h : (if v6 ≤ 0 then
    (if v5 = 999 then
      post (some (.inl (-9))) (mh l) M
    else
      mv_R32 (v5 + 1) ∧
      post (some (.inl (v5 + 1))) (mh l) M)
  else
    mv_R32 (v5 + v6) ∧
    (if 999 < (v5 + v6) then
      (¬ (2 : Int) = 0 ∧ mv_R32 (Int.tdiv v6 2)) ∧
      mv_Run G 50 87 4749 80 [(0, .inr (.inr 72)), (2, .inl b), (3, .inr (.inr 8)), (4, .inr (.inr 17)), (5, .inl v5), (6, .inl (Int.tdiv v6 2))] [] (mh l) M post
    else
      mv_Wp G 51 [.inr (.inr 72), .inl (v5 + v6), .inl (M 8 2)] (mh l) M (mv_qi (mh l) fun x1 M1 =>
      mv_Wp G 66 [.inr (.inr 17), .inl b, .inl (v5 + v6)] (mh l) M1 (mv_qi (mh l) fun x2 M2 =>
      (if x2 ≤ x1 then
        (¬ (2 : Int) = 0 ∧ mv_R32 (Int.tdiv v6 2)) ∧
        mv_Run G 50 87 4749 80 [(0, .inr (.inr 72)), (2, .inl b), (3, .inr (.inr 8)), (4, .inr (.inr 17)), (5, .inl v5), (6, .inl (Int.tdiv v6 2))] [] (mh l) M2 post
      else
        (¬ (2 : Int) = 0 ∧ mv_R32 (Int.tdiv v6 2)) ∧
        mv_Run G 50 87 4749 80 [(0, .inr (.inr 72)), (2, .inl b), (3, .inr (.inr 8)), (4, .inr (.inr 17)), (5, .inl (v5 + v6)), (6, .inl (Int.tdiv v6 2))] [] (mh l) M2 post)))))) :
    mv_Run G 50 87 4749 80 [(0, .inr (.inr 72)), (2, .inl b), (3, .inr (.inr 8)), (4, .inr (.inr 17)), (5, .inl v5), (6, .inl v6)] [] (mh l) M post := mv_run [(20, [0, 1, 2, 3, 4, 5]), (80, [0, 2, 3, 4, 5, 6])] 97 ok_50 h
set_option maxRecDepth 100000 in
theorem vw_X6_comingAt {G : mv_G} {l : Nat} {post : Option mv_V → mv_SH → mv_Mem → Prop} {M : mv_Mem} {a b : Int} (h : mv_Run G 51 87 4749 5 [(0, .inr (.inr 72)), (1, .inl a), (2, .inl b), (3, .inl 0), (4, .inl 0)] [] (mh l) M post) :
    mv_Wp G 51 [.inr (.inr 72), .inl a, .inl b] (mh l) M post := mv_wp [(5, [0, 1, 2, 3, 4])] 44 ok_51 oc_51 rfl h
set_option maxRecDepth 100000 in
theorem vr_X6_comingAt_5 {G : mv_G} {l : Nat} {post : Option mv_V → mv_SH → mv_Mem → Prop} {M : mv_Mem} {a b v3 v4 : Int} (h : (if b ≤ v4 then
    post (some (.inl v3)) (mh l) M
  else
    (0 ≤ (v4 : Int) ∧ (v4 : Int) < ((48 : Nat) : Int)) ∧
    (if a < (M 73 (Int.toNat v4)) then
      mv_R32 (v4 + 1) ∧
      mv_Run G 51 87 4749 5 [(0, .inr (.inr 72)), (1, .inl a), (2, .inl b), (3, .inl v3), (4, .inl (v4 + 1))] [] (mh l) M post
    else
      (0 ≤ (v4 : Int) ∧ (v4 : Int) < ((48 : Nat) : Int)) ∧
      mv_R32 (v3 + (M 74 (Int.toNat v4))) ∧
      mv_R32 (v4 + 1) ∧
      mv_Run G 51 87 4749 5 [(0, .inr (.inr 72)), (1, .inl a), (2, .inl b), (3, .inl (v3 + (M 74 (Int.toNat v4)))), (4, .inl (v4 + 1))] [] (mh l) M post))) :
    mv_Run G 51 87 4749 5 [(0, .inr (.inr 72)), (1, .inl a), (2, .inl b), (3, .inl v3), (4, .inl v4)] [] (mh l) M post := mv_run [(5, [0, 1, 2, 3, 4])] 44 ok_51 h
set_option maxRecDepth 100000 in
theorem vw_X6_leastPriceFor {G : mv_G} {l : Nat} {post : Option mv_V → mv_SH → mv_Mem → Prop} {M : mv_Mem} {b c : Int} (h : mv_Wp G 17 [.inr (.inr 6), .inl b, .inl c] (mh l) M (mv_qi (mh l) fun x1 M1 =>
  (0 ≤ (c : Int) ∧ (c : Int) < ((48 : Nat) : Int)) ∧
  (if (M1 13 (Int.toNat c)) = 0 then
    (0 ≤ (c : Int) ∧ (c : Int) < ((48 : Nat) : Int)) ∧
    (if (M1 74 (Int.toNat c)) ≤ 0 then
      post (some (.inl 1000)) (mh l) M1
    else
      (¬ (3 : Int) = 0 ∧ mv_R32 (Int.tdiv b 3)) ∧
      mv_Wp G 65 [.inr (.inr 17), .inl (Int.tdiv b 3), .inl x1] (mh l) M1 (mv_qi (mh l) fun x2 M2 =>
      (if x2 = 0 then
        post (some (.inl 1000)) (mh l) M2
      else
        mv_Wp G 19 [.inr (.inr 6), .inl c, .inl b] (mh l) M2 (mv_qi (mh l) fun x3 M3 =>
        (if x3 = (-1) then
          mv_R32 (b * 48) ∧
          mv_R32 ((b * 48) + c) ∧
          (0 ≤ ((b * 48) + c : Int) ∧ ((b * 48) + c : Int) < ((864 : Nat) : Int)) ∧
          mv_R64 (1 - (M3 42 (Int.toNat ((b * 48) + c)))) ∧
          (0 ≤ (b : Int) ∧ (b : Int) < ((18 : Nat) : Int)) ∧
          mv_R64 (-(1 - (M3 42 (Int.toNat ((b * 48) + c))))) ∧
          (0 ≤ (c : Int) ∧ (c : Int) < ((48 : Nat) : Int)) ∧
          mv_R64 (100 * (M3 74 (Int.toNat c))) ∧
          mv_Wp G 222 [.inr (.inl (-(1 - (M3 42 (Int.toNat ((b * 48) + c)))))), .inr (.inl (100 * (M3 74 (Int.toNat c))))] (mh l) M3 (mv_ql (mh l) fun x4 M4 =>
          mv_R64 ((M3 26 (Int.toNat b)) - x4) ∧
          mv_Wp G 225 [.inr (.inl 1000), .inr (.inl ((M3 26 (Int.toNat b)) - x4))] (mh l) M4 (mv_ql (mh l) fun x5 M5 =>
          mv_Wp G 224 [.inr (.inl 0), .inr (.inl x5)] (mh l) M5 (mv_ql (mh l) fun x6 M6 =>
          mv_R32 x6 ∧
          post (some (.inl x6)) (mh l) M6)))
        else
          mv_R32 (x3 * 48) ∧
          mv_R32 ((x3 * 48) + c) ∧
          (0 ≤ ((x3 * 48) + c : Int) ∧ ((x3 * 48) + c : Int) < ((864 : Nat) : Int)) ∧
          (if b ≤ x3 then
            mv_R64 ((M3 42 (Int.toNat ((x3 * 48) + c))) + 0) ∧
            mv_R32 (b * 48) ∧
            mv_R32 ((b * 48) + c) ∧
            (0 ≤ ((b * 48) + c : Int) ∧ ((b * 48) + c : Int) < ((864 : Nat) : Int)) ∧
            mv_R64 (((M3 42 (Int.toNat ((x3 * 48) + c))) + 0) - (M3 42 (Int.toNat ((b * 48) + c)))) ∧
            (0 ≤ (b : Int) ∧ (b : Int) < ((18 : Nat) : Int)) ∧
            mv_R64 (-(((M3 42 (Int.toNat ((x3 * 48) + c))) + 0) - (M3 42 (Int.toNat ((b * 48) + c))))) ∧
            (0 ≤ (c : Int) ∧ (c : Int) < ((48 : Nat) : Int)) ∧
            mv_R64 (100 * (M3 74 (Int.toNat c))) ∧
            mv_Wp G 222 [.inr (.inl (-(((M3 42 (Int.toNat ((x3 * 48) + c))) + 0) - (M3 42 (Int.toNat ((b * 48) + c)))))), .inr (.inl (100 * (M3 74 (Int.toNat c))))] (mh l) M3 (mv_ql (mh l) fun x7 M7 =>
            mv_R64 ((M3 26 (Int.toNat b)) - x7) ∧
            mv_Wp G 225 [.inr (.inl 1000), .inr (.inl ((M3 26 (Int.toNat b)) - x7))] (mh l) M7 (mv_ql (mh l) fun x8 M8 =>
            mv_Wp G 224 [.inr (.inl 0), .inr (.inl x8)] (mh l) M8 (mv_ql (mh l) fun x9 M9 =>
            mv_R32 x9 ∧
            post (some (.inl x9)) (mh l) M9)))
          else
            mv_R64 ((M3 42 (Int.toNat ((x3 * 48) + c))) + 1) ∧
            mv_R32 (b * 48) ∧
            mv_R32 ((b * 48) + c) ∧
            (0 ≤ ((b * 48) + c : Int) ∧ ((b * 48) + c : Int) < ((864 : Nat) : Int)) ∧
            mv_R64 (((M3 42 (Int.toNat ((x3 * 48) + c))) + 1) - (M3 42 (Int.toNat ((b * 48) + c)))) ∧
            (0 ≤ (b : Int) ∧ (b : Int) < ((18 : Nat) : Int)) ∧
            mv_R64 (-(((M3 42 (Int.toNat ((x3 * 48) + c))) + 1) - (M3 42 (Int.toNat ((b * 48) + c))))) ∧
            (0 ≤ (c : Int) ∧ (c : Int) < ((48 : Nat) : Int)) ∧
            mv_R64 (100 * (M3 74 (Int.toNat c))) ∧
            mv_Wp G 222 [.inr (.inl (-(((M3 42 (Int.toNat ((x3 * 48) + c))) + 1) - (M3 42 (Int.toNat ((b * 48) + c)))))), .inr (.inl (100 * (M3 74 (Int.toNat c))))] (mh l) M3 (mv_ql (mh l) fun x10 M10 =>
            mv_R64 ((M3 26 (Int.toNat b)) - x10) ∧
            mv_Wp G 225 [.inr (.inl 1000), .inr (.inl ((M3 26 (Int.toNat b)) - x10))] (mh l) M10 (mv_ql (mh l) fun x11 M11 =>
            mv_Wp G 224 [.inr (.inl 0), .inr (.inl x11)] (mh l) M11 (mv_ql (mh l) fun x12 M12 =>
            mv_R32 x12 ∧
            post (some (.inl x12)) (mh l) M12)))))))))
  else
    post (some (.inl 1000)) (mh l) M1))) :
    mv_Wp G 52 [.inr (.inr 72), .inr (.inr 6), .inl b, .inl c] (mh l) M post := mv_wp [] 112 ok_52 oc_52 rfl h
set_option maxRecDepth 100000 in
theorem vw_X6_runRounds {G : mv_G} {l : Nat} {post : Option mv_V → mv_SH → mv_Mem → Prop} {M : mv_Mem} {b : Int} (h : mv_Run G 53 87 4749 2 [(0, .inr (.inr 72)), (1, .inr (.inr 6)), (2, .inl b), (3, .inl 1)] [] (mh l) M post) :
    mv_Wp G 53 [.inr (.inr 72), .inr (.inr 6), .inl b] (mh l) M post := mv_wp [(2, [0, 1, 2, 3])] 35 ok_53 oc_53 rfl h
set_option maxRecDepth 100000 in
theorem vr_X6_runRounds_2 {G : mv_G} {l : Nat} {post : Option mv_V → mv_SH → mv_Mem → Prop} {M : mv_Mem} {b v3 : Int} (h : (if b < v3 then
    post (some (.inl b)) (mh l) M
  else
    mv_Wp G 54 [.inr (.inr 72), .inr (.inr 6)] (mh l) M (mv_qi (mh l) fun x1 M1 =>
    (if x1 = 0 then
      post (some (.inl v3)) (mh l) M1
    else
      mv_R32 (v3 + 1) ∧
      mv_Run G 53 87 4749 2 [(0, .inr (.inr 72)), (1, .inr (.inr 6)), (2, .inl b), (3, .inl (v3 + 1))] [] (mh l) M1 post)))) :
    mv_Run G 53 87 4749 2 [(0, .inr (.inr 72)), (1, .inr (.inr 6)), (2, .inl b), (3, .inl v3)] [] (mh l) M post := mv_run [(2, [0, 1, 2, 3])] 35 ok_53 h
set_option maxRecDepth 100000 in
theorem vw_X6_runRound {G : mv_G} {l : Nat} {post : Option mv_V → mv_SH → mv_Mem → Prop} {M : mv_Mem} (h : mv_Run G 54 87 4749 13 [(0, .inr (.inr 72)), (1, .inr (.inr 6)), (2, .inr (.inr 17)), (3, .inl 0), (4, .inl 0)] [] (mh l) M post) :
    mv_Wp G 54 [.inr (.inr 72), .inr (.inr 6)] (mh l) M post := mv_wp [(13, [0, 1, 2, 3, 4])] 75 ok_54 oc_54 rfl h
set_option maxRecDepth 100000 in
theorem vr_X6_runRound_13 {G : mv_G} {l : Nat} {post : Option mv_V → mv_SH → mv_Mem → Prop} {M : mv_Mem} {v3 v4 : Int} (h : mv_R32 ((M 17 0) * 3) ∧
  (if ((M 17 0) * 3) ≤ v4 then
    ((v3 : Int) = 0 ∨ (v3 : Int) = 1) ∧ post (some (.inl v3)) (mh l) M
  else
    (0 ≤ (v4 : Int) ∧ (v4 : Int) < ((18 : Nat) : Int)) ∧
    (if (M 27 (Int.toNat v4)) ≤ 0 then
      mv_R32 (v4 + 1) ∧
      mv_Run G 54 87 4749 13 [(0, .inr (.inr 72)), (1, .inr (.inr 6)), (2, .inr (.inr 17)), (3, .inl v3), (4, .inl (v4 + 1))] [] (mh l) M post
    else
      ¬ (3 : Int) = 0 ∧
      (if (M 8 4) ≤ (Int.tmod v4 3) then
        mv_R32 (v4 + 1) ∧
        mv_Run G 54 87 4749 13 [(0, .inr (.inr 72)), (1, .inr (.inr 6)), (2, .inr (.inr 17)), (3, .inl v3), (4, .inl (v4 + 1))] [] (mh l) M post
      else
        mv_Wp G 50 [.inr (.inr 72), .inr (.inr 6), .inl v4] (mh l) M (mv_qi (mh l) fun x1 M1 =>
        (if x1 = (-9) then
          mv_R32 (v4 + 1) ∧
          mv_Run G 54 87 4749 13 [(0, .inr (.inr 72)), (1, .inr (.inr 6)), (2, .inr (.inr 17)), (3, .inl v3), (4, .inl (v4 + 1))] [] (mh l) M1 post
        else
          (0 ≤ (v4 : Int) ∧ (v4 : Int) < ((18 : Nat) : Int)) ∧
          (if x1 = (M1 26 (Int.toNat v4)) then
            mv_R32 (v4 + 1) ∧
            mv_Run G 54 87 4749 13 [(0, .inr (.inr 72)), (1, .inr (.inr 6)), (2, .inr (.inr 17)), (3, .inl v3), (4, .inl (v4 + 1))] [] (mh l) M1 post
          else
            (0 ≤ (v4 : Int) ∧ (v4 : Int) < ((18 : Nat) : Int)) ∧
            mv_Wp G 16 [.inr (.inr 6), .inl v4] (mh l) (mv_up M1 26 (Int.toNat v4) x1) (mv_qv (mh l) fun M2 =>
            mv_R32 (v4 + 1) ∧
            mv_Run G 54 87 4749 13 [(0, .inr (.inr 72)), (1, .inr (.inr 6)), (2, .inr (.inr 17)), (3, .inl 1), (4, .inl (v4 + 1))] [] (mh l) M2 post)))))))) :
    mv_Run G 54 87 4749 13 [(0, .inr (.inr 72)), (1, .inr (.inr 6)), (2, .inr (.inr 17)), (3, .inl v3), (4, .inl v4)] [] (mh l) M post := mv_run [(13, [0, 1, 2, 3, 4])] 75 ok_54 h
set_option maxRecDepth 100000 in
theorem vw_X6_bestToHold {G : mv_G} {l : Nat} {post : Option mv_V → mv_SH → mv_Mem → Prop} {M : mv_Mem} {b : Int} (h : (0 ≤ (0 : Int) ∧ 0 ≤ (0 : Int) ∧ 0 ≤ (18 : Int) ∧ 0 + 18 ≤ ((18 : Nat) : Int) ∧ 0 + 18 ≤ ((18 : Nat) : Int)) ∧
  (0 ≤ (0 : Int) ∧ 0 ≤ (0 : Int) ∧ 0 ≤ (864 : Int) ∧ 0 + 864 ≤ ((864 : Nat) : Int) ∧ 0 + 864 ≤ ((864 : Nat) : Int)) ∧
  mv_Wp G 56 [.inr (.inr 72), .inr (.inr 6), .inl b] (mh l) (mv_cp (mv_cp M 26 (Int.toNat 0) 75 (Int.toNat 0) (Int.toNat 18)) 42 (Int.toNat 0) 76 (Int.toNat 0) (Int.toNat 864)) (mv_ql (mh l) fun x1 M1 =>
  mv_Run G 55 87 4749 60 [(0, .inr (.inr 72)), (1, .inr (.inr 6)), (2, .inl b), (3, .inr (.inr 8)), (4, .inr (.inl x1)), (6, .inl (-9)), (7, .inl 0)] [] (mh l) M1 post)) :
    mv_Wp G 55 [.inr (.inr 72), .inr (.inr 6), .inl b] (mh l) M post := mv_wp [(60, [0, 1, 2, 3, 4, 6, 7])] 103 ok_55 oc_55 rfl h
set_option maxRecDepth 100000 in
theorem vr_X6_bestToHold_60 {G : mv_G} {l : Nat} {post : Option mv_V → mv_SH → mv_Mem → Prop} {M : mv_Mem} {b v4 v6 v7 : Int} (h : mv_R32 (10 * (M 8 0)) ∧
  (if (10 * (M 8 0)) ≤ v7 then
    post (some (.inl v6)) (mh l) M
  else
    mv_Wp G 4 [.inr (.inr 8), .inl v7] (mh l) M (mv_qi (mh l) fun x1 M1 =>
    (if x1 = (-1) then
      mv_R32 (v7 + 1) ∧
      mv_Run G 55 87 4749 60 [(0, .inr (.inr 72)), (1, .inr (.inr 6)), (2, .inl b), (3, .inr (.inr 8)), (4, .inr (.inl v4)), (6, .inl v6), (7, .inl (v7 + 1))] [] (mh l) M1 post
    else
      (0 ≤ (x1 : Int) ∧ (x1 : Int) < ((48 : Nat) : Int)) ∧
      (if (M1 12 (Int.toNat x1)) = b then
        (0 ≤ (x1 : Int) ∧ (x1 : Int) < ((48 : Nat) : Int)) ∧
        (if (M1 43 (Int.toNat x1)) = (-1) then
          mv_R32 (v7 + 1) ∧
          mv_Run G 55 87 4749 60 [(0, .inr (.inr 72)), (1, .inr (.inr 6)), (2, .inl b), (3, .inr (.inr 8)), (4, .inr (.inl v4)), (6, .inl v6), (7, .inl (v7 + 1))] [] (mh l) M1 post
        else
          (0 ≤ (x1 : Int) ∧ (x1 : Int) < ((48 : Nat) : Int)) ∧
          mv_Wp G 56 [.inr (.inr 72), .inr (.inr 6), .inl b] (mh l) (mv_up M1 13 (Int.toNat x1) 1) (mv_ql (mh l) fun x2 M2 =>
          (0 ≤ (x1 : Int) ∧ (x1 : Int) < ((48 : Nat) : Int)) ∧
          (if (mv_cmp x2 v4) ≤ 0 then
            mv_R32 (v7 + 1) ∧
            mv_Run G 55 87 4749 60 [(0, .inr (.inr 72)), (1, .inr (.inr 6)), (2, .inl b), (3, .inr (.inr 8)), (4, .inr (.inl v4)), (6, .inl v6), (7, .inl (v7 + 1))] [] (mh l) (mv_up M2 13 (Int.toNat x1) 0) post
          else
            mv_R32 (v7 + 1) ∧
            mv_Run G 55 87 4749 60 [(0, .inr (.inr 72)), (1, .inr (.inr 6)), (2, .inl b), (3, .inr (.inr 8)), (4, .inr (.inl x2)), (6, .inl v7), (7, .inl (v7 + 1))] [] (mh l) (mv_up M2 13 (Int.toNat x1) 0) post)))
      else
        mv_R32 (v7 + 1) ∧
        mv_Run G 55 87 4749 60 [(0, .inr (.inr 72)), (1, .inr (.inr 6)), (2, .inl b), (3, .inr (.inr 8)), (4, .inr (.inl v4)), (6, .inl v6), (7, .inl (v7 + 1))] [] (mh l) M1 post))))) :
    mv_Run G 55 87 4749 60 [(0, .inr (.inr 72)), (1, .inr (.inr 6)), (2, .inl b), (3, .inr (.inr 8)), (4, .inr (.inl v4)), (6, .inl v6), (7, .inl v7)] [] (mh l) M post := mv_run [(60, [0, 1, 2, 3, 4, 6, 7])] 103 ok_55 h
set_option maxRecDepth 100000 in
theorem vw_X6_rentsAfterRound {G : mv_G} {l : Nat} {post : Option mv_V → mv_SH → mv_Mem → Prop} {M : mv_Mem} {b : Int} (h : mv_Wp G 54 [.inr (.inr 72), .inr (.inr 6)] (mh l) M (mv_qi (mh l) fun x1 M1 =>
  mv_Wp G 23 [.inr (.inr 6), .inl b] (mh l) M1 (mv_ql (mh l) fun x2 M2 =>
  (0 ≤ (0 : Int) ∧ 0 ≤ (0 : Int) ∧ 0 ≤ (18 : Int) ∧ 0 + 18 ≤ ((18 : Nat) : Int) ∧ 0 + 18 ≤ ((18 : Nat) : Int)) ∧
  (0 ≤ (0 : Int) ∧ 0 ≤ (0 : Int) ∧ 0 ≤ (864 : Int) ∧ 0 + 864 ≤ ((864 : Nat) : Int) ∧ 0 + 864 ≤ ((864 : Nat) : Int)) ∧
  post (some (.inr (.inl x2))) (mh l) (mv_cp (mv_cp M2 75 (Int.toNat 0) 26 (Int.toNat 0) (Int.toNat 18)) 76 (Int.toNat 0) 42 (Int.toNat 0) (Int.toNat 864))))) :
    mv_Wp G 56 [.inr (.inr 72), .inr (.inr 6), .inl b] (mh l) M post := mv_wp [] 48 ok_56 oc_56 rfl h
set_option maxRecDepth 100000 in
theorem vw_X7_append {G : mv_G} {l : Nat} {post : Option mv_V → mv_SH → mv_Mem → Prop} {M : mv_Mem} {a b c d e : Int} (h : (if (M 17 0) < 6 then
    (0 ≤ (M 17 0 : Int) ∧ (M 17 0 : Int) < ((6 : Nat) : Int)) ∧
    (0 ≤ (M 17 0 : Int) ∧ (M 17 0 : Int) < ((6 : Nat) : Int)) ∧
    (0 ≤ (M 17 0 : Int) ∧ (M 17 0 : Int) < ((6 : Nat) : Int)) ∧
    (0 ≤ (M 17 0 : Int) ∧ (M 17 0 : Int) < ((6 : Nat) : Int)) ∧
    (0 ≤ (M 17 0 : Int) ∧ (M 17 0 : Int) < ((6 : Nat) : Int)) ∧
    mv_R32 ((M 17 0) + 1) ∧
    post (some (.inl (M 17 0))) (mh l) (mv_up (mv_up (mv_up (mv_up (mv_up (mv_up M 18 (Int.toNat (M 17 0)) a) 19 (Int.toNat (M 17 0)) b) 20 (Int.toNat (M 17 0)) c) 21 (Int.toNat (M 17 0)) d) 22 (Int.toNat (M 17 0)) e) 17 0 ((M 17 0) + 1))
  else
    post (some (.inl (-9))) (mh l) M)) :
    mv_Wp G 58 [.inr (.inr 17), .inl a, .inl b, .inl c, .inl d, .inl e] (mh l) M post := mv_wp [] 60 ok_58 oc_58 rfl h
set_option maxRecDepth 100000 in
theorem vw_X7_appendPiece {G : mv_G} {l : Nat} {post : Option mv_V → mv_SH → mv_Mem → Prop} {M : mv_Mem} {a b c : Int} (h : (0 ≤ (a : Int) ∧ (a : Int) < ((18 : Nat) : Int)) ∧
  (if 6 ≤ (M 27 (Int.toNat a)) then
    post none (mh l) M
  else
    mv_R32 (a * 6) ∧
    mv_R32 ((a * 6) + (M 27 (Int.toNat a))) ∧
    (0 ≤ ((a * 6) + (M 27 (Int.toNat a)) : Int) ∧ ((a * 6) + (M 27 (Int.toNat a)) : Int) < ((108 : Nat) : Int)) ∧
    mv_R32 (a * 6) ∧
    mv_R32 ((a * 6) + (M 27 (Int.toNat a))) ∧
    (0 ≤ ((a * 6) + (M 27 (Int.toNat a)) : Int) ∧ ((a * 6) + (M 27 (Int.toNat a)) : Int) < ((108 : Nat) : Int)) ∧
    mv_R32 ((M 27 (Int.toNat a)) + 1) ∧
    (0 ≤ (a : Int) ∧ (a : Int) < ((18 : Nat) : Int)) ∧
    post none (mh l) (mv_up (mv_up (mv_up M 28 (Int.toNat ((a * 6) + (M 27 (Int.toNat a)))) b) 29 (Int.toNat ((a * 6) + (M 27 (Int.toNat a)))) c) 27 (Int.toNat a) ((M 27 (Int.toNat a)) + 1)))) :
    mv_Wp G 59 [.inr (.inr 17), .inl a, .inl b, .inl c] (mh l) M post := mv_wp [] 54 ok_59 oc_59 rfl h
set_option maxRecDepth 100000 in
theorem vw_X7_takeFrom_i {G : mv_G} {l : Nat} {post : Option mv_V → mv_SH → mv_Mem → Prop} {M : mv_Mem} (h : (0 ≤ (0 : Int) ∧ 0 ≤ (0 : Int) ∧ 0 ≤ (6 : Int) ∧ 0 + 6 ≤ ((6 : Nat) : Int) ∧ 0 + 6 ≤ ((6 : Nat) : Int)) ∧
  (0 ≤ (0 : Int) ∧ 0 ≤ (0 : Int) ∧ 0 ≤ (6 : Int) ∧ 0 + 6 ≤ ((6 : Nat) : Int) ∧ 0 + 6 ≤ ((6 : Nat) : Int)) ∧
  (0 ≤ (0 : Int) ∧ 0 ≤ (0 : Int) ∧ 0 ≤ (6 : Int) ∧ 0 + 6 ≤ ((6 : Nat) : Int) ∧ 0 + 6 ≤ ((6 : Nat) : Int)) ∧
  (0 ≤ (0 : Int) ∧ 0 ≤ (0 : Int) ∧ 0 ≤ (6 : Int) ∧ 0 + 6 ≤ ((6 : Nat) : Int) ∧ 0 + 6 ≤ ((6 : Nat) : Int)) ∧
  (0 ≤ (0 : Int) ∧ 0 ≤ (0 : Int) ∧ 0 ≤ (6 : Int) ∧ 0 + 6 ≤ ((6 : Nat) : Int) ∧ 0 + 6 ≤ ((6 : Nat) : Int)) ∧
  (0 ≤ (0 : Int) ∧ 0 ≤ (0 : Int) ∧ 0 ≤ (6 : Int) ∧ 0 + 6 ≤ ((6 : Nat) : Int) ∧ 0 + 6 ≤ ((6 : Nat) : Int)) ∧
  (0 ≤ (0 : Int) ∧ 0 ≤ (0 : Int) ∧ 0 ≤ (6 : Int) ∧ 0 + 6 ≤ ((6 : Nat) : Int) ∧ 0 + 6 ≤ ((6 : Nat) : Int)) ∧
  (0 ≤ (0 : Int) ∧ 0 ≤ (0 : Int) ∧ 0 ≤ (6 : Int) ∧ 0 + 6 ≤ ((6 : Nat) : Int) ∧ 0 + 6 ≤ ((6 : Nat) : Int)) ∧
  (0 ≤ (0 : Int) ∧ 0 ≤ (0 : Int) ∧ 0 ≤ (18 : Int) ∧ 0 + 18 ≤ ((18 : Nat) : Int) ∧ 0 + 18 ≤ ((18 : Nat) : Int)) ∧
  (0 ≤ (0 : Int) ∧ 0 ≤ (0 : Int) ∧ 0 ≤ (18 : Int) ∧ 0 + 18 ≤ ((18 : Nat) : Int) ∧ 0 + 18 ≤ ((18 : Nat) : Int)) ∧
  (0 ≤ (0 : Int) ∧ 0 ≤ (0 : Int) ∧ 0 ≤ (108 : Int) ∧ 0 + 108 ≤ ((108 : Nat) : Int) ∧ 0 + 108 ≤ ((108 : Nat) : Int)) ∧
  (0 ≤ (0 : Int) ∧ 0 ≤ (0 : Int) ∧ 0 ≤ (108 : Int) ∧ 0 + 108 ≤ ((108 : Nat) : Int) ∧ 0 + 108 ≤ ((108 : Nat) : Int)) ∧
  post none (mh l) (mv_cp (mv_cp (mv_cp (mv_cp (mv_cp (mv_cp (mv_cp (mv_cp (mv_cp (mv_cp (mv_cp (mv_cp (mv_up (mv_up M 54 0 (M 17 0)) 54 1 ((mv_up M 54 0 (M 17 0)) 17 1)) 18 (Int.toNat 0) 55 (Int.toNat 0) (Int.toNat 6)) 19 (Int.toNat 0) 56 (Int.toNat 0) (Int.toNat 6)) 20 (Int.toNat 0) 57 (Int.toNat 0) (Int.toNat 6)) 21 (Int.toNat 0) 58 (Int.toNat 0) (Int.toNat 6)) 22 (Int.toNat 0) 59 (Int.toNat 0) (Int.toNat 6)) 23 (Int.toNat 0) 60 (Int.toNat 0) (Int.toNat 6)) 24 (Int.toNat 0) 61 (Int.toNat 0) (Int.toNat 6)) 25 (Int.toNat 0) 62 (Int.toNat 0) (Int.toNat 6)) 26 (Int.toNat 0) 63 (Int.toNat 0) (Int.toNat 18)) 27 (Int.toNat 0) 64 (Int.toNat 0) (Int.toNat 18)) 28 (Int.toNat 0) 65 (Int.toNat 0) (Int.toNat 108)) 29 (Int.toNat 0) 66 (Int.toNat 0) (Int.toNat 108))) :
    mv_Wp G 60 [.inr (.inr 54), .inr (.inr 17)] (mh l) M post := mv_wp [] 125 ok_60 oc_60 rfl h
set_option maxRecDepth 100000 in
theorem vw_X7_takeFrom_o {G : mv_G} {l : Nat} {post : Option mv_V → mv_SH → mv_Mem → Prop} {M : mv_Mem} (h : (0 ≤ (0 : Int) ∧ 0 ≤ (0 : Int) ∧ 0 ≤ (6 : Int) ∧ 0 + 6 ≤ ((6 : Nat) : Int) ∧ 0 + 6 ≤ ((6 : Nat) : Int)) ∧
  (0 ≤ (0 : Int) ∧ 0 ≤ (0 : Int) ∧ 0 ≤ (6 : Int) ∧ 0 + 6 ≤ ((6 : Nat) : Int) ∧ 0 + 6 ≤ ((6 : Nat) : Int)) ∧
  (0 ≤ (0 : Int) ∧ 0 ≤ (0 : Int) ∧ 0 ≤ (6 : Int) ∧ 0 + 6 ≤ ((6 : Nat) : Int) ∧ 0 + 6 ≤ ((6 : Nat) : Int)) ∧
  (0 ≤ (0 : Int) ∧ 0 ≤ (0 : Int) ∧ 0 ≤ (6 : Int) ∧ 0 + 6 ≤ ((6 : Nat) : Int) ∧ 0 + 6 ≤ ((6 : Nat) : Int)) ∧
  (0 ≤ (0 : Int) ∧ 0 ≤ (0 : Int) ∧ 0 ≤ (6 : Int) ∧ 0 + 6 ≤ ((6 : Nat) : Int) ∧ 0 + 6 ≤ ((6 : Nat) : Int)) ∧
  (0 ≤ (0 : Int) ∧ 0 ≤ (0 : Int) ∧ 0 ≤ (6 : Int) ∧ 0 + 6 ≤ ((6 : Nat) : Int) ∧ 0 + 6 ≤ ((6 : Nat) : Int)) ∧
  (0 ≤ (0 : Int) ∧ 0 ≤ (0 : Int) ∧ 0 ≤ (6 : Int) ∧ 0 + 6 ≤ ((6 : Nat) : Int) ∧ 0 + 6 ≤ ((6 : Nat) : Int)) ∧
  (0 ≤ (0 : Int) ∧ 0 ≤ (0 : Int) ∧ 0 ≤ (6 : Int) ∧ 0 + 6 ≤ ((6 : Nat) : Int) ∧ 0 + 6 ≤ ((6 : Nat) : Int)) ∧
  (0 ≤ (0 : Int) ∧ 0 ≤ (0 : Int) ∧ 0 ≤ (18 : Int) ∧ 0 + 18 ≤ ((18 : Nat) : Int) ∧ 0 + 18 ≤ ((18 : Nat) : Int)) ∧
  (0 ≤ (0 : Int) ∧ 0 ≤ (0 : Int) ∧ 0 ≤ (18 : Int) ∧ 0 + 18 ≤ ((18 : Nat) : Int) ∧ 0 + 18 ≤ ((18 : Nat) : Int)) ∧
  (0 ≤ (0 : Int) ∧ 0 ≤ (0 : Int) ∧ 0 ≤ (108 : Int) ∧ 0 + 108 ≤ ((108 : Nat) : Int) ∧ 0 + 108 ≤ ((108 : Nat) : Int)) ∧
  (0 ≤ (0 : Int) ∧ 0 ≤ (0 : Int) ∧ 0 ≤ (108 : Int) ∧ 0 + 108 ≤ ((108 : Nat) : Int) ∧ 0 + 108 ≤ ((108 : Nat) : Int)) ∧
  post none (mh l) (mv_cp (mv_cp (mv_cp (mv_cp (mv_cp (mv_cp (mv_cp (mv_cp (mv_cp (mv_cp (mv_cp (mv_cp (mv_up (mv_up M 17 0 (M 54 0)) 17 1 ((mv_up M 17 0 (M 54 0)) 54 1)) 55 (Int.toNat 0) 18 (Int.toNat 0) (Int.toNat 6)) 56 (Int.toNat 0) 19 (Int.toNat 0) (Int.toNat 6)) 57 (Int.toNat 0) 20 (Int.toNat 0) (Int.toNat 6)) 58 (Int.toNat 0) 21 (Int.toNat 0) (Int.toNat 6)) 59 (Int.toNat 0) 22 (Int.toNat 0) (Int.toNat 6)) 60 (Int.toNat 0) 23 (Int.toNat 0) (Int.toNat 6)) 61 (Int.toNat 0) 24 (Int.toNat 0) (Int.toNat 6)) 62 (Int.toNat 0) 25 (Int.toNat 0) (Int.toNat 6)) 63 (Int.toNat 0) 26 (Int.toNat 0) (Int.toNat 18)) 64 (Int.toNat 0) 27 (Int.toNat 0) (Int.toNat 18)) 65 (Int.toNat 0) 28 (Int.toNat 0) (Int.toNat 108)) 66 (Int.toNat 0) 29 (Int.toNat 0) (Int.toNat 108))) :
    mv_Wp G 60 [.inr (.inr 17), .inr (.inr 54)] (mh l) M post := mv_wp [] 125 ok_60 oc_60 rfl h
set_option maxRecDepth 100000 in
theorem vw_X7_yieldOn {G : mv_G} {l : Nat} {post : Option mv_V → mv_SH → mv_Mem → Prop} {M : mv_Mem} {a b : Int} (h : (0 ≤ (a : Int) ∧ (a : Int) < ((6 : Nat) : Int)) ∧
  (if (M 18 (Int.toNat a)) = 4 then
    (0 ≤ (a : Int) ∧ (a : Int) < ((6 : Nat) : Int)) ∧
    post (some (.inl (M 19 (Int.toNat a)))) (mh l) M
  else
    (0 ≤ (a : Int) ∧ (a : Int) < ((6 : Nat) : Int)) ∧
    (0 ≤ (a : Int) ∧ (a : Int) < ((6 : Nat) : Int)) ∧
    mv_R32 ((M 20 (Int.toNat a)) * b) ∧
    mv_R32 ((M 19 (Int.toNat a)) + ((M 20 (Int.toNat a)) * b)) ∧
    post (some (.inl ((M 19 (Int.toNat a)) + ((M 20 (Int.toNat a)) * b)))) (mh l) M)) :
    mv_Wp G 61 [.inr (.inr 17), .inl a, .inl b] (mh l) M post := mv_wp [] 43 ok_61 oc_61 rfl h
set_option maxRecDepth 100000 in
theorem vw_X7_reckonedPrice {G : mv_G} {l : Nat} {post : Option mv_V → mv_SH → mv_Mem → Prop} {M : mv_Mem} {a : Int} (h : (¬ (3 : Int) = 0 ∧ mv_R32 (Int.tdiv a 3)) ∧
  (0 ≤ (Int.tdiv a 3 : Int) ∧ (Int.tdiv a 3 : Int) < ((6 : Nat) : Int)) ∧
  (if (M 24 (Int.toNat (Int.tdiv a 3))) = 0 then
    (0 ≤ (a : Int) ∧ (a : Int) < ((18 : Nat) : Int)) ∧
    post (some (.inl (M 26 (Int.toNat a)))) (mh l) M
  else
    (0 ≤ (a : Int) ∧ (a : Int) < ((18 : Nat) : Int)) ∧
    (0 ≤ (Int.tdiv a 3 : Int) ∧ (Int.tdiv a 3 : Int) < ((6 : Nat) : Int)) ∧
    (¬ (M 24 (Int.toNat (Int.tdiv a 3)) : Int) = 0 ∧ mv_R32 (Int.tdiv (M 25 (Int.toNat (Int.tdiv a 3))) (M 24 (Int.toNat (Int.tdiv a 3))))) ∧
    mv_R32 ((M 26 (Int.toNat a)) + (Int.tdiv (M 25 (Int.toNat (Int.tdiv a 3))) (M 24 (Int.toNat (Int.tdiv a 3))))) ∧
    post (some (.inl ((M 26 (Int.toNat a)) + (Int.tdiv (M 25 (Int.toNat (Int.tdiv a 3))) (M 24 (Int.toNat (Int.tdiv a 3))))))) (mh l) M)) :
    mv_Wp G 62 [.inr (.inr 17), .inl a] (mh l) M post := mv_wp [] 48 ok_62 oc_62 rfl h
set_option maxRecDepth 100000 in
theorem vw_X7_payAtHome {G : mv_G} {l : Nat} {post : Option mv_V → mv_SH → mv_Mem → Prop} {M : mv_Mem} {a b : Int} (h : (¬ (3 : Int) = 0 ∧ mv_R32 (Int.tdiv a 3)) ∧
  mv_Wp G 61 [.inr (.inr 17), .inl (Int.tdiv a 3), .inl b] (mh l) M (mv_qi (mh l) fun x1 M1 =>
  mv_Wp G 62 [.inr (.inr 17), .inl a] (mh l) M1 (mv_qi (mh l) fun x2 M2 =>
  mv_R64 (x1 * x2) ∧
  (0 ≤ (Int.tdiv a 3 : Int) ∧ (Int.tdiv a 3 : Int) < ((6 : Nat) : Int)) ∧
  mv_R64 ((x1 * x2) - (M2 21 (Int.toNat (Int.tdiv a 3)))) ∧
  (0 ≤ (Int.tdiv a 3 : Int) ∧ (Int.tdiv a 3 : Int) < ((6 : Nat) : Int)) ∧
  mv_R64 (((x1 * x2) - (M2 21 (Int.toNat (Int.tdiv a 3)))) - (M2 23 (Int.toNat (Int.tdiv a 3)))) ∧
  mv_R64 (100 * (((x1 * x2) - (M2 21 (Int.toNat (Int.tdiv a 3)))) - (M2 23 (Int.toNat (Int.tdiv a 3))))) ∧
  post (some (.inr (.inl (100 * (((x1 * x2) - (M2 21 (Int.toNat (Int.tdiv a 3)))) - (M2 23 (Int.toNat (Int.tdiv a 3)))))))) (mh l) M2))) :
    mv_Wp G 63 [.inr (.inr 17), .inl a, .inl b] (mh l) M post := mv_wp [] 51 ok_63 oc_63 rfl h
set_option maxRecDepth 100000 in
theorem vw_X7_carriage {G : mv_G} {l : Nat} {post : Option mv_V → mv_SH → mv_Mem → Prop} {M : mv_Mem} {a b : Int} (h : (0 ≤ (a : Int) ∧ (a : Int) < ((6 : Nat) : Int)) ∧
  (if (M 18 (Int.toNat a)) = 1 then
    (0 ≤ (a : Int) ∧ (a : Int) < ((6 : Nat) : Int)) ∧
    (¬ (2 : Int) = 0 ∧ mv_R32 (Int.tdiv (M 22 (Int.toNat a)) 2)) ∧
    mv_Wp G 61 [.inr (.inr 17), .inl a, .inl b] (mh l) M (mv_qi (mh l) fun x2 M2 =>
    mv_R64 ((Int.tdiv (M 22 (Int.toNat a)) 2) * x2) ∧
    post (some (.inr (.inl ((Int.tdiv (M 22 (Int.toNat a)) 2) * x2)))) (mh l) M2)
  else
    (0 ≤ (a : Int) ∧ (a : Int) < ((6 : Nat) : Int)) ∧
    mv_Wp G 61 [.inr (.inr 17), .inl a, .inl b] (mh l) M (mv_qi (mh l) fun x1 M1 =>
    mv_R64 ((M 22 (Int.toNat a)) * x1) ∧
    post (some (.inr (.inl ((M 22 (Int.toNat a)) * x1)))) (mh l) M1))) :
    mv_Wp G 64 [.inr (.inr 17), .inl a, .inl b] (mh l) M post := mv_wp [] 47 ok_64 oc_64 rfl h
set_option maxRecDepth 100000 in
theorem vw_X7_canGo {G : mv_G} {l : Nat} {post : Option mv_V → mv_SH → mv_Mem → Prop} {M : mv_Mem} {a b : Int} (h : (0 ≤ (a : Int) ∧ (a : Int) < ((6 : Nat) : Int)) ∧
  (if (M 18 (Int.toNat a)) = 5 then
    ((0 : Int) = 0 ∨ (0 : Int) = 1) ∧ post (some (.inl 0)) (mh l) M
  else
    (0 ≤ (a : Int) ∧ (a : Int) < ((6 : Nat) : Int)) ∧
    (if (M 18 (Int.toNat a)) = 2 then
      (if 60 < b then
        ((0 : Int) = 0 ∨ (0 : Int) = 1) ∧ post (some (.inl 0)) (mh l) M
      else
        ((1 : Int) = 0 ∨ (1 : Int) = 1) ∧ post (some (.inl 1)) (mh l) M)
    else
      ((1 : Int) = 0 ∨ (1 : Int) = 1) ∧ post (some (.inl 1)) (mh l) M))) :
    mv_Wp G 65 [.inr (.inr 17), .inl a, .inl b] (mh l) M post := mv_wp [] 41 ok_65 oc_65 rfl h
set_option maxRecDepth 100000 in
theorem vw_X7_boughtAt {G : mv_G} {l : Nat} {post : Option mv_V → mv_SH → mv_Mem → Prop} {M : mv_Mem} {a b : Int} (h : mv_R32 (a * 6) ∧
  mv_Run G 66 87 4749 8 [(0, .inr (.inr 17)), (1, .inl a), (2, .inl b), (3, .inl 0), (4, .inl (a * 6))] [] (mh l) M post) :
    mv_Wp G 66 [.inr (.inr 17), .inl a, .inl b] (mh l) M post := mv_wp [(8, [0, 1, 2, 3, 4])] 53 ok_66 oc_66 rfl h
set_option maxRecDepth 100000 in
theorem vr_X7_boughtAt_8 {G : mv_G} {l : Nat} {post : Option mv_V → mv_SH → mv_Mem → Prop} {M : mv_Mem} {a b v3 v4 : Int} (h : mv_R32 (a * 6) ∧
  (0 ≤ (a : Int) ∧ (a : Int) < ((18 : Nat) : Int)) ∧
  mv_R32 ((a * 6) + (M 27 (Int.toNat a))) ∧
  (if ((a * 6) + (M 27 (Int.toNat a))) ≤ v4 then
    post (some (.inl v3)) (mh l) M
  else
    (0 ≤ (v4 : Int) ∧ (v4 : Int) < ((108 : Nat) : Int)) ∧
    (if (M 29 (Int.toNat v4)) < b then
      mv_R32 (v4 + 1) ∧
      mv_Run G 66 87 4749 8 [(0, .inr (.inr 17)), (1, .inl a), (2, .inl b), (3, .inl v3), (4, .inl (v4 + 1))] [] (mh l) M post
    else
      (0 ≤ (v4 : Int) ∧ (v4 : Int) < ((108 : Nat) : Int)) ∧
      mv_R32 (v3 + (M 28 (Int.toNat v4))) ∧
      mv_R32 (v4 + 1) ∧
      mv_Run G 66 87 4749 8 [(0, .inr (.inr 17)), (1, .inl a), (2, .inl b), (3, .inl (v3 + (M 28 (Int.toNat v4)))), (4, .inl (v4 + 1))] [] (mh l) M post))) :
    mv_Run G 66 87 4749 8 [(0, .inr (.inr 17)), (1, .inl a), (2, .inl b), (3, .inl v3), (4, .inl v4)] [] (mh l) M post := mv_run [(8, [0, 1, 2, 3, 4])] 53 ok_66 h
set_option maxRecDepth 100000 in
theorem vw_X8_reckonFoot {G : mv_G} {l : Nat} {post : Option mv_V → mv_SH → mv_Mem → Prop} {M : mv_Mem} (h : mv_Run G 68 87 4749 2 [(0, .inr (.inr 35)), (1, .inr (.inr 8)), (2, .inl 0)] [] (mh l) M post) :
    mv_Wp G 68 [.inr (.inr 35), .inr (.inr 8)] (mh l) M post := mv_wp [(2, [0, 1, 2]), (12, [0, 1, 2, 3]), (81, [0, 1, 2])] 92 ok_68 oc_68 rfl h
set_option maxRecDepth 100000 in
theorem vr_X8_reckonFoot_2 {G : mv_G} {l : Nat} {post : Option mv_V → mv_SH → mv_Mem → Prop} {M : mv_Mem} {v2 : Int} (h : (if (M 8 2) ≤ v2 then
    mv_Run G 68 87 4749 81 [(0, .inr (.inr 35)), (1, .inr (.inr 8)), (2, .inl 0)] [] (mh l) M post
  else
    mv_Run G 68 87 4749 12 [(0, .inr (.inr 35)), (1, .inr (.inr 8)), (2, .inl v2), (3, .inl 0)] [] (mh l) M post)) :
    mv_Run G 68 87 4749 2 [(0, .inr (.inr 35)), (1, .inr (.inr 8)), (2, .inl v2)] [] (mh l) M post := mv_run [(2, [0, 1, 2]), (12, [0, 1, 2, 3]), (81, [0, 1, 2])] 92 ok_68 h
set_option maxRecDepth 100000 in
theorem vr_X8_reckonFoot_12 {G : mv_G} {l : Nat} {post : Option mv_V → mv_SH → mv_Mem → Prop} {M : mv_Mem} {v2 v3 : Int} (h : (if 4 ≤ v3 then
    mv_R32 (v2 + 1) ∧
    mv_Run G 68 87 4749 2 [(0, .inr (.inr 35)), (1, .inr (.inr 8)), (2, .inl (v2 + 1))] [] (mh l) M post
  else
    mv_Wp G 5 [.inr (.inr 8), .inl v2, .inl v3] (mh l) M (mv_qi (mh l) fun x1 M1 =>
    mv_R32 (v2 * 4) ∧
    mv_R32 ((v2 * 4) + v3) ∧
    (0 ≤ ((v2 * 4) + v3 : Int) ∧ ((v2 * 4) + v3 : Int) < ((192 : Nat) : Int)) ∧
    mv_R32 (v2 * 4) ∧
    mv_R32 ((v2 * 4) + v3) ∧
    (if x1 = (-1) then
      (0 ≤ ((v2 * 4) + v3 : Int) ∧ ((v2 * 4) + v3 : Int) < ((192 : Nat) : Int)) ∧
      mv_R32 (v3 + 1) ∧
      mv_Run G 68 87 4749 12 [(0, .inr (.inr 35)), (1, .inr (.inr 8)), (2, .inl v2), (3, .inl (v3 + 1))] [] (mh l) (mv_up (mv_up M1 39 (Int.toNat ((v2 * 4) + v3)) x1) 41 (Int.toNat ((v2 * 4) + v3)) 0) post
    else
      (0 ≤ (x1 : Int) ∧ (x1 : Int) < ((48 : Nat) : Int)) ∧
      mv_R32 (10 + ((mv_up M1 39 (Int.toNat ((v2 * 4) + v3)) x1) 11 (Int.toNat x1))) ∧
      (0 ≤ ((v2 * 4) + v3 : Int) ∧ ((v2 * 4) + v3 : Int) < ((192 : Nat) : Int)) ∧
      mv_R32 (v3 + 1) ∧
      mv_Run G 68 87 4749 12 [(0, .inr (.inr 35)), (1, .inr (.inr 8)), (2, .inl v2), (3, .inl (v3 + 1))] [] (mh l) (mv_up (mv_up M1 39 (Int.toNat ((v2 * 4) + v3)) x1) 41 (Int.toNat ((v2 * 4) + v3)) (10 + ((mv_up M1 39 (Int.toNat ((v2 * 4) + v3)) x1) 11 (Int.toNat x1)))) post)))) :
    mv_Run G 68 87 4749 12 [(0, .inr (.inr 35)), (1, .inr (.inr 8)), (2, .inl v2), (3, .inl v3)] [] (mh l) M post := mv_run [(2, [0, 1, 2]), (12, [0, 1, 2, 3]), (81, [0, 1, 2])] 92 ok_68 h
set_option maxRecDepth 100000 in
theorem vr_X8_reckonFoot_81 {G : mv_G} {l : Nat} {post : Option mv_V → mv_SH → mv_Mem → Prop} {M : mv_Mem} {v2 : Int} (h : (if (M 8 4) ≤ v2 then
    post none (mh l) M
  else
    (0 ≤ (v2 : Int) ∧ (v2 : Int) < ((3 : Nat) : Int)) ∧
    mv_R32 (v2 * 48) ∧
    mv_Wp G 71 [.inr (.inr 35), .inl (M 8 2), .inl (M 15 (Int.toNat v2)), .inr (.inr 41), .inr (.inr 37), .inl (v2 * 48)] (mh l) M (mv_qv (mh l) fun M1 =>
    mv_R32 (v2 + 1) ∧
    mv_Run G 68 87 4749 81 [(0, .inr (.inr 35)), (1, .inr (.inr 8)), (2, .inl (v2 + 1))] [] (mh l) M1 post))) :
    mv_Run G 68 87 4749 81 [(0, .inr (.inr 35)), (1, .inr (.inr 8)), (2, .inl v2)] [] (mh l) M post := mv_run [(2, [0, 1, 2]), (12, [0, 1, 2, 3]), (81, [0, 1, 2])] 92 ok_68 h
set_option maxRecDepth 100000 in
theorem vw_X8_reckonRoads {G : mv_G} {l : Nat} {post : Option mv_V → mv_SH → mv_Mem → Prop} {M : mv_Mem} (h : mv_Run G 69 87 4749 2 [(0, .inr (.inr 35)), (1, .inr (.inr 8)), (2, .inl 0)] [] (mh l) M post) :
    mv_Wp G 69 [.inr (.inr 35), .inr (.inr 8)] (mh l) M post := mv_wp [(2, [0, 1, 2]), (78, [0, 1, 2])] 90 ok_69 oc_69 rfl h
set_option maxRecDepth 100000 in
theorem vr_X8_reckonRoads_2 {G : mv_G} {l : Nat} {post : Option mv_V → mv_SH → mv_Mem → Prop} {M : mv_Mem} {v2 : Int} (h : mv_R32 ((M 8 2) * 4) ∧
  (if ((M 8 2) * 4) ≤ v2 then
    mv_Run G 69 87 4749 78 [(0, .inr (.inr 35)), (1, .inr (.inr 8)), (2, .inl 0)] [] (mh l) M post
  else
    (0 ≤ (v2 : Int) ∧ (v2 : Int) < ((192 : Nat) : Int)) ∧
    (0 ≤ (v2 : Int) ∧ (v2 : Int) < ((192 : Nat) : Int)) ∧
    (if (M 14 (Int.toNat v2)) = 4 then
      (if (M 39 (Int.toNat v2)) = (-1) then
        (0 ≤ (v2 : Int) ∧ (v2 : Int) < ((192 : Nat) : Int)) ∧
        mv_R32 (v2 + 1) ∧
        mv_Run G 69 87 4749 2 [(0, .inr (.inr 35)), (1, .inr (.inr 8)), (2, .inl (v2 + 1))] [] (mh l) (mv_up M 40 (Int.toNat v2) 0) post
      else
        (0 ≤ (0 : Int) ∧ (0 : Int) < ((4 : Nat) : Int)) ∧
        (0 ≤ (M 39 (Int.toNat v2) : Int) ∧ (M 39 (Int.toNat v2) : Int) < ((48 : Nat) : Int)) ∧
        mv_R32 ((M 16 (Int.toNat 0)) + (M 11 (Int.toNat (M 39 (Int.toNat v2))))) ∧
        (0 ≤ (v2 : Int) ∧ (v2 : Int) < ((192 : Nat) : Int)) ∧
        mv_R32 (v2 + 1) ∧
        mv_Run G 69 87 4749 2 [(0, .inr (.inr 35)), (1, .inr (.inr 8)), (2, .inl (v2 + 1))] [] (mh l) (mv_up M 40 (Int.toNat v2) ((M 16 (Int.toNat 0)) + (M 11 (Int.toNat (M 39 (Int.toNat v2)))))) post)
    else
      (0 ≤ (v2 : Int) ∧ (v2 : Int) < ((192 : Nat) : Int)) ∧
      (if (M 39 (Int.toNat v2)) = (-1) then
        (0 ≤ (v2 : Int) ∧ (v2 : Int) < ((192 : Nat) : Int)) ∧
        mv_R32 (v2 + 1) ∧
        mv_Run G 69 87 4749 2 [(0, .inr (.inr 35)), (1, .inr (.inr 8)), (2, .inl (v2 + 1))] [] (mh l) (mv_up M 40 (Int.toNat v2) 0) post
      else
        (0 ≤ (M 14 (Int.toNat v2) : Int) ∧ (M 14 (Int.toNat v2) : Int) < ((4 : Nat) : Int)) ∧
        (0 ≤ (M 39 (Int.toNat v2) : Int) ∧ (M 39 (Int.toNat v2) : Int) < ((48 : Nat) : Int)) ∧
        mv_R32 ((M 16 (Int.toNat (M 14 (Int.toNat v2)))) + (M 11 (Int.toNat (M 39 (Int.toNat v2))))) ∧
        (0 ≤ (v2 : Int) ∧ (v2 : Int) < ((192 : Nat) : Int)) ∧
        mv_R32 (v2 + 1) ∧
        mv_Run G 69 87 4749 2 [(0, .inr (.inr 35)), (1, .inr (.inr 8)), (2, .inl (v2 + 1))] [] (mh l) (mv_up M 40 (Int.toNat v2) ((M 16 (Int.toNat (M 14 (Int.toNat v2)))) + (M 11 (Int.toNat (M 39 (Int.toNat v2)))))) post)))) :
    mv_Run G 69 87 4749 2 [(0, .inr (.inr 35)), (1, .inr (.inr 8)), (2, .inl v2)] [] (mh l) M post := mv_run [(2, [0, 1, 2]), (78, [0, 1, 2])] 90 ok_69 h
set_option maxRecDepth 100000 in
theorem vr_X8_reckonRoads_78 {G : mv_G} {l : Nat} {post : Option mv_V → mv_SH → mv_Mem → Prop} {M : mv_Mem} {v2 : Int} (h : (if (M 8 4) ≤ v2 then
    post none (mh l) M
  else
    (0 ≤ (v2 : Int) ∧ (v2 : Int) < ((3 : Nat) : Int)) ∧
    mv_R32 (v2 * 48) ∧
    mv_Wp G 71 [.inr (.inr 35), .inl (M 8 2), .inl (M 15 (Int.toNat v2)), .inr (.inr 40), .inr (.inr 36), .inl (v2 * 48)] (mh l) M (mv_qv (mh l) fun M1 =>
    mv_R32 (v2 + 1) ∧
    mv_Run G 69 87 4749 78 [(0, .inr (.inr 35)), (1, .inr (.inr 8)), (2, .inl (v2 + 1))] [] (mh l) M1 post))) :
    mv_Run G 69 87 4749 78 [(0, .inr (.inr 35)), (1, .inr (.inr 8)), (2, .inl v2)] [] (mh l) M post := mv_run [(2, [0, 1, 2]), (78, [0, 1, 2])] 90 ok_69 h
set_option maxRecDepth 100000 in
theorem vw_X8_search {G : mv_G} {l : Nat} {post : Option mv_V → mv_SH → mv_Mem → Prop} {M : mv_Mem} {a b e : Int} {c d : Nat} (h : mv_Run G 71 87 4749 3 [(0, .inr (.inr 35)), (1, .inl a), (2, .inl b), (3, .inr (.inr c)), (4, .inr (.inr d)), (5, .inl e), (6, .inl 0)] [] (mh l) M post) :
    mv_Wp G 71 [.inr (.inr 35), .inl a, .inl b, .inr (.inr c), .inr (.inr d), .inl e] (mh l) M post := mv_wp [(3, [0, 1, 2, 3, 4, 5, 6]), (39, [0, 1, 3, 4, 5, 6, 7]), (57, [0, 1, 3, 4, 5, 6, 7, 8])] 94 ok_71 oc_71 rfl h
set_option maxRecDepth 100000 in
theorem vr_X8_search_3 {G : mv_G} {l : Nat} {post : Option mv_V → mv_SH → mv_Mem → Prop} {M : mv_Mem} {a b e v6 : Int} {c d : Nat} (h : (if a ≤ v6 then
    mv_R32 (e + b) ∧
    (if 1 ≤ d ∧ d ≤ (mh l).1 ∧ (mh l).2.2.1 d = 100 then (0 ≤ (e + b : Int) ∧ (e + b : Int) < (((mh l).2.2.2.1 d : Nat) : Int)) ∧
    mv_Run G 71 87 4749 39 [(0, .inr (.inr 35)), (1, .inl a), (3, .inr (.inr c)), (4, .inr (.inr d)), (5, .inl e), (6, .inl 1), (7, .inl 0)] [] (mh l) (mv_up M d (Int.toNat (e + b)) 0) post else False)
  else
    mv_R32 (e + v6) ∧
    (if 1 ≤ d ∧ d ≤ (mh l).1 ∧ (mh l).2.2.1 d = 100 then (0 ≤ (e + v6 : Int) ∧ (e + v6 : Int) < (((mh l).2.2.2.1 d : Nat) : Int)) ∧
    mv_R32 (v6 + 1) ∧
    mv_Run G 71 87 4749 3 [(0, .inr (.inr 35)), (1, .inl a), (2, .inl b), (3, .inr (.inr c)), (4, .inr (.inr d)), (5, .inl e), (6, .inl (v6 + 1))] [] (mh l) (mv_up M d (Int.toNat (e + v6)) 268435456) post else False))) :
    mv_Run G 71 87 4749 3 [(0, .inr (.inr 35)), (1, .inl a), (2, .inl b), (3, .inr (.inr c)), (4, .inr (.inr d)), (5, .inl e), (6, .inl v6)] [] (mh l) M post := mv_run [(3, [0, 1, 2, 3, 4, 5, 6]), (39, [0, 1, 3, 4, 5, 6, 7]), (57, [0, 1, 3, 4, 5, 6, 7, 8])] 94 ok_71 h
set_option maxRecDepth 100000 in
theorem vr_X8_search_39 {G : mv_G} {l : Nat} {post : Option mv_V → mv_SH → mv_Mem → Prop} {M : mv_Mem} {a e v6 v7 : Int} {c d : Nat} (h : (if 48 ≤ v7 then
    post none (mh l) M
  else
    (if v6 = 0 then
      post none (mh l) M
    else
      mv_Run G 71 87 4749 57 [(0, .inr (.inr 35)), (1, .inl a), (3, .inr (.inr c)), (4, .inr (.inr d)), (5, .inl e), (6, .inl 0), (7, .inl v7), (8, .inl 0)] [] (mh l) M post))) :
    mv_Run G 71 87 4749 39 [(0, .inr (.inr 35)), (1, .inl a), (3, .inr (.inr c)), (4, .inr (.inr d)), (5, .inl e), (6, .inl v6), (7, .inl v7)] [] (mh l) M post := mv_run [(3, [0, 1, 2, 3, 4, 5, 6]), (39, [0, 1, 3, 4, 5, 6, 7]), (57, [0, 1, 3, 4, 5, 6, 7, 8])] 94 ok_71 h
set_option maxRecDepth 100000 in
theorem vr_X8_search_57 {G : mv_G} {l : Nat} {post : Option mv_V → mv_SH → mv_Mem → Prop} {M : mv_Mem} {a e v6 v7 v8 : Int} {c d : Nat} (h : (if a ≤ v8 then
    mv_R32 (v7 + 1) ∧
    mv_Run G 71 87 4749 39 [(0, .inr (.inr 35)), (1, .inl a), (3, .inr (.inr c)), (4, .inr (.inr d)), (5, .inl e), (6, .inl v6), (7, .inl (v7 + 1))] [] (mh l) M post
  else
    (if (mv_and v7 1) = 0 then
      mv_Wp G 72 [.inr (.inr 35), .inl v8, .inr (.inr c), .inr (.inr d), .inl e] (mh l) M (mv_qi (mh l) fun x2 M2 =>
      mv_R32 (e + v8) ∧
      (if d ≤ (mh l).1 ∧ (mh l).2.2.1 d = 100 then (0 ≤ (e + v8 : Int) ∧ (e + v8 : Int) < (((mh l).2.2.2.1 d : Nat) : Int)) ∧
      (if (M2 d (Int.toNat (e + v8))) ≤ x2 then
        mv_R32 (v8 + 1) ∧
        mv_Run G 71 87 4749 57 [(0, .inr (.inr 35)), (1, .inl a), (3, .inr (.inr c)), (4, .inr (.inr d)), (5, .inl e), (6, .inl v6), (7, .inl v7), (8, .inl (v8 + 1))] [] (mh l) M2 post
      else
        mv_R32 (e + v8) ∧
        (if 1 ≤ d ∧ d ≤ (mh l).1 ∧ (mh l).2.2.1 d = 100 then (0 ≤ (e + v8 : Int) ∧ (e + v8 : Int) < (((mh l).2.2.2.1 d : Nat) : Int)) ∧
        mv_R32 (v8 + 1) ∧
        mv_Run G 71 87 4749 57 [(0, .inr (.inr 35)), (1, .inl a), (3, .inr (.inr c)), (4, .inr (.inr d)), (5, .inl e), (6, .inl 1), (7, .inl v7), (8, .inl (v8 + 1))] [] (mh l) (mv_up M2 d (Int.toNat (e + v8)) x2) post else False)) else False))
    else
      mv_R32 (a - 1) ∧
      mv_R32 ((a - 1) - v8) ∧
      mv_Wp G 72 [.inr (.inr 35), .inl ((a - 1) - v8), .inr (.inr c), .inr (.inr d), .inl e] (mh l) M (mv_qi (mh l) fun x1 M1 =>
      mv_R32 (e + ((a - 1) - v8)) ∧
      (if d ≤ (mh l).1 ∧ (mh l).2.2.1 d = 100 then (0 ≤ (e + ((a - 1) - v8) : Int) ∧ (e + ((a - 1) - v8) : Int) < (((mh l).2.2.2.1 d : Nat) : Int)) ∧
      (if (M1 d (Int.toNat (e + ((a - 1) - v8)))) ≤ x1 then
        mv_R32 (v8 + 1) ∧
        mv_Run G 71 87 4749 57 [(0, .inr (.inr 35)), (1, .inl a), (3, .inr (.inr c)), (4, .inr (.inr d)), (5, .inl e), (6, .inl v6), (7, .inl v7), (8, .inl (v8 + 1))] [] (mh l) M1 post
      else
        mv_R32 (e + ((a - 1) - v8)) ∧
        (if 1 ≤ d ∧ d ≤ (mh l).1 ∧ (mh l).2.2.1 d = 100 then (0 ≤ (e + ((a - 1) - v8) : Int) ∧ (e + ((a - 1) - v8) : Int) < (((mh l).2.2.2.1 d : Nat) : Int)) ∧
        mv_R32 (v8 + 1) ∧
        mv_Run G 71 87 4749 57 [(0, .inr (.inr 35)), (1, .inl a), (3, .inr (.inr c)), (4, .inr (.inr d)), (5, .inl e), (6, .inl 1), (7, .inl v7), (8, .inl (v8 + 1))] [] (mh l) (mv_up M1 d (Int.toNat (e + ((a - 1) - v8))) x1) post else False)) else False))))) :
    mv_Run G 71 87 4749 57 [(0, .inr (.inr 35)), (1, .inl a), (3, .inr (.inr c)), (4, .inr (.inr d)), (5, .inl e), (6, .inl v6), (7, .inl v7), (8, .inl v8)] [] (mh l) M post := mv_run [(3, [0, 1, 2, 3, 4, 5, 6]), (39, [0, 1, 3, 4, 5, 6, 7]), (57, [0, 1, 3, 4, 5, 6, 7, 8])] 94 ok_71 h
set_option maxRecDepth 100000 in
theorem vw_X8_leastFrom {G : mv_G} {l : Nat} {post : Option mv_V → mv_SH → mv_Mem → Prop} {M : mv_Mem} {a d : Int} {b c : Nat} (h : mv_R32 (a * 4) ∧
  mv_Run G 72 87 4749 9 [(0, .inr (.inr 35)), (1, .inl a), (2, .inr (.inr b)), (3, .inr (.inr c)), (4, .inl d), (5, .inl 268435456), (6, .inl (a * 4))] [] (mh l) M post) :
    mv_Wp G 72 [.inr (.inr 35), .inl a, .inr (.inr b), .inr (.inr c), .inl d] (mh l) M post := mv_wp [(9, [0, 1, 2, 3, 4, 5, 6])] 66 ok_72 oc_72 rfl h
set_option maxRecDepth 100000 in
theorem vr_X8_leastFrom_9 {G : mv_G} {l : Nat} {post : Option mv_V → mv_SH → mv_Mem → Prop} {M : mv_Mem} {a d v5 v6 : Int} {b c : Nat} (h : mv_R32 (a * 4) ∧
  mv_R32 ((a * 4) + 4) ∧
  (if ((a * 4) + 4) ≤ v6 then
    post (some (.inl v5)) (mh l) M
  else
    (0 ≤ (v6 : Int) ∧ (v6 : Int) < ((192 : Nat) : Int)) ∧
    (if (M 39 (Int.toNat v6)) = (-1) then
      mv_R32 (v6 + 1) ∧
      mv_Run G 72 87 4749 9 [(0, .inr (.inr 35)), (1, .inl a), (2, .inr (.inr b)), (3, .inr (.inr c)), (4, .inl d), (5, .inl v5), (6, .inl (v6 + 1))] [] (mh l) M post
    else
      (if b ≤ (mh l).1 ∧ (mh l).2.2.1 b = 100 then (0 ≤ (v6 : Int) ∧ (v6 : Int) < (((mh l).2.2.2.1 b : Nat) : Int)) ∧
      mv_R32 (d + (M 39 (Int.toNat v6))) ∧
      (if c ≤ (mh l).1 ∧ (mh l).2.2.1 c = 100 then (0 ≤ (d + (M 39 (Int.toNat v6)) : Int) ∧ (d + (M 39 (Int.toNat v6)) : Int) < (((mh l).2.2.2.1 c : Nat) : Int)) ∧
      mv_R32 ((M b (Int.toNat v6)) + (M c (Int.toNat (d + (M 39 (Int.toNat v6)))))) ∧
      (if v5 ≤ ((M b (Int.toNat v6)) + (M c (Int.toNat (d + (M 39 (Int.toNat v6)))))) then
        mv_R32 (v6 + 1) ∧
        mv_Run G 72 87 4749 9 [(0, .inr (.inr 35)), (1, .inl a), (2, .inr (.inr b)), (3, .inr (.inr c)), (4, .inl d), (5, .inl v5), (6, .inl (v6 + 1))] [] (mh l) M post
      else
        (if b ≤ (mh l).1 ∧ (mh l).2.2.1 b = 100 then (0 ≤ (v6 : Int) ∧ (v6 : Int) < (((mh l).2.2.2.1 b : Nat) : Int)) ∧
        mv_R32 (d + (M 39 (Int.toNat v6))) ∧
        (if c ≤ (mh l).1 ∧ (mh l).2.2.1 c = 100 then (0 ≤ (d + (M 39 (Int.toNat v6)) : Int) ∧ (d + (M 39 (Int.toNat v6)) : Int) < (((mh l).2.2.2.1 c : Nat) : Int)) ∧
        mv_R32 ((M b (Int.toNat v6)) + (M c (Int.toNat (d + (M 39 (Int.toNat v6)))))) ∧
        mv_R32 (v6 + 1) ∧
        mv_Run G 72 87 4749 9 [(0, .inr (.inr 35)), (1, .inl a), (2, .inr (.inr b)), (3, .inr (.inr c)), (4, .inl d), (5, .inl ((M b (Int.toNat v6)) + (M c (Int.toNat (d + (M 39 (Int.toNat v6))))))), (6, .inl (v6 + 1))] [] (mh l) M post else False) else False)) else False) else False)))) :
    mv_Run G 72 87 4749 9 [(0, .inr (.inr 35)), (1, .inl a), (2, .inr (.inr b)), (3, .inr (.inr c)), (4, .inl d), (5, .inl v5), (6, .inl v6)] [] (mh l) M post := mv_run [(9, [0, 1, 2, 3, 4, 5, 6])] 66 ok_72 h
set_option maxRecDepth 100000 in
theorem vw_X10_takeFrom_i {G : mv_G} {l : Nat} {post : Option mv_V → mv_SH → mv_Mem → Prop} {M : mv_Mem} (h : mv_Wp G 3 [.inr (.inr 45), .inr (.inr 8)] (mh l) M (mv_qv (mh l) fun M1 =>
  mv_Wp G 60 [.inr (.inr 54), .inr (.inr 17)] (mh l) M1 (mv_qv (mh l) fun M2 =>
  mv_Wp G 33 [.inr (.inr 67), .inr (.inr 30)] (mh l) M2 (mv_qv (mh l) fun M3 =>
  post none (mh l) M3)))) :
    mv_Wp G 84 [.inr (.inr 44), .inr (.inr 7)] (mh l) M post := mv_wp [] 36 ok_84 oc_84 rfl h
set_option maxRecDepth 100000 in
theorem vw_X10_takeFrom_o {G : mv_G} {l : Nat} {post : Option mv_V → mv_SH → mv_Mem → Prop} {M : mv_Mem} (h : mv_Wp G 3 [.inr (.inr 8), .inr (.inr 45)] (mh l) M (mv_qv (mh l) fun M1 =>
  mv_Wp G 60 [.inr (.inr 17), .inr (.inr 54)] (mh l) M1 (mv_qv (mh l) fun M2 =>
  mv_Wp G 33 [.inr (.inr 30), .inr (.inr 67)] (mh l) M2 (mv_qv (mh l) fun M3 =>
  post none (mh l) M3)))) :
    mv_Wp G 84 [.inr (.inr 7), .inr (.inr 44)] (mh l) M post := mv_wp [] 36 ok_84 oc_84 rfl h
set_option maxRecDepth 100000 in
theorem vw_X11_feed {G : mv_G} {l : Nat} {post : Option mv_V → mv_SH → mv_Mem → Prop} {M : mv_Mem} {a b : Int} (h : (if 1 ≤ a then
    (if 8 < a then
      mv_Wp G 126 [.inr (.inr 1), .inl (-6)] (mh l) M (mv_qi (mh l) fun x1 M1 =>
      post (some (.inl x1)) (mh l) M1)
    else
      mv_R32 ((M 2 1) + a) ∧
      (if ((M 2 1) + a) ≤ 60 then
        mv_Wp G 46 [.inr (.inr 2), .inl a, .inr (.inl b)] (mh l) M (mv_qv (mh l) fun M2 =>
        post (some (.inl (M2 2 1))) (mh l) M2)
      else
        mv_Wp G 126 [.inr (.inr 1), .inl (-6)] (mh l) M (mv_qi (mh l) fun x3 M3 =>
        post (some (.inl x3)) (mh l) M3)))
  else
    mv_Wp G 126 [.inr (.inr 1), .inl (-4)] (mh l) M (mv_qi (mh l) fun x4 M4 =>
    post (some (.inl x4)) (mh l) M4))) :
    mv_Wp G 86 [.inr (.inr 1), .inl a, .inr (.inl b)] (mh l) M post := mv_wp [] 50 ok_86 oc_86 rfl h
set_option maxRecDepth 100000 in
theorem vw_X11_read {G : mv_G} {l : Nat} {post : Option mv_V → mv_SH → mv_Mem → Prop} {M : mv_Mem} (h : mv_Wp G 47 [.inr (.inr 2)] (mh l) M (mv_qi (mh l) fun x1 M1 =>
  (if x1 = (-1) then
    mv_Wp G 1 [.inr (.inr 8), .inr (.inr 2)] (mh l) M1 (mv_qv (mh l) fun M2 =>
    mv_Wp G 12 [.inr (.inr 6)] (mh l) (mv_up (mv_up M2 30 0 0) 2 1 0) (mv_qv (mh l) fun M3 =>
    post (some (.inl (M3 8 2))) (mh l) M3))
  else
    mv_R32 ((-20) - x1) ∧
    post (some (.inl ((-20) - x1))) (mh l) (mv_up M1 2 1 0)))) :
    mv_Wp G 87 [.inr (.inr 1)] (mh l) M post := mv_wp [] 55 ok_87 oc_87 rfl h
set_option maxRecDepth 100000 in
theorem vw_X11_acre {G : mv_G} {l : Nat} {post : Option mv_V → mv_SH → mv_Mem → Prop} {M : mv_Mem} {a b : Int} (h : mv_Wp G 4 [.inr (.inr 8), .inl a] (mh l) M (mv_qi (mh l) fun x1 M1 =>
  (if x1 = (-1) then
    mv_Wp G 126 [.inr (.inr 1), .inl (-1)] (mh l) M1 (mv_qi (mh l) fun x4 M4 =>
    post (some (.inl x4)) (mh l) M4)
  else
    (if b = 0 then
      (0 ≤ (x1 : Int) ∧ (x1 : Int) < ((48 : Nat) : Int)) ∧
      post (some (.inl (M1 10 (Int.toNat x1)))) (mh l) M1
    else
      (if b = (0 + 1) then
      (0 ≤ (x1 : Int) ∧ (x1 : Int) < ((48 : Nat) : Int)) ∧
      post (some (.inl (M1 11 (Int.toNat x1)))) (mh l) M1
    else
      (if b = (0 + 1 + 1) then
      (0 ≤ (x1 : Int) ∧ (x1 : Int) < ((48 : Nat) : Int)) ∧
      post (some (.inl (M1 13 (Int.toNat x1)))) (mh l) M1
    else
      (if b = (0 + 1 + 1 + 1) then
      (0 ≤ (x1 : Int) ∧ (x1 : Int) < ((48 : Nat) : Int)) ∧
      (if 0 ≤ (M1 12 (Int.toNat x1)) then
        (0 ≤ (x1 : Int) ∧ (x1 : Int) < ((48 : Nat) : Int)) ∧
        post (some (.inl (M1 12 (Int.toNat x1)))) (mh l) M1
      else
        post (some (.inl (-9))) (mh l) M1)
    else
      (if b = (0 + 1 + 1 + 1 + 1) then
      mv_Wp G 9 [.inr (.inr 8), .inl x1] (mh l) M1 (mv_qi (mh l) fun x3 M3 =>
      post (some (.inl x3)) (mh l) M3)
    else
      mv_Wp G 126 [.inr (.inr 1), .inl (-2)] (mh l) M1 (mv_qi (mh l) fun x2 M2 =>
    post (some (.inl x2)) (mh l) M2))))))))) :
    mv_Wp G 88 [.inr (.inr 1), .inl a, .inl b] (mh l) M post := mv_wp [] 75 ok_88 oc_88 rfl h
set_option maxRecDepth 100000 in
theorem vw_X11_road {G : mv_G} {l : Nat} {post : Option mv_V → mv_SH → mv_Mem → Prop} {M : mv_Mem} {a b c : Int} (h : mv_Wp G 4 [.inr (.inr 8), .inl a] (mh l) M (mv_qi (mh l) fun x1 M1 =>
  mv_Wp G 4 [.inr (.inr 8), .inl b] (mh l) M1 (mv_qi (mh l) fun x2 M2 =>
  mv_Wp G 6 [.inr (.inr 8), .inl x1, .inl x2] (mh l) M2 (mv_qi (mh l) fun x3 M3 =>
  (if x3 = (-1) then
    mv_Wp G 126 [.inr (.inr 1), .inl (-1)] (mh l) M3 (mv_qi (mh l) fun x32 M32 =>
    post (some (.inl x32)) (mh l) M32)
  else
    (if c < 0 then
      mv_Wp G 126 [.inr (.inr 1), .inl (-2)] (mh l) M3 (mv_qi (mh l) fun x4 M4 =>
      post (some (.inl x4)) (mh l) M4)
    else
      (if c ≤ 3 then
        mv_Wp G 7 [.inr (.inr 8), .inl x1, .inl x3] (mh l) M3 (mv_qi (mh l) fun x5 M5 =>
        (if x5 = 0 then
          (if c = 0 then
            (if c = 0 then
              (if x5 = 0 then
                mv_R32 (0 - 0) ∧
                mv_R32 ((M5 8 3) + (0 - 0)) ∧
                mv_Wp G 8 [.inr (.inr 8), .inl x1, .inl x3, .inl c] (mh l) (mv_up M5 8 3 ((M5 8 3) + (0 - 0))) (mv_qv (mh l) fun M20 =>
                mv_Wp G 12 [.inr (.inr 6)] (mh l) M20 (mv_qv (mh l) fun M21 =>
                post (some (.inl x5)) (mh l) M21))
              else
                mv_R32 (0 - 1) ∧
                mv_R32 ((M5 8 3) + (0 - 1)) ∧
                mv_Wp G 8 [.inr (.inr 8), .inl x1, .inl x3, .inl c] (mh l) (mv_up M5 8 3 ((M5 8 3) + (0 - 1))) (mv_qv (mh l) fun M18 =>
                mv_Wp G 12 [.inr (.inr 6)] (mh l) M18 (mv_qv (mh l) fun M19 =>
                post (some (.inl x5)) (mh l) M19)))
            else
              (if x5 = 0 then
                mv_R32 (1 - 0) ∧
                mv_R32 ((M5 8 3) + (1 - 0)) ∧
                mv_Wp G 8 [.inr (.inr 8), .inl x1, .inl x3, .inl c] (mh l) (mv_up M5 8 3 ((M5 8 3) + (1 - 0))) (mv_qv (mh l) fun M16 =>
                mv_Wp G 12 [.inr (.inr 6)] (mh l) M16 (mv_qv (mh l) fun M17 =>
                post (some (.inl x5)) (mh l) M17))
              else
                mv_R32 (1 - 1) ∧
                mv_R32 ((M5 8 3) + (1 - 1)) ∧
                mv_Wp G 8 [.inr (.inr 8), .inl x1, .inl x3, .inl c] (mh l) (mv_up M5 8 3 ((M5 8 3) + (1 - 1))) (mv_qv (mh l) fun M14 =>
                mv_Wp G 12 [.inr (.inr 6)] (mh l) M14 (mv_qv (mh l) fun M15 =>
                post (some (.inl x5)) (mh l) M15))))
          else
            (if (M5 8 3) < 12 then
              (if c = 0 then
                (if x5 = 0 then
                  mv_R32 (0 - 0) ∧
                  mv_R32 ((M5 8 3) + (0 - 0)) ∧
                  mv_Wp G 8 [.inr (.inr 8), .inl x1, .inl x3, .inl c] (mh l) (mv_up M5 8 3 ((M5 8 3) + (0 - 0))) (mv_qv (mh l) fun M28 =>
                  mv_Wp G 12 [.inr (.inr 6)] (mh l) M28 (mv_qv (mh l) fun M29 =>
                  post (some (.inl x5)) (mh l) M29))
                else
                  mv_R32 (0 - 1) ∧
                  mv_R32 ((M5 8 3) + (0 - 1)) ∧
                  mv_Wp G 8 [.inr (.inr 8), .inl x1, .inl x3, .inl c] (mh l) (mv_up M5 8 3 ((M5 8 3) + (0 - 1))) (mv_qv (mh l) fun M26 =>
                  mv_Wp G 12 [.inr (.inr 6)] (mh l) M26 (mv_qv (mh l) fun M27 =>
                  post (some (.inl x5)) (mh l) M27)))
              else
                (if x5 = 0 then
                  mv_R32 (1 - 0) ∧
                  mv_R32 ((M5 8 3) + (1 - 0)) ∧
                  mv_Wp G 8 [.inr (.inr 8), .inl x1, .inl x3, .inl c] (mh l) (mv_up M5 8 3 ((M5 8 3) + (1 - 0))) (mv_qv (mh l) fun M24 =>
                  mv_Wp G 12 [.inr (.inr 6)] (mh l) M24 (mv_qv (mh l) fun M25 =>
                  post (some (.inl x5)) (mh l) M25))
                else
                  mv_R32 (1 - 1) ∧
                  mv_R32 ((M5 8 3) + (1 - 1)) ∧
                  mv_Wp G 8 [.inr (.inr 8), .inl x1, .inl x3, .inl c] (mh l) (mv_up M5 8 3 ((M5 8 3) + (1 - 1))) (mv_qv (mh l) fun M22 =>
                  mv_Wp G 12 [.inr (.inr 6)] (mh l) M22 (mv_qv (mh l) fun M23 =>
                  post (some (.inl x5)) (mh l) M23))))
            else
              mv_Wp G 126 [.inr (.inr 1), .inl (-6)] (mh l) M5 (mv_qi (mh l) fun x30 M30 =>
              post (some (.inl x30)) (mh l) M30)))
        else
          (if c = 0 then
            (if x5 = 0 then
              mv_R32 (0 - 0) ∧
              mv_R32 ((M5 8 3) + (0 - 0)) ∧
              mv_Wp G 8 [.inr (.inr 8), .inl x1, .inl x3, .inl c] (mh l) (mv_up M5 8 3 ((M5 8 3) + (0 - 0))) (mv_qv (mh l) fun M12 =>
              mv_Wp G 12 [.inr (.inr 6)] (mh l) M12 (mv_qv (mh l) fun M13 =>
              post (some (.inl x5)) (mh l) M13))
            else
              mv_R32 (0 - 1) ∧
              mv_R32 ((M5 8 3) + (0 - 1)) ∧
              mv_Wp G 8 [.inr (.inr 8), .inl x1, .inl x3, .inl c] (mh l) (mv_up M5 8 3 ((M5 8 3) + (0 - 1))) (mv_qv (mh l) fun M10 =>
              mv_Wp G 12 [.inr (.inr 6)] (mh l) M10 (mv_qv (mh l) fun M11 =>
              post (some (.inl x5)) (mh l) M11)))
          else
            (if x5 = 0 then
              mv_R32 (1 - 0) ∧
              mv_R32 ((M5 8 3) + (1 - 0)) ∧
              mv_Wp G 8 [.inr (.inr 8), .inl x1, .inl x3, .inl c] (mh l) (mv_up M5 8 3 ((M5 8 3) + (1 - 0))) (mv_qv (mh l) fun M8 =>
              mv_Wp G 12 [.inr (.inr 6)] (mh l) M8 (mv_qv (mh l) fun M9 =>
              post (some (.inl x5)) (mh l) M9))
            else
              mv_R32 (1 - 1) ∧
              mv_R32 ((M5 8 3) + (1 - 1)) ∧
              mv_Wp G 8 [.inr (.inr 8), .inl x1, .inl x3, .inl c] (mh l) (mv_up M5 8 3 ((M5 8 3) + (1 - 1))) (mv_qv (mh l) fun M6 =>
              mv_Wp G 12 [.inr (.inr 6)] (mh l) M6 (mv_qv (mh l) fun M7 =>
              post (some (.inl x5)) (mh l) M7))))))
      else
        mv_Wp G 126 [.inr (.inr 1), .inl (-2)] (mh l) M3 (mv_qi (mh l) fun x31 M31 =>
        post (some (.inl x31)) (mh l) M31)))))))) :
    mv_Wp G 89 [.inr (.inr 1), .inl a, .inl b, .inl c] (mh l) M post := mv_wp [] 97 ok_89 oc_89 rfl h
set_option maxRecDepth 100000 in
theorem vw_X11_toll {G : mv_G} {l : Nat} {post : Option mv_V → mv_SH → mv_Mem → Prop} {M : mv_Mem} {a b : Int} (h : mv_Wp G 4 [.inr (.inr 8), .inl a] (mh l) M (mv_qi (mh l) fun x1 M1 =>
  (if x1 = (-1) then
    mv_Wp G 126 [.inr (.inr 1), .inl (-1)] (mh l) M1 (mv_qi (mh l) fun x5 M5 =>
    post (some (.inl x5)) (mh l) M5)
  else
    mv_Wp G 128 [.inl b, .inl 0, .inl 99] (mh l) M1 (mv_qi (mh l) fun x2 M2 =>
    (if x2 = 0 then
      (0 ≤ (x1 : Int) ∧ (x1 : Int) < ((48 : Nat) : Int)) ∧
      (0 ≤ (x1 : Int) ∧ (x1 : Int) < ((48 : Nat) : Int)) ∧
      mv_Wp G 12 [.inr (.inr 6)] (mh l) (mv_up M2 11 (Int.toNat x1) b) (mv_qv (mh l) fun M3 =>
      post (some (.inl (M2 11 (Int.toNat x1)))) (mh l) M3)
    else
      mv_Wp G 126 [.inr (.inr 1), .inl x2] (mh l) M2 (mv_qi (mh l) fun x4 M4 =>
      post (some (.inl x4)) (mh l) M4)))))) :
    mv_Wp G 91 [.inr (.inr 1), .inl a, .inl b] (mh l) M post := mv_wp [] 60 ok_91 oc_91 rfl h
set_option maxRecDepth 100000 in
theorem vw_X11_market {G : mv_G} {l : Nat} {post : Option mv_V → mv_SH → mv_Mem → Prop} {M : mv_Mem} {a : Int} (h : mv_Wp G 4 [.inr (.inr 8), .inl a] (mh l) M (mv_qi (mh l) fun x1 M1 =>
  (if x1 = (-1) then
    mv_Wp G 126 [.inr (.inr 1), .inl (-1)] (mh l) M1 (mv_qi (mh l) fun x6 M6 =>
    post (some (.inl x6)) (mh l) M6)
  else
    mv_Wp G 9 [.inr (.inr 8), .inl x1] (mh l) M1 (mv_qi (mh l) fun x2 M2 =>
    (if x2 = (-9) then
      (if (M2 8 4) < 3 then
        (0 ≤ (M2 8 4 : Int) ∧ (M2 8 4 : Int) < ((3 : Nat) : Int)) ∧
        mv_R32 ((M2 8 4) + 1) ∧
        mv_Wp G 12 [.inr (.inr 6)] (mh l) (mv_up (mv_up M2 15 (Int.toNat (M2 8 4)) x1) 8 4 ((M2 8 4) + 1)) (mv_qv (mh l) fun M3 =>
        post (some (.inl (M2 8 4))) (mh l) M3)
      else
        mv_Wp G 126 [.inr (.inr 1), .inl (-6)] (mh l) M2 (mv_qi (mh l) fun x4 M4 =>
        post (some (.inl x4)) (mh l) M4))
    else
      mv_Wp G 126 [.inr (.inr 1), .inl (-3)] (mh l) M2 (mv_qi (mh l) fun x5 M5 =>
      post (some (.inl x5)) (mh l) M5)))))) :
    mv_Wp G 93 [.inr (.inr 1), .inl a] (mh l) M post := mv_wp [] 72 ok_93 oc_93 rfl h
set_option maxRecDepth 100000 in
theorem vw_X11_use {G : mv_G} {l : Nat} {post : Option mv_V → mv_SH → mv_Mem → Prop} {M : mv_Mem} {a b c d e : Int} (h : (if a < 0 then
    mv_Wp G 126 [.inr (.inr 1), .inl (-2)] (mh l) M (mv_qi (mh l) fun x1 M1 =>
    post (some (.inl x1)) (mh l) M1)
  else
    (if a ≤ 5 then
      (if b < 0 then
        mv_Wp G 126 [.inr (.inr 1), .inl (-4)] (mh l) M (mv_qi (mh l) fun x2 M2 =>
        post (some (.inl x2)) (mh l) M2)
      else
        (if c < 0 then
          mv_Wp G 126 [.inr (.inr 1), .inl (-4)] (mh l) M (mv_qi (mh l) fun x3 M3 =>
          post (some (.inl x3)) (mh l) M3)
        else
          (if d < 0 then
            mv_Wp G 126 [.inr (.inr 1), .inl (-4)] (mh l) M (mv_qi (mh l) fun x4 M4 =>
            post (some (.inl x4)) (mh l) M4)
          else
            (if 0 ≤ e then
              (if 99 < b then
                mv_Wp G 126 [.inr (.inr 1), .inl (-6)] (mh l) M (mv_qi (mh l) fun x5 M5 =>
                post (some (.inl x5)) (mh l) M5)
              else
                (if 99 < c then
                  mv_Wp G 126 [.inr (.inr 1), .inl (-6)] (mh l) M (mv_qi (mh l) fun x6 M6 =>
                  post (some (.inl x6)) (mh l) M6)
                else
                  (if 9999 < d then
                    mv_Wp G 126 [.inr (.inr 1), .inl (-6)] (mh l) M (mv_qi (mh l) fun x7 M7 =>
                    post (some (.inl x7)) (mh l) M7)
                  else
                    (if 99 < e then
                      mv_Wp G 126 [.inr (.inr 1), .inl (-6)] (mh l) M (mv_qi (mh l) fun x8 M8 =>
                      post (some (.inl x8)) (mh l) M8)
                    else
                      (if (M 17 0) < 6 then
                        mv_Wp G 58 [.inr (.inr 17), .inl a, .inl b, .inl c, .inl d, .inl e] (mh l) M (mv_qi (mh l) fun x9 M9 =>
                        mv_Wp G 13 [.inr (.inr 6)] (mh l) M9 (mv_qv (mh l) fun M10 =>
                        post (some (.inl x9)) (mh l) M10))
                      else
                        mv_Wp G 126 [.inr (.inr 1), .inl (-6)] (mh l) M (mv_qi (mh l) fun x11 M11 =>
                        post (some (.inl x11)) (mh l) M11))))))
            else
              mv_Wp G 126 [.inr (.inr 1), .inl (-4)] (mh l) M (mv_qi (mh l) fun x12 M12 =>
              post (some (.inl x12)) (mh l) M12)))))
    else
      mv_Wp G 126 [.inr (.inr 1), .inl (-2)] (mh l) M (mv_qi (mh l) fun x13 M13 =>
      post (some (.inl x13)) (mh l) M13)))) :
    mv_Wp G 94 [.inr (.inr 1), .inl a, .inl b, .inl c, .inl d, .inl e] (mh l) M post := mv_wp [] 76 ok_94 oc_94 rfl h
set_option maxRecDepth 100000 in
theorem vw_X11_year {G : mv_G} {l : Nat} {post : Option mv_V → mv_SH → mv_Mem → Prop} {M : mv_Mem} {a b : Int} (h : mv_Wp G 129 [.inr (.inr 1), .inl a] (mh l) M (mv_qi (mh l) fun x1 M1 =>
  (if x1 = 0 then
    (0 ≤ (a : Int) ∧ (a : Int) < ((6 : Nat) : Int)) ∧
    (if (M1 18 (Int.toNat a)) = 3 then
      (if (-99) ≤ b then
        (if 99 < b then
          mv_Wp G 126 [.inr (.inr 1), .inl (-6)] (mh l) M1 (mv_qi (mh l) fun x2 M2 =>
          post (some (.inl x2)) (mh l) M2)
        else
          (0 ≤ (a : Int) ∧ (a : Int) < ((6 : Nat) : Int)) ∧
          (if (M1 24 (Int.toNat a)) < 6 then
            (0 ≤ (a : Int) ∧ (a : Int) < ((6 : Nat) : Int)) ∧
            mv_R32 ((M1 24 (Int.toNat a)) + 1) ∧
            (0 ≤ (a : Int) ∧ (a : Int) < ((6 : Nat) : Int)) ∧
            (0 ≤ (a : Int) ∧ (a : Int) < ((6 : Nat) : Int)) ∧
            mv_R32 (((mv_up M1 24 (Int.toNat a) ((M1 24 (Int.toNat a)) + 1)) 25 (Int.toNat a)) + b) ∧
            (0 ≤ (a : Int) ∧ (a : Int) < ((6 : Nat) : Int)) ∧
            mv_Wp G 13 [.inr (.inr 6)] (mh l) (mv_up (mv_up M1 24 (Int.toNat a) ((M1 24 (Int.toNat a)) + 1)) 25 (Int.toNat a) (((mv_up M1 24 (Int.toNat a) ((M1 24 (Int.toNat a)) + 1)) 25 (Int.toNat a)) + b)) (mv_qv (mh l) fun M3 =>
            (0 ≤ (a : Int) ∧ (a : Int) < ((6 : Nat) : Int)) ∧
            post (some (.inl (M3 24 (Int.toNat a)))) (mh l) M3)
          else
            mv_Wp G 126 [.inr (.inr 1), .inl (-6)] (mh l) M1 (mv_qi (mh l) fun x4 M4 =>
            post (some (.inl x4)) (mh l) M4)))
      else
        mv_Wp G 126 [.inr (.inr 1), .inl (-4)] (mh l) M1 (mv_qi (mh l) fun x5 M5 =>
        post (some (.inl x5)) (mh l) M5))
    else
      mv_Wp G 126 [.inr (.inr 1), .inl (-3)] (mh l) M1 (mv_qi (mh l) fun x6 M6 =>
      post (some (.inl x6)) (mh l) M6))
  else
    mv_Wp G 126 [.inr (.inr 1), .inl (-1)] (mh l) M1 (mv_qi (mh l) fun x7 M7 =>
    post (some (.inl x7)) (mh l) M7)))) :
    mv_Wp G 95 [.inr (.inr 1), .inl a, .inl b] (mh l) M post := mv_wp [] 87 ok_95 oc_95 rfl h
set_option maxRecDepth 100000 in
theorem vw_X11_price {G : mv_G} {l : Nat} {post : Option mv_V → mv_SH → mv_Mem → Prop} {M : mv_Mem} {a b c : Int} (h : mv_Wp G 129 [.inr (.inr 1), .inl a] (mh l) M (mv_qi (mh l) fun x1 M1 =>
  (if x1 = 0 then
    mv_Wp G 130 [.inr (.inr 1), .inl b] (mh l) M1 (mv_qi (mh l) fun x3 M3 =>
    (if x3 = 0 then
      mv_Wp G 128 [.inl c, .inl 0, .inl 999] (mh l) M3 (mv_qi (mh l) fun x4 M4 =>
      (if x4 = 0 then
        mv_Wp G 131 [.inl a, .inl b] (mh l) M4 (mv_qi (mh l) fun x5 M5 =>
        (0 ≤ (x5 : Int) ∧ (x5 : Int) < ((18 : Nat) : Int)) ∧
        (0 ≤ (x5 : Int) ∧ (x5 : Int) < ((18 : Nat) : Int)) ∧
        mv_Wp G 13 [.inr (.inr 6)] (mh l) (mv_up M5 26 (Int.toNat x5) c) (mv_qv (mh l) fun M6 =>
        post (some (.inl (M5 26 (Int.toNat x5)))) (mh l) M6))
      else
        mv_Wp G 126 [.inr (.inr 1), .inl x4] (mh l) M4 (mv_qi (mh l) fun x7 M7 =>
        post (some (.inl x7)) (mh l) M7)))
    else
      mv_Wp G 126 [.inr (.inr 1), .inl (-1)] (mh l) M3 (mv_qi (mh l) fun x8 M8 =>
      post (some (.inl x8)) (mh l) M8)))
  else
    mv_Wp G 126 [.inr (.inr 1), .inl (-1)] (mh l) M1 (mv_qi (mh l) fun x2 M2 =>
    post (some (.inl x2)) (mh l) M2)))) :
    mv_Wp G 96 [.inr (.inr 1), .inl a, .inl b, .inl c] (mh l) M post := mv_wp [] 64 ok_96 oc_96 rfl h
set_option maxRecDepth 100000 in
theorem vw_X11_tax {G : mv_G} {l : Nat} {post : Option mv_V → mv_SH → mv_Mem → Prop} {M : mv_Mem} {a b : Int} (h : (if a = (-1) then
    mv_Wp G 98 [.inr (.inr 1), .inl b] (mh l) M (mv_qi (mh l) fun x6 M6 =>
    post (some (.inl x6)) (mh l) M6)
  else
    mv_Wp G 129 [.inr (.inr 1), .inl a] (mh l) M (mv_qi (mh l) fun x1 M1 =>
    (if x1 = 0 then
      mv_Wp G 128 [.inl b, .inl 0, .inl 9999] (mh l) M1 (mv_qi (mh l) fun x2 M2 =>
      (if x2 = 0 then
        (0 ≤ (a : Int) ∧ (a : Int) < ((6 : Nat) : Int)) ∧
        (0 ≤ (a : Int) ∧ (a : Int) < ((6 : Nat) : Int)) ∧
        mv_Wp G 13 [.inr (.inr 6)] (mh l) (mv_up M2 23 (Int.toNat a) b) (mv_qv (mh l) fun M3 =>
        post (some (.inl (M2 23 (Int.toNat a)))) (mh l) M3)
      else
        mv_Wp G 126 [.inr (.inr 1), .inl x2] (mh l) M2 (mv_qi (mh l) fun x4 M4 =>
        post (some (.inl x4)) (mh l) M4)))
    else
      mv_Wp G 126 [.inr (.inr 1), .inl (-1)] (mh l) M1 (mv_qi (mh l) fun x5 M5 =>
      post (some (.inl x5)) (mh l) M5))))) :
    mv_Wp G 97 [.inr (.inr 1), .inl a, .inl b] (mh l) M post := mv_wp [] 63 ok_97 oc_97 rfl h
set_option maxRecDepth 100000 in
theorem vw_X11_rentTax {G : mv_G} {l : Nat} {post : Option mv_V → mv_SH → mv_Mem → Prop} {M : mv_Mem} {a : Int} (h : mv_Wp G 128 [.inl a, .inl 0, .inl 100] (mh l) M (mv_qi (mh l) fun x1 M1 =>
  (if x1 = 0 then
    post (some (.inl (M1 17 1))) (mh l) (mv_up M1 17 1 a)
  else
    mv_Wp G 126 [.inr (.inr 1), .inl x1] (mh l) M1 (mv_qi (mh l) fun x2 M2 =>
    post (some (.inl x2)) (mh l) M2)))) :
    mv_Wp G 98 [.inr (.inr 1), .inl a] (mh l) M post := mv_wp [] 41 ok_98 oc_98 rfl h
set_option maxRecDepth 100000 in
theorem vw_X11_goes {G : mv_G} {l : Nat} {post : Option mv_V → mv_SH → mv_Mem → Prop} {M : mv_Mem} {a b : Int} (h : mv_Wp G 4 [.inr (.inr 8), .inl a] (mh l) M (mv_qi (mh l) fun x1 M1 =>
  (if x1 = (-1) then
    mv_Wp G 126 [.inr (.inr 1), .inl (-1)] (mh l) M1 (mv_qi (mh l) fun x5 M5 =>
    post (some (.inl x5)) (mh l) M5)
  else
    (if b < 0 then
      mv_Wp G 126 [.inr (.inr 1), .inl (-2)] (mh l) M1 (mv_qi (mh l) fun x2 M2 =>
      post (some (.inl x2)) (mh l) M2)
    else
      (if b ≤ 1 then
        mv_Wp G 14 [.inr (.inr 6)] (mh l) M1 (mv_qv (mh l) fun M3 =>
        (0 ≤ (x1 : Int) ∧ (x1 : Int) < ((48 : Nat) : Int)) ∧
        (if (M3 43 (Int.toNat x1)) = (-1) then
          post (some (.inl (-9))) (mh l) M3
        else
          (if b = 0 then
            (¬ (3 : Int) = 0 ∧ mv_R32 (Int.tdiv (M3 43 (Int.toNat x1)) 3)) ∧
            post (some (.inl (Int.tdiv (M3 43 (Int.toNat x1)) 3))) (mh l) M3
          else
            ¬ (3 : Int) = 0 ∧
            post (some (.inl (Int.tmod (M3 43 (Int.toNat x1)) 3))) (mh l) M3)))
      else
        mv_Wp G 126 [.inr (.inr 1), .inl (-2)] (mh l) M1 (mv_qi (mh l) fun x4 M4 =>
        post (some (.inl x4)) (mh l) M4)))))) :
    mv_Wp G 100 [.inr (.inr 1), .inl a, .inl b] (mh l) M post := mv_wp [] 65 ok_100 oc_100 rfl h
set_option maxRecDepth 100000 in
theorem vw_X11_rent {G : mv_G} {l : Nat} {post : Option mv_V → mv_SH → mv_Mem → Prop} {M : mv_Mem} {a : Int} (h : mv_Wp G 4 [.inr (.inr 8), .inl a] (mh l) M (mv_qi (mh l) fun x1 M1 =>
  (if a = (-1) then
    mv_Wp G 14 [.inr (.inr 6)] (mh l) M1 (mv_qv (mh l) fun M2 =>
    (if a = (-1) then
      mv_Wp G 22 [.inr (.inr 6)] (mh l) M2 (mv_ql (mh l) fun x4 M4 =>
      post (some (.inr (.inl x4))) (mh l) M4)
    else
      mv_Wp G 20 [.inr (.inr 6), .inl x1] (mh l) M2 (mv_ql (mh l) fun x3 M3 =>
      post (some (.inr (.inl x3))) (mh l) M3)))
  else
    (if x1 = (-1) then
      mv_Wp G 127 [.inr (.inr 1), .inl (-1)] (mh l) M1 (mv_ql (mh l) fun x8 M8 =>
      post (some (.inr (.inl x8))) (mh l) M8)
    else
      mv_Wp G 14 [.inr (.inr 6)] (mh l) M1 (mv_qv (mh l) fun M5 =>
      (if a = (-1) then
        mv_Wp G 22 [.inr (.inr 6)] (mh l) M5 (mv_ql (mh l) fun x7 M7 =>
        post (some (.inr (.inl x7))) (mh l) M7)
      else
        mv_Wp G 20 [.inr (.inr 6), .inl x1] (mh l) M5 (mv_ql (mh l) fun x6 M6 =>
        post (some (.inr (.inl x6))) (mh l) M6))))))) :
    mv_Wp G 101 [.inr (.inr 1), .inl a] (mh l) M post := mv_wp [] 50 ok_101 oc_101 rfl h
set_option maxRecDepth 100000 in
theorem vw_X11_piece {G : mv_G} {l : Nat} {post : Option mv_V → mv_SH → mv_Mem → Prop} {M : mv_Mem} {a b c d : Int} (h : mv_Wp G 129 [.inr (.inr 1), .inl a] (mh l) M (mv_qi (mh l) fun x1 M1 =>
  (if x1 = 0 then
    mv_Wp G 130 [.inr (.inr 1), .inl b] (mh l) M1 (mv_qi (mh l) fun x3 M3 =>
    (if x3 = 0 then
      (if c < 0 then
        mv_Wp G 126 [.inr (.inr 1), .inl (-4)] (mh l) M3 (mv_qi (mh l) fun x4 M4 =>
        post (some (.inl x4)) (mh l) M4)
      else
        (if 0 ≤ d then
          mv_Wp G 131 [.inl a, .inl b] (mh l) M3 (mv_qi (mh l) fun x5 M5 =>
          (if 9999 < c then
            mv_Wp G 126 [.inr (.inr 1), .inl (-6)] (mh l) M5 (mv_qi (mh l) fun x6 M6 =>
            post (some (.inl x6)) (mh l) M6)
          else
            (if 999 < d then
              mv_Wp G 126 [.inr (.inr 1), .inl (-6)] (mh l) M5 (mv_qi (mh l) fun x7 M7 =>
              post (some (.inl x7)) (mh l) M7)
            else
              (0 ≤ (x5 : Int) ∧ (x5 : Int) < ((18 : Nat) : Int)) ∧
              (if (M5 27 (Int.toNat x5)) < 6 then
                mv_Wp G 59 [.inr (.inr 17), .inl x5, .inl c, .inl d] (mh l) M5 (mv_qv (mh l) fun M8 =>
                (0 ≤ (x5 : Int) ∧ (x5 : Int) < ((18 : Nat) : Int)) ∧
                post (some (.inl (M8 27 (Int.toNat x5)))) (mh l) M8)
              else
                mv_Wp G 126 [.inr (.inr 1), .inl (-6)] (mh l) M5 (mv_qi (mh l) fun x9 M9 =>
                post (some (.inl x9)) (mh l) M9)))))
        else
          mv_Wp G 126 [.inr (.inr 1), .inl (-4)] (mh l) M3 (mv_qi (mh l) fun x10 M10 =>
          post (some (.inl x10)) (mh l) M10)))
    else
      mv_Wp G 126 [.inr (.inr 1), .inl (-1)] (mh l) M3 (mv_qi (mh l) fun x11 M11 =>
      post (some (.inl x11)) (mh l) M11)))
  else
    mv_Wp G 126 [.inr (.inr 1), .inl (-1)] (mh l) M1 (mv_qi (mh l) fun x2 M2 =>
    post (some (.inl x2)) (mh l) M2)))) :
    mv_Wp G 103 [.inr (.inr 1), .inl a, .inl b, .inl c, .inl d] (mh l) M post := mv_wp [] 73 ok_103 oc_103 rfl h
set_option maxRecDepth 100000 in
theorem vw_X11_rounds {G : mv_G} {l : Nat} {post : Option mv_V → mv_SH → mv_Mem → Prop} {M : mv_Mem} {a : Int} (h : mv_Wp G 128 [.inl a, .inl 1, .inl 20] (mh l) M (mv_qi (mh l) fun x1 M1 =>
  (if x1 = 0 then
    mv_Wp G 14 [.inr (.inr 6)] (mh l) M1 (mv_qv (mh l) fun M2 =>
    mv_Wp G 53 [.inr (.inr 72), .inr (.inr 6), .inl a] (mh l) M2 (mv_qi (mh l) fun x3 M3 =>
    mv_Wp G 13 [.inr (.inr 6)] (mh l) M3 (mv_qv (mh l) fun M4 =>
    post (some (.inl x3)) (mh l) M4)))
  else
    mv_Wp G 126 [.inr (.inr 1), .inl x1] (mh l) M1 (mv_qi (mh l) fun x5 M5 =>
    post (some (.inl x5)) (mh l) M5)))) :
    mv_Wp G 106 [.inr (.inr 1), .inl a] (mh l) M post := mv_wp [] 46 ok_106 oc_106 rfl h
set_option maxRecDepth 100000 in
theorem vw_X11_falls {G : mv_G} {l : Nat} {post : Option mv_V → mv_SH → mv_Mem → Prop} {M : mv_Mem} {a b : Int} (h : mv_Wp G 129 [.inr (.inr 1), .inl a] (mh l) M (mv_qi (mh l) fun x1 M1 =>
  (if x1 = 0 then
    mv_Wp G 128 [.inl b, .inl 0, .inl 9999] (mh l) M1 (mv_qi (mh l) fun x2 M2 =>
    (if x2 = 0 then
      mv_Wp G 14 [.inr (.inr 6)] (mh l) M2 (mv_qv (mh l) fun M3 =>
      mv_Wp G 30 [.inr (.inr 6), .inl a, .inl b] (mh l) M3 (mv_qi (mh l) fun x4 M4 =>
      post (some (.inl x4)) (mh l) M4))
    else
      mv_Wp G 126 [.inr (.inr 1), .inl x2] (mh l) M2 (mv_qi (mh l) fun x5 M5 =>
      post (some (.inl x5)) (mh l) M5)))
  else
    mv_Wp G 126 [.inr (.inr 1), .inl (-1)] (mh l) M1 (mv_qi (mh l) fun x6 M6 =>
    post (some (.inl x6)) (mh l) M6)))) :
    mv_Wp G 117 [.inr (.inr 1), .inl a, .inl b] (mh l) M post := mv_wp [] 48 ok_117 oc_117 rfl h
set_option maxRecDepth 100000 in
theorem vw_X11_own {G : mv_G} {l : Nat} {post : Option mv_V → mv_SH → mv_Mem → Prop} {M : mv_Mem} {a b : Int} (h : mv_Wp G 4 [.inr (.inr 8), .inl a] (mh l) M (mv_qi (mh l) fun x1 M1 =>
  (if x1 = (-1) then
    mv_Wp G 126 [.inr (.inr 1), .inl (-1)] (mh l) M1 (mv_qi (mh l) fun x4 M4 =>
    post (some (.inl x4)) (mh l) M4)
  else
    mv_Wp G 128 [.inl b, .inl (-1), .inl 3] (mh l) M1 (mv_qi (mh l) fun x2 M2 =>
    (if x2 = 0 then
      (0 ≤ (x1 : Int) ∧ (x1 : Int) < ((48 : Nat) : Int)) ∧
      (if (M2 12 (Int.toNat x1)) = b then
        post (some (.inl 0)) (mh l) M2
      else
        (0 ≤ (x1 : Int) ∧ (x1 : Int) < ((48 : Nat) : Int)) ∧
        post (some (.inl 1)) (mh l) (mv_up M2 12 (Int.toNat x1) b))
    else
      mv_Wp G 126 [.inr (.inr 1), .inl x2] (mh l) M2 (mv_qi (mh l) fun x3 M3 =>
      post (some (.inl x3)) (mh l) M3)))))) :
    mv_Wp G 118 [.inr (.inr 1), .inl a, .inl b] (mh l) M post := mv_wp [] 60 ok_118 oc_118 rfl h
set_option maxRecDepth 100000 in
theorem vw_X11_held {G : mv_G} {l : Nat} {post : Option mv_V → mv_SH → mv_Mem → Prop} {M : mv_Mem} {a b : Int} (h : mv_Wp G 4 [.inr (.inr 8), .inl a] (mh l) M (mv_qi (mh l) fun x1 M1 =>
  (if x1 = (-1) then
    mv_Wp G 126 [.inr (.inr 1), .inl (-1)] (mh l) M1 (mv_qi (mh l) fun x4 M4 =>
    post (some (.inl x4)) (mh l) M4)
  else
    (if b = 0 then
      (0 ≤ (x1 : Int) ∧ (x1 : Int) < ((48 : Nat) : Int)) ∧
      (if (M1 13 (Int.toNat x1)) = 0 then
        post (some (.inl 0)) (mh l) M1
      else
        (0 ≤ (x1 : Int) ∧ (x1 : Int) < ((48 : Nat) : Int)) ∧
        mv_Wp G 13 [.inr (.inr 6)] (mh l) (mv_up M1 13 (Int.toNat x1) 0) (mv_qv (mh l) fun M2 =>
        post (some (.inl 1)) (mh l) M2))
    else
      (0 ≤ (x1 : Int) ∧ (x1 : Int) < ((48 : Nat) : Int)) ∧
      (if (M1 13 (Int.toNat x1)) = 1 then
        post (some (.inl 0)) (mh l) M1
      else
        (0 ≤ (x1 : Int) ∧ (x1 : Int) < ((48 : Nat) : Int)) ∧
        mv_Wp G 13 [.inr (.inr 6)] (mh l) (mv_up M1 13 (Int.toNat x1) 1) (mv_qv (mh l) fun M3 =>
        post (some (.inl 1)) (mh l) M3)))))) :
    mv_Wp G 119 [.inr (.inr 1), .inl a, .inl b] (mh l) M post := mv_wp [] 58 ok_119 oc_119 rfl h
set_option maxRecDepth 100000 in
theorem vw_X11_hold {G : mv_G} {l : Nat} {post : Option mv_V → mv_SH → mv_Mem → Prop} {M : mv_Mem} {a : Int} (h : mv_Wp G 128 [.inl a, .inl 0, .inl 3] (mh l) M (mv_qi (mh l) fun x1 M1 =>
  (if x1 = 0 then
    mv_Wp G 14 [.inr (.inr 6)] (mh l) M1 (mv_qv (mh l) fun M2 =>
    mv_Wp G 55 [.inr (.inr 72), .inr (.inr 6), .inl a] (mh l) M2 (mv_qi (mh l) fun x3 M3 =>
    post (some (.inl x3)) (mh l) M3))
  else
    mv_Wp G 126 [.inr (.inr 1), .inl x1] (mh l) M1 (mv_qi (mh l) fun x4 M4 =>
    post (some (.inl x4)) (mh l) M4)))) :
    mv_Wp G 120 [.inr (.inr 1), .inl a] (mh l) M post := mv_wp [] 41 ok_120 oc_120 rfl h
set_option maxRecDepth 100000 in
theorem vw_X11_image {G : mv_G} {l : Nat} {post : Option mv_V → mv_SH → mv_Mem → Prop} {M : mv_Mem} (h : mv_Wp G 84 [.inr (.inr 44), .inr (.inr 7)] (mh l) M (mv_qv (mh l) fun M1 =>
  ((1 : Int) = 0 ∨ (1 : Int) = 1) ∧
  post (some (.inl ((mv_up M1 1 8 1) 8 2))) (mh l) (mv_up M1 1 8 1))) :
    mv_Wp G 123 [.inr (.inr 1)] (mh l) M post := mv_wp [] 32 ok_123 oc_123 rfl h
set_option maxRecDepth 100000 in
theorem vw_X11_on {G : mv_G} {l : Nat} {post : Option mv_V → mv_SH → mv_Mem → Prop} {M : mv_Mem} (h : (if (M 1 8) = 0 then
    mv_Wp G 126 [.inr (.inr 1), .inl (-3)] (mh l) M (mv_qi (mh l) fun x3 M3 =>
    post (some (.inl x3)) (mh l) M3)
  else
    mv_Wp G 84 [.inr (.inr 7), .inr (.inr 44)] (mh l) M (mv_qv (mh l) fun M1 =>
    mv_Wp G 12 [.inr (.inr 6)] (mh l) M1 (mv_qv (mh l) fun M2 =>
    post (some (.inl (M2 8 2))) (mh l) M2)))) :
    mv_Wp G 124 [.inr (.inr 1)] (mh l) M post := mv_wp [] 39 ok_124 oc_124 rfl h
set_option maxRecDepth 100000 in
theorem vw_X11_count {G : mv_G} {l : Nat} {post : Option mv_V → mv_SH → mv_Mem → Prop} {M : mv_Mem} {a : Int} (h : (if a = 0 then
    post (some (.inl (M 8 0))) (mh l) M
  else
    (if a = (0 + 1) then
    post (some (.inl (M 8 1))) (mh l) M
  else
    (if a = (0 + 1 + 1) then
    post (some (.inl (M 8 4))) (mh l) M
  else
    (if a = (0 + 1 + 1 + 1) then
    post (some (.inl (M 17 0))) (mh l) M
  else
    (if a = (0 + 1 + 1 + 1 + 1) then
    post (some (.inl (M 8 3))) (mh l) M
  else
    (if a = (0 + 1 + 1 + 1 + 1 + 1) then
    post (some (.inl (M 30 0))) (mh l) M
  else
    (if a = (0 + 1 + 1 + 1 + 1 + 1 + 1) then
    mv_Wp G 14 [.inr (.inr 6)] (mh l) M (mv_qv (mh l) fun M2 =>
    mv_Wp G 29 [.inr (.inr 6)] (mh l) M2 (mv_qi (mh l) fun x3 M3 =>
    post (some (.inl x3)) (mh l) M3))
  else
    (if a = (0 + 1 + 1 + 1 + 1 + 1 + 1 + 1) then
    mv_Wp G 10 [.inr (.inr 8)] (mh l) M (mv_qi (mh l) fun x1 M1 =>
    post (some (.inl x1)) (mh l) M1)
  else
    (if a = (0 + 1 + 1 + 1 + 1 + 1 + 1 + 1 + 1) then
    post (some (.inl (M 2 1))) (mh l) M
  else
    (if a = (0 + 1 + 1 + 1 + 1 + 1 + 1 + 1 + 1 + 1) then
    post (some (.inl (M 4 1))) (mh l) M
  else
    (if a < 11 then
    post (some (.inl (-9))) (mh l) M
  else
    (if 16 < a then
      post (some (.inl (-9))) (mh l) M
    else
      mv_R32 (a - 10) ∧
      (0 ≤ (a - 10 : Int) ∧ (a - 10 : Int) < ((7 : Nat) : Int)) ∧
      post (some (.inl (M 87 (Int.toNat (a - 10))))) (mh l) M))))))))))))) :
    mv_Wp G 125 [.inr (.inr 1), .inl a] (mh l) M post := mv_wp [] 80 ok_125 oc_125 rfl h
set_option maxRecDepth 100000 in
theorem vw_X11_refuse {G : mv_G} {l : Nat} {post : Option mv_V → mv_SH → mv_Mem → Prop} {M : mv_Mem} {a : Int} (h : (if (-1) < a then
    post (some (.inl a)) (mh l) M
  else
    (if a < (-6) then
      post (some (.inl a)) (mh l) M
    else
      mv_R32 (-a) ∧
      (0 ≤ (-a : Int) ∧ (-a : Int) < ((7 : Nat) : Int)) ∧
      mv_R32 ((M 87 (Int.toNat (-a))) + 1) ∧
      (0 ≤ (-a : Int) ∧ (-a : Int) < ((7 : Nat) : Int)) ∧
      post (some (.inl a)) (mh l) (mv_up M 87 (Int.toNat (-a)) ((M 87 (Int.toNat (-a))) + 1))))) :
    mv_Wp G 126 [.inr (.inr 1), .inl a] (mh l) M post := mv_wp [] 37 ok_126 oc_126 rfl h
set_option maxRecDepth 100000 in
theorem vw_X11_refuseLong {G : mv_G} {l : Nat} {post : Option mv_V → mv_SH → mv_Mem → Prop} {M : mv_Mem} {a : Int} (h : mv_Wp G 126 [.inr (.inr 1), .inl a] (mh l) M (mv_qi (mh l) fun x1 M1 =>
  mv_R64 (4000000000000000000 - x1) ∧
  post (some (.inr (.inl (4000000000000000000 - x1)))) (mh l) M1)) :
    mv_Wp G 127 [.inr (.inr 1), .inl a] (mh l) M post := mv_wp [] 27 ok_127 oc_127 rfl h
set_option maxRecDepth 100000 in
theorem vw_X11_unfit {G : mv_G} {l : Nat} {post : Option mv_V → mv_SH → mv_Mem → Prop} {M : mv_Mem} {a b c : Int} (h : (if b ≤ a then
    (if a ≤ c then
      post (some (.inl 0)) (mh l) M
    else
      post (some (.inl (-6))) (mh l) M)
  else
    post (some (.inl (-4))) (mh l) M)) :
    mv_Wp G 128 [.inl a, .inl b, .inl c] (mh l) M post := mv_wp [] 32 ok_128 oc_128 rfl h
set_option maxRecDepth 100000 in
theorem vw_X11_isNoUse {G : mv_G} {l : Nat} {post : Option mv_V → mv_SH → mv_Mem → Prop} {M : mv_Mem} {a : Int} (h : (if a < 0 then
    ((1 : Int) = 0 ∨ (1 : Int) = 1) ∧ post (some (.inl 1)) (mh l) M
  else
    (if a < (M 17 0) then
      ((0 : Int) = 0 ∨ (0 : Int) = 1) ∧ post (some (.inl 0)) (mh l) M
    else
      ((1 : Int) = 0 ∨ (1 : Int) = 1) ∧ post (some (.inl 1)) (mh l) M))) :
    mv_Wp G 129 [.inr (.inr 1), .inl a] (mh l) M post := mv_wp [] 31 ok_129 oc_129 rfl h
set_option maxRecDepth 100000 in
theorem vw_X11_isNoMarket {G : mv_G} {l : Nat} {post : Option mv_V → mv_SH → mv_Mem → Prop} {M : mv_Mem} {a : Int} (h : (if a < 0 then
    ((1 : Int) = 0 ∨ (1 : Int) = 1) ∧ post (some (.inl 1)) (mh l) M
  else
    (if a < (M 8 4) then
      ((0 : Int) = 0 ∨ (0 : Int) = 1) ∧ post (some (.inl 0)) (mh l) M
    else
      ((1 : Int) = 0 ∨ (1 : Int) = 1) ∧ post (some (.inl 1)) (mh l) M))) :
    mv_Wp G 130 [.inr (.inr 1), .inl a] (mh l) M post := mv_wp [] 31 ok_130 oc_130 rfl h
set_option maxRecDepth 100000 in
theorem vw_X11_offerOf {G : mv_G} {l : Nat} {post : Option mv_V → mv_SH → mv_Mem → Prop} {M : mv_Mem} {a b : Int} (h : mv_R32 (a * 3) ∧
  mv_R32 ((a * 3) + b) ∧
  post (some (.inl ((a * 3) + b))) (mh l) M) :
    mv_Wp G 131 [.inl a, .inl b] (mh l) M post := mv_wp [] 26 ok_131 oc_131 rfl h
