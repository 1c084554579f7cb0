/-! WHAT IS TO BE SHOWN of the methods (by program: wip/whole/allvc.py) -/
set_option maxRecDepth 100000 in
theorem vw_X12_no {G : mv_G} {l : Nat} {post : Option mv_V → mv_SH → mv_Mem → Prop} {M : mv_Mem} {a : Int} (h : mv_R32 (-a) ∧
  (0 ≤ (-a : Int) ∧ (-a : Int) < ((7 : Nat) : Int)) ∧
  mv_R32 ((M 89 (Int.toNat (-a))) + 1) ∧
  (0 ≤ (-a : Int) ∧ (-a : Int) < ((7 : Nat) : Int)) ∧
  post (some (.inl a)) (mh l) (mv_up M 89 (Int.toNat (-a)) ((M 89 (Int.toNat (-a))) + 1))) :
    mv_Wp G 133 [.inr (.inr 88), .inl a] (mh l) M post := mv_wp [] 31 ok_133 oc_133 rfl h
set_option maxRecDepth 100000 in
theorem vw_X12_noLong {G : mv_G} {l : Nat} {post : Option mv_V → mv_SH → mv_Mem → Prop} {M : mv_Mem} {a : Int} (h : mv_R32 (-a) ∧
  (0 ≤ (-a : Int) ∧ (-a : Int) < ((7 : Nat) : Int)) ∧
  mv_R32 ((M 89 (Int.toNat (-a))) + 1) ∧
  (0 ≤ (-a : Int) ∧ (-a : Int) < ((7 : Nat) : Int)) ∧
  mv_R64 (4000000000000000000 - a) ∧
  post (some (.inr (.inl (4000000000000000000 - a)))) (mh l) (mv_up M 89 (Int.toNat (-a)) ((M 89 (Int.toNat (-a))) + 1))) :
    mv_Wp G 134 [.inr (.inr 88), .inl a] (mh l) M post := mv_wp [] 34 ok_134 oc_134 rfl h
set_option maxRecDepth 100000 in
theorem vw_X12_isIn {G : mv_G} {l : Nat} {post : Option mv_V → mv_SH → mv_Mem → Prop} {M : mv_Mem} {a b c : Int} (h : (if (mv_cmp a b) < 0 then
    ((0 : Int) = 0 ∨ (0 : Int) = 1) ∧ post (some (.inl 0)) (mh l) M
  else
    (if 0 < (mv_cmp a c) then
      ((0 : Int) = 0 ∨ (0 : Int) = 1) ∧ post (some (.inl 0)) (mh l) M
    else
      ((1 : Int) = 0 ∨ (1 : Int) = 1) ∧ post (some (.inl 1)) (mh l) M))) :
    mv_Wp G 135 [.inr (.inl a), .inr (.inl b), .inr (.inl c)] (mh l) M post := mv_wp [] 32 ok_135 oc_135 rfl h
set_option maxRecDepth 100000 in
theorem vw_X12_outOf {G : mv_G} {l : Nat} {post : Option mv_V → mv_SH → mv_Mem → Prop} {M : mv_Mem} {a b c : Int} (h : (if 0 ≤ (mv_cmp a b) then
    (if (mv_cmp a c) ≤ 0 then
      post (some (.inl 0)) (mh l) M
    else
      post (some (.inl (-6))) (mh l) M)
  else
    post (some (.inl (-4))) (mh l) M)) :
    mv_Wp G 136 [.inr (.inl a), .inr (.inl b), .inr (.inl c)] (mh l) M post := mv_wp [] 34 ok_136 oc_136 rfl h
set_option maxRecDepth 100000 in
theorem vw_X12_feed {G : mv_G} {l : Nat} {post : Option mv_V → mv_SH → mv_Mem → Prop} {M : mv_Mem} {a b : Int} (h : mv_Wp G 136 [.inr (.inl a), .inr (.inl 1), .inr (.inl 8)] (mh l) M (mv_qi (mh l) fun x1 M1 =>
  (if x1 = 0 then
    mv_R32 ((M1 88 7) + a) ∧
    (if ((M1 88 7) + a) ≤ 60 then
      (if x1 = 0 then
        mv_Run G 137 136 7420 46 [(0, .inr (.inr 88)), (1, .inl a), (2, .inr (.inl b)), (5, .inl 0)] [] (mh l) M1 post
      else
        mv_Wp G 133 [.inr (.inr 88), .inl x1] (mh l) M1 (mv_qi (mh l) fun x3 M3 =>
        post (some (.inl x3)) (mh l) M3))
    else
      (if (-6) = 0 then
        mv_Run G 137 136 7420 46 [(0, .inr (.inr 88)), (1, .inl a), (2, .inr (.inl b)), (5, .inl 0)] [] (mh l) M1 post
      else
        mv_Wp G 133 [.inr (.inr 88), .inl (-6)] (mh l) M1 (mv_qi (mh l) fun x4 M4 =>
        post (some (.inl x4)) (mh l) M4)))
  else
    (if x1 = 0 then
      mv_Run G 137 136 7420 46 [(0, .inr (.inr 88)), (1, .inl a), (2, .inr (.inl b)), (5, .inl 0)] [] (mh l) M1 post
    else
      mv_Wp G 133 [.inr (.inr 88), .inl x1] (mh l) M1 (mv_qi (mh l) fun x2 M2 =>
      post (some (.inl x2)) (mh l) M2))))) :
    mv_Wp G 137 [.inr (.inr 88), .inl a, .inr (.inl b)] (mh l) M post := mv_wp [(46, [0, 1, 2, 5])] 71 ok_137 oc_137 rfl h
set_option maxRecDepth 100000 in
theorem vr_X12_feed_46 {G : mv_G} {l : Nat} {post : Option mv_V → mv_SH → mv_Mem → Prop} {M : mv_Mem} {a b v5 : Int} (h : (if a ≤ v5 then
    post (some (.inl (M 88 7))) (mh l) M
  else
    mv_R32 (8 * v5) ∧
    mv_R32 (mv_land (mv_lshr b (8 * v5)) 255) ∧
    (0 ≤ (M 88 7 : Int) ∧ (M 88 7 : Int) < ((60 : Nat) : Int)) ∧
    mv_R32 (((mv_up M 90 (Int.toNat (M 88 7)) (mv_land (mv_lshr b (8 * v5)) 255)) 88 7) + 1) ∧
    mv_R32 (v5 + 1) ∧
    mv_Run G 137 136 7420 46 [(0, .inr (.inr 88)), (1, .inl a), (2, .inr (.inl b)), (5, .inl (v5 + 1))] [] (mh l) (mv_up (mv_up M 90 (Int.toNat (M 88 7)) (mv_land (mv_lshr b (8 * v5)) 255)) 88 7 (((mv_up M 90 (Int.toNat (M 88 7)) (mv_land (mv_lshr b (8 * v5)) 255)) 88 7) + 1)) post)) :
    mv_Run G 137 136 7420 46 [(0, .inr (.inr 88)), (1, .inl a), (2, .inr (.inl b)), (5, .inl v5)] [] (mh l) M post := mv_run [(46, [0, 1, 2, 5])] 71 ok_137 h
set_option maxRecDepth 100000 in
theorem vw_X12_sign {G : mv_G} {l : Nat} {post : Option mv_V → mv_SH → mv_Mem → Prop} {M : mv_Mem} (h : (if (M 88 7) ≤ (M 88 10) then
    post (some (.inl (-1))) (mh l) M
  else
    (0 ≤ (M 88 10 : Int) ∧ (M 88 10 : Int) < ((60 : Nat) : Int)) ∧
    post (some (.inl (M 90 (Int.toNat (M 88 10))))) (mh l) M)) :
    mv_Wp G 138 [.inr (.inr 88)] (mh l) M post := mv_wp [] 33 ok_138 oc_138 rfl h
set_option maxRecDepth 100000 in
theorem vw_X12_readsLine {G : mv_G} {l : Nat} {post : Option mv_V → mv_SH → mv_Mem → Prop} {M : mv_Mem} (h : (if (M 88 12) = 0 then
    mv_Run G 139 136 7420 19 [(0, .inr (.inr 88)), (1, .inl 0), (2, .inl 8)] [] (mh l) M post
  else
    mv_Run G 139 136 7420 19 [(0, .inr (.inr 88)), (1, .inl 0), (2, .inl (M 88 11))] [] (mh l) M post)) :
    mv_Wp G 139 [.inr (.inr 88)] (mh l) M post := mv_wp [(19, [0, 1, 2])] 85 ok_139 oc_139 rfl h
set_option maxRecDepth 100000 in
theorem vr_X12_readsLine_19 {G : mv_G} {l : Nat} {post : Option mv_V → mv_SH → mv_Mem → Prop} {M : mv_Mem} {v1 v2 : Int} (h : mv_Wp G 138 [.inr (.inr 88)] (mh l) M (mv_qi (mh l) fun x1 M1 =>
  mv_Wp G 135 [.inr (.inl x1), .inr (.inl 48), .inr (.inl 57)] (mh l) M1 (mv_qi (mh l) fun x2 M2 =>
  (if x2 = 0 then
    (if (M2 88 12) = 0 then
      mv_R32 (((mv_up M2 88 11 v1) 88 12) + 1) ∧
      (if v1 ≤ 0 then
        ((0 : Int) = 0 ∨ (0 : Int) = 1) ∧ post (some (.inl 0)) (mh l) (mv_up (mv_up M2 88 11 v1) 88 12 (((mv_up M2 88 11 v1) 88 12) + 1))
      else
        (if v1 = ((mv_up (mv_up M2 88 11 v1) 88 12 (((mv_up M2 88 11 v1) 88 12) + 1)) 88 11) then
          ((1 : Int) = 0 ∨ (1 : Int) = 1) ∧ post (some (.inl 1)) (mh l) (mv_up (mv_up M2 88 11 v1) 88 12 (((mv_up M2 88 11 v1) 88 12) + 1))
        else
          ((0 : Int) = 0 ∨ (0 : Int) = 1) ∧ post (some (.inl 0)) (mh l) (mv_up (mv_up M2 88 11 v1) 88 12 (((mv_up M2 88 11 v1) 88 12) + 1))))
    else
      mv_R32 ((M2 88 12) + 1) ∧
      (if v1 ≤ 0 then
        ((0 : Int) = 0 ∨ (0 : Int) = 1) ∧ post (some (.inl 0)) (mh l) (mv_up M2 88 12 ((M2 88 12) + 1))
      else
        (if v1 = ((mv_up M2 88 12 ((M2 88 12) + 1)) 88 11) then
          ((1 : Int) = 0 ∨ (1 : Int) = 1) ∧ post (some (.inl 1)) (mh l) (mv_up M2 88 12 ((M2 88 12) + 1))
        else
          ((0 : Int) = 0 ∨ (0 : Int) = 1) ∧ post (some (.inl 0)) (mh l) (mv_up M2 88 12 ((M2 88 12) + 1)))))
  else
    (if v1 = v2 then
      ((0 : Int) = 0 ∨ (0 : Int) = 1) ∧ post (some (.inl 0)) (mh l) M2
    else
      mv_R32 (8 * (M2 88 12)) ∧
      mv_R32 ((8 * (M2 88 12)) + v1) ∧
      mv_Wp G 138 [.inr (.inr 88)] (mh l) M2 (mv_qi (mh l) fun x3 M3 =>
      mv_R32 (x3 - 48) ∧
      (0 ≤ ((8 * (M2 88 12)) + v1 : Int) ∧ ((8 * (M2 88 12)) + v1 : Int) < ((48 : Nat) : Int)) ∧
      mv_R32 (v1 + 1) ∧
      mv_R32 (((mv_up M3 94 (Int.toNat ((8 * (M2 88 12)) + v1)) (x3 - 48)) 88 10) + 1) ∧
      mv_Run G 139 136 7420 19 [(0, .inr (.inr 88)), (1, .inl (v1 + 1)), (2, .inl v2)] [] (mh l) (mv_up (mv_up M3 94 (Int.toNat ((8 * (M2 88 12)) + v1)) (x3 - 48)) 88 10 (((mv_up M3 94 (Int.toNat ((8 * (M2 88 12)) + v1)) (x3 - 48)) 88 10) + 1)) post)))))) :
    mv_Run G 139 136 7420 19 [(0, .inr (.inr 88)), (1, .inl v1), (2, .inl v2)] [] (mh l) M post := mv_run [(19, [0, 1, 2])] 85 ok_139 h
set_option maxRecDepth 100000 in
theorem vw_X12_reads {G : mv_G} {l : Nat} {post : Option mv_V → mv_SH → mv_Mem → Prop} {M : mv_Mem} (h : mv_Wp G 139 [.inr (.inr 88)] (mh l) (mv_up (mv_up M 88 10 0) 88 12 0) (mv_qi (mh l) fun x1 M1 =>
  (if x1 = 0 then
    ((0 : Int) = 0 ∨ (0 : Int) = 1) ∧ post (some (.inl 0)) (mh l) M1
  else
    mv_Run G 140 136 7420 19 [(0, .inr (.inr 88))] [] (mh l) M1 post))) :
    mv_Wp G 140 [.inr (.inr 88)] (mh l) M post := mv_wp [(19, [0])] 61 ok_140 oc_140 rfl h
set_option maxRecDepth 100000 in
theorem vr_X12_reads_19 {G : mv_G} {l : Nat} {post : Option mv_V → mv_SH → mv_Mem → Prop} {M : mv_Mem} (h : mv_Wp G 138 [.inr (.inr 88)] (mh l) M (mv_qi (mh l) fun x1 M1 =>
  (if x1 = 47 then
    (if (M1 88 12) = 6 then
      ((0 : Int) = 0 ∨ (0 : Int) = 1) ∧ post (some (.inl 0)) (mh l) M1
    else
      mv_R32 ((M1 88 10) + 1) ∧
      mv_Wp G 139 [.inr (.inr 88)] (mh l) (mv_up M1 88 10 ((M1 88 10) + 1)) (mv_qi (mh l) fun x2 M2 =>
      (if x2 = 0 then
        ((0 : Int) = 0 ∨ (0 : Int) = 1) ∧ post (some (.inl 0)) (mh l) M2
      else
        mv_Run G 140 136 7420 19 [(0, .inr (.inr 88))] [] (mh l) M2 post)))
  else
    (if (M1 88 10) = (M1 88 7) then
      ((1 : Int) = 0 ∨ (1 : Int) = 1) ∧ post (some (.inl 1)) (mh l) M1
    else
      ((0 : Int) = 0 ∨ (0 : Int) = 1) ∧ post (some (.inl 0)) (mh l) M1)))) :
    mv_Run G 140 136 7420 19 [(0, .inr (.inr 88))] [] (mh l) M post := mv_run [(19, [0])] 61 ok_140 h
set_option maxRecDepth 100000 in
theorem vw_X12_read {G : mv_G} {l : Nat} {post : Option mv_V → mv_SH → mv_Mem → Prop} {M : mv_Mem} (h : mv_Wp G 140 [.inr (.inr 88)] (mh l) M (mv_qi (mh l) fun x1 M1 =>
  (if x1 = 0 then
    mv_R32 ((-20) - ((mv_up M1 88 7 0) 88 10)) ∧
    post (some (.inl ((-20) - ((mv_up M1 88 7 0) 88 10)))) (mh l) (mv_up M1 88 7 0)
  else
    mv_Run G 141 136 7420 40 [(0, .inr (.inr 88)), (2, .inl 0)] [] (mh l) (mv_up (mv_up (mv_up M1 88 7 0) 88 8 ((mv_up M1 88 7 0) 88 11)) 88 9 ((mv_up (mv_up M1 88 7 0) 88 8 ((mv_up M1 88 7 0) 88 11)) 88 12)) post))) :
    mv_Wp G 141 [.inr (.inr 88)] (mh l) M post := mv_wp [(40, [0, 2])] 86 ok_141 oc_141 rfl h
set_option maxRecDepth 100000 in
theorem vr_X12_read_40 {G : mv_G} {l : Nat} {post : Option mv_V → mv_SH → mv_Mem → Prop} {M : mv_Mem} {v2 : Int} (h : (if 48 ≤ v2 then
    mv_R32 (((mv_up (mv_up (mv_up M 88 23 0) 88 17 0) 88 55 0) 88 8) * ((mv_up (mv_up (mv_up M 88 23 0) 88 17 0) 88 55 0) 88 9)) ∧
    post (some (.inl (((mv_up (mv_up (mv_up M 88 23 0) 88 17 0) 88 55 0) 88 8) * ((mv_up (mv_up (mv_up M 88 23 0) 88 17 0) 88 55 0) 88 9)))) (mh l) (mv_up (mv_up (mv_up M 88 23 0) 88 17 0) 88 55 0)
  else
    (0 ≤ (v2 : Int) ∧ (v2 : Int) < ((48 : Nat) : Int)) ∧
    (0 ≤ (v2 : Int) ∧ (v2 : Int) < ((48 : Nat) : Int)) ∧
    (0 ≤ (v2 : Int) ∧ (v2 : Int) < ((48 : Nat) : Int)) ∧
    (0 ≤ (v2 : Int) ∧ (v2 : Int) < ((48 : Nat) : Int)) ∧
    ((0 ≤ (v2 : Int) ∧ (v2 : Int) < ((48 : Nat) : Int)) ∧ ((0 : Int) = 0 ∨ (0 : Int) = 1)) ∧
    mv_R32 (v2 + 1) ∧
    mv_Run G 141 136 7420 40 [(0, .inr (.inr 88)), (2, .inl (v2 + 1))] [] (mh l) (mv_up (mv_up (mv_up (mv_up M 91 (Int.toNat v2) (M 94 (Int.toNat v2))) 92 (Int.toNat v2) 0) 93 (Int.toNat v2) (-9)) 95 (Int.toNat v2) 0) post)) :
    mv_Run G 141 136 7420 40 [(0, .inr (.inr 88)), (2, .inl v2)] [] (mh l) M post := mv_run [(40, [0, 2])] 86 ok_141 h
set_option maxRecDepth 100000 in
theorem vw_X12_acreOf {G : mv_G} {l : Nat} {post : Option mv_V → mv_SH → mv_Mem → Prop} {M : mv_Mem} {a : Int} (h : (if a < 0 then
    post (some (.inl (-1))) (mh l) M
  else
    (¬ (10 : Int) = 0 ∧ mv_R32 (Int.tdiv a 10)) ∧
    (if (M 88 8) ≤ (Int.tdiv a 10) then
      post (some (.inl (-1))) (mh l) M
    else
      ¬ (10 : Int) = 0 ∧
      (if (M 88 9) ≤ (Int.tmod a 10) then
        post (some (.inl (-1))) (mh l) M
      else
        ¬ (10 : Int) = 0 ∧
        mv_R32 (8 * (Int.tmod a 10)) ∧
        (¬ (10 : Int) = 0 ∧ mv_R32 (Int.tdiv a 10)) ∧
        mv_R32 ((8 * (Int.tmod a 10)) + (Int.tdiv a 10)) ∧
        post (some (.inl ((8 * (Int.tmod a 10)) + (Int.tdiv a 10)))) (mh l) M)))) :
    mv_Wp G 142 [.inr (.inr 88), .inl a] (mh l) M post := mv_wp [] 46 ok_142 oc_142 rfl h
set_option maxRecDepth 100000 in
theorem vw_X12_isAcre {G : mv_G} {l : Nat} {post : Option mv_V → mv_SH → mv_Mem → Prop} {M : mv_Mem} {a : Int} (h : (if a < 0 then
    ((0 : Int) = 0 ∨ (0 : Int) = 1) ∧ post (some (.inl 0)) (mh l) M
  else
    (if 48 ≤ a then
      ((0 : Int) = 0 ∨ (0 : Int) = 1) ∧ post (some (.inl 0)) (mh l) M
    else
      ¬ (8 : Int) = 0 ∧
      (if (M 88 8) ≤ (Int.tmod a 8) then
        ((0 : Int) = 0 ∨ (0 : Int) = 1) ∧ post (some (.inl 0)) (mh l) M
      else
        (¬ (8 : Int) = 0 ∧ mv_R32 (Int.tdiv a 8)) ∧
        (if (M 88 9) ≤ (Int.tdiv a 8) then
          ((0 : Int) = 0 ∨ (0 : Int) = 1) ∧ post (some (.inl 0)) (mh l) M
        else
          ((1 : Int) = 0 ∨ (1 : Int) = 1) ∧ post (some (.inl 1)) (mh l) M))))) :
    mv_Wp G 143 [.inr (.inr 88), .inl a] (mh l) M post := mv_wp [] 41 ok_143 oc_143 rfl h
set_option maxRecDepth 100000 in
theorem vw_X12_told {G : mv_G} {l : Nat} {post : Option mv_V → mv_SH → mv_Mem → Prop} {M : mv_Mem} {a : Int} (h : ¬ (8 : Int) = 0 ∧
  mv_R32 (10 * (Int.tmod a 8)) ∧
  (¬ (8 : Int) = 0 ∧ mv_R32 (Int.tdiv a 8)) ∧
  mv_R32 ((10 * (Int.tmod a 8)) + (Int.tdiv a 8)) ∧
  post (some (.inl ((10 * (Int.tmod a 8)) + (Int.tdiv a 8)))) (mh l) M) :
    mv_Wp G 144 [.inl a] (mh l) M post := mv_wp [] 30 ok_144 oc_144 rfl h
set_option maxRecDepth 100000 in
theorem vw_X12_acre {G : mv_G} {l : Nat} {post : Option mv_V → mv_SH → mv_Mem → Prop} {M : mv_Mem} {a b : Int} (h : mv_Wp G 142 [.inr (.inr 88), .inl a] (mh l) M (mv_qi (mh l) fun x1 M1 =>
  (if 0 ≤ x1 then
    (if b = 0 then
      (0 ≤ (x1 : Int) ∧ (x1 : Int) < ((48 : Nat) : Int)) ∧
      post (some (.inl (M1 91 (Int.toNat x1)))) (mh l) M1
    else
      (if b = (0 + 1) then
      (0 ≤ (x1 : Int) ∧ (x1 : Int) < ((48 : Nat) : Int)) ∧
      post (some (.inl (M1 92 (Int.toNat x1)))) (mh l) M1
    else
      (if b = (0 + 1 + 1) then
      (0 ≤ (x1 : Int) ∧ (x1 : Int) < ((48 : Nat) : Int)) ∧
      (if (M1 95 (Int.toNat x1)) = 0 then
        post (some (.inl 0)) (mh l) M1
      else
        post (some (.inl 1)) (mh l) M1)
    else
      (if b = (0 + 1 + 1 + 1) then
      (0 ≤ (x1 : Int) ∧ (x1 : Int) < ((48 : Nat) : Int)) ∧
      post (some (.inl (M1 93 (Int.toNat x1)))) (mh l) M1
    else
      (if b = (0 + 1 + 1 + 1 + 1) then
      mv_Wp G 156 [.inr (.inr 88), .inl x1] (mh l) M1 (mv_qi (mh l) fun x3 M3 =>
      post (some (.inl x3)) (mh l) M3)
    else
      mv_Wp G 133 [.inr (.inr 88), .inl (-2)] (mh l) M1 (mv_qi (mh l) fun x2 M2 =>
    post (some (.inl x2)) (mh l) M2))))))
  else
    mv_Wp G 133 [.inr (.inr 88), .inl (-1)] (mh l) M1 (mv_qi (mh l) fun x4 M4 =>
    post (some (.inl x4)) (mh l) M4)))) :
    mv_Wp G 145 [.inr (.inr 88), .inl a, .inl b] (mh l) M post := mv_wp [] 64 ok_145 oc_145 rfl h
set_option maxRecDepth 100000 in
theorem vw_X12_areBeside {G : mv_G} {l : Nat} {post : Option mv_V → mv_SH → mv_Mem → Prop} {M : mv_Mem} {a b : Int} (h : ¬ (8 : Int) = 0 ∧
  ¬ (8 : Int) = 0 ∧
  mv_R32 ((Int.tmod a 8) - (Int.tmod b 8)) ∧
  (¬ (8 : Int) = 0 ∧ mv_R32 (Int.tdiv a 8)) ∧
  (¬ (8 : Int) = 0 ∧ mv_R32 (Int.tdiv b 8)) ∧
  mv_R32 ((Int.tdiv a 8) - (Int.tdiv b 8)) ∧
  mv_R32 (((Int.tmod a 8) - (Int.tmod b 8)) * ((Int.tmod a 8) - (Int.tmod b 8))) ∧
  mv_R32 (((Int.tdiv a 8) - (Int.tdiv b 8)) * ((Int.tdiv a 8) - (Int.tdiv b 8))) ∧
  mv_R32 ((((Int.tmod a 8) - (Int.tmod b 8)) * ((Int.tmod a 8) - (Int.tmod b 8))) + (((Int.tdiv a 8) - (Int.tdiv b 8)) * ((Int.tdiv a 8) - (Int.tdiv b 8)))) ∧
  (if ((((Int.tmod a 8) - (Int.tmod b 8)) * ((Int.tmod a 8) - (Int.tmod b 8))) + (((Int.tdiv a 8) - (Int.tdiv b 8)) * ((Int.tdiv a 8) - (Int.tdiv b 8)))) = 1 then
    ((1 : Int) = 0 ∨ (1 : Int) = 1) ∧ post (some (.inl 1)) (mh l) M
  else
    ((0 : Int) = 0 ∨ (0 : Int) = 1) ∧ post (some (.inl 0)) (mh l) M)) :
    mv_Wp G 146 [.inl a, .inl b] (mh l) M post := mv_wp [] 49 ok_146 oc_146 rfl h
set_option maxRecDepth 100000 in
theorem vw_X12_roadOf {G : mv_G} {l : Nat} {post : Option mv_V → mv_SH → mv_Mem → Prop} {M : mv_Mem} {a b : Int} (h : mv_Run G 147 136 7420 2 [(0, .inr (.inr 88)), (1, .inl a), (2, .inl b), (3, .inl 0)] [] (mh l) M post) :
    mv_Wp G 147 [.inr (.inr 88), .inl a, .inl b] (mh l) M post := mv_wp [(2, [0, 1, 2, 3])] 56 ok_147 oc_147 rfl h
set_option maxRecDepth 100000 in
theorem vr_X12_roadOf_2 {G : mv_G} {l : Nat} {post : Option mv_V → mv_SH → mv_Mem → Prop} {M : mv_Mem} {a b v3 : Int} (h : (if (M 88 17) ≤ v3 then
    post (some (.inl (-1))) (mh l) M
  else
    (0 ≤ (v3 : Int) ∧ (v3 : Int) < ((20 : Nat) : Int)) ∧
    (if (M 96 (Int.toNat v3)) = a then
      (0 ≤ (v3 : Int) ∧ (v3 : Int) < ((20 : Nat) : Int)) ∧
      (if (M 97 (Int.toNat v3)) = b then
        post (some (.inl v3)) (mh l) M
      else
        (0 ≤ (v3 : Int) ∧ (v3 : Int) < ((20 : Nat) : Int)) ∧
        (if (M 96 (Int.toNat v3)) = b then
          (0 ≤ (v3 : Int) ∧ (v3 : Int) < ((20 : Nat) : Int)) ∧
          (if (M 97 (Int.toNat v3)) = a then
            post (some (.inl v3)) (mh l) M
          else
            mv_R32 (v3 + 1) ∧
            mv_Run G 147 136 7420 2 [(0, .inr (.inr 88)), (1, .inl a), (2, .inl b), (3, .inl (v3 + 1))] [] (mh l) M post)
        else
          mv_R32 (v3 + 1) ∧
          mv_Run G 147 136 7420 2 [(0, .inr (.inr 88)), (1, .inl a), (2, .inl b), (3, .inl (v3 + 1))] [] (mh l) M post))
    else
      (0 ≤ (v3 : Int) ∧ (v3 : Int) < ((20 : Nat) : Int)) ∧
      (if (M 96 (Int.toNat v3)) = b then
        (0 ≤ (v3 : Int) ∧ (v3 : Int) < ((20 : Nat) : Int)) ∧
        (if (M 97 (Int.toNat v3)) = a then
          post (some (.inl v3)) (mh l) M
        else
          mv_R32 (v3 + 1) ∧
          mv_Run G 147 136 7420 2 [(0, .inr (.inr 88)), (1, .inl a), (2, .inl b), (3, .inl (v3 + 1))] [] (mh l) M post)
      else
        mv_R32 (v3 + 1) ∧
        mv_Run G 147 136 7420 2 [(0, .inr (.inr 88)), (1, .inl a), (2, .inl b), (3, .inl (v3 + 1))] [] (mh l) M post)))) :
    mv_Run G 147 136 7420 2 [(0, .inr (.inr 88)), (1, .inl a), (2, .inl b), (3, .inl v3)] [] (mh l) M post := mv_run [(2, [0, 1, 2, 3])] 56 ok_147 h
set_option maxRecDepth 100000 in
theorem vw_X12_puts {G : mv_G} {l : Nat} {post : Option mv_V → mv_SH → mv_Mem → Prop} {M : mv_Mem} {a b c : Int} (h : mv_Wp G 147 [.inr (.inr 88), .inl a, .inl b] (mh l) M (mv_qi (mh l) fun x1 M1 =>
  (if 0 ≤ x1 then
    (0 ≤ (x1 : Int) ∧ (x1 : Int) < ((20 : Nat) : Int)) ∧
    (0 ≤ (x1 : Int) ∧ (x1 : Int) < ((20 : Nat) : Int)) ∧
    (0 ≤ (x1 : Int) ∧ (x1 : Int) < ((20 : Nat) : Int)) ∧
    post none (mh l) (mv_up (mv_up (mv_up M1 96 (Int.toNat x1) a) 97 (Int.toNat x1) b) 98 (Int.toNat x1) c)
  else
    mv_R32 ((M1 88 17) + 1) ∧
    (0 ≤ (M1 88 17 : Int) ∧ (M1 88 17 : Int) < ((20 : Nat) : Int)) ∧
    (0 ≤ (M1 88 17 : Int) ∧ (M1 88 17 : Int) < ((20 : Nat) : Int)) ∧
    (0 ≤ (M1 88 17 : Int) ∧ (M1 88 17 : Int) < ((20 : Nat) : Int)) ∧
    post none (mh l) (mv_up (mv_up (mv_up (mv_up M1 88 17 ((M1 88 17) + 1)) 96 (Int.toNat (M1 88 17)) a) 97 (Int.toNat (M1 88 17)) b) 98 (Int.toNat (M1 88 17)) c)))) :
    mv_Wp G 148 [.inr (.inr 88), .inl a, .inl b, .inl c] (mh l) M post := mv_wp [] 52 ok_148 oc_148 rfl h
set_option maxRecDepth 100000 in
theorem vw_X12_road {G : mv_G} {l : Nat} {post : Option mv_V → mv_SH → mv_Mem → Prop} {M : mv_Mem} {a b c : Int} (h : mv_Wp G 142 [.inr (.inr 88), .inl a] (mh l) M (mv_qi (mh l) fun x1 M1 =>
  mv_Wp G 142 [.inr (.inr 88), .inl b] (mh l) M1 (mv_qi (mh l) fun x2 M2 =>
  (if x1 < 0 then
    mv_Wp G 133 [.inr (.inr 88), .inl (-1)] (mh l) M2 (mv_qi (mh l) fun x3 M3 =>
    post (some (.inl x3)) (mh l) M3)
  else
    (if x2 < 0 then
      mv_Wp G 133 [.inr (.inr 88), .inl (-1)] (mh l) M2 (mv_qi (mh l) fun x4 M4 =>
      post (some (.inl x4)) (mh l) M4)
    else
      mv_Wp G 146 [.inl x1, .inl x2] (mh l) M2 (mv_qi (mh l) fun x5 M5 =>
      (if x5 = 0 then
        mv_Wp G 133 [.inr (.inr 88), .inl (-1)] (mh l) M5 (mv_qi (mh l) fun x17 M17 =>
        post (some (.inl x17)) (mh l) M17)
      else
        mv_Wp G 135 [.inr (.inl c), .inr (.inl 0), .inr (.inl 3)] (mh l) M5 (mv_qi (mh l) fun x6 M6 =>
        (if x6 = 0 then
          mv_Wp G 133 [.inr (.inr 88), .inl (-2)] (mh l) M6 (mv_qi (mh l) fun x16 M16 =>
          post (some (.inl x16)) (mh l) M16)
        else
          mv_Wp G 147 [.inr (.inr 88), .inl x1, .inl x2] (mh l) M6 (mv_qi (mh l) fun x7 M7 =>
          (if 0 ≤ x7 then
            (0 ≤ (x7 : Int) ∧ (x7 : Int) < ((20 : Nat) : Int)) ∧
            (if c ≤ 0 then
              (if c ≤ 0 then
                (if x7 < 0 then
                  post (some (.inl (M7 98 (Int.toNat x7)))) (mh l) M7
                else
                  mv_Run G 149 136 7420 137 [(0, .inr (.inr 88)), (7, .inl (M7 98 (Int.toNat x7))), (8, .inl x7)] [] (mh l) M7 post)
              else
                mv_Wp G 148 [.inr (.inr 88), .inl x1, .inl x2, .inl c] (mh l) M7 (mv_qv (mh l) fun M8 =>
                post (some (.inl (M7 98 (Int.toNat x7)))) (mh l) M8))
            else
              (if 0 ≤ x7 then
                (if c ≤ 0 then
                  (if x7 < 0 then
                    post (some (.inl (M7 98 (Int.toNat x7)))) (mh l) M7
                  else
                    mv_Run G 149 136 7420 137 [(0, .inr (.inr 88)), (7, .inl (M7 98 (Int.toNat x7))), (8, .inl x7)] [] (mh l) M7 post)
                else
                  mv_Wp G 148 [.inr (.inr 88), .inl x1, .inl x2, .inl c] (mh l) M7 (mv_qv (mh l) fun M9 =>
                  post (some (.inl (M7 98 (Int.toNat x7)))) (mh l) M9))
              else
                (if (M7 88 17) = 12 then
                  mv_Wp G 133 [.inr (.inr 88), .inl (-6)] (mh l) M7 (mv_qi (mh l) fun x11 M11 =>
                  post (some (.inl x11)) (mh l) M11)
                else
                  (if c ≤ 0 then
                    (if x7 < 0 then
                      post (some (.inl (M7 98 (Int.toNat x7)))) (mh l) M7
                    else
                      mv_Run G 149 136 7420 137 [(0, .inr (.inr 88)), (7, .inl (M7 98 (Int.toNat x7))), (8, .inl x7)] [] (mh l) M7 post)
                  else
                    mv_Wp G 148 [.inr (.inr 88), .inl x1, .inl x2, .inl c] (mh l) M7 (mv_qv (mh l) fun M10 =>
                    post (some (.inl (M7 98 (Int.toNat x7)))) (mh l) M10)))))
          else
            (if c ≤ 0 then
              (if c ≤ 0 then
                (if x7 < 0 then
                  post (some (.inl 0)) (mh l) M7
                else
                  mv_Run G 149 136 7420 137 [(0, .inr (.inr 88)), (7, .inl 0), (8, .inl x7)] [] (mh l) M7 post)
              else
                mv_Wp G 148 [.inr (.inr 88), .inl x1, .inl x2, .inl c] (mh l) M7 (mv_qv (mh l) fun M12 =>
                post (some (.inl 0)) (mh l) M12))
            else
              (if 0 ≤ x7 then
                (if c ≤ 0 then
                  (if x7 < 0 then
                    post (some (.inl 0)) (mh l) M7
                  else
                    mv_Run G 149 136 7420 137 [(0, .inr (.inr 88)), (7, .inl 0), (8, .inl x7)] [] (mh l) M7 post)
                else
                  mv_Wp G 148 [.inr (.inr 88), .inl x1, .inl x2, .inl c] (mh l) M7 (mv_qv (mh l) fun M13 =>
                  post (some (.inl 0)) (mh l) M13))
              else
                (if (M7 88 17) = 12 then
                  mv_Wp G 133 [.inr (.inr 88), .inl (-6)] (mh l) M7 (mv_qi (mh l) fun x15 M15 =>
                  post (some (.inl x15)) (mh l) M15)
                else
                  (if c ≤ 0 then
                    (if x7 < 0 then
                      post (some (.inl 0)) (mh l) M7
                    else
                      mv_Run G 149 136 7420 137 [(0, .inr (.inr 88)), (7, .inl 0), (8, .inl x7)] [] (mh l) M7 post)
                  else
                    mv_Wp G 148 [.inr (.inr 88), .inl x1, .inl x2, .inl c] (mh l) M7 (mv_qv (mh l) fun M14 =>
                    post (some (.inl 0)) (mh l) M14)))))))))))))))) :
    mv_Wp G 149 [.inr (.inr 88), .inl a, .inl b, .inl c] (mh l) M post := mv_wp [(137, [0, 7, 8])] 134 ok_149 oc_149 rfl h
set_option maxRecDepth 100000 in
theorem vr_X12_road_137 {G : mv_G} {l : Nat} {post : Option mv_V → mv_SH → mv_Mem → Prop} {M : mv_Mem} {v7 v8 : Int} (h : mv_R32 ((M 88 17) - 1) ∧
  (if ((M 88 17) - 1) ≤ v8 then
    mv_R32 ((M 88 17) - 1) ∧
    post (some (.inl v7)) (mh l) (mv_up M 88 17 ((M 88 17) - 1))
  else
    mv_R32 (v8 + 1) ∧
    (0 ≤ (v8 + 1 : Int) ∧ (v8 + 1 : Int) < ((20 : Nat) : Int)) ∧
    (0 ≤ (v8 : Int) ∧ (v8 : Int) < ((20 : Nat) : Int)) ∧
    mv_R32 (v8 + 1) ∧
    (0 ≤ (v8 + 1 : Int) ∧ (v8 + 1 : Int) < ((20 : Nat) : Int)) ∧
    (0 ≤ (v8 : Int) ∧ (v8 : Int) < ((20 : Nat) : Int)) ∧
    mv_R32 (v8 + 1) ∧
    (0 ≤ (v8 + 1 : Int) ∧ (v8 + 1 : Int) < ((20 : Nat) : Int)) ∧
    (0 ≤ (v8 : Int) ∧ (v8 : Int) < ((20 : Nat) : Int)) ∧
    mv_R32 (v8 + 1) ∧
    mv_Run G 149 136 7420 137 [(0, .inr (.inr 88)), (7, .inl v7), (8, .inl (v8 + 1))] [] (mh l) (mv_up (mv_up (mv_up M 96 (Int.toNat v8) (M 96 (Int.toNat (v8 + 1)))) 97 (Int.toNat v8) ((mv_up M 96 (Int.toNat v8) (M 96 (Int.toNat (v8 + 1)))) 97 (Int.toNat (v8 + 1)))) 98 (Int.toNat v8) ((mv_up (mv_up M 96 (Int.toNat v8) (M 96 (Int.toNat (v8 + 1)))) 97 (Int.toNat v8) ((mv_up M 96 (Int.toNat v8) (M 96 (Int.toNat (v8 + 1)))) 97 (Int.toNat (v8 + 1)))) 98 (Int.toNat (v8 + 1)))) post)) :
    mv_Run G 149 136 7420 137 [(0, .inr (.inr 88)), (7, .inl v7), (8, .inl v8)] [] (mh l) M post := mv_run [(137, [0, 7, 8])] 134 ok_149 h
set_option maxRecDepth 100000 in
theorem vw_X12_step {G : mv_G} {l : Nat} {post : Option mv_V → mv_SH → mv_Mem → Prop} {M : mv_Mem} {a b : Int} (h : mv_Wp G 135 [.inr (.inl a), .inr (.inl 0), .inr (.inl 3)] (mh l) M (mv_qi (mh l) fun x1 M1 =>
  (if x1 = 0 then
    mv_Wp G 133 [.inr (.inr 88), .inl (-2)] (mh l) M1 (mv_qi (mh l) fun x4 M4 =>
    post (some (.inl x4)) (mh l) M4)
  else
    mv_Wp G 136 [.inr (.inl b), .inr (.inl 1), .inr (.inl 99)] (mh l) M1 (mv_qi (mh l) fun x2 M2 =>
    (if x2 = 0 then
      (0 ≤ (a : Int) ∧ (a : Int) < ((4 : Nat) : Int)) ∧
      (0 ≤ (a : Int) ∧ (a : Int) < ((4 : Nat) : Int)) ∧
      post (some (.inl (M2 99 (Int.toNat a)))) (mh l) (mv_up M2 99 (Int.toNat a) b)
    else
      mv_Wp G 133 [.inr (.inr 88), .inl x2] (mh l) M2 (mv_qi (mh l) fun x3 M3 =>
      post (some (.inl x3)) (mh l) M3)))))) :
    mv_Wp G 150 [.inr (.inr 88), .inl a, .inl b] (mh l) M post := mv_wp [] 54 ok_150 oc_150 rfl h
set_option maxRecDepth 100000 in
theorem vw_X12_toll {G : mv_G} {l : Nat} {post : Option mv_V → mv_SH → mv_Mem → Prop} {M : mv_Mem} {a b : Int} (h : mv_Wp G 142 [.inr (.inr 88), .inl a] (mh l) M (mv_qi (mh l) fun x1 M1 =>
  (if 0 ≤ x1 then
    mv_Wp G 136 [.inr (.inl b), .inr (.inl 0), .inr (.inl 99)] (mh l) M1 (mv_qi (mh l) fun x2 M2 =>
    (if x2 = 0 then
      (0 ≤ (x1 : Int) ∧ (x1 : Int) < ((48 : Nat) : Int)) ∧
      (0 ≤ (x1 : Int) ∧ (x1 : Int) < ((48 : Nat) : Int)) ∧
      post (some (.inl (M2 92 (Int.toNat x1)))) (mh l) (mv_up M2 92 (Int.toNat x1) b)
    else
      mv_Wp G 133 [.inr (.inr 88), .inl x2] (mh l) M2 (mv_qi (mh l) fun x3 M3 =>
      post (some (.inl x3)) (mh l) M3)))
  else
    mv_Wp G 133 [.inr (.inr 88), .inl (-1)] (mh l) M1 (mv_qi (mh l) fun x4 M4 =>
    post (some (.inl x4)) (mh l) M4)))) :
    mv_Wp G 151 [.inr (.inr 88), .inl a, .inl b] (mh l) M post := mv_wp [] 54 ok_151 oc_151 rfl h
set_option maxRecDepth 100000 in
theorem vw_X12_stepOf {G : mv_G} {l : Nat} {post : Option mv_V → mv_SH → mv_Mem → Prop} {M : mv_Mem} {a b : Int} (h : mv_Wp G 147 [.inr (.inr 88), .inl a, .inl b] (mh l) M (mv_qi (mh l) fun x1 M1 =>
  (if x1 < 0 then
    (0 ≤ (0 : Int) ∧ (0 : Int) < ((4 : Nat) : Int)) ∧
    post (some (.inl (M1 99 (Int.toNat 0)))) (mh l) M1
  else
    (0 ≤ (x1 : Int) ∧ (x1 : Int) < ((20 : Nat) : Int)) ∧
    (if (M1 98 (Int.toNat x1)) = 3 then
      (0 ≤ (x1 : Int) ∧ (x1 : Int) < ((20 : Nat) : Int)) ∧
      (if (M1 96 (Int.toNat x1)) = a then
        (0 ≤ (x1 : Int) ∧ (x1 : Int) < ((20 : Nat) : Int)) ∧
        (0 ≤ (M1 98 (Int.toNat x1) : Int) ∧ (M1 98 (Int.toNat x1) : Int) < ((4 : Nat) : Int)) ∧
        post (some (.inl (M1 99 (Int.toNat (M1 98 (Int.toNat x1)))))) (mh l) M1
      else
        (0 ≤ (0 : Int) ∧ (0 : Int) < ((4 : Nat) : Int)) ∧
        post (some (.inl (M1 99 (Int.toNat 0)))) (mh l) M1)
    else
      (0 ≤ (x1 : Int) ∧ (x1 : Int) < ((20 : Nat) : Int)) ∧
      (0 ≤ (M1 98 (Int.toNat x1) : Int) ∧ (M1 98 (Int.toNat x1) : Int) < ((4 : Nat) : Int)) ∧
      post (some (.inl (M1 99 (Int.toNat (M1 98 (Int.toNat x1)))))) (mh l) M1)))) :
    mv_Wp G 152 [.inr (.inr 88), .inl a, .inl b] (mh l) M post := mv_wp [] 52 ok_152 oc_152 rfl h
set_option maxRecDepth 100000 in
theorem vw_X12_findWays {G : mv_G} {l : Nat} {post : Option mv_V → mv_SH → mv_Mem → Prop} {M : mv_Mem} {a b : Int} (h : mv_Run G 153 136 7420 2 [(0, .inr (.inr 88)), (1, .inl a), (2, .inl b), (3, .inl 0)] [] (mh l) M post) :
    mv_Wp G 153 [.inr (.inr 88), .inl a, .inl b] (mh l) M post := mv_wp [(2, [0, 1, 2, 3]), (33, [0, 2, 3]), (42, [0, 2, 3, 4])] 63 ok_153 oc_153 rfl h
set_option maxRecDepth 100000 in
theorem vr_X12_findWays_2 {G : mv_G} {l : Nat} {post : Option mv_V → mv_SH → mv_Mem → Prop} {M : mv_Mem} {a b v3 : Int} (h : (if 48 ≤ v3 then
    mv_Run G 153 136 7420 33 [(0, .inr (.inr 88)), (2, .inl b), (3, .inl 1)] [] (mh l) M post
  else
    (if v3 = a then
      (0 ≤ (v3 : Int) ∧ (v3 : Int) < ((48 : Nat) : Int)) ∧
      mv_R32 (v3 + 1) ∧
      mv_Run G 153 136 7420 2 [(0, .inr (.inr 88)), (1, .inl a), (2, .inl b), (3, .inl (v3 + 1))] [] (mh l) (mv_up M 100 (Int.toNat v3) 0) post
    else
      (0 ≤ (v3 : Int) ∧ (v3 : Int) < ((48 : Nat) : Int)) ∧
      mv_R32 (v3 + 1) ∧
      mv_Run G 153 136 7420 2 [(0, .inr (.inr 88)), (1, .inl a), (2, .inl b), (3, .inl (v3 + 1))] [] (mh l) (mv_up M 100 (Int.toNat v3) 1000000) post))) :
    mv_Run G 153 136 7420 2 [(0, .inr (.inr 88)), (1, .inl a), (2, .inl b), (3, .inl v3)] [] (mh l) M post := mv_run [(2, [0, 1, 2, 3]), (33, [0, 2, 3]), (42, [0, 2, 3, 4])] 63 ok_153 h
set_option maxRecDepth 100000 in
theorem vr_X12_findWays_33 {G : mv_G} {l : Nat} {post : Option mv_V → mv_SH → mv_Mem → Prop} {M : mv_Mem} {b v3 : Int} (h : (if v3 = 0 then
    post none (mh l) M
  else
    mv_Run G 153 136 7420 42 [(0, .inr (.inr 88)), (2, .inl b), (3, .inl 0), (4, .inl 0)] [] (mh l) M post)) :
    mv_Run G 153 136 7420 33 [(0, .inr (.inr 88)), (2, .inl b), (3, .inl v3)] [] (mh l) M post := mv_run [(2, [0, 1, 2, 3]), (33, [0, 2, 3]), (42, [0, 2, 3, 4])] 63 ok_153 h
set_option maxRecDepth 100000 in
theorem vr_X12_findWays_42 {G : mv_G} {l : Nat} {post : Option mv_V → mv_SH → mv_Mem → Prop} {M : mv_Mem} {b v3 v4 : Int} (h : (if 48 ≤ v4 then
    mv_Run G 153 136 7420 33 [(0, .inr (.inr 88)), (2, .inl b), (3, .inl v3)] [] (mh l) M post
  else
    mv_Wp G 143 [.inr (.inr 88), .inl v4] (mh l) M (mv_qi (mh l) fun x1 M1 =>
    (if x1 = 0 then
      mv_R32 (v4 + 1) ∧
      mv_Run G 153 136 7420 42 [(0, .inr (.inr 88)), (2, .inl b), (3, .inl v3), (4, .inl (v4 + 1))] [] (mh l) M1 post
    else
      mv_Wp G 154 [.inr (.inr 88), .inl v4, .inl b] (mh l) M1 (mv_qi (mh l) fun x2 M2 =>
      (if x2 = 0 then
        mv_R32 (v4 + 1) ∧
        mv_Run G 153 136 7420 42 [(0, .inr (.inr 88)), (2, .inl b), (3, .inl v3), (4, .inl (v4 + 1))] [] (mh l) M2 post
      else
        mv_R32 (v4 + 1) ∧
        mv_Run G 153 136 7420 42 [(0, .inr (.inr 88)), (2, .inl b), (3, .inl 1), (4, .inl (v4 + 1))] [] (mh l) M2 post)))))) :
    mv_Run G 153 136 7420 42 [(0, .inr (.inr 88)), (2, .inl b), (3, .inl v3), (4, .inl v4)] [] (mh l) M post := mv_run [(2, [0, 1, 2, 3]), (33, [0, 2, 3]), (42, [0, 2, 3, 4])] 63 ok_153 h
set_option maxRecDepth 100000 in
theorem vw_X12_shortens {G : mv_G} {l : Nat} {post : Option mv_V → mv_SH → mv_Mem → Prop} {M : mv_Mem} {a b : Int} (h : mv_Run G 154 136 7420 5 [(0, .inr (.inr 88)), (1, .inl a), (2, .inl b), (3, .inl 0), (4, .inl 0)] [] (mh l) M post) :
    mv_Wp G 154 [.inr (.inr 88), .inl a, .inl b] (mh l) M post := mv_wp [(5, [0, 1, 2, 3, 4])] 101 ok_154 oc_154 rfl h
set_option maxRecDepth 100000 in
theorem vr_X12_shortens_5 {G : mv_G} {l : Nat} {post : Option mv_V → mv_SH → mv_Mem → Prop} {M : mv_Mem} {a b v3 v4 : Int} (h : (if 4 ≤ v4 then
    ((v3 : Int) = 0 ∨ (v3 : Int) = 1) ∧ post (some (.inl v3)) (mh l) M
  else
    ¬ (8 : Int) = 0 ∧
    (0 ≤ (v4 : Int) ∧ (v4 : Int) < ((4 : Nat) : Int)) ∧
    mv_R32 ((Int.tmod a 8) + (M 101 (Int.toNat v4))) ∧
    (¬ (8 : Int) = 0 ∧ mv_R32 (Int.tdiv a 8)) ∧
    (0 ≤ (v4 : Int) ∧ (v4 : Int) < ((4 : Nat) : Int)) ∧
    mv_R32 ((Int.tdiv a 8) + (M 102 (Int.toNat v4))) ∧
    (if ((Int.tmod a 8) + (M 101 (Int.toNat v4))) < 0 then
      mv_R32 (v4 + 1) ∧
      mv_Run G 154 136 7420 5 [(0, .inr (.inr 88)), (1, .inl a), (2, .inl b), (3, .inl v3), (4, .inl (v4 + 1))] [] (mh l) M post
    else
      (if ((Int.tdiv a 8) + (M 102 (Int.toNat v4))) < 0 then
        mv_R32 (v4 + 1) ∧
        mv_Run G 154 136 7420 5 [(0, .inr (.inr 88)), (1, .inl a), (2, .inl b), (3, .inl v3), (4, .inl (v4 + 1))] [] (mh l) M post
      else
        (if (M 88 8) ≤ ((Int.tmod a 8) + (M 101 (Int.toNat v4))) then
          mv_R32 (v4 + 1) ∧
          mv_Run G 154 136 7420 5 [(0, .inr (.inr 88)), (1, .inl a), (2, .inl b), (3, .inl v3), (4, .inl (v4 + 1))] [] (mh l) M post
        else
          (if ((Int.tdiv a 8) + (M 102 (Int.toNat v4))) < (M 88 9) then
            mv_R32 (8 * ((Int.tdiv a 8) + (M 102 (Int.toNat v4)))) ∧
            mv_R32 ((8 * ((Int.tdiv a 8) + (M 102 (Int.toNat v4)))) + ((Int.tmod a 8) + (M 101 (Int.toNat v4)))) ∧
            (if b = 0 then
              mv_Wp G 152 [.inr (.inr 88), .inl a, .inl ((8 * ((Int.tdiv a 8) + (M 102 (Int.toNat v4)))) + ((Int.tmod a 8) + (M 101 (Int.toNat v4))))] (mh l) M (mv_qi (mh l) fun x1 M1 =>
              (0 ≤ ((8 * ((Int.tdiv a 8) + (M 102 (Int.toNat v4)))) + ((Int.tmod a 8) + (M 101 (Int.toNat v4))) : Int) ∧ ((8 * ((Int.tdiv a 8) + (M 102 (Int.toNat v4)))) + ((Int.tmod a 8) + (M 101 (Int.toNat v4))) : Int) < ((48 : Nat) : Int)) ∧
              mv_R32 (x1 + (M1 92 (Int.toNat ((8 * ((Int.tdiv a 8) + (M 102 (Int.toNat v4)))) + ((Int.tmod a 8) + (M 101 (Int.toNat v4))))))) ∧
              (0 ≤ ((8 * ((Int.tdiv a 8) + (M 102 (Int.toNat v4)))) + ((Int.tmod a 8) + (M 101 (Int.toNat v4))) : Int) ∧ ((8 * ((Int.tdiv a 8) + (M 102 (Int.toNat v4)))) + ((Int.tmod a 8) + (M 101 (Int.toNat v4))) : Int) < ((48 : Nat) : Int)) ∧
              mv_R32 ((x1 + (M1 92 (Int.toNat ((8 * ((Int.tdiv a 8) + (M 102 (Int.toNat v4)))) + ((Int.tmod a 8) + (M 101 (Int.toNat v4))))))) + (M1 100 (Int.toNat ((8 * ((Int.tdiv a 8) + (M 102 (Int.toNat v4)))) + ((Int.tmod a 8) + (M 101 (Int.toNat v4))))))) ∧
              (0 ≤ (a : Int) ∧ (a : Int) < ((48 : Nat) : Int)) ∧
              (if ((x1 + (M1 92 (Int.toNat ((8 * ((Int.tdiv a 8) + (M 102 (Int.toNat v4)))) + ((Int.tmod a 8) + (M 101 (Int.toNat v4))))))) + (M1 100 (Int.toNat ((8 * ((Int.tdiv a 8) + (M 102 (Int.toNat v4)))) + ((Int.tmod a 8) + (M 101 (Int.toNat v4))))))) < (M1 100 (Int.toNat a)) then
                (0 ≤ (a : Int) ∧ (a : Int) < ((48 : Nat) : Int)) ∧
                mv_R32 (v4 + 1) ∧
                mv_Run G 154 136 7420 5 [(0, .inr (.inr 88)), (1, .inl a), (2, .inl b), (3, .inl 1), (4, .inl (v4 + 1))] [] (mh l) (mv_up M1 100 (Int.toNat a) ((x1 + (M1 92 (Int.toNat ((8 * ((Int.tdiv a 8) + (M 102 (Int.toNat v4)))) + ((Int.tmod a 8) + (M 101 (Int.toNat v4))))))) + (M1 100 (Int.toNat ((8 * ((Int.tdiv a 8) + (M 102 (Int.toNat v4)))) + ((Int.tmod a 8) + (M 101 (Int.toNat v4)))))))) post
              else
                mv_R32 (v4 + 1) ∧
                mv_Run G 154 136 7420 5 [(0, .inr (.inr 88)), (1, .inl a), (2, .inl b), (3, .inl v3), (4, .inl (v4 + 1))] [] (mh l) M1 post))
            else
              (0 ≤ ((8 * ((Int.tdiv a 8) + (M 102 (Int.toNat v4)))) + ((Int.tmod a 8) + (M 101 (Int.toNat v4))) : Int) ∧ ((8 * ((Int.tdiv a 8) + (M 102 (Int.toNat v4)))) + ((Int.tmod a 8) + (M 101 (Int.toNat v4))) : Int) < ((48 : Nat) : Int)) ∧
              mv_R32 (10 + (M 92 (Int.toNat ((8 * ((Int.tdiv a 8) + (M 102 (Int.toNat v4)))) + ((Int.tmod a 8) + (M 101 (Int.toNat v4))))))) ∧
              (0 ≤ ((8 * ((Int.tdiv a 8) + (M 102 (Int.toNat v4)))) + ((Int.tmod a 8) + (M 101 (Int.toNat v4))) : Int) ∧ ((8 * ((Int.tdiv a 8) + (M 102 (Int.toNat v4)))) + ((Int.tmod a 8) + (M 101 (Int.toNat v4))) : Int) < ((48 : Nat) : Int)) ∧
              mv_R32 ((10 + (M 92 (Int.toNat ((8 * ((Int.tdiv a 8) + (M 102 (Int.toNat v4)))) + ((Int.tmod a 8) + (M 101 (Int.toNat v4))))))) + (M 100 (Int.toNat ((8 * ((Int.tdiv a 8) + (M 102 (Int.toNat v4)))) + ((Int.tmod a 8) + (M 101 (Int.toNat v4))))))) ∧
              (0 ≤ (a : Int) ∧ (a : Int) < ((48 : Nat) : Int)) ∧
              (if ((10 + (M 92 (Int.toNat ((8 * ((Int.tdiv a 8) + (M 102 (Int.toNat v4)))) + ((Int.tmod a 8) + (M 101 (Int.toNat v4))))))) + (M 100 (Int.toNat ((8 * ((Int.tdiv a 8) + (M 102 (Int.toNat v4)))) + ((Int.tmod a 8) + (M 101 (Int.toNat v4))))))) < (M 100 (Int.toNat a)) then
                (0 ≤ (a : Int) ∧ (a : Int) < ((48 : Nat) : Int)) ∧
                mv_R32 (v4 + 1) ∧
                mv_Run G 154 136 7420 5 [(0, .inr (.inr 88)), (1, .inl a), (2, .inl b), (3, .inl 1), (4, .inl (v4 + 1))] [] (mh l) (mv_up M 100 (Int.toNat a) ((10 + (M 92 (Int.toNat ((8 * ((Int.tdiv a 8) + (M 102 (Int.toNat v4)))) + ((Int.tmod a 8) + (M 101 (Int.toNat v4))))))) + (M 100 (Int.toNat ((8 * ((Int.tdiv a 8) + (M 102 (Int.toNat v4)))) + ((Int.tmod a 8) + (M 101 (Int.toNat v4)))))))) post
              else
                mv_R32 (v4 + 1) ∧
                mv_Run G 154 136 7420 5 [(0, .inr (.inr 88)), (1, .inl a), (2, .inl b), (3, .inl v3), (4, .inl (v4 + 1))] [] (mh l) M post))
          else
            mv_R32 (v4 + 1) ∧
            mv_Run G 154 136 7420 5 [(0, .inr (.inr 88)), (1, .inl a), (2, .inl b), (3, .inl v3), (4, .inl (v4 + 1))] [] (mh l) M post)))))) :
    mv_Run G 154 136 7420 5 [(0, .inr (.inr 88)), (1, .inl a), (2, .inl b), (3, .inl v3), (4, .inl v4)] [] (mh l) M post := mv_run [(5, [0, 1, 2, 3, 4])] 101 ok_154 h
set_option maxRecDepth 100000 in
theorem vw_X12_way {G : mv_G} {l : Nat} {post : Option mv_V → mv_SH → mv_Mem → Prop} {M : mv_Mem} {a b : Int} (h : mv_Wp G 142 [.inr (.inr 88), .inl a] (mh l) M (mv_qi (mh l) fun x1 M1 =>
  mv_Wp G 142 [.inr (.inr 88), .inl b] (mh l) M1 (mv_qi (mh l) fun x2 M2 =>
  (if x1 < 0 then
    mv_Wp G 133 [.inr (.inr 88), .inl (-1)] (mh l) M2 (mv_qi (mh l) fun x3 M3 =>
    post (some (.inl x3)) (mh l) M3)
  else
    (if 0 ≤ x2 then
      mv_Wp G 153 [.inr (.inr 88), .inl x2, .inl 0] (mh l) M2 (mv_qv (mh l) fun M4 =>
      (0 ≤ (x1 : Int) ∧ (x1 : Int) < ((48 : Nat) : Int)) ∧
      post (some (.inl (M4 100 (Int.toNat x1)))) (mh l) M4)
    else
      mv_Wp G 133 [.inr (.inr 88), .inl (-1)] (mh l) M2 (mv_qi (mh l) fun x5 M5 =>
      post (some (.inl x5)) (mh l) M5)))))) :
    mv_Wp G 155 [.inr (.inr 88), .inl a, .inl b] (mh l) M post := mv_wp [] 45 ok_155 oc_155 rfl h
set_option maxRecDepth 100000 in
theorem vw_X12_marketOn {G : mv_G} {l : Nat} {post : Option mv_V → mv_SH → mv_Mem → Prop} {M : mv_Mem} {a : Int} (h : mv_Run G 156 136 7420 2 [(0, .inr (.inr 88)), (1, .inl a), (2, .inl 0)] [] (mh l) M post) :
    mv_Wp G 156 [.inr (.inr 88), .inl a] (mh l) M post := mv_wp [(2, [0, 1, 2])] 38 ok_156 oc_156 rfl h
set_option maxRecDepth 100000 in
theorem vr_X12_marketOn_2 {G : mv_G} {l : Nat} {post : Option mv_V → mv_SH → mv_Mem → Prop} {M : mv_Mem} {a v2 : Int} (h : (if (M 88 23) ≤ v2 then
    post (some (.inl (-9))) (mh l) M
  else
    (0 ≤ (v2 : Int) ∧ (v2 : Int) < ((3 : Nat) : Int)) ∧
    (if (M 103 (Int.toNat v2)) = a then
      post (some (.inl v2)) (mh l) M
    else
      mv_R32 (v2 + 1) ∧
      mv_Run G 156 136 7420 2 [(0, .inr (.inr 88)), (1, .inl a), (2, .inl (v2 + 1))] [] (mh l) M post))) :
    mv_Run G 156 136 7420 2 [(0, .inr (.inr 88)), (1, .inl a), (2, .inl v2)] [] (mh l) M post := mv_run [(2, [0, 1, 2])] 38 ok_156 h
set_option maxRecDepth 100000 in
theorem vw_X12_market {G : mv_G} {l : Nat} {post : Option mv_V → mv_SH → mv_Mem → Prop} {M : mv_Mem} {a : Int} (h : mv_Wp G 142 [.inr (.inr 88), .inl a] (mh l) M (mv_qi (mh l) fun x1 M1 =>
  (if 0 ≤ x1 then
    mv_Wp G 156 [.inr (.inr 88), .inl x1] (mh l) M1 (mv_qi (mh l) fun x2 M2 =>
    (if x2 < 0 then
      (if (M2 88 23) = 3 then
        mv_Wp G 133 [.inr (.inr 88), .inl (-6)] (mh l) M2 (mv_qi (mh l) fun x3 M3 =>
        post (some (.inl x3)) (mh l) M3)
      else
        (0 ≤ (M2 88 23 : Int) ∧ (M2 88 23 : Int) < ((3 : Nat) : Int)) ∧
        mv_R32 (((mv_up M2 103 (Int.toNat (M2 88 23)) x1) 88 23) + 1) ∧
        mv_R32 (((mv_up (mv_up M2 103 (Int.toNat (M2 88 23)) x1) 88 23 (((mv_up M2 103 (Int.toNat (M2 88 23)) x1) 88 23) + 1)) 88 23) - 1) ∧
        post (some (.inl (((mv_up (mv_up M2 103 (Int.toNat (M2 88 23)) x1) 88 23 (((mv_up M2 103 (Int.toNat (M2 88 23)) x1) 88 23) + 1)) 88 23) - 1))) (mh l) (mv_up (mv_up M2 103 (Int.toNat (M2 88 23)) x1) 88 23 (((mv_up M2 103 (Int.toNat (M2 88 23)) x1) 88 23) + 1)))
    else
      mv_Wp G 133 [.inr (.inr 88), .inl (-3)] (mh l) M2 (mv_qi (mh l) fun x4 M4 =>
      post (some (.inl x4)) (mh l) M4)))
  else
    mv_Wp G 133 [.inr (.inr 88), .inl (-1)] (mh l) M1 (mv_qi (mh l) fun x5 M5 =>
    post (some (.inl x5)) (mh l) M5)))) :
    mv_Wp G 157 [.inr (.inr 88), .inl a] (mh l) M post := mv_wp [] 63 ok_157 oc_157 rfl h
set_option maxRecDepth 100000 in
theorem vw_X12_isMarket {G : mv_G} {l : Nat} {post : Option mv_V → mv_SH → mv_Mem → Prop} {M : mv_Mem} {a : Int} (h : (if a < 0 then
    ((0 : Int) = 0 ∨ (0 : Int) = 1) ∧ post (some (.inl 0)) (mh l) M
  else
    (if (M 88 23) ≤ a then
      ((0 : Int) = 0 ∨ (0 : Int) = 1) ∧ post (some (.inl 0)) (mh l) M
    else
      ((1 : Int) = 0 ∨ (1 : Int) = 1) ∧ post (some (.inl 1)) (mh l) M))) :
    mv_Wp G 158 [.inr (.inr 88), .inl a] (mh l) M post := mv_wp [] 30 ok_158 oc_158 rfl h
set_option maxRecDepth 100000 in
theorem vw_X12_findMarketWays {G : mv_G} {l : Nat} {post : Option mv_V → mv_SH → mv_Mem → Prop} {M : mv_Mem} (h : mv_Run G 159 136 7420 2 [(0, .inr (.inr 88)), (1, .inl 0)] [] (mh l) M post) :
    mv_Wp G 159 [.inr (.inr 88)] (mh l) M post := mv_wp [(2, [0, 1]), (12, [0, 1, 2]), (39, [0, 1, 2, 3])] 71 ok_159 oc_159 rfl h
set_option maxRecDepth 100000 in
theorem vr_X12_findMarketWays_2 {G : mv_G} {l : Nat} {post : Option mv_V → mv_SH → mv_Mem → Prop} {M : mv_Mem} {v1 : Int} (h : (if (M 88 23) ≤ v1 then
    post none (mh l) M
  else
    mv_Run G 159 136 7420 12 [(0, .inr (.inr 88)), (1, .inl v1), (2, .inl 0)] [] (mh l) M post)) :
    mv_Run G 159 136 7420 2 [(0, .inr (.inr 88)), (1, .inl v1)] [] (mh l) M post := mv_run [(2, [0, 1]), (12, [0, 1, 2]), (39, [0, 1, 2, 3])] 71 ok_159 h
set_option maxRecDepth 100000 in
theorem vr_X12_findMarketWays_12 {G : mv_G} {l : Nat} {post : Option mv_V → mv_SH → mv_Mem → Prop} {M : mv_Mem} {v1 v2 : Int} (h : (if 2 ≤ v2 then
    mv_R32 (v1 + 1) ∧
    mv_Run G 159 136 7420 2 [(0, .inr (.inr 88)), (1, .inl (v1 + 1))] [] (mh l) M post
  else
    (0 ≤ (v1 : Int) ∧ (v1 : Int) < ((3 : Nat) : Int)) ∧
    (if v2 = 1 then
      mv_Wp G 153 [.inr (.inr 88), .inl (M 103 (Int.toNat v1)), .inl 1] (mh l) M (mv_qv (mh l) fun M2 =>
      mv_Run G 159 136 7420 39 [(0, .inr (.inr 88)), (1, .inl v1), (2, .inl v2), (3, .inl 0)] [] (mh l) M2 post)
    else
      mv_Wp G 153 [.inr (.inr 88), .inl (M 103 (Int.toNat v1)), .inl 0] (mh l) M (mv_qv (mh l) fun M1 =>
      mv_Run G 159 136 7420 39 [(0, .inr (.inr 88)), (1, .inl v1), (2, .inl v2), (3, .inl 0)] [] (mh l) M1 post)))) :
    mv_Run G 159 136 7420 12 [(0, .inr (.inr 88)), (1, .inl v1), (2, .inl v2)] [] (mh l) M post := mv_run [(2, [0, 1]), (12, [0, 1, 2]), (39, [0, 1, 2, 3])] 71 ok_159 h
set_option maxRecDepth 100000 in
theorem vr_X12_findMarketWays_39 {G : mv_G} {l : Nat} {post : Option mv_V → mv_SH → mv_Mem → Prop} {M : mv_Mem} {v1 v2 v3 : Int} (h : (if 48 ≤ v3 then
    mv_R32 (v2 + 1) ∧
    mv_Run G 159 136 7420 12 [(0, .inr (.inr 88)), (1, .inl v1), (2, .inl (v2 + 1))] [] (mh l) M post
  else
    mv_R32 (2 * v1) ∧
    mv_R32 ((2 * v1) + v2) ∧
    mv_R32 (48 * ((2 * v1) + v2)) ∧
    mv_R32 ((48 * ((2 * v1) + v2)) + v3) ∧
    (0 ≤ (v3 : Int) ∧ (v3 : Int) < ((48 : Nat) : Int)) ∧
    (0 ≤ ((48 * ((2 * v1) + v2)) + v3 : Int) ∧ ((48 * ((2 * v1) + v2)) + v3 : Int) < ((288 : Nat) : Int)) ∧
    mv_R32 (v3 + 1) ∧
    mv_Run G 159 136 7420 39 [(0, .inr (.inr 88)), (1, .inl v1), (2, .inl v2), (3, .inl (v3 + 1))] [] (mh l) (mv_up M 104 (Int.toNat ((48 * ((2 * v1) + v2)) + v3)) (M 100 (Int.toNat v3))) post)) :
    mv_Run G 159 136 7420 39 [(0, .inr (.inr 88)), (1, .inl v1), (2, .inl v2), (3, .inl v3)] [] (mh l) M post := mv_run [(2, [0, 1]), (12, [0, 1, 2]), (39, [0, 1, 2, 3])] 71 ok_159 h
set_option maxRecDepth 100000 in
theorem vw_X12_isUse {G : mv_G} {l : Nat} {post : Option mv_V → mv_SH → mv_Mem → Prop} {M : mv_Mem} {a : Int} (h : (if a < 0 then
    ((0 : Int) = 0 ∨ (0 : Int) = 1) ∧ post (some (.inl 0)) (mh l) M
  else
    (if (M 88 36) ≤ a then
      ((0 : Int) = 0 ∨ (0 : Int) = 1) ∧ post (some (.inl 0)) (mh l) M
    else
      ((1 : Int) = 0 ∨ (1 : Int) = 1) ∧ post (some (.inl 1)) (mh l) M))) :
    mv_Wp G 160 [.inr (.inr 88), .inl a] (mh l) M post := mv_wp [] 30 ok_160 oc_160 rfl h
set_option maxRecDepth 100000 in
theorem vw_X12_use {G : mv_G} {l : Nat} {post : Option mv_V → mv_SH → mv_Mem → Prop} {M : mv_Mem} {a b c d e : Int} (h : mv_Wp G 135 [.inr (.inl a), .inr (.inl 0), .inr (.inl 5)] (mh l) M (mv_qi (mh l) fun x1 M1 =>
  (if x1 = 0 then
    mv_Wp G 133 [.inr (.inr 88), .inl (-2)] (mh l) M1 (mv_qi (mh l) fun x2 M2 =>
    post (some (.inl x2)) (mh l) M2)
  else
    (if b < 0 then
      mv_Run G 161 136 7420 86 [(0, .inr (.inr 88)), (1, .inl a), (2, .inl b), (3, .inl c), (4, .inl d), (5, .inl e), (6, .inl (-4))] [] (mh l) M1 post
    else
      (if c < 0 then
        mv_Run G 161 136 7420 86 [(0, .inr (.inr 88)), (1, .inl a), (2, .inl b), (3, .inl c), (4, .inl d), (5, .inl e), (6, .inl (-4))] [] (mh l) M1 post
      else
        (if d < 0 then
          mv_Run G 161 136 7420 86 [(0, .inr (.inr 88)), (1, .inl a), (2, .inl b), (3, .inl c), (4, .inl d), (5, .inl e), (6, .inl (-4))] [] (mh l) M1 post
        else
          (if 0 ≤ e then
            (if 99 < b then
              mv_Run G 161 136 7420 86 [(0, .inr (.inr 88)), (1, .inl a), (2, .inl b), (3, .inl c), (4, .inl d), (5, .inl e), (6, .inl (-6))] [] (mh l) M1 post
            else
              (if 99 < c then
                mv_Run G 161 136 7420 86 [(0, .inr (.inr 88)), (1, .inl a), (2, .inl b), (3, .inl c), (4, .inl d), (5, .inl e), (6, .inl (-6))] [] (mh l) M1 post
              else
                (if 9999 < d then
                  mv_Run G 161 136 7420 86 [(0, .inr (.inr 88)), (1, .inl a), (2, .inl b), (3, .inl c), (4, .inl d), (5, .inl e), (6, .inl (-6))] [] (mh l) M1 post
                else
                  (if 99 < e then
                    mv_Run G 161 136 7420 86 [(0, .inr (.inr 88)), (1, .inl a), (2, .inl b), (3, .inl c), (4, .inl d), (5, .inl e), (6, .inl (-6))] [] (mh l) M1 post
                  else
                    (if (M1 88 36) = 6 then
                      mv_Run G 161 136 7420 86 [(0, .inr (.inr 88)), (1, .inl a), (2, .inl b), (3, .inl c), (4, .inl d), (5, .inl e), (6, .inl (-6))] [] (mh l) M1 post
                    else
                      mv_Run G 161 136 7420 86 [(0, .inr (.inr 88)), (1, .inl a), (2, .inl b), (3, .inl c), (4, .inl d), (5, .inl e), (6, .inl 0)] [] (mh l) M1 post)))))
          else
            mv_Run G 161 136 7420 86 [(0, .inr (.inr 88)), (1, .inl a), (2, .inl b), (3, .inl c), (4, .inl d), (5, .inl e), (6, .inl (-4))] [] (mh l) M1 post))))))) :
    mv_Wp G 161 [.inr (.inr 88), .inl a, .inl b, .inl c, .inl d, .inl e] (mh l) M post := mv_wp [(86, [0, 1, 2, 3, 4, 5, 6])] 107 ok_161 oc_161 rfl h
set_option maxRecDepth 100000 in
theorem vr_X12_use_86 {G : mv_G} {l : Nat} {post : Option mv_V → mv_SH → mv_Mem → Prop} {M : mv_Mem} {a b c d e v6 : Int} (h : (if v6 = 0 then
    (0 ≤ (M 88 36 : Int) ∧ (M 88 36 : Int) < ((6 : Nat) : Int)) ∧
    (0 ≤ ((mv_up M 105 (Int.toNat (M 88 36)) a) 88 36 : Int) ∧ ((mv_up M 105 (Int.toNat (M 88 36)) a) 88 36 : Int) < ((6 : Nat) : Int)) ∧
    (0 ≤ ((mv_up (mv_up M 105 (Int.toNat (M 88 36)) a) 106 (Int.toNat ((mv_up M 105 (Int.toNat (M 88 36)) a) 88 36)) b) 88 36 : Int) ∧ ((mv_up (mv_up M 105 (Int.toNat (M 88 36)) a) 106 (Int.toNat ((mv_up M 105 (Int.toNat (M 88 36)) a) 88 36)) b) 88 36 : Int) < ((6 : Nat) : Int)) ∧
    (0 ≤ ((mv_up (mv_up (mv_up M 105 (Int.toNat (M 88 36)) a) 106 (Int.toNat ((mv_up M 105 (Int.toNat (M 88 36)) a) 88 36)) b) 107 (Int.toNat ((mv_up (mv_up M 105 (Int.toNat (M 88 36)) a) 106 (Int.toNat ((mv_up M 105 (Int.toNat (M 88 36)) a) 88 36)) b) 88 36)) c) 88 36 : Int) ∧ ((mv_up (mv_up (mv_up M 105 (Int.toNat (M 88 36)) a) 106 (Int.toNat ((mv_up M 105 (Int.toNat (M 88 36)) a) 88 36)) b) 107 (Int.toNat ((mv_up (mv_up M 105 (Int.toNat (M 88 36)) a) 106 (Int.toNat ((mv_up M 105 (Int.toNat (M 88 36)) a) 88 36)) b) 88 36)) c) 88 36 : Int) < ((6 : Nat) : Int)) ∧
    (0 ≤ ((mv_up (mv_up (mv_up (mv_up M 105 (Int.toNat (M 88 36)) a) 106 (Int.toNat ((mv_up M 105 (Int.toNat (M 88 36)) a) 88 36)) b) 107 (Int.toNat ((mv_up (mv_up M 105 (Int.toNat (M 88 36)) a) 106 (Int.toNat ((mv_up M 105 (Int.toNat (M 88 36)) a) 88 36)) b) 88 36)) c) 108 (Int.toNat ((mv_up (mv_up (mv_up M 105 (Int.toNat (M 88 36)) a) 106 (Int.toNat ((mv_up M 105 (Int.toNat (M 88 36)) a) 88 36)) b) 107 (Int.toNat ((mv_up (mv_up M 105 (Int.toNat (M 88 36)) a) 106 (Int.toNat ((mv_up M 105 (Int.toNat (M 88 36)) a) 88 36)) b) 88 36)) c) 88 36)) d) 88 36 : Int) ∧ ((mv_up (mv_up (mv_up (mv_up M 105 (Int.toNat (M 88 36)) a) 106 (Int.toNat ((mv_up M 105 (Int.toNat (M 88 36)) a) 88 36)) b) 107 (Int.toNat ((mv_up (mv_up M 105 (Int.toNat (M 88 36)) a) 106 (Int.toNat ((mv_up M 105 (Int.toNat (M 88 36)) a) 88 36)) b) 88 36)) c) 108 (Int.toNat ((mv_up (mv_up (mv_up M 105 (Int.toNat (M 88 36)) a) 106 (Int.toNat ((mv_up M 105 (Int.toNat (M 88 36)) a) 88 36)) b) 107 (Int.toNat ((mv_up (mv_up M 105 (Int.toNat (M 88 36)) a) 106 (Int.toNat ((mv_up M 105 (Int.toNat (M 88 36)) a) 88 36)) b) 88 36)) c) 88 36)) d) 88 36 : Int) < ((6 : Nat) : Int)) ∧
    mv_R32 (((mv_up (mv_up (mv_up (mv_up (mv_up M 105 (Int.toNat (M 88 36)) a) 106 (Int.toNat ((mv_up M 105 (Int.toNat (M 88 36)) a) 88 36)) b) 107 (Int.toNat ((mv_up (mv_up M 105 (Int.toNat (M 88 36)) a) 106 (Int.toNat ((mv_up M 105 (Int.toNat (M 88 36)) a) 88 36)) b) 88 36)) c) 108 (Int.toNat ((mv_up (mv_up (mv_up M 105 (Int.toNat (M 88 36)) a) 106 (Int.toNat ((mv_up M 105 (Int.toNat (M 88 36)) a) 88 36)) b) 107 (Int.toNat ((mv_up (mv_up M 105 (Int.toNat (M 88 36)) a) 106 (Int.toNat ((mv_up M 105 (Int.toNat (M 88 36)) a) 88 36)) b) 88 36)) c) 88 36)) d) 109 (Int.toNat ((mv_up (mv_up (mv_up (mv_up M 105 (Int.toNat (M 88 36)) a) 106 (Int.toNat ((mv_up M 105 (Int.toNat (M 88 36)) a) 88 36)) b) 107 (Int.toNat ((mv_up (mv_up M 105 (Int.toNat (M 88 36)) a) 106 (Int.toNat ((mv_up M 105 (Int.toNat (M 88 36)) a) 88 36)) b) 88 36)) c) 108 (Int.toNat ((mv_up (mv_up (mv_up M 105 (Int.toNat (M 88 36)) a) 106 (Int.toNat ((mv_up M 105 (Int.toNat (M 88 36)) a) 88 36)) b) 107 (Int.toNat ((mv_up (mv_up M 105 (Int.toNat (M 88 36)) a) 106 (Int.toNat ((mv_up M 105 (Int.toNat (M 88 36)) a) 88 36)) b) 88 36)) c) 88 36)) d) 88 36)) e) 88 36) + 1) ∧
    mv_R32 (((mv_up (mv_up (mv_up (mv_up (mv_up (mv_up M 105 (Int.toNat (M 88 36)) a) 106 (Int.toNat ((mv_up M 105 (Int.toNat (M 88 36)) a) 88 36)) b) 107 (Int.toNat ((mv_up (mv_up M 105 (Int.toNat (M 88 36)) a) 106 (Int.toNat ((mv_up M 105 (Int.toNat (M 88 36)) a) 88 36)) b) 88 36)) c) 108 (Int.toNat ((mv_up (mv_up (mv_up M 105 (Int.toNat (M 88 36)) a) 106 (Int.toNat ((mv_up M 105 (Int.toNat (M 88 36)) a) 88 36)) b) 107 (Int.toNat ((mv_up (mv_up M 105 (Int.toNat (M 88 36)) a) 106 (Int.toNat ((mv_up M 105 (Int.toNat (M 88 36)) a) 88 36)) b) 88 36)) c) 88 36)) d) 109 (Int.toNat ((mv_up (mv_up (mv_up (mv_up M 105 (Int.toNat (M 88 36)) a) 106 (Int.toNat ((mv_up M 105 (Int.toNat (M 88 36)) a) 88 36)) b) 107 (Int.toNat ((mv_up (mv_up M 105 (Int.toNat (M 88 36)) a) 106 (Int.toNat ((mv_up M 105 (Int.toNat (M 88 36)) a) 88 36)) b) 88 36)) c) 108 (Int.toNat ((mv_up (mv_up (mv_up M 105 (Int.toNat (M 88 36)) a) 106 (Int.toNat ((mv_up M 105 (Int.toNat (M 88 36)) a) 88 36)) b) 107 (Int.toNat ((mv_up (mv_up M 105 (Int.toNat (M 88 36)) a) 106 (Int.toNat ((mv_up M 105 (Int.toNat (M 88 36)) a) 88 36)) b) 88 36)) c) 88 36)) d) 88 36)) e) 88 36 (((mv_up (mv_up (mv_up (mv_up (mv_up M 105 (Int.toNat (M 88 36)) a) 106 (Int.toNat ((mv_up M 105 (Int.toNat (M 88 36)) a) 88 36)) b) 107 (Int.toNat ((mv_up (mv_up M 105 (Int.toNat (M 88 36)) a) 106 (Int.toNat ((mv_up M 105 (Int.toNat (M 88 36)) a) 88 36)) b) 88 36)) c) 108 (Int.toNat ((mv_up (mv_up (mv_up M 105 (Int.toNat (M 88 36)) a) 106 (Int.toNat ((mv_up M 105 (Int.toNat (M 88 36)) a) 88 36)) b) 107 (Int.toNat ((mv_up (mv_up M 105 (Int.toNat (M 88 36)) a) 106 (Int.toNat ((mv_up M 105 (Int.toNat (M 88 36)) a) 88 36)) b) 88 36)) c) 88 36)) d) 109 (Int.toNat ((mv_up (mv_up (mv_up (mv_up M 105 (Int.toNat (M 88 36)) a) 106 (Int.toNat ((mv_up M 105 (Int.toNat (M 88 36)) a) 88 36)) b) 107 (Int.toNat ((mv_up (mv_up M 105 (Int.toNat (M 88 36)) a) 106 (Int.toNat ((mv_up M 105 (Int.toNat (M 88 36)) a) 88 36)) b) 88 36)) c) 108 (Int.toNat ((mv_up (mv_up (mv_up M 105 (Int.toNat (M 88 36)) a) 106 (Int.toNat ((mv_up M 105 (Int.toNat (M 88 36)) a) 88 36)) b) 107 (Int.toNat ((mv_up (mv_up M 105 (Int.toNat (M 88 36)) a) 106 (Int.toNat ((mv_up M 105 (Int.toNat (M 88 36)) a) 88 36)) b) 88 36)) c) 88 36)) d) 88 36)) e) 88 36) + 1)) 88 36) - 1) ∧
    post (some (.inl (((mv_up (mv_up (mv_up (mv_up (mv_up (mv_up M 105 (Int.toNat (M 88 36)) a) 106 (Int.toNat ((mv_up M 105 (Int.toNat (M 88 36)) a) 88 36)) b) 107 (Int.toNat ((mv_up (mv_up M 105 (Int.toNat (M 88 36)) a) 106 (Int.toNat ((mv_up M 105 (Int.toNat (M 88 36)) a) 88 36)) b) 88 36)) c) 108 (Int.toNat ((mv_up (mv_up (mv_up M 105 (Int.toNat (M 88 36)) a) 106 (Int.toNat ((mv_up M 105 (Int.toNat (M 88 36)) a) 88 36)) b) 107 (Int.toNat ((mv_up (mv_up M 105 (Int.toNat (M 88 36)) a) 106 (Int.toNat ((mv_up M 105 (Int.toNat (M 88 36)) a) 88 36)) b) 88 36)) c) 88 36)) d) 109 (Int.toNat ((mv_up (mv_up (mv_up (mv_up M 105 (Int.toNat (M 88 36)) a) 106 (Int.toNat ((mv_up M 105 (Int.toNat (M 88 36)) a) 88 36)) b) 107 (Int.toNat ((mv_up (mv_up M 105 (Int.toNat (M 88 36)) a) 106 (Int.toNat ((mv_up M 105 (Int.toNat (M 88 36)) a) 88 36)) b) 88 36)) c) 108 (Int.toNat ((mv_up (mv_up (mv_up M 105 (Int.toNat (M 88 36)) a) 106 (Int.toNat ((mv_up M 105 (Int.toNat (M 88 36)) a) 88 36)) b) 107 (Int.toNat ((mv_up (mv_up M 105 (Int.toNat (M 88 36)) a) 106 (Int.toNat ((mv_up M 105 (Int.toNat (M 88 36)) a) 88 36)) b) 88 36)) c) 88 36)) d) 88 36)) e) 88 36 (((mv_up (mv_up (mv_up (mv_up (mv_up M 105 (Int.toNat (M 88 36)) a) 106 (Int.toNat ((mv_up M 105 (Int.toNat (M 88 36)) a) 88 36)) b) 107 (Int.toNat ((mv_up (mv_up M 105 (Int.toNat (M 88 36)) a) 106 (Int.toNat ((mv_up M 105 (Int.toNat (M 88 36)) a) 88 36)) b) 88 36)) c) 108 (Int.toNat ((mv_up (mv_up (mv_up M 105 (Int.toNat (M 88 36)) a) 106 (Int.toNat ((mv_up M 105 (Int.toNat (M 88 36)) a) 88 36)) b) 107 (Int.toNat ((mv_up (mv_up M 105 (Int.toNat (M 88 36)) a) 106 (Int.toNat ((mv_up M 105 (Int.toNat (M 88 36)) a) 88 36)) b) 88 36)) c) 88 36)) d) 109 (Int.toNat ((mv_up (mv_up (mv_up (mv_up M 105 (Int.toNat (M 88 36)) a) 106 (Int.toNat ((mv_up M 105 (Int.toNat (M 88 36)) a) 88 36)) b) 107 (Int.toNat ((mv_up (mv_up M 105 (Int.toNat (M 88 36)) a) 106 (Int.toNat ((mv_up M 105 (Int.toNat (M 88 36)) a) 88 36)) b) 88 36)) c) 108 (Int.toNat ((mv_up (mv_up (mv_up M 105 (Int.toNat (M 88 36)) a) 106 (Int.toNat ((mv_up M 105 (Int.toNat (M 88 36)) a) 88 36)) b) 107 (Int.toNat ((mv_up (mv_up M 105 (Int.toNat (M 88 36)) a) 106 (Int.toNat ((mv_up M 105 (Int.toNat (M 88 36)) a) 88 36)) b) 88 36)) c) 88 36)) d) 88 36)) e) 88 36) + 1)) 88 36) - 1))) (mh l) (mv_up (mv_up (mv_up (mv_up (mv_up (mv_up M 105 (Int.toNat (M 88 36)) a) 106 (Int.toNat ((mv_up M 105 (Int.toNat (M 88 36)) a) 88 36)) b) 107 (Int.toNat ((mv_up (mv_up M 105 (Int.toNat (M 88 36)) a) 106 (Int.toNat ((mv_up M 105 (Int.toNat (M 88 36)) a) 88 36)) b) 88 36)) c) 108 (Int.toNat ((mv_up (mv_up (mv_up M 105 (Int.toNat (M 88 36)) a) 106 (Int.toNat ((mv_up M 105 (Int.toNat (M 88 36)) a) 88 36)) b) 107 (Int.toNat ((mv_up (mv_up M 105 (Int.toNat (M 88 36)) a) 106 (Int.toNat ((mv_up M 105 (Int.toNat (M 88 36)) a) 88 36)) b) 88 36)) c) 88 36)) d) 109 (Int.toNat ((mv_up (mv_up (mv_up (mv_up M 105 (Int.toNat (M 88 36)) a) 106 (Int.toNat ((mv_up M 105 (Int.toNat (M 88 36)) a) 88 36)) b) 107 (Int.toNat ((mv_up (mv_up M 105 (Int.toNat (M 88 36)) a) 106 (Int.toNat ((mv_up M 105 (Int.toNat (M 88 36)) a) 88 36)) b) 88 36)) c) 108 (Int.toNat ((mv_up (mv_up (mv_up M 105 (Int.toNat (M 88 36)) a) 106 (Int.toNat ((mv_up M 105 (Int.toNat (M 88 36)) a) 88 36)) b) 107 (Int.toNat ((mv_up (mv_up M 105 (Int.toNat (M 88 36)) a) 106 (Int.toNat ((mv_up M 105 (Int.toNat (M 88 36)) a) 88 36)) b) 88 36)) c) 88 36)) d) 88 36)) e) 88 36 (((mv_up (mv_up (mv_up (mv_up (mv_up M 105 (Int.toNat (M 88 36)) a) 106 (Int.toNat ((mv_up M 105 (Int.toNat (M 88 36)) a) 88 36)) b) 107 (Int.toNat ((mv_up (mv_up M 105 (Int.toNat (M 88 36)) a) 106 (Int.toNat ((mv_up M 105 (Int.toNat (M 88 36)) a) 88 36)) b) 88 36)) c) 108 (Int.toNat ((mv_up (mv_up (mv_up M 105 (Int.toNat (M 88 36)) a) 106 (Int.toNat ((mv_up M 105 (Int.toNat (M 88 36)) a) 88 36)) b) 107 (Int.toNat ((mv_up (mv_up M 105 (Int.toNat (M 88 36)) a) 106 (Int.toNat ((mv_up M 105 (Int.toNat (M 88 36)) a) 88 36)) b) 88 36)) c) 88 36)) d) 109 (Int.toNat ((mv_up (mv_up (mv_up (mv_up M 105 (Int.toNat (M 88 36)) a) 106 (Int.toNat ((mv_up M 105 (Int.toNat (M 88 36)) a) 88 36)) b) 107 (Int.toNat ((mv_up (mv_up M 105 (Int.toNat (M 88 36)) a) 106 (Int.toNat ((mv_up M 105 (Int.toNat (M 88 36)) a) 88 36)) b) 88 36)) c) 108 (Int.toNat ((mv_up (mv_up (mv_up M 105 (Int.toNat (M 88 36)) a) 106 (Int.toNat ((mv_up M 105 (Int.toNat (M 88 36)) a) 88 36)) b) 107 (Int.toNat ((mv_up (mv_up M 105 (Int.toNat (M 88 36)) a) 106 (Int.toNat ((mv_up M 105 (Int.toNat (M 88 36)) a) 88 36)) b) 88 36)) c) 88 36)) d) 88 36)) e) 88 36) + 1))
  else
    mv_Wp G 133 [.inr (.inr 88), .inl v6] (mh l) M (mv_qi (mh l) fun x1 M1 =>
    post (some (.inl x1)) (mh l) M1))) :
    mv_Run G 161 136 7420 86 [(0, .inr (.inr 88)), (1, .inl a), (2, .inl b), (3, .inl c), (4, .inl d), (5, .inl e), (6, .inl v6)] [] (mh l) M post := mv_run [(86, [0, 1, 2, 3, 4, 5, 6])] 107 ok_161 h
set_option maxRecDepth 100000 in
theorem vw_X12_year {G : mv_G} {l : Nat} {post : Option mv_V → mv_SH → mv_Mem → Prop} {M : mv_Mem} {a b : Int} (h : mv_Wp G 160 [.inr (.inr 88), .inl a] (mh l) M (mv_qi (mh l) fun x1 M1 =>
  (if x1 = 0 then
    mv_Wp G 133 [.inr (.inr 88), .inl (-1)] (mh l) M1 (mv_qi (mh l) fun x7 M7 =>
    post (some (.inl x7)) (mh l) M7)
  else
    (0 ≤ (a : Int) ∧ (a : Int) < ((6 : Nat) : Int)) ∧
    (if (M1 105 (Int.toNat a)) = 3 then
      mv_Wp G 136 [.inr (.inl b), .inr (.inl (-99)), .inr (.inl 99)] (mh l) M1 (mv_qi (mh l) fun x2 M2 =>
      (if x2 = 0 then
        (0 ≤ (a : Int) ∧ (a : Int) < ((6 : Nat) : Int)) ∧
        (if (M2 112 (Int.toNat a)) = 6 then
          (if (-6) = 0 then
            mv_R32 (6 * a) ∧
            (0 ≤ (a : Int) ∧ (a : Int) < ((6 : Nat) : Int)) ∧
            mv_R32 ((6 * a) + (M2 112 (Int.toNat a))) ∧
            (0 ≤ ((6 * a) + (M2 112 (Int.toNat a)) : Int) ∧ ((6 * a) + (M2 112 (Int.toNat a)) : Int) < ((36 : Nat) : Int)) ∧
            (0 ≤ (a : Int) ∧ (a : Int) < ((6 : Nat) : Int)) ∧
            mv_R32 (((mv_up M2 111 (Int.toNat ((6 * a) + (M2 112 (Int.toNat a)))) b) 112 (Int.toNat a)) + 1) ∧
            (0 ≤ (a : Int) ∧ (a : Int) < ((6 : Nat) : Int)) ∧
            (0 ≤ (a : Int) ∧ (a : Int) < ((6 : Nat) : Int)) ∧
            post (some (.inl ((mv_up (mv_up M2 111 (Int.toNat ((6 * a) + (M2 112 (Int.toNat a)))) b) 112 (Int.toNat a) (((mv_up M2 111 (Int.toNat ((6 * a) + (M2 112 (Int.toNat a)))) b) 112 (Int.toNat a)) + 1)) 112 (Int.toNat a)))) (mh l) (mv_up (mv_up M2 111 (Int.toNat ((6 * a) + (M2 112 (Int.toNat a)))) b) 112 (Int.toNat a) (((mv_up M2 111 (Int.toNat ((6 * a) + (M2 112 (Int.toNat a)))) b) 112 (Int.toNat a)) + 1))
          else
            mv_Wp G 133 [.inr (.inr 88), .inl (-6)] (mh l) M2 (mv_qi (mh l) fun x5 M5 =>
            post (some (.inl x5)) (mh l) M5))
        else
          (if x2 = 0 then
            mv_R32 (6 * a) ∧
            (0 ≤ (a : Int) ∧ (a : Int) < ((6 : Nat) : Int)) ∧
            mv_R32 ((6 * a) + (M2 112 (Int.toNat a))) ∧
            (0 ≤ ((6 * a) + (M2 112 (Int.toNat a)) : Int) ∧ ((6 * a) + (M2 112 (Int.toNat a)) : Int) < ((36 : Nat) : Int)) ∧
            (0 ≤ (a : Int) ∧ (a : Int) < ((6 : Nat) : Int)) ∧
            mv_R32 (((mv_up M2 111 (Int.toNat ((6 * a) + (M2 112 (Int.toNat a)))) b) 112 (Int.toNat a)) + 1) ∧
            (0 ≤ (a : Int) ∧ (a : Int) < ((6 : Nat) : Int)) ∧
            (0 ≤ (a : Int) ∧ (a : Int) < ((6 : Nat) : Int)) ∧
            post (some (.inl ((mv_up (mv_up M2 111 (Int.toNat ((6 * a) + (M2 112 (Int.toNat a)))) b) 112 (Int.toNat a) (((mv_up M2 111 (Int.toNat ((6 * a) + (M2 112 (Int.toNat a)))) b) 112 (Int.toNat a)) + 1)) 112 (Int.toNat a)))) (mh l) (mv_up (mv_up M2 111 (Int.toNat ((6 * a) + (M2 112 (Int.toNat a)))) b) 112 (Int.toNat a) (((mv_up M2 111 (Int.toNat ((6 * a) + (M2 112 (Int.toNat a)))) b) 112 (Int.toNat a)) + 1))
          else
            mv_Wp G 133 [.inr (.inr 88), .inl x2] (mh l) M2 (mv_qi (mh l) fun x4 M4 =>
            post (some (.inl x4)) (mh l) M4)))
      else
        (if x2 = 0 then
          mv_R32 (6 * a) ∧
          (0 ≤ (a : Int) ∧ (a : Int) < ((6 : Nat) : Int)) ∧
          mv_R32 ((6 * a) + (M2 112 (Int.toNat a))) ∧
          (0 ≤ ((6 * a) + (M2 112 (Int.toNat a)) : Int) ∧ ((6 * a) + (M2 112 (Int.toNat a)) : Int) < ((36 : Nat) : Int)) ∧
          (0 ≤ (a : Int) ∧ (a : Int) < ((6 : Nat) : Int)) ∧
          mv_R32 (((mv_up M2 111 (Int.toNat ((6 * a) + (M2 112 (Int.toNat a)))) b) 112 (Int.toNat a)) + 1) ∧
          (0 ≤ (a : Int) ∧ (a : Int) < ((6 : Nat) : Int)) ∧
          (0 ≤ (a : Int) ∧ (a : Int) < ((6 : Nat) : Int)) ∧
          post (some (.inl ((mv_up (mv_up M2 111 (Int.toNat ((6 * a) + (M2 112 (Int.toNat a)))) b) 112 (Int.toNat a) (((mv_up M2 111 (Int.toNat ((6 * a) + (M2 112 (Int.toNat a)))) b) 112 (Int.toNat a)) + 1)) 112 (Int.toNat a)))) (mh l) (mv_up (mv_up M2 111 (Int.toNat ((6 * a) + (M2 112 (Int.toNat a)))) b) 112 (Int.toNat a) (((mv_up M2 111 (Int.toNat ((6 * a) + (M2 112 (Int.toNat a)))) b) 112 (Int.toNat a)) + 1))
        else
          mv_Wp G 133 [.inr (.inr 88), .inl x2] (mh l) M2 (mv_qi (mh l) fun x3 M3 =>
          post (some (.inl x3)) (mh l) M3))))
    else
      mv_Wp G 133 [.inr (.inr 88), .inl (-3)] (mh l) M1 (mv_qi (mh l) fun x6 M6 =>
      post (some (.inl x6)) (mh l) M6))))) :
    mv_Wp G 162 [.inr (.inr 88), .inl a, .inl b] (mh l) M post := mv_wp [] 85 ok_162 oc_162 rfl h
set_option maxRecDepth 100000 in
theorem vw_X12_price {G : mv_G} {l : Nat} {post : Option mv_V → mv_SH → mv_Mem → Prop} {M : mv_Mem} {a b c : Int} (h : mv_Wp G 160 [.inr (.inr 88), .inl a] (mh l) M (mv_qi (mh l) fun x1 M1 =>
  (if x1 = 0 then
    mv_Wp G 133 [.inr (.inr 88), .inl (-1)] (mh l) M1 (mv_qi (mh l) fun x2 M2 =>
    post (some (.inl x2)) (mh l) M2)
  else
    mv_Wp G 158 [.inr (.inr 88), .inl b] (mh l) M1 (mv_qi (mh l) fun x3 M3 =>
    (if x3 = 0 then
      mv_Wp G 133 [.inr (.inr 88), .inl (-1)] (mh l) M3 (mv_qi (mh l) fun x6 M6 =>
      post (some (.inl x6)) (mh l) M6)
    else
      mv_Wp G 136 [.inr (.inl c), .inr (.inl 0), .inr (.inl 999)] (mh l) M3 (mv_qi (mh l) fun x4 M4 =>
      (if x4 = 0 then
        mv_R32 (3 * a) ∧
        mv_R32 ((3 * a) + b) ∧
        (0 ≤ ((3 * a) + b : Int) ∧ ((3 * a) + b : Int) < ((18 : Nat) : Int)) ∧
        mv_R32 (3 * a) ∧
        mv_R32 ((3 * a) + b) ∧
        (0 ≤ ((3 * a) + b : Int) ∧ ((3 * a) + b : Int) < ((18 : Nat) : Int)) ∧
        post (some (.inl (M4 113 (Int.toNat ((3 * a) + b))))) (mh l) (mv_up M4 113 (Int.toNat ((3 * a) + b)) c)
      else
        mv_Wp G 133 [.inr (.inr 88), .inl x4] (mh l) M4 (mv_qi (mh l) fun x5 M5 =>
        post (some (.inl x5)) (mh l) M5)))))))) :
    mv_Wp G 163 [.inr (.inr 88), .inl a, .inl b, .inl c] (mh l) M post := mv_wp [] 64 ok_163 oc_163 rfl h
set_option maxRecDepth 100000 in
theorem vw_X12_tax {G : mv_G} {l : Nat} {post : Option mv_V → mv_SH → mv_Mem → Prop} {M : mv_Mem} {a b : Int} (h : (if a = (-1) then
    (if 0 ≤ a then
      mv_Wp G 136 [.inr (.inl b), .inr (.inl 0), .inr (.inl 9999)] (mh l) M (mv_qi (mh l) fun x1 M1 =>
      (if x1 = 0 then
        (if 0 ≤ a then
          (0 ≤ (a : Int) ∧ (a : Int) < ((6 : Nat) : Int)) ∧
          (if 0 ≤ a then
            (0 ≤ (a : Int) ∧ (a : Int) < ((6 : Nat) : Int)) ∧
            post (some (.inl (M1 110 (Int.toNat a)))) (mh l) (mv_up M1 110 (Int.toNat a) b)
          else
            post (some (.inl (M1 110 (Int.toNat a)))) (mh l) (mv_up M1 88 37 b))
        else
          (if 0 ≤ a then
            (0 ≤ (a : Int) ∧ (a : Int) < ((6 : Nat) : Int)) ∧
            post (some (.inl (M1 88 37))) (mh l) (mv_up M1 110 (Int.toNat a) b)
          else
            post (some (.inl (M1 88 37))) (mh l) (mv_up M1 88 37 b)))
      else
        mv_Wp G 133 [.inr (.inr 88), .inl x1] (mh l) M1 (mv_qi (mh l) fun x2 M2 =>
        post (some (.inl x2)) (mh l) M2)))
    else
      mv_Wp G 136 [.inr (.inl b), .inr (.inl 0), .inr (.inl 100)] (mh l) M (mv_qi (mh l) fun x3 M3 =>
      (if x3 = 0 then
        (if 0 ≤ a then
          (0 ≤ (a : Int) ∧ (a : Int) < ((6 : Nat) : Int)) ∧
          (if 0 ≤ a then
            (0 ≤ (a : Int) ∧ (a : Int) < ((6 : Nat) : Int)) ∧
            post (some (.inl (M3 110 (Int.toNat a)))) (mh l) (mv_up M3 110 (Int.toNat a) b)
          else
            post (some (.inl (M3 110 (Int.toNat a)))) (mh l) (mv_up M3 88 37 b))
        else
          (if 0 ≤ a then
            (0 ≤ (a : Int) ∧ (a : Int) < ((6 : Nat) : Int)) ∧
            post (some (.inl (M3 88 37))) (mh l) (mv_up M3 110 (Int.toNat a) b)
          else
            post (some (.inl (M3 88 37))) (mh l) (mv_up M3 88 37 b)))
      else
        mv_Wp G 133 [.inr (.inr 88), .inl x3] (mh l) M3 (mv_qi (mh l) fun x4 M4 =>
        post (some (.inl x4)) (mh l) M4))))
  else
    mv_Wp G 160 [.inr (.inr 88), .inl a] (mh l) M (mv_qi (mh l) fun x5 M5 =>
    (if x5 = 0 then
      mv_Wp G 133 [.inr (.inr 88), .inl (-1)] (mh l) M5 (mv_qi (mh l) fun x10 M10 =>
      post (some (.inl x10)) (mh l) M10)
    else
      (if 0 ≤ a then
        mv_Wp G 136 [.inr (.inl b), .inr (.inl 0), .inr (.inl 9999)] (mh l) M5 (mv_qi (mh l) fun x6 M6 =>
        (if x6 = 0 then
          (if 0 ≤ a then
            (0 ≤ (a : Int) ∧ (a : Int) < ((6 : Nat) : Int)) ∧
            (if 0 ≤ a then
              (0 ≤ (a : Int) ∧ (a : Int) < ((6 : Nat) : Int)) ∧
              post (some (.inl (M6 110 (Int.toNat a)))) (mh l) (mv_up M6 110 (Int.toNat a) b)
            else
              post (some (.inl (M6 110 (Int.toNat a)))) (mh l) (mv_up M6 88 37 b))
          else
            (if 0 ≤ a then
              (0 ≤ (a : Int) ∧ (a : Int) < ((6 : Nat) : Int)) ∧
              post (some (.inl (M6 88 37))) (mh l) (mv_up M6 110 (Int.toNat a) b)
            else
              post (some (.inl (M6 88 37))) (mh l) (mv_up M6 88 37 b)))
        else
          mv_Wp G 133 [.inr (.inr 88), .inl x6] (mh l) M6 (mv_qi (mh l) fun x7 M7 =>
          post (some (.inl x7)) (mh l) M7)))
      else
        mv_Wp G 136 [.inr (.inl b), .inr (.inl 0), .inr (.inl 100)] (mh l) M5 (mv_qi (mh l) fun x8 M8 =>
        (if x8 = 0 then
          (if 0 ≤ a then
            (0 ≤ (a : Int) ∧ (a : Int) < ((6 : Nat) : Int)) ∧
            (if 0 ≤ a then
              (0 ≤ (a : Int) ∧ (a : Int) < ((6 : Nat) : Int)) ∧
              post (some (.inl (M8 110 (Int.toNat a)))) (mh l) (mv_up M8 110 (Int.toNat a) b)
            else
              post (some (.inl (M8 110 (Int.toNat a)))) (mh l) (mv_up M8 88 37 b))
          else
            (if 0 ≤ a then
              (0 ≤ (a : Int) ∧ (a : Int) < ((6 : Nat) : Int)) ∧
              post (some (.inl (M8 88 37))) (mh l) (mv_up M8 110 (Int.toNat a) b)
            else
              post (some (.inl (M8 88 37))) (mh l) (mv_up M8 88 37 b)))
        else
          mv_Wp G 133 [.inr (.inr 88), .inl x8] (mh l) M8 (mv_qi (mh l) fun x9 M9 =>
          post (some (.inl x9)) (mh l) M9)))))))) :
    mv_Wp G 164 [.inr (.inr 88), .inl a, .inl b] (mh l) M post := mv_wp [] 70 ok_164 oc_164 rfl h
set_option maxRecDepth 100000 in
theorem vw_X12_yieldOf {G : mv_G} {l : Nat} {post : Option mv_V → mv_SH → mv_Mem → Prop} {M : mv_Mem} {a b : Int} (h : (0 ≤ (a : Int) ∧ (a : Int) < ((6 : Nat) : Int)) ∧
  (if (M 105 (Int.toNat a)) = 4 then
    (0 ≤ (a : Int) ∧ (a : Int) < ((6 : Nat) : Int)) ∧
    post (some (.inl (M 106 (Int.toNat a)))) (mh l) M
  else
    (0 ≤ (a : Int) ∧ (a : Int) < ((6 : Nat) : Int)) ∧
    (0 ≤ (a : Int) ∧ (a : Int) < ((6 : Nat) : Int)) ∧
    mv_R32 ((M 107 (Int.toNat a)) * b) ∧
    mv_R32 ((M 106 (Int.toNat a)) + ((M 107 (Int.toNat a)) * b)) ∧
    post (some (.inl ((M 106 (Int.toNat a)) + ((M 107 (Int.toNat a)) * b)))) (mh l) M)) :
    mv_Wp G 165 [.inr (.inr 88), .inl a, .inl b] (mh l) M post := mv_wp [] 43 ok_165 oc_165 rfl h
set_option maxRecDepth 100000 in
theorem vw_X12_mean {G : mv_G} {l : Nat} {post : Option mv_V → mv_SH → mv_Mem → Prop} {M : mv_Mem} {a : Int} (h : mv_Run G 166 136 7420 4 [(0, .inr (.inr 88)), (1, .inl a), (2, .inl 0), (3, .inl 0)] [] (mh l) M post) :
    mv_Wp G 166 [.inr (.inr 88), .inl a] (mh l) M post := mv_wp [(4, [0, 1, 2, 3])] 63 ok_166 oc_166 rfl h
set_option maxRecDepth 100000 in
theorem vr_X12_mean_4 {G : mv_G} {l : Nat} {post : Option mv_V → mv_SH → mv_Mem → Prop} {M : mv_Mem} {a v2 v3 : Int} (h : (0 ≤ (a : Int) ∧ (a : Int) < ((6 : Nat) : Int)) ∧
  (if (M 112 (Int.toNat a)) ≤ v3 then
    (0 ≤ (a : Int) ∧ (a : Int) < ((6 : Nat) : Int)) ∧
    (if (M 105 (Int.toNat a)) = 3 then
      (0 ≤ (a : Int) ∧ (a : Int) < ((6 : Nat) : Int)) ∧
      (if (M 112 (Int.toNat a)) = 0 then
        post (some (.inl 0)) (mh l) M
      else
        (0 ≤ (a : Int) ∧ (a : Int) < ((6 : Nat) : Int)) ∧
        (¬ (M 112 (Int.toNat a) : Int) = 0 ∧ mv_R32 (Int.tdiv v2 (M 112 (Int.toNat a)))) ∧
        post (some (.inl (Int.tdiv v2 (M 112 (Int.toNat a))))) (mh l) M)
    else
      post (some (.inl 0)) (mh l) M)
  else
    mv_R32 (6 * a) ∧
    mv_R32 ((6 * a) + v3) ∧
    (0 ≤ ((6 * a) + v3 : Int) ∧ ((6 * a) + v3 : Int) < ((36 : Nat) : Int)) ∧
    mv_R32 (v2 + (M 111 (Int.toNat ((6 * a) + v3)))) ∧
    mv_R32 (v3 + 1) ∧
    mv_Run G 166 136 7420 4 [(0, .inr (.inr 88)), (1, .inl a), (2, .inl (v2 + (M 111 (Int.toNat ((6 * a) + v3))))), (3, .inl (v3 + 1))] [] (mh l) M post)) :
    mv_Run G 166 136 7420 4 [(0, .inr (.inr 88)), (1, .inl a), (2, .inl v2), (3, .inl v3)] [] (mh l) M post := mv_run [(4, [0, 1, 2, 3])] 63 ok_166 h
set_option maxRecDepth 100000 in
theorem vw_X12_fareOf {G : mv_G} {l : Nat} {post : Option mv_V → mv_SH → mv_Mem → Prop} {M : mv_Mem} {a : Int} (h : (0 ≤ (a : Int) ∧ (a : Int) < ((6 : Nat) : Int)) ∧
  (if (M 105 (Int.toNat a)) = 1 then
    (0 ≤ (a : Int) ∧ (a : Int) < ((6 : Nat) : Int)) ∧
    (¬ (2 : Int) = 0 ∧ mv_R32 (Int.tdiv (M 109 (Int.toNat a)) 2)) ∧
    post (some (.inl (Int.tdiv (M 109 (Int.toNat a)) 2))) (mh l) M
  else
    (0 ≤ (a : Int) ∧ (a : Int) < ((6 : Nat) : Int)) ∧
    post (some (.inl (M 109 (Int.toNat a)))) (mh l) M)) :
    mv_Wp G 167 [.inr (.inr 88), .inl a] (mh l) M post := mv_wp [] 38 ok_167 oc_167 rfl h
set_option maxRecDepth 100000 in
theorem vw_X12_worth {G : mv_G} {l : Nat} {post : Option mv_V → mv_SH → mv_Mem → Prop} {M : mv_Mem} {a b c : Int} (h : mv_Wp G 165 [.inr (.inr 88), .inl a, .inl b] (mh l) M (mv_qi (mh l) fun x1 M1 =>
  mv_R32 (3 * a) ∧
  mv_R32 ((3 * a) + c) ∧
  (0 ≤ ((3 * a) + c : Int) ∧ ((3 * a) + c : Int) < ((18 : Nat) : Int)) ∧
  mv_Wp G 166 [.inr (.inr 88), .inl a] (mh l) M1 (mv_qi (mh l) fun x2 M2 =>
  mv_R32 ((M1 113 (Int.toNat ((3 * a) + c))) + x2) ∧
  mv_R64 (x1 * ((M1 113 (Int.toNat ((3 * a) + c))) + x2)) ∧
  (0 ≤ (a : Int) ∧ (a : Int) < ((6 : Nat) : Int)) ∧
  mv_R64 ((x1 * ((M1 113 (Int.toNat ((3 * a) + c))) + x2)) - (M2 108 (Int.toNat a))) ∧
  (0 ≤ (a : Int) ∧ (a : Int) < ((6 : Nat) : Int)) ∧
  mv_R64 (((x1 * ((M1 113 (Int.toNat ((3 * a) + c))) + x2)) - (M2 108 (Int.toNat a))) - (M2 110 (Int.toNat a))) ∧
  mv_R64 (100 * (((x1 * ((M1 113 (Int.toNat ((3 * a) + c))) + x2)) - (M2 108 (Int.toNat a))) - (M2 110 (Int.toNat a)))) ∧
  post (some (.inr (.inl (100 * (((x1 * ((M1 113 (Int.toNat ((3 * a) + c))) + x2)) - (M2 108 (Int.toNat a))) - (M2 110 (Int.toNat a))))))) (mh l) M2))) :
    mv_Wp G 168 [.inr (.inr 88), .inl a, .inl b, .inl c] (mh l) M post := mv_wp [] 54 ok_168 oc_168 rfl h
set_option maxRecDepth 100000 in
theorem vw_X12_wayOf {G : mv_G} {l : Nat} {post : Option mv_V → mv_SH → mv_Mem → Prop} {M : mv_Mem} {a b c : Int} (h : mv_R32 (2 * c) ∧
  (0 ≤ (a : Int) ∧ (a : Int) < ((6 : Nat) : Int)) ∧
  (if (M 105 (Int.toNat a)) = 1 then
    mv_R32 ((2 * c) + 1) ∧
    mv_R32 (48 * ((2 * c) + 1)) ∧
    mv_R32 ((48 * ((2 * c) + 1)) + b) ∧
    (0 ≤ ((48 * ((2 * c) + 1)) + b : Int) ∧ ((48 * ((2 * c) + 1)) + b : Int) < ((288 : Nat) : Int)) ∧
    post (some (.inl (M 104 (Int.toNat ((48 * ((2 * c) + 1)) + b))))) (mh l) M
  else
    mv_R32 ((2 * c) + 0) ∧
    mv_R32 (48 * ((2 * c) + 0)) ∧
    mv_R32 ((48 * ((2 * c) + 0)) + b) ∧
    (0 ≤ ((48 * ((2 * c) + 0)) + b : Int) ∧ ((48 * ((2 * c) + 0)) + b : Int) < ((288 : Nat) : Int)) ∧
    post (some (.inl (M 104 (Int.toNat ((48 * ((2 * c) + 0)) + b))))) (mh l) M)) :
    mv_Wp G 169 [.inr (.inr 88), .inl a, .inl b, .inl c] (mh l) M post := mv_wp [] 41 ok_169 oc_169 rfl h
set_option maxRecDepth 100000 in
theorem vw_X12_bidOf {G : mv_G} {l : Nat} {post : Option mv_V → mv_SH → mv_Mem → Prop} {M : mv_Mem} {a b c : Int} (h : (0 ≤ (a : Int) ∧ (a : Int) < ((6 : Nat) : Int)) ∧
  (if (M 105 (Int.toNat a)) = 5 then
    post (some (.inr (.inl 0))) (mh l) M
  else
    (0 ≤ (a : Int) ∧ (a : Int) < ((6 : Nat) : Int)) ∧
    (if (M 105 (Int.toNat a)) = 2 then
      mv_Wp G 169 [.inr (.inr 88), .inl a, .inl b, .inl c] (mh l) M (mv_qi (mh l) fun x5 M5 =>
      (if x5 ≤ 60 then
        (0 ≤ (b : Int) ∧ (b : Int) < ((48 : Nat) : Int)) ∧
        mv_Wp G 168 [.inr (.inr 88), .inl a, .inl (M5 91 (Int.toNat b)), .inl c] (mh l) M5 (mv_ql (mh l) fun x6 M6 =>
        mv_Wp G 167 [.inr (.inr 88), .inl a] (mh l) M6 (mv_qi (mh l) fun x7 M7 =>
        (0 ≤ (b : Int) ∧ (b : Int) < ((48 : Nat) : Int)) ∧
        mv_Wp G 165 [.inr (.inr 88), .inl a, .inl (M7 91 (Int.toNat b))] (mh l) M7 (mv_qi (mh l) fun x8 M8 =>
        mv_R64 (x7 * x8) ∧
        mv_Wp G 169 [.inr (.inr 88), .inl a, .inl b, .inl c] (mh l) M8 (mv_qi (mh l) fun x9 M9 =>
        mv_R64 ((x7 * x8) * x9) ∧
        mv_R64 (x6 - ((x7 * x8) * x9)) ∧
        post (some (.inr (.inl (x6 - ((x7 * x8) * x9))))) (mh l) M9))))
      else
        post (some (.inr (.inl 0))) (mh l) M5))
    else
      (0 ≤ (b : Int) ∧ (b : Int) < ((48 : Nat) : Int)) ∧
      mv_Wp G 168 [.inr (.inr 88), .inl a, .inl (M 91 (Int.toNat b)), .inl c] (mh l) M (mv_ql (mh l) fun x1 M1 =>
      mv_Wp G 167 [.inr (.inr 88), .inl a] (mh l) M1 (mv_qi (mh l) fun x2 M2 =>
      (0 ≤ (b : Int) ∧ (b : Int) < ((48 : Nat) : Int)) ∧
      mv_Wp G 165 [.inr (.inr 88), .inl a, .inl (M2 91 (Int.toNat b))] (mh l) M2 (mv_qi (mh l) fun x3 M3 =>
      mv_R64 (x2 * x3) ∧
      mv_Wp G 169 [.inr (.inr 88), .inl a, .inl b, .inl c] (mh l) M3 (mv_qi (mh l) fun x4 M4 =>
      mv_R64 ((x2 * x3) * x4) ∧
      mv_R64 (x1 - ((x2 * x3) * x4)) ∧
      post (some (.inr (.inl (x1 - ((x2 * x3) * x4))))) (mh l) M4))))))) :
    mv_Wp G 170 [.inr (.inr 88), .inl a, .inl b, .inl c] (mh l) M post := mv_wp [] 71 ok_170 oc_170 rfl h
set_option maxRecDepth 100000 in
theorem vw_X12_bid {G : mv_G} {l : Nat} {post : Option mv_V → mv_SH → mv_Mem → Prop} {M : mv_Mem} {a b c : Int} (h : mv_Wp G 142 [.inr (.inr 88), .inl b] (mh l) M (mv_qi (mh l) fun x1 M1 =>
  mv_Wp G 160 [.inr (.inr 88), .inl a] (mh l) M1 (mv_qi (mh l) fun x2 M2 =>
  (if x2 = 0 then
    mv_Wp G 134 [.inr (.inr 88), .inl (-1)] (mh l) M2 (mv_ql (mh l) fun x3 M3 =>
    post (some (.inr (.inl x3))) (mh l) M3)
  else
    (if x1 < 0 then
      mv_Wp G 134 [.inr (.inr 88), .inl (-1)] (mh l) M2 (mv_ql (mh l) fun x4 M4 =>
      post (some (.inr (.inl x4))) (mh l) M4)
    else
      mv_Wp G 158 [.inr (.inr 88), .inl c] (mh l) M2 (mv_qi (mh l) fun x5 M5 =>
      (if x5 = 0 then
        mv_Wp G 134 [.inr (.inr 88), .inl (-1)] (mh l) M5 (mv_ql (mh l) fun x8 M8 =>
        post (some (.inr (.inl x8))) (mh l) M8)
      else
        mv_Wp G 159 [.inr (.inr 88)] (mh l) M5 (mv_qv (mh l) fun M6 =>
        mv_Wp G 170 [.inr (.inr 88), .inl a, .inl x1, .inl c] (mh l) M6 (mv_ql (mh l) fun x7 M7 =>
        post (some (.inr (.inl x7))) (mh l) M7))))))))) :
    mv_Wp G 171 [.inr (.inr 88), .inl a, .inl b, .inl c] (mh l) M post := mv_wp [] 46 ok_171 oc_171 rfl h
set_option maxRecDepth 100000 in
theorem vw_X12_findGoing {G : mv_G} {l : Nat} {post : Option mv_V → mv_SH → mv_Mem → Prop} {M : mv_Mem} {a : Int} (h : (0 ≤ (a : Int) ∧ (a : Int) < ((48 : Nat) : Int)) ∧
  (0 ≤ (a : Int) ∧ (a : Int) < ((48 : Nat) : Int)) ∧
  (0 ≤ (a : Int) ∧ (a : Int) < ((48 : Nat) : Int)) ∧
  mv_Run G 172 136 7420 25 [(0, .inr (.inr 88)), (1, .inl a), (2, .inl 0)] [] (mh l) (mv_up (mv_up (mv_up M 117 (Int.toNat a) (-9)) 118 (Int.toNat a) (-9)) 119 (Int.toNat a) 0) post) :
    mv_Wp G 172 [.inr (.inr 88), .inl a] (mh l) M post := mv_wp [(25, [0, 1, 2]), (52, [0, 1, 2, 3])] 90 ok_172 oc_172 rfl h
set_option maxRecDepth 100000 in
theorem vr_X12_findGoing_25 {G : mv_G} {l : Nat} {post : Option mv_V → mv_SH → mv_Mem → Prop} {M : mv_Mem} {a v2 : Int} (h : (if (M 88 36) ≤ v2 then
    post none (mh l) M
  else
    mv_Wp G 143 [.inr (.inr 88), .inl a] (mh l) M (mv_qi (mh l) fun x1 M1 =>
    (if x1 = 0 then
      post none (mh l) M1
    else
      (0 ≤ (a : Int) ∧ (a : Int) < ((48 : Nat) : Int)) ∧
      (if (M1 95 (Int.toNat a)) = 0 then
        mv_Run G 172 136 7420 52 [(0, .inr (.inr 88)), (1, .inl a), (2, .inl v2), (3, .inl 0)] [] (mh l) M1 post
      else
        post none (mh l) M1))))) :
    mv_Run G 172 136 7420 25 [(0, .inr (.inr 88)), (1, .inl a), (2, .inl v2)] [] (mh l) M post := mv_run [(25, [0, 1, 2]), (52, [0, 1, 2, 3])] 90 ok_172 h
set_option maxRecDepth 100000 in
theorem vr_X12_findGoing_52 {G : mv_G} {l : Nat} {post : Option mv_V → mv_SH → mv_Mem → Prop} {M : mv_Mem} {a v2 v3 : Int} (h : (if (M 88 23) ≤ v3 then
    mv_R32 (v2 + 1) ∧
    mv_Run G 172 136 7420 25 [(0, .inr (.inr 88)), (1, .inl a), (2, .inl (v2 + 1))] [] (mh l) M post
  else
    mv_Wp G 170 [.inr (.inr 88), .inl v2, .inl a, .inl v3] (mh l) M (mv_ql (mh l) fun x1 M1 =>
    (0 ≤ (a : Int) ∧ (a : Int) < ((48 : Nat) : Int)) ∧
    (if 0 < (mv_cmp x1 (M1 119 (Int.toNat a))) then
      (0 ≤ (a : Int) ∧ (a : Int) < ((48 : Nat) : Int)) ∧
      (0 ≤ (a : Int) ∧ (a : Int) < ((48 : Nat) : Int)) ∧
      (0 ≤ (a : Int) ∧ (a : Int) < ((48 : Nat) : Int)) ∧
      mv_R32 (v3 + 1) ∧
      mv_Run G 172 136 7420 52 [(0, .inr (.inr 88)), (1, .inl a), (2, .inl v2), (3, .inl (v3 + 1))] [] (mh l) (mv_up (mv_up (mv_up M1 119 (Int.toNat a) x1) 117 (Int.toNat a) v2) 118 (Int.toNat a) v3) post
    else
      mv_R32 (v3 + 1) ∧
      mv_Run G 172 136 7420 52 [(0, .inr (.inr 88)), (1, .inl a), (2, .inl v2), (3, .inl (v3 + 1))] [] (mh l) M1 post)))) :
    mv_Run G 172 136 7420 52 [(0, .inr (.inr 88)), (1, .inl a), (2, .inl v2), (3, .inl v3)] [] (mh l) M post := mv_run [(25, [0, 1, 2]), (52, [0, 1, 2, 3])] 90 ok_172 h
set_option maxRecDepth 100000 in
theorem vw_X12_finds {G : mv_G} {l : Nat} {post : Option mv_V → mv_SH → mv_Mem → Prop} {M : mv_Mem} (h : mv_Wp G 159 [.inr (.inr 88)] (mh l) M (mv_qv (mh l) fun M1 =>
  mv_Run G 173 136 7420 6 [(0, .inr (.inr 88)), (1, .inl 0)] [] (mh l) M1 post)) :
    mv_Wp G 173 [.inr (.inr 88)] (mh l) M post := mv_wp [(6, [0, 1])] 33 ok_173 oc_173 rfl h
set_option maxRecDepth 100000 in
theorem vr_X12_finds_6 {G : mv_G} {l : Nat} {post : Option mv_V → mv_SH → mv_Mem → Prop} {M : mv_Mem} {v1 : Int} (h : (if 48 ≤ v1 then
    post none (mh l) M
  else
    mv_Wp G 172 [.inr (.inr 88), .inl v1] (mh l) M (mv_qv (mh l) fun M1 =>
    mv_R32 (v1 + 1) ∧
    mv_Run G 173 136 7420 6 [(0, .inr (.inr 88)), (1, .inl (v1 + 1))] [] (mh l) M1 post))) :
    mv_Run G 173 136 7420 6 [(0, .inr (.inr 88)), (1, .inl v1)] [] (mh l) M post := mv_run [(6, [0, 1])] 33 ok_173 h
set_option maxRecDepth 100000 in
theorem vw_X12_goes {G : mv_G} {l : Nat} {post : Option mv_V → mv_SH → mv_Mem → Prop} {M : mv_Mem} {a b : Int} (h : mv_Wp G 142 [.inr (.inr 88), .inl a] (mh l) M (mv_qi (mh l) fun x1 M1 =>
  (if 0 ≤ x1 then
    mv_Wp G 135 [.inr (.inl b), .inr (.inl 0), .inr (.inl 1)] (mh l) M1 (mv_qi (mh l) fun x2 M2 =>
    (if x2 = 0 then
      mv_Wp G 133 [.inr (.inr 88), .inl (-2)] (mh l) M2 (mv_qi (mh l) fun x4 M4 =>
      post (some (.inl x4)) (mh l) M4)
    else
      mv_Wp G 173 [.inr (.inr 88)] (mh l) M2 (mv_qv (mh l) fun M3 =>
      (if b = 0 then
        (0 ≤ (x1 : Int) ∧ (x1 : Int) < ((48 : Nat) : Int)) ∧
        post (some (.inl (M3 117 (Int.toNat x1)))) (mh l) M3
      else
        (0 ≤ (x1 : Int) ∧ (x1 : Int) < ((48 : Nat) : Int)) ∧
        post (some (.inl (M3 118 (Int.toNat x1)))) (mh l) M3))))
  else
    mv_Wp G 133 [.inr (.inr 88), .inl (-1)] (mh l) M1 (mv_qi (mh l) fun x5 M5 =>
    post (some (.inl x5)) (mh l) M5)))) :
    mv_Wp G 174 [.inr (.inr 88), .inl a, .inl b] (mh l) M post := mv_wp [] 54 ok_174 oc_174 rfl h
set_option maxRecDepth 100000 in
theorem vw_X12_rentOf {G : mv_G} {l : Nat} {post : Option mv_V → mv_SH → mv_Mem → Prop} {M : mv_Mem} {a : Int} (h : (0 ≤ (a : Int) ∧ (a : Int) < ((48 : Nat) : Int)) ∧
  (0 ≤ (a : Int) ∧ (a : Int) < ((48 : Nat) : Int)) ∧
  mv_R64 ((M 119 (Int.toNat a)) * (M 88 37)) ∧
  (¬ (100 : Int) = 0 ∧ mv_R64 (Int.tdiv ((M 119 (Int.toNat a)) * (M 88 37)) 100)) ∧
  mv_R64 ((M 119 (Int.toNat a)) - (Int.tdiv ((M 119 (Int.toNat a)) * (M 88 37)) 100)) ∧
  post (some (.inr (.inl ((M 119 (Int.toNat a)) - (Int.tdiv ((M 119 (Int.toNat a)) * (M 88 37)) 100))))) (mh l) M) :
    mv_Wp G 175 [.inr (.inr 88), .inl a] (mh l) M post := mv_wp [] 36 ok_175 oc_175 rfl h
set_option maxRecDepth 100000 in
theorem vw_X12_allRents {G : mv_G} {l : Nat} {post : Option mv_V → mv_SH → mv_Mem → Prop} {M : mv_Mem} (h : mv_Run G 176 136 7420 4 [(0, .inr (.inr 88)), (1, .inr (.inl 0)), (3, .inl 0)] [] (mh l) M post) :
    mv_Wp G 176 [.inr (.inr 88)] (mh l) M post := mv_wp [(4, [0, 1, 3])] 37 ok_176 oc_176 rfl h
set_option maxRecDepth 100000 in
theorem vr_X12_allRents_4 {G : mv_G} {l : Nat} {post : Option mv_V → mv_SH → mv_Mem → Prop} {M : mv_Mem} {v1 v3 : Int} (h : (if 48 ≤ v3 then
    post (some (.inr (.inl v1))) (mh l) M
  else
    mv_Wp G 175 [.inr (.inr 88), .inl v3] (mh l) M (mv_ql (mh l) fun x1 M1 =>
    mv_R64 (v1 + x1) ∧
    mv_R32 (v3 + 1) ∧
    mv_Run G 176 136 7420 4 [(0, .inr (.inr 88)), (1, .inr (.inl (v1 + x1))), (3, .inl (v3 + 1))] [] (mh l) M1 post))) :
    mv_Run G 176 136 7420 4 [(0, .inr (.inr 88)), (1, .inr (.inl v1)), (3, .inl v3)] [] (mh l) M post := mv_run [(4, [0, 1, 3])] 37 ok_176 h
set_option maxRecDepth 100000 in
theorem vw_X12_rent {G : mv_G} {l : Nat} {post : Option mv_V → mv_SH → mv_Mem → Prop} {M : mv_Mem} {a : Int} (h : (if a = (-1) then
    (if 0 ≤ (0 : Int) then
      mv_Wp G 173 [.inr (.inr 88)] (mh l) M (mv_qv (mh l) fun M6 =>
      (if a = (-1) then
        mv_Wp G 176 [.inr (.inr 88)] (mh l) M6 (mv_ql (mh l) fun x8 M8 =>
        post (some (.inr (.inl x8))) (mh l) M8)
      else
        mv_Wp G 175 [.inr (.inr 88), .inl 0] (mh l) M6 (mv_ql (mh l) fun x7 M7 =>
        post (some (.inr (.inl x7))) (mh l) M7)))
    else
      mv_Wp G 134 [.inr (.inr 88), .inl (-1)] (mh l) M (mv_ql (mh l) fun x9 M9 =>
      post (some (.inr (.inl x9))) (mh l) M9))
  else
    mv_Wp G 142 [.inr (.inr 88), .inl a] (mh l) M (mv_qi (mh l) fun x1 M1 =>
    (if 0 ≤ x1 then
      mv_Wp G 173 [.inr (.inr 88)] (mh l) M1 (mv_qv (mh l) fun M2 =>
      (if a = (-1) then
        mv_Wp G 176 [.inr (.inr 88)] (mh l) M2 (mv_ql (mh l) fun x4 M4 =>
        post (some (.inr (.inl x4))) (mh l) M4)
      else
        mv_Wp G 175 [.inr (.inr 88), .inl x1] (mh l) M2 (mv_ql (mh l) fun x3 M3 =>
        post (some (.inr (.inl x3))) (mh l) M3)))
    else
      mv_Wp G 134 [.inr (.inr 88), .inl (-1)] (mh l) M1 (mv_ql (mh l) fun x5 M5 =>
      post (some (.inr (.inl x5))) (mh l) M5))))) :
    mv_Wp G 177 [.inr (.inr 88), .inl a] (mh l) M post := mv_wp [] 47 ok_177 oc_177 rfl h
set_option maxRecDepth 100000 in
theorem vw_X12_comesTo {G : mv_G} {l : Nat} {post : Option mv_V → mv_SH → mv_Mem → Prop} {M : mv_Mem} {a b : Int} (h : mv_Run G 178 136 7420 5 [(0, .inr (.inr 88)), (1, .inl a), (2, .inl b), (3, .inl 0), (4, .inl 0)] [] (mh l) M post) :
    mv_Wp G 178 [.inr (.inr 88), .inl a, .inl b] (mh l) M post := mv_wp [(5, [0, 1, 2, 3, 4])] 55 ok_178 oc_178 rfl h
set_option maxRecDepth 100000 in
theorem vr_X12_comesTo_5 {G : mv_G} {l : Nat} {post : Option mv_V → mv_SH → mv_Mem → Prop} {M : mv_Mem} {a b v3 v4 : Int} (h : (if 48 ≤ v4 then
    post (some (.inl v3)) (mh l) M
  else
    (0 ≤ (v4 : Int) ∧ (v4 : Int) < ((48 : Nat) : Int)) ∧
    (if (M 117 (Int.toNat v4)) = a then
      (0 ≤ (v4 : Int) ∧ (v4 : Int) < ((48 : Nat) : Int)) ∧
      (if (M 118 (Int.toNat v4)) = b then
        (0 ≤ (v4 : Int) ∧ (v4 : Int) < ((48 : Nat) : Int)) ∧
        mv_Wp G 165 [.inr (.inr 88), .inl a, .inl (M 91 (Int.toNat v4))] (mh l) M (mv_qi (mh l) fun x1 M1 =>
        mv_R32 (v3 + x1) ∧
        mv_R32 (v4 + 1) ∧
        mv_Run G 178 136 7420 5 [(0, .inr (.inr 88)), (1, .inl a), (2, .inl b), (3, .inl (v3 + x1)), (4, .inl (v4 + 1))] [] (mh l) M1 post)
      else
        mv_R32 (v3 + 0) ∧
        mv_R32 (v4 + 1) ∧
        mv_Run G 178 136 7420 5 [(0, .inr (.inr 88)), (1, .inl a), (2, .inl b), (3, .inl (v3 + 0)), (4, .inl (v4 + 1))] [] (mh l) M post)
    else
      mv_R32 (v3 + 0) ∧
      mv_R32 (v4 + 1) ∧
      mv_Run G 178 136 7420 5 [(0, .inr (.inr 88)), (1, .inl a), (2, .inl b), (3, .inl (v3 + 0)), (4, .inl (v4 + 1))] [] (mh l) M post))) :
    mv_Run G 178 136 7420 5 [(0, .inr (.inr 88)), (1, .inl a), (2, .inl b), (3, .inl v3), (4, .inl v4)] [] (mh l) M post := mv_run [(5, [0, 1, 2, 3, 4])] 55 ok_178 h
set_option maxRecDepth 100000 in
theorem vw_X12_comes {G : mv_G} {l : Nat} {post : Option mv_V → mv_SH → mv_Mem → Prop} {M : mv_Mem} {a b : Int} (h : mv_Wp G 160 [.inr (.inr 88), .inl a] (mh l) M (mv_qi (mh l) fun x1 M1 =>
  (if x1 = 0 then
    mv_Wp G 133 [.inr (.inr 88), .inl (-1)] (mh l) M1 (mv_qi (mh l) fun x2 M2 =>
    post (some (.inl x2)) (mh l) M2)
  else
    mv_Wp G 158 [.inr (.inr 88), .inl b] (mh l) M1 (mv_qi (mh l) fun x3 M3 =>
    (if x3 = 0 then
      mv_Wp G 133 [.inr (.inr 88), .inl (-1)] (mh l) M3 (mv_qi (mh l) fun x6 M6 =>
      post (some (.inl x6)) (mh l) M6)
    else
      mv_Wp G 173 [.inr (.inr 88)] (mh l) M3 (mv_qv (mh l) fun M4 =>
      mv_Wp G 178 [.inr (.inr 88), .inl a, .inl b] (mh l) M4 (mv_qi (mh l) fun x5 M5 =>
      post (some (.inl x5)) (mh l) M5))))))) :
    mv_Wp G 179 [.inr (.inr 88), .inl a, .inl b] (mh l) M post := mv_wp [] 39 ok_179 oc_179 rfl h
set_option maxRecDepth 100000 in
theorem vw_X12_piece {G : mv_G} {l : Nat} {post : Option mv_V → mv_SH → mv_Mem → Prop} {M : mv_Mem} {a b c d : Int} (h : mv_Wp G 160 [.inr (.inr 88), .inl a] (mh l) M (mv_qi (mh l) fun x1 M1 =>
  (if x1 = 0 then
    mv_Wp G 133 [.inr (.inr 88), .inl (-1)] (mh l) M1 (mv_qi (mh l) fun x2 M2 =>
    post (some (.inl x2)) (mh l) M2)
  else
    mv_Wp G 158 [.inr (.inr 88), .inl b] (mh l) M1 (mv_qi (mh l) fun x3 M3 =>
    (if x3 = 0 then
      mv_Wp G 133 [.inr (.inr 88), .inl (-1)] (mh l) M3 (mv_qi (mh l) fun x4 M4 =>
      post (some (.inl x4)) (mh l) M4)
    else
      mv_R32 (3 * a) ∧
      mv_R32 ((3 * a) + b) ∧
      (if c < 0 then
        mv_Run G 180 136 7420 78 [(0, .inr (.inr 88)), (3, .inl c), (4, .inl d), (5, .inl ((3 * a) + b)), (6, .inl (-4))] [] (mh l) M3 post
      else
        (if 0 ≤ d then
          (if 9999 < c then
            mv_Run G 180 136 7420 78 [(0, .inr (.inr 88)), (3, .inl c), (4, .inl d), (5, .inl ((3 * a) + b)), (6, .inl (-6))] [] (mh l) M3 post
          else
            (if 999 < d then
              mv_Run G 180 136 7420 78 [(0, .inr (.inr 88)), (3, .inl c), (4, .inl d), (5, .inl ((3 * a) + b)), (6, .inl (-6))] [] (mh l) M3 post
            else
              (0 ≤ ((3 * a) + b : Int) ∧ ((3 * a) + b : Int) < ((18 : Nat) : Int)) ∧
              (if (M3 116 (Int.toNat ((3 * a) + b))) = 6 then
                mv_Run G 180 136 7420 78 [(0, .inr (.inr 88)), (3, .inl c), (4, .inl d), (5, .inl ((3 * a) + b)), (6, .inl (-6))] [] (mh l) M3 post
              else
                mv_Run G 180 136 7420 78 [(0, .inr (.inr 88)), (3, .inl c), (4, .inl d), (5, .inl ((3 * a) + b)), (6, .inl 0)] [] (mh l) M3 post)))
        else
          mv_Run G 180 136 7420 78 [(0, .inr (.inr 88)), (3, .inl c), (4, .inl d), (5, .inl ((3 * a) + b)), (6, .inl (-4))] [] (mh l) M3 post))))))) :
    mv_Wp G 180 [.inr (.inr 88), .inl a, .inl b, .inl c, .inl d] (mh l) M post := mv_wp [(78, [0, 3, 4, 5, 6])] 103 ok_180 oc_180 rfl h
set_option maxRecDepth 100000 in
theorem vr_X12_piece_78 {G : mv_G} {l : Nat} {post : Option mv_V → mv_SH → mv_Mem → Prop} {M : mv_Mem} {c d v5 v6 : Int} (h : (if v6 = 0 then
    mv_R32 (6 * v5) ∧
    (0 ≤ (v5 : Int) ∧ (v5 : Int) < ((18 : Nat) : Int)) ∧
    mv_R32 ((6 * v5) + (M 116 (Int.toNat v5))) ∧
    (0 ≤ ((6 * v5) + (M 116 (Int.toNat v5)) : Int) ∧ ((6 * v5) + (M 116 (Int.toNat v5)) : Int) < ((108 : Nat) : Int)) ∧
    mv_R32 (6 * v5) ∧
    (0 ≤ (v5 : Int) ∧ (v5 : Int) < ((18 : Nat) : Int)) ∧
    mv_R32 ((6 * v5) + ((mv_up M 114 (Int.toNat ((6 * v5) + (M 116 (Int.toNat v5)))) c) 116 (Int.toNat v5))) ∧
    (0 ≤ ((6 * v5) + ((mv_up M 114 (Int.toNat ((6 * v5) + (M 116 (Int.toNat v5)))) c) 116 (Int.toNat v5)) : Int) ∧ ((6 * v5) + ((mv_up M 114 (Int.toNat ((6 * v5) + (M 116 (Int.toNat v5)))) c) 116 (Int.toNat v5)) : Int) < ((108 : Nat) : Int)) ∧
    (0 ≤ (v5 : Int) ∧ (v5 : Int) < ((18 : Nat) : Int)) ∧
    mv_R32 (((mv_up (mv_up M 114 (Int.toNat ((6 * v5) + (M 116 (Int.toNat v5)))) c) 115 (Int.toNat ((6 * v5) + ((mv_up M 114 (Int.toNat ((6 * v5) + (M 116 (Int.toNat v5)))) c) 116 (Int.toNat v5)))) d) 116 (Int.toNat v5)) + 1) ∧
    (0 ≤ (v5 : Int) ∧ (v5 : Int) < ((18 : Nat) : Int)) ∧
    (0 ≤ (v5 : Int) ∧ (v5 : Int) < ((18 : Nat) : Int)) ∧
    post (some (.inl ((mv_up (mv_up (mv_up M 114 (Int.toNat ((6 * v5) + (M 116 (Int.toNat v5)))) c) 115 (Int.toNat ((6 * v5) + ((mv_up M 114 (Int.toNat ((6 * v5) + (M 116 (Int.toNat v5)))) c) 116 (Int.toNat v5)))) d) 116 (Int.toNat v5) (((mv_up (mv_up M 114 (Int.toNat ((6 * v5) + (M 116 (Int.toNat v5)))) c) 115 (Int.toNat ((6 * v5) + ((mv_up M 114 (Int.toNat ((6 * v5) + (M 116 (Int.toNat v5)))) c) 116 (Int.toNat v5)))) d) 116 (Int.toNat v5)) + 1)) 116 (Int.toNat v5)))) (mh l) (mv_up (mv_up (mv_up M 114 (Int.toNat ((6 * v5) + (M 116 (Int.toNat v5)))) c) 115 (Int.toNat ((6 * v5) + ((mv_up M 114 (Int.toNat ((6 * v5) + (M 116 (Int.toNat v5)))) c) 116 (Int.toNat v5)))) d) 116 (Int.toNat v5) (((mv_up (mv_up M 114 (Int.toNat ((6 * v5) + (M 116 (Int.toNat v5)))) c) 115 (Int.toNat ((6 * v5) + ((mv_up M 114 (Int.toNat ((6 * v5) + (M 116 (Int.toNat v5)))) c) 116 (Int.toNat v5)))) d) 116 (Int.toNat v5)) + 1))
  else
    mv_Wp G 133 [.inr (.inr 88), .inl v6] (mh l) M (mv_qi (mh l) fun x1 M1 =>
    post (some (.inl x1)) (mh l) M1))) :
    mv_Run G 180 136 7420 78 [(0, .inr (.inr 88)), (3, .inl c), (4, .inl d), (5, .inl v5), (6, .inl v6)] [] (mh l) M post := mv_run [(78, [0, 3, 4, 5, 6])] 103 ok_180 h
set_option maxRecDepth 100000 in
theorem vw_X12_boughtOf {G : mv_G} {l : Nat} {post : Option mv_V → mv_SH → mv_Mem → Prop} {M : mv_Mem} {a b c : Int} (h : mv_R32 (3 * a) ∧
  mv_R32 ((3 * a) + b) ∧
  mv_R32 (6 * ((3 * a) + b)) ∧
  mv_Run G 181 136 7420 13 [(0, .inr (.inr 88)), (1, .inl a), (2, .inl b), (3, .inl c), (4, .inl 0), (5, .inl (6 * ((3 * a) + b)))] [] (mh l) M post) :
    mv_Wp G 181 [.inr (.inr 88), .inl a, .inl b, .inl c] (mh l) M post := mv_wp [(13, [0, 1, 2, 3, 4, 5])] 67 ok_181 oc_181 rfl h
set_option maxRecDepth 100000 in
theorem vr_X12_boughtOf_13 {G : mv_G} {l : Nat} {post : Option mv_V → mv_SH → mv_Mem → Prop} {M : mv_Mem} {a b c v4 v5 : Int} (h : mv_R32 (3 * a) ∧
  mv_R32 ((3 * a) + b) ∧
  mv_R32 (6 * ((3 * a) + b)) ∧
  mv_R32 (3 * a) ∧
  mv_R32 ((3 * a) + b) ∧
  (0 ≤ ((3 * a) + b : Int) ∧ ((3 * a) + b : Int) < ((18 : Nat) : Int)) ∧
  mv_R32 ((6 * ((3 * a) + b)) + (M 116 (Int.toNat ((3 * a) + b)))) ∧
  (if ((6 * ((3 * a) + b)) + (M 116 (Int.toNat ((3 * a) + b)))) ≤ v5 then
    post (some (.inl v4)) (mh l) M
  else
    (0 ≤ (v5 : Int) ∧ (v5 : Int) < ((108 : Nat) : Int)) ∧
    (if (M 115 (Int.toNat v5)) < c then
      mv_R32 (v4 + 0) ∧
      mv_R32 (v5 + 1) ∧
      mv_Run G 181 136 7420 13 [(0, .inr (.inr 88)), (1, .inl a), (2, .inl b), (3, .inl c), (4, .inl (v4 + 0)), (5, .inl (v5 + 1))] [] (mh l) M post
    else
      (0 ≤ (v5 : Int) ∧ (v5 : Int) < ((108 : Nat) : Int)) ∧
      mv_R32 (v4 + (M 114 (Int.toNat v5))) ∧
      mv_R32 (v5 + 1) ∧
      mv_Run G 181 136 7420 13 [(0, .inr (.inr 88)), (1, .inl a), (2, .inl b), (3, .inl c), (4, .inl (v4 + (M 114 (Int.toNat v5)))), (5, .inl (v5 + 1))] [] (mh l) M post))) :
    mv_Run G 181 136 7420 13 [(0, .inr (.inr 88)), (1, .inl a), (2, .inl b), (3, .inl c), (4, .inl v4), (5, .inl v5)] [] (mh l) M post := mv_run [(13, [0, 1, 2, 3, 4, 5])] 67 ok_181 h
set_option maxRecDepth 100000 in
theorem vw_X12_bought {G : mv_G} {l : Nat} {post : Option mv_V → mv_SH → mv_Mem → Prop} {M : mv_Mem} {a b c : Int} (h : mv_Wp G 160 [.inr (.inr 88), .inl a] (mh l) M (mv_qi (mh l) fun x1 M1 =>
  (if x1 = 0 then
    mv_Wp G 133 [.inr (.inr 88), .inl (-1)] (mh l) M1 (mv_qi (mh l) fun x2 M2 =>
    post (some (.inl x2)) (mh l) M2)
  else
    mv_Wp G 158 [.inr (.inr 88), .inl b] (mh l) M1 (mv_qi (mh l) fun x3 M3 =>
    (if x3 = 0 then
      mv_Wp G 133 [.inr (.inr 88), .inl (-1)] (mh l) M3 (mv_qi (mh l) fun x7 M7 =>
      post (some (.inl x7)) (mh l) M7)
    else
      mv_Wp G 136 [.inr (.inl c), .inr (.inl 0), .inr (.inl 999)] (mh l) M3 (mv_qi (mh l) fun x4 M4 =>
      (if x4 = 0 then
        mv_Wp G 181 [.inr (.inr 88), .inl a, .inl b, .inl c] (mh l) M4 (mv_qi (mh l) fun x5 M5 =>
        post (some (.inl x5)) (mh l) M5)
      else
        mv_Wp G 133 [.inr (.inr 88), .inl x4] (mh l) M4 (mv_qi (mh l) fun x6 M6 =>
        post (some (.inl x6)) (mh l) M6)))))))) :
    mv_Wp G 182 [.inr (.inr 88), .inl a, .inl b, .inl c] (mh l) M post := mv_wp [] 50 ok_182 oc_182 rfl h
set_option maxRecDepth 100000 in
theorem vw_X12_wouldGo {G : mv_G} {l : Nat} {post : Option mv_V → mv_SH → mv_Mem → Prop} {M : mv_Mem} {a b c : Int} (h : mv_Wp G 143 [.inr (.inr 88), .inl a] (mh l) M (mv_qi (mh l) fun x1 M1 =>
  (if x1 = 0 then
    ((0 : Int) = 0 ∨ (0 : Int) = 1) ∧ post (some (.inl 0)) (mh l) M1
  else
    (0 ≤ (a : Int) ∧ (a : Int) < ((48 : Nat) : Int)) ∧
    (if (M1 95 (Int.toNat a)) = 0 then
      mv_Wp G 170 [.inr (.inr 88), .inl b, .inl a, .inl c] (mh l) M1 (mv_ql (mh l) fun x2 M2 =>
      (if (mv_cmp x2 0) ≤ 0 then
        ((0 : Int) = 0 ∨ (0 : Int) = 1) ∧ post (some (.inl 0)) (mh l) M2
      else
        (0 ≤ (a : Int) ∧ (a : Int) < ((48 : Nat) : Int)) ∧
        (if 0 ≤ (mv_cmp x2 (M2 119 (Int.toNat a))) then
          (0 ≤ (a : Int) ∧ (a : Int) < ((48 : Nat) : Int)) ∧
          (if 0 < (mv_cmp x2 (M2 119 (Int.toNat a))) then
            ((1 : Int) = 0 ∨ (1 : Int) = 1) ∧ post (some (.inl 1)) (mh l) M2
          else
            (0 ≤ (a : Int) ∧ (a : Int) < ((48 : Nat) : Int)) ∧
            (if b < (M2 117 (Int.toNat a)) then
              ((1 : Int) = 0 ∨ (1 : Int) = 1) ∧ post (some (.inl 1)) (mh l) M2
            else
              (0 ≤ (a : Int) ∧ (a : Int) < ((48 : Nat) : Int)) ∧
              (if b = (M2 117 (Int.toNat a)) then
                (0 ≤ (a : Int) ∧ (a : Int) < ((48 : Nat) : Int)) ∧
                (if (M2 118 (Int.toNat a)) ≤ c then
                  ((0 : Int) = 0 ∨ (0 : Int) = 1) ∧ post (some (.inl 0)) (mh l) M2
                else
                  ((1 : Int) = 0 ∨ (1 : Int) = 1) ∧ post (some (.inl 1)) (mh l) M2)
              else
                ((0 : Int) = 0 ∨ (0 : Int) = 1) ∧ post (some (.inl 0)) (mh l) M2)))
        else
          ((0 : Int) = 0 ∨ (0 : Int) = 1) ∧ post (some (.inl 0)) (mh l) M2)))
    else
      ((0 : Int) = 0 ∨ (0 : Int) = 1) ∧ post (some (.inl 0)) (mh l) M1)))) :
    mv_Wp G 183 [.inr (.inr 88), .inl a, .inl b, .inl c] (mh l) M post := mv_wp [] 79 ok_183 oc_183 rfl h
set_option maxRecDepth 100000 in
theorem vw_X12_clearsOf {G : mv_G} {l : Nat} {post : Option mv_V → mv_SH → mv_Mem → Prop} {M : mv_Mem} {a b : Int} (h : mv_R32 (3 * a) ∧
  mv_R32 ((3 * a) + b) ∧
  (0 ≤ ((3 * a) + b : Int) ∧ ((3 * a) + b : Int) < ((18 : Nat) : Int)) ∧
  mv_Wp G 159 [.inr (.inr 88)] (mh l) M (mv_qv (mh l) fun M1 =>
  mv_Run G 184 136 7420 25 [(0, .inr (.inr 88)), (1, .inl a), (2, .inl b), (3, .inl ((3 * a) + b)), (4, .inl (M 113 (Int.toNat ((3 * a) + b)))), (5, .inl (-9)), (6, .inl 0)] [] (mh l) M1 post)) :
    mv_Wp G 184 [.inr (.inr 88), .inl a, .inl b] (mh l) M post := mv_wp [(25, [0, 1, 2, 3, 4, 5, 6]), (49, [0, 1, 2, 3, 4, 5, 6]), (78, [0, 1, 2, 3, 4, 5, 6, 7, 8])] 105 ok_184 oc_184 rfl h
set_option maxRecDepth 100000 in
theorem vr_X12_clearsOf_25 {G : mv_G} {l : Nat} {post : Option mv_V → mv_SH → mv_Mem → Prop} {M : mv_Mem} {a b v3 v4 v5 v6 : Int} (h : (if 48 ≤ v6 then
    mv_Run G 184 136 7420 49 [(0, .inr (.inr 88)), (1, .inl a), (2, .inl b), (3, .inl v3), (4, .inl v4), (5, .inl v5), (6, .inl 0)] [] (mh l) M post
  else
    mv_Wp G 185 [.inr (.inr 88), .inl v6, .inl a, .inl b] (mh l) M (mv_qv (mh l) fun M1 =>
    mv_R32 (v6 + 1) ∧
    mv_Run G 184 136 7420 25 [(0, .inr (.inr 88)), (1, .inl a), (2, .inl b), (3, .inl v3), (4, .inl v4), (5, .inl v5), (6, .inl (v6 + 1))] [] (mh l) M1 post))) :
    mv_Run G 184 136 7420 25 [(0, .inr (.inr 88)), (1, .inl a), (2, .inl b), (3, .inl v3), (4, .inl v4), (5, .inl v5), (6, .inl v6)] [] (mh l) M post := mv_run [(25, [0, 1, 2, 3, 4, 5, 6]), (49, [0, 1, 2, 3, 4, 5, 6]), (78, [0, 1, 2, 3, 4, 5, 6, 7, 8])] 105 ok_184 h
set_option maxRecDepth 100000 in
theorem vr_X12_clearsOf_49 {G : mv_G} {l : Nat} {post : Option mv_V → mv_SH → mv_Mem → Prop} {M : mv_Mem} {a b v3 v4 v5 v6 : Int} (h : (if 1000 ≤ v6 then
    (0 ≤ (v3 : Int) ∧ (v3 : Int) < ((18 : Nat) : Int)) ∧
    post (some (.inl v5)) (mh l) (mv_up M 113 (Int.toNat v3) v4)
  else
    (if v5 = (-9) then
      (0 ≤ (v3 : Int) ∧ (v3 : Int) < ((18 : Nat) : Int)) ∧
      mv_Run G 184 136 7420 78 [(0, .inr (.inr 88)), (1, .inl a), (2, .inl b), (3, .inl v3), (4, .inl v4), (5, .inl v5), (6, .inl v6), (7, .inl 0), (8, .inl 0)] [] (mh l) (mv_up M 113 (Int.toNat v3) v6) post
    else
      (0 ≤ (v3 : Int) ∧ (v3 : Int) < ((18 : Nat) : Int)) ∧
      post (some (.inl v5)) (mh l) (mv_up M 113 (Int.toNat v3) v4)))) :
    mv_Run G 184 136 7420 49 [(0, .inr (.inr 88)), (1, .inl a), (2, .inl b), (3, .inl v3), (4, .inl v4), (5, .inl v5), (6, .inl v6)] [] (mh l) M post := mv_run [(25, [0, 1, 2, 3, 4, 5, 6]), (49, [0, 1, 2, 3, 4, 5, 6]), (78, [0, 1, 2, 3, 4, 5, 6, 7, 8])] 105 ok_184 h
set_option maxRecDepth 100000 in
theorem vr_X12_clearsOf_78 {G : mv_G} {l : Nat} {post : Option mv_V → mv_SH → mv_Mem → Prop} {M : mv_Mem} {a b v3 v4 v5 v6 v7 v8 : Int} (h : (if 48 ≤ v8 then
    mv_Wp G 181 [.inr (.inr 88), .inl a, .inl b, .inl v6] (mh l) M (mv_qi (mh l) fun x1 M1 =>
    (if v7 < x1 then
      mv_R32 (v6 + 1) ∧
      mv_Run G 184 136 7420 49 [(0, .inr (.inr 88)), (1, .inl a), (2, .inl b), (3, .inl v3), (4, .inl v4), (5, .inl v5), (6, .inl (v6 + 1))] [] (mh l) M1 post
    else
      mv_R32 (v6 + 1) ∧
      mv_Run G 184 136 7420 49 [(0, .inr (.inr 88)), (1, .inl a), (2, .inl b), (3, .inl v3), (4, .inl v4), (5, .inl v6), (6, .inl (v6 + 1))] [] (mh l) M1 post))
  else
    mv_Wp G 183 [.inr (.inr 88), .inl v8, .inl a, .inl b] (mh l) M (mv_qi (mh l) fun x2 M2 =>
    (if x2 = 0 then
      mv_R32 (v7 + 0) ∧
      mv_R32 (v8 + 1) ∧
      mv_Run G 184 136 7420 78 [(0, .inr (.inr 88)), (1, .inl a), (2, .inl b), (3, .inl v3), (4, .inl v4), (5, .inl v5), (6, .inl v6), (7, .inl (v7 + 0)), (8, .inl (v8 + 1))] [] (mh l) M2 post
    else
      (0 ≤ (v8 : Int) ∧ (v8 : Int) < ((48 : Nat) : Int)) ∧
      mv_Wp G 165 [.inr (.inr 88), .inl a, .inl (M2 91 (Int.toNat v8))] (mh l) M2 (mv_qi (mh l) fun x3 M3 =>
      mv_R32 (v7 + x3) ∧
      mv_R32 (v8 + 1) ∧
      mv_Run G 184 136 7420 78 [(0, .inr (.inr 88)), (1, .inl a), (2, .inl b), (3, .inl v3), (4, .inl v4), (5, .inl v5), (6, .inl v6), (7, .inl (v7 + x3)), (8, .inl (v8 + 1))] [] (mh l) M3 post))))) :
    mv_Run G 184 136 7420 78 [(0, .inr (.inr 88)), (1, .inl a), (2, .inl b), (3, .inl v3), (4, .inl v4), (5, .inl v5), (6, .inl v6), (7, .inl v7), (8, .inl v8)] [] (mh l) M post := mv_run [(25, [0, 1, 2, 3, 4, 5, 6]), (49, [0, 1, 2, 3, 4, 5, 6]), (78, [0, 1, 2, 3, 4, 5, 6, 7, 8])] 105 ok_184 h
set_option maxRecDepth 100000 in
theorem vw_X12_findOthers {G : mv_G} {l : Nat} {post : Option mv_V → mv_SH → mv_Mem → Prop} {M : mv_Mem} {a b c : Int} (h : (0 ≤ (a : Int) ∧ (a : Int) < ((48 : Nat) : Int)) ∧
  (0 ≤ (a : Int) ∧ (a : Int) < ((48 : Nat) : Int)) ∧
  (0 ≤ (a : Int) ∧ (a : Int) < ((48 : Nat) : Int)) ∧
  mv_Run G 185 136 7420 26 [(0, .inr (.inr 88)), (1, .inl a), (2, .inl b), (3, .inl c), (4, .inl 0)] [] (mh l) (mv_up (mv_up (mv_up M 117 (Int.toNat a) (-9)) 118 (Int.toNat a) (-9)) 119 (Int.toNat a) 0) post) :
    mv_Wp G 185 [.inr (.inr 88), .inl a, .inl b, .inl c] (mh l) M post := mv_wp [(26, [0, 1, 2, 3, 4]), (46, [0, 1, 2, 3, 4, 5])] 93 ok_185 oc_185 rfl h
set_option maxRecDepth 100000 in
theorem vr_X12_findOthers_26 {G : mv_G} {l : Nat} {post : Option mv_V → mv_SH → mv_Mem → Prop} {M : mv_Mem} {a b c v4 : Int} (h : (if (M 88 36) ≤ v4 then
    post none (mh l) M
  else
    mv_Wp G 143 [.inr (.inr 88), .inl a] (mh l) M (mv_qi (mh l) fun x1 M1 =>
    (if x1 = 0 then
      post none (mh l) M1
    else
      mv_Run G 185 136 7420 46 [(0, .inr (.inr 88)), (1, .inl a), (2, .inl b), (3, .inl c), (4, .inl v4), (5, .inl 0)] [] (mh l) M1 post)))) :
    mv_Run G 185 136 7420 26 [(0, .inr (.inr 88)), (1, .inl a), (2, .inl b), (3, .inl c), (4, .inl v4)] [] (mh l) M post := mv_run [(26, [0, 1, 2, 3, 4]), (46, [0, 1, 2, 3, 4, 5])] 93 ok_185 h
set_option maxRecDepth 100000 in
theorem vr_X12_findOthers_46 {G : mv_G} {l : Nat} {post : Option mv_V → mv_SH → mv_Mem → Prop} {M : mv_Mem} {a b c v4 v5 : Int} (h : (if (M 88 23) ≤ v5 then
    mv_R32 (v4 + 1) ∧
    mv_Run G 185 136 7420 26 [(0, .inr (.inr 88)), (1, .inl a), (2, .inl b), (3, .inl c), (4, .inl (v4 + 1))] [] (mh l) M post
  else
    (if v4 = b then
      (if v5 = c then
        (0 ≤ (a : Int) ∧ (a : Int) < ((48 : Nat) : Int)) ∧
        (if 0 < (mv_cmp 0 (M 119 (Int.toNat a))) then
          (0 ≤ (a : Int) ∧ (a : Int) < ((48 : Nat) : Int)) ∧
          (0 ≤ (a : Int) ∧ (a : Int) < ((48 : Nat) : Int)) ∧
          (0 ≤ (a : Int) ∧ (a : Int) < ((48 : Nat) : Int)) ∧
          mv_R32 (v5 + 1) ∧
          mv_Run G 185 136 7420 46 [(0, .inr (.inr 88)), (1, .inl a), (2, .inl b), (3, .inl c), (4, .inl v4), (5, .inl (v5 + 1))] [] (mh l) (mv_up (mv_up (mv_up M 119 (Int.toNat a) 0) 117 (Int.toNat a) v4) 118 (Int.toNat a) v5) post
        else
          mv_R32 (v5 + 1) ∧
          mv_Run G 185 136 7420 46 [(0, .inr (.inr 88)), (1, .inl a), (2, .inl b), (3, .inl c), (4, .inl v4), (5, .inl (v5 + 1))] [] (mh l) M post)
      else
        mv_Wp G 170 [.inr (.inr 88), .inl v4, .inl a, .inl v5] (mh l) M (mv_ql (mh l) fun x2 M2 =>
        (0 ≤ (a : Int) ∧ (a : Int) < ((48 : Nat) : Int)) ∧
        (if 0 < (mv_cmp x2 (M2 119 (Int.toNat a))) then
          (0 ≤ (a : Int) ∧ (a : Int) < ((48 : Nat) : Int)) ∧
          (0 ≤ (a : Int) ∧ (a : Int) < ((48 : Nat) : Int)) ∧
          (0 ≤ (a : Int) ∧ (a : Int) < ((48 : Nat) : Int)) ∧
          mv_R32 (v5 + 1) ∧
          mv_Run G 185 136 7420 46 [(0, .inr (.inr 88)), (1, .inl a), (2, .inl b), (3, .inl c), (4, .inl v4), (5, .inl (v5 + 1))] [] (mh l) (mv_up (mv_up (mv_up M2 119 (Int.toNat a) x2) 117 (Int.toNat a) v4) 118 (Int.toNat a) v5) post
        else
          mv_R32 (v5 + 1) ∧
          mv_Run G 185 136 7420 46 [(0, .inr (.inr 88)), (1, .inl a), (2, .inl b), (3, .inl c), (4, .inl v4), (5, .inl (v5 + 1))] [] (mh l) M2 post)))
    else
      mv_Wp G 170 [.inr (.inr 88), .inl v4, .inl a, .inl v5] (mh l) M (mv_ql (mh l) fun x1 M1 =>
      (0 ≤ (a : Int) ∧ (a : Int) < ((48 : Nat) : Int)) ∧
      (if 0 < (mv_cmp x1 (M1 119 (Int.toNat a))) then
        (0 ≤ (a : Int) ∧ (a : Int) < ((48 : Nat) : Int)) ∧
        (0 ≤ (a : Int) ∧ (a : Int) < ((48 : Nat) : Int)) ∧
        (0 ≤ (a : Int) ∧ (a : Int) < ((48 : Nat) : Int)) ∧
        mv_R32 (v5 + 1) ∧
        mv_Run G 185 136 7420 46 [(0, .inr (.inr 88)), (1, .inl a), (2, .inl b), (3, .inl c), (4, .inl v4), (5, .inl (v5 + 1))] [] (mh l) (mv_up (mv_up (mv_up M1 119 (Int.toNat a) x1) 117 (Int.toNat a) v4) 118 (Int.toNat a) v5) post
      else
        mv_R32 (v5 + 1) ∧
        mv_Run G 185 136 7420 46 [(0, .inr (.inr 88)), (1, .inl a), (2, .inl b), (3, .inl c), (4, .inl v4), (5, .inl (v5 + 1))] [] (mh l) M1 post))))) :
    mv_Run G 185 136 7420 46 [(0, .inr (.inr 88)), (1, .inl a), (2, .inl b), (3, .inl c), (4, .inl v4), (5, .inl v5)] [] (mh l) M post := mv_run [(26, [0, 1, 2, 3, 4]), (46, [0, 1, 2, 3, 4, 5])] 93 ok_185 h
set_option maxRecDepth 100000 in
theorem vw_X12_clears {G : mv_G} {l : Nat} {post : Option mv_V → mv_SH → mv_Mem → Prop} {M : mv_Mem} {a b : Int} (h : mv_Wp G 160 [.inr (.inr 88), .inl a] (mh l) M (mv_qi (mh l) fun x1 M1 =>
  (if x1 = 0 then
    mv_Wp G 133 [.inr (.inr 88), .inl (-1)] (mh l) M1 (mv_qi (mh l) fun x2 M2 =>
    post (some (.inl x2)) (mh l) M2)
  else
    mv_Wp G 158 [.inr (.inr 88), .inl b] (mh l) M1 (mv_qi (mh l) fun x3 M3 =>
    (if x3 = 0 then
      mv_Wp G 133 [.inr (.inr 88), .inl (-1)] (mh l) M3 (mv_qi (mh l) fun x5 M5 =>
      post (some (.inl x5)) (mh l) M5)
    else
      mv_Wp G 184 [.inr (.inr 88), .inl a, .inl b] (mh l) M3 (mv_qi (mh l) fun x4 M4 =>
      post (some (.inl x4)) (mh l) M4)))))) :
    mv_Wp G 186 [.inr (.inr 88), .inl a, .inl b] (mh l) M post := mv_wp [] 37 ok_186 oc_186 rfl h
set_option maxRecDepth 100000 in
theorem vw_X12_goesRound {G : mv_G} {l : Nat} {post : Option mv_V → mv_SH → mv_Mem → Prop} {M : mv_Mem} (h : mv_Run G 187 136 7420 4 [(0, .inr (.inr 88)), (1, .inl 0), (2, .inl 0)] [] (mh l) M post) :
    mv_Wp G 187 [.inr (.inr 88)] (mh l) M post := mv_wp [(4, [0, 1, 2]), (14, [0, 1, 2, 3])] 80 ok_187 oc_187 rfl h
set_option maxRecDepth 100000 in
theorem vr_X12_goesRound_4 {G : mv_G} {l : Nat} {post : Option mv_V → mv_SH → mv_Mem → Prop} {M : mv_Mem} {v1 v2 : Int} (h : (if (M 88 36) ≤ v2 then
    ((v1 : Int) = 0 ∨ (v1 : Int) = 1) ∧ post (some (.inl v1)) (mh l) M
  else
    mv_Run G 187 136 7420 14 [(0, .inr (.inr 88)), (1, .inl v1), (2, .inl v2), (3, .inl 0)] [] (mh l) M post)) :
    mv_Run G 187 136 7420 4 [(0, .inr (.inr 88)), (1, .inl v1), (2, .inl v2)] [] (mh l) M post := mv_run [(4, [0, 1, 2]), (14, [0, 1, 2, 3])] 80 ok_187 h
set_option maxRecDepth 100000 in
theorem vr_X12_goesRound_14 {G : mv_G} {l : Nat} {post : Option mv_V → mv_SH → mv_Mem → Prop} {M : mv_Mem} {v1 v2 v3 : Int} (h : (if (M 88 23) ≤ v3 then
    mv_R32 (v2 + 1) ∧
    mv_Run G 187 136 7420 4 [(0, .inr (.inr 88)), (1, .inl v1), (2, .inl (v2 + 1))] [] (mh l) M post
  else
    mv_R32 (3 * v2) ∧
    mv_R32 ((3 * v2) + v3) ∧
    (0 ≤ ((3 * v2) + v3 : Int) ∧ ((3 * v2) + v3 : Int) < ((18 : Nat) : Int)) ∧
    (if (M 116 (Int.toNat ((3 * v2) + v3))) = 0 then
      mv_R32 (v3 + 1) ∧
      mv_Run G 187 136 7420 14 [(0, .inr (.inr 88)), (1, .inl v1), (2, .inl v2), (3, .inl (v3 + 1))] [] (mh l) M post
    else
      mv_Wp G 184 [.inr (.inr 88), .inl v2, .inl v3] (mh l) M (mv_qi (mh l) fun x1 M1 =>
      (if x1 = (-9) then
        mv_R32 (v3 + 1) ∧
        mv_Run G 187 136 7420 14 [(0, .inr (.inr 88)), (1, .inl v1), (2, .inl v2), (3, .inl (v3 + 1))] [] (mh l) M1 post
      else
        mv_R32 (3 * v2) ∧
        mv_R32 ((3 * v2) + v3) ∧
        (0 ≤ ((3 * v2) + v3 : Int) ∧ ((3 * v2) + v3 : Int) < ((18 : Nat) : Int)) ∧
        (if x1 = (M1 113 (Int.toNat ((3 * v2) + v3))) then
          mv_R32 (v3 + 1) ∧
          mv_Run G 187 136 7420 14 [(0, .inr (.inr 88)), (1, .inl v1), (2, .inl v2), (3, .inl (v3 + 1))] [] (mh l) M1 post
        else
          mv_R32 (3 * v2) ∧
          mv_R32 ((3 * v2) + v3) ∧
          (0 ≤ ((3 * v2) + v3 : Int) ∧ ((3 * v2) + v3 : Int) < ((18 : Nat) : Int)) ∧
          mv_R32 (v3 + 1) ∧
          mv_Run G 187 136 7420 14 [(0, .inr (.inr 88)), (1, .inl 1), (2, .inl v2), (3, .inl (v3 + 1))] [] (mh l) (mv_up M1 113 (Int.toNat ((3 * v2) + v3)) x1) post)))))) :
    mv_Run G 187 136 7420 14 [(0, .inr (.inr 88)), (1, .inl v1), (2, .inl v2), (3, .inl v3)] [] (mh l) M post := mv_run [(4, [0, 1, 2]), (14, [0, 1, 2, 3])] 80 ok_187 h
set_option maxRecDepth 100000 in
theorem vw_X12_rounds {G : mv_G} {l : Nat} {post : Option mv_V → mv_SH → mv_Mem → Prop} {M : mv_Mem} {a : Int} (h : mv_Wp G 136 [.inr (.inl a), .inr (.inl 1), .inr (.inl 20)] (mh l) M (mv_qi (mh l) fun x1 M1 =>
  (if x1 = 0 then
    mv_Run G 188 136 7420 25 [(0, .inr (.inr 88)), (1, .inl a), (3, .inl 0), (4, .inl 1)] [] (mh l) M1 post
  else
    mv_Wp G 133 [.inr (.inr 88), .inl x1] (mh l) M1 (mv_qi (mh l) fun x2 M2 =>
    post (some (.inl x2)) (mh l) M2)))) :
    mv_Wp G 188 [.inr (.inr 88), .inl a] (mh l) M post := mv_wp [(25, [0, 1, 3, 4])] 48 ok_188 oc_188 rfl h
set_option maxRecDepth 100000 in
theorem vr_X12_rounds_25 {G : mv_G} {l : Nat} {post : Option mv_V → mv_SH → mv_Mem → Prop} {M : mv_Mem} {a v3 v4 : Int} (h : (if a ≤ v3 then
    post (some (.inl v3)) (mh l) M
  else
    (if v4 = 0 then
      post (some (.inl v3)) (mh l) M
    else
      mv_Wp G 187 [.inr (.inr 88)] (mh l) M (mv_qi (mh l) fun x1 M1 =>
      mv_R32 (v3 + 1) ∧
      mv_Run G 188 136 7420 25 [(0, .inr (.inr 88)), (1, .inl a), (3, .inl (v3 + 1)), (4, .inl x1)] [] (mh l) M1 post)))) :
    mv_Run G 188 136 7420 25 [(0, .inr (.inr 88)), (1, .inl a), (3, .inl v3), (4, .inl v4)] [] (mh l) M post := mv_run [(25, [0, 1, 3, 4])] 48 ok_188 h
set_option maxRecDepth 100000 in
theorem vw_X12_divisor {G : mv_G} {l : Nat} {post : Option mv_V → mv_SH → mv_Mem → Prop} {M : mv_Mem} {a b : Int} (h : (if 0 ≤ (mv_cmp a 0) then
    (if 0 ≤ (mv_cmp b 0) then
      mv_Run G 189 136 7420 28 [(4, .inr (.inl a)), (6, .inr (.inl b))] [] (mh l) M post
    else
      mv_R64 (-b) ∧
      mv_Run G 189 136 7420 28 [(4, .inr (.inl a)), (6, .inr (.inl (-b)))] [] (mh l) M post)
  else
    mv_R64 (-a) ∧
    (if 0 ≤ (mv_cmp b 0) then
      mv_Run G 189 136 7420 28 [(4, .inr (.inl (-a))), (6, .inr (.inl b))] [] (mh l) M post
    else
      mv_R64 (-b) ∧
      mv_Run G 189 136 7420 28 [(4, .inr (.inl (-a))), (6, .inr (.inl (-b)))] [] (mh l) M post))) :
    mv_Wp G 189 [.inr (.inl a), .inr (.inl b)] (mh l) M post := mv_wp [(28, [4, 6])] 53 ok_189 oc_189 rfl h
set_option maxRecDepth 100000 in
theorem vr_X12_divisor_28 {G : mv_G} {l : Nat} {post : Option mv_V → mv_SH → mv_Mem → Prop} {M : mv_Mem} {v4 v6 : Int} (h : (if (mv_cmp v6 0) = 0 then
    post (some (.inr (.inl v4))) (mh l) M
  else
    ¬ (v6 : Int) = 0 ∧
    mv_Run G 189 136 7420 28 [(4, .inr (.inl v6)), (6, .inr (.inl (Int.tmod v4 v6)))] [] (mh l) M post)) :
    mv_Run G 189 136 7420 28 [(4, .inr (.inl v4)), (6, .inr (.inl v6))] [] (mh l) M post := mv_run [(28, [4, 6])] 53 ok_189 h
set_option maxRecDepth 100000 in
theorem vw_X12_marksAt {G : mv_G} {l : Nat} {post : Option mv_V → mv_SH → mv_Mem → Prop} {M : mv_Mem} {a b : Int} (h : (if (mv_cmp b 0) = 0 then
    post none (mh l) M
  else
    (if (mv_cmp a 0) = 0 then
      post none (mh l) M
    else
      (if 0 ≤ (mv_cmp a 0) then
        (if 0 ≤ (mv_cmp b 0) then
          (if (0 : Int) = 0 then
            mv_Wp G 189 [.inr (.inl a), .inr (.inl b)] (mh l) M (mv_ql (mh l) fun x1 M1 =>
            (if 0 ≤ (mv_cmp a 0) then
              (¬ (x1 : Int) = 0 ∧ mv_R64 (Int.tdiv a x1)) ∧
              (if 0 ≤ (mv_cmp b 0) then
                (¬ (x1 : Int) = 0 ∧ mv_R64 (Int.tdiv b x1)) ∧
                mv_Run G 190 136 7420 82 [(0, .inr (.inr 88)), (7, .inr (.inl (Int.tdiv a x1))), (9, .inr (.inl (Int.tdiv b x1))), (11, .inl 0)] [] (mh l) M1 post
              else
                mv_R64 (-b) ∧
                (¬ (x1 : Int) = 0 ∧ mv_R64 (Int.tdiv (-b) x1)) ∧
                mv_Run G 190 136 7420 82 [(0, .inr (.inr 88)), (7, .inr (.inl (Int.tdiv a x1))), (9, .inr (.inl (Int.tdiv (-b) x1))), (11, .inl 0)] [] (mh l) M1 post)
            else
              mv_R64 (-a) ∧
              (¬ (x1 : Int) = 0 ∧ mv_R64 (Int.tdiv (-a) x1)) ∧
              (if 0 ≤ (mv_cmp b 0) then
                (¬ (x1 : Int) = 0 ∧ mv_R64 (Int.tdiv b x1)) ∧
                mv_Run G 190 136 7420 82 [(0, .inr (.inr 88)), (7, .inr (.inl (Int.tdiv (-a) x1))), (9, .inr (.inl (Int.tdiv b x1))), (11, .inl 0)] [] (mh l) M1 post
              else
                mv_R64 (-b) ∧
                (¬ (x1 : Int) = 0 ∧ mv_R64 (Int.tdiv (-b) x1)) ∧
                mv_Run G 190 136 7420 82 [(0, .inr (.inr 88)), (7, .inr (.inl (Int.tdiv (-a) x1))), (9, .inr (.inl (Int.tdiv (-b) x1))), (11, .inl 0)] [] (mh l) M1 post)))
          else
            post none (mh l) M)
        else
          (if (0 : Int) = 1 then
            mv_Wp G 189 [.inr (.inl a), .inr (.inl b)] (mh l) M (mv_ql (mh l) fun x2 M2 =>
            (if 0 ≤ (mv_cmp a 0) then
              (¬ (x2 : Int) = 0 ∧ mv_R64 (Int.tdiv a x2)) ∧
              (if 0 ≤ (mv_cmp b 0) then
                (¬ (x2 : Int) = 0 ∧ mv_R64 (Int.tdiv b x2)) ∧
                mv_Run G 190 136 7420 82 [(0, .inr (.inr 88)), (7, .inr (.inl (Int.tdiv a x2))), (9, .inr (.inl (Int.tdiv b x2))), (11, .inl 0)] [] (mh l) M2 post
              else
                mv_R64 (-b) ∧
                (¬ (x2 : Int) = 0 ∧ mv_R64 (Int.tdiv (-b) x2)) ∧
                mv_Run G 190 136 7420 82 [(0, .inr (.inr 88)), (7, .inr (.inl (Int.tdiv a x2))), (9, .inr (.inl (Int.tdiv (-b) x2))), (11, .inl 0)] [] (mh l) M2 post)
            else
              mv_R64 (-a) ∧
              (¬ (x2 : Int) = 0 ∧ mv_R64 (Int.tdiv (-a) x2)) ∧
              (if 0 ≤ (mv_cmp b 0) then
                (¬ (x2 : Int) = 0 ∧ mv_R64 (Int.tdiv b x2)) ∧
                mv_Run G 190 136 7420 82 [(0, .inr (.inr 88)), (7, .inr (.inl (Int.tdiv (-a) x2))), (9, .inr (.inl (Int.tdiv b x2))), (11, .inl 0)] [] (mh l) M2 post
              else
                mv_R64 (-b) ∧
                (¬ (x2 : Int) = 0 ∧ mv_R64 (Int.tdiv (-b) x2)) ∧
                mv_Run G 190 136 7420 82 [(0, .inr (.inr 88)), (7, .inr (.inl (Int.tdiv (-a) x2))), (9, .inr (.inl (Int.tdiv (-b) x2))), (11, .inl 0)] [] (mh l) M2 post)))
          else
            post none (mh l) M))
      else
        (if 0 ≤ (mv_cmp b 0) then
          (if (1 : Int) = 0 then
            mv_Wp G 189 [.inr (.inl a), .inr (.inl b)] (mh l) M (mv_ql (mh l) fun x3 M3 =>
            (if 0 ≤ (mv_cmp a 0) then
              (¬ (x3 : Int) = 0 ∧ mv_R64 (Int.tdiv a x3)) ∧
              (if 0 ≤ (mv_cmp b 0) then
                (¬ (x3 : Int) = 0 ∧ mv_R64 (Int.tdiv b x3)) ∧
                mv_Run G 190 136 7420 82 [(0, .inr (.inr 88)), (7, .inr (.inl (Int.tdiv a x3))), (9, .inr (.inl (Int.tdiv b x3))), (11, .inl 0)] [] (mh l) M3 post
              else
                mv_R64 (-b) ∧
                (¬ (x3 : Int) = 0 ∧ mv_R64 (Int.tdiv (-b) x3)) ∧
                mv_Run G 190 136 7420 82 [(0, .inr (.inr 88)), (7, .inr (.inl (Int.tdiv a x3))), (9, .inr (.inl (Int.tdiv (-b) x3))), (11, .inl 0)] [] (mh l) M3 post)
            else
              mv_R64 (-a) ∧
              (¬ (x3 : Int) = 0 ∧ mv_R64 (Int.tdiv (-a) x3)) ∧
              (if 0 ≤ (mv_cmp b 0) then
                (¬ (x3 : Int) = 0 ∧ mv_R64 (Int.tdiv b x3)) ∧
                mv_Run G 190 136 7420 82 [(0, .inr (.inr 88)), (7, .inr (.inl (Int.tdiv (-a) x3))), (9, .inr (.inl (Int.tdiv b x3))), (11, .inl 0)] [] (mh l) M3 post
              else
                mv_R64 (-b) ∧
                (¬ (x3 : Int) = 0 ∧ mv_R64 (Int.tdiv (-b) x3)) ∧
                mv_Run G 190 136 7420 82 [(0, .inr (.inr 88)), (7, .inr (.inl (Int.tdiv (-a) x3))), (9, .inr (.inl (Int.tdiv (-b) x3))), (11, .inl 0)] [] (mh l) M3 post)))
          else
            post none (mh l) M)
        else
          (if (1 : Int) = 1 then
            mv_Wp G 189 [.inr (.inl a), .inr (.inl b)] (mh l) M (mv_ql (mh l) fun x4 M4 =>
            (if 0 ≤ (mv_cmp a 0) then
              (¬ (x4 : Int) = 0 ∧ mv_R64 (Int.tdiv a x4)) ∧
              (if 0 ≤ (mv_cmp b 0) then
                (¬ (x4 : Int) = 0 ∧ mv_R64 (Int.tdiv b x4)) ∧
                mv_Run G 190 136 7420 82 [(0, .inr (.inr 88)), (7, .inr (.inl (Int.tdiv a x4))), (9, .inr (.inl (Int.tdiv b x4))), (11, .inl 0)] [] (mh l) M4 post
              else
                mv_R64 (-b) ∧
                (¬ (x4 : Int) = 0 ∧ mv_R64 (Int.tdiv (-b) x4)) ∧
                mv_Run G 190 136 7420 82 [(0, .inr (.inr 88)), (7, .inr (.inl (Int.tdiv a x4))), (9, .inr (.inl (Int.tdiv (-b) x4))), (11, .inl 0)] [] (mh l) M4 post)
            else
              mv_R64 (-a) ∧
              (¬ (x4 : Int) = 0 ∧ mv_R64 (Int.tdiv (-a) x4)) ∧
              (if 0 ≤ (mv_cmp b 0) then
                (¬ (x4 : Int) = 0 ∧ mv_R64 (Int.tdiv b x4)) ∧
                mv_Run G 190 136 7420 82 [(0, .inr (.inr 88)), (7, .inr (.inl (Int.tdiv (-a) x4))), (9, .inr (.inl (Int.tdiv b x4))), (11, .inl 0)] [] (mh l) M4 post
              else
                mv_R64 (-b) ∧
                (¬ (x4 : Int) = 0 ∧ mv_R64 (Int.tdiv (-b) x4)) ∧
                mv_Run G 190 136 7420 82 [(0, .inr (.inr 88)), (7, .inr (.inl (Int.tdiv (-a) x4))), (9, .inr (.inl (Int.tdiv (-b) x4))), (11, .inl 0)] [] (mh l) M4 post)))
          else
            post none (mh l) M)))))) :
    mv_Wp G 190 [.inr (.inr 88), .inr (.inl a), .inr (.inl b)] (mh l) M post := mv_wp [(82, [0, 7, 9, 11]), (163, [0, 7, 9, 11, 12])] 156 ok_190 oc_190 rfl h
set_option maxRecDepth 100000 in
theorem vr_X12_marksAt_82 {G : mv_G} {l : Nat} {post : Option mv_V → mv_SH → mv_Mem → Prop} {M : mv_Mem} {v7 v9 v11 : Int} (h : (if (M 88 46) ≤ v11 then
    (if (M 88 46) ≤ v11 then
      mv_Run G 190 136 7420 163 [(0, .inr (.inr 88)), (7, .inr (.inl v7)), (9, .inr (.inl v9)), (11, .inl v11), (12, .inl (M 88 46))] [] (mh l) M post
    else
      (0 ≤ (v11 : Int) ∧ (v11 : Int) < ((32 : Nat) : Int)) ∧
      (if (mv_cmp (M 120 (Int.toNat v11)) v7) = 0 then
        (0 ≤ (v11 : Int) ∧ (v11 : Int) < ((32 : Nat) : Int)) ∧
        (if (mv_cmp (M 121 (Int.toNat v11)) v9) = 0 then
          post none (mh l) M
        else
          mv_Run G 190 136 7420 163 [(0, .inr (.inr 88)), (7, .inr (.inl v7)), (9, .inr (.inl v9)), (11, .inl v11), (12, .inl (M 88 46))] [] (mh l) M post)
      else
        mv_Run G 190 136 7420 163 [(0, .inr (.inr 88)), (7, .inr (.inl v7)), (9, .inr (.inl v9)), (11, .inl v11), (12, .inl (M 88 46))] [] (mh l) M post))
  else
    (0 ≤ (v11 : Int) ∧ (v11 : Int) < ((32 : Nat) : Int)) ∧
    mv_R64 ((M 120 (Int.toNat v11)) * v9) ∧
    (0 ≤ (v11 : Int) ∧ (v11 : Int) < ((32 : Nat) : Int)) ∧
    mv_R64 (v7 * (M 121 (Int.toNat v11))) ∧
    (if 0 ≤ (mv_cmp ((M 120 (Int.toNat v11)) * v9) (v7 * (M 121 (Int.toNat v11)))) then
      (if (M 88 46) ≤ v11 then
        mv_Run G 190 136 7420 163 [(0, .inr (.inr 88)), (7, .inr (.inl v7)), (9, .inr (.inl v9)), (11, .inl v11), (12, .inl (M 88 46))] [] (mh l) M post
      else
        (0 ≤ (v11 : Int) ∧ (v11 : Int) < ((32 : Nat) : Int)) ∧
        (if (mv_cmp (M 120 (Int.toNat v11)) v7) = 0 then
          (0 ≤ (v11 : Int) ∧ (v11 : Int) < ((32 : Nat) : Int)) ∧
          (if (mv_cmp (M 121 (Int.toNat v11)) v9) = 0 then
            post none (mh l) M
          else
            mv_Run G 190 136 7420 163 [(0, .inr (.inr 88)), (7, .inr (.inl v7)), (9, .inr (.inl v9)), (11, .inl v11), (12, .inl (M 88 46))] [] (mh l) M post)
        else
          mv_Run G 190 136 7420 163 [(0, .inr (.inr 88)), (7, .inr (.inl v7)), (9, .inr (.inl v9)), (11, .inl v11), (12, .inl (M 88 46))] [] (mh l) M post))
    else
      mv_R32 (v11 + 1) ∧
      mv_Run G 190 136 7420 82 [(0, .inr (.inr 88)), (7, .inr (.inl v7)), (9, .inr (.inl v9)), (11, .inl (v11 + 1))] [] (mh l) M post))) :
    mv_Run G 190 136 7420 82 [(0, .inr (.inr 88)), (7, .inr (.inl v7)), (9, .inr (.inl v9)), (11, .inl v11)] [] (mh l) M post := mv_run [(82, [0, 7, 9, 11]), (163, [0, 7, 9, 11, 12])] 156 ok_190 h
set_option maxRecDepth 100000 in
theorem vr_X12_marksAt_163 {G : mv_G} {l : Nat} {post : Option mv_V → mv_SH → mv_Mem → Prop} {M : mv_Mem} {v7 v9 v11 v12 : Int} (h : (if v12 ≤ v11 then
    (0 ≤ (v11 : Int) ∧ (v11 : Int) < ((32 : Nat) : Int)) ∧
    (0 ≤ (v11 : Int) ∧ (v11 : Int) < ((32 : Nat) : Int)) ∧
    mv_R32 (((mv_up (mv_up M 120 (Int.toNat v11) v7) 121 (Int.toNat v11) v9) 88 46) + 1) ∧
    post none (mh l) (mv_up (mv_up (mv_up M 120 (Int.toNat v11) v7) 121 (Int.toNat v11) v9) 88 46 (((mv_up (mv_up M 120 (Int.toNat v11) v7) 121 (Int.toNat v11) v9) 88 46) + 1))
  else
    mv_R32 (v12 - 1) ∧
    (0 ≤ (v12 - 1 : Int) ∧ (v12 - 1 : Int) < ((32 : Nat) : Int)) ∧
    (0 ≤ (v12 : Int) ∧ (v12 : Int) < ((32 : Nat) : Int)) ∧
    mv_R32 (v12 - 1) ∧
    (0 ≤ (v12 - 1 : Int) ∧ (v12 - 1 : Int) < ((32 : Nat) : Int)) ∧
    (0 ≤ (v12 : Int) ∧ (v12 : Int) < ((32 : Nat) : Int)) ∧
    mv_R32 (v12 + (-1)) ∧
    mv_Run G 190 136 7420 163 [(0, .inr (.inr 88)), (7, .inr (.inl v7)), (9, .inr (.inl v9)), (11, .inl v11), (12, .inl (v12 + (-1)))] [] (mh l) (mv_up (mv_up M 120 (Int.toNat v12) (M 120 (Int.toNat (v12 - 1)))) 121 (Int.toNat v12) ((mv_up M 120 (Int.toNat v12) (M 120 (Int.toNat (v12 - 1)))) 121 (Int.toNat (v12 - 1)))) post)) :
    mv_Run G 190 136 7420 163 [(0, .inr (.inr 88)), (7, .inr (.inl v7)), (9, .inr (.inl v9)), (11, .inl v11), (12, .inl v12)] [] (mh l) M post := mv_run [(82, [0, 7, 9, 11]), (163, [0, 7, 9, 11, 12])] 156 ok_190 h
set_option maxRecDepth 100000 in
theorem vw_X12_isRinged {G : mv_G} {l : Nat} {post : Option mv_V → mv_SH → mv_Mem → Prop} {M : mv_Mem} {a : Int} (h : (0 ≤ (a : Int) ∧ (a : Int) < ((6 : Nat) : Int)) ∧
  (if (M 105 (Int.toNat a)) = 5 then
    ((0 : Int) = 0 ∨ (0 : Int) = 1) ∧ post (some (.inl 0)) (mh l) M
  else
    (0 ≤ (a : Int) ∧ (a : Int) < ((6 : Nat) : Int)) ∧
    (if (M 105 (Int.toNat a)) = 4 then
      ((0 : Int) = 0 ∨ (0 : Int) = 1) ∧ post (some (.inl 0)) (mh l) M
    else
      ((1 : Int) = 0 ∨ (1 : Int) = 1) ∧ post (some (.inl 1)) (mh l) M))) :
    mv_Wp G 191 [.inr (.inr 88), .inl a] (mh l) M post := mv_wp [] 36 ok_191 oc_191 rfl h
set_option maxRecDepth 100000 in
theorem vw_X12_slope {G : mv_G} {l : Nat} {post : Option mv_V → mv_SH → mv_Mem → Prop} {M : mv_Mem} {a b : Int} (h : mv_Wp G 167 [.inr (.inr 88), .inl a] (mh l) M (mv_qi (mh l) fun x1 M1 =>
  mv_Wp G 165 [.inr (.inr 88), .inl a, .inl b] (mh l) M1 (mv_qi (mh l) fun x2 M2 =>
  mv_R64 (x1 * x2) ∧
  post (some (.inr (.inl (x1 * x2)))) (mh l) M2))) :
    mv_Wp G 192 [.inr (.inr 88), .inl a, .inl b] (mh l) M post := mv_wp [] 31 ok_192 oc_192 rfl h
set_option maxRecDepth 100000 in
theorem vw_X12_findMarks {G : mv_G} {l : Nat} {post : Option mv_V → mv_SH → mv_Mem → Prop} {M : mv_Mem} {a : Int} (h : mv_Wp G 190 [.inr (.inr 88), .inr (.inl 60), .inr (.inl 1)] (mh l) (mv_up M 88 46 0) (mv_qv (mh l) fun M1 =>
  mv_Run G 193 136 7420 15 [(0, .inr (.inr 88)), (1, .inl a), (2, .inl 0)] [] (mh l) M1 post)) :
    mv_Wp G 193 [.inr (.inr 88), .inl a] (mh l) M post := mv_wp [(15, [0, 1, 2]), (53, [0, 1, 2, 3])] 85 ok_193 oc_193 rfl h
set_option maxRecDepth 100000 in
theorem vr_X12_findMarks_15 {G : mv_G} {l : Nat} {post : Option mv_V → mv_SH → mv_Mem → Prop} {M : mv_Mem} {a v2 : Int} (h : (if (M 88 36) ≤ v2 then
    post none (mh l) M
  else
    mv_Wp G 191 [.inr (.inr 88), .inl v2] (mh l) M (mv_qi (mh l) fun x1 M1 =>
    (if x1 = 0 then
      mv_R32 (v2 + 1) ∧
      mv_Run G 193 136 7420 15 [(0, .inr (.inr 88)), (1, .inl a), (2, .inl (v2 + 1))] [] (mh l) M1 post
    else
      mv_Wp G 168 [.inr (.inr 88), .inl v2, .inl a, .inl 0] (mh l) M1 (mv_ql (mh l) fun x2 M2 =>
      mv_Wp G 192 [.inr (.inr 88), .inl v2, .inl a] (mh l) M2 (mv_ql (mh l) fun x3 M3 =>
      mv_Wp G 190 [.inr (.inr 88), .inr (.inl x2), .inr (.inl x3)] (mh l) M3 (mv_qv (mh l) fun M4 =>
      mv_Run G 193 136 7420 53 [(0, .inr (.inr 88)), (1, .inl a), (2, .inl v2), (3, .inl 0)] [] (mh l) M4 post))))))) :
    mv_Run G 193 136 7420 15 [(0, .inr (.inr 88)), (1, .inl a), (2, .inl v2)] [] (mh l) M post := mv_run [(15, [0, 1, 2]), (53, [0, 1, 2, 3])] 85 ok_193 h
set_option maxRecDepth 100000 in
theorem vr_X12_findMarks_53 {G : mv_G} {l : Nat} {post : Option mv_V → mv_SH → mv_Mem → Prop} {M : mv_Mem} {a v2 v3 : Int} (h : (if v2 ≤ v3 then
    mv_R32 (v2 + 1) ∧
    mv_Run G 193 136 7420 15 [(0, .inr (.inr 88)), (1, .inl a), (2, .inl (v2 + 1))] [] (mh l) M post
  else
    mv_Wp G 191 [.inr (.inr 88), .inl v3] (mh l) M (mv_qi (mh l) fun x1 M1 =>
    (if x1 = 0 then
      mv_R32 (v3 + 1) ∧
      mv_Run G 193 136 7420 53 [(0, .inr (.inr 88)), (1, .inl a), (2, .inl v2), (3, .inl (v3 + 1))] [] (mh l) M1 post
    else
      mv_Wp G 168 [.inr (.inr 88), .inl v2, .inl a, .inl 0] (mh l) M1 (mv_ql (mh l) fun x2 M2 =>
      mv_Wp G 168 [.inr (.inr 88), .inl v3, .inl a, .inl 0] (mh l) M2 (mv_ql (mh l) fun x3 M3 =>
      mv_R64 (x2 - x3) ∧
      mv_Wp G 192 [.inr (.inr 88), .inl v2, .inl a] (mh l) M3 (mv_ql (mh l) fun x4 M4 =>
      mv_Wp G 192 [.inr (.inr 88), .inl v3, .inl a] (mh l) M4 (mv_ql (mh l) fun x5 M5 =>
      mv_R64 (x4 - x5) ∧
      mv_Wp G 190 [.inr (.inr 88), .inr (.inl (x2 - x3)), .inr (.inl (x4 - x5))] (mh l) M5 (mv_qv (mh l) fun M6 =>
      mv_R32 (v3 + 1) ∧
      mv_Run G 193 136 7420 53 [(0, .inr (.inr 88)), (1, .inl a), (2, .inl v2), (3, .inl (v3 + 1))] [] (mh l) M6 post))))))))) :
    mv_Run G 193 136 7420 53 [(0, .inr (.inr 88)), (1, .inl a), (2, .inl v2), (3, .inl v3)] [] (mh l) M post := mv_run [(15, [0, 1, 2]), (53, [0, 1, 2, 3])] 85 ok_193 h
set_option maxRecDepth 100000 in
theorem vw_X12_useAt {G : mv_G} {l : Nat} {post : Option mv_V → mv_SH → mv_Mem → Prop} {M : mv_Mem} {a b c : Int} (h : mv_Run G 194 136 7420 7 [(0, .inr (.inr 88)), (1, .inl a), (2, .inr (.inl b)), (4, .inr (.inl c)), (6, .inl (-9)), (7, .inl 0)] [] (mh l) M post) :
    mv_Wp G 194 [.inr (.inr 88), .inl a, .inr (.inl b), .inr (.inl c)] (mh l) M post := mv_wp [(7, [0, 1, 2, 4, 6, 7])] 95 ok_194 oc_194 rfl h
set_option maxRecDepth 100000 in
theorem vr_X12_useAt_7 {G : mv_G} {l : Nat} {post : Option mv_V → mv_SH → mv_Mem → Prop} {M : mv_Mem} {a b c v6 v7 : Int} (h : (if (M 88 36) ≤ v7 then
    post (some (.inl v6)) (mh l) M
  else
    mv_Wp G 191 [.inr (.inr 88), .inl v7] (mh l) M (mv_qi (mh l) fun x1 M1 =>
    (if x1 = 0 then
      mv_R32 (v7 + 1) ∧
      mv_Run G 194 136 7420 7 [(0, .inr (.inr 88)), (1, .inl a), (2, .inr (.inl b)), (4, .inr (.inl c)), (6, .inl v6), (7, .inl (v7 + 1))] [] (mh l) M1 post
    else
      (0 ≤ (v7 : Int) ∧ (v7 : Int) < ((6 : Nat) : Int)) ∧
      (if (M1 105 (Int.toNat v7)) = 2 then
        mv_R64 (60 * c) ∧
        (if 0 < (mv_cmp b (60 * c)) then
          mv_R32 (v7 + 1) ∧
          mv_Run G 194 136 7420 7 [(0, .inr (.inr 88)), (1, .inl a), (2, .inr (.inl b)), (4, .inr (.inl c)), (6, .inl v6), (7, .inl (v7 + 1))] [] (mh l) M1 post
        else
          mv_Wp G 168 [.inr (.inr 88), .inl v7, .inl a, .inl 0] (mh l) M1 (mv_ql (mh l) fun x8 M8 =>
          mv_R64 (x8 * c) ∧
          mv_Wp G 192 [.inr (.inr 88), .inl v7, .inl a] (mh l) M8 (mv_ql (mh l) fun x9 M9 =>
          mv_R64 (x9 * b) ∧
          (if 0 < (mv_cmp (x8 * c) (x9 * b)) then
            (if v6 = (-9) then
              mv_R32 (v7 + 1) ∧
              mv_Run G 194 136 7420 7 [(0, .inr (.inr 88)), (1, .inl a), (2, .inr (.inl b)), (4, .inr (.inl c)), (6, .inl v7), (7, .inl (v7 + 1))] [] (mh l) M9 post
            else
              mv_Wp G 168 [.inr (.inr 88), .inl v7, .inl a, .inl 0] (mh l) M9 (mv_ql (mh l) fun x10 M10 =>
              mv_Wp G 168 [.inr (.inr 88), .inl v6, .inl a, .inl 0] (mh l) M10 (mv_ql (mh l) fun x11 M11 =>
              mv_R64 (x10 - x11) ∧
              mv_R64 ((x10 - x11) * c) ∧
              mv_Wp G 192 [.inr (.inr 88), .inl v7, .inl a] (mh l) M11 (mv_ql (mh l) fun x12 M12 =>
              mv_Wp G 192 [.inr (.inr 88), .inl v6, .inl a] (mh l) M12 (mv_ql (mh l) fun x13 M13 =>
              mv_R64 (x12 - x13) ∧
              mv_R64 ((x12 - x13) * b) ∧
              (if (mv_cmp ((x10 - x11) * c) ((x12 - x13) * b)) ≤ 0 then
                mv_R32 (v7 + 1) ∧
                mv_Run G 194 136 7420 7 [(0, .inr (.inr 88)), (1, .inl a), (2, .inr (.inl b)), (4, .inr (.inl c)), (6, .inl v6), (7, .inl (v7 + 1))] [] (mh l) M13 post
              else
                mv_R32 (v7 + 1) ∧
                mv_Run G 194 136 7420 7 [(0, .inr (.inr 88)), (1, .inl a), (2, .inr (.inl b)), (4, .inr (.inl c)), (6, .inl v7), (7, .inl (v7 + 1))] [] (mh l) M13 post))))))
          else
            mv_R32 (v7 + 1) ∧
            mv_Run G 194 136 7420 7 [(0, .inr (.inr 88)), (1, .inl a), (2, .inr (.inl b)), (4, .inr (.inl c)), (6, .inl v6), (7, .inl (v7 + 1))] [] (mh l) M9 post))))
      else
        mv_Wp G 168 [.inr (.inr 88), .inl v7, .inl a, .inl 0] (mh l) M1 (mv_ql (mh l) fun x2 M2 =>
        mv_R64 (x2 * c) ∧
        mv_Wp G 192 [.inr (.inr 88), .inl v7, .inl a] (mh l) M2 (mv_ql (mh l) fun x3 M3 =>
        mv_R64 (x3 * b) ∧
        (if 0 < (mv_cmp (x2 * c) (x3 * b)) then
          (if v6 = (-9) then
            mv_R32 (v7 + 1) ∧
            mv_Run G 194 136 7420 7 [(0, .inr (.inr 88)), (1, .inl a), (2, .inr (.inl b)), (4, .inr (.inl c)), (6, .inl v7), (7, .inl (v7 + 1))] [] (mh l) M3 post
          else
            mv_Wp G 168 [.inr (.inr 88), .inl v7, .inl a, .inl 0] (mh l) M3 (mv_ql (mh l) fun x4 M4 =>
            mv_Wp G 168 [.inr (.inr 88), .inl v6, .inl a, .inl 0] (mh l) M4 (mv_ql (mh l) fun x5 M5 =>
            mv_R64 (x4 - x5) ∧
            mv_R64 ((x4 - x5) * c) ∧
            mv_Wp G 192 [.inr (.inr 88), .inl v7, .inl a] (mh l) M5 (mv_ql (mh l) fun x6 M6 =>
            mv_Wp G 192 [.inr (.inr 88), .inl v6, .inl a] (mh l) M6 (mv_ql (mh l) fun x7 M7 =>
            mv_R64 (x6 - x7) ∧
            mv_R64 ((x6 - x7) * b) ∧
            (if (mv_cmp ((x4 - x5) * c) ((x6 - x7) * b)) ≤ 0 then
              mv_R32 (v7 + 1) ∧
              mv_Run G 194 136 7420 7 [(0, .inr (.inr 88)), (1, .inl a), (2, .inr (.inl b)), (4, .inr (.inl c)), (6, .inl v6), (7, .inl (v7 + 1))] [] (mh l) M7 post
            else
              mv_R32 (v7 + 1) ∧
              mv_Run G 194 136 7420 7 [(0, .inr (.inr 88)), (1, .inl a), (2, .inr (.inl b)), (4, .inr (.inl c)), (6, .inl v7), (7, .inl (v7 + 1))] [] (mh l) M7 post))))))
        else
          mv_R32 (v7 + 1) ∧
          mv_Run G 194 136 7420 7 [(0, .inr (.inr 88)), (1, .inl a), (2, .inr (.inl b)), (4, .inr (.inl c)), (6, .inl v6), (7, .inl (v7 + 1))] [] (mh l) M3 post)))))))) :
    mv_Run G 194 136 7420 7 [(0, .inr (.inr 88)), (1, .inl a), (2, .inr (.inl b)), (4, .inr (.inl c)), (6, .inl v6), (7, .inl v7)] [] (mh l) M post := mv_run [(7, [0, 1, 2, 4, 6, 7])] 95 ok_194 h
set_option maxRecDepth 100000 in
theorem vw_X12_findRings {G : mv_G} {l : Nat} {post : Option mv_V → mv_SH → mv_Mem → Prop} {M : mv_Mem} {a : Int} (h : mv_Wp G 193 [.inr (.inr 88), .inl a] (mh l) M (mv_qv (mh l) fun M1 =>
  mv_Run G 195 136 7420 15 [(0, .inr (.inr 88)), (1, .inl a), (2, .inl (-9)), (3, .inl 0)] [] (mh l) (mv_up M1 88 47 0) post)) :
    mv_Wp G 195 [.inr (.inr 88), .inl a] (mh l) M post := mv_wp [(15, [0, 1, 2, 3]), (41, [0, 1, 2, 3, 4]), (59, [0, 1, 2, 3, 4, 6]), (96, [0, 1, 2, 3, 6, 8]), (124, [0, 1, 2, 3, 8, 10])] 167 ok_195 oc_195 rfl h
set_option maxRecDepth 100000 in
theorem vr_X12_findRings_15 {G : mv_G} {l : Nat} {post : Option mv_V → mv_SH → mv_Mem → Prop} {M : mv_Mem} {a v2 v3 : Int} (h : (if (M 88 46) < v3 then
    post none (mh l) M
  else
    (if v3 = 0 then
      mv_Run G 195 136 7420 41 [(0, .inr (.inr 88)), (1, .inl a), (2, .inl v2), (3, .inl v3), (4, .inr (.inl 0))] [] (mh l) M post
    else
      mv_R32 (v3 - 1) ∧
      (0 ≤ (v3 - 1 : Int) ∧ (v3 - 1 : Int) < ((32 : Nat) : Int)) ∧
      mv_Run G 195 136 7420 41 [(0, .inr (.inr 88)), (1, .inl a), (2, .inl v2), (3, .inl v3), (4, .inr (.inl (M 120 (Int.toNat (v3 - 1)))))] [] (mh l) M post))) :
    mv_Run G 195 136 7420 15 [(0, .inr (.inr 88)), (1, .inl a), (2, .inl v2), (3, .inl v3)] [] (mh l) M post := mv_run [(15, [0, 1, 2, 3]), (41, [0, 1, 2, 3, 4]), (59, [0, 1, 2, 3, 4, 6]), (96, [0, 1, 2, 3, 6, 8]), (124, [0, 1, 2, 3, 8, 10])] 167 ok_195 h
set_option maxRecDepth 100000 in
theorem vr_X12_findRings_41 {G : mv_G} {l : Nat} {post : Option mv_V → mv_SH → mv_Mem → Prop} {M : mv_Mem} {a v2 v3 v4 : Int} (h : (if v3 = 0 then
    mv_Run G 195 136 7420 59 [(0, .inr (.inr 88)), (1, .inl a), (2, .inl v2), (3, .inl v3), (4, .inr (.inl v4)), (6, .inr (.inl 1))] [] (mh l) M post
  else
    mv_R32 (v3 - 1) ∧
    (0 ≤ (v3 - 1 : Int) ∧ (v3 - 1 : Int) < ((32 : Nat) : Int)) ∧
    mv_Run G 195 136 7420 59 [(0, .inr (.inr 88)), (1, .inl a), (2, .inl v2), (3, .inl v3), (4, .inr (.inl v4)), (6, .inr (.inl (M 121 (Int.toNat (v3 - 1)))))] [] (mh l) M post)) :
    mv_Run G 195 136 7420 41 [(0, .inr (.inr 88)), (1, .inl a), (2, .inl v2), (3, .inl v3), (4, .inr (.inl v4))] [] (mh l) M post := mv_run [(15, [0, 1, 2, 3]), (41, [0, 1, 2, 3, 4]), (59, [0, 1, 2, 3, 4, 6]), (96, [0, 1, 2, 3, 6, 8]), (124, [0, 1, 2, 3, 8, 10])] 167 ok_195 h
set_option maxRecDepth 100000 in
theorem vr_X12_findRings_59 {G : mv_G} {l : Nat} {post : Option mv_V → mv_SH → mv_Mem → Prop} {M : mv_Mem} {a v2 v3 v4 v6 : Int} (h : (if v3 = (M 88 46) then
    mv_R64 (v4 + v6) ∧
    mv_Run G 195 136 7420 96 [(0, .inr (.inr 88)), (1, .inl a), (2, .inl v2), (3, .inl v3), (6, .inr (.inl v6)), (8, .inr (.inl (v4 + v6)))] [] (mh l) M post
  else
    (0 ≤ (v3 : Int) ∧ (v3 : Int) < ((32 : Nat) : Int)) ∧
    mv_R64 (v4 * (M 121 (Int.toNat v3))) ∧
    (0 ≤ (v3 : Int) ∧ (v3 : Int) < ((32 : Nat) : Int)) ∧
    mv_R64 ((M 120 (Int.toNat v3)) * v6) ∧
    mv_R64 ((v4 * (M 121 (Int.toNat v3))) + ((M 120 (Int.toNat v3)) * v6)) ∧
    mv_Run G 195 136 7420 96 [(0, .inr (.inr 88)), (1, .inl a), (2, .inl v2), (3, .inl v3), (6, .inr (.inl v6)), (8, .inr (.inl ((v4 * (M 121 (Int.toNat v3))) + ((M 120 (Int.toNat v3)) * v6))))] [] (mh l) M post)) :
    mv_Run G 195 136 7420 59 [(0, .inr (.inr 88)), (1, .inl a), (2, .inl v2), (3, .inl v3), (4, .inr (.inl v4)), (6, .inr (.inl v6))] [] (mh l) M post := mv_run [(15, [0, 1, 2, 3]), (41, [0, 1, 2, 3, 4]), (59, [0, 1, 2, 3, 4, 6]), (96, [0, 1, 2, 3, 6, 8]), (124, [0, 1, 2, 3, 8, 10])] 167 ok_195 h
set_option maxRecDepth 100000 in
theorem vr_X12_findRings_96 {G : mv_G} {l : Nat} {post : Option mv_V → mv_SH → mv_Mem → Prop} {M : mv_Mem} {a v2 v3 v6 v8 : Int} (h : (if v3 = (M 88 46) then
    mv_Run G 195 136 7420 124 [(0, .inr (.inr 88)), (1, .inl a), (2, .inl v2), (3, .inl v3), (8, .inr (.inl v8)), (10, .inr (.inl v6))] [] (mh l) M post
  else
    mv_R64 (2 * v6) ∧
    (0 ≤ (v3 : Int) ∧ (v3 : Int) < ((32 : Nat) : Int)) ∧
    mv_R64 ((2 * v6) * (M 121 (Int.toNat v3))) ∧
    mv_Run G 195 136 7420 124 [(0, .inr (.inr 88)), (1, .inl a), (2, .inl v2), (3, .inl v3), (8, .inr (.inl v8)), (10, .inr (.inl ((2 * v6) * (M 121 (Int.toNat v3)))))] [] (mh l) M post)) :
    mv_Run G 195 136 7420 96 [(0, .inr (.inr 88)), (1, .inl a), (2, .inl v2), (3, .inl v3), (6, .inr (.inl v6)), (8, .inr (.inl v8))] [] (mh l) M post := mv_run [(15, [0, 1, 2, 3]), (41, [0, 1, 2, 3, 4]), (59, [0, 1, 2, 3, 4, 6]), (96, [0, 1, 2, 3, 6, 8]), (124, [0, 1, 2, 3, 8, 10])] 167 ok_195 h
set_option maxRecDepth 100000 in
theorem vr_X12_findRings_124 {G : mv_G} {l : Nat} {post : Option mv_V → mv_SH → mv_Mem → Prop} {M : mv_Mem} {a v2 v3 v8 v10 : Int} (h : mv_Wp G 189 [.inr (.inl v8), .inr (.inl v10)] (mh l) M (mv_ql (mh l) fun x1 M1 =>
  (¬ (x1 : Int) = 0 ∧ mv_R64 (Int.tdiv v8 x1)) ∧
  (¬ (x1 : Int) = 0 ∧ mv_R64 (Int.tdiv v10 x1)) ∧
  mv_Wp G 194 [.inr (.inr 88), .inl a, .inr (.inl (Int.tdiv v8 x1)), .inr (.inl (Int.tdiv v10 x1))] (mh l) M1 (mv_qi (mh l) fun x2 M2 =>
  (if x2 = (-9) then
    (if x2 = (-9) then
      mv_R32 (v3 + 1) ∧
      mv_Run G 195 136 7420 15 [(0, .inr (.inr 88)), (1, .inl a), (2, .inl x2), (3, .inl (v3 + 1))] [] (mh l) M2 post
    else
      mv_R32 ((M2 88 47) - 1) ∧
      (if v3 = (M2 88 46) then
        (0 ≤ ((M2 88 47) - 1 : Int) ∧ ((M2 88 47) - 1 : Int) < ((32 : Nat) : Int)) ∧
        mv_R32 (((mv_up M2 122 (Int.toNat ((M2 88 47) - 1)) (-9)) 88 47) - 1) ∧
        (if v3 = ((mv_up M2 122 (Int.toNat ((M2 88 47) - 1)) (-9)) 88 46) then
          (0 ≤ (((mv_up M2 122 (Int.toNat ((M2 88 47) - 1)) (-9)) 88 47) - 1 : Int) ∧ (((mv_up M2 122 (Int.toNat ((M2 88 47) - 1)) (-9)) 88 47) - 1 : Int) < ((32 : Nat) : Int)) ∧
          mv_R32 (v3 + 1) ∧
          mv_Run G 195 136 7420 15 [(0, .inr (.inr 88)), (1, .inl a), (2, .inl x2), (3, .inl (v3 + 1))] [] (mh l) (mv_up (mv_up M2 122 (Int.toNat ((M2 88 47) - 1)) (-9)) 123 (Int.toNat (((mv_up M2 122 (Int.toNat ((M2 88 47) - 1)) (-9)) 88 47) - 1)) 1) post
        else
          (0 ≤ (v3 : Int) ∧ (v3 : Int) < ((32 : Nat) : Int)) ∧
          (0 ≤ (((mv_up M2 122 (Int.toNat ((M2 88 47) - 1)) (-9)) 88 47) - 1 : Int) ∧ (((mv_up M2 122 (Int.toNat ((M2 88 47) - 1)) (-9)) 88 47) - 1 : Int) < ((32 : Nat) : Int)) ∧
          mv_R32 (v3 + 1) ∧
          mv_Run G 195 136 7420 15 [(0, .inr (.inr 88)), (1, .inl a), (2, .inl x2), (3, .inl (v3 + 1))] [] (mh l) (mv_up (mv_up M2 122 (Int.toNat ((M2 88 47) - 1)) (-9)) 123 (Int.toNat (((mv_up M2 122 (Int.toNat ((M2 88 47) - 1)) (-9)) 88 47) - 1)) ((mv_up M2 122 (Int.toNat ((M2 88 47) - 1)) (-9)) 121 (Int.toNat v3))) post)
      else
        (0 ≤ (v3 : Int) ∧ (v3 : Int) < ((32 : Nat) : Int)) ∧
        (0 ≤ ((M2 88 47) - 1 : Int) ∧ ((M2 88 47) - 1 : Int) < ((32 : Nat) : Int)) ∧
        mv_R32 (((mv_up M2 122 (Int.toNat ((M2 88 47) - 1)) (M2 120 (Int.toNat v3))) 88 47) - 1) ∧
        (if v3 = ((mv_up M2 122 (Int.toNat ((M2 88 47) - 1)) (M2 120 (Int.toNat v3))) 88 46) then
          (0 ≤ (((mv_up M2 122 (Int.toNat ((M2 88 47) - 1)) (M2 120 (Int.toNat v3))) 88 47) - 1 : Int) ∧ (((mv_up M2 122 (Int.toNat ((M2 88 47) - 1)) (M2 120 (Int.toNat v3))) 88 47) - 1 : Int) < ((32 : Nat) : Int)) ∧
          mv_R32 (v3 + 1) ∧
          mv_Run G 195 136 7420 15 [(0, .inr (.inr 88)), (1, .inl a), (2, .inl x2), (3, .inl (v3 + 1))] [] (mh l) (mv_up (mv_up M2 122 (Int.toNat ((M2 88 47) - 1)) (M2 120 (Int.toNat v3))) 123 (Int.toNat (((mv_up M2 122 (Int.toNat ((M2 88 47) - 1)) (M2 120 (Int.toNat v3))) 88 47) - 1)) 1) post
        else
          (0 ≤ (v3 : Int) ∧ (v3 : Int) < ((32 : Nat) : Int)) ∧
          (0 ≤ (((mv_up M2 122 (Int.toNat ((M2 88 47) - 1)) (M2 120 (Int.toNat v3))) 88 47) - 1 : Int) ∧ (((mv_up M2 122 (Int.toNat ((M2 88 47) - 1)) (M2 120 (Int.toNat v3))) 88 47) - 1 : Int) < ((32 : Nat) : Int)) ∧
          mv_R32 (v3 + 1) ∧
          mv_Run G 195 136 7420 15 [(0, .inr (.inr 88)), (1, .inl a), (2, .inl x2), (3, .inl (v3 + 1))] [] (mh l) (mv_up (mv_up M2 122 (Int.toNat ((M2 88 47) - 1)) (M2 120 (Int.toNat v3))) 123 (Int.toNat (((mv_up M2 122 (Int.toNat ((M2 88 47) - 1)) (M2 120 (Int.toNat v3))) 88 47) - 1)) ((mv_up M2 122 (Int.toNat ((M2 88 47) - 1)) (M2 120 (Int.toNat v3))) 121 (Int.toNat v3))) post)))
  else
    (if x2 = v2 then
      (if x2 = (-9) then
        mv_R32 (v3 + 1) ∧
        mv_Run G 195 136 7420 15 [(0, .inr (.inr 88)), (1, .inl a), (2, .inl x2), (3, .inl (v3 + 1))] [] (mh l) M2 post
      else
        mv_R32 ((M2 88 47) - 1) ∧
        (if v3 = (M2 88 46) then
          (0 ≤ ((M2 88 47) - 1 : Int) ∧ ((M2 88 47) - 1 : Int) < ((32 : Nat) : Int)) ∧
          mv_R32 (((mv_up M2 122 (Int.toNat ((M2 88 47) - 1)) (-9)) 88 47) - 1) ∧
          (if v3 = ((mv_up M2 122 (Int.toNat ((M2 88 47) - 1)) (-9)) 88 46) then
            (0 ≤ (((mv_up M2 122 (Int.toNat ((M2 88 47) - 1)) (-9)) 88 47) - 1 : Int) ∧ (((mv_up M2 122 (Int.toNat ((M2 88 47) - 1)) (-9)) 88 47) - 1 : Int) < ((32 : Nat) : Int)) ∧
            mv_R32 (v3 + 1) ∧
            mv_Run G 195 136 7420 15 [(0, .inr (.inr 88)), (1, .inl a), (2, .inl x2), (3, .inl (v3 + 1))] [] (mh l) (mv_up (mv_up M2 122 (Int.toNat ((M2 88 47) - 1)) (-9)) 123 (Int.toNat (((mv_up M2 122 (Int.toNat ((M2 88 47) - 1)) (-9)) 88 47) - 1)) 1) post
          else
            (0 ≤ (v3 : Int) ∧ (v3 : Int) < ((32 : Nat) : Int)) ∧
            (0 ≤ (((mv_up M2 122 (Int.toNat ((M2 88 47) - 1)) (-9)) 88 47) - 1 : Int) ∧ (((mv_up M2 122 (Int.toNat ((M2 88 47) - 1)) (-9)) 88 47) - 1 : Int) < ((32 : Nat) : Int)) ∧
            mv_R32 (v3 + 1) ∧
            mv_Run G 195 136 7420 15 [(0, .inr (.inr 88)), (1, .inl a), (2, .inl x2), (3, .inl (v3 + 1))] [] (mh l) (mv_up (mv_up M2 122 (Int.toNat ((M2 88 47) - 1)) (-9)) 123 (Int.toNat (((mv_up M2 122 (Int.toNat ((M2 88 47) - 1)) (-9)) 88 47) - 1)) ((mv_up M2 122 (Int.toNat ((M2 88 47) - 1)) (-9)) 121 (Int.toNat v3))) post)
        else
          (0 ≤ (v3 : Int) ∧ (v3 : Int) < ((32 : Nat) : Int)) ∧
          (0 ≤ ((M2 88 47) - 1 : Int) ∧ ((M2 88 47) - 1 : Int) < ((32 : Nat) : Int)) ∧
          mv_R32 (((mv_up M2 122 (Int.toNat ((M2 88 47) - 1)) (M2 120 (Int.toNat v3))) 88 47) - 1) ∧
          (if v3 = ((mv_up M2 122 (Int.toNat ((M2 88 47) - 1)) (M2 120 (Int.toNat v3))) 88 46) then
            (0 ≤ (((mv_up M2 122 (Int.toNat ((M2 88 47) - 1)) (M2 120 (Int.toNat v3))) 88 47) - 1 : Int) ∧ (((mv_up M2 122 (Int.toNat ((M2 88 47) - 1)) (M2 120 (Int.toNat v3))) 88 47) - 1 : Int) < ((32 : Nat) : Int)) ∧
            mv_R32 (v3 + 1) ∧
            mv_Run G 195 136 7420 15 [(0, .inr (.inr 88)), (1, .inl a), (2, .inl x2), (3, .inl (v3 + 1))] [] (mh l) (mv_up (mv_up M2 122 (Int.toNat ((M2 88 47) - 1)) (M2 120 (Int.toNat v3))) 123 (Int.toNat (((mv_up M2 122 (Int.toNat ((M2 88 47) - 1)) (M2 120 (Int.toNat v3))) 88 47) - 1)) 1) post
          else
            (0 ≤ (v3 : Int) ∧ (v3 : Int) < ((32 : Nat) : Int)) ∧
            (0 ≤ (((mv_up M2 122 (Int.toNat ((M2 88 47) - 1)) (M2 120 (Int.toNat v3))) 88 47) - 1 : Int) ∧ (((mv_up M2 122 (Int.toNat ((M2 88 47) - 1)) (M2 120 (Int.toNat v3))) 88 47) - 1 : Int) < ((32 : Nat) : Int)) ∧
            mv_R32 (v3 + 1) ∧
            mv_Run G 195 136 7420 15 [(0, .inr (.inr 88)), (1, .inl a), (2, .inl x2), (3, .inl (v3 + 1))] [] (mh l) (mv_up (mv_up M2 122 (Int.toNat ((M2 88 47) - 1)) (M2 120 (Int.toNat v3))) 123 (Int.toNat (((mv_up M2 122 (Int.toNat ((M2 88 47) - 1)) (M2 120 (Int.toNat v3))) 88 47) - 1)) ((mv_up M2 122 (Int.toNat ((M2 88 47) - 1)) (M2 120 (Int.toNat v3))) 121 (Int.toNat v3))) post)))
    else
      (0 ≤ (M2 88 47 : Int) ∧ (M2 88 47 : Int) < ((32 : Nat) : Int)) ∧
      mv_R32 (((mv_up M2 124 (Int.toNat (M2 88 47)) x2) 88 47) + 1) ∧
      (if x2 = (-9) then
        mv_R32 (v3 + 1) ∧
        mv_Run G 195 136 7420 15 [(0, .inr (.inr 88)), (1, .inl a), (2, .inl x2), (3, .inl (v3 + 1))] [] (mh l) (mv_up (mv_up M2 124 (Int.toNat (M2 88 47)) x2) 88 47 (((mv_up M2 124 (Int.toNat (M2 88 47)) x2) 88 47) + 1)) post
      else
        mv_R32 (((mv_up (mv_up M2 124 (Int.toNat (M2 88 47)) x2) 88 47 (((mv_up M2 124 (Int.toNat (M2 88 47)) x2) 88 47) + 1)) 88 47) - 1) ∧
        (if v3 = ((mv_up (mv_up M2 124 (Int.toNat (M2 88 47)) x2) 88 47 (((mv_up M2 124 (Int.toNat (M2 88 47)) x2) 88 47) + 1)) 88 46) then
          (0 ≤ (((mv_up (mv_up M2 124 (Int.toNat (M2 88 47)) x2) 88 47 (((mv_up M2 124 (Int.toNat (M2 88 47)) x2) 88 47) + 1)) 88 47) - 1 : Int) ∧ (((mv_up (mv_up M2 124 (Int.toNat (M2 88 47)) x2) 88 47 (((mv_up M2 124 (Int.toNat (M2 88 47)) x2) 88 47) + 1)) 88 47) - 1 : Int) < ((32 : Nat) : Int)) ∧
          mv_R32 (((mv_up (mv_up (mv_up M2 124 (Int.toNat (M2 88 47)) x2) 88 47 (((mv_up M2 124 (Int.toNat (M2 88 47)) x2) 88 47) + 1)) 122 (Int.toNat (((mv_up (mv_up M2 124 (Int.toNat (M2 88 47)) x2) 88 47 (((mv_up M2 124 (Int.toNat (M2 88 47)) x2) 88 47) + 1)) 88 47) - 1)) (-9)) 88 47) - 1) ∧
          (if v3 = ((mv_up (mv_up (mv_up M2 124 (Int.toNat (M2 88 47)) x2) 88 47 (((mv_up M2 124 (Int.toNat (M2 88 47)) x2) 88 47) + 1)) 122 (Int.toNat (((mv_up (mv_up M2 124 (Int.toNat (M2 88 47)) x2) 88 47 (((mv_up M2 124 (Int.toNat (M2 88 47)) x2) 88 47) + 1)) 88 47) - 1)) (-9)) 88 46) then
            (0 ≤ (((mv_up (mv_up (mv_up M2 124 (Int.toNat (M2 88 47)) x2) 88 47 (((mv_up M2 124 (Int.toNat (M2 88 47)) x2) 88 47) + 1)) 122 (Int.toNat (((mv_up (mv_up M2 124 (Int.toNat (M2 88 47)) x2) 88 47 (((mv_up M2 124 (Int.toNat (M2 88 47)) x2) 88 47) + 1)) 88 47) - 1)) (-9)) 88 47) - 1 : Int) ∧ (((mv_up (mv_up (mv_up M2 124 (Int.toNat (M2 88 47)) x2) 88 47 (((mv_up M2 124 (Int.toNat (M2 88 47)) x2) 88 47) + 1)) 122 (Int.toNat (((mv_up (mv_up M2 124 (Int.toNat (M2 88 47)) x2) 88 47 (((mv_up M2 124 (Int.toNat (M2 88 47)) x2) 88 47) + 1)) 88 47) - 1)) (-9)) 88 47) - 1 : Int) < ((32 : Nat) : Int)) ∧
            mv_R32 (v3 + 1) ∧
            mv_Run G 195 136 7420 15 [(0, .inr (.inr 88)), (1, .inl a), (2, .inl x2), (3, .inl (v3 + 1))] [] (mh l) (mv_up (mv_up (mv_up (mv_up M2 124 (Int.toNat (M2 88 47)) x2) 88 47 (((mv_up M2 124 (Int.toNat (M2 88 47)) x2) 88 47) + 1)) 122 (Int.toNat (((mv_up (mv_up M2 124 (Int.toNat (M2 88 47)) x2) 88 47 (((mv_up M2 124 (Int.toNat (M2 88 47)) x2) 88 47) + 1)) 88 47) - 1)) (-9)) 123 (Int.toNat (((mv_up (mv_up (mv_up M2 124 (Int.toNat (M2 88 47)) x2) 88 47 (((mv_up M2 124 (Int.toNat (M2 88 47)) x2) 88 47) + 1)) 122 (Int.toNat (((mv_up (mv_up M2 124 (Int.toNat (M2 88 47)) x2) 88 47 (((mv_up M2 124 (Int.toNat (M2 88 47)) x2) 88 47) + 1)) 88 47) - 1)) (-9)) 88 47) - 1)) 1) post
          else
            (0 ≤ (v3 : Int) ∧ (v3 : Int) < ((32 : Nat) : Int)) ∧
            (0 ≤ (((mv_up (mv_up (mv_up M2 124 (Int.toNat (M2 88 47)) x2) 88 47 (((mv_up M2 124 (Int.toNat (M2 88 47)) x2) 88 47) + 1)) 122 (Int.toNat (((mv_up (mv_up M2 124 (Int.toNat (M2 88 47)) x2) 88 47 (((mv_up M2 124 (Int.toNat (M2 88 47)) x2) 88 47) + 1)) 88 47) - 1)) (-9)) 88 47) - 1 : Int) ∧ (((mv_up (mv_up (mv_up M2 124 (Int.toNat (M2 88 47)) x2) 88 47 (((mv_up M2 124 (Int.toNat (M2 88 47)) x2) 88 47) + 1)) 122 (Int.toNat (((mv_up (mv_up M2 124 (Int.toNat (M2 88 47)) x2) 88 47 (((mv_up M2 124 (Int.toNat (M2 88 47)) x2) 88 47) + 1)) 88 47) - 1)) (-9)) 88 47) - 1 : Int) < ((32 : Nat) : Int)) ∧
            mv_R32 (v3 + 1) ∧
            mv_Run G 195 136 7420 15 [(0, .inr (.inr 88)), (1, .inl a), (2, .inl x2), (3, .inl (v3 + 1))] [] (mh l) (mv_up (mv_up (mv_up (mv_up M2 124 (Int.toNat (M2 88 47)) x2) 88 47 (((mv_up M2 124 (Int.toNat (M2 88 47)) x2) 88 47) + 1)) 122 (Int.toNat (((mv_up (mv_up M2 124 (Int.toNat (M2 88 47)) x2) 88 47 (((mv_up M2 124 (Int.toNat (M2 88 47)) x2) 88 47) + 1)) 88 47) - 1)) (-9)) 123 (Int.toNat (((mv_up (mv_up (mv_up M2 124 (Int.toNat (M2 88 47)) x2) 88 47 (((mv_up M2 124 (Int.toNat (M2 88 47)) x2) 88 47) + 1)) 122 (Int.toNat (((mv_up (mv_up M2 124 (Int.toNat (M2 88 47)) x2) 88 47 (((mv_up M2 124 (Int.toNat (M2 88 47)) x2) 88 47) + 1)) 88 47) - 1)) (-9)) 88 47) - 1)) ((mv_up (mv_up (mv_up M2 124 (Int.toNat (M2 88 47)) x2) 88 47 (((mv_up M2 124 (Int.toNat (M2 88 47)) x2) 88 47) + 1)) 122 (Int.toNat (((mv_up (mv_up M2 124 (Int.toNat (M2 88 47)) x2) 88 47 (((mv_up M2 124 (Int.toNat (M2 88 47)) x2) 88 47) + 1)) 88 47) - 1)) (-9)) 121 (Int.toNat v3))) post)
        else
          (0 ≤ (v3 : Int) ∧ (v3 : Int) < ((32 : Nat) : Int)) ∧
          (0 ≤ (((mv_up (mv_up M2 124 (Int.toNat (M2 88 47)) x2) 88 47 (((mv_up M2 124 (Int.toNat (M2 88 47)) x2) 88 47) + 1)) 88 47) - 1 : Int) ∧ (((mv_up (mv_up M2 124 (Int.toNat (M2 88 47)) x2) 88 47 (((mv_up M2 124 (Int.toNat (M2 88 47)) x2) 88 47) + 1)) 88 47) - 1 : Int) < ((32 : Nat) : Int)) ∧
          mv_R32 (((mv_up (mv_up (mv_up M2 124 (Int.toNat (M2 88 47)) x2) 88 47 (((mv_up M2 124 (Int.toNat (M2 88 47)) x2) 88 47) + 1)) 122 (Int.toNat (((mv_up (mv_up M2 124 (Int.toNat (M2 88 47)) x2) 88 47 (((mv_up M2 124 (Int.toNat (M2 88 47)) x2) 88 47) + 1)) 88 47) - 1)) ((mv_up (mv_up M2 124 (Int.toNat (M2 88 47)) x2) 88 47 (((mv_up M2 124 (Int.toNat (M2 88 47)) x2) 88 47) + 1)) 120 (Int.toNat v3))) 88 47) - 1) ∧
          (if v3 = ((mv_up (mv_up (mv_up M2 124 (Int.toNat (M2 88 47)) x2) 88 47 (((mv_up M2 124 (Int.toNat (M2 88 47)) x2) 88 47) + 1)) 122 (Int.toNat (((mv_up (mv_up M2 124 (Int.toNat (M2 88 47)) x2) 88 47 (((mv_up M2 124 (Int.toNat (M2 88 47)) x2) 88 47) + 1)) 88 47) - 1)) ((mv_up (mv_up M2 124 (Int.toNat (M2 88 47)) x2) 88 47 (((mv_up M2 124 (Int.toNat (M2 88 47)) x2) 88 47) + 1)) 120 (Int.toNat v3))) 88 46) then
            (0 ≤ (((mv_up (mv_up (mv_up M2 124 (Int.toNat (M2 88 47)) x2) 88 47 (((mv_up M2 124 (Int.toNat (M2 88 47)) x2) 88 47) + 1)) 122 (Int.toNat (((mv_up (mv_up M2 124 (Int.toNat (M2 88 47)) x2) 88 47 (((mv_up M2 124 (Int.toNat (M2 88 47)) x2) 88 47) + 1)) 88 47) - 1)) ((mv_up (mv_up M2 124 (Int.toNat (M2 88 47)) x2) 88 47 (((mv_up M2 124 (Int.toNat (M2 88 47)) x2) 88 47) + 1)) 120 (Int.toNat v3))) 88 47) - 1 : Int) ∧ (((mv_up (mv_up (mv_up M2 124 (Int.toNat (M2 88 47)) x2) 88 47 (((mv_up M2 124 (Int.toNat (M2 88 47)) x2) 88 47) + 1)) 122 (Int.toNat (((mv_up (mv_up M2 124 (Int.toNat (M2 88 47)) x2) 88 47 (((mv_up M2 124 (Int.toNat (M2 88 47)) x2) 88 47) + 1)) 88 47) - 1)) ((mv_up (mv_up M2 124 (Int.toNat (M2 88 47)) x2) 88 47 (((mv_up M2 124 (Int.toNat (M2 88 47)) x2) 88 47) + 1)) 120 (Int.toNat v3))) 88 47) - 1 : Int) < ((32 : Nat) : Int)) ∧
            mv_R32 (v3 + 1) ∧
            mv_Run G 195 136 7420 15 [(0, .inr (.inr 88)), (1, .inl a), (2, .inl x2), (3, .inl (v3 + 1))] [] (mh l) (mv_up (mv_up (mv_up (mv_up M2 124 (Int.toNat (M2 88 47)) x2) 88 47 (((mv_up M2 124 (Int.toNat (M2 88 47)) x2) 88 47) + 1)) 122 (Int.toNat (((mv_up (mv_up M2 124 (Int.toNat (M2 88 47)) x2) 88 47 (((mv_up M2 124 (Int.toNat (M2 88 47)) x2) 88 47) + 1)) 88 47) - 1)) ((mv_up (mv_up M2 124 (Int.toNat (M2 88 47)) x2) 88 47 (((mv_up M2 124 (Int.toNat (M2 88 47)) x2) 88 47) + 1)) 120 (Int.toNat v3))) 123 (Int.toNat (((mv_up (mv_up (mv_up M2 124 (Int.toNat (M2 88 47)) x2) 88 47 (((mv_up M2 124 (Int.toNat (M2 88 47)) x2) 88 47) + 1)) 122 (Int.toNat (((mv_up (mv_up M2 124 (Int.toNat (M2 88 47)) x2) 88 47 (((mv_up M2 124 (Int.toNat (M2 88 47)) x2) 88 47) + 1)) 88 47) - 1)) ((mv_up (mv_up M2 124 (Int.toNat (M2 88 47)) x2) 88 47 (((mv_up M2 124 (Int.toNat (M2 88 47)) x2) 88 47) + 1)) 120 (Int.toNat v3))) 88 47) - 1)) 1) post
          else
            (0 ≤ (v3 : Int) ∧ (v3 : Int) < ((32 : Nat) : Int)) ∧
            (0 ≤ (((mv_up (mv_up (mv_up M2 124 (Int.toNat (M2 88 47)) x2) 88 47 (((mv_up M2 124 (Int.toNat (M2 88 47)) x2) 88 47) + 1)) 122 (Int.toNat (((mv_up (mv_up M2 124 (Int.toNat (M2 88 47)) x2) 88 47 (((mv_up M2 124 (Int.toNat (M2 88 47)) x2) 88 47) + 1)) 88 47) - 1)) ((mv_up (mv_up M2 124 (Int.toNat (M2 88 47)) x2) 88 47 (((mv_up M2 124 (Int.toNat (M2 88 47)) x2) 88 47) + 1)) 120 (Int.toNat v3))) 88 47) - 1 : Int) ∧ (((mv_up (mv_up (mv_up M2 124 (Int.toNat (M2 88 47)) x2) 88 47 (((mv_up M2 124 (Int.toNat (M2 88 47)) x2) 88 47) + 1)) 122 (Int.toNat (((mv_up (mv_up M2 124 (Int.toNat (M2 88 47)) x2) 88 47 (((mv_up M2 124 (Int.toNat (M2 88 47)) x2) 88 47) + 1)) 88 47) - 1)) ((mv_up (mv_up M2 124 (Int.toNat (M2 88 47)) x2) 88 47 (((mv_up M2 124 (Int.toNat (M2 88 47)) x2) 88 47) + 1)) 120 (Int.toNat v3))) 88 47) - 1 : Int) < ((32 : Nat) : Int)) ∧
            mv_R32 (v3 + 1) ∧
            mv_Run G 195 136 7420 15 [(0, .inr (.inr 88)), (1, .inl a), (2, .inl x2), (3, .inl (v3 + 1))] [] (mh l) (mv_up (mv_up (mv_up (mv_up M2 124 (Int.toNat (M2 88 47)) x2) 88 47 (((mv_up M2 124 (Int.toNat (M2 88 47)) x2) 88 47) + 1)) 122 (Int.toNat (((mv_up (mv_up M2 124 (Int.toNat (M2 88 47)) x2) 88 47 (((mv_up M2 124 (Int.toNat (M2 88 47)) x2) 88 47) + 1)) 88 47) - 1)) ((mv_up (mv_up M2 124 (Int.toNat (M2 88 47)) x2) 88 47 (((mv_up M2 124 (Int.toNat (M2 88 47)) x2) 88 47) + 1)) 120 (Int.toNat v3))) 123 (Int.toNat (((mv_up (mv_up (mv_up M2 124 (Int.toNat (M2 88 47)) x2) 88 47 (((mv_up M2 124 (Int.toNat (M2 88 47)) x2) 88 47) + 1)) 122 (Int.toNat (((mv_up (mv_up M2 124 (Int.toNat (M2 88 47)) x2) 88 47 (((mv_up M2 124 (Int.toNat (M2 88 47)) x2) 88 47) + 1)) 88 47) - 1)) ((mv_up (mv_up M2 124 (Int.toNat (M2 88 47)) x2) 88 47 (((mv_up M2 124 (Int.toNat (M2 88 47)) x2) 88 47) + 1)) 120 (Int.toNat v3))) 88 47) - 1)) ((mv_up (mv_up (mv_up M2 124 (Int.toNat (M2 88 47)) x2) 88 47 (((mv_up M2 124 (Int.toNat (M2 88 47)) x2) 88 47) + 1)) 122 (Int.toNat (((mv_up (mv_up M2 124 (Int.toNat (M2 88 47)) x2) 88 47 (((mv_up M2 124 (Int.toNat (M2 88 47)) x2) 88 47) + 1)) 88 47) - 1)) ((mv_up (mv_up M2 124 (Int.toNat (M2 88 47)) x2) 88 47 (((mv_up M2 124 (Int.toNat (M2 88 47)) x2) 88 47) + 1)) 120 (Int.toNat v3))) 121 (Int.toNat v3))) post)))))))) :
    mv_Run G 195 136 7420 124 [(0, .inr (.inr 88)), (1, .inl a), (2, .inl v2), (3, .inl v3), (8, .inr (.inl v8)), (10, .inr (.inl v10))] [] (mh l) M post := mv_run [(15, [0, 1, 2, 3]), (41, [0, 1, 2, 3, 4]), (59, [0, 1, 2, 3, 4, 6]), (96, [0, 1, 2, 3, 6, 8]), (124, [0, 1, 2, 3, 8, 10])] 167 ok_195 h
set_option maxRecDepth 100000 in
theorem vw_X12_ring {G : mv_G} {l : Nat} {post : Option mv_V → mv_SH → mv_Mem → Prop} {M : mv_Mem} {a b : Int} (h : (if a < 0 then
    (if (-4) = 0 then
      mv_Wp G 195 [.inr (.inr 88), .inl a] (mh l) M (mv_qv (mh l) fun M1 =>
      (if (M1 88 47) ≤ b then
        post (some (.inl (-9))) (mh l) M1
      else
        (0 ≤ (b : Int) ∧ (b : Int) < ((32 : Nat) : Int)) ∧
        post (some (.inl (M1 124 (Int.toNat b)))) (mh l) M1))
    else
      mv_Wp G 133 [.inr (.inr 88), .inl (-4)] (mh l) M (mv_qi (mh l) fun x2 M2 =>
      post (some (.inl x2)) (mh l) M2))
  else
    (if 0 ≤ b then
      (if 9 < a then
        (if (-6) = 0 then
          mv_Wp G 195 [.inr (.inr 88), .inl a] (mh l) M (mv_qv (mh l) fun M3 =>
          (if (M3 88 47) ≤ b then
            post (some (.inl (-9))) (mh l) M3
          else
            (0 ≤ (b : Int) ∧ (b : Int) < ((32 : Nat) : Int)) ∧
            post (some (.inl (M3 124 (Int.toNat b)))) (mh l) M3))
        else
          mv_Wp G 133 [.inr (.inr 88), .inl (-6)] (mh l) M (mv_qi (mh l) fun x4 M4 =>
          post (some (.inl x4)) (mh l) M4))
      else
        (if b ≤ 9 then
          (if (M 88 23) = 0 then
            (if (-3) = 0 then
              mv_Wp G 195 [.inr (.inr 88), .inl a] (mh l) M (mv_qv (mh l) fun M7 =>
              (if (M7 88 47) ≤ b then
                post (some (.inl (-9))) (mh l) M7
              else
                (0 ≤ (b : Int) ∧ (b : Int) < ((32 : Nat) : Int)) ∧
                post (some (.inl (M7 124 (Int.toNat b)))) (mh l) M7))
            else
              mv_Wp G 133 [.inr (.inr 88), .inl (-3)] (mh l) M (mv_qi (mh l) fun x8 M8 =>
              post (some (.inl x8)) (mh l) M8))
          else
            (if (0 : Int) = 0 then
              mv_Wp G 195 [.inr (.inr 88), .inl a] (mh l) M (mv_qv (mh l) fun M5 =>
              (if (M5 88 47) ≤ b then
                post (some (.inl (-9))) (mh l) M5
              else
                (0 ≤ (b : Int) ∧ (b : Int) < ((32 : Nat) : Int)) ∧
                post (some (.inl (M5 124 (Int.toNat b)))) (mh l) M5))
            else
              mv_Wp G 133 [.inr (.inr 88), .inl 0] (mh l) M (mv_qi (mh l) fun x6 M6 =>
              post (some (.inl x6)) (mh l) M6)))
        else
          (if (-6) = 0 then
            mv_Wp G 195 [.inr (.inr 88), .inl a] (mh l) M (mv_qv (mh l) fun M9 =>
            (if (M9 88 47) ≤ b then
              post (some (.inl (-9))) (mh l) M9
            else
              (0 ≤ (b : Int) ∧ (b : Int) < ((32 : Nat) : Int)) ∧
              post (some (.inl (M9 124 (Int.toNat b)))) (mh l) M9))
          else
            mv_Wp G 133 [.inr (.inr 88), .inl (-6)] (mh l) M (mv_qi (mh l) fun x10 M10 =>
            post (some (.inl x10)) (mh l) M10))))
    else
      (if (-4) = 0 then
        mv_Wp G 195 [.inr (.inr 88), .inl a] (mh l) M (mv_qv (mh l) fun M11 =>
        (if (M11 88 47) ≤ b then
          post (some (.inl (-9))) (mh l) M11
        else
          (0 ≤ (b : Int) ∧ (b : Int) < ((32 : Nat) : Int)) ∧
          post (some (.inl (M11 124 (Int.toNat b)))) (mh l) M11))
      else
        mv_Wp G 133 [.inr (.inr 88), .inl (-4)] (mh l) M (mv_qi (mh l) fun x12 M12 =>
        post (some (.inl x12)) (mh l) M12))))) :
    mv_Wp G 196 [.inr (.inr 88), .inl a, .inl b] (mh l) M post := mv_wp [] 61 ok_196 oc_196 rfl h
set_option maxRecDepth 100000 in
theorem vw_X12_edge {G : mv_G} {l : Nat} {post : Option mv_V → mv_SH → mv_Mem → Prop} {M : mv_Mem} {a b c : Int} (h : mv_Wp G 135 [.inr (.inl c), .inr (.inl 0), .inr (.inl 1)] (mh l) M (mv_qi (mh l) fun x1 M1 =>
  (if x1 = 0 then
    mv_Wp G 134 [.inr (.inr 88), .inl (-2)] (mh l) M1 (mv_ql (mh l) fun x20 M20 =>
    post (some (.inr (.inl x20))) (mh l) M20)
  else
    (if a < 0 then
      (if (-4) = 0 then
        mv_Wp G 195 [.inr (.inr 88), .inl a] (mh l) M1 (mv_qv (mh l) fun M2 =>
        (if b < (M2 88 47) then
          (if c = 0 then
            (0 ≤ (b : Int) ∧ (b : Int) < ((32 : Nat) : Int)) ∧
            post (some (.inr (.inl (M2 122 (Int.toNat b))))) (mh l) M2
          else
            (0 ≤ (b : Int) ∧ (b : Int) < ((32 : Nat) : Int)) ∧
            post (some (.inr (.inl (M2 123 (Int.toNat b))))) (mh l) M2)
        else
          mv_Wp G 134 [.inr (.inr 88), .inl (-1)] (mh l) M2 (mv_ql (mh l) fun x3 M3 =>
          post (some (.inr (.inl x3))) (mh l) M3)))
      else
        mv_Wp G 134 [.inr (.inr 88), .inl (-4)] (mh l) M1 (mv_ql (mh l) fun x4 M4 =>
        post (some (.inr (.inl x4))) (mh l) M4))
    else
      (if 0 ≤ b then
        (if 9 < a then
          (if (-6) = 0 then
            mv_Wp G 195 [.inr (.inr 88), .inl a] (mh l) M1 (mv_qv (mh l) fun M5 =>
            (if b < (M5 88 47) then
              (if c = 0 then
                (0 ≤ (b : Int) ∧ (b : Int) < ((32 : Nat) : Int)) ∧
                post (some (.inr (.inl (M5 122 (Int.toNat b))))) (mh l) M5
              else
                (0 ≤ (b : Int) ∧ (b : Int) < ((32 : Nat) : Int)) ∧
                post (some (.inr (.inl (M5 123 (Int.toNat b))))) (mh l) M5)
            else
              mv_Wp G 134 [.inr (.inr 88), .inl (-1)] (mh l) M5 (mv_ql (mh l) fun x6 M6 =>
              post (some (.inr (.inl x6))) (mh l) M6)))
          else
            mv_Wp G 134 [.inr (.inr 88), .inl (-6)] (mh l) M1 (mv_ql (mh l) fun x7 M7 =>
            post (some (.inr (.inl x7))) (mh l) M7))
        else
          (if b ≤ 9 then
            (if (M1 88 23) = 0 then
              (if (-3) = 0 then
                mv_Wp G 195 [.inr (.inr 88), .inl a] (mh l) M1 (mv_qv (mh l) fun M11 =>
                (if b < (M11 88 47) then
                  (if c = 0 then
                    (0 ≤ (b : Int) ∧ (b : Int) < ((32 : Nat) : Int)) ∧
                    post (some (.inr (.inl (M11 122 (Int.toNat b))))) (mh l) M11
                  else
                    (0 ≤ (b : Int) ∧ (b : Int) < ((32 : Nat) : Int)) ∧
                    post (some (.inr (.inl (M11 123 (Int.toNat b))))) (mh l) M11)
                else
                  mv_Wp G 134 [.inr (.inr 88), .inl (-1)] (mh l) M11 (mv_ql (mh l) fun x12 M12 =>
                  post (some (.inr (.inl x12))) (mh l) M12)))
              else
                mv_Wp G 134 [.inr (.inr 88), .inl (-3)] (mh l) M1 (mv_ql (mh l) fun x13 M13 =>
                post (some (.inr (.inl x13))) (mh l) M13))
            else
              (if (0 : Int) = 0 then
                mv_Wp G 195 [.inr (.inr 88), .inl a] (mh l) M1 (mv_qv (mh l) fun M8 =>
                (if b < (M8 88 47) then
                  (if c = 0 then
                    (0 ≤ (b : Int) ∧ (b : Int) < ((32 : Nat) : Int)) ∧
                    post (some (.inr (.inl (M8 122 (Int.toNat b))))) (mh l) M8
                  else
                    (0 ≤ (b : Int) ∧ (b : Int) < ((32 : Nat) : Int)) ∧
                    post (some (.inr (.inl (M8 123 (Int.toNat b))))) (mh l) M8)
                else
                  mv_Wp G 134 [.inr (.inr 88), .inl (-1)] (mh l) M8 (mv_ql (mh l) fun x9 M9 =>
                  post (some (.inr (.inl x9))) (mh l) M9)))
              else
                mv_Wp G 134 [.inr (.inr 88), .inl 0] (mh l) M1 (mv_ql (mh l) fun x10 M10 =>
                post (some (.inr (.inl x10))) (mh l) M10)))
          else
            (if (-6) = 0 then
              mv_Wp G 195 [.inr (.inr 88), .inl a] (mh l) M1 (mv_qv (mh l) fun M14 =>
              (if b < (M14 88 47) then
                (if c = 0 then
                  (0 ≤ (b : Int) ∧ (b : Int) < ((32 : Nat) : Int)) ∧
                  post (some (.inr (.inl (M14 122 (Int.toNat b))))) (mh l) M14
                else
                  (0 ≤ (b : Int) ∧ (b : Int) < ((32 : Nat) : Int)) ∧
                  post (some (.inr (.inl (M14 123 (Int.toNat b))))) (mh l) M14)
              else
                mv_Wp G 134 [.inr (.inr 88), .inl (-1)] (mh l) M14 (mv_ql (mh l) fun x15 M15 =>
                post (some (.inr (.inl x15))) (mh l) M15)))
            else
              mv_Wp G 134 [.inr (.inr 88), .inl (-6)] (mh l) M1 (mv_ql (mh l) fun x16 M16 =>
              post (some (.inr (.inl x16))) (mh l) M16))))
      else
        (if (-4) = 0 then
          mv_Wp G 195 [.inr (.inr 88), .inl a] (mh l) M1 (mv_qv (mh l) fun M17 =>
          (if b < (M17 88 47) then
            (if c = 0 then
              (0 ≤ (b : Int) ∧ (b : Int) < ((32 : Nat) : Int)) ∧
              post (some (.inr (.inl (M17 122 (Int.toNat b))))) (mh l) M17
            else
              (0 ≤ (b : Int) ∧ (b : Int) < ((32 : Nat) : Int)) ∧
              post (some (.inr (.inl (M17 123 (Int.toNat b))))) (mh l) M17)
          else
            mv_Wp G 134 [.inr (.inr 88), .inl (-1)] (mh l) M17 (mv_ql (mh l) fun x18 M18 =>
            post (some (.inr (.inl x18))) (mh l) M18)))
        else
          mv_Wp G 134 [.inr (.inr 88), .inl (-4)] (mh l) M1 (mv_ql (mh l) fun x19 M19 =>
          post (some (.inr (.inl x19))) (mh l) M19))))))) :
    mv_Wp G 197 [.inr (.inr 88), .inl a, .inl b, .inl c] (mh l) M post := mv_wp [] 80 ok_197 oc_197 rfl h
set_option maxRecDepth 100000 in
theorem vw_X12_out {G : mv_G} {l : Nat} {post : Option mv_V → mv_SH → mv_Mem → Prop} {M : mv_Mem} {a : Int} (h : mv_Wp G 160 [.inr (.inr 88), .inl a] (mh l) M (mv_qi (mh l) fun x1 M1 =>
  (if x1 = 0 then
    mv_Wp G 133 [.inr (.inr 88), .inl (-1)] (mh l) M1 (mv_qi (mh l) fun x3 M3 =>
    post (some (.inl x3)) (mh l) M3)
  else
    mv_Wp G 173 [.inr (.inr 88)] (mh l) M1 (mv_qv (mh l) fun M2 =>
    mv_Run G 198 136 7420 23 [(0, .inr (.inr 88)), (1, .inl a), (2, .inl (-9)), (3, .inl 0)] [] (mh l) M2 post)))) :
    mv_Wp G 198 [.inr (.inr 88), .inl a] (mh l) M post := mv_wp [(23, [0, 1, 2, 3])] 66 ok_198 oc_198 rfl h
set_option maxRecDepth 100000 in
theorem vr_X12_out_23 {G : mv_G} {l : Nat} {post : Option mv_V → mv_SH → mv_Mem → Prop} {M : mv_Mem} {a v2 v3 : Int} (h : (if 48 ≤ v3 then
    post (some (.inl v2)) (mh l) M
  else
    (0 ≤ (v3 : Int) ∧ (v3 : Int) < ((48 : Nat) : Int)) ∧
    (if (M 117 (Int.toNat v3)) = a then
      (0 ≤ (v3 : Int) ∧ (v3 : Int) < ((48 : Nat) : Int)) ∧
      mv_Wp G 169 [.inr (.inr 88), .inl a, .inl v3, .inl (M 118 (Int.toNat v3))] (mh l) M (mv_qi (mh l) fun x1 M1 =>
      (if x1 ≤ v2 then
        mv_R32 (v3 + 1) ∧
        mv_Run G 198 136 7420 23 [(0, .inr (.inr 88)), (1, .inl a), (2, .inl v2), (3, .inl (v3 + 1))] [] (mh l) M1 post
      else
        (0 ≤ (v3 : Int) ∧ (v3 : Int) < ((48 : Nat) : Int)) ∧
        mv_Wp G 169 [.inr (.inr 88), .inl a, .inl v3, .inl (M1 118 (Int.toNat v3))] (mh l) M1 (mv_qi (mh l) fun x2 M2 =>
        mv_R32 (v3 + 1) ∧
        mv_Run G 198 136 7420 23 [(0, .inr (.inr 88)), (1, .inl a), (2, .inl x2), (3, .inl (v3 + 1))] [] (mh l) M2 post)))
    else
      mv_R32 (v3 + 1) ∧
      mv_Run G 198 136 7420 23 [(0, .inr (.inr 88)), (1, .inl a), (2, .inl v2), (3, .inl (v3 + 1))] [] (mh l) M post))) :
    mv_Run G 198 136 7420 23 [(0, .inr (.inr 88)), (1, .inl a), (2, .inl v2), (3, .inl v3)] [] (mh l) M post := mv_run [(23, [0, 1, 2, 3])] 66 ok_198 h
set_option maxRecDepth 100000 in
theorem vw_X12_isBorder {G : mv_G} {l : Nat} {post : Option mv_V → mv_SH → mv_Mem → Prop} {M : mv_Mem} {a b : Int} (h : mv_Wp G 143 [.inr (.inr 88), .inl b] (mh l) M (mv_qi (mh l) fun x1 M1 =>
  (if x1 = 0 then
    ((0 : Int) = 0 ∨ (0 : Int) = 1) ∧ post (some (.inl 0)) (mh l) M1
  else
    (0 ≤ (a : Int) ∧ (a : Int) < ((48 : Nat) : Int)) ∧
    (if (M1 118 (Int.toNat a)) < 0 then
      ((0 : Int) = 0 ∨ (0 : Int) = 1) ∧ post (some (.inl 0)) (mh l) M1
    else
      (0 ≤ (b : Int) ∧ (b : Int) < ((48 : Nat) : Int)) ∧
      (if (M1 118 (Int.toNat b)) < 0 then
        ((0 : Int) = 0 ∨ (0 : Int) = 1) ∧ post (some (.inl 0)) (mh l) M1
      else
        (0 ≤ (a : Int) ∧ (a : Int) < ((48 : Nat) : Int)) ∧
        (0 ≤ (b : Int) ∧ (b : Int) < ((48 : Nat) : Int)) ∧
        (if (M1 118 (Int.toNat a)) = (M1 118 (Int.toNat b)) then
          ((0 : Int) = 0 ∨ (0 : Int) = 1) ∧ post (some (.inl 0)) (mh l) M1
        else
          ((1 : Int) = 0 ∨ (1 : Int) = 1) ∧ post (some (.inl 1)) (mh l) M1)))))) :
    mv_Wp G 199 [.inr (.inr 88), .inl a, .inl b] (mh l) M post := mv_wp [] 47 ok_199 oc_199 rfl h
set_option maxRecDepth 100000 in
theorem vw_X12_borders {G : mv_G} {l : Nat} {post : Option mv_V → mv_SH → mv_Mem → Prop} {M : mv_Mem} (h : mv_Wp G 173 [.inr (.inr 88)] (mh l) M (mv_qv (mh l) fun M1 =>
  mv_Run G 200 136 7420 8 [(0, .inr (.inr 88)), (1, .inl 0), (2, .inl 0)] [] (mh l) M1 post)) :
    mv_Wp G 200 [.inr (.inr 88)] (mh l) M post := mv_wp [(8, [0, 1, 2])] 72 ok_200 oc_200 rfl h
set_option maxRecDepth 100000 in
theorem vr_X12_borders_8 {G : mv_G} {l : Nat} {post : Option mv_V → mv_SH → mv_Mem → Prop} {M : mv_Mem} {v1 v2 : Int} (h : (if 48 ≤ v2 then
    post (some (.inl v1)) (mh l) M
  else
    mv_Wp G 143 [.inr (.inr 88), .inl v2] (mh l) M (mv_qi (mh l) fun x1 M1 =>
    (if x1 = 0 then
      mv_R32 (v2 + 1) ∧
      mv_Run G 200 136 7420 8 [(0, .inr (.inr 88)), (1, .inl v1), (2, .inl (v2 + 1))] [] (mh l) M1 post
    else
      ¬ (8 : Int) = 0 ∧
      (if 7 ≤ (Int.tmod v2 8) then
        mv_R32 (v1 + 0) ∧
        (if 40 ≤ v2 then
          mv_R32 ((v1 + 0) + 0) ∧
          mv_R32 (v2 + 1) ∧
          mv_Run G 200 136 7420 8 [(0, .inr (.inr 88)), (1, .inl ((v1 + 0) + 0)), (2, .inl (v2 + 1))] [] (mh l) M1 post
        else
          mv_R32 (v2 + 8) ∧
          mv_Wp G 199 [.inr (.inr 88), .inl v2, .inl (v2 + 8)] (mh l) M1 (mv_qi (mh l) fun x2 M2 =>
          (if x2 = 0 then
            mv_R32 ((v1 + 0) + 0) ∧
            mv_R32 (v2 + 1) ∧
            mv_Run G 200 136 7420 8 [(0, .inr (.inr 88)), (1, .inl ((v1 + 0) + 0)), (2, .inl (v2 + 1))] [] (mh l) M2 post
          else
            mv_R32 ((v1 + 0) + 1) ∧
            mv_R32 (v2 + 1) ∧
            mv_Run G 200 136 7420 8 [(0, .inr (.inr 88)), (1, .inl ((v1 + 0) + 1)), (2, .inl (v2 + 1))] [] (mh l) M2 post)))
      else
        mv_R32 (v2 + 1) ∧
        mv_Wp G 199 [.inr (.inr 88), .inl v2, .inl (v2 + 1)] (mh l) M1 (mv_qi (mh l) fun x3 M3 =>
        (if x3 = 0 then
          mv_R32 (v1 + 0) ∧
          (if 40 ≤ v2 then
            mv_R32 ((v1 + 0) + 0) ∧
            mv_R32 (v2 + 1) ∧
            mv_Run G 200 136 7420 8 [(0, .inr (.inr 88)), (1, .inl ((v1 + 0) + 0)), (2, .inl (v2 + 1))] [] (mh l) M3 post
          else
            mv_R32 (v2 + 8) ∧
            mv_Wp G 199 [.inr (.inr 88), .inl v2, .inl (v2 + 8)] (mh l) M3 (mv_qi (mh l) fun x4 M4 =>
            (if x4 = 0 then
              mv_R32 ((v1 + 0) + 0) ∧
              mv_R32 (v2 + 1) ∧
              mv_Run G 200 136 7420 8 [(0, .inr (.inr 88)), (1, .inl ((v1 + 0) + 0)), (2, .inl (v2 + 1))] [] (mh l) M4 post
            else
              mv_R32 ((v1 + 0) + 1) ∧
              mv_R32 (v2 + 1) ∧
              mv_Run G 200 136 7420 8 [(0, .inr (.inr 88)), (1, .inl ((v1 + 0) + 1)), (2, .inl (v2 + 1))] [] (mh l) M4 post)))
        else
          mv_R32 (v1 + 1) ∧
          (if 40 ≤ v2 then
            mv_R32 ((v1 + 1) + 0) ∧
            mv_R32 (v2 + 1) ∧
            mv_Run G 200 136 7420 8 [(0, .inr (.inr 88)), (1, .inl ((v1 + 1) + 0)), (2, .inl (v2 + 1))] [] (mh l) M3 post
          else
            mv_R32 (v2 + 8) ∧
            mv_Wp G 199 [.inr (.inr 88), .inl v2, .inl (v2 + 8)] (mh l) M3 (mv_qi (mh l) fun x5 M5 =>
            (if x5 = 0 then
              mv_R32 ((v1 + 1) + 0) ∧
              mv_R32 (v2 + 1) ∧
              mv_Run G 200 136 7420 8 [(0, .inr (.inr 88)), (1, .inl ((v1 + 1) + 0)), (2, .inl (v2 + 1))] [] (mh l) M5 post
            else
              mv_R32 ((v1 + 1) + 1) ∧
              mv_R32 (v2 + 1) ∧
              mv_Run G 200 136 7420 8 [(0, .inr (.inr 88)), (1, .inl ((v1 + 1) + 1)), (2, .inl (v2 + 1))] [] (mh l) M5 post)))))))))) :
    mv_Run G 200 136 7420 8 [(0, .inr (.inr 88)), (1, .inl v1), (2, .inl v2)] [] (mh l) M post := mv_run [(8, [0, 1, 2])] 72 ok_200 h
set_option maxRecDepth 100000 in
theorem vw_X12_plan {G : mv_G} {l : Nat} {post : Option mv_V → mv_SH → mv_Mem → Prop} {M : mv_Mem} {a b c d : Int} (h : mv_Wp G 142 [.inr (.inr 88), .inl a] (mh l) M (mv_qi (mh l) fun x1 M1 =>
  mv_Wp G 142 [.inr (.inr 88), .inl b] (mh l) M1 (mv_qi (mh l) fun x2 M2 =>
  (if x1 < 0 then
    mv_Wp G 133 [.inr (.inr 88), .inl (-1)] (mh l) M2 (mv_qi (mh l) fun x3 M3 =>
    post (some (.inl x3)) (mh l) M3)
  else
    (if x2 < 0 then
      mv_Wp G 133 [.inr (.inr 88), .inl (-1)] (mh l) M2 (mv_qi (mh l) fun x4 M4 =>
      post (some (.inl x4)) (mh l) M4)
    else
      mv_Wp G 146 [.inl x1, .inl x2] (mh l) M2 (mv_qi (mh l) fun x5 M5 =>
      (if x5 = 0 then
        mv_Wp G 133 [.inr (.inr 88), .inl (-1)] (mh l) M5 (mv_qi (mh l) fun x9 M9 =>
        post (some (.inl x9)) (mh l) M9)
      else
        mv_Wp G 135 [.inr (.inl c), .inr (.inl 1), .inr (.inl 3)] (mh l) M5 (mv_qi (mh l) fun x6 M6 =>
        (if x6 = 0 then
          mv_Wp G 133 [.inr (.inr 88), .inl (-2)] (mh l) M6 (mv_qi (mh l) fun x8 M8 =>
          post (some (.inl x8)) (mh l) M8)
        else
          mv_Wp G 136 [.inr (.inl d), .inr (.inl 0), .inr (.inl 99999)] (mh l) M6 (mv_qi (mh l) fun x7 M7 =>
          (if x7 = 0 then
            (if (M7 88 55) = 8 then
              mv_Run G 201 136 7420 89 [(0, .inr (.inr 88)), (3, .inl c), (4, .inl d), (5, .inl x1), (6, .inl x2), (7, .inl (-6))] [] (mh l) M7 post
            else
              mv_Run G 201 136 7420 89 [(0, .inr (.inr 88)), (3, .inl c), (4, .inl d), (5, .inl x1), (6, .inl x2), (7, .inl x7)] [] (mh l) M7 post)
          else
            mv_Run G 201 136 7420 89 [(0, .inr (.inr 88)), (3, .inl c), (4, .inl d), (5, .inl x1), (6, .inl x2), (7, .inl x7)] [] (mh l) M7 post))))))))))) :
    mv_Wp G 201 [.inr (.inr 88), .inl a, .inl b, .inl c, .inl d] (mh l) M post := mv_wp [(89, [0, 3, 4, 5, 6, 7]), (109, [0, 3, 4, 5, 6, 7])] 114 ok_201 oc_201 rfl h
set_option maxRecDepth 100000 in
theorem vr_X12_plan_89 {G : mv_G} {l : Nat} {post : Option mv_V → mv_SH → mv_Mem → Prop} {M : mv_Mem} {c d v5 v6 v7 : Int} (h : (if v7 = 0 then
    mv_Wp G 147 [.inr (.inr 88), .inl v5, .inl v6] (mh l) M (mv_qi (mh l) fun x1 M1 =>
    (if x1 < 0 then
      mv_Run G 201 136 7420 109 [(0, .inr (.inr 88)), (3, .inl c), (4, .inl d), (5, .inl v5), (6, .inl v6), (7, .inl v7)] [] (mh l) M1 post
    else
      mv_Run G 201 136 7420 109 [(0, .inr (.inr 88)), (3, .inl c), (4, .inl d), (5, .inl v5), (6, .inl v6), (7, .inl (-3))] [] (mh l) M1 post))
  else
    mv_Run G 201 136 7420 109 [(0, .inr (.inr 88)), (3, .inl c), (4, .inl d), (5, .inl v5), (6, .inl v6), (7, .inl v7)] [] (mh l) M post)) :
    mv_Run G 201 136 7420 89 [(0, .inr (.inr 88)), (3, .inl c), (4, .inl d), (5, .inl v5), (6, .inl v6), (7, .inl v7)] [] (mh l) M post := mv_run [(89, [0, 3, 4, 5, 6, 7]), (109, [0, 3, 4, 5, 6, 7])] 114 ok_201 h
set_option maxRecDepth 100000 in
theorem vr_X12_plan_109 {G : mv_G} {l : Nat} {post : Option mv_V → mv_SH → mv_Mem → Prop} {M : mv_Mem} {c d v5 v6 v7 : Int} (h : (if v7 = 0 then
    (0 ≤ (M 88 55 : Int) ∧ (M 88 55 : Int) < ((8 : Nat) : Int)) ∧
    (0 ≤ ((mv_up M 125 (Int.toNat (M 88 55)) v5) 88 55 : Int) ∧ ((mv_up M 125 (Int.toNat (M 88 55)) v5) 88 55 : Int) < ((8 : Nat) : Int)) ∧
    (0 ≤ ((mv_up (mv_up M 125 (Int.toNat (M 88 55)) v5) 126 (Int.toNat ((mv_up M 125 (Int.toNat (M 88 55)) v5) 88 55)) v6) 88 55 : Int) ∧ ((mv_up (mv_up M 125 (Int.toNat (M 88 55)) v5) 126 (Int.toNat ((mv_up M 125 (Int.toNat (M 88 55)) v5) 88 55)) v6) 88 55 : Int) < ((8 : Nat) : Int)) ∧
    (0 ≤ ((mv_up (mv_up (mv_up M 125 (Int.toNat (M 88 55)) v5) 126 (Int.toNat ((mv_up M 125 (Int.toNat (M 88 55)) v5) 88 55)) v6) 127 (Int.toNat ((mv_up (mv_up M 125 (Int.toNat (M 88 55)) v5) 126 (Int.toNat ((mv_up M 125 (Int.toNat (M 88 55)) v5) 88 55)) v6) 88 55)) c) 88 55 : Int) ∧ ((mv_up (mv_up (mv_up M 125 (Int.toNat (M 88 55)) v5) 126 (Int.toNat ((mv_up M 125 (Int.toNat (M 88 55)) v5) 88 55)) v6) 127 (Int.toNat ((mv_up (mv_up M 125 (Int.toNat (M 88 55)) v5) 126 (Int.toNat ((mv_up M 125 (Int.toNat (M 88 55)) v5) 88 55)) v6) 88 55)) c) 88 55 : Int) < ((8 : Nat) : Int)) ∧
    mv_R32 (((mv_up (mv_up (mv_up (mv_up M 125 (Int.toNat (M 88 55)) v5) 126 (Int.toNat ((mv_up M 125 (Int.toNat (M 88 55)) v5) 88 55)) v6) 127 (Int.toNat ((mv_up (mv_up M 125 (Int.toNat (M 88 55)) v5) 126 (Int.toNat ((mv_up M 125 (Int.toNat (M 88 55)) v5) 88 55)) v6) 88 55)) c) 128 (Int.toNat ((mv_up (mv_up (mv_up M 125 (Int.toNat (M 88 55)) v5) 126 (Int.toNat ((mv_up M 125 (Int.toNat (M 88 55)) v5) 88 55)) v6) 127 (Int.toNat ((mv_up (mv_up M 125 (Int.toNat (M 88 55)) v5) 126 (Int.toNat ((mv_up M 125 (Int.toNat (M 88 55)) v5) 88 55)) v6) 88 55)) c) 88 55)) d) 88 55) + 1) ∧
    mv_R32 (((mv_up (mv_up (mv_up (mv_up (mv_up M 125 (Int.toNat (M 88 55)) v5) 126 (Int.toNat ((mv_up M 125 (Int.toNat (M 88 55)) v5) 88 55)) v6) 127 (Int.toNat ((mv_up (mv_up M 125 (Int.toNat (M 88 55)) v5) 126 (Int.toNat ((mv_up M 125 (Int.toNat (M 88 55)) v5) 88 55)) v6) 88 55)) c) 128 (Int.toNat ((mv_up (mv_up (mv_up M 125 (Int.toNat (M 88 55)) v5) 126 (Int.toNat ((mv_up M 125 (Int.toNat (M 88 55)) v5) 88 55)) v6) 127 (Int.toNat ((mv_up (mv_up M 125 (Int.toNat (M 88 55)) v5) 126 (Int.toNat ((mv_up M 125 (Int.toNat (M 88 55)) v5) 88 55)) v6) 88 55)) c) 88 55)) d) 88 55 (((mv_up (mv_up (mv_up (mv_up M 125 (Int.toNat (M 88 55)) v5) 126 (Int.toNat ((mv_up M 125 (Int.toNat (M 88 55)) v5) 88 55)) v6) 127 (Int.toNat ((mv_up (mv_up M 125 (Int.toNat (M 88 55)) v5) 126 (Int.toNat ((mv_up M 125 (Int.toNat (M 88 55)) v5) 88 55)) v6) 88 55)) c) 128 (Int.toNat ((mv_up (mv_up (mv_up M 125 (Int.toNat (M 88 55)) v5) 126 (Int.toNat ((mv_up M 125 (Int.toNat (M 88 55)) v5) 88 55)) v6) 127 (Int.toNat ((mv_up (mv_up M 125 (Int.toNat (M 88 55)) v5) 126 (Int.toNat ((mv_up M 125 (Int.toNat (M 88 55)) v5) 88 55)) v6) 88 55)) c) 88 55)) d) 88 55) + 1)) 88 55) - 1) ∧
    post (some (.inl (((mv_up (mv_up (mv_up (mv_up (mv_up M 125 (Int.toNat (M 88 55)) v5) 126 (Int.toNat ((mv_up M 125 (Int.toNat (M 88 55)) v5) 88 55)) v6) 127 (Int.toNat ((mv_up (mv_up M 125 (Int.toNat (M 88 55)) v5) 126 (Int.toNat ((mv_up M 125 (Int.toNat (M 88 55)) v5) 88 55)) v6) 88 55)) c) 128 (Int.toNat ((mv_up (mv_up (mv_up M 125 (Int.toNat (M 88 55)) v5) 126 (Int.toNat ((mv_up M 125 (Int.toNat (M 88 55)) v5) 88 55)) v6) 127 (Int.toNat ((mv_up (mv_up M 125 (Int.toNat (M 88 55)) v5) 126 (Int.toNat ((mv_up M 125 (Int.toNat (M 88 55)) v5) 88 55)) v6) 88 55)) c) 88 55)) d) 88 55 (((mv_up (mv_up (mv_up (mv_up M 125 (Int.toNat (M 88 55)) v5) 126 (Int.toNat ((mv_up M 125 (Int.toNat (M 88 55)) v5) 88 55)) v6) 127 (Int.toNat ((mv_up (mv_up M 125 (Int.toNat (M 88 55)) v5) 126 (Int.toNat ((mv_up M 125 (Int.toNat (M 88 55)) v5) 88 55)) v6) 88 55)) c) 128 (Int.toNat ((mv_up (mv_up (mv_up M 125 (Int.toNat (M 88 55)) v5) 126 (Int.toNat ((mv_up M 125 (Int.toNat (M 88 55)) v5) 88 55)) v6) 127 (Int.toNat ((mv_up (mv_up M 125 (Int.toNat (M 88 55)) v5) 126 (Int.toNat ((mv_up M 125 (Int.toNat (M 88 55)) v5) 88 55)) v6) 88 55)) c) 88 55)) d) 88 55) + 1)) 88 55) - 1))) (mh l) (mv_up (mv_up (mv_up (mv_up (mv_up M 125 (Int.toNat (M 88 55)) v5) 126 (Int.toNat ((mv_up M 125 (Int.toNat (M 88 55)) v5) 88 55)) v6) 127 (Int.toNat ((mv_up (mv_up M 125 (Int.toNat (M 88 55)) v5) 126 (Int.toNat ((mv_up M 125 (Int.toNat (M 88 55)) v5) 88 55)) v6) 88 55)) c) 128 (Int.toNat ((mv_up (mv_up (mv_up M 125 (Int.toNat (M 88 55)) v5) 126 (Int.toNat ((mv_up M 125 (Int.toNat (M 88 55)) v5) 88 55)) v6) 127 (Int.toNat ((mv_up (mv_up M 125 (Int.toNat (M 88 55)) v5) 126 (Int.toNat ((mv_up M 125 (Int.toNat (M 88 55)) v5) 88 55)) v6) 88 55)) c) 88 55)) d) 88 55 (((mv_up (mv_up (mv_up (mv_up M 125 (Int.toNat (M 88 55)) v5) 126 (Int.toNat ((mv_up M 125 (Int.toNat (M 88 55)) v5) 88 55)) v6) 127 (Int.toNat ((mv_up (mv_up M 125 (Int.toNat (M 88 55)) v5) 126 (Int.toNat ((mv_up M 125 (Int.toNat (M 88 55)) v5) 88 55)) v6) 88 55)) c) 128 (Int.toNat ((mv_up (mv_up (mv_up M 125 (Int.toNat (M 88 55)) v5) 126 (Int.toNat ((mv_up M 125 (Int.toNat (M 88 55)) v5) 88 55)) v6) 127 (Int.toNat ((mv_up (mv_up M 125 (Int.toNat (M 88 55)) v5) 126 (Int.toNat ((mv_up M 125 (Int.toNat (M 88 55)) v5) 88 55)) v6) 88 55)) c) 88 55)) d) 88 55) + 1))
  else
    mv_Wp G 133 [.inr (.inr 88), .inl v7] (mh l) M (mv_qi (mh l) fun x1 M1 =>
    post (some (.inl x1)) (mh l) M1))) :
    mv_Run G 201 136 7420 109 [(0, .inr (.inr 88)), (3, .inl c), (4, .inl d), (5, .inl v5), (6, .inl v6), (7, .inl v7)] [] (mh l) M post := mv_run [(89, [0, 3, 4, 5, 6, 7]), (109, [0, 3, 4, 5, 6, 7])] 114 ok_201 h
set_option maxRecDepth 100000 in
theorem vw_X12_isPlan {G : mv_G} {l : Nat} {post : Option mv_V → mv_SH → mv_Mem → Prop} {M : mv_Mem} {a : Int} (h : (if a < 0 then
    ((0 : Int) = 0 ∨ (0 : Int) = 1) ∧ post (some (.inl 0)) (mh l) M
  else
    (if (M 88 55) ≤ a then
      ((0 : Int) = 0 ∨ (0 : Int) = 1) ∧ post (some (.inl 0)) (mh l) M
    else
      ((1 : Int) = 0 ∨ (1 : Int) = 1) ∧ post (some (.inl 1)) (mh l) M))) :
    mv_Wp G 202 [.inr (.inr 88), .inl a] (mh l) M post := mv_wp [] 30 ok_202 oc_202 rfl h
set_option maxRecDepth 100000 in
theorem vw_X12_isTaken {G : mv_G} {l : Nat} {post : Option mv_V → mv_SH → mv_Mem → Prop} {M : mv_Mem} {a : Int} (h : (0 ≤ (a : Int) ∧ (a : Int) < ((8 : Nat) : Int)) ∧
  (0 ≤ (a : Int) ∧ (a : Int) < ((8 : Nat) : Int)) ∧
  mv_Wp G 147 [.inr (.inr 88), .inl (M 125 (Int.toNat a)), .inl (M 126 (Int.toNat a))] (mh l) M (mv_qi (mh l) fun x1 M1 =>
  (if x1 < 0 then
    ((0 : Int) = 0 ∨ (0 : Int) = 1) ∧ post (some (.inl 0)) (mh l) M1
  else
    ((1 : Int) = 0 ∨ (1 : Int) = 1) ∧ post (some (.inl 1)) (mh l) M1))) :
    mv_Wp G 203 [.inr (.inr 88), .inl a] (mh l) M post := mv_wp [] 35 ok_203 oc_203 rfl h
set_option maxRecDepth 100000 in
theorem vw_X12_findsWith {G : mv_G} {l : Nat} {post : Option mv_V → mv_SH → mv_Mem → Prop} {M : mv_Mem} {a : Int} (h : mv_Run G 204 136 7420 7 [(0, .inr (.inr 88)), (1, .inl a), (2, .inl (M 88 17)), (3, .inl 0)] [] (mh l) M post) :
    mv_Wp G 204 [.inr (.inr 88), .inl a] (mh l) M post := mv_wp [(7, [0, 1, 2, 3]), (59, [0, 1, 2, 3]), (115, [0, 3])] 122 ok_204 oc_204 rfl h
set_option maxRecDepth 100000 in
theorem vr_X12_findsWith_7 {G : mv_G} {l : Nat} {post : Option mv_V → mv_SH → mv_Mem → Prop} {M : mv_Mem} {a v2 v3 : Int} (h : (if (M 88 17) ≤ v3 then
    mv_Run G 204 136 7420 59 [(0, .inr (.inr 88)), (1, .inl a), (2, .inl v2), (3, .inl 0)] [] (mh l) M post
  else
    (0 ≤ (v3 : Int) ∧ (v3 : Int) < ((20 : Nat) : Int)) ∧
    (0 ≤ (v3 : Int) ∧ (v3 : Int) < ((20 : Nat) : Int)) ∧
    (0 ≤ (v3 : Int) ∧ (v3 : Int) < ((20 : Nat) : Int)) ∧
    (0 ≤ (v3 : Int) ∧ (v3 : Int) < ((20 : Nat) : Int)) ∧
    (0 ≤ (v3 : Int) ∧ (v3 : Int) < ((20 : Nat) : Int)) ∧
    (0 ≤ (v3 : Int) ∧ (v3 : Int) < ((20 : Nat) : Int)) ∧
    mv_R32 (v3 + 1) ∧
    mv_Run G 204 136 7420 7 [(0, .inr (.inr 88)), (1, .inl a), (2, .inl v2), (3, .inl (v3 + 1))] [] (mh l) (mv_up (mv_up (mv_up M 129 (Int.toNat v3) (M 96 (Int.toNat v3))) 130 (Int.toNat v3) ((mv_up M 129 (Int.toNat v3) (M 96 (Int.toNat v3))) 97 (Int.toNat v3))) 131 (Int.toNat v3) ((mv_up (mv_up M 129 (Int.toNat v3) (M 96 (Int.toNat v3))) 130 (Int.toNat v3) ((mv_up M 129 (Int.toNat v3) (M 96 (Int.toNat v3))) 97 (Int.toNat v3))) 98 (Int.toNat v3))) post)) :
    mv_Run G 204 136 7420 7 [(0, .inr (.inr 88)), (1, .inl a), (2, .inl v2), (3, .inl v3)] [] (mh l) M post := mv_run [(7, [0, 1, 2, 3]), (59, [0, 1, 2, 3]), (115, [0, 3])] 122 ok_204 h
set_option maxRecDepth 100000 in
theorem vr_X12_findsWith_59 {G : mv_G} {l : Nat} {post : Option mv_V → mv_SH → mv_Mem → Prop} {M : mv_Mem} {a v2 v3 : Int} (h : (if (M 88 55) ≤ v3 then
    mv_Wp G 173 [.inr (.inr 88)] (mh l) M (mv_qv (mh l) fun M1 =>
    mv_Run G 204 136 7420 115 [(0, .inr (.inr 88)), (3, .inl 0)] [] (mh l) (mv_up M1 88 17 v2) post)
  else
    (if (mv_and (mv_shr a v3) 1) = 1 then
      (0 ≤ (v3 : Int) ∧ (v3 : Int) < ((8 : Nat) : Int)) ∧
      (0 ≤ (v3 : Int) ∧ (v3 : Int) < ((8 : Nat) : Int)) ∧
      (0 ≤ (v3 : Int) ∧ (v3 : Int) < ((8 : Nat) : Int)) ∧
      mv_Wp G 148 [.inr (.inr 88), .inl (M 125 (Int.toNat v3)), .inl (M 126 (Int.toNat v3)), .inl (M 127 (Int.toNat v3))] (mh l) M (mv_qv (mh l) fun M2 =>
      mv_R32 (v3 + 1) ∧
      mv_Run G 204 136 7420 59 [(0, .inr (.inr 88)), (1, .inl a), (2, .inl v2), (3, .inl (v3 + 1))] [] (mh l) M2 post)
    else
      mv_R32 (v3 + 1) ∧
      mv_Run G 204 136 7420 59 [(0, .inr (.inr 88)), (1, .inl a), (2, .inl v2), (3, .inl (v3 + 1))] [] (mh l) M post))) :
    mv_Run G 204 136 7420 59 [(0, .inr (.inr 88)), (1, .inl a), (2, .inl v2), (3, .inl v3)] [] (mh l) M post := mv_run [(7, [0, 1, 2, 3]), (59, [0, 1, 2, 3]), (115, [0, 3])] 122 ok_204 h
set_option maxRecDepth 100000 in
theorem vr_X12_findsWith_115 {G : mv_G} {l : Nat} {post : Option mv_V → mv_SH → mv_Mem → Prop} {M : mv_Mem} {v3 : Int} (h : (if (M 88 17) ≤ v3 then
    post none (mh l) M
  else
    (0 ≤ (v3 : Int) ∧ (v3 : Int) < ((20 : Nat) : Int)) ∧
    (0 ≤ (v3 : Int) ∧ (v3 : Int) < ((20 : Nat) : Int)) ∧
    (0 ≤ (v3 : Int) ∧ (v3 : Int) < ((20 : Nat) : Int)) ∧
    (0 ≤ (v3 : Int) ∧ (v3 : Int) < ((20 : Nat) : Int)) ∧
    (0 ≤ (v3 : Int) ∧ (v3 : Int) < ((20 : Nat) : Int)) ∧
    (0 ≤ (v3 : Int) ∧ (v3 : Int) < ((20 : Nat) : Int)) ∧
    mv_R32 (v3 + 1) ∧
    mv_Run G 204 136 7420 115 [(0, .inr (.inr 88)), (3, .inl (v3 + 1))] [] (mh l) (mv_up (mv_up (mv_up M 96 (Int.toNat v3) (M 129 (Int.toNat v3))) 97 (Int.toNat v3) ((mv_up M 96 (Int.toNat v3) (M 129 (Int.toNat v3))) 130 (Int.toNat v3))) 98 (Int.toNat v3) ((mv_up (mv_up M 96 (Int.toNat v3) (M 129 (Int.toNat v3))) 97 (Int.toNat v3) ((mv_up M 96 (Int.toNat v3) (M 129 (Int.toNat v3))) 130 (Int.toNat v3))) 131 (Int.toNat v3))) post)) :
    mv_Run G 204 136 7420 115 [(0, .inr (.inr 88)), (3, .inl v3)] [] (mh l) M post := mv_run [(7, [0, 1, 2, 3]), (59, [0, 1, 2, 3]), (115, [0, 3])] 122 ok_204 h
set_option maxRecDepth 100000 in
theorem vw_X12_gain {G : mv_G} {l : Nat} {post : Option mv_V → mv_SH → mv_Mem → Prop} {M : mv_Mem} {a : Int} (h : mv_Wp G 202 [.inr (.inr 88), .inl a] (mh l) M (mv_qi (mh l) fun x1 M1 =>
  (if x1 = 0 then
    mv_Wp G 134 [.inr (.inr 88), .inl (-1)] (mh l) M1 (mv_ql (mh l) fun x8 M8 =>
    post (some (.inr (.inl x8))) (mh l) M8)
  else
    mv_Wp G 203 [.inr (.inr 88), .inl a] (mh l) M1 (mv_qi (mh l) fun x2 M2 =>
    (if x2 = 0 then
      mv_Wp G 173 [.inr (.inr 88)] (mh l) M2 (mv_qv (mh l) fun M3 =>
      mv_Wp G 176 [.inr (.inr 88)] (mh l) M3 (mv_ql (mh l) fun x4 M4 =>
      mv_Wp G 204 [.inr (.inr 88), .inl (mv_shl 1 a)] (mh l) M4 (mv_qv (mh l) fun M5 =>
      mv_Wp G 176 [.inr (.inr 88)] (mh l) M5 (mv_ql (mh l) fun x6 M6 =>
      mv_R64 (x6 - x4) ∧
      (0 ≤ (a : Int) ∧ (a : Int) < ((8 : Nat) : Int)) ∧
      mv_R64 (100 * (M6 128 (Int.toNat a))) ∧
      mv_R64 ((x6 - x4) - (100 * (M6 128 (Int.toNat a)))) ∧
      post (some (.inr (.inl ((x6 - x4) - (100 * (M6 128 (Int.toNat a))))))) (mh l) M6))))
    else
      mv_Wp G 134 [.inr (.inr 88), .inl (-3)] (mh l) M2 (mv_ql (mh l) fun x7 M7 =>
      post (some (.inr (.inl x7))) (mh l) M7)))))) :
    mv_Wp G 205 [.inr (.inr 88), .inl a] (mh l) M post := mv_wp [] 59 ok_205 oc_205 rfl h
set_option maxRecDepth 100000 in
theorem vw_X12_costOf {G : mv_G} {l : Nat} {post : Option mv_V → mv_SH → mv_Mem → Prop} {M : mv_Mem} {a : Int} (h : mv_Run G 206 136 7420 4 [(0, .inr (.inr 88)), (1, .inl a), (2, .inl 0), (3, .inl 0)] [] (mh l) M post) :
    mv_Wp G 206 [.inr (.inr 88), .inl a] (mh l) M post := mv_wp [(4, [0, 1, 2, 3])] 48 ok_206 oc_206 rfl h
set_option maxRecDepth 100000 in
theorem vr_X12_costOf_4 {G : mv_G} {l : Nat} {post : Option mv_V → mv_SH → mv_Mem → Prop} {M : mv_Mem} {a v2 v3 : Int} (h : (if (M 88 55) ≤ v3 then
    post (some (.inl v2)) (mh l) M
  else
    (if (mv_and (mv_shr a v3) 1) = 1 then
      (0 ≤ (v3 : Int) ∧ (v3 : Int) < ((8 : Nat) : Int)) ∧
      mv_R32 (v2 + (M 128 (Int.toNat v3))) ∧
      mv_R32 (v3 + 1) ∧
      mv_Run G 206 136 7420 4 [(0, .inr (.inr 88)), (1, .inl a), (2, .inl (v2 + (M 128 (Int.toNat v3)))), (3, .inl (v3 + 1))] [] (mh l) M post
    else
      mv_R32 (v2 + 0) ∧
      mv_R32 (v3 + 1) ∧
      mv_Run G 206 136 7420 4 [(0, .inr (.inr 88)), (1, .inl a), (2, .inl (v2 + 0)), (3, .inl (v3 + 1))] [] (mh l) M post))) :
    mv_Run G 206 136 7420 4 [(0, .inr (.inr 88)), (1, .inl a), (2, .inl v2), (3, .inl v3)] [] (mh l) M post := mv_run [(4, [0, 1, 2, 3])] 48 ok_206 h
set_option maxRecDepth 100000 in
theorem vw_X12_best {G : mv_G} {l : Nat} {post : Option mv_V → mv_SH → mv_Mem → Prop} {M : mv_Mem} {a : Int} (h : mv_Wp G 136 [.inr (.inl a), .inr (.inl 0), .inr (.inl 99999)] (mh l) M (mv_qi (mh l) fun x1 M1 =>
  mv_Run G 207 136 7420 12 [(0, .inr (.inr 88)), (1, .inl a), (2, .inl x1), (3, .inl 0)] [] (mh l) M1 post)) :
    mv_Wp G 207 [.inr (.inr 88), .inl a] (mh l) M post := mv_wp [(12, [0, 1, 2, 3]), (63, [0, 1, 3, 4, 6])] 100 ok_207 oc_207 rfl h
set_option maxRecDepth 100000 in
theorem vr_X12_best_12 {G : mv_G} {l : Nat} {post : Option mv_V → mv_SH → mv_Mem → Prop} {M : mv_Mem} {a v2 v3 : Int} (h : (if (M 88 55) ≤ v3 then
    (if v2 = 0 then
      mv_Run G 207 136 7420 63 [(0, .inr (.inr 88)), (1, .inl a), (3, .inl (-1)), (4, .inr (.inl 0)), (6, .inl 0)] [] (mh l) M post
    else
      mv_Wp G 133 [.inr (.inr 88), .inl v2] (mh l) M (mv_qi (mh l) fun x1 M1 =>
      post (some (.inl x1)) (mh l) M1))
  else
    (if v2 = 0 then
      mv_Wp G 203 [.inr (.inr 88), .inl v3] (mh l) M (mv_qi (mh l) fun x3 M3 =>
      (if x3 = 0 then
        mv_R32 (v3 + 1) ∧
        mv_Run G 207 136 7420 12 [(0, .inr (.inr 88)), (1, .inl a), (2, .inl 0), (3, .inl (v3 + 1))] [] (mh l) M3 post
      else
        mv_R32 (v3 + 1) ∧
        mv_Run G 207 136 7420 12 [(0, .inr (.inr 88)), (1, .inl a), (2, .inl (-3)), (3, .inl (v3 + 1))] [] (mh l) M3 post))
    else
      (if v2 = 0 then
        mv_Run G 207 136 7420 63 [(0, .inr (.inr 88)), (1, .inl a), (3, .inl (-1)), (4, .inr (.inl 0)), (6, .inl 0)] [] (mh l) M post
      else
        mv_Wp G 133 [.inr (.inr 88), .inl v2] (mh l) M (mv_qi (mh l) fun x2 M2 =>
        post (some (.inl x2)) (mh l) M2))))) :
    mv_Run G 207 136 7420 12 [(0, .inr (.inr 88)), (1, .inl a), (2, .inl v2), (3, .inl v3)] [] (mh l) M post := mv_run [(12, [0, 1, 2, 3]), (63, [0, 1, 3, 4, 6])] 100 ok_207 h
set_option maxRecDepth 100000 in
theorem vr_X12_best_63 {G : mv_G} {l : Nat} {post : Option mv_V → mv_SH → mv_Mem → Prop} {M : mv_Mem} {a v3 v4 v6 : Int} (h : (if (mv_shl 1 (M 88 55)) ≤ v6 then
    post (some (.inl v3)) (mh l) M
  else
    mv_Wp G 206 [.inr (.inr 88), .inl v6] (mh l) M (mv_qi (mh l) fun x1 M1 =>
    (if x1 ≤ a then
      mv_Wp G 204 [.inr (.inr 88), .inl v6] (mh l) M1 (mv_qv (mh l) fun M2 =>
      mv_Wp G 176 [.inr (.inr 88)] (mh l) M2 (mv_ql (mh l) fun x3 M3 =>
      (if v3 < 0 then
        mv_R32 (v6 + 1) ∧
        mv_Run G 207 136 7420 63 [(0, .inr (.inr 88)), (1, .inl a), (3, .inl v6), (4, .inr (.inl x3)), (6, .inl (v6 + 1))] [] (mh l) M3 post
      else
        (if (mv_cmp x3 v4) < 0 then
          mv_R32 (v6 + 1) ∧
          mv_Run G 207 136 7420 63 [(0, .inr (.inr 88)), (1, .inl a), (3, .inl v3), (4, .inr (.inl v4)), (6, .inl (v6 + 1))] [] (mh l) M3 post
        else
          (if (mv_cmp x3 v4) = 0 then
            mv_Wp G 206 [.inr (.inr 88), .inl v6] (mh l) M3 (mv_qi (mh l) fun x4 M4 =>
            mv_Wp G 206 [.inr (.inr 88), .inl v3] (mh l) M4 (mv_qi (mh l) fun x5 M5 =>
            (if x4 < x5 then
              mv_R32 (v6 + 1) ∧
              mv_Run G 207 136 7420 63 [(0, .inr (.inr 88)), (1, .inl a), (3, .inl v6), (4, .inr (.inl x3)), (6, .inl (v6 + 1))] [] (mh l) M5 post
            else
              mv_R32 (v6 + 1) ∧
              mv_Run G 207 136 7420 63 [(0, .inr (.inr 88)), (1, .inl a), (3, .inl v3), (4, .inr (.inl v4)), (6, .inl (v6 + 1))] [] (mh l) M5 post)))
          else
            mv_R32 (v6 + 1) ∧
            mv_Run G 207 136 7420 63 [(0, .inr (.inr 88)), (1, .inl a), (3, .inl v6), (4, .inr (.inl x3)), (6, .inl (v6 + 1))] [] (mh l) M3 post)))))
    else
      mv_R32 (v6 + 1) ∧
      mv_Run G 207 136 7420 63 [(0, .inr (.inr 88)), (1, .inl a), (3, .inl v3), (4, .inr (.inl v4)), (6, .inl (v6 + 1))] [] (mh l) M1 post)))) :
    mv_Run G 207 136 7420 63 [(0, .inr (.inr 88)), (1, .inl a), (3, .inl v3), (4, .inr (.inl v4)), (6, .inl v6)] [] (mh l) M post := mv_run [(12, [0, 1, 2, 3]), (63, [0, 1, 3, 4, 6])] 100 ok_207 h
set_option maxRecDepth 100000 in
theorem vw_X12_losers {G : mv_G} {l : Nat} {post : Option mv_V → mv_SH → mv_Mem → Prop} {M : mv_Mem} {a : Int} (h : mv_Wp G 202 [.inr (.inr 88), .inl a] (mh l) M (mv_qi (mh l) fun x1 M1 =>
  (if x1 = 0 then
    mv_Wp G 133 [.inr (.inr 88), .inl (-1)] (mh l) M1 (mv_qi (mh l) fun x5 M5 =>
    post (some (.inl x5)) (mh l) M5)
  else
    mv_Wp G 203 [.inr (.inr 88), .inl a] (mh l) M1 (mv_qi (mh l) fun x2 M2 =>
    (if x2 = 0 then
      mv_Wp G 173 [.inr (.inr 88)] (mh l) M2 (mv_qv (mh l) fun M3 =>
      mv_Run G 208 136 7420 35 [(0, .inr (.inr 88)), (1, .inl a), (2, .inl 0)] [] (mh l) M3 post)
    else
      mv_Wp G 133 [.inr (.inr 88), .inl (-3)] (mh l) M2 (mv_qi (mh l) fun x4 M4 =>
      post (some (.inl x4)) (mh l) M4)))))) :
    mv_Wp G 208 [.inr (.inr 88), .inl a] (mh l) M post := mv_wp [(35, [0, 1, 2]), (69, [0, 2, 3])] 83 ok_208 oc_208 rfl h
set_option maxRecDepth 100000 in
theorem vr_X12_losers_35 {G : mv_G} {l : Nat} {post : Option mv_V → mv_SH → mv_Mem → Prop} {M : mv_Mem} {a v2 : Int} (h : (if 48 ≤ v2 then
    mv_Wp G 204 [.inr (.inr 88), .inl (mv_shl 1 a)] (mh l) M (mv_qv (mh l) fun M1 =>
    mv_Run G 208 136 7420 69 [(0, .inr (.inr 88)), (2, .inl 0), (3, .inl 0)] [] (mh l) M1 post)
  else
    mv_Wp G 175 [.inr (.inr 88), .inl v2] (mh l) M (mv_ql (mh l) fun x2 M2 =>
    (0 ≤ (v2 : Int) ∧ (v2 : Int) < ((48 : Nat) : Int)) ∧
    mv_R32 (v2 + 1) ∧
    mv_Run G 208 136 7420 35 [(0, .inr (.inr 88)), (1, .inl a), (2, .inl (v2 + 1))] [] (mh l) (mv_up M2 132 (Int.toNat v2) x2) post))) :
    mv_Run G 208 136 7420 35 [(0, .inr (.inr 88)), (1, .inl a), (2, .inl v2)] [] (mh l) M post := mv_run [(35, [0, 1, 2]), (69, [0, 2, 3])] 83 ok_208 h
set_option maxRecDepth 100000 in
theorem vr_X12_losers_69 {G : mv_G} {l : Nat} {post : Option mv_V → mv_SH → mv_Mem → Prop} {M : mv_Mem} {v2 v3 : Int} (h : (if 48 ≤ v3 then
    post (some (.inl v2)) (mh l) M
  else
    mv_Wp G 175 [.inr (.inr 88), .inl v3] (mh l) M (mv_ql (mh l) fun x1 M1 =>
    (0 ≤ (v3 : Int) ∧ (v3 : Int) < ((48 : Nat) : Int)) ∧
    (if 0 ≤ (mv_cmp x1 (M1 132 (Int.toNat v3))) then
      mv_R32 (v2 + 0) ∧
      mv_R32 (v3 + 1) ∧
      mv_Run G 208 136 7420 69 [(0, .inr (.inr 88)), (2, .inl (v2 + 0)), (3, .inl (v3 + 1))] [] (mh l) M1 post
    else
      mv_R32 (v2 + 1) ∧
      mv_R32 (v3 + 1) ∧
      mv_Run G 208 136 7420 69 [(0, .inr (.inr 88)), (2, .inl (v2 + 1)), (3, .inl (v3 + 1))] [] (mh l) M1 post)))) :
    mv_Run G 208 136 7420 69 [(0, .inr (.inr 88)), (2, .inl v2), (3, .inl v3)] [] (mh l) M post := mv_run [(35, [0, 1, 2]), (69, [0, 2, 3])] 83 ok_208 h
set_option maxRecDepth 100000 in
theorem vw_X12_falls {G : mv_G} {l : Nat} {post : Option mv_V → mv_SH → mv_Mem → Prop} {M : mv_Mem} {a b : Int} (h : mv_Wp G 160 [.inr (.inr 88), .inl a] (mh l) M (mv_qi (mh l) fun x1 M1 =>
  (if x1 = 0 then
    mv_Wp G 133 [.inr (.inr 88), .inl (-1)] (mh l) M1 (mv_qi (mh l) fun x5 M5 =>
    post (some (.inl x5)) (mh l) M5)
  else
    mv_Wp G 136 [.inr (.inl b), .inr (.inl 0), .inr (.inl 9999)] (mh l) M1 (mv_qi (mh l) fun x2 M2 =>
    (if x2 = 0 then
      mv_Wp G 173 [.inr (.inr 88)] (mh l) M2 (mv_qv (mh l) fun M3 =>
      mv_Run G 209 136 7420 41 [(0, .inr (.inr 88)), (1, .inl a), (2, .inl b), (4, .inl 0)] [] (mh l) M3 post)
    else
      mv_Wp G 133 [.inr (.inr 88), .inl x2] (mh l) M2 (mv_qi (mh l) fun x4 M4 =>
      post (some (.inl x4)) (mh l) M4)))))) :
    mv_Wp G 209 [.inr (.inr 88), .inl a, .inl b] (mh l) M post := mv_wp [(41, [0, 1, 2, 4]), (110, [0, 5, 6])] 107 ok_209 oc_209 rfl h
set_option maxRecDepth 100000 in
theorem vr_X12_falls_41 {G : mv_G} {l : Nat} {post : Option mv_V → mv_SH → mv_Mem → Prop} {M : mv_Mem} {a b v4 : Int} (h : (if 48 ≤ v4 then
    (0 ≤ (a : Int) ∧ (a : Int) < ((6 : Nat) : Int)) ∧
    (0 ≤ (a : Int) ∧ (a : Int) < ((6 : Nat) : Int)) ∧
    mv_Wp G 173 [.inr (.inr 88)] (mh l) (mv_up M 110 (Int.toNat a) b) (mv_qv (mh l) fun M1 =>
    (0 ≤ (a : Int) ∧ (a : Int) < ((6 : Nat) : Int)) ∧
    mv_Run G 209 136 7420 110 [(0, .inr (.inr 88)), (5, .inl 0), (6, .inl 0)] [] (mh l) (mv_up M1 110 (Int.toNat a) (M 110 (Int.toNat a))) post)
  else
    (0 ≤ (v4 : Int) ∧ (v4 : Int) < ((48 : Nat) : Int)) ∧
    (if (M 117 (Int.toNat v4)) = a then
      ((0 ≤ (v4 : Int) ∧ (v4 : Int) < ((48 : Nat) : Int)) ∧ ((1 : Int) = 0 ∨ (1 : Int) = 1)) ∧
      mv_R32 (v4 + 1) ∧
      mv_Run G 209 136 7420 41 [(0, .inr (.inr 88)), (1, .inl a), (2, .inl b), (4, .inl (v4 + 1))] [] (mh l) (mv_up M 133 (Int.toNat v4) 1) post
    else
      ((0 ≤ (v4 : Int) ∧ (v4 : Int) < ((48 : Nat) : Int)) ∧ ((0 : Int) = 0 ∨ (0 : Int) = 1)) ∧
      mv_R32 (v4 + 1) ∧
      mv_Run G 209 136 7420 41 [(0, .inr (.inr 88)), (1, .inl a), (2, .inl b), (4, .inl (v4 + 1))] [] (mh l) (mv_up M 133 (Int.toNat v4) 0) post))) :
    mv_Run G 209 136 7420 41 [(0, .inr (.inr 88)), (1, .inl a), (2, .inl b), (4, .inl v4)] [] (mh l) M post := mv_run [(41, [0, 1, 2, 4]), (110, [0, 5, 6])] 107 ok_209 h
set_option maxRecDepth 100000 in
theorem vr_X12_falls_110 {G : mv_G} {l : Nat} {post : Option mv_V → mv_SH → mv_Mem → Prop} {M : mv_Mem} {v5 v6 : Int} (h : (if 48 ≤ v6 then
    post (some (.inl v5)) (mh l) M
  else
    (0 ≤ (v6 : Int) ∧ (v6 : Int) < ((48 : Nat) : Int)) ∧
    (if (M 133 (Int.toNat v6)) = 0 then
      mv_R32 (v5 + 0) ∧
      mv_R32 (v6 + 1) ∧
      mv_Run G 209 136 7420 110 [(0, .inr (.inr 88)), (5, .inl (v5 + 0)), (6, .inl (v6 + 1))] [] (mh l) M post
    else
      (0 ≤ (v6 : Int) ∧ (v6 : Int) < ((48 : Nat) : Int)) ∧
      (if (M 117 (Int.toNat v6)) = (-9) then
        mv_R32 (v5 + 1) ∧
        mv_R32 (v6 + 1) ∧
        mv_Run G 209 136 7420 110 [(0, .inr (.inr 88)), (5, .inl (v5 + 1)), (6, .inl (v6 + 1))] [] (mh l) M post
      else
        mv_R32 (v5 + 0) ∧
        mv_R32 (v6 + 1) ∧
        mv_Run G 209 136 7420 110 [(0, .inr (.inr 88)), (5, .inl (v5 + 0)), (6, .inl (v6 + 1))] [] (mh l) M post)))) :
    mv_Run G 209 136 7420 110 [(0, .inr (.inr 88)), (5, .inl v5), (6, .inl v6)] [] (mh l) M post := mv_run [(41, [0, 1, 2, 4]), (110, [0, 5, 6])] 107 ok_209 h
set_option maxRecDepth 100000 in
theorem vw_X12_own {G : mv_G} {l : Nat} {post : Option mv_V → mv_SH → mv_Mem → Prop} {M : mv_Mem} {a b : Int} (h : mv_Wp G 142 [.inr (.inr 88), .inl a] (mh l) M (mv_qi (mh l) fun x1 M1 =>
  (if 0 ≤ x1 then
    mv_Wp G 136 [.inr (.inl b), .inr (.inl (-1)), .inr (.inl 3)] (mh l) M1 (mv_qi (mh l) fun x2 M2 =>
    (if x2 = 0 then
      (if 0 ≤ b then
        (0 ≤ (x1 : Int) ∧ (x1 : Int) < ((48 : Nat) : Int)) ∧
        (if (M2 93 (Int.toNat x1)) = b then
          post (some (.inl 0)) (mh l) M2
        else
          (0 ≤ (x1 : Int) ∧ (x1 : Int) < ((48 : Nat) : Int)) ∧
          post (some (.inl 1)) (mh l) (mv_up M2 93 (Int.toNat x1) b))
      else
        (0 ≤ (x1 : Int) ∧ (x1 : Int) < ((48 : Nat) : Int)) ∧
        (if (M2 93 (Int.toNat x1)) = (-9) then
          post (some (.inl 0)) (mh l) M2
        else
          (0 ≤ (x1 : Int) ∧ (x1 : Int) < ((48 : Nat) : Int)) ∧
          post (some (.inl 1)) (mh l) (mv_up M2 93 (Int.toNat x1) (-9))))
    else
      mv_Wp G 133 [.inr (.inr 88), .inl x2] (mh l) M2 (mv_qi (mh l) fun x3 M3 =>
      post (some (.inl x3)) (mh l) M3)))
  else
    mv_Wp G 133 [.inr (.inr 88), .inl (-1)] (mh l) M1 (mv_qi (mh l) fun x4 M4 =>
    post (some (.inl x4)) (mh l) M4)))) :
    mv_Wp G 210 [.inr (.inr 88), .inl a, .inl b] (mh l) M post := mv_wp [] 63 ok_210 oc_210 rfl h
set_option maxRecDepth 100000 in
theorem vw_X12_held {G : mv_G} {l : Nat} {post : Option mv_V → mv_SH → mv_Mem → Prop} {M : mv_Mem} {a b : Int} (h : mv_Wp G 142 [.inr (.inr 88), .inl a] (mh l) M (mv_qi (mh l) fun x1 M1 =>
  (if 0 ≤ x1 then
    (0 ≤ (x1 : Int) ∧ (x1 : Int) < ((48 : Nat) : Int)) ∧
    (if (M1 95 (Int.toNat x1)) = b then
      post (some (.inl 0)) (mh l) M1
    else
      ((0 ≤ (x1 : Int) ∧ (x1 : Int) < ((48 : Nat) : Int)) ∧ ((b : Int) = 0 ∨ (b : Int) = 1)) ∧
      post (some (.inl 1)) (mh l) (mv_up M1 95 (Int.toNat x1) b))
  else
    mv_Wp G 133 [.inr (.inr 88), .inl (-1)] (mh l) M1 (mv_qi (mh l) fun x2 M2 =>
    post (some (.inl x2)) (mh l) M2)))) :
    mv_Wp G 211 [.inr (.inr 88), .inl a, .inl b] (mh l) M post := mv_wp [] 45 ok_211 oc_211 rfl h
set_option maxRecDepth 100000 in
theorem vw_X12_rentsBehind {G : mv_G} {l : Nat} {post : Option mv_V → mv_SH → mv_Mem → Prop} {M : mv_Mem} {a : Int} (h : mv_Run G 212 136 7420 2 [(0, .inr (.inr 88)), (1, .inl a), (2, .inl 0)] [] (mh l) M post) :
    mv_Wp G 212 [.inr (.inr 88), .inl a] (mh l) M post := mv_wp [(2, [0, 1, 2]), (37, [0, 1, 2]), (66, [0, 1, 2, 4])] 80 ok_212 oc_212 rfl h
set_option maxRecDepth 100000 in
theorem vr_X12_rentsBehind_2 {G : mv_G} {l : Nat} {post : Option mv_V → mv_SH → mv_Mem → Prop} {M : mv_Mem} {a v2 : Int} (h : (if 18 ≤ v2 then
    mv_Wp G 187 [.inr (.inr 88)] (mh l) M (mv_qi (mh l) fun x1 M1 =>
    mv_Wp G 173 [.inr (.inr 88)] (mh l) M1 (mv_qv (mh l) fun M2 =>
    mv_Run G 212 136 7420 37 [(0, .inr (.inr 88)), (1, .inl a), (2, .inl 0)] [] (mh l) M2 post))
  else
    (0 ≤ (v2 : Int) ∧ (v2 : Int) < ((18 : Nat) : Int)) ∧
    (0 ≤ (v2 : Int) ∧ (v2 : Int) < ((18 : Nat) : Int)) ∧
    mv_R32 (v2 + 1) ∧
    mv_Run G 212 136 7420 2 [(0, .inr (.inr 88)), (1, .inl a), (2, .inl (v2 + 1))] [] (mh l) (mv_up M 134 (Int.toNat v2) (M 113 (Int.toNat v2))) post)) :
    mv_Run G 212 136 7420 2 [(0, .inr (.inr 88)), (1, .inl a), (2, .inl v2)] [] (mh l) M post := mv_run [(2, [0, 1, 2]), (37, [0, 1, 2]), (66, [0, 1, 2, 4])] 80 ok_212 h
set_option maxRecDepth 100000 in
theorem vr_X12_rentsBehind_37 {G : mv_G} {l : Nat} {post : Option mv_V → mv_SH → mv_Mem → Prop} {M : mv_Mem} {a v2 : Int} (h : (if 18 ≤ v2 then
    mv_Run G 212 136 7420 66 [(0, .inr (.inr 88)), (1, .inl a), (2, .inr (.inl 0)), (4, .inl 0)] [] (mh l) M post
  else
    (0 ≤ (v2 : Int) ∧ (v2 : Int) < ((18 : Nat) : Int)) ∧
    (0 ≤ (v2 : Int) ∧ (v2 : Int) < ((18 : Nat) : Int)) ∧
    mv_R32 (v2 + 1) ∧
    mv_Run G 212 136 7420 37 [(0, .inr (.inr 88)), (1, .inl a), (2, .inl (v2 + 1))] [] (mh l) (mv_up M 113 (Int.toNat v2) (M 134 (Int.toNat v2))) post)) :
    mv_Run G 212 136 7420 37 [(0, .inr (.inr 88)), (1, .inl a), (2, .inl v2)] [] (mh l) M post := mv_run [(2, [0, 1, 2]), (37, [0, 1, 2]), (66, [0, 1, 2, 4])] 80 ok_212 h
set_option maxRecDepth 100000 in
theorem vr_X12_rentsBehind_66 {G : mv_G} {l : Nat} {post : Option mv_V → mv_SH → mv_Mem → Prop} {M : mv_Mem} {a v2 v4 : Int} (h : (if 48 ≤ v4 then
    post (some (.inr (.inl v2))) (mh l) M
  else
    (0 ≤ (v4 : Int) ∧ (v4 : Int) < ((48 : Nat) : Int)) ∧
    (if (M 93 (Int.toNat v4)) = a then
      mv_Wp G 175 [.inr (.inr 88), .inl v4] (mh l) M (mv_ql (mh l) fun x1 M1 =>
      mv_R64 (v2 + x1) ∧
      mv_R32 (v4 + 1) ∧
      mv_Run G 212 136 7420 66 [(0, .inr (.inr 88)), (1, .inl a), (2, .inr (.inl (v2 + x1))), (4, .inl (v4 + 1))] [] (mh l) M1 post)
    else
      mv_R64 (v2 + 0) ∧
      mv_R32 (v4 + 1) ∧
      mv_Run G 212 136 7420 66 [(0, .inr (.inr 88)), (1, .inl a), (2, .inr (.inl (v2 + 0))), (4, .inl (v4 + 1))] [] (mh l) M post))) :
    mv_Run G 212 136 7420 66 [(0, .inr (.inr 88)), (1, .inl a), (2, .inr (.inl v2)), (4, .inl v4)] [] (mh l) M post := mv_run [(2, [0, 1, 2]), (37, [0, 1, 2]), (66, [0, 1, 2, 4])] 80 ok_212 h
set_option maxRecDepth 100000 in
theorem vw_X12_hold {G : mv_G} {l : Nat} {post : Option mv_V → mv_SH → mv_Mem → Prop} {M : mv_Mem} {a : Int} (h : mv_Wp G 136 [.inr (.inl a), .inr (.inl 0), .inr (.inl 3)] (mh l) M (mv_qi (mh l) fun x1 M1 =>
  (if x1 = 0 then
    mv_Wp G 173 [.inr (.inr 88)] (mh l) M1 (mv_qv (mh l) fun M2 =>
    mv_Run G 213 136 7420 26 [(0, .inr (.inr 88)), (1, .inl a), (3, .inl 0)] [] (mh l) M2 post)
  else
    mv_Wp G 133 [.inr (.inr 88), .inl x1] (mh l) M1 (mv_qi (mh l) fun x3 M3 =>
    post (some (.inl x3)) (mh l) M3)))) :
    mv_Wp G 213 [.inr (.inr 88), .inl a] (mh l) M post := mv_wp [(26, [0, 1, 3]), (81, [0, 1, 3, 5, 6])] 109 ok_213 oc_213 rfl h
set_option maxRecDepth 100000 in
theorem vr_X12_hold_26 {G : mv_G} {l : Nat} {post : Option mv_V → mv_SH → mv_Mem → Prop} {M : mv_Mem} {a v3 : Int} (h : (if 48 ≤ v3 then
    mv_Wp G 212 [.inr (.inr 88), .inl a] (mh l) M (mv_ql (mh l) fun x1 M1 =>
    mv_Run G 213 136 7420 81 [(0, .inr (.inr 88)), (1, .inl a), (3, .inr (.inl x1)), (5, .inl (-9)), (6, .inl 0)] [] (mh l) M1 post)
  else
    (0 ≤ (v3 : Int) ∧ (v3 : Int) < ((48 : Nat) : Int)) ∧
    (if (M 117 (Int.toNat v3)) < 0 then
      ((0 ≤ (v3 : Int) ∧ (v3 : Int) < ((48 : Nat) : Int)) ∧ ((0 : Int) = 0 ∨ (0 : Int) = 1)) ∧
      mv_R32 (v3 + 1) ∧
      mv_Run G 213 136 7420 26 [(0, .inr (.inr 88)), (1, .inl a), (3, .inl (v3 + 1))] [] (mh l) (mv_up M 133 (Int.toNat v3) 0) post
    else
      (0 ≤ (v3 : Int) ∧ (v3 : Int) < ((48 : Nat) : Int)) ∧
      (if (M 93 (Int.toNat v3)) = a then
        ((0 ≤ (v3 : Int) ∧ (v3 : Int) < ((48 : Nat) : Int)) ∧ ((1 : Int) = 0 ∨ (1 : Int) = 1)) ∧
        mv_R32 (v3 + 1) ∧
        mv_Run G 213 136 7420 26 [(0, .inr (.inr 88)), (1, .inl a), (3, .inl (v3 + 1))] [] (mh l) (mv_up M 133 (Int.toNat v3) 1) post
      else
        ((0 ≤ (v3 : Int) ∧ (v3 : Int) < ((48 : Nat) : Int)) ∧ ((0 : Int) = 0 ∨ (0 : Int) = 1)) ∧
        mv_R32 (v3 + 1) ∧
        mv_Run G 213 136 7420 26 [(0, .inr (.inr 88)), (1, .inl a), (3, .inl (v3 + 1))] [] (mh l) (mv_up M 133 (Int.toNat v3) 0) post)))) :
    mv_Run G 213 136 7420 26 [(0, .inr (.inr 88)), (1, .inl a), (3, .inl v3)] [] (mh l) M post := mv_run [(26, [0, 1, 3]), (81, [0, 1, 3, 5, 6])] 109 ok_213 h
set_option maxRecDepth 100000 in
theorem vr_X12_hold_81 {G : mv_G} {l : Nat} {post : Option mv_V → mv_SH → mv_Mem → Prop} {M : mv_Mem} {a v3 v5 v6 : Int} (h : (if 80 ≤ v6 then
    post (some (.inl v5)) (mh l) M
  else
    mv_Wp G 142 [.inr (.inr 88), .inl v6] (mh l) M (mv_qi (mh l) fun x1 M1 =>
    (if x1 < 0 then
      mv_R32 (v6 + 1) ∧
      mv_Run G 213 136 7420 81 [(0, .inr (.inr 88)), (1, .inl a), (3, .inr (.inl v3)), (5, .inl v5), (6, .inl (v6 + 1))] [] (mh l) M1 post
    else
      (0 ≤ (x1 : Int) ∧ (x1 : Int) < ((48 : Nat) : Int)) ∧
      (if (M1 133 (Int.toNat x1)) = 0 then
        mv_R32 (v6 + 1) ∧
        mv_Run G 213 136 7420 81 [(0, .inr (.inr 88)), (1, .inl a), (3, .inr (.inl v3)), (5, .inl v5), (6, .inl (v6 + 1))] [] (mh l) M1 post
      else
        ((0 ≤ (x1 : Int) ∧ (x1 : Int) < ((48 : Nat) : Int)) ∧ ((1 : Int) = 0 ∨ (1 : Int) = 1)) ∧
        mv_Wp G 212 [.inr (.inr 88), .inl a] (mh l) (mv_up M1 95 (Int.toNat x1) 1) (mv_ql (mh l) fun x2 M2 =>
        ((0 ≤ (x1 : Int) ∧ (x1 : Int) < ((48 : Nat) : Int)) ∧ ((0 : Int) = 0 ∨ (0 : Int) = 1)) ∧
        (if 0 < (mv_cmp x2 v3) then
          mv_R32 (v6 + 1) ∧
          mv_Run G 213 136 7420 81 [(0, .inr (.inr 88)), (1, .inl a), (3, .inr (.inl x2)), (5, .inl v6), (6, .inl (v6 + 1))] [] (mh l) (mv_up M2 95 (Int.toNat x1) 0) post
        else
          mv_R32 (v6 + 1) ∧
          mv_Run G 213 136 7420 81 [(0, .inr (.inr 88)), (1, .inl a), (3, .inr (.inl v3)), (5, .inl v5), (6, .inl (v6 + 1))] [] (mh l) (mv_up M2 95 (Int.toNat x1) 0) post))))))) :
    mv_Run G 213 136 7420 81 [(0, .inr (.inr 88)), (1, .inl a), (3, .inr (.inl v3)), (5, .inl v5), (6, .inl v6)] [] (mh l) M post := mv_run [(26, [0, 1, 3]), (81, [0, 1, 3, 5, 6])] 109 ok_213 h
set_option maxRecDepth 100000 in
theorem vw_X12_put {G : mv_G} {l : Nat} {post : Option mv_V → mv_SH → mv_Mem → Prop} {M : mv_Mem} {a : Int} (h : mv_Wp G 136 [.inr (.inl a), .inr (.inl (-1)), .inr (.inl 99)] (mh l) M (mv_qi (mh l) fun x1 M1 =>
  (if x1 = 0 then
    (if (M1 88 60) = 48 then
      (if (-6) = 0 then
        (0 ≤ (M1 88 60 : Int) ∧ (M1 88 60 : Int) < ((48 : Nat) : Int)) ∧
        mv_R32 (((mv_up M1 135 (Int.toNat (M1 88 60)) a) 88 60) + 1) ∧
        post (some (.inl ((mv_up (mv_up M1 135 (Int.toNat (M1 88 60)) a) 88 60 (((mv_up M1 135 (Int.toNat (M1 88 60)) a) 88 60) + 1)) 88 60))) (mh l) (mv_up (mv_up M1 135 (Int.toNat (M1 88 60)) a) 88 60 (((mv_up M1 135 (Int.toNat (M1 88 60)) a) 88 60) + 1))
      else
        mv_Wp G 133 [.inr (.inr 88), .inl (-6)] (mh l) M1 (mv_qi (mh l) fun x4 M4 =>
        post (some (.inl x4)) (mh l) M4))
    else
      (if x1 = 0 then
        (0 ≤ (M1 88 60 : Int) ∧ (M1 88 60 : Int) < ((48 : Nat) : Int)) ∧
        mv_R32 (((mv_up M1 135 (Int.toNat (M1 88 60)) a) 88 60) + 1) ∧
        post (some (.inl ((mv_up (mv_up M1 135 (Int.toNat (M1 88 60)) a) 88 60 (((mv_up M1 135 (Int.toNat (M1 88 60)) a) 88 60) + 1)) 88 60))) (mh l) (mv_up (mv_up M1 135 (Int.toNat (M1 88 60)) a) 88 60 (((mv_up M1 135 (Int.toNat (M1 88 60)) a) 88 60) + 1))
      else
        mv_Wp G 133 [.inr (.inr 88), .inl x1] (mh l) M1 (mv_qi (mh l) fun x3 M3 =>
        post (some (.inl x3)) (mh l) M3)))
  else
    (if x1 = 0 then
      (0 ≤ (M1 88 60 : Int) ∧ (M1 88 60 : Int) < ((48 : Nat) : Int)) ∧
      mv_R32 (((mv_up M1 135 (Int.toNat (M1 88 60)) a) 88 60) + 1) ∧
      post (some (.inl ((mv_up (mv_up M1 135 (Int.toNat (M1 88 60)) a) 88 60 (((mv_up M1 135 (Int.toNat (M1 88 60)) a) 88 60) + 1)) 88 60))) (mh l) (mv_up (mv_up M1 135 (Int.toNat (M1 88 60)) a) 88 60 (((mv_up M1 135 (Int.toNat (M1 88 60)) a) 88 60) + 1))
    else
      mv_Wp G 133 [.inr (.inr 88), .inl x1] (mh l) M1 (mv_qi (mh l) fun x2 M2 =>
      post (some (.inl x2)) (mh l) M2))))) :
    mv_Wp G 214 [.inr (.inr 88), .inl a] (mh l) M post := mv_wp [] 55 ok_214 oc_214 rfl h
set_option maxRecDepth 100000 in
theorem vw_X12_judge {G : mv_G} {l : Nat} {post : Option mv_V → mv_SH → mv_Mem → Prop} {M : mv_Mem} (h : mv_Wp G 173 [.inr (.inr 88)] (mh l) M (mv_qv (mh l) fun M1 =>
  mv_Run G 215 136 7420 16 [(0, .inr (.inr 88)), (1, .inl (M1 88 60)), (2, .inl 0)] [] (mh l) (mv_up M1 88 60 0) post)) :
    mv_Wp G 215 [.inr (.inr 88)] (mh l) M post := mv_wp [(16, [0, 1, 2])] 87 ok_215 oc_215 rfl h
set_option maxRecDepth 100000 in
theorem vr_X12_judge_16 {G : mv_G} {l : Nat} {post : Option mv_V → mv_SH → mv_Mem → Prop} {M : mv_Mem} {v1 v2 : Int} (h : mv_R32 ((M 88 8) * (M 88 9)) ∧
  (if ((M 88 8) * (M 88 9)) ≤ v2 then
    mv_R32 ((M 88 8) * (M 88 9)) ∧
    (if v1 ≤ ((M 88 8) * (M 88 9)) then
      post (some (.inl (-9))) (mh l) M
    else
      post (some (.inl 99)) (mh l) M)
  else
    (¬ (M 88 8 : Int) = 0 ∧ mv_R32 (Int.tdiv v2 (M 88 8))) ∧
    mv_R32 (8 * (Int.tdiv v2 (M 88 8))) ∧
    ¬ (M 88 8 : Int) = 0 ∧
    mv_R32 ((8 * (Int.tdiv v2 (M 88 8))) + (Int.tmod v2 (M 88 8))) ∧
    (0 ≤ ((8 * (Int.tdiv v2 (M 88 8))) + (Int.tmod v2 (M 88 8)) : Int) ∧ ((8 * (Int.tdiv v2 (M 88 8))) + (Int.tmod v2 (M 88 8)) : Int) < ((48 : Nat) : Int)) ∧
    (if (M 117 (Int.toNat ((8 * (Int.tdiv v2 (M 88 8))) + (Int.tmod v2 (M 88 8))))) = (-9) then
      (if v1 ≤ v2 then
        mv_Wp G 144 [.inl ((8 * (Int.tdiv v2 (M 88 8))) + (Int.tmod v2 (M 88 8)))] (mh l) M (mv_qi (mh l) fun x3 M3 =>
        post (some (.inl x3)) (mh l) M3)
      else
        (0 ≤ (v2 : Int) ∧ (v2 : Int) < ((48 : Nat) : Int)) ∧
        (if (M 135 (Int.toNat v2)) = (-1) then
          mv_R32 (v2 + 1) ∧
          mv_Run G 215 136 7420 16 [(0, .inr (.inr 88)), (1, .inl v1), (2, .inl (v2 + 1))] [] (mh l) M post
        else
          mv_Wp G 144 [.inl ((8 * (Int.tdiv v2 (M 88 8))) + (Int.tmod v2 (M 88 8)))] (mh l) M (mv_qi (mh l) fun x4 M4 =>
          post (some (.inl x4)) (mh l) M4)))
    else
      (0 ≤ ((8 * (Int.tdiv v2 (M 88 8))) + (Int.tmod v2 (M 88 8)) : Int) ∧ ((8 * (Int.tdiv v2 (M 88 8))) + (Int.tmod v2 (M 88 8)) : Int) < ((48 : Nat) : Int)) ∧
      (if v1 ≤ v2 then
        mv_Wp G 144 [.inl ((8 * (Int.tdiv v2 (M 88 8))) + (Int.tmod v2 (M 88 8)))] (mh l) M (mv_qi (mh l) fun x1 M1 =>
        post (some (.inl x1)) (mh l) M1)
      else
        (0 ≤ (v2 : Int) ∧ (v2 : Int) < ((48 : Nat) : Int)) ∧
        (if (M 135 (Int.toNat v2)) = (M 117 (Int.toNat ((8 * (Int.tdiv v2 (M 88 8))) + (Int.tmod v2 (M 88 8))))) then
          mv_R32 (v2 + 1) ∧
          mv_Run G 215 136 7420 16 [(0, .inr (.inr 88)), (1, .inl v1), (2, .inl (v2 + 1))] [] (mh l) M post
        else
          mv_Wp G 144 [.inl ((8 * (Int.tdiv v2 (M 88 8))) + (Int.tmod v2 (M 88 8)))] (mh l) M (mv_qi (mh l) fun x2 M2 =>
          post (some (.inl x2)) (mh l) M2)))))) :
    mv_Run G 215 136 7420 16 [(0, .inr (.inr 88)), (1, .inl v1), (2, .inl v2)] [] (mh l) M post := mv_run [(16, [0, 1, 2])] 87 ok_215 h
set_option maxRecDepth 100000 in
theorem vw_X12_passes {G : mv_G} {l : Nat} {post : Option mv_V → mv_SH → mv_Mem → Prop} {M : mv_Mem} {a : Nat} (h : mv_Run G 216 136 7420 2 [(0, .inr (.inr 88)), (1, .inr (.inr a)), (2, .inl 0)] [] (mh l) M post) :
    mv_Wp G 216 [.inr (.inr 88), .inr (.inr a)] (mh l) M post := mv_wp [(2, [0, 1, 2])] 55 ok_216 oc_216 rfl h
set_option maxRecDepth 100000 in
theorem vr_X12_passes_2 {G : mv_G} {l : Nat} {post : Option mv_V → mv_SH → mv_Mem → Prop} {M : mv_Mem} {v2 : Int} {a : Nat} (h : (if a ≤ (mh l).1 ∧ (mh l).2.2.1 a = 100 then
    (if (((mh l).2.2.2.1 a : Nat) : Int) ≤ v2 then
    post none (mh l) M
  else
    (if (M 88 63) = 0 then
      (0 ≤ (M 88 64 : Int) ∧ (M 88 64 : Int) < ((1000 : Nat) : Int)) ∧
      (if 1 ≤ a ∧ a ≤ (mh l).1 ∧ (mh l).2.2.1 a = 100 then (0 ≤ (v2 : Int) ∧ (v2 : Int) < (((mh l).2.2.2.1 a : Nat) : Int)) ∧
      mv_R32 (((mv_up M a (Int.toNat v2) (M 136 (Int.toNat (M 88 64)))) 88 64) + 1) ∧
      mv_R32 (v2 + 1) ∧
      mv_Run G 216 136 7420 2 [(0, .inr (.inr 88)), (1, .inr (.inr a)), (2, .inl (v2 + 1))] [] (mh l) (mv_up (mv_up M a (Int.toNat v2) (M 136 (Int.toNat (M 88 64)))) 88 64 (((mv_up M a (Int.toNat v2) (M 136 (Int.toNat (M 88 64)))) 88 64) + 1)) post else False)
    else
      (if a ≤ (mh l).1 ∧ (mh l).2.2.1 a = 100 then (0 ≤ (v2 : Int) ∧ (v2 : Int) < (((mh l).2.2.2.1 a : Nat) : Int)) ∧
      (0 ≤ (M 88 64 : Int) ∧ (M 88 64 : Int) < ((1000 : Nat) : Int)) ∧
      mv_R32 (((mv_up M 136 (Int.toNat (M 88 64)) (M a (Int.toNat v2))) 88 64) + 1) ∧
      mv_R32 (v2 + 1) ∧
      mv_Run G 216 136 7420 2 [(0, .inr (.inr 88)), (1, .inr (.inr a)), (2, .inl (v2 + 1))] [] (mh l) (mv_up (mv_up M 136 (Int.toNat (M 88 64)) (M a (Int.toNat v2))) 88 64 (((mv_up M 136 (Int.toNat (M 88 64)) (M a (Int.toNat v2))) 88 64) + 1)) post else False)))
  else False)) :
    mv_Run G 216 136 7420 2 [(0, .inr (.inr 88)), (1, .inr (.inr a)), (2, .inl v2)] [] (mh l) M post := mv_run [(2, [0, 1, 2])] 55 ok_216 h
set_option maxRecDepth 100000 in
theorem vw_X12_passOne {G : mv_G} {l : Nat} {post : Option mv_V → mv_SH → mv_Mem → Prop} {M : mv_Mem} {a : Int} (h : (if (M 88 63) = 0 then
    (0 ≤ (M 88 64 : Int) ∧ (M 88 64 : Int) < ((1000 : Nat) : Int)) ∧
    (if (M 88 63) = 0 then
      mv_R32 ((M 88 64) + 1) ∧
      post (some (.inl (M 136 (Int.toNat (M 88 64))))) (mh l) (mv_up M 88 64 ((M 88 64) + 1))
    else
      (0 ≤ (M 88 64 : Int) ∧ (M 88 64 : Int) < ((1000 : Nat) : Int)) ∧
      mv_R32 (((mv_up M 136 (Int.toNat (M 88 64)) a) 88 64) + 1) ∧
      post (some (.inl (M 136 (Int.toNat (M 88 64))))) (mh l) (mv_up (mv_up M 136 (Int.toNat (M 88 64)) a) 88 64 (((mv_up M 136 (Int.toNat (M 88 64)) a) 88 64) + 1)))
  else
    (if (M 88 63) = 0 then
      mv_R32 ((M 88 64) + 1) ∧
      post (some (.inl a)) (mh l) (mv_up M 88 64 ((M 88 64) + 1))
    else
      (0 ≤ (M 88 64 : Int) ∧ (M 88 64 : Int) < ((1000 : Nat) : Int)) ∧
      mv_R32 (((mv_up M 136 (Int.toNat (M 88 64)) a) 88 64) + 1) ∧
      post (some (.inl a)) (mh l) (mv_up (mv_up M 136 (Int.toNat (M 88 64)) a) 88 64 (((mv_up M 136 (Int.toNat (M 88 64)) a) 88 64) + 1))))) :
    mv_Wp G 217 [.inr (.inr 88), .inl a] (mh l) M post := mv_wp [] 48 ok_217 oc_217 rfl h
set_option maxRecDepth 100000 in
theorem vw_X12_passesAll {G : mv_G} {l : Nat} {post : Option mv_V → mv_SH → mv_Mem → Prop} {M : mv_Mem} (h : mv_Wp G 216 [.inr (.inr 88), .inr (.inr 91)] (mh l) (mv_up M 88 64 0) (mv_qv (mh l) fun M1 =>
  mv_Wp G 216 [.inr (.inr 88), .inr (.inr 92)] (mh l) M1 (mv_qv (mh l) fun M2 =>
  mv_Wp G 216 [.inr (.inr 88), .inr (.inr 93)] (mh l) M2 (mv_qv (mh l) fun M3 =>
  mv_Wp G 216 [.inr (.inr 88), .inr (.inr 96)] (mh l) M3 (mv_qv (mh l) fun M4 =>
  mv_Wp G 216 [.inr (.inr 88), .inr (.inr 97)] (mh l) M4 (mv_qv (mh l) fun M5 =>
  mv_Wp G 216 [.inr (.inr 88), .inr (.inr 98)] (mh l) M5 (mv_qv (mh l) fun M6 =>
  mv_Wp G 216 [.inr (.inr 88), .inr (.inr 99)] (mh l) M6 (mv_qv (mh l) fun M7 =>
  mv_Wp G 216 [.inr (.inr 88), .inr (.inr 103)] (mh l) M7 (mv_qv (mh l) fun M8 =>
  mv_Wp G 216 [.inr (.inr 88), .inr (.inr 105)] (mh l) M8 (mv_qv (mh l) fun M9 =>
  mv_Wp G 216 [.inr (.inr 88), .inr (.inr 106)] (mh l) M9 (mv_qv (mh l) fun M10 =>
  mv_Wp G 216 [.inr (.inr 88), .inr (.inr 107)] (mh l) M10 (mv_qv (mh l) fun M11 =>
  mv_Wp G 216 [.inr (.inr 88), .inr (.inr 108)] (mh l) M11 (mv_qv (mh l) fun M12 =>
  mv_Wp G 216 [.inr (.inr 88), .inr (.inr 109)] (mh l) M12 (mv_qv (mh l) fun M13 =>
  mv_Wp G 216 [.inr (.inr 88), .inr (.inr 110)] (mh l) M13 (mv_qv (mh l) fun M14 =>
  mv_Wp G 216 [.inr (.inr 88), .inr (.inr 111)] (mh l) M14 (mv_qv (mh l) fun M15 =>
  mv_Wp G 216 [.inr (.inr 88), .inr (.inr 112)] (mh l) M15 (mv_qv (mh l) fun M16 =>
  mv_Wp G 216 [.inr (.inr 88), .inr (.inr 113)] (mh l) M16 (mv_qv (mh l) fun M17 =>
  mv_Wp G 216 [.inr (.inr 88), .inr (.inr 114)] (mh l) M17 (mv_qv (mh l) fun M18 =>
  mv_Wp G 216 [.inr (.inr 88), .inr (.inr 115)] (mh l) M18 (mv_qv (mh l) fun M19 =>
  mv_Wp G 216 [.inr (.inr 88), .inr (.inr 116)] (mh l) M19 (mv_qv (mh l) fun M20 =>
  mv_Wp G 216 [.inr (.inr 88), .inr (.inr 125)] (mh l) M20 (mv_qv (mh l) fun M21 =>
  mv_Wp G 216 [.inr (.inr 88), .inr (.inr 126)] (mh l) M21 (mv_qv (mh l) fun M22 =>
  mv_Wp G 216 [.inr (.inr 88), .inr (.inr 127)] (mh l) M22 (mv_qv (mh l) fun M23 =>
  mv_Wp G 216 [.inr (.inr 88), .inr (.inr 128)] (mh l) M23 (mv_qv (mh l) fun M24 =>
  mv_Wp G 217 [.inr (.inr 88), .inl (M24 88 8)] (mh l) M24 (mv_qi (mh l) fun x25 M25 =>
  mv_Wp G 217 [.inr (.inr 88), .inl ((mv_up M25 88 8 x25) 88 9)] (mh l) (mv_up M25 88 8 x25) (mv_qi (mh l) fun x26 M26 =>
  mv_Wp G 217 [.inr (.inr 88), .inl ((mv_up M26 88 9 x26) 88 17)] (mh l) (mv_up M26 88 9 x26) (mv_qi (mh l) fun x27 M27 =>
  mv_Wp G 217 [.inr (.inr 88), .inl ((mv_up M27 88 17 x27) 88 23)] (mh l) (mv_up M27 88 17 x27) (mv_qi (mh l) fun x28 M28 =>
  mv_Wp G 217 [.inr (.inr 88), .inl ((mv_up M28 88 23 x28) 88 36)] (mh l) (mv_up M28 88 23 x28) (mv_qi (mh l) fun x29 M29 =>
  mv_Wp G 217 [.inr (.inr 88), .inl ((mv_up M29 88 36 x29) 88 37)] (mh l) (mv_up M29 88 36 x29) (mv_qi (mh l) fun x30 M30 =>
  mv_Wp G 217 [.inr (.inr 88), .inl ((mv_up M30 88 37 x30) 88 55)] (mh l) (mv_up M30 88 37 x30) (mv_qi (mh l) fun x31 M31 =>
  mv_Run G 218 136 7420 283 [(0, .inr (.inr 88)), (1, .inl 0)] [] (mh l) (mv_up M31 88 55 x31) post)))))))))))))))))))))))))))))))) :
    mv_Wp G 218 [.inr (.inr 88)] (mh l) M post := mv_wp [(283, [0, 1])] 188 ok_218 oc_218 rfl h
set_option maxRecDepth 100000 in
theorem vr_X12_passesAll_283 {G : mv_G} {l : Nat} {post : Option mv_V → mv_SH → mv_Mem → Prop} {M : mv_Mem} {v1 : Int} (h : (if 48 ≤ v1 then
    post none (mh l) M
  else
    (0 ≤ (v1 : Int) ∧ (v1 : Int) < ((48 : Nat) : Int)) ∧
    (if (M 95 (Int.toNat v1)) = 0 then
      mv_Wp G 217 [.inr (.inr 88), .inl 0] (mh l) M (mv_qi (mh l) fun x1 M1 =>
      (if x1 = 1 then
        ((0 ≤ (v1 : Int) ∧ (v1 : Int) < ((48 : Nat) : Int)) ∧ ((1 : Int) = 0 ∨ (1 : Int) = 1)) ∧
        mv_R32 (v1 + 1) ∧
        mv_Run G 218 136 7420 283 [(0, .inr (.inr 88)), (1, .inl (v1 + 1))] [] (mh l) (mv_up M1 95 (Int.toNat v1) 1) post
      else
        ((0 ≤ (v1 : Int) ∧ (v1 : Int) < ((48 : Nat) : Int)) ∧ ((0 : Int) = 0 ∨ (0 : Int) = 1)) ∧
        mv_R32 (v1 + 1) ∧
        mv_Run G 218 136 7420 283 [(0, .inr (.inr 88)), (1, .inl (v1 + 1))] [] (mh l) (mv_up M1 95 (Int.toNat v1) 0) post))
    else
      mv_Wp G 217 [.inr (.inr 88), .inl 1] (mh l) M (mv_qi (mh l) fun x2 M2 =>
      (if x2 = 1 then
        ((0 ≤ (v1 : Int) ∧ (v1 : Int) < ((48 : Nat) : Int)) ∧ ((1 : Int) = 0 ∨ (1 : Int) = 1)) ∧
        mv_R32 (v1 + 1) ∧
        mv_Run G 218 136 7420 283 [(0, .inr (.inr 88)), (1, .inl (v1 + 1))] [] (mh l) (mv_up M2 95 (Int.toNat v1) 1) post
      else
        ((0 ≤ (v1 : Int) ∧ (v1 : Int) < ((48 : Nat) : Int)) ∧ ((0 : Int) = 0 ∨ (0 : Int) = 1)) ∧
        mv_R32 (v1 + 1) ∧
        mv_Run G 218 136 7420 283 [(0, .inr (.inr 88)), (1, .inl (v1 + 1))] [] (mh l) (mv_up M2 95 (Int.toNat v1) 0) post))))) :
    mv_Run G 218 136 7420 283 [(0, .inr (.inr 88)), (1, .inl v1)] [] (mh l) M post := mv_run [(283, [0, 1])] 188 ok_218 h
set_option maxRecDepth 100000 in
theorem vw_X12_image {G : mv_G} {l : Nat} {post : Option mv_V → mv_SH → mv_Mem → Prop} {M : mv_Mem} (h : ((1 : Int) = 0 ∨ (1 : Int) = 1) ∧
  ((1 : Int) = 0 ∨ (1 : Int) = 1) ∧
  mv_Wp G 218 [.inr (.inr 88)] (mh l) (mv_up (mv_up M 88 63 1) 88 62 1) (mv_qv (mh l) fun M1 =>
  mv_R32 ((M1 88 8) * (M1 88 9)) ∧
  post (some (.inl ((M1 88 8) * (M1 88 9)))) (mh l) M1)) :
    mv_Wp G 219 [.inr (.inr 88)] (mh l) M post := mv_wp [] 34 ok_219 oc_219 rfl h
set_option maxRecDepth 100000 in
theorem vw_X12_on {G : mv_G} {l : Nat} {post : Option mv_V → mv_SH → mv_Mem → Prop} {M : mv_Mem} (h : (if (M 88 62) = 0 then
    mv_Wp G 133 [.inr (.inr 88), .inl (-3)] (mh l) M (mv_qi (mh l) fun x2 M2 =>
    post (some (.inl x2)) (mh l) M2)
  else
    ((0 : Int) = 0 ∨ (0 : Int) = 1) ∧
    mv_Wp G 218 [.inr (.inr 88)] (mh l) (mv_up M 88 63 0) (mv_qv (mh l) fun M1 =>
    mv_R32 ((M1 88 8) * (M1 88 9)) ∧
    post (some (.inl ((M1 88 8) * (M1 88 9)))) (mh l) M1))) :
    mv_Wp G 220 [.inr (.inr 88)] (mh l) M post := mv_wp [] 38 ok_220 oc_220 rfl h
set_option maxRecDepth 100000 in
theorem vw_X12_count {G : mv_G} {l : Nat} {post : Option mv_V → mv_SH → mv_Mem → Prop} {M : mv_Mem} {a : Int} (h : mv_Wp G 135 [.inr (.inl a), .inr (.inl 11), .inr (.inl 16)] (mh l) M (mv_qi (mh l) fun x1 M1 =>
  (if x1 = 0 then
    (if a = 0 then
      post (some (.inl (M1 88 8))) (mh l) M1
    else
      (if a = (0 + 1) then
      post (some (.inl (M1 88 9))) (mh l) M1
    else
      (if a = (0 + 1 + 1) then
      post (some (.inl (M1 88 23))) (mh l) M1
    else
      (if a = (0 + 1 + 1 + 1) then
      post (some (.inl (M1 88 36))) (mh l) M1
    else
      (if a = (0 + 1 + 1 + 1 + 1) then
      post (some (.inl (M1 88 17))) (mh l) M1
    else
      (if a = (0 + 1 + 1 + 1 + 1 + 1) then
      post (some (.inl (M1 88 55))) (mh l) M1
    else
      (if a = (0 + 1 + 1 + 1 + 1 + 1 + 1) then
      mv_Wp G 173 [.inr (.inr 88)] (mh l) M1 (mv_qv (mh l) fun M2 =>
      mv_Run G 221 136 7420 116 [(0, .inr (.inr 88)), (2, .inl 0), (3, .inl 0)] [] (mh l) M2 post)
    else
      (if a = (0 + 1 + 1 + 1 + 1 + 1 + 1 + 1) then
      mv_Run G 221 136 7420 159 [(0, .inr (.inr 88)), (2, .inl 0), (3, .inl 0)] [] (mh l) M1 post
    else
      (if a = (0 + 1 + 1 + 1 + 1 + 1 + 1 + 1 + 1) then
      post (some (.inl (M1 88 7))) (mh l) M1
    else
      (if a = (0 + 1 + 1 + 1 + 1 + 1 + 1 + 1 + 1 + 1) then
      post (some (.inl (M1 88 60))) (mh l) M1
    else
      post (some (.inl (-9))) (mh l) M1))))))))))
  else
    mv_R32 (a - 10) ∧
    (0 ≤ (a - 10 : Int) ∧ (a - 10 : Int) < ((7 : Nat) : Int)) ∧
    post (some (.inl (M1 89 (Int.toNat (a - 10))))) (mh l) M1))) :
    mv_Wp G 221 [.inr (.inr 88), .inl a] (mh l) M post := mv_wp [(116, [0, 2, 3]), (159, [0, 2, 3])] 110 ok_221 oc_221 rfl h
set_option maxRecDepth 100000 in
theorem vr_X12_count_116 {G : mv_G} {l : Nat} {post : Option mv_V → mv_SH → mv_Mem → Prop} {M : mv_Mem} {v2 v3 : Int} (h : (if 48 ≤ v3 then
    post (some (.inl v2)) (mh l) M
  else
    mv_Wp G 143 [.inr (.inr 88), .inl v3] (mh l) M (mv_qi (mh l) fun x1 M1 =>
    (if x1 = 0 then
      mv_R32 (v2 + 0) ∧
      mv_R32 (v3 + 1) ∧
      mv_Run G 221 136 7420 116 [(0, .inr (.inr 88)), (2, .inl (v2 + 0)), (3, .inl (v3 + 1))] [] (mh l) M1 post
    else
      (0 ≤ (v3 : Int) ∧ (v3 : Int) < ((48 : Nat) : Int)) ∧
      (if (M1 117 (Int.toNat v3)) = (-9) then
        mv_R32 (v2 + 1) ∧
        mv_R32 (v3 + 1) ∧
        mv_Run G 221 136 7420 116 [(0, .inr (.inr 88)), (2, .inl (v2 + 1)), (3, .inl (v3 + 1))] [] (mh l) M1 post
      else
        mv_R32 (v2 + 0) ∧
        mv_R32 (v3 + 1) ∧
        mv_Run G 221 136 7420 116 [(0, .inr (.inr 88)), (2, .inl (v2 + 0)), (3, .inl (v3 + 1))] [] (mh l) M1 post))))) :
    mv_Run G 221 136 7420 116 [(0, .inr (.inr 88)), (2, .inl v2), (3, .inl v3)] [] (mh l) M post := mv_run [(116, [0, 2, 3]), (159, [0, 2, 3])] 110 ok_221 h
set_option maxRecDepth 100000 in
theorem vr_X12_count_159 {G : mv_G} {l : Nat} {post : Option mv_V → mv_SH → mv_Mem → Prop} {M : mv_Mem} {v2 v3 : Int} (h : (if 48 ≤ v3 then
    post (some (.inl v2)) (mh l) M
  else
    (0 ≤ (v3 : Int) ∧ (v3 : Int) < ((48 : Nat) : Int)) ∧
    (if (M 95 (Int.toNat v3)) = 0 then
      mv_R32 (v2 + 0) ∧
      mv_R32 (v3 + 1) ∧
      mv_Run G 221 136 7420 159 [(0, .inr (.inr 88)), (2, .inl (v2 + 0)), (3, .inl (v3 + 1))] [] (mh l) M post
    else
      mv_R32 (v2 + 1) ∧
      mv_R32 (v3 + 1) ∧
      mv_Run G 221 136 7420 159 [(0, .inr (.inr 88)), (2, .inl (v2 + 1)), (3, .inl (v3 + 1))] [] (mh l) M post))) :
    mv_Run G 221 136 7420 159 [(0, .inr (.inr 88)), (2, .inl v2), (3, .inl v3)] [] (mh l) M post := mv_run [(116, [0, 2, 3]), (159, [0, 2, 3])] 110 ok_221 h
set_option maxRecDepth 100000 in
theorem vw_J9_floorDiv_f86c9 {G : mv_G} {l : Nat} {post : Option mv_V → mv_SH → mv_Mem → Prop} {M : mv_Mem} {a b : Int} (h : (¬ (b : Int) = 0 ∧ mv_R64 (Int.tdiv a b)) ∧
  (if 0 ≤ (mv_cmp (mv_lxor a b) 0) then
    post (some (.inr (.inl (Int.tdiv a b)))) (mh l) M
  else
    mv_R64 ((Int.tdiv a b) * b) ∧
    (if (mv_cmp ((Int.tdiv a b) * b) a) = 0 then
      post (some (.inr (.inl (Int.tdiv a b)))) (mh l) M
    else
      mv_R64 ((Int.tdiv a b) - 1) ∧
      post (some (.inr (.inl ((Int.tdiv a b) - 1)))) (mh l) M))) :
    mv_Wp G 222 [.inr (.inl a), .inr (.inl b)] (mh l) M post := mv_wp [] 42 ok_222 oc_222 rfl h
set_option maxRecDepth 100000 in
theorem vw_J9_max_7cf53 {G : mv_G} {l : Nat} {post : Option mv_V → mv_SH → mv_Mem → Prop} {M : mv_Mem} {a b : Int} (h : (if a < b then
    post (some (.inl b)) (mh l) M
  else
    post (some (.inl a)) (mh l) M)) :
    mv_Wp G 223 [.inl a, .inl b] (mh l) M post := mv_wp [] 27 ok_223 oc_223 rfl h
set_option maxRecDepth 100000 in
theorem vw_J9_max_f86c9 {G : mv_G} {l : Nat} {post : Option mv_V → mv_SH → mv_Mem → Prop} {M : mv_Mem} {a b : Int} (h : (if (mv_cmp a b) < 0 then
    post (some (.inr (.inl b))) (mh l) M
  else
    post (some (.inr (.inl a))) (mh l) M)) :
    mv_Wp G 224 [.inr (.inl a), .inr (.inl b)] (mh l) M post := mv_wp [] 28 ok_224 oc_224 rfl h
set_option maxRecDepth 100000 in
theorem vw_J9_min_f86c9 {G : mv_G} {l : Nat} {post : Option mv_V → mv_SH → mv_Mem → Prop} {M : mv_Mem} {a b : Int} (h : (if 0 < (mv_cmp a b) then
    post (some (.inr (.inl b))) (mh l) M
  else
    post (some (.inr (.inl a))) (mh l) M)) :
    mv_Wp G 225 [.inr (.inl a), .inr (.inl b)] (mh l) M post := mv_wp [] 28 ok_225 oc_225 rfl h
