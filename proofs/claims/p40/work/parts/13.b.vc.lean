/-! WHAT IS TO BE SHOWN of the methods (by program: wip/p40/allvc.py) -/
set_option maxRecDepth 100000 in
theorem vw_J9_floorDiv_f86c9 {G : mv_G} {l : Nat} {post : Option mv_V → mv_SH → mv_Mem → Prop} {M : mv_Mem} {a b : Int} (h : (¬ (b : Int) = 0 ∧ mv_R64 (Int.tdiv a b)) ∧
  (if 0 ≤ (mv_cmp (mv_lxor a b) 0) then
    post (some (.inr (.inl (Int.tdiv a b)))) (mh l) M
  else
    mv_R64 ((Int.tdiv a b) * b) ∧
    (if (mv_cmp ((Int.tdiv a b) * b) a) = 0 then
      post (some (.inr (.inl (Int.tdiv a b)))) (mh l) M
    else
      mv_R64 ((Int.tdiv a b) - 1) ∧
      post (some (.inr (.inl ((Int.tdiv a b) - 1)))) (mh l) M))) :
    mv_Wp G 222 [.inr (.inl a), .inr (.inl b)] (mh l) M post := mv_wp [] 42 ok_222 oc_222 rfl h
set_option maxRecDepth 100000 in
theorem vw_J9_max_f86c9 {G : mv_G} {l : Nat} {post : Option mv_V → mv_SH → mv_Mem → Prop} {M : mv_Mem} {a b : Int} (h : (if (mv_cmp a b) < 0 then
    post (some (.inr (.inl b))) (mh l) M
  else
    post (some (.inr (.inl a))) (mh l) M)) :
    mv_Wp G 224 [.inr (.inl a), .inr (.inl b)] (mh l) M post := mv_wp [] 28 ok_224 oc_224 rfl h
set_option maxRecDepth 100000 in
theorem vw_J9_min_f86c9 {G : mv_G} {l : Nat} {post : Option mv_V → mv_SH → mv_Mem → Prop} {M : mv_Mem} {a b : Int} (h : (if 0 < (mv_cmp a b) then
    post (some (.inr (.inl b))) (mh l) M
  else
    post (some (.inr (.inl a))) (mh l) M)) :
    mv_Wp G 225 [.inr (.inl a), .inr (.inl b)] (mh l) M post := mv_wp [] 28 ok_225 oc_225 rfl h
