/-! THE CONSTRUCTORS AT THEIR PLACES (by program: wip/p40/ctorgen.py) -/
def cz (N : Nat) (M : mv_Mem) : Prop := ∀ a i, N < a → M a i = 0
theorem cz_s {N : Nat} {M : mv_Mem} (h : cz N M) : cz (N + 1) M := fun a i ha => h a i (by omega)
theorem cz_up {N a j : Nat} {v : Int} {M : mv_Mem} (h : cz N M) (ha : a ≤ N) : cz N (mv_up M a j v) := fun b i hb => (mv_up_c (by omega)).trans (h b i hb)
section CT
variable {G : mv_G} {l : Nat} {post : Option mv_V → mv_SH → mv_Mem → Prop}
theorem cz_nwM {N P : Nat} {r : Nat → Nat → Nat} {M : mv_Mem} (h : cz N M) : mv_nwM (N, P, mh_t, mh_l l, r) M = M := by
  funext a i
  show (if a = N + 1 then 0 else M a i) = M a i
  split
  · rename_i q
    rw [h a i (by omega)]
  · rfl
theorem cz_nwA {N P a n : Nat} {r : Nat → Nat → Nat} (h1 : mh_t (N + 1) = a) (h2 : mh_l l (N + 1) = n) : mv_nwA (N, P, mh_t, mh_l l, r) a n = (N + 1, P + n, mh_t, mh_l l, r) := by
  have e1 : (fun k => if k = N + 1 then a else mh_t k) = mh_t := by
    funext k
    split
    · rename_i q
      rw [q, h1]
    · rfl
  have e2 : (fun k => if k = N + 1 then n else mh_l l k) = mh_l l := by
    funext k
    split
    · rename_i q
      rw [q, h2]
    · rfl
  show (N + 1, P + n, (fun k => if k = N + 1 then a else mh_t k), (fun k => if k = N + 1 then n else mh_l l k), r) = _
  rw [e1, e2]
theorem cz_nwO {N P a n : Nat} {r : Nat → Nat → Nat} (h1 : mh_t (N + 1) = a) : mv_nwO (N, P, mh_t, mh_l l, r) a n = (N + 1, P + n, mh_t, mh_l l, fun k f => if k = N + 1 then 0 else r k f) := by
  have e1 : (fun k => if k = N + 1 then a else mh_t k) = mh_t := by
    funext k
    split
    · rename_i q
      rw [q, h1]
    · rfl
  show (N + 1, P + n, (fun k => if k = N + 1 then a else mh_t k), mh_l l, fun k f => if k = N + 1 then 0 else r k f) = _
  rw [e1]
set_option maxRecDepth 100000 in
theorem ce_X11_1 {r : Nat → Nat → Nat} {M : mv_Mem} (h : mv_Run G 85 1 13 4 [(0, .inr (.inr 1))] [] (1, 13, mh_t, mh_l l, r) M post) : mv_Wp G 85 [.inr (.inr 1)] (1, 13, mh_t, mh_l l, r) M post :=
  mv_wp [(4, [0])] 5 ok_85 oc_85 rfl (show (if mv_stw ([] : List mv_V) ≤ 8 then mv_Run G 85 1 13 4 [(0, .inr (.inr 1))] [] (1, 13, mh_t, mh_l l, r) M post else False) from by rw [if_pos (by decide)]; exact h)
set_option maxRecDepth 100000 in
theorem ce_X5_2 {r : Nat → Nat → Nat} {M : mv_Mem} (h : mv_Run G 45 2 15 4 [(0, .inr (.inr 2))] [] (2, 15, mh_t, mh_l l, r) M post) : mv_Wp G 45 [.inr (.inr 2)] (2, 15, mh_t, mh_l l, r) M post :=
  mv_wp [(4, [0])] 5 ok_45 oc_45 rfl (show (if mv_stw ([] : List mv_V) ≤ 8 then mv_Run G 45 2 15 4 [(0, .inr (.inr 2))] [] (2, 15, mh_t, mh_l l, r) M post else False) from by rw [if_pos (by decide)]; exact h)
set_option maxRecDepth 100000 in
theorem cg_X5_2_4 {r : Nat → Nat → Nat} {M : mv_Mem} (hZ : cz 2 M) (h : cz 3 M → mv_Run G 45 2 15 12 [(0, .inr (.inr 2))] [] (3, 75, mh_t, mh_l l, (fun k' f => if k' = 2 ∧ f = 0 then 3 else r k' f)) M post) : mv_Run G 45 2 15 4 [(0, .inr (.inr 2))] [] (2, 15, mh_t, mh_l l, r) M post := by
  refine mv_run [(12, [0])] 7 ok_45 ?_
  show (if 0 ≤ (60 : Int) ∧ (60 : Int) ≤ 100000 ∧ 2 + 1 ≤ 2 + 1 ∧ 15 + Int.toNat 60 ≤ 15 + 60 then (if 1 ≤ 2 ∧ 2 ≤ 3 ∧ mh_t 2 = 5 ∧ 1 ≤ 3 ∧ 3 ≤ 3 then mv_Run G 45 2 15 12 [(0, .inr (.inr 2))] [] (mv_rf (mv_nwA (2, 15, mh_t, mh_l l, r) 100 (Int.toNat 60)) 2 0 3) (mv_nwM (2, 15, mh_t, mh_l l, r) M) post else False) else False)
  rw [if_pos (by decide)]
  rw [if_pos (by decide), cz_nwM hZ, cz_nwA (N := 2) (a := 100) (n := Int.toNat 60) rfl rfl]
  exact h (cz_s hZ)
set_option maxRecDepth 100000 in
theorem cg_X5_2_12 {r : Nat → Nat → Nat} {M : mv_Mem} (h : mv_Run G 45 2 15 17 [(0, .inr (.inr 2))] [] (3, 75, mh_t, mh_l l, r) (mv_up M 2 1 0) post) : mv_Run G 45 2 15 12 [(0, .inr (.inr 2))] [] (3, 75, mh_t, mh_l l, r) M post := by
  refine mv_run [(17, [0])] 6 ok_45 ?_
  show (if 1 ≤ 2 ∧ 2 ≤ 3 ∧ mh_t 2 = 5 then mv_Run G 45 2 15 17 [(0, .inr (.inr 2))] [] (3, 75, mh_t, mh_l l, r) (mv_up M 2 1 0) post else False)
  rw [if_pos (by decide)]
  exact h
set_option maxRecDepth 100000 in
theorem cg_X5_2_17 {r : Nat → Nat → Nat} {M : mv_Mem} (h : post none (3, 75, mh_t, mh_l l, r) M) : mv_Run G 45 2 15 17 [(0, .inr (.inr 2))] [] (3, 75, mh_t, mh_l l, r) M post := by
  refine mv_run [] 3 ok_45 ?_
  show (if 3 = 2 + 1 ∧ 75 = 15 + 60 then post none (3, 75, mh_t, mh_l l, r) M else False)
  rw [if_pos (by decide)]
  exact h
set_option maxRecDepth 100000 in
theorem cg_X11_1_4 {r : Nat → Nat → Nat} {M : mv_Mem} (hZ : cz 1 M) (h : cz 2 M → mv_Wp G 45 [.inr (.inr 2)] (2, 15, mh_t, mh_l l, (fun k' f => if k' = 2 then 0 else r k' f)) M (fun r sh M => mv_Run G 85 1 13 12 [(0, .inr (.inr 1))] (r.toList ++ [.inr (.inr 2), .inr (.inr 1)]) sh M post)) : mv_Run G 85 1 13 4 [(0, .inr (.inr 1))] [] (1, 13, mh_t, mh_l l, r) M post := by
  refine mv_run [(12, [0])] 7 ok_85 ?_
  show (if 1 + 1 ≤ 1 + 86 ∧ 13 + 2 ≤ 13 + 4736 then (if false = false then (if mv_stw [.inr (.inr 2), .inr (.inr 1)] ≤ 8 ∧ 1 ≤ 3 ∧ 2 + (3 - 2) ≤ 1 + 86 ∧ 15 + Int.toNat 60 ≤ 13 + 4736 then mv_Wp G 45 [.inr (.inr 2)] (mv_nwO (1, 13, mh_t, mh_l l, r) 5 2) (mv_nwM (1, 13, mh_t, mh_l l, r) M) (fun r sh M => mv_Run G 85 1 13 12 [(0, .inr (.inr 1))] (r.toList ++ [.inr (.inr 2), .inr (.inr 1)]) sh M post) else False) else False) else False)
  rw [if_pos (by decide), if_pos rfl, if_pos (by decide), cz_nwM hZ, cz_nwO (N := 1) (a := 5) rfl]
  exact h (cz_s hZ)
set_option maxRecDepth 100000 in
theorem cg_X11_1_12 {r : Nat → Nat → Nat} {M : mv_Mem} (h : mv_Run G 85 1 13 15 [(0, .inr (.inr 1))] [] (3, 75, mh_t, mh_l l, (fun k' f => if k' = 1 ∧ f = 0 then 2 else r k' f)) M post) : mv_Run G 85 1 13 12 [(0, .inr (.inr 1))] [.inr (.inr 2), .inr (.inr 1)] (3, 75, mh_t, mh_l l, r) M post := by
  refine mv_run [(15, [0])] 3 ok_85 ?_
  show (if 1 ≤ 1 ∧ 1 ≤ 3 ∧ mh_t 1 = 11 ∧ 1 ≤ 2 ∧ 2 ≤ 3 then mv_Run G 85 1 13 15 [(0, .inr (.inr 1))] [] (3, 75, mh_t, mh_l l, (fun k' f => if k' = 1 ∧ f = 0 then 2 else r k' f)) M post else False)
  rw [if_pos (by decide)]
  exact h
set_option maxRecDepth 100000 in
theorem ce_X4_4 {r : Nat → Nat → Nat} {M : mv_Mem} (h : mv_Run G 42 4 77 4 [(0, .inr (.inr 4))] [] (4, 77, mh_t, mh_l l, r) M post) : mv_Wp G 42 [.inr (.inr 4)] (4, 77, mh_t, mh_l l, r) M post :=
  mv_wp [(4, [0])] 5 ok_42 oc_42 rfl (show (if mv_stw ([] : List mv_V) ≤ 8 then mv_Run G 42 4 77 4 [(0, .inr (.inr 4))] [] (4, 77, mh_t, mh_l l, r) M post else False) from by rw [if_pos (by decide)]; exact h)
set_option maxRecDepth 100000 in
theorem cg_X4_4_4 {r : Nat → Nat → Nat} {M : mv_Mem} (hZ : cz 4 M) (h : cz 5 M → mv_Run G 42 4 77 12 [(0, .inr (.inr 4))] [] (5, 125, mh_t, mh_l l, (fun k' f => if k' = 4 ∧ f = 0 then 5 else r k' f)) M post) : mv_Run G 42 4 77 4 [(0, .inr (.inr 4))] [] (4, 77, mh_t, mh_l l, r) M post := by
  refine mv_run [(12, [0])] 7 ok_42 ?_
  show (if 0 ≤ (48 : Int) ∧ (48 : Int) ≤ 100000 ∧ 4 + 1 ≤ 4 + 1 ∧ 77 + Int.toNat 48 ≤ 77 + 48 then (if 1 ≤ 4 ∧ 4 ≤ 5 ∧ mh_t 4 = 4 ∧ 1 ≤ 5 ∧ 5 ≤ 5 then mv_Run G 42 4 77 12 [(0, .inr (.inr 4))] [] (mv_rf (mv_nwA (4, 77, mh_t, mh_l l, r) 100 (Int.toNat 48)) 4 0 5) (mv_nwM (4, 77, mh_t, mh_l l, r) M) post else False) else False)
  rw [if_pos (by decide)]
  rw [if_pos (by decide), cz_nwM hZ, cz_nwA (N := 4) (a := 100) (n := Int.toNat 48) rfl rfl]
  exact h (cz_s hZ)
set_option maxRecDepth 100000 in
theorem cg_X4_4_12 {r : Nat → Nat → Nat} {M : mv_Mem} (h : mv_Run G 42 4 77 17 [(0, .inr (.inr 4))] [] (5, 125, mh_t, mh_l l, r) (mv_up M 4 1 0) post) : mv_Run G 42 4 77 12 [(0, .inr (.inr 4))] [] (5, 125, mh_t, mh_l l, r) M post := by
  refine mv_run [(17, [0])] 6 ok_42 ?_
  show (if 1 ≤ 4 ∧ 4 ≤ 5 ∧ mh_t 4 = 4 then mv_Run G 42 4 77 17 [(0, .inr (.inr 4))] [] (5, 125, mh_t, mh_l l, r) (mv_up M 4 1 0) post else False)
  rw [if_pos (by decide)]
  exact h
set_option maxRecDepth 100000 in
theorem cg_X4_4_17 {r : Nat → Nat → Nat} {M : mv_Mem} (h : post none (5, 125, mh_t, mh_l l, r) M) : mv_Run G 42 4 77 17 [(0, .inr (.inr 4))] [] (5, 125, mh_t, mh_l l, r) M post := by
  refine mv_run [] 3 ok_42 ?_
  show (if 5 = 4 + 1 ∧ 125 = 77 + 48 then post none (5, 125, mh_t, mh_l l, r) M else False)
  rw [if_pos (by decide)]
  exact h
set_option maxRecDepth 100000 in
theorem cg_X11_1_15 {r : Nat → Nat → Nat} {M : mv_Mem} (hZ : cz 3 M) (h : cz 4 M → mv_Wp G 42 [.inr (.inr 4)] (4, 77, mh_t, mh_l l, (fun k' f => if k' = 4 then 0 else r k' f)) M (fun r sh M => mv_Run G 85 1 13 23 [(0, .inr (.inr 1))] (r.toList ++ [.inr (.inr 4), .inr (.inr 1)]) sh M post)) : mv_Run G 85 1 13 15 [(0, .inr (.inr 1))] [] (3, 75, mh_t, mh_l l, r) M post := by
  refine mv_run [(23, [0])] 7 ok_85 ?_
  show (if 3 + 1 ≤ 1 + 86 ∧ 75 + 2 ≤ 13 + 4736 then (if false = false then (if mv_stw [.inr (.inr 4), .inr (.inr 1)] ≤ 8 ∧ 1 ≤ 3 ∧ 4 + (3 - 2) ≤ 1 + 86 ∧ 77 + Int.toNat 48 ≤ 13 + 4736 then mv_Wp G 42 [.inr (.inr 4)] (mv_nwO (3, 75, mh_t, mh_l l, r) 4 2) (mv_nwM (3, 75, mh_t, mh_l l, r) M) (fun r sh M => mv_Run G 85 1 13 23 [(0, .inr (.inr 1))] (r.toList ++ [.inr (.inr 4), .inr (.inr 1)]) sh M post) else False) else False) else False)
  rw [if_pos (by decide), if_pos rfl, if_pos (by decide), cz_nwM hZ, cz_nwO (N := 3) (a := 4) rfl]
  exact h (cz_s hZ)
set_option maxRecDepth 100000 in
theorem cg_X11_1_23 {r : Nat → Nat → Nat} {M : mv_Mem} (h : mv_Run G 85 1 13 26 [(0, .inr (.inr 1))] [] (5, 125, mh_t, mh_l l, (fun k' f => if k' = 1 ∧ f = 1 then 4 else r k' f)) M post) : mv_Run G 85 1 13 23 [(0, .inr (.inr 1))] [.inr (.inr 4), .inr (.inr 1)] (5, 125, mh_t, mh_l l, r) M post := by
  refine mv_run [(26, [0])] 3 ok_85 ?_
  show (if 1 ≤ 1 ∧ 1 ≤ 5 ∧ mh_t 1 = 11 ∧ 1 ≤ 4 ∧ 4 ≤ 5 then mv_Run G 85 1 13 26 [(0, .inr (.inr 1))] [] (5, 125, mh_t, mh_l l, (fun k' f => if k' = 1 ∧ f = 1 then 4 else r k' f)) M post else False)
  rw [if_pos (by decide)]
  exact h
set_option maxRecDepth 100000 in
theorem ce_X1_6 {r : Nat → Nat → Nat} {M : mv_Mem} (h : mv_Run G 11 6 133 4 [(0, .inr (.inr 6))] [] (6, 133, mh_t, mh_l l, r) M post) : mv_Wp G 11 [.inr (.inr 6)] (6, 133, mh_t, mh_l l, r) M post :=
  mv_wp [(4, [0])] 5 ok_11 oc_11 rfl (show (if mv_stw ([] : List mv_V) ≤ 8 then mv_Run G 11 6 133 4 [(0, .inr (.inr 6))] [] (6, 133, mh_t, mh_l l, r) M post else False) from by rw [if_pos (by decide)]; exact h)
set_option maxRecDepth 100000 in
theorem ce_X10_7 {r : Nat → Nat → Nat} {M : mv_Mem} (h : mv_Run G 83 7 136 4 [(0, .inr (.inr 7))] [] (7, 136, mh_t, mh_l l, r) M post) : mv_Wp G 83 [.inr (.inr 7)] (7, 136, mh_t, mh_l l, r) M post :=
  mv_wp [(4, [0])] 5 ok_83 oc_83 rfl (show (if mv_stw ([] : List mv_V) ≤ 8 then mv_Run G 83 7 136 4 [(0, .inr (.inr 7))] [] (7, 136, mh_t, mh_l l, r) M post else False) from by rw [if_pos (by decide)]; exact h)
set_option maxRecDepth 100000 in
theorem ce_X0_8 {r : Nat → Nat → Nat} {M : mv_Mem} (h : mv_Run G 0 8 149 4 [(0, .inr (.inr 8))] [] (8, 149, mh_t, mh_l l, r) M post) : mv_Wp G 0 [.inr (.inr 8)] (8, 149, mh_t, mh_l l, r) M post :=
  mv_wp [(4, [0])] 5 ok_0 oc_0 rfl (show (if mv_stw ([] : List mv_V) ≤ 8 then mv_Run G 0 8 149 4 [(0, .inr (.inr 8))] [] (8, 149, mh_t, mh_l l, r) M post else False) from by rw [if_pos (by decide)]; exact h)
set_option maxRecDepth 100000 in
theorem cg_X0_8_4 {r : Nat → Nat → Nat} {M : mv_Mem} (h : mv_Run G 0 8 149 9 [(0, .inr (.inr 8))] [] (8, 149, mh_t, mh_l l, r) (mv_up M 8 0 1) post) : mv_Run G 0 8 149 4 [(0, .inr (.inr 8))] [] (8, 149, mh_t, mh_l l, r) M post := by
  refine mv_run [(9, [0])] 6 ok_0 ?_
  show (if 1 ≤ 8 ∧ 8 ≤ 8 ∧ mh_t 8 = 0 then mv_Run G 0 8 149 9 [(0, .inr (.inr 8))] [] (8, 149, mh_t, mh_l l, r) (mv_up M 8 0 1) post else False)
  rw [if_pos (by decide)]
  exact h
set_option maxRecDepth 100000 in
theorem cg_X0_8_9 {r : Nat → Nat → Nat} {M : mv_Mem} (h : mv_Run G 0 8 149 14 [(0, .inr (.inr 8))] [] (8, 149, mh_t, mh_l l, r) (mv_up M 8 1 1) post) : mv_Run G 0 8 149 9 [(0, .inr (.inr 8))] [] (8, 149, mh_t, mh_l l, r) M post := by
  refine mv_run [(14, [0])] 6 ok_0 ?_
  show (if 1 ≤ 8 ∧ 8 ≤ 8 ∧ mh_t 8 = 0 then mv_Run G 0 8 149 14 [(0, .inr (.inr 8))] [] (8, 149, mh_t, mh_l l, r) (mv_up M 8 1 1) post else False)
  rw [if_pos (by decide)]
  exact h
set_option maxRecDepth 100000 in
theorem cg_X0_8_14 {r : Nat → Nat → Nat} {M : mv_Mem} (h : mv_Run G 0 8 149 19 [(0, .inr (.inr 8))] [] (8, 149, mh_t, mh_l l, r) (mv_up M 8 2 1) post) : mv_Run G 0 8 149 14 [(0, .inr (.inr 8))] [] (8, 149, mh_t, mh_l l, r) M post := by
  refine mv_run [(19, [0])] 6 ok_0 ?_
  show (if 1 ≤ 8 ∧ 8 ≤ 8 ∧ mh_t 8 = 0 then mv_Run G 0 8 149 19 [(0, .inr (.inr 8))] [] (8, 149, mh_t, mh_l l, r) (mv_up M 8 2 1) post else False)
  rw [if_pos (by decide)]
  exact h
set_option maxRecDepth 100000 in
theorem cg_X0_8_19 {r : Nat → Nat → Nat} {M : mv_Mem} (h : mv_Run G 0 8 149 24 [(0, .inr (.inr 8))] [] (8, 149, mh_t, mh_l l, r) (mv_up M 8 3 0) post) : mv_Run G 0 8 149 19 [(0, .inr (.inr 8))] [] (8, 149, mh_t, mh_l l, r) M post := by
  refine mv_run [(24, [0])] 6 ok_0 ?_
  show (if 1 ≤ 8 ∧ 8 ≤ 8 ∧ mh_t 8 = 0 then mv_Run G 0 8 149 24 [(0, .inr (.inr 8))] [] (8, 149, mh_t, mh_l l, r) (mv_up M 8 3 0) post else False)
  rw [if_pos (by decide)]
  exact h
set_option maxRecDepth 100000 in
theorem cg_X0_8_24 {r : Nat → Nat → Nat} {M : mv_Mem} (h : mv_Run G 0 8 149 29 [(0, .inr (.inr 8))] [] (8, 149, mh_t, mh_l l, r) (mv_up M 8 4 0) post) : mv_Run G 0 8 149 24 [(0, .inr (.inr 8))] [] (8, 149, mh_t, mh_l l, r) M post := by
  refine mv_run [(29, [0])] 6 ok_0 ?_
  show (if 1 ≤ 8 ∧ 8 ≤ 8 ∧ mh_t 8 = 0 then mv_Run G 0 8 149 29 [(0, .inr (.inr 8))] [] (8, 149, mh_t, mh_l l, r) (mv_up M 8 4 0) post else False)
  rw [if_pos (by decide)]
  exact h
set_option maxRecDepth 100000 in
theorem cg_X0_8_29 {r : Nat → Nat → Nat} {M : mv_Mem} (hZ : cz 8 M) (h : cz 9 M → mv_Run G 0 8 149 37 [(0, .inr (.inr 8))] [] (9, 197, mh_t, mh_l l, (fun k' f => if k' = 8 ∧ f = 5 then 9 else r k' f)) M post) : mv_Run G 0 8 149 29 [(0, .inr (.inr 8))] [] (8, 149, mh_t, mh_l l, r) M post := by
  refine mv_run [(37, [0])] 7 ok_0 ?_
  show (if 0 ≤ (48 : Int) ∧ (48 : Int) ≤ 100000 ∧ 8 + 1 ≤ 8 + 8 ∧ 149 + Int.toNat 48 ≤ 149 + 439 then (if 1 ≤ 8 ∧ 8 ≤ 9 ∧ mh_t 8 = 0 ∧ 1 ≤ 9 ∧ 9 ≤ 9 then mv_Run G 0 8 149 37 [(0, .inr (.inr 8))] [] (mv_rf (mv_nwA (8, 149, mh_t, mh_l l, r) 100 (Int.toNat 48)) 8 5 9) (mv_nwM (8, 149, mh_t, mh_l l, r) M) post else False) else False)
  rw [if_pos (by decide)]
  rw [if_pos (by decide), cz_nwM hZ, cz_nwA (N := 8) (a := 100) (n := Int.toNat 48) rfl rfl]
  exact h (cz_s hZ)
set_option maxRecDepth 100000 in
theorem cg_X0_8_37 {r : Nat → Nat → Nat} {M : mv_Mem} (hZ : cz 9 M) (h : cz 10 M → mv_Run G 0 8 149 45 [(0, .inr (.inr 8))] [] (10, 245, mh_t, mh_l l, (fun k' f => if k' = 8 ∧ f = 6 then 10 else r k' f)) M post) : mv_Run G 0 8 149 37 [(0, .inr (.inr 8))] [] (9, 197, mh_t, mh_l l, r) M post := by
  refine mv_run [(45, [0])] 7 ok_0 ?_
  show (if 0 ≤ (48 : Int) ∧ (48 : Int) ≤ 100000 ∧ 9 + 1 ≤ 8 + 8 ∧ 197 + Int.toNat 48 ≤ 149 + 439 then (if 1 ≤ 8 ∧ 8 ≤ 10 ∧ mh_t 8 = 0 ∧ 1 ≤ 10 ∧ 10 ≤ 10 then mv_Run G 0 8 149 45 [(0, .inr (.inr 8))] [] (mv_rf (mv_nwA (9, 197, mh_t, mh_l l, r) 100 (Int.toNat 48)) 8 6 10) (mv_nwM (9, 197, mh_t, mh_l l, r) M) post else False) else False)
  rw [if_pos (by decide)]
  rw [if_pos (by decide), cz_nwM hZ, cz_nwA (N := 9) (a := 100) (n := Int.toNat 48) rfl rfl]
  exact h (cz_s hZ)
set_option maxRecDepth 100000 in
theorem cg_X0_8_45 {r : Nat → Nat → Nat} {M : mv_Mem} (hZ : cz 10 M) (h : cz 11 M → mv_Run G 0 8 149 53 [(0, .inr (.inr 8))] [] (11, 293, mh_t, mh_l l, (fun k' f => if k' = 8 ∧ f = 7 then 11 else r k' f)) M post) : mv_Run G 0 8 149 45 [(0, .inr (.inr 8))] [] (10, 245, mh_t, mh_l l, r) M post := by
  refine mv_run [(53, [0])] 7 ok_0 ?_
  show (if 0 ≤ (48 : Int) ∧ (48 : Int) ≤ 100000 ∧ 10 + 1 ≤ 8 + 8 ∧ 245 + Int.toNat 48 ≤ 149 + 439 then (if 1 ≤ 8 ∧ 8 ≤ 11 ∧ mh_t 8 = 0 ∧ 1 ≤ 11 ∧ 11 ≤ 11 then mv_Run G 0 8 149 53 [(0, .inr (.inr 8))] [] (mv_rf (mv_nwA (10, 245, mh_t, mh_l l, r) 100 (Int.toNat 48)) 8 7 11) (mv_nwM (10, 245, mh_t, mh_l l, r) M) post else False) else False)
  rw [if_pos (by decide)]
  rw [if_pos (by decide), cz_nwM hZ, cz_nwA (N := 10) (a := 100) (n := Int.toNat 48) rfl rfl]
  exact h (cz_s hZ)
set_option maxRecDepth 100000 in
theorem cg_X0_8_53 {r : Nat → Nat → Nat} {M : mv_Mem} (hZ : cz 11 M) (h : cz 12 M → mv_Run G 0 8 149 61 [(0, .inr (.inr 8))] [] (12, 341, mh_t, mh_l l, (fun k' f => if k' = 8 ∧ f = 8 then 12 else r k' f)) M post) : mv_Run G 0 8 149 53 [(0, .inr (.inr 8))] [] (11, 293, mh_t, mh_l l, r) M post := by
  refine mv_run [(61, [0])] 7 ok_0 ?_
  show (if 0 ≤ (48 : Int) ∧ (48 : Int) ≤ 100000 ∧ 11 + 1 ≤ 8 + 8 ∧ 293 + Int.toNat 48 ≤ 149 + 439 then (if 1 ≤ 8 ∧ 8 ≤ 12 ∧ mh_t 8 = 0 ∧ 1 ≤ 12 ∧ 12 ≤ 12 then mv_Run G 0 8 149 61 [(0, .inr (.inr 8))] [] (mv_rf (mv_nwA (11, 293, mh_t, mh_l l, r) 100 (Int.toNat 48)) 8 8 12) (mv_nwM (11, 293, mh_t, mh_l l, r) M) post else False) else False)
  rw [if_pos (by decide)]
  rw [if_pos (by decide), cz_nwM hZ, cz_nwA (N := 11) (a := 100) (n := Int.toNat 48) rfl rfl]
  exact h (cz_s hZ)
set_option maxRecDepth 100000 in
theorem cg_X0_8_61 {r : Nat → Nat → Nat} {M : mv_Mem} (hZ : cz 12 M) (h : cz 13 M → mv_Run G 0 8 149 69 [(0, .inr (.inr 8))] [] (13, 389, mh_t, mh_l l, (fun k' f => if k' = 8 ∧ f = 9 then 13 else r k' f)) M post) : mv_Run G 0 8 149 61 [(0, .inr (.inr 8))] [] (12, 341, mh_t, mh_l l, r) M post := by
  refine mv_run [(69, [0])] 7 ok_0 ?_
  show (if 0 ≤ (48 : Int) ∧ (48 : Int) ≤ 100000 ∧ 12 + 1 ≤ 8 + 8 ∧ 341 + Int.toNat 48 ≤ 149 + 439 then (if 1 ≤ 8 ∧ 8 ≤ 13 ∧ mh_t 8 = 0 ∧ 1 ≤ 13 ∧ 13 ≤ 13 then mv_Run G 0 8 149 69 [(0, .inr (.inr 8))] [] (mv_rf (mv_nwA (12, 341, mh_t, mh_l l, r) 100 (Int.toNat 48)) 8 9 13) (mv_nwM (12, 341, mh_t, mh_l l, r) M) post else False) else False)
  rw [if_pos (by decide)]
  rw [if_pos (by decide), cz_nwM hZ, cz_nwA (N := 12) (a := 100) (n := Int.toNat 48) rfl rfl]
  exact h (cz_s hZ)
set_option maxRecDepth 100000 in
theorem cg_X0_8_69 {r : Nat → Nat → Nat} {M : mv_Mem} (hZ : cz 13 M) (h : cz 14 M → mv_Run G 0 8 149 78 [(0, .inr (.inr 8))] [] (14, 581, mh_t, mh_l l, (fun k' f => if k' = 8 ∧ f = 10 then 14 else r k' f)) M post) : mv_Run G 0 8 149 69 [(0, .inr (.inr 8))] [] (13, 389, mh_t, mh_l l, r) M post := by
  refine mv_run [(78, [0])] 7 ok_0 ?_
  show (if 0 ≤ (192 : Int) ∧ (192 : Int) ≤ 100000 ∧ 13 + 1 ≤ 8 + 8 ∧ 389 + Int.toNat 192 ≤ 149 + 439 then (if 1 ≤ 8 ∧ 8 ≤ 14 ∧ mh_t 8 = 0 ∧ 1 ≤ 14 ∧ 14 ≤ 14 then mv_Run G 0 8 149 78 [(0, .inr (.inr 8))] [] (mv_rf (mv_nwA (13, 389, mh_t, mh_l l, r) 100 (Int.toNat 192)) 8 10 14) (mv_nwM (13, 389, mh_t, mh_l l, r) M) post else False) else False)
  rw [if_pos (by decide)]
  rw [if_pos (by decide), cz_nwM hZ, cz_nwA (N := 13) (a := 100) (n := Int.toNat 192) rfl rfl]
  exact h (cz_s hZ)
set_option maxRecDepth 100000 in
theorem cg_X0_8_78 {r : Nat → Nat → Nat} {M : mv_Mem} (hZ : cz 14 M) (h : cz 15 M → mv_Run G 0 8 149 85 [(0, .inr (.inr 8))] [] (15, 584, mh_t, mh_l l, (fun k' f => if k' = 8 ∧ f = 11 then 15 else r k' f)) M post) : mv_Run G 0 8 149 78 [(0, .inr (.inr 8))] [] (14, 581, mh_t, mh_l l, r) M post := by
  refine mv_run [(85, [0])] 7 ok_0 ?_
  show (if 0 ≤ (3 : Int) ∧ (3 : Int) ≤ 100000 ∧ 14 + 1 ≤ 8 + 8 ∧ 581 + Int.toNat 3 ≤ 149 + 439 then (if 1 ≤ 8 ∧ 8 ≤ 15 ∧ mh_t 8 = 0 ∧ 1 ≤ 15 ∧ 15 ≤ 15 then mv_Run G 0 8 149 85 [(0, .inr (.inr 8))] [] (mv_rf (mv_nwA (14, 581, mh_t, mh_l l, r) 100 (Int.toNat 3)) 8 11 15) (mv_nwM (14, 581, mh_t, mh_l l, r) M) post else False) else False)
  rw [if_pos (by decide)]
  rw [if_pos (by decide), cz_nwM hZ, cz_nwA (N := 14) (a := 100) (n := Int.toNat 3) rfl rfl]
  exact h (cz_s hZ)
set_option maxRecDepth 100000 in
theorem cg_X0_8_85 {r : Nat → Nat → Nat} {M : mv_Mem} (hZ : cz 15 M) (h : cz 16 (mv_up (mv_up (mv_up (mv_up M 16 0 (10)) 16 1 (6)) 16 2 (3)) 16 3 (2)) → mv_Run G 0 8 149 110 [(0, .inr (.inr 8))] [] (16, 588, mh_t, mh_l l, (fun k' f => if k' = 8 ∧ f = 12 then 16 else r k' f)) (mv_up (mv_up (mv_up (mv_up M 16 0 (10)) 16 1 (6)) 16 2 (3)) 16 3 (2)) post) : mv_Run G 0 8 149 85 [(0, .inr (.inr 8))] [] (15, 584, mh_t, mh_l l, r) M post := by
  refine mv_run [(110, [0])] 23 ok_0 ?_
  show (if 0 ≤ (4 : Int) ∧ (4 : Int) ≤ 100000 ∧ 15 + 1 ≤ 8 + 8 ∧ 584 + Int.toNat 4 ≤ 149 + 439 then (if false = false then (if 16 ≤ 16 ∧ 100 = 100 then ((0 ≤ (0 : Int) ∧ (0 : Int) < ((Int.toNat 4 : Nat) : Int)) ∧ (if false = false then (if 16 ≤ 16 ∧ 100 = 100 then ((0 ≤ (1 : Int) ∧ (1 : Int) < ((Int.toNat 4 : Nat) : Int)) ∧ (if false = false then (if 16 ≤ 16 ∧ 100 = 100 then ((0 ≤ (2 : Int) ∧ (2 : Int) < ((Int.toNat 4 : Nat) : Int)) ∧ (if false = false then (if 16 ≤ 16 ∧ 100 = 100 then ((0 ≤ (3 : Int) ∧ (3 : Int) < ((Int.toNat 4 : Nat) : Int)) ∧ (if 1 ≤ 8 ∧ 8 ≤ 16 ∧ mh_t 8 = 0 ∧ 1 ≤ 16 ∧ 16 ≤ 16 then mv_Run G 0 8 149 110 [(0, .inr (.inr 8))] [] (mv_rf (mv_nwA (15, 584, mh_t, mh_l l, r) 100 (Int.toNat 4)) 8 12 16) (mv_up (mv_up (mv_up (mv_up (mv_nwM (15, 584, mh_t, mh_l l, r) M) 16 (Int.toNat 0) (10)) 16 (Int.toNat 1) (6)) 16 (Int.toNat 2) (3)) 16 (Int.toNat 3) (2)) post else False)) else False) else False)) else False) else False)) else False) else False)) else False) else False) else False)
  rw [if_pos (by decide)]
  rw [if_pos rfl, if_pos (by decide)]
  refine ⟨by decide, ?_⟩
  rw [if_pos rfl, if_pos (by decide)]
  refine ⟨by decide, ?_⟩
  rw [if_pos rfl, if_pos (by decide)]
  refine ⟨by decide, ?_⟩
  rw [if_pos rfl, if_pos (by decide)]
  refine ⟨by decide, ?_⟩
  rw [if_pos (by decide), cz_nwM hZ, cz_nwA (N := 15) (a := 100) (n := Int.toNat 4) rfl rfl]
  exact h (cz_up (cz_up (cz_up (cz_up (cz_s hZ) (by decide)) (by decide)) (by decide)) (by decide))
set_option maxRecDepth 100000 in
theorem cg_X0_8_110 {r : Nat → Nat → Nat} (hr : r 8 8 = 12) {M0 : mv_Mem} (hZ : cz 16 M0) (h : ∀ M, cz 16 M → (∀ i, i < 48 → M 12 i = -1) → (∀ a i, ¬ (a = 12 ∧ i < 48) → M a i = M0 a i) → mv_Run G 0 8 149 131 [(0, .inr (.inr 8))] [] (16, 588, mh_t, mh_l l, r) M post) : mv_Run G 0 8 149 110 [(0, .inr (.inr 8))] [] (16, 588, mh_t, mh_l l, r) M0 post := by
  have key : ∀ (q j : Nat) (M : mv_Mem), j + q = 48 → cz 16 M → (∀ i, i < j → M 12 i = -1) → (∀ a i, ¬ (a = 12 ∧ i < 48) → M a i = M0 a i) → mv_Run G 0 8 149 112 [(0, .inr (.inr 8)), (1, .inl (j : Int))] [] (16, 588, mh_t, mh_l l, r) M post := by
    intro q
    induction q with
    | zero =>
      intro j M hj z f1 f2
      refine mv_run [(131, [0])] 6 ok_0 ?_
      show (if (48 : Int) ≤ (j : Int) then mv_Run G 0 8 149 131 [(0, .inr (.inr 8))] [] (16, 588, mh_t, mh_l l, r) M post else _)
      rw [if_pos (by omega)]
      exact h M z (fun i hi => f1 i (by omega)) f2
    | succ q ih =>
      intro j M hj z f1 f2
      refine mv_run [(112, [0, 1]), (131, [0])] 14 ok_0 ?_
      show (if (48 : Int) ≤ (j : Int) then _ else (if 1 ≤ 8 ∧ 8 ≤ 16 ∧ mh_t 8 = 0 then (if 1 ≤ r 8 8 then (if 1 ≤ r 8 8 ∧ r 8 8 ≤ 16 ∧ mh_t (r 8 8) = 100 then (0 ≤ (j : Int) ∧ (j : Int) < ((mh_l l (r 8 8) : Nat) : Int)) ∧ (mv_R32 ((j : Int) + 1) ∧ mv_Run G 0 8 149 112 [(0, .inr (.inr 8)), (1, .inl ((j : Int) + 1))] [] (16, 588, mh_t, mh_l l, r) (mv_up M (r 8 8) (Int.toNat (j : Int)) (-1)) post) else False) else False) else False))
      rw [if_neg (by omega), if_pos (by decide), hr, if_pos (by decide), if_pos (by decide), Int.toNat_natCast]
      have el : mh_l l 12 = 48 := rfl
      refine ⟨by omega, by omega, ih (j + 1) _ (by omega) (fun a i ha => ?_) (fun i hi => ?_) (fun a i ha => ?_)⟩
      · rw [mv_up_c (by omega)]
        exact z a i ha
      · by_cases y : i = j
        · rw [y, mv_up_s]
        · rw [mv_up_j y]
          exact f1 i (by omega)
      · rw [mv_up_n (by omega)]
        exact f2 a i ha
  refine mv_run [(112, [0, 1])] 4 ok_0 ?_
  exact key 48 0 M0 rfl hZ (fun i hi => by omega) (fun _ _ _ => rfl)
set_option maxRecDepth 100000 in
theorem cg_X0_8_131 {r : Nat → Nat → Nat} {M : mv_Mem} (h : post none (16, 588, mh_t, mh_l l, r) M) : mv_Run G 0 8 149 131 [(0, .inr (.inr 8))] [] (16, 588, mh_t, mh_l l, r) M post := by
  refine mv_run [] 3 ok_0 ?_
  show (if 16 = 8 + 8 ∧ 588 = 149 + 439 then post none (16, 588, mh_t, mh_l l, r) M else False)
  rw [if_pos (by decide)]
  exact h
set_option maxRecDepth 100000 in
theorem cg_X10_7_4 {r : Nat → Nat → Nat} {M : mv_Mem} (hZ : cz 7 M) (h : cz 8 M → mv_Wp G 0 [.inr (.inr 8)] (8, 149, mh_t, mh_l l, (fun k' f => if k' = 8 then 0 else r k' f)) M (fun r sh M => mv_Run G 83 7 136 12 [(0, .inr (.inr 7))] (r.toList ++ [.inr (.inr 8), .inr (.inr 7)]) sh M post)) : mv_Run G 83 7 136 4 [(0, .inr (.inr 7))] [] (7, 136, mh_t, mh_l l, r) M post := by
  refine mv_run [(12, [0])] 7 ok_83 ?_
  show (if 7 + 1 ≤ 7 + 27 ∧ 136 + 13 ≤ 136 + 803 then (if false = false then (if mv_stw [.inr (.inr 8), .inr (.inr 7)] ≤ 8 ∧ 1 ≤ 3 ∧ 8 + (10 - 2) ≤ 7 + 27 ∧ 149 + Int.toNat 439 ≤ 136 + 803 then mv_Wp G 0 [.inr (.inr 8)] (mv_nwO (7, 136, mh_t, mh_l l, r) 0 13) (mv_nwM (7, 136, mh_t, mh_l l, r) M) (fun r sh M => mv_Run G 83 7 136 12 [(0, .inr (.inr 7))] (r.toList ++ [.inr (.inr 8), .inr (.inr 7)]) sh M post) else False) else False) else False)
  rw [if_pos (by decide), if_pos rfl, if_pos (by decide), cz_nwM hZ, cz_nwO (N := 7) (a := 0) rfl]
  exact h (cz_s hZ)
set_option maxRecDepth 100000 in
theorem cg_X10_7_12 {r : Nat → Nat → Nat} {M : mv_Mem} (h : mv_Run G 83 7 136 15 [(0, .inr (.inr 7))] [] (16, 588, mh_t, mh_l l, (fun k' f => if k' = 7 ∧ f = 0 then 8 else r k' f)) M post) : mv_Run G 83 7 136 12 [(0, .inr (.inr 7))] [.inr (.inr 8), .inr (.inr 7)] (16, 588, mh_t, mh_l l, r) M post := by
  refine mv_run [(15, [0])] 3 ok_83 ?_
  show (if 1 ≤ 7 ∧ 7 ≤ 16 ∧ mh_t 7 = 10 ∧ 1 ≤ 8 ∧ 8 ≤ 16 then mv_Run G 83 7 136 15 [(0, .inr (.inr 7))] [] (16, 588, mh_t, mh_l l, (fun k' f => if k' = 7 ∧ f = 0 then 8 else r k' f)) M post else False)
  rw [if_pos (by decide)]
  exact h
set_option maxRecDepth 100000 in
theorem ce_X7_17 {r : Nat → Nat → Nat} {M : mv_Mem} (h : mv_Run G 57 17 602 4 [(0, .inr (.inr 17))] [] (17, 602, mh_t, mh_l l, r) M post) : mv_Wp G 57 [.inr (.inr 17)] (17, 602, mh_t, mh_l l, r) M post :=
  mv_wp [(4, [0])] 5 ok_57 oc_57 rfl (show (if mv_stw ([] : List mv_V) ≤ 8 then mv_Run G 57 17 602 4 [(0, .inr (.inr 17))] [] (17, 602, mh_t, mh_l l, r) M post else False) from by rw [if_pos (by decide)]; exact h)
set_option maxRecDepth 100000 in
theorem cg_X7_17_4 {r : Nat → Nat → Nat} {M : mv_Mem} (h : mv_Run G 57 17 602 9 [(0, .inr (.inr 17))] [] (17, 602, mh_t, mh_l l, r) (mv_up M 17 0 0) post) : mv_Run G 57 17 602 4 [(0, .inr (.inr 17))] [] (17, 602, mh_t, mh_l l, r) M post := by
  refine mv_run [(9, [0])] 6 ok_57 ?_
  show (if 1 ≤ 17 ∧ 17 ≤ 17 ∧ mh_t 17 = 7 then mv_Run G 57 17 602 9 [(0, .inr (.inr 17))] [] (17, 602, mh_t, mh_l l, r) (mv_up M 17 0 0) post else False)
  rw [if_pos (by decide)]
  exact h
set_option maxRecDepth 100000 in
theorem cg_X7_17_9 {r : Nat → Nat → Nat} {M : mv_Mem} (h : mv_Run G 57 17 602 14 [(0, .inr (.inr 17))] [] (17, 602, mh_t, mh_l l, r) (mv_up M 17 1 0) post) : mv_Run G 57 17 602 9 [(0, .inr (.inr 17))] [] (17, 602, mh_t, mh_l l, r) M post := by
  refine mv_run [(14, [0])] 6 ok_57 ?_
  show (if 1 ≤ 17 ∧ 17 ≤ 17 ∧ mh_t 17 = 7 then mv_Run G 57 17 602 14 [(0, .inr (.inr 17))] [] (17, 602, mh_t, mh_l l, r) (mv_up M 17 1 0) post else False)
  rw [if_pos (by decide)]
  exact h
set_option maxRecDepth 100000 in
theorem cg_X7_17_14 {r : Nat → Nat → Nat} {M : mv_Mem} (hZ : cz 17 M) (h : cz 18 M → mv_Run G 57 17 602 22 [(0, .inr (.inr 17))] [] (18, 608, mh_t, mh_l l, (fun k' f => if k' = 17 ∧ f = 2 then 18 else r k' f)) M post) : mv_Run G 57 17 602 14 [(0, .inr (.inr 17))] [] (17, 602, mh_t, mh_l l, r) M post := by
  refine mv_run [(22, [0])] 7 ok_57 ?_
  show (if 0 ≤ (6 : Int) ∧ (6 : Int) ≤ 100000 ∧ 17 + 1 ≤ 17 + 12 ∧ 602 + Int.toNat 6 ≤ 602 + 300 then (if 1 ≤ 17 ∧ 17 ≤ 18 ∧ mh_t 17 = 7 ∧ 1 ≤ 18 ∧ 18 ≤ 18 then mv_Run G 57 17 602 22 [(0, .inr (.inr 17))] [] (mv_rf (mv_nwA (17, 602, mh_t, mh_l l, r) 100 (Int.toNat 6)) 17 2 18) (mv_nwM (17, 602, mh_t, mh_l l, r) M) post else False) else False)
  rw [if_pos (by decide)]
  rw [if_pos (by decide), cz_nwM hZ, cz_nwA (N := 17) (a := 100) (n := Int.toNat 6) rfl rfl]
  exact h (cz_s hZ)
set_option maxRecDepth 100000 in
theorem cg_X7_17_22 {r : Nat → Nat → Nat} {M : mv_Mem} (hZ : cz 18 M) (h : cz 19 M → mv_Run G 57 17 602 30 [(0, .inr (.inr 17))] [] (19, 614, mh_t, mh_l l, (fun k' f => if k' = 17 ∧ f = 3 then 19 else r k' f)) M post) : mv_Run G 57 17 602 22 [(0, .inr (.inr 17))] [] (18, 608, mh_t, mh_l l, r) M post := by
  refine mv_run [(30, [0])] 7 ok_57 ?_
  show (if 0 ≤ (6 : Int) ∧ (6 : Int) ≤ 100000 ∧ 18 + 1 ≤ 17 + 12 ∧ 608 + Int.toNat 6 ≤ 602 + 300 then (if 1 ≤ 17 ∧ 17 ≤ 19 ∧ mh_t 17 = 7 ∧ 1 ≤ 19 ∧ 19 ≤ 19 then mv_Run G 57 17 602 30 [(0, .inr (.inr 17))] [] (mv_rf (mv_nwA (18, 608, mh_t, mh_l l, r) 100 (Int.toNat 6)) 17 3 19) (mv_nwM (18, 608, mh_t, mh_l l, r) M) post else False) else False)
  rw [if_pos (by decide)]
  rw [if_pos (by decide), cz_nwM hZ, cz_nwA (N := 18) (a := 100) (n := Int.toNat 6) rfl rfl]
  exact h (cz_s hZ)
set_option maxRecDepth 100000 in
theorem cg_X7_17_30 {r : Nat → Nat → Nat} {M : mv_Mem} (hZ : cz 19 M) (h : cz 20 M → mv_Run G 57 17 602 38 [(0, .inr (.inr 17))] [] (20, 620, mh_t, mh_l l, (fun k' f => if k' = 17 ∧ f = 4 then 20 else r k' f)) M post) : mv_Run G 57 17 602 30 [(0, .inr (.inr 17))] [] (19, 614, mh_t, mh_l l, r) M post := by
  refine mv_run [(38, [0])] 7 ok_57 ?_
  show (if 0 ≤ (6 : Int) ∧ (6 : Int) ≤ 100000 ∧ 19 + 1 ≤ 17 + 12 ∧ 614 + Int.toNat 6 ≤ 602 + 300 then (if 1 ≤ 17 ∧ 17 ≤ 20 ∧ mh_t 17 = 7 ∧ 1 ≤ 20 ∧ 20 ≤ 20 then mv_Run G 57 17 602 38 [(0, .inr (.inr 17))] [] (mv_rf (mv_nwA (19, 614, mh_t, mh_l l, r) 100 (Int.toNat 6)) 17 4 20) (mv_nwM (19, 614, mh_t, mh_l l, r) M) post else False) else False)
  rw [if_pos (by decide)]
  rw [if_pos (by decide), cz_nwM hZ, cz_nwA (N := 19) (a := 100) (n := Int.toNat 6) rfl rfl]
  exact h (cz_s hZ)
set_option maxRecDepth 100000 in
theorem cg_X7_17_38 {r : Nat → Nat → Nat} {M : mv_Mem} (hZ : cz 20 M) (h : cz 21 M → mv_Run G 57 17 602 46 [(0, .inr (.inr 17))] [] (21, 626, mh_t, mh_l l, (fun k' f => if k' = 17 ∧ f = 5 then 21 else r k' f)) M post) : mv_Run G 57 17 602 38 [(0, .inr (.inr 17))] [] (20, 620, mh_t, mh_l l, r) M post := by
  refine mv_run [(46, [0])] 7 ok_57 ?_
  show (if 0 ≤ (6 : Int) ∧ (6 : Int) ≤ 100000 ∧ 20 + 1 ≤ 17 + 12 ∧ 620 + Int.toNat 6 ≤ 602 + 300 then (if 1 ≤ 17 ∧ 17 ≤ 21 ∧ mh_t 17 = 7 ∧ 1 ≤ 21 ∧ 21 ≤ 21 then mv_Run G 57 17 602 46 [(0, .inr (.inr 17))] [] (mv_rf (mv_nwA (20, 620, mh_t, mh_l l, r) 100 (Int.toNat 6)) 17 5 21) (mv_nwM (20, 620, mh_t, mh_l l, r) M) post else False) else False)
  rw [if_pos (by decide)]
  rw [if_pos (by decide), cz_nwM hZ, cz_nwA (N := 20) (a := 100) (n := Int.toNat 6) rfl rfl]
  exact h (cz_s hZ)
set_option maxRecDepth 100000 in
theorem cg_X7_17_46 {r : Nat → Nat → Nat} {M : mv_Mem} (hZ : cz 21 M) (h : cz 22 M → mv_Run G 57 17 602 54 [(0, .inr (.inr 17))] [] (22, 632, mh_t, mh_l l, (fun k' f => if k' = 17 ∧ f = 6 then 22 else r k' f)) M post) : mv_Run G 57 17 602 46 [(0, .inr (.inr 17))] [] (21, 626, mh_t, mh_l l, r) M post := by
  refine mv_run [(54, [0])] 7 ok_57 ?_
  show (if 0 ≤ (6 : Int) ∧ (6 : Int) ≤ 100000 ∧ 21 + 1 ≤ 17 + 12 ∧ 626 + Int.toNat 6 ≤ 602 + 300 then (if 1 ≤ 17 ∧ 17 ≤ 22 ∧ mh_t 17 = 7 ∧ 1 ≤ 22 ∧ 22 ≤ 22 then mv_Run G 57 17 602 54 [(0, .inr (.inr 17))] [] (mv_rf (mv_nwA (21, 626, mh_t, mh_l l, r) 100 (Int.toNat 6)) 17 6 22) (mv_nwM (21, 626, mh_t, mh_l l, r) M) post else False) else False)
  rw [if_pos (by decide)]
  rw [if_pos (by decide), cz_nwM hZ, cz_nwA (N := 21) (a := 100) (n := Int.toNat 6) rfl rfl]
  exact h (cz_s hZ)
set_option maxRecDepth 100000 in
theorem cg_X7_17_54 {r : Nat → Nat → Nat} {M : mv_Mem} (hZ : cz 22 M) (h : cz 23 M → mv_Run G 57 17 602 62 [(0, .inr (.inr 17))] [] (23, 638, mh_t, mh_l l, (fun k' f => if k' = 17 ∧ f = 7 then 23 else r k' f)) M post) : mv_Run G 57 17 602 54 [(0, .inr (.inr 17))] [] (22, 632, mh_t, mh_l l, r) M post := by
  refine mv_run [(62, [0])] 7 ok_57 ?_
  show (if 0 ≤ (6 : Int) ∧ (6 : Int) ≤ 100000 ∧ 22 + 1 ≤ 17 + 12 ∧ 632 + Int.toNat 6 ≤ 602 + 300 then (if 1 ≤ 17 ∧ 17 ≤ 23 ∧ mh_t 17 = 7 ∧ 1 ≤ 23 ∧ 23 ≤ 23 then mv_Run G 57 17 602 62 [(0, .inr (.inr 17))] [] (mv_rf (mv_nwA (22, 632, mh_t, mh_l l, r) 100 (Int.toNat 6)) 17 7 23) (mv_nwM (22, 632, mh_t, mh_l l, r) M) post else False) else False)
  rw [if_pos (by decide)]
  rw [if_pos (by decide), cz_nwM hZ, cz_nwA (N := 22) (a := 100) (n := Int.toNat 6) rfl rfl]
  exact h (cz_s hZ)
set_option maxRecDepth 100000 in
theorem cg_X7_17_62 {r : Nat → Nat → Nat} {M : mv_Mem} (hZ : cz 23 M) (h : cz 24 M → mv_Run G 57 17 602 70 [(0, .inr (.inr 17))] [] (24, 644, mh_t, mh_l l, (fun k' f => if k' = 17 ∧ f = 8 then 24 else r k' f)) M post) : mv_Run G 57 17 602 62 [(0, .inr (.inr 17))] [] (23, 638, mh_t, mh_l l, r) M post := by
  refine mv_run [(70, [0])] 7 ok_57 ?_
  show (if 0 ≤ (6 : Int) ∧ (6 : Int) ≤ 100000 ∧ 23 + 1 ≤ 17 + 12 ∧ 638 + Int.toNat 6 ≤ 602 + 300 then (if 1 ≤ 17 ∧ 17 ≤ 24 ∧ mh_t 17 = 7 ∧ 1 ≤ 24 ∧ 24 ≤ 24 then mv_Run G 57 17 602 70 [(0, .inr (.inr 17))] [] (mv_rf (mv_nwA (23, 638, mh_t, mh_l l, r) 100 (Int.toNat 6)) 17 8 24) (mv_nwM (23, 638, mh_t, mh_l l, r) M) post else False) else False)
  rw [if_pos (by decide)]
  rw [if_pos (by decide), cz_nwM hZ, cz_nwA (N := 23) (a := 100) (n := Int.toNat 6) rfl rfl]
  exact h (cz_s hZ)
set_option maxRecDepth 100000 in
theorem cg_X7_17_70 {r : Nat → Nat → Nat} {M : mv_Mem} (hZ : cz 24 M) (h : cz 25 M → mv_Run G 57 17 602 78 [(0, .inr (.inr 17))] [] (25, 650, mh_t, mh_l l, (fun k' f => if k' = 17 ∧ f = 9 then 25 else r k' f)) M post) : mv_Run G 57 17 602 70 [(0, .inr (.inr 17))] [] (24, 644, mh_t, mh_l l, r) M post := by
  refine mv_run [(78, [0])] 7 ok_57 ?_
  show (if 0 ≤ (6 : Int) ∧ (6 : Int) ≤ 100000 ∧ 24 + 1 ≤ 17 + 12 ∧ 644 + Int.toNat 6 ≤ 602 + 300 then (if 1 ≤ 17 ∧ 17 ≤ 25 ∧ mh_t 17 = 7 ∧ 1 ≤ 25 ∧ 25 ≤ 25 then mv_Run G 57 17 602 78 [(0, .inr (.inr 17))] [] (mv_rf (mv_nwA (24, 644, mh_t, mh_l l, r) 100 (Int.toNat 6)) 17 9 25) (mv_nwM (24, 644, mh_t, mh_l l, r) M) post else False) else False)
  rw [if_pos (by decide)]
  rw [if_pos (by decide), cz_nwM hZ, cz_nwA (N := 24) (a := 100) (n := Int.toNat 6) rfl rfl]
  exact h (cz_s hZ)
set_option maxRecDepth 100000 in
theorem cg_X7_17_78 {r : Nat → Nat → Nat} {M : mv_Mem} (hZ : cz 25 M) (h : cz 26 M → mv_Run G 57 17 602 86 [(0, .inr (.inr 17))] [] (26, 668, mh_t, mh_l l, (fun k' f => if k' = 17 ∧ f = 10 then 26 else r k' f)) M post) : mv_Run G 57 17 602 78 [(0, .inr (.inr 17))] [] (25, 650, mh_t, mh_l l, r) M post := by
  refine mv_run [(86, [0])] 7 ok_57 ?_
  show (if 0 ≤ (18 : Int) ∧ (18 : Int) ≤ 100000 ∧ 25 + 1 ≤ 17 + 12 ∧ 650 + Int.toNat 18 ≤ 602 + 300 then (if 1 ≤ 17 ∧ 17 ≤ 26 ∧ mh_t 17 = 7 ∧ 1 ≤ 26 ∧ 26 ≤ 26 then mv_Run G 57 17 602 86 [(0, .inr (.inr 17))] [] (mv_rf (mv_nwA (25, 650, mh_t, mh_l l, r) 100 (Int.toNat 18)) 17 10 26) (mv_nwM (25, 650, mh_t, mh_l l, r) M) post else False) else False)
  rw [if_pos (by decide)]
  rw [if_pos (by decide), cz_nwM hZ, cz_nwA (N := 25) (a := 100) (n := Int.toNat 18) rfl rfl]
  exact h (cz_s hZ)
set_option maxRecDepth 100000 in
theorem cg_X7_17_86 {r : Nat → Nat → Nat} {M : mv_Mem} (hZ : cz 26 M) (h : cz 27 M → mv_Run G 57 17 602 94 [(0, .inr (.inr 17))] [] (27, 686, mh_t, mh_l l, (fun k' f => if k' = 17 ∧ f = 11 then 27 else r k' f)) M post) : mv_Run G 57 17 602 86 [(0, .inr (.inr 17))] [] (26, 668, mh_t, mh_l l, r) M post := by
  refine mv_run [(94, [0])] 7 ok_57 ?_
  show (if 0 ≤ (18 : Int) ∧ (18 : Int) ≤ 100000 ∧ 26 + 1 ≤ 17 + 12 ∧ 668 + Int.toNat 18 ≤ 602 + 300 then (if 1 ≤ 17 ∧ 17 ≤ 27 ∧ mh_t 17 = 7 ∧ 1 ≤ 27 ∧ 27 ≤ 27 then mv_Run G 57 17 602 94 [(0, .inr (.inr 17))] [] (mv_rf (mv_nwA (26, 668, mh_t, mh_l l, r) 100 (Int.toNat 18)) 17 11 27) (mv_nwM (26, 668, mh_t, mh_l l, r) M) post else False) else False)
  rw [if_pos (by decide)]
  rw [if_pos (by decide), cz_nwM hZ, cz_nwA (N := 26) (a := 100) (n := Int.toNat 18) rfl rfl]
  exact h (cz_s hZ)
set_option maxRecDepth 100000 in
theorem cg_X7_17_94 {r : Nat → Nat → Nat} {M : mv_Mem} (hZ : cz 27 M) (h : cz 28 M → mv_Run G 57 17 602 102 [(0, .inr (.inr 17))] [] (28, 794, mh_t, mh_l l, (fun k' f => if k' = 17 ∧ f = 12 then 28 else r k' f)) M post) : mv_Run G 57 17 602 94 [(0, .inr (.inr 17))] [] (27, 686, mh_t, mh_l l, r) M post := by
  refine mv_run [(102, [0])] 7 ok_57 ?_
  show (if 0 ≤ (108 : Int) ∧ (108 : Int) ≤ 100000 ∧ 27 + 1 ≤ 17 + 12 ∧ 686 + Int.toNat 108 ≤ 602 + 300 then (if 1 ≤ 17 ∧ 17 ≤ 28 ∧ mh_t 17 = 7 ∧ 1 ≤ 28 ∧ 28 ≤ 28 then mv_Run G 57 17 602 102 [(0, .inr (.inr 17))] [] (mv_rf (mv_nwA (27, 686, mh_t, mh_l l, r) 100 (Int.toNat 108)) 17 12 28) (mv_nwM (27, 686, mh_t, mh_l l, r) M) post else False) else False)
  rw [if_pos (by decide)]
  rw [if_pos (by decide), cz_nwM hZ, cz_nwA (N := 27) (a := 100) (n := Int.toNat 108) rfl rfl]
  exact h (cz_s hZ)
set_option maxRecDepth 100000 in
theorem cg_X7_17_102 {r : Nat → Nat → Nat} {M : mv_Mem} (hZ : cz 28 M) (h : cz 29 M → mv_Run G 57 17 602 110 [(0, .inr (.inr 17))] [] (29, 902, mh_t, mh_l l, (fun k' f => if k' = 17 ∧ f = 13 then 29 else r k' f)) M post) : mv_Run G 57 17 602 102 [(0, .inr (.inr 17))] [] (28, 794, mh_t, mh_l l, r) M post := by
  refine mv_run [(110, [0])] 7 ok_57 ?_
  show (if 0 ≤ (108 : Int) ∧ (108 : Int) ≤ 100000 ∧ 28 + 1 ≤ 17 + 12 ∧ 794 + Int.toNat 108 ≤ 602 + 300 then (if 1 ≤ 17 ∧ 17 ≤ 29 ∧ mh_t 17 = 7 ∧ 1 ≤ 29 ∧ 29 ≤ 29 then mv_Run G 57 17 602 110 [(0, .inr (.inr 17))] [] (mv_rf (mv_nwA (28, 794, mh_t, mh_l l, r) 100 (Int.toNat 108)) 17 13 29) (mv_nwM (28, 794, mh_t, mh_l l, r) M) post else False) else False)
  rw [if_pos (by decide)]
  rw [if_pos (by decide), cz_nwM hZ, cz_nwA (N := 28) (a := 100) (n := Int.toNat 108) rfl rfl]
  exact h (cz_s hZ)
set_option maxRecDepth 100000 in
theorem cg_X7_17_110 {r : Nat → Nat → Nat} {M : mv_Mem} (h : post none (29, 902, mh_t, mh_l l, r) M) : mv_Run G 57 17 602 110 [(0, .inr (.inr 17))] [] (29, 902, mh_t, mh_l l, r) M post := by
  refine mv_run [] 3 ok_57 ?_
  show (if 29 = 17 + 12 ∧ 902 = 602 + 300 then post none (29, 902, mh_t, mh_l l, r) M else False)
  rw [if_pos (by decide)]
  exact h
set_option maxRecDepth 100000 in
theorem cg_X10_7_15 {r : Nat → Nat → Nat} {M : mv_Mem} (hZ : cz 16 M) (h : cz 17 M → mv_Wp G 57 [.inr (.inr 17)] (17, 602, mh_t, mh_l l, (fun k' f => if k' = 17 then 0 else r k' f)) M (fun r sh M => mv_Run G 83 7 136 23 [(0, .inr (.inr 7))] (r.toList ++ [.inr (.inr 17), .inr (.inr 7)]) sh M post)) : mv_Run G 83 7 136 15 [(0, .inr (.inr 7))] [] (16, 588, mh_t, mh_l l, r) M post := by
  refine mv_run [(23, [0])] 7 ok_83 ?_
  show (if 16 + 1 ≤ 7 + 27 ∧ 588 + 14 ≤ 136 + 803 then (if false = false then (if mv_stw [.inr (.inr 17), .inr (.inr 7)] ≤ 8 ∧ 1 ≤ 3 ∧ 17 + (14 - 2) ≤ 7 + 27 ∧ 602 + Int.toNat 300 ≤ 136 + 803 then mv_Wp G 57 [.inr (.inr 17)] (mv_nwO (16, 588, mh_t, mh_l l, r) 7 14) (mv_nwM (16, 588, mh_t, mh_l l, r) M) (fun r sh M => mv_Run G 83 7 136 23 [(0, .inr (.inr 7))] (r.toList ++ [.inr (.inr 17), .inr (.inr 7)]) sh M post) else False) else False) else False)
  rw [if_pos (by decide), if_pos rfl, if_pos (by decide), cz_nwM hZ, cz_nwO (N := 16) (a := 7) rfl]
  exact h (cz_s hZ)
set_option maxRecDepth 100000 in
theorem cg_X10_7_23 {r : Nat → Nat → Nat} {M : mv_Mem} (h : mv_Run G 83 7 136 26 [(0, .inr (.inr 7))] [] (29, 902, mh_t, mh_l l, (fun k' f => if k' = 7 ∧ f = 1 then 17 else r k' f)) M post) : mv_Run G 83 7 136 23 [(0, .inr (.inr 7))] [.inr (.inr 17), .inr (.inr 7)] (29, 902, mh_t, mh_l l, r) M post := by
  refine mv_run [(26, [0])] 3 ok_83 ?_
  show (if 1 ≤ 7 ∧ 7 ≤ 29 ∧ mh_t 7 = 10 ∧ 1 ≤ 17 ∧ 17 ≤ 29 then mv_Run G 83 7 136 26 [(0, .inr (.inr 7))] [] (29, 902, mh_t, mh_l l, (fun k' f => if k' = 7 ∧ f = 1 then 17 else r k' f)) M post else False)
  rw [if_pos (by decide)]
  exact h
set_option maxRecDepth 100000 in
theorem ce_X2_30 {r : Nat → Nat → Nat} {M : mv_Mem} (h : mv_Run G 31 30 907 4 [(0, .inr (.inr 30))] [] (30, 907, mh_t, mh_l l, r) M post) : mv_Wp G 31 [.inr (.inr 30)] (30, 907, mh_t, mh_l l, r) M post :=
  mv_wp [(4, [0])] 5 ok_31 oc_31 rfl (show (if mv_stw ([] : List mv_V) ≤ 8 then mv_Run G 31 30 907 4 [(0, .inr (.inr 30))] [] (30, 907, mh_t, mh_l l, r) M post else False) from by rw [if_pos (by decide)]; exact h)
set_option maxRecDepth 100000 in
theorem cg_X2_30_4 {r : Nat → Nat → Nat} {M : mv_Mem} (h : mv_Run G 31 30 907 9 [(0, .inr (.inr 30))] [] (30, 907, mh_t, mh_l l, r) (mv_up M 30 0 0) post) : mv_Run G 31 30 907 4 [(0, .inr (.inr 30))] [] (30, 907, mh_t, mh_l l, r) M post := by
  refine mv_run [(9, [0])] 6 ok_31 ?_
  show (if 1 ≤ 30 ∧ 30 ≤ 30 ∧ mh_t 30 = 2 then mv_Run G 31 30 907 9 [(0, .inr (.inr 30))] [] (30, 907, mh_t, mh_l l, r) (mv_up M 30 0 0) post else False)
  rw [if_pos (by decide)]
  exact h
set_option maxRecDepth 100000 in
theorem cg_X2_30_9 {r : Nat → Nat → Nat} {M : mv_Mem} (hZ : cz 30 M) (h : cz 31 M → mv_Run G 31 30 907 17 [(0, .inr (.inr 30))] [] (31, 915, mh_t, mh_l l, (fun k' f => if k' = 30 ∧ f = 1 then 31 else r k' f)) M post) : mv_Run G 31 30 907 9 [(0, .inr (.inr 30))] [] (30, 907, mh_t, mh_l l, r) M post := by
  refine mv_run [(17, [0])] 7 ok_31 ?_
  show (if 0 ≤ (8 : Int) ∧ (8 : Int) ≤ 100000 ∧ 30 + 1 ≤ 30 + 4 ∧ 907 + Int.toNat 8 ≤ 907 + 32 then (if 1 ≤ 30 ∧ 30 ≤ 31 ∧ mh_t 30 = 2 ∧ 1 ≤ 31 ∧ 31 ≤ 31 then mv_Run G 31 30 907 17 [(0, .inr (.inr 30))] [] (mv_rf (mv_nwA (30, 907, mh_t, mh_l l, r) 100 (Int.toNat 8)) 30 1 31) (mv_nwM (30, 907, mh_t, mh_l l, r) M) post else False) else False)
  rw [if_pos (by decide)]
  rw [if_pos (by decide), cz_nwM hZ, cz_nwA (N := 30) (a := 100) (n := Int.toNat 8) rfl rfl]
  exact h (cz_s hZ)
set_option maxRecDepth 100000 in
theorem cg_X2_30_17 {r : Nat → Nat → Nat} {M : mv_Mem} (hZ : cz 31 M) (h : cz 32 M → mv_Run G 31 30 907 25 [(0, .inr (.inr 30))] [] (32, 923, mh_t, mh_l l, (fun k' f => if k' = 30 ∧ f = 2 then 32 else r k' f)) M post) : mv_Run G 31 30 907 17 [(0, .inr (.inr 30))] [] (31, 915, mh_t, mh_l l, r) M post := by
  refine mv_run [(25, [0])] 7 ok_31 ?_
  show (if 0 ≤ (8 : Int) ∧ (8 : Int) ≤ 100000 ∧ 31 + 1 ≤ 30 + 4 ∧ 915 + Int.toNat 8 ≤ 907 + 32 then (if 1 ≤ 30 ∧ 30 ≤ 32 ∧ mh_t 30 = 2 ∧ 1 ≤ 32 ∧ 32 ≤ 32 then mv_Run G 31 30 907 25 [(0, .inr (.inr 30))] [] (mv_rf (mv_nwA (31, 915, mh_t, mh_l l, r) 100 (Int.toNat 8)) 30 2 32) (mv_nwM (31, 915, mh_t, mh_l l, r) M) post else False) else False)
  rw [if_pos (by decide)]
  rw [if_pos (by decide), cz_nwM hZ, cz_nwA (N := 31) (a := 100) (n := Int.toNat 8) rfl rfl]
  exact h (cz_s hZ)
set_option maxRecDepth 100000 in
theorem cg_X2_30_25 {r : Nat → Nat → Nat} {M : mv_Mem} (hZ : cz 32 M) (h : cz 33 M → mv_Run G 31 30 907 33 [(0, .inr (.inr 30))] [] (33, 931, mh_t, mh_l l, (fun k' f => if k' = 30 ∧ f = 3 then 33 else r k' f)) M post) : mv_Run G 31 30 907 25 [(0, .inr (.inr 30))] [] (32, 923, mh_t, mh_l l, r) M post := by
  refine mv_run [(33, [0])] 7 ok_31 ?_
  show (if 0 ≤ (8 : Int) ∧ (8 : Int) ≤ 100000 ∧ 32 + 1 ≤ 30 + 4 ∧ 923 + Int.toNat 8 ≤ 907 + 32 then (if 1 ≤ 30 ∧ 30 ≤ 33 ∧ mh_t 30 = 2 ∧ 1 ≤ 33 ∧ 33 ≤ 33 then mv_Run G 31 30 907 33 [(0, .inr (.inr 30))] [] (mv_rf (mv_nwA (32, 923, mh_t, mh_l l, r) 100 (Int.toNat 8)) 30 3 33) (mv_nwM (32, 923, mh_t, mh_l l, r) M) post else False) else False)
  rw [if_pos (by decide)]
  rw [if_pos (by decide), cz_nwM hZ, cz_nwA (N := 32) (a := 100) (n := Int.toNat 8) rfl rfl]
  exact h (cz_s hZ)
set_option maxRecDepth 100000 in
theorem cg_X2_30_33 {r : Nat → Nat → Nat} {M : mv_Mem} (hZ : cz 33 M) (h : cz 34 M → mv_Run G 31 30 907 41 [(0, .inr (.inr 30))] [] (34, 939, mh_t, mh_l l, (fun k' f => if k' = 30 ∧ f = 4 then 34 else r k' f)) M post) : mv_Run G 31 30 907 33 [(0, .inr (.inr 30))] [] (33, 931, mh_t, mh_l l, r) M post := by
  refine mv_run [(41, [0])] 7 ok_31 ?_
  show (if 0 ≤ (8 : Int) ∧ (8 : Int) ≤ 100000 ∧ 33 + 1 ≤ 30 + 4 ∧ 931 + Int.toNat 8 ≤ 907 + 32 then (if 1 ≤ 30 ∧ 30 ≤ 34 ∧ mh_t 30 = 2 ∧ 1 ≤ 34 ∧ 34 ≤ 34 then mv_Run G 31 30 907 41 [(0, .inr (.inr 30))] [] (mv_rf (mv_nwA (33, 931, mh_t, mh_l l, r) 100 (Int.toNat 8)) 30 4 34) (mv_nwM (33, 931, mh_t, mh_l l, r) M) post else False) else False)
  rw [if_pos (by decide)]
  rw [if_pos (by decide), cz_nwM hZ, cz_nwA (N := 33) (a := 100) (n := Int.toNat 8) rfl rfl]
  exact h (cz_s hZ)
set_option maxRecDepth 100000 in
theorem cg_X2_30_41 {r : Nat → Nat → Nat} {M : mv_Mem} (h : post none (34, 939, mh_t, mh_l l, r) M) : mv_Run G 31 30 907 41 [(0, .inr (.inr 30))] [] (34, 939, mh_t, mh_l l, r) M post := by
  refine mv_run [] 3 ok_31 ?_
  show (if 34 = 30 + 4 ∧ 939 = 907 + 32 then post none (34, 939, mh_t, mh_l l, r) M else False)
  rw [if_pos (by decide)]
  exact h
set_option maxRecDepth 100000 in
theorem cg_X10_7_26 {r : Nat → Nat → Nat} {M : mv_Mem} (hZ : cz 29 M) (h : cz 30 M → mv_Wp G 31 [.inr (.inr 30)] (30, 907, mh_t, mh_l l, (fun k' f => if k' = 30 then 0 else r k' f)) M (fun r sh M => mv_Run G 83 7 136 34 [(0, .inr (.inr 7))] (r.toList ++ [.inr (.inr 30), .inr (.inr 7)]) sh M post)) : mv_Run G 83 7 136 26 [(0, .inr (.inr 7))] [] (29, 902, mh_t, mh_l l, r) M post := by
  refine mv_run [(34, [0])] 7 ok_83 ?_
  show (if 29 + 1 ≤ 7 + 27 ∧ 902 + 5 ≤ 136 + 803 then (if false = false then (if mv_stw [.inr (.inr 30), .inr (.inr 7)] ≤ 8 ∧ 1 ≤ 3 ∧ 30 + (6 - 2) ≤ 7 + 27 ∧ 907 + Int.toNat 32 ≤ 136 + 803 then mv_Wp G 31 [.inr (.inr 30)] (mv_nwO (29, 902, mh_t, mh_l l, r) 2 5) (mv_nwM (29, 902, mh_t, mh_l l, r) M) (fun r sh M => mv_Run G 83 7 136 34 [(0, .inr (.inr 7))] (r.toList ++ [.inr (.inr 30), .inr (.inr 7)]) sh M post) else False) else False) else False)
  rw [if_pos (by decide), if_pos rfl, if_pos (by decide), cz_nwM hZ, cz_nwO (N := 29) (a := 2) rfl]
  exact h (cz_s hZ)
set_option maxRecDepth 100000 in
theorem cg_X10_7_34 {r : Nat → Nat → Nat} {M : mv_Mem} (h : mv_Run G 83 7 136 37 [(0, .inr (.inr 7))] [] (34, 939, mh_t, mh_l l, (fun k' f => if k' = 7 ∧ f = 2 then 30 else r k' f)) M post) : mv_Run G 83 7 136 34 [(0, .inr (.inr 7))] [.inr (.inr 30), .inr (.inr 7)] (34, 939, mh_t, mh_l l, r) M post := by
  refine mv_run [(37, [0])] 3 ok_83 ?_
  show (if 1 ≤ 7 ∧ 7 ≤ 34 ∧ mh_t 7 = 10 ∧ 1 ≤ 30 ∧ 30 ≤ 34 then mv_Run G 83 7 136 37 [(0, .inr (.inr 7))] [] (34, 939, mh_t, mh_l l, (fun k' f => if k' = 7 ∧ f = 2 then 30 else r k' f)) M post else False)
  rw [if_pos (by decide)]
  exact h
set_option maxRecDepth 100000 in
theorem cg_X10_7_37 {r : Nat → Nat → Nat} {M : mv_Mem} (h : post none (34, 939, mh_t, mh_l l, r) M) : mv_Run G 83 7 136 37 [(0, .inr (.inr 7))] [] (34, 939, mh_t, mh_l l, r) M post := by
  refine mv_run [] 3 ok_83 ?_
  show (if 34 = 7 + 27 ∧ 939 = 136 + 803 then post none (34, 939, mh_t, mh_l l, r) M else False)
  rw [if_pos (by decide)]
  exact h
set_option maxRecDepth 100000 in
theorem cg_X1_6_4 {r : Nat → Nat → Nat} {M : mv_Mem} (hZ : cz 6 M) (h : cz 7 M → mv_Wp G 83 [.inr (.inr 7)] (7, 136, mh_t, mh_l l, (fun k' f => if k' = 7 then 0 else r k' f)) M (fun r sh M => mv_Run G 11 6 133 12 [(0, .inr (.inr 6))] (r.toList ++ [.inr (.inr 7), .inr (.inr 6)]) sh M post)) : mv_Run G 11 6 133 4 [(0, .inr (.inr 6))] [] (6, 133, mh_t, mh_l l, r) M post := by
  refine mv_run [(12, [0])] 7 ok_11 ?_
  show (if 6 + 1 ≤ 6 + 37 ∧ 133 + 3 ≤ 133 + 2636 then (if false = false then (if mv_stw [.inr (.inr 7), .inr (.inr 6)] ≤ 8 ∧ 1 ≤ 3 ∧ 7 + (29 - 2) ≤ 6 + 37 ∧ 136 + Int.toNat 803 ≤ 133 + 2636 then mv_Wp G 83 [.inr (.inr 7)] (mv_nwO (6, 133, mh_t, mh_l l, r) 10 3) (mv_nwM (6, 133, mh_t, mh_l l, r) M) (fun r sh M => mv_Run G 11 6 133 12 [(0, .inr (.inr 6))] (r.toList ++ [.inr (.inr 7), .inr (.inr 6)]) sh M post) else False) else False) else False)
  rw [if_pos (by decide), if_pos rfl, if_pos (by decide), cz_nwM hZ, cz_nwO (N := 6) (a := 10) rfl]
  exact h (cz_s hZ)
set_option maxRecDepth 100000 in
theorem cg_X1_6_12 {r : Nat → Nat → Nat} {M : mv_Mem} (h : mv_Run G 11 6 133 15 [(0, .inr (.inr 6))] [] (34, 939, mh_t, mh_l l, (fun k' f => if k' = 6 ∧ f = 0 then 7 else r k' f)) M post) : mv_Run G 11 6 133 12 [(0, .inr (.inr 6))] [.inr (.inr 7), .inr (.inr 6)] (34, 939, mh_t, mh_l l, r) M post := by
  refine mv_run [(15, [0])] 3 ok_11 ?_
  show (if 1 ≤ 6 ∧ 6 ≤ 34 ∧ mh_t 6 = 1 ∧ 1 ≤ 7 ∧ 7 ≤ 34 then mv_Run G 11 6 133 15 [(0, .inr (.inr 6))] [] (34, 939, mh_t, mh_l l, (fun k' f => if k' = 6 ∧ f = 0 then 7 else r k' f)) M post else False)
  rw [if_pos (by decide)]
  exact h
set_option maxRecDepth 100000 in
theorem ce_X8_35 {r : Nat → Nat → Nat} {M : mv_Mem} (h : mv_Run G 67 35 945 4 [(0, .inr (.inr 35))] [] (35, 945, mh_t, mh_l l, r) M post) : mv_Wp G 67 [.inr (.inr 35)] (35, 945, mh_t, mh_l l, r) M post :=
  mv_wp [(4, [0])] 5 ok_67 oc_67 rfl (show (if mv_stw ([] : List mv_V) ≤ 8 then mv_Run G 67 35 945 4 [(0, .inr (.inr 35))] [] (35, 945, mh_t, mh_l l, r) M post else False) from by rw [if_pos (by decide)]; exact h)
set_option maxRecDepth 100000 in
theorem cg_X8_35_4 {r : Nat → Nat → Nat} {M : mv_Mem} (hZ : cz 35 M) (h : cz 36 M → mv_Run G 67 35 945 13 [(0, .inr (.inr 35))] [] (36, 1089, mh_t, mh_l l, (fun k' f => if k' = 35 ∧ f = 0 then 36 else r k' f)) M post) : mv_Run G 67 35 945 4 [(0, .inr (.inr 35))] [] (35, 945, mh_t, mh_l l, r) M post := by
  refine mv_run [(13, [0])] 7 ok_67 ?_
  show (if 0 ≤ (144 : Int) ∧ (144 : Int) ≤ 100000 ∧ 35 + 1 ≤ 35 + 6 ∧ 945 + Int.toNat 144 ≤ 945 + 912 then (if 1 ≤ 35 ∧ 35 ≤ 36 ∧ mh_t 35 = 8 ∧ 1 ≤ 36 ∧ 36 ≤ 36 then mv_Run G 67 35 945 13 [(0, .inr (.inr 35))] [] (mv_rf (mv_nwA (35, 945, mh_t, mh_l l, r) 100 (Int.toNat 144)) 35 0 36) (mv_nwM (35, 945, mh_t, mh_l l, r) M) post else False) else False)
  rw [if_pos (by decide)]
  rw [if_pos (by decide), cz_nwM hZ, cz_nwA (N := 35) (a := 100) (n := Int.toNat 144) rfl rfl]
  exact h (cz_s hZ)
set_option maxRecDepth 100000 in
theorem cg_X8_35_13 {r : Nat → Nat → Nat} {M : mv_Mem} (hZ : cz 36 M) (h : cz 37 M → mv_Run G 67 35 945 22 [(0, .inr (.inr 35))] [] (37, 1233, mh_t, mh_l l, (fun k' f => if k' = 35 ∧ f = 1 then 37 else r k' f)) M post) : mv_Run G 67 35 945 13 [(0, .inr (.inr 35))] [] (36, 1089, mh_t, mh_l l, r) M post := by
  refine mv_run [(22, [0])] 7 ok_67 ?_
  show (if 0 ≤ (144 : Int) ∧ (144 : Int) ≤ 100000 ∧ 36 + 1 ≤ 35 + 6 ∧ 1089 + Int.toNat 144 ≤ 945 + 912 then (if 1 ≤ 35 ∧ 35 ≤ 37 ∧ mh_t 35 = 8 ∧ 1 ≤ 37 ∧ 37 ≤ 37 then mv_Run G 67 35 945 22 [(0, .inr (.inr 35))] [] (mv_rf (mv_nwA (36, 1089, mh_t, mh_l l, r) 100 (Int.toNat 144)) 35 1 37) (mv_nwM (36, 1089, mh_t, mh_l l, r) M) post else False) else False)
  rw [if_pos (by decide)]
  rw [if_pos (by decide), cz_nwM hZ, cz_nwA (N := 36) (a := 100) (n := Int.toNat 144) rfl rfl]
  exact h (cz_s hZ)
set_option maxRecDepth 100000 in
theorem cg_X8_35_22 {r : Nat → Nat → Nat} {M : mv_Mem} (hZ : cz 37 M) (h : cz 38 M → mv_Run G 67 35 945 30 [(0, .inr (.inr 35))] [] (38, 1281, mh_t, mh_l l, (fun k' f => if k' = 35 ∧ f = 2 then 38 else r k' f)) M post) : mv_Run G 67 35 945 22 [(0, .inr (.inr 35))] [] (37, 1233, mh_t, mh_l l, r) M post := by
  refine mv_run [(30, [0])] 7 ok_67 ?_
  show (if 0 ≤ (48 : Int) ∧ (48 : Int) ≤ 100000 ∧ 37 + 1 ≤ 35 + 6 ∧ 1233 + Int.toNat 48 ≤ 945 + 912 then (if 1 ≤ 35 ∧ 35 ≤ 38 ∧ mh_t 35 = 8 ∧ 1 ≤ 38 ∧ 38 ≤ 38 then mv_Run G 67 35 945 30 [(0, .inr (.inr 35))] [] (mv_rf (mv_nwA (37, 1233, mh_t, mh_l l, r) 100 (Int.toNat 48)) 35 2 38) (mv_nwM (37, 1233, mh_t, mh_l l, r) M) post else False) else False)
  rw [if_pos (by decide)]
  rw [if_pos (by decide), cz_nwM hZ, cz_nwA (N := 37) (a := 100) (n := Int.toNat 48) rfl rfl]
  exact h (cz_s hZ)
set_option maxRecDepth 100000 in
theorem cg_X8_35_30 {r : Nat → Nat → Nat} {M : mv_Mem} (hZ : cz 38 M) (h : cz 39 M → mv_Run G 67 35 945 39 [(0, .inr (.inr 35))] [] (39, 1473, mh_t, mh_l l, (fun k' f => if k' = 35 ∧ f = 3 then 39 else r k' f)) M post) : mv_Run G 67 35 945 30 [(0, .inr (.inr 35))] [] (38, 1281, mh_t, mh_l l, r) M post := by
  refine mv_run [(39, [0])] 7 ok_67 ?_
  show (if 0 ≤ (192 : Int) ∧ (192 : Int) ≤ 100000 ∧ 38 + 1 ≤ 35 + 6 ∧ 1281 + Int.toNat 192 ≤ 945 + 912 then (if 1 ≤ 35 ∧ 35 ≤ 39 ∧ mh_t 35 = 8 ∧ 1 ≤ 39 ∧ 39 ≤ 39 then mv_Run G 67 35 945 39 [(0, .inr (.inr 35))] [] (mv_rf (mv_nwA (38, 1281, mh_t, mh_l l, r) 100 (Int.toNat 192)) 35 3 39) (mv_nwM (38, 1281, mh_t, mh_l l, r) M) post else False) else False)
  rw [if_pos (by decide)]
  rw [if_pos (by decide), cz_nwM hZ, cz_nwA (N := 38) (a := 100) (n := Int.toNat 192) rfl rfl]
  exact h (cz_s hZ)
set_option maxRecDepth 100000 in
theorem cg_X8_35_39 {r : Nat → Nat → Nat} {M : mv_Mem} (hZ : cz 39 M) (h : cz 40 M → mv_Run G 67 35 945 48 [(0, .inr (.inr 35))] [] (40, 1665, mh_t, mh_l l, (fun k' f => if k' = 35 ∧ f = 4 then 40 else r k' f)) M post) : mv_Run G 67 35 945 39 [(0, .inr (.inr 35))] [] (39, 1473, mh_t, mh_l l, r) M post := by
  refine mv_run [(48, [0])] 7 ok_67 ?_
  show (if 0 ≤ (192 : Int) ∧ (192 : Int) ≤ 100000 ∧ 39 + 1 ≤ 35 + 6 ∧ 1473 + Int.toNat 192 ≤ 945 + 912 then (if 1 ≤ 35 ∧ 35 ≤ 40 ∧ mh_t 35 = 8 ∧ 1 ≤ 40 ∧ 40 ≤ 40 then mv_Run G 67 35 945 48 [(0, .inr (.inr 35))] [] (mv_rf (mv_nwA (39, 1473, mh_t, mh_l l, r) 100 (Int.toNat 192)) 35 4 40) (mv_nwM (39, 1473, mh_t, mh_l l, r) M) post else False) else False)
  rw [if_pos (by decide)]
  rw [if_pos (by decide), cz_nwM hZ, cz_nwA (N := 39) (a := 100) (n := Int.toNat 192) rfl rfl]
  exact h (cz_s hZ)
set_option maxRecDepth 100000 in
theorem cg_X8_35_48 {r : Nat → Nat → Nat} {M : mv_Mem} (hZ : cz 40 M) (h : cz 41 M → mv_Run G 67 35 945 57 [(0, .inr (.inr 35))] [] (41, 1857, mh_t, mh_l l, (fun k' f => if k' = 35 ∧ f = 5 then 41 else r k' f)) M post) : mv_Run G 67 35 945 48 [(0, .inr (.inr 35))] [] (40, 1665, mh_t, mh_l l, r) M post := by
  refine mv_run [(57, [0])] 7 ok_67 ?_
  show (if 0 ≤ (192 : Int) ∧ (192 : Int) ≤ 100000 ∧ 40 + 1 ≤ 35 + 6 ∧ 1665 + Int.toNat 192 ≤ 945 + 912 then (if 1 ≤ 35 ∧ 35 ≤ 41 ∧ mh_t 35 = 8 ∧ 1 ≤ 41 ∧ 41 ≤ 41 then mv_Run G 67 35 945 57 [(0, .inr (.inr 35))] [] (mv_rf (mv_nwA (40, 1665, mh_t, mh_l l, r) 100 (Int.toNat 192)) 35 5 41) (mv_nwM (40, 1665, mh_t, mh_l l, r) M) post else False) else False)
  rw [if_pos (by decide)]
  rw [if_pos (by decide), cz_nwM hZ, cz_nwA (N := 40) (a := 100) (n := Int.toNat 192) rfl rfl]
  exact h (cz_s hZ)
set_option maxRecDepth 100000 in
theorem cg_X8_35_57 {r : Nat → Nat → Nat} {M : mv_Mem} (h : post none (41, 1857, mh_t, mh_l l, r) M) : mv_Run G 67 35 945 57 [(0, .inr (.inr 35))] [] (41, 1857, mh_t, mh_l l, r) M post := by
  refine mv_run [] 3 ok_67 ?_
  show (if 41 = 35 + 6 ∧ 1857 = 945 + 912 then post none (41, 1857, mh_t, mh_l l, r) M else False)
  rw [if_pos (by decide)]
  exact h
set_option maxRecDepth 100000 in
theorem cg_X1_6_15 {r : Nat → Nat → Nat} {M : mv_Mem} (hZ : cz 34 M) (h : cz 35 M → mv_Wp G 67 [.inr (.inr 35)] (35, 945, mh_t, mh_l l, (fun k' f => if k' = 35 then 0 else r k' f)) M (fun r sh M => mv_Run G 11 6 133 23 [(0, .inr (.inr 6))] (r.toList ++ [.inr (.inr 35), .inr (.inr 6)]) sh M post)) : mv_Run G 11 6 133 15 [(0, .inr (.inr 6))] [] (34, 939, mh_t, mh_l l, r) M post := by
  refine mv_run [(23, [0])] 7 ok_11 ?_
  show (if 34 + 1 ≤ 6 + 37 ∧ 939 + 6 ≤ 133 + 2636 then (if false = false then (if mv_stw [.inr (.inr 35), .inr (.inr 6)] ≤ 8 ∧ 1 ≤ 3 ∧ 35 + (8 - 2) ≤ 6 + 37 ∧ 945 + Int.toNat 912 ≤ 133 + 2636 then mv_Wp G 67 [.inr (.inr 35)] (mv_nwO (34, 939, mh_t, mh_l l, r) 8 6) (mv_nwM (34, 939, mh_t, mh_l l, r) M) (fun r sh M => mv_Run G 11 6 133 23 [(0, .inr (.inr 6))] (r.toList ++ [.inr (.inr 35), .inr (.inr 6)]) sh M post) else False) else False) else False)
  rw [if_pos (by decide), if_pos rfl, if_pos (by decide), cz_nwM hZ, cz_nwO (N := 34) (a := 8) rfl]
  exact h (cz_s hZ)
set_option maxRecDepth 100000 in
theorem cg_X1_6_23 {r : Nat → Nat → Nat} {M : mv_Mem} (h : mv_Run G 11 6 133 26 [(0, .inr (.inr 6))] [] (41, 1857, mh_t, mh_l l, (fun k' f => if k' = 6 ∧ f = 1 then 35 else r k' f)) M post) : mv_Run G 11 6 133 23 [(0, .inr (.inr 6))] [.inr (.inr 35), .inr (.inr 6)] (41, 1857, mh_t, mh_l l, r) M post := by
  refine mv_run [(26, [0])] 3 ok_11 ?_
  show (if 1 ≤ 6 ∧ 6 ≤ 41 ∧ mh_t 6 = 1 ∧ 1 ≤ 35 ∧ 35 ≤ 41 then mv_Run G 11 6 133 26 [(0, .inr (.inr 6))] [] (41, 1857, mh_t, mh_l l, (fun k' f => if k' = 6 ∧ f = 1 then 35 else r k' f)) M post else False)
  rw [if_pos (by decide)]
  exact h
set_option maxRecDepth 100000 in
theorem cg_X1_6_26 {r : Nat → Nat → Nat} {M : mv_Mem} (hZ : cz 41 M) (h : cz 42 M → mv_Run G 11 6 133 35 [(0, .inr (.inr 6))] [] (42, 2721, mh_t, mh_l l, (fun k' f => if k' = 6 ∧ f = 2 then 42 else r k' f)) M post) : mv_Run G 11 6 133 26 [(0, .inr (.inr 6))] [] (41, 1857, mh_t, mh_l l, r) M post := by
  refine mv_run [(35, [0])] 7 ok_11 ?_
  show (if 0 ≤ (864 : Int) ∧ (864 : Int) ≤ 100000 ∧ 41 + 1 ≤ 6 + 37 ∧ 1857 + Int.toNat 864 ≤ 133 + 2636 then (if 1 ≤ 6 ∧ 6 ≤ 42 ∧ mh_t 6 = 1 ∧ 1 ≤ 42 ∧ 42 ≤ 42 then mv_Run G 11 6 133 35 [(0, .inr (.inr 6))] [] (mv_rf (mv_nwA (41, 1857, mh_t, mh_l l, r) 101 (Int.toNat 864)) 6 2 42) (mv_nwM (41, 1857, mh_t, mh_l l, r) M) post else False) else False)
  rw [if_pos (by decide)]
  rw [if_pos (by decide), cz_nwM hZ, cz_nwA (N := 41) (a := 101) (n := Int.toNat 864) rfl rfl]
  exact h (cz_s hZ)
set_option maxRecDepth 100000 in
theorem cg_X1_6_35 {r : Nat → Nat → Nat} {M : mv_Mem} (hZ : cz 42 M) (h : cz 43 M → mv_Run G 11 6 133 43 [(0, .inr (.inr 6))] [] (43, 2769, mh_t, mh_l l, (fun k' f => if k' = 6 ∧ f = 3 then 43 else r k' f)) M post) : mv_Run G 11 6 133 35 [(0, .inr (.inr 6))] [] (42, 2721, mh_t, mh_l l, r) M post := by
  refine mv_run [(43, [0])] 7 ok_11 ?_
  show (if 0 ≤ (48 : Int) ∧ (48 : Int) ≤ 100000 ∧ 42 + 1 ≤ 6 + 37 ∧ 2721 + Int.toNat 48 ≤ 133 + 2636 then (if 1 ≤ 6 ∧ 6 ≤ 43 ∧ mh_t 6 = 1 ∧ 1 ≤ 43 ∧ 43 ≤ 43 then mv_Run G 11 6 133 43 [(0, .inr (.inr 6))] [] (mv_rf (mv_nwA (42, 2721, mh_t, mh_l l, r) 100 (Int.toNat 48)) 6 3 43) (mv_nwM (42, 2721, mh_t, mh_l l, r) M) post else False) else False)
  rw [if_pos (by decide)]
  rw [if_pos (by decide), cz_nwM hZ, cz_nwA (N := 42) (a := 100) (n := Int.toNat 48) rfl rfl]
  exact h (cz_s hZ)
set_option maxRecDepth 100000 in
theorem cg_X1_6_43 {r : Nat → Nat → Nat} (h1 : r 6 0 = 7) (h2 : r 7 0 = 8) {M : mv_Mem} (h : mv_Run G 11 6 133 54 [(0, .inr (.inr 6))] [] (43, 2769, mh_t, mh_l l, (fun k' f => if k' = 6 ∧ f = 4 then 8 else r k' f)) M post) : mv_Run G 11 6 133 43 [(0, .inr (.inr 6))] [] (43, 2769, mh_t, mh_l l, r) M post := by
  refine mv_run [(54, [0])] 8 ok_11 ?_
  show (if 1 ≤ 6 ∧ 6 ≤ 43 ∧ mh_t 6 = 1 then (if 1 ≤ r 6 0 then (if 1 ≤ r 6 0 ∧ r 6 0 ≤ 43 ∧ mh_t (r 6 0) = 10 then (if 1 ≤ r (r 6 0) 0 then (if 1 ≤ 6 ∧ 6 ≤ 43 ∧ mh_t 6 = 1 ∧ 1 ≤ r (r 6 0) 0 ∧ r (r 6 0) 0 ≤ 43 then mv_Run G 11 6 133 54 [(0, .inr (.inr 6))] [] (mv_rf (43, 2769, mh_t, mh_l l, r) 6 4 (r (r 6 0) 0)) M post else False) else False) else False) else False) else False)
  rw [h1, h2, if_pos (by decide), if_pos (by decide), if_pos (by decide), if_pos (by decide), if_pos (by decide)]
  exact h
set_option maxRecDepth 100000 in
theorem cg_X1_6_54 {r : Nat → Nat → Nat} (h1 : r 6 0 = 7) (h2 : r 7 1 = 17) {M : mv_Mem} (h : mv_Run G 11 6 133 65 [(0, .inr (.inr 6))] [] (43, 2769, mh_t, mh_l l, (fun k' f => if k' = 6 ∧ f = 5 then 17 else r k' f)) M post) : mv_Run G 11 6 133 54 [(0, .inr (.inr 6))] [] (43, 2769, mh_t, mh_l l, r) M post := by
  refine mv_run [(65, [0])] 8 ok_11 ?_
  show (if 1 ≤ 6 ∧ 6 ≤ 43 ∧ mh_t 6 = 1 then (if 1 ≤ r 6 0 then (if 1 ≤ r 6 0 ∧ r 6 0 ≤ 43 ∧ mh_t (r 6 0) = 10 then (if 1 ≤ r (r 6 0) 1 then (if 1 ≤ 6 ∧ 6 ≤ 43 ∧ mh_t 6 = 1 ∧ 1 ≤ r (r 6 0) 1 ∧ r (r 6 0) 1 ≤ 43 then mv_Run G 11 6 133 65 [(0, .inr (.inr 6))] [] (mv_rf (43, 2769, mh_t, mh_l l, r) 6 5 (r (r 6 0) 1)) M post else False) else False) else False) else False) else False)
  rw [h1, h2, if_pos (by decide), if_pos (by decide), if_pos (by decide), if_pos (by decide), if_pos (by decide)]
  exact h
set_option maxRecDepth 100000 in
theorem cg_X1_6_65 {r : Nat → Nat → Nat} {M : mv_Mem} (h : mv_Run G 11 6 133 70 [(0, .inr (.inr 6))] [] (43, 2769, mh_t, mh_l l, r) (mv_up M 6 6 0) post) : mv_Run G 11 6 133 65 [(0, .inr (.inr 6))] [] (43, 2769, mh_t, mh_l l, r) M post := by
  refine mv_run [(70, [0])] 6 ok_11 ?_
  show (if 1 ≤ 6 ∧ 6 ≤ 43 ∧ mh_t 6 = 1 then (((0 : Int) = 0 ∨ (0 : Int) = 1) ∧ mv_Run G 11 6 133 70 [(0, .inr (.inr 6))] [] (43, 2769, mh_t, mh_l l, r) (mv_up M 6 6 0) post) else False)
  rw [if_pos (by decide)]
  exact ⟨by decide, h⟩
set_option maxRecDepth 100000 in
theorem cg_X1_6_70 {r : Nat → Nat → Nat} {M : mv_Mem} (h : mv_Run G 11 6 133 75 [(0, .inr (.inr 6))] [] (43, 2769, mh_t, mh_l l, r) (mv_up M 6 7 0) post) : mv_Run G 11 6 133 70 [(0, .inr (.inr 6))] [] (43, 2769, mh_t, mh_l l, r) M post := by
  refine mv_run [(75, [0])] 6 ok_11 ?_
  show (if 1 ≤ 6 ∧ 6 ≤ 43 ∧ mh_t 6 = 1 then (((0 : Int) = 0 ∨ (0 : Int) = 1) ∧ mv_Run G 11 6 133 75 [(0, .inr (.inr 6))] [] (43, 2769, mh_t, mh_l l, r) (mv_up M 6 7 0) post) else False)
  rw [if_pos (by decide)]
  exact ⟨by decide, h⟩
set_option maxRecDepth 100000 in
theorem cg_X1_6_75 {r : Nat → Nat → Nat} {M : mv_Mem} (h : post none (43, 2769, mh_t, mh_l l, r) M) : mv_Run G 11 6 133 75 [(0, .inr (.inr 6))] [] (43, 2769, mh_t, mh_l l, r) M post := by
  refine mv_run [] 3 ok_11 ?_
  show (if 43 = 6 + 37 ∧ 2769 = 133 + 2636 then post none (43, 2769, mh_t, mh_l l, r) M else False)
  rw [if_pos (by decide)]
  exact h
set_option maxRecDepth 100000 in
theorem cg_X11_1_26 {r : Nat → Nat → Nat} {M : mv_Mem} (hZ : cz 5 M) (h : cz 6 M → mv_Wp G 11 [.inr (.inr 6)] (6, 133, mh_t, mh_l l, (fun k' f => if k' = 6 then 0 else r k' f)) M (fun r sh M => mv_Run G 85 1 13 34 [(0, .inr (.inr 1))] (r.toList ++ [.inr (.inr 6), .inr (.inr 1)]) sh M post)) : mv_Run G 85 1 13 26 [(0, .inr (.inr 1))] [] (5, 125, mh_t, mh_l l, r) M post := by
  refine mv_run [(34, [0])] 7 ok_85 ?_
  show (if 5 + 1 ≤ 1 + 86 ∧ 125 + 8 ≤ 13 + 4736 then (if false = false then (if mv_stw [.inr (.inr 6), .inr (.inr 1)] ≤ 8 ∧ 1 ≤ 3 ∧ 6 + (39 - 2) ≤ 1 + 86 ∧ 133 + Int.toNat 2636 ≤ 13 + 4736 then mv_Wp G 11 [.inr (.inr 6)] (mv_nwO (5, 125, mh_t, mh_l l, r) 1 8) (mv_nwM (5, 125, mh_t, mh_l l, r) M) (fun r sh M => mv_Run G 85 1 13 34 [(0, .inr (.inr 1))] (r.toList ++ [.inr (.inr 6), .inr (.inr 1)]) sh M post) else False) else False) else False)
  rw [if_pos (by decide), if_pos rfl, if_pos (by decide), cz_nwM hZ, cz_nwO (N := 5) (a := 1) rfl]
  exact h (cz_s hZ)
set_option maxRecDepth 100000 in
theorem cg_X11_1_34 {r : Nat → Nat → Nat} {M : mv_Mem} (h : mv_Run G 85 1 13 37 [(0, .inr (.inr 1))] [] (43, 2769, mh_t, mh_l l, (fun k' f => if k' = 1 ∧ f = 2 then 6 else r k' f)) M post) : mv_Run G 85 1 13 34 [(0, .inr (.inr 1))] [.inr (.inr 6), .inr (.inr 1)] (43, 2769, mh_t, mh_l l, r) M post := by
  refine mv_run [(37, [0])] 3 ok_85 ?_
  show (if 1 ≤ 1 ∧ 1 ≤ 43 ∧ mh_t 1 = 11 ∧ 1 ≤ 6 ∧ 6 ≤ 43 then mv_Run G 85 1 13 37 [(0, .inr (.inr 1))] [] (43, 2769, mh_t, mh_l l, (fun k' f => if k' = 1 ∧ f = 2 then 6 else r k' f)) M post else False)
  rw [if_pos (by decide)]
  exact h
set_option maxRecDepth 100000 in
theorem cg_X11_1_37 {r : Nat → Nat → Nat} (h1 : r 1 2 = 6) (h2 : r 6 0 = 7) {M : mv_Mem} (h : mv_Run G 85 1 13 48 [(0, .inr (.inr 1))] [] (43, 2769, mh_t, mh_l l, (fun k' f => if k' = 1 ∧ f = 3 then 7 else r k' f)) M post) : mv_Run G 85 1 13 37 [(0, .inr (.inr 1))] [] (43, 2769, mh_t, mh_l l, r) M post := by
  refine mv_run [(48, [0])] 8 ok_85 ?_
  show (if 1 ≤ 1 ∧ 1 ≤ 43 ∧ mh_t 1 = 11 then (if 1 ≤ r 1 2 then (if 1 ≤ r 1 2 ∧ r 1 2 ≤ 43 ∧ mh_t (r 1 2) = 1 then (if 1 ≤ r (r 1 2) 0 then (if 1 ≤ 1 ∧ 1 ≤ 43 ∧ mh_t 1 = 11 ∧ 1 ≤ r (r 1 2) 0 ∧ r (r 1 2) 0 ≤ 43 then mv_Run G 85 1 13 48 [(0, .inr (.inr 1))] [] (mv_rf (43, 2769, mh_t, mh_l l, r) 1 3 (r (r 1 2) 0)) M post else False) else False) else False) else False) else False)
  rw [h1, h2, if_pos (by decide), if_pos (by decide), if_pos (by decide), if_pos (by decide), if_pos (by decide)]
  exact h
set_option maxRecDepth 100000 in
theorem cg_X11_1_48 {r : Nat → Nat → Nat} (h1 : r 1 3 = 7) (h2 : r 7 0 = 8) {M : mv_Mem} (h : mv_Run G 85 1 13 59 [(0, .inr (.inr 1))] [] (43, 2769, mh_t, mh_l l, (fun k' f => if k' = 1 ∧ f = 4 then 8 else r k' f)) M post) : mv_Run G 85 1 13 48 [(0, .inr (.inr 1))] [] (43, 2769, mh_t, mh_l l, r) M post := by
  refine mv_run [(59, [0])] 8 ok_85 ?_
  show (if 1 ≤ 1 ∧ 1 ≤ 43 ∧ mh_t 1 = 11 then (if 1 ≤ r 1 3 then (if 1 ≤ r 1 3 ∧ r 1 3 ≤ 43 ∧ mh_t (r 1 3) = 10 then (if 1 ≤ r (r 1 3) 0 then (if 1 ≤ 1 ∧ 1 ≤ 43 ∧ mh_t 1 = 11 ∧ 1 ≤ r (r 1 3) 0 ∧ r (r 1 3) 0 ≤ 43 then mv_Run G 85 1 13 59 [(0, .inr (.inr 1))] [] (mv_rf (43, 2769, mh_t, mh_l l, r) 1 4 (r (r 1 3) 0)) M post else False) else False) else False) else False) else False)
  rw [h1, h2, if_pos (by decide), if_pos (by decide), if_pos (by decide), if_pos (by decide), if_pos (by decide)]
  exact h
set_option maxRecDepth 100000 in
theorem cg_X11_1_59 {r : Nat → Nat → Nat} (h1 : r 1 3 = 7) (h2 : r 7 1 = 17) {M : mv_Mem} (h : mv_Run G 85 1 13 70 [(0, .inr (.inr 1))] [] (43, 2769, mh_t, mh_l l, (fun k' f => if k' = 1 ∧ f = 5 then 17 else r k' f)) M post) : mv_Run G 85 1 13 59 [(0, .inr (.inr 1))] [] (43, 2769, mh_t, mh_l l, r) M post := by
  refine mv_run [(70, [0])] 8 ok_85 ?_
  show (if 1 ≤ 1 ∧ 1 ≤ 43 ∧ mh_t 1 = 11 then (if 1 ≤ r 1 3 then (if 1 ≤ r 1 3 ∧ r 1 3 ≤ 43 ∧ mh_t (r 1 3) = 10 then (if 1 ≤ r (r 1 3) 1 then (if 1 ≤ 1 ∧ 1 ≤ 43 ∧ mh_t 1 = 11 ∧ 1 ≤ r (r 1 3) 1 ∧ r (r 1 3) 1 ≤ 43 then mv_Run G 85 1 13 70 [(0, .inr (.inr 1))] [] (mv_rf (43, 2769, mh_t, mh_l l, r) 1 5 (r (r 1 3) 1)) M post else False) else False) else False) else False) else False)
  rw [h1, h2, if_pos (by decide), if_pos (by decide), if_pos (by decide), if_pos (by decide), if_pos (by decide)]
  exact h
set_option maxRecDepth 100000 in
theorem cg_X11_1_70 {r : Nat → Nat → Nat} (h1 : r 1 3 = 7) (h2 : r 7 2 = 30) {M : mv_Mem} (h : mv_Run G 85 1 13 81 [(0, .inr (.inr 1))] [] (43, 2769, mh_t, mh_l l, (fun k' f => if k' = 1 ∧ f = 6 then 30 else r k' f)) M post) : mv_Run G 85 1 13 70 [(0, .inr (.inr 1))] [] (43, 2769, mh_t, mh_l l, r) M post := by
  refine mv_run [(81, [0])] 8 ok_85 ?_
  show (if 1 ≤ 1 ∧ 1 ≤ 43 ∧ mh_t 1 = 11 then (if 1 ≤ r 1 3 then (if 1 ≤ r 1 3 ∧ r 1 3 ≤ 43 ∧ mh_t (r 1 3) = 10 then (if 1 ≤ r (r 1 3) 2 then (if 1 ≤ 1 ∧ 1 ≤ 43 ∧ mh_t 1 = 11 ∧ 1 ≤ r (r 1 3) 2 ∧ r (r 1 3) 2 ≤ 43 then mv_Run G 85 1 13 81 [(0, .inr (.inr 1))] [] (mv_rf (43, 2769, mh_t, mh_l l, r) 1 6 (r (r 1 3) 2)) M post else False) else False) else False) else False) else False)
  rw [h1, h2, if_pos (by decide), if_pos (by decide), if_pos (by decide), if_pos (by decide), if_pos (by decide)]
  exact h
set_option maxRecDepth 100000 in
theorem ce_X10_44 {r : Nat → Nat → Nat} {M : mv_Mem} (h : mv_Run G 83 44 2772 4 [(0, .inr (.inr 44))] [] (44, 2772, mh_t, mh_l l, r) M post) : mv_Wp G 83 [.inr (.inr 44)] (44, 2772, mh_t, mh_l l, r) M post :=
  mv_wp [(4, [0])] 5 ok_83 oc_83 rfl (show (if mv_stw ([] : List mv_V) ≤ 8 then mv_Run G 83 44 2772 4 [(0, .inr (.inr 44))] [] (44, 2772, mh_t, mh_l l, r) M post else False) from by rw [if_pos (by decide)]; exact h)
set_option maxRecDepth 100000 in
theorem ce_X0_45 {r : Nat → Nat → Nat} {M : mv_Mem} (h : mv_Run G 0 45 2785 4 [(0, .inr (.inr 45))] [] (45, 2785, mh_t, mh_l l, r) M post) : mv_Wp G 0 [.inr (.inr 45)] (45, 2785, mh_t, mh_l l, r) M post :=
  mv_wp [(4, [0])] 5 ok_0 oc_0 rfl (show (if mv_stw ([] : List mv_V) ≤ 8 then mv_Run G 0 45 2785 4 [(0, .inr (.inr 45))] [] (45, 2785, mh_t, mh_l l, r) M post else False) from by rw [if_pos (by decide)]; exact h)
set_option maxRecDepth 100000 in
theorem cg_X0_45_4 {r : Nat → Nat → Nat} {M : mv_Mem} (h : mv_Run G 0 45 2785 9 [(0, .inr (.inr 45))] [] (45, 2785, mh_t, mh_l l, r) (mv_up M 45 0 1) post) : mv_Run G 0 45 2785 4 [(0, .inr (.inr 45))] [] (45, 2785, mh_t, mh_l l, r) M post := by
  refine mv_run [(9, [0])] 6 ok_0 ?_
  show (if 1 ≤ 45 ∧ 45 ≤ 45 ∧ mh_t 45 = 0 then mv_Run G 0 45 2785 9 [(0, .inr (.inr 45))] [] (45, 2785, mh_t, mh_l l, r) (mv_up M 45 0 1) post else False)
  rw [if_pos (by decide)]
  exact h
set_option maxRecDepth 100000 in
theorem cg_X0_45_9 {r : Nat → Nat → Nat} {M : mv_Mem} (h : mv_Run G 0 45 2785 14 [(0, .inr (.inr 45))] [] (45, 2785, mh_t, mh_l l, r) (mv_up M 45 1 1) post) : mv_Run G 0 45 2785 9 [(0, .inr (.inr 45))] [] (45, 2785, mh_t, mh_l l, r) M post := by
  refine mv_run [(14, [0])] 6 ok_0 ?_
  show (if 1 ≤ 45 ∧ 45 ≤ 45 ∧ mh_t 45 = 0 then mv_Run G 0 45 2785 14 [(0, .inr (.inr 45))] [] (45, 2785, mh_t, mh_l l, r) (mv_up M 45 1 1) post else False)
  rw [if_pos (by decide)]
  exact h
set_option maxRecDepth 100000 in
theorem cg_X0_45_14 {r : Nat → Nat → Nat} {M : mv_Mem} (h : mv_Run G 0 45 2785 19 [(0, .inr (.inr 45))] [] (45, 2785, mh_t, mh_l l, r) (mv_up M 45 2 1) post) : mv_Run G 0 45 2785 14 [(0, .inr (.inr 45))] [] (45, 2785, mh_t, mh_l l, r) M post := by
  refine mv_run [(19, [0])] 6 ok_0 ?_
  show (if 1 ≤ 45 ∧ 45 ≤ 45 ∧ mh_t 45 = 0 then mv_Run G 0 45 2785 19 [(0, .inr (.inr 45))] [] (45, 2785, mh_t, mh_l l, r) (mv_up M 45 2 1) post else False)
  rw [if_pos (by decide)]
  exact h
set_option maxRecDepth 100000 in
theorem cg_X0_45_19 {r : Nat → Nat → Nat} {M : mv_Mem} (h : mv_Run G 0 45 2785 24 [(0, .inr (.inr 45))] [] (45, 2785, mh_t, mh_l l, r) (mv_up M 45 3 0) post) : mv_Run G 0 45 2785 19 [(0, .inr (.inr 45))] [] (45, 2785, mh_t, mh_l l, r) M post := by
  refine mv_run [(24, [0])] 6 ok_0 ?_
  show (if 1 ≤ 45 ∧ 45 ≤ 45 ∧ mh_t 45 = 0 then mv_Run G 0 45 2785 24 [(0, .inr (.inr 45))] [] (45, 2785, mh_t, mh_l l, r) (mv_up M 45 3 0) post else False)
  rw [if_pos (by decide)]
  exact h
set_option maxRecDepth 100000 in
theorem cg_X0_45_24 {r : Nat → Nat → Nat} {M : mv_Mem} (h : mv_Run G 0 45 2785 29 [(0, .inr (.inr 45))] [] (45, 2785, mh_t, mh_l l, r) (mv_up M 45 4 0) post) : mv_Run G 0 45 2785 24 [(0, .inr (.inr 45))] [] (45, 2785, mh_t, mh_l l, r) M post := by
  refine mv_run [(29, [0])] 6 ok_0 ?_
  show (if 1 ≤ 45 ∧ 45 ≤ 45 ∧ mh_t 45 = 0 then mv_Run G 0 45 2785 29 [(0, .inr (.inr 45))] [] (45, 2785, mh_t, mh_l l, r) (mv_up M 45 4 0) post else False)
  rw [if_pos (by decide)]
  exact h
set_option maxRecDepth 100000 in
theorem cg_X0_45_29 {r : Nat → Nat → Nat} {M : mv_Mem} (hZ : cz 45 M) (h : cz 46 M → mv_Run G 0 45 2785 37 [(0, .inr (.inr 45))] [] (46, 2833, mh_t, mh_l l, (fun k' f => if k' = 45 ∧ f = 5 then 46 else r k' f)) M post) : mv_Run G 0 45 2785 29 [(0, .inr (.inr 45))] [] (45, 2785, mh_t, mh_l l, r) M post := by
  refine mv_run [(37, [0])] 7 ok_0 ?_
  show (if 0 ≤ (48 : Int) ∧ (48 : Int) ≤ 100000 ∧ 45 + 1 ≤ 45 + 8 ∧ 2785 + Int.toNat 48 ≤ 2785 + 439 then (if 1 ≤ 45 ∧ 45 ≤ 46 ∧ mh_t 45 = 0 ∧ 1 ≤ 46 ∧ 46 ≤ 46 then mv_Run G 0 45 2785 37 [(0, .inr (.inr 45))] [] (mv_rf (mv_nwA (45, 2785, mh_t, mh_l l, r) 100 (Int.toNat 48)) 45 5 46) (mv_nwM (45, 2785, mh_t, mh_l l, r) M) post else False) else False)
  rw [if_pos (by decide)]
  rw [if_pos (by decide), cz_nwM hZ, cz_nwA (N := 45) (a := 100) (n := Int.toNat 48) rfl rfl]
  exact h (cz_s hZ)
set_option maxRecDepth 100000 in
theorem cg_X0_45_37 {r : Nat → Nat → Nat} {M : mv_Mem} (hZ : cz 46 M) (h : cz 47 M → mv_Run G 0 45 2785 45 [(0, .inr (.inr 45))] [] (47, 2881, mh_t, mh_l l, (fun k' f => if k' = 45 ∧ f = 6 then 47 else r k' f)) M post) : mv_Run G 0 45 2785 37 [(0, .inr (.inr 45))] [] (46, 2833, mh_t, mh_l l, r) M post := by
  refine mv_run [(45, [0])] 7 ok_0 ?_
  show (if 0 ≤ (48 : Int) ∧ (48 : Int) ≤ 100000 ∧ 46 + 1 ≤ 45 + 8 ∧ 2833 + Int.toNat 48 ≤ 2785 + 439 then (if 1 ≤ 45 ∧ 45 ≤ 47 ∧ mh_t 45 = 0 ∧ 1 ≤ 47 ∧ 47 ≤ 47 then mv_Run G 0 45 2785 45 [(0, .inr (.inr 45))] [] (mv_rf (mv_nwA (46, 2833, mh_t, mh_l l, r) 100 (Int.toNat 48)) 45 6 47) (mv_nwM (46, 2833, mh_t, mh_l l, r) M) post else False) else False)
  rw [if_pos (by decide)]
  rw [if_pos (by decide), cz_nwM hZ, cz_nwA (N := 46) (a := 100) (n := Int.toNat 48) rfl rfl]
  exact h (cz_s hZ)
set_option maxRecDepth 100000 in
theorem cg_X0_45_45 {r : Nat → Nat → Nat} {M : mv_Mem} (hZ : cz 47 M) (h : cz 48 M → mv_Run G 0 45 2785 53 [(0, .inr (.inr 45))] [] (48, 2929, mh_t, mh_l l, (fun k' f => if k' = 45 ∧ f = 7 then 48 else r k' f)) M post) : mv_Run G 0 45 2785 45 [(0, .inr (.inr 45))] [] (47, 2881, mh_t, mh_l l, r) M post := by
  refine mv_run [(53, [0])] 7 ok_0 ?_
  show (if 0 ≤ (48 : Int) ∧ (48 : Int) ≤ 100000 ∧ 47 + 1 ≤ 45 + 8 ∧ 2881 + Int.toNat 48 ≤ 2785 + 439 then (if 1 ≤ 45 ∧ 45 ≤ 48 ∧ mh_t 45 = 0 ∧ 1 ≤ 48 ∧ 48 ≤ 48 then mv_Run G 0 45 2785 53 [(0, .inr (.inr 45))] [] (mv_rf (mv_nwA (47, 2881, mh_t, mh_l l, r) 100 (Int.toNat 48)) 45 7 48) (mv_nwM (47, 2881, mh_t, mh_l l, r) M) post else False) else False)
  rw [if_pos (by decide)]
  rw [if_pos (by decide), cz_nwM hZ, cz_nwA (N := 47) (a := 100) (n := Int.toNat 48) rfl rfl]
  exact h (cz_s hZ)
set_option maxRecDepth 100000 in
theorem cg_X0_45_53 {r : Nat → Nat → Nat} {M : mv_Mem} (hZ : cz 48 M) (h : cz 49 M → mv_Run G 0 45 2785 61 [(0, .inr (.inr 45))] [] (49, 2977, mh_t, mh_l l, (fun k' f => if k' = 45 ∧ f = 8 then 49 else r k' f)) M post) : mv_Run G 0 45 2785 53 [(0, .inr (.inr 45))] [] (48, 2929, mh_t, mh_l l, r) M post := by
  refine mv_run [(61, [0])] 7 ok_0 ?_
  show (if 0 ≤ (48 : Int) ∧ (48 : Int) ≤ 100000 ∧ 48 + 1 ≤ 45 + 8 ∧ 2929 + Int.toNat 48 ≤ 2785 + 439 then (if 1 ≤ 45 ∧ 45 ≤ 49 ∧ mh_t 45 = 0 ∧ 1 ≤ 49 ∧ 49 ≤ 49 then mv_Run G 0 45 2785 61 [(0, .inr (.inr 45))] [] (mv_rf (mv_nwA (48, 2929, mh_t, mh_l l, r) 100 (Int.toNat 48)) 45 8 49) (mv_nwM (48, 2929, mh_t, mh_l l, r) M) post else False) else False)
  rw [if_pos (by decide)]
  rw [if_pos (by decide), cz_nwM hZ, cz_nwA (N := 48) (a := 100) (n := Int.toNat 48) rfl rfl]
  exact h (cz_s hZ)
set_option maxRecDepth 100000 in
theorem cg_X0_45_61 {r : Nat → Nat → Nat} {M : mv_Mem} (hZ : cz 49 M) (h : cz 50 M → mv_Run G 0 45 2785 69 [(0, .inr (.inr 45))] [] (50, 3025, mh_t, mh_l l, (fun k' f => if k' = 45 ∧ f = 9 then 50 else r k' f)) M post) : mv_Run G 0 45 2785 61 [(0, .inr (.inr 45))] [] (49, 2977, mh_t, mh_l l, r) M post := by
  refine mv_run [(69, [0])] 7 ok_0 ?_
  show (if 0 ≤ (48 : Int) ∧ (48 : Int) ≤ 100000 ∧ 49 + 1 ≤ 45 + 8 ∧ 2977 + Int.toNat 48 ≤ 2785 + 439 then (if 1 ≤ 45 ∧ 45 ≤ 50 ∧ mh_t 45 = 0 ∧ 1 ≤ 50 ∧ 50 ≤ 50 then mv_Run G 0 45 2785 69 [(0, .inr (.inr 45))] [] (mv_rf (mv_nwA (49, 2977, mh_t, mh_l l, r) 100 (Int.toNat 48)) 45 9 50) (mv_nwM (49, 2977, mh_t, mh_l l, r) M) post else False) else False)
  rw [if_pos (by decide)]
  rw [if_pos (by decide), cz_nwM hZ, cz_nwA (N := 49) (a := 100) (n := Int.toNat 48) rfl rfl]
  exact h (cz_s hZ)
set_option maxRecDepth 100000 in
theorem cg_X0_45_69 {r : Nat → Nat → Nat} {M : mv_Mem} (hZ : cz 50 M) (h : cz 51 M → mv_Run G 0 45 2785 78 [(0, .inr (.inr 45))] [] (51, 3217, mh_t, mh_l l, (fun k' f => if k' = 45 ∧ f = 10 then 51 else r k' f)) M post) : mv_Run G 0 45 2785 69 [(0, .inr (.inr 45))] [] (50, 3025, mh_t, mh_l l, r) M post := by
  refine mv_run [(78, [0])] 7 ok_0 ?_
  show (if 0 ≤ (192 : Int) ∧ (192 : Int) ≤ 100000 ∧ 50 + 1 ≤ 45 + 8 ∧ 3025 + Int.toNat 192 ≤ 2785 + 439 then (if 1 ≤ 45 ∧ 45 ≤ 51 ∧ mh_t 45 = 0 ∧ 1 ≤ 51 ∧ 51 ≤ 51 then mv_Run G 0 45 2785 78 [(0, .inr (.inr 45))] [] (mv_rf (mv_nwA (50, 3025, mh_t, mh_l l, r) 100 (Int.toNat 192)) 45 10 51) (mv_nwM (50, 3025, mh_t, mh_l l, r) M) post else False) else False)
  rw [if_pos (by decide)]
  rw [if_pos (by decide), cz_nwM hZ, cz_nwA (N := 50) (a := 100) (n := Int.toNat 192) rfl rfl]
  exact h (cz_s hZ)
set_option maxRecDepth 100000 in
theorem cg_X0_45_78 {r : Nat → Nat → Nat} {M : mv_Mem} (hZ : cz 51 M) (h : cz 52 M → mv_Run G 0 45 2785 85 [(0, .inr (.inr 45))] [] (52, 3220, mh_t, mh_l l, (fun k' f => if k' = 45 ∧ f = 11 then 52 else r k' f)) M post) : mv_Run G 0 45 2785 78 [(0, .inr (.inr 45))] [] (51, 3217, mh_t, mh_l l, r) M post := by
  refine mv_run [(85, [0])] 7 ok_0 ?_
  show (if 0 ≤ (3 : Int) ∧ (3 : Int) ≤ 100000 ∧ 51 + 1 ≤ 45 + 8 ∧ 3217 + Int.toNat 3 ≤ 2785 + 439 then (if 1 ≤ 45 ∧ 45 ≤ 52 ∧ mh_t 45 = 0 ∧ 1 ≤ 52 ∧ 52 ≤ 52 then mv_Run G 0 45 2785 85 [(0, .inr (.inr 45))] [] (mv_rf (mv_nwA (51, 3217, mh_t, mh_l l, r) 100 (Int.toNat 3)) 45 11 52) (mv_nwM (51, 3217, mh_t, mh_l l, r) M) post else False) else False)
  rw [if_pos (by decide)]
  rw [if_pos (by decide), cz_nwM hZ, cz_nwA (N := 51) (a := 100) (n := Int.toNat 3) rfl rfl]
  exact h (cz_s hZ)
set_option maxRecDepth 100000 in
theorem cg_X0_45_85 {r : Nat → Nat → Nat} {M : mv_Mem} (hZ : cz 52 M) (h : cz 53 (mv_up (mv_up (mv_up (mv_up M 53 0 (10)) 53 1 (6)) 53 2 (3)) 53 3 (2)) → mv_Run G 0 45 2785 110 [(0, .inr (.inr 45))] [] (53, 3224, mh_t, mh_l l, (fun k' f => if k' = 45 ∧ f = 12 then 53 else r k' f)) (mv_up (mv_up (mv_up (mv_up M 53 0 (10)) 53 1 (6)) 53 2 (3)) 53 3 (2)) post) : mv_Run G 0 45 2785 85 [(0, .inr (.inr 45))] [] (52, 3220, mh_t, mh_l l, r) M post := by
  refine mv_run [(110, [0])] 23 ok_0 ?_
  show (if 0 ≤ (4 : Int) ∧ (4 : Int) ≤ 100000 ∧ 52 + 1 ≤ 45 + 8 ∧ 3220 + Int.toNat 4 ≤ 2785 + 439 then (if false = false then (if 53 ≤ 53 ∧ 100 = 100 then ((0 ≤ (0 : Int) ∧ (0 : Int) < ((Int.toNat 4 : Nat) : Int)) ∧ (if false = false then (if 53 ≤ 53 ∧ 100 = 100 then ((0 ≤ (1 : Int) ∧ (1 : Int) < ((Int.toNat 4 : Nat) : Int)) ∧ (if false = false then (if 53 ≤ 53 ∧ 100 = 100 then ((0 ≤ (2 : Int) ∧ (2 : Int) < ((Int.toNat 4 : Nat) : Int)) ∧ (if false = false then (if 53 ≤ 53 ∧ 100 = 100 then ((0 ≤ (3 : Int) ∧ (3 : Int) < ((Int.toNat 4 : Nat) : Int)) ∧ (if 1 ≤ 45 ∧ 45 ≤ 53 ∧ mh_t 45 = 0 ∧ 1 ≤ 53 ∧ 53 ≤ 53 then mv_Run G 0 45 2785 110 [(0, .inr (.inr 45))] [] (mv_rf (mv_nwA (52, 3220, mh_t, mh_l l, r) 100 (Int.toNat 4)) 45 12 53) (mv_up (mv_up (mv_up (mv_up (mv_nwM (52, 3220, mh_t, mh_l l, r) M) 53 (Int.toNat 0) (10)) 53 (Int.toNat 1) (6)) 53 (Int.toNat 2) (3)) 53 (Int.toNat 3) (2)) post else False)) else False) else False)) else False) else False)) else False) else False)) else False) else False) else False)
  rw [if_pos (by decide)]
  rw [if_pos rfl, if_pos (by decide)]
  refine ⟨by decide, ?_⟩
  rw [if_pos rfl, if_pos (by decide)]
  refine ⟨by decide, ?_⟩
  rw [if_pos rfl, if_pos (by decide)]
  refine ⟨by decide, ?_⟩
  rw [if_pos rfl, if_pos (by decide)]
  refine ⟨by decide, ?_⟩
  rw [if_pos (by decide), cz_nwM hZ, cz_nwA (N := 52) (a := 100) (n := Int.toNat 4) rfl rfl]
  exact h (cz_up (cz_up (cz_up (cz_up (cz_s hZ) (by decide)) (by decide)) (by decide)) (by decide))
set_option maxRecDepth 100000 in
theorem cg_X0_45_110 {r : Nat → Nat → Nat} (hr : r 45 8 = 49) {M0 : mv_Mem} (hZ : cz 53 M0) (h : ∀ M, cz 53 M → (∀ i, i < 48 → M 49 i = -1) → (∀ a i, ¬ (a = 49 ∧ i < 48) → M a i = M0 a i) → mv_Run G 0 45 2785 131 [(0, .inr (.inr 45))] [] (53, 3224, mh_t, mh_l l, r) M post) : mv_Run G 0 45 2785 110 [(0, .inr (.inr 45))] [] (53, 3224, mh_t, mh_l l, r) M0 post := by
  have key : ∀ (q j : Nat) (M : mv_Mem), j + q = 48 → cz 53 M → (∀ i, i < j → M 49 i = -1) → (∀ a i, ¬ (a = 49 ∧ i < 48) → M a i = M0 a i) → mv_Run G 0 45 2785 112 [(0, .inr (.inr 45)), (1, .inl (j : Int))] [] (53, 3224, mh_t, mh_l l, r) M post := by
    intro q
    induction q with
    | zero =>
      intro j M hj z f1 f2
      refine mv_run [(131, [0])] 6 ok_0 ?_
      show (if (48 : Int) ≤ (j : Int) then mv_Run G 0 45 2785 131 [(0, .inr (.inr 45))] [] (53, 3224, mh_t, mh_l l, r) M post else _)
      rw [if_pos (by omega)]
      exact h M z (fun i hi => f1 i (by omega)) f2
    | succ q ih =>
      intro j M hj z f1 f2
      refine mv_run [(112, [0, 1]), (131, [0])] 14 ok_0 ?_
      show (if (48 : Int) ≤ (j : Int) then _ else (if 1 ≤ 45 ∧ 45 ≤ 53 ∧ mh_t 45 = 0 then (if 1 ≤ r 45 8 then (if 1 ≤ r 45 8 ∧ r 45 8 ≤ 53 ∧ mh_t (r 45 8) = 100 then (0 ≤ (j : Int) ∧ (j : Int) < ((mh_l l (r 45 8) : Nat) : Int)) ∧ (mv_R32 ((j : Int) + 1) ∧ mv_Run G 0 45 2785 112 [(0, .inr (.inr 45)), (1, .inl ((j : Int) + 1))] [] (53, 3224, mh_t, mh_l l, r) (mv_up M (r 45 8) (Int.toNat (j : Int)) (-1)) post) else False) else False) else False))
      rw [if_neg (by omega), if_pos (by decide), hr, if_pos (by decide), if_pos (by decide), Int.toNat_natCast]
      have el : mh_l l 49 = 48 := rfl
      refine ⟨by omega, by omega, ih (j + 1) _ (by omega) (fun a i ha => ?_) (fun i hi => ?_) (fun a i ha => ?_)⟩
      · rw [mv_up_c (by omega)]
        exact z a i ha
      · by_cases y : i = j
        · rw [y, mv_up_s]
        · rw [mv_up_j y]
          exact f1 i (by omega)
      · rw [mv_up_n (by omega)]
        exact f2 a i ha
  refine mv_run [(112, [0, 1])] 4 ok_0 ?_
  exact key 48 0 M0 rfl hZ (fun i hi => by omega) (fun _ _ _ => rfl)
set_option maxRecDepth 100000 in
theorem cg_X0_45_131 {r : Nat → Nat → Nat} {M : mv_Mem} (h : post none (53, 3224, mh_t, mh_l l, r) M) : mv_Run G 0 45 2785 131 [(0, .inr (.inr 45))] [] (53, 3224, mh_t, mh_l l, r) M post := by
  refine mv_run [] 3 ok_0 ?_
  show (if 53 = 45 + 8 ∧ 3224 = 2785 + 439 then post none (53, 3224, mh_t, mh_l l, r) M else False)
  rw [if_pos (by decide)]
  exact h
set_option maxRecDepth 100000 in
theorem cg_X10_44_4 {r : Nat → Nat → Nat} {M : mv_Mem} (hZ : cz 44 M) (h : cz 45 M → mv_Wp G 0 [.inr (.inr 45)] (45, 2785, mh_t, mh_l l, (fun k' f => if k' = 45 then 0 else r k' f)) M (fun r sh M => mv_Run G 83 44 2772 12 [(0, .inr (.inr 44))] (r.toList ++ [.inr (.inr 45), .inr (.inr 44)]) sh M post)) : mv_Run G 83 44 2772 4 [(0, .inr (.inr 44))] [] (44, 2772, mh_t, mh_l l, r) M post := by
  refine mv_run [(12, [0])] 7 ok_83 ?_
  show (if 44 + 1 ≤ 44 + 27 ∧ 2772 + 13 ≤ 2772 + 803 then (if false = false then (if mv_stw [.inr (.inr 45), .inr (.inr 44)] ≤ 8 ∧ 1 ≤ 3 ∧ 45 + (10 - 2) ≤ 44 + 27 ∧ 2785 + Int.toNat 439 ≤ 2772 + 803 then mv_Wp G 0 [.inr (.inr 45)] (mv_nwO (44, 2772, mh_t, mh_l l, r) 0 13) (mv_nwM (44, 2772, mh_t, mh_l l, r) M) (fun r sh M => mv_Run G 83 44 2772 12 [(0, .inr (.inr 44))] (r.toList ++ [.inr (.inr 45), .inr (.inr 44)]) sh M post) else False) else False) else False)
  rw [if_pos (by decide), if_pos rfl, if_pos (by decide), cz_nwM hZ, cz_nwO (N := 44) (a := 0) rfl]
  exact h (cz_s hZ)
set_option maxRecDepth 100000 in
theorem cg_X10_44_12 {r : Nat → Nat → Nat} {M : mv_Mem} (h : mv_Run G 83 44 2772 15 [(0, .inr (.inr 44))] [] (53, 3224, mh_t, mh_l l, (fun k' f => if k' = 44 ∧ f = 0 then 45 else r k' f)) M post) : mv_Run G 83 44 2772 12 [(0, .inr (.inr 44))] [.inr (.inr 45), .inr (.inr 44)] (53, 3224, mh_t, mh_l l, r) M post := by
  refine mv_run [(15, [0])] 3 ok_83 ?_
  show (if 1 ≤ 44 ∧ 44 ≤ 53 ∧ mh_t 44 = 10 ∧ 1 ≤ 45 ∧ 45 ≤ 53 then mv_Run G 83 44 2772 15 [(0, .inr (.inr 44))] [] (53, 3224, mh_t, mh_l l, (fun k' f => if k' = 44 ∧ f = 0 then 45 else r k' f)) M post else False)
  rw [if_pos (by decide)]
  exact h
set_option maxRecDepth 100000 in
theorem ce_X7_54 {r : Nat → Nat → Nat} {M : mv_Mem} (h : mv_Run G 57 54 3238 4 [(0, .inr (.inr 54))] [] (54, 3238, mh_t, mh_l l, r) M post) : mv_Wp G 57 [.inr (.inr 54)] (54, 3238, mh_t, mh_l l, r) M post :=
  mv_wp [(4, [0])] 5 ok_57 oc_57 rfl (show (if mv_stw ([] : List mv_V) ≤ 8 then mv_Run G 57 54 3238 4 [(0, .inr (.inr 54))] [] (54, 3238, mh_t, mh_l l, r) M post else False) from by rw [if_pos (by decide)]; exact h)
set_option maxRecDepth 100000 in
theorem cg_X7_54_4 {r : Nat → Nat → Nat} {M : mv_Mem} (h : mv_Run G 57 54 3238 9 [(0, .inr (.inr 54))] [] (54, 3238, mh_t, mh_l l, r) (mv_up M 54 0 0) post) : mv_Run G 57 54 3238 4 [(0, .inr (.inr 54))] [] (54, 3238, mh_t, mh_l l, r) M post := by
  refine mv_run [(9, [0])] 6 ok_57 ?_
  show (if 1 ≤ 54 ∧ 54 ≤ 54 ∧ mh_t 54 = 7 then mv_Run G 57 54 3238 9 [(0, .inr (.inr 54))] [] (54, 3238, mh_t, mh_l l, r) (mv_up M 54 0 0) post else False)
  rw [if_pos (by decide)]
  exact h
set_option maxRecDepth 100000 in
theorem cg_X7_54_9 {r : Nat → Nat → Nat} {M : mv_Mem} (h : mv_Run G 57 54 3238 14 [(0, .inr (.inr 54))] [] (54, 3238, mh_t, mh_l l, r) (mv_up M 54 1 0) post) : mv_Run G 57 54 3238 9 [(0, .inr (.inr 54))] [] (54, 3238, mh_t, mh_l l, r) M post := by
  refine mv_run [(14, [0])] 6 ok_57 ?_
  show (if 1 ≤ 54 ∧ 54 ≤ 54 ∧ mh_t 54 = 7 then mv_Run G 57 54 3238 14 [(0, .inr (.inr 54))] [] (54, 3238, mh_t, mh_l l, r) (mv_up M 54 1 0) post else False)
  rw [if_pos (by decide)]
  exact h
set_option maxRecDepth 100000 in
theorem cg_X7_54_14 {r : Nat → Nat → Nat} {M : mv_Mem} (hZ : cz 54 M) (h : cz 55 M → mv_Run G 57 54 3238 22 [(0, .inr (.inr 54))] [] (55, 3244, mh_t, mh_l l, (fun k' f => if k' = 54 ∧ f = 2 then 55 else r k' f)) M post) : mv_Run G 57 54 3238 14 [(0, .inr (.inr 54))] [] (54, 3238, mh_t, mh_l l, r) M post := by
  refine mv_run [(22, [0])] 7 ok_57 ?_
  show (if 0 ≤ (6 : Int) ∧ (6 : Int) ≤ 100000 ∧ 54 + 1 ≤ 54 + 12 ∧ 3238 + Int.toNat 6 ≤ 3238 + 300 then (if 1 ≤ 54 ∧ 54 ≤ 55 ∧ mh_t 54 = 7 ∧ 1 ≤ 55 ∧ 55 ≤ 55 then mv_Run G 57 54 3238 22 [(0, .inr (.inr 54))] [] (mv_rf (mv_nwA (54, 3238, mh_t, mh_l l, r) 100 (Int.toNat 6)) 54 2 55) (mv_nwM (54, 3238, mh_t, mh_l l, r) M) post else False) else False)
  rw [if_pos (by decide)]
  rw [if_pos (by decide), cz_nwM hZ, cz_nwA (N := 54) (a := 100) (n := Int.toNat 6) rfl rfl]
  exact h (cz_s hZ)
set_option maxRecDepth 100000 in
theorem cg_X7_54_22 {r : Nat → Nat → Nat} {M : mv_Mem} (hZ : cz 55 M) (h : cz 56 M → mv_Run G 57 54 3238 30 [(0, .inr (.inr 54))] [] (56, 3250, mh_t, mh_l l, (fun k' f => if k' = 54 ∧ f = 3 then 56 else r k' f)) M post) : mv_Run G 57 54 3238 22 [(0, .inr (.inr 54))] [] (55, 3244, mh_t, mh_l l, r) M post := by
  refine mv_run [(30, [0])] 7 ok_57 ?_
  show (if 0 ≤ (6 : Int) ∧ (6 : Int) ≤ 100000 ∧ 55 + 1 ≤ 54 + 12 ∧ 3244 + Int.toNat 6 ≤ 3238 + 300 then (if 1 ≤ 54 ∧ 54 ≤ 56 ∧ mh_t 54 = 7 ∧ 1 ≤ 56 ∧ 56 ≤ 56 then mv_Run G 57 54 3238 30 [(0, .inr (.inr 54))] [] (mv_rf (mv_nwA (55, 3244, mh_t, mh_l l, r) 100 (Int.toNat 6)) 54 3 56) (mv_nwM (55, 3244, mh_t, mh_l l, r) M) post else False) else False)
  rw [if_pos (by decide)]
  rw [if_pos (by decide), cz_nwM hZ, cz_nwA (N := 55) (a := 100) (n := Int.toNat 6) rfl rfl]
  exact h (cz_s hZ)
set_option maxRecDepth 100000 in
theorem cg_X7_54_30 {r : Nat → Nat → Nat} {M : mv_Mem} (hZ : cz 56 M) (h : cz 57 M → mv_Run G 57 54 3238 38 [(0, .inr (.inr 54))] [] (57, 3256, mh_t, mh_l l, (fun k' f => if k' = 54 ∧ f = 4 then 57 else r k' f)) M post) : mv_Run G 57 54 3238 30 [(0, .inr (.inr 54))] [] (56, 3250, mh_t, mh_l l, r) M post := by
  refine mv_run [(38, [0])] 7 ok_57 ?_
  show (if 0 ≤ (6 : Int) ∧ (6 : Int) ≤ 100000 ∧ 56 + 1 ≤ 54 + 12 ∧ 3250 + Int.toNat 6 ≤ 3238 + 300 then (if 1 ≤ 54 ∧ 54 ≤ 57 ∧ mh_t 54 = 7 ∧ 1 ≤ 57 ∧ 57 ≤ 57 then mv_Run G 57 54 3238 38 [(0, .inr (.inr 54))] [] (mv_rf (mv_nwA (56, 3250, mh_t, mh_l l, r) 100 (Int.toNat 6)) 54 4 57) (mv_nwM (56, 3250, mh_t, mh_l l, r) M) post else False) else False)
  rw [if_pos (by decide)]
  rw [if_pos (by decide), cz_nwM hZ, cz_nwA (N := 56) (a := 100) (n := Int.toNat 6) rfl rfl]
  exact h (cz_s hZ)
set_option maxRecDepth 100000 in
theorem cg_X7_54_38 {r : Nat → Nat → Nat} {M : mv_Mem} (hZ : cz 57 M) (h : cz 58 M → mv_Run G 57 54 3238 46 [(0, .inr (.inr 54))] [] (58, 3262, mh_t, mh_l l, (fun k' f => if k' = 54 ∧ f = 5 then 58 else r k' f)) M post) : mv_Run G 57 54 3238 38 [(0, .inr (.inr 54))] [] (57, 3256, mh_t, mh_l l, r) M post := by
  refine mv_run [(46, [0])] 7 ok_57 ?_
  show (if 0 ≤ (6 : Int) ∧ (6 : Int) ≤ 100000 ∧ 57 + 1 ≤ 54 + 12 ∧ 3256 + Int.toNat 6 ≤ 3238 + 300 then (if 1 ≤ 54 ∧ 54 ≤ 58 ∧ mh_t 54 = 7 ∧ 1 ≤ 58 ∧ 58 ≤ 58 then mv_Run G 57 54 3238 46 [(0, .inr (.inr 54))] [] (mv_rf (mv_nwA (57, 3256, mh_t, mh_l l, r) 100 (Int.toNat 6)) 54 5 58) (mv_nwM (57, 3256, mh_t, mh_l l, r) M) post else False) else False)
  rw [if_pos (by decide)]
  rw [if_pos (by decide), cz_nwM hZ, cz_nwA (N := 57) (a := 100) (n := Int.toNat 6) rfl rfl]
  exact h (cz_s hZ)
set_option maxRecDepth 100000 in
theorem cg_X7_54_46 {r : Nat → Nat → Nat} {M : mv_Mem} (hZ : cz 58 M) (h : cz 59 M → mv_Run G 57 54 3238 54 [(0, .inr (.inr 54))] [] (59, 3268, mh_t, mh_l l, (fun k' f => if k' = 54 ∧ f = 6 then 59 else r k' f)) M post) : mv_Run G 57 54 3238 46 [(0, .inr (.inr 54))] [] (58, 3262, mh_t, mh_l l, r) M post := by
  refine mv_run [(54, [0])] 7 ok_57 ?_
  show (if 0 ≤ (6 : Int) ∧ (6 : Int) ≤ 100000 ∧ 58 + 1 ≤ 54 + 12 ∧ 3262 + Int.toNat 6 ≤ 3238 + 300 then (if 1 ≤ 54 ∧ 54 ≤ 59 ∧ mh_t 54 = 7 ∧ 1 ≤ 59 ∧ 59 ≤ 59 then mv_Run G 57 54 3238 54 [(0, .inr (.inr 54))] [] (mv_rf (mv_nwA (58, 3262, mh_t, mh_l l, r) 100 (Int.toNat 6)) 54 6 59) (mv_nwM (58, 3262, mh_t, mh_l l, r) M) post else False) else False)
  rw [if_pos (by decide)]
  rw [if_pos (by decide), cz_nwM hZ, cz_nwA (N := 58) (a := 100) (n := Int.toNat 6) rfl rfl]
  exact h (cz_s hZ)
set_option maxRecDepth 100000 in
theorem cg_X7_54_54 {r : Nat → Nat → Nat} {M : mv_Mem} (hZ : cz 59 M) (h : cz 60 M → mv_Run G 57 54 3238 62 [(0, .inr (.inr 54))] [] (60, 3274, mh_t, mh_l l, (fun k' f => if k' = 54 ∧ f = 7 then 60 else r k' f)) M post) : mv_Run G 57 54 3238 54 [(0, .inr (.inr 54))] [] (59, 3268, mh_t, mh_l l, r) M post := by
  refine mv_run [(62, [0])] 7 ok_57 ?_
  show (if 0 ≤ (6 : Int) ∧ (6 : Int) ≤ 100000 ∧ 59 + 1 ≤ 54 + 12 ∧ 3268 + Int.toNat 6 ≤ 3238 + 300 then (if 1 ≤ 54 ∧ 54 ≤ 60 ∧ mh_t 54 = 7 ∧ 1 ≤ 60 ∧ 60 ≤ 60 then mv_Run G 57 54 3238 62 [(0, .inr (.inr 54))] [] (mv_rf (mv_nwA (59, 3268, mh_t, mh_l l, r) 100 (Int.toNat 6)) 54 7 60) (mv_nwM (59, 3268, mh_t, mh_l l, r) M) post else False) else False)
  rw [if_pos (by decide)]
  rw [if_pos (by decide), cz_nwM hZ, cz_nwA (N := 59) (a := 100) (n := Int.toNat 6) rfl rfl]
  exact h (cz_s hZ)
set_option maxRecDepth 100000 in
theorem cg_X7_54_62 {r : Nat → Nat → Nat} {M : mv_Mem} (hZ : cz 60 M) (h : cz 61 M → mv_Run G 57 54 3238 70 [(0, .inr (.inr 54))] [] (61, 3280, mh_t, mh_l l, (fun k' f => if k' = 54 ∧ f = 8 then 61 else r k' f)) M post) : mv_Run G 57 54 3238 62 [(0, .inr (.inr 54))] [] (60, 3274, mh_t, mh_l l, r) M post := by
  refine mv_run [(70, [0])] 7 ok_57 ?_
  show (if 0 ≤ (6 : Int) ∧ (6 : Int) ≤ 100000 ∧ 60 + 1 ≤ 54 + 12 ∧ 3274 + Int.toNat 6 ≤ 3238 + 300 then (if 1 ≤ 54 ∧ 54 ≤ 61 ∧ mh_t 54 = 7 ∧ 1 ≤ 61 ∧ 61 ≤ 61 then mv_Run G 57 54 3238 70 [(0, .inr (.inr 54))] [] (mv_rf (mv_nwA (60, 3274, mh_t, mh_l l, r) 100 (Int.toNat 6)) 54 8 61) (mv_nwM (60, 3274, mh_t, mh_l l, r) M) post else False) else False)
  rw [if_pos (by decide)]
  rw [if_pos (by decide), cz_nwM hZ, cz_nwA (N := 60) (a := 100) (n := Int.toNat 6) rfl rfl]
  exact h (cz_s hZ)
set_option maxRecDepth 100000 in
theorem cg_X7_54_70 {r : Nat → Nat → Nat} {M : mv_Mem} (hZ : cz 61 M) (h : cz 62 M → mv_Run G 57 54 3238 78 [(0, .inr (.inr 54))] [] (62, 3286, mh_t, mh_l l, (fun k' f => if k' = 54 ∧ f = 9 then 62 else r k' f)) M post) : mv_Run G 57 54 3238 70 [(0, .inr (.inr 54))] [] (61, 3280, mh_t, mh_l l, r) M post := by
  refine mv_run [(78, [0])] 7 ok_57 ?_
  show (if 0 ≤ (6 : Int) ∧ (6 : Int) ≤ 100000 ∧ 61 + 1 ≤ 54 + 12 ∧ 3280 + Int.toNat 6 ≤ 3238 + 300 then (if 1 ≤ 54 ∧ 54 ≤ 62 ∧ mh_t 54 = 7 ∧ 1 ≤ 62 ∧ 62 ≤ 62 then mv_Run G 57 54 3238 78 [(0, .inr (.inr 54))] [] (mv_rf (mv_nwA (61, 3280, mh_t, mh_l l, r) 100 (Int.toNat 6)) 54 9 62) (mv_nwM (61, 3280, mh_t, mh_l l, r) M) post else False) else False)
  rw [if_pos (by decide)]
  rw [if_pos (by decide), cz_nwM hZ, cz_nwA (N := 61) (a := 100) (n := Int.toNat 6) rfl rfl]
  exact h (cz_s hZ)
set_option maxRecDepth 100000 in
theorem cg_X7_54_78 {r : Nat → Nat → Nat} {M : mv_Mem} (hZ : cz 62 M) (h : cz 63 M → mv_Run G 57 54 3238 86 [(0, .inr (.inr 54))] [] (63, 3304, mh_t, mh_l l, (fun k' f => if k' = 54 ∧ f = 10 then 63 else r k' f)) M post) : mv_Run G 57 54 3238 78 [(0, .inr (.inr 54))] [] (62, 3286, mh_t, mh_l l, r) M post := by
  refine mv_run [(86, [0])] 7 ok_57 ?_
  show (if 0 ≤ (18 : Int) ∧ (18 : Int) ≤ 100000 ∧ 62 + 1 ≤ 54 + 12 ∧ 3286 + Int.toNat 18 ≤ 3238 + 300 then (if 1 ≤ 54 ∧ 54 ≤ 63 ∧ mh_t 54 = 7 ∧ 1 ≤ 63 ∧ 63 ≤ 63 then mv_Run G 57 54 3238 86 [(0, .inr (.inr 54))] [] (mv_rf (mv_nwA (62, 3286, mh_t, mh_l l, r) 100 (Int.toNat 18)) 54 10 63) (mv_nwM (62, 3286, mh_t, mh_l l, r) M) post else False) else False)
  rw [if_pos (by decide)]
  rw [if_pos (by decide), cz_nwM hZ, cz_nwA (N := 62) (a := 100) (n := Int.toNat 18) rfl rfl]
  exact h (cz_s hZ)
set_option maxRecDepth 100000 in
theorem cg_X7_54_86 {r : Nat → Nat → Nat} {M : mv_Mem} (hZ : cz 63 M) (h : cz 64 M → mv_Run G 57 54 3238 94 [(0, .inr (.inr 54))] [] (64, 3322, mh_t, mh_l l, (fun k' f => if k' = 54 ∧ f = 11 then 64 else r k' f)) M post) : mv_Run G 57 54 3238 86 [(0, .inr (.inr 54))] [] (63, 3304, mh_t, mh_l l, r) M post := by
  refine mv_run [(94, [0])] 7 ok_57 ?_
  show (if 0 ≤ (18 : Int) ∧ (18 : Int) ≤ 100000 ∧ 63 + 1 ≤ 54 + 12 ∧ 3304 + Int.toNat 18 ≤ 3238 + 300 then (if 1 ≤ 54 ∧ 54 ≤ 64 ∧ mh_t 54 = 7 ∧ 1 ≤ 64 ∧ 64 ≤ 64 then mv_Run G 57 54 3238 94 [(0, .inr (.inr 54))] [] (mv_rf (mv_nwA (63, 3304, mh_t, mh_l l, r) 100 (Int.toNat 18)) 54 11 64) (mv_nwM (63, 3304, mh_t, mh_l l, r) M) post else False) else False)
  rw [if_pos (by decide)]
  rw [if_pos (by decide), cz_nwM hZ, cz_nwA (N := 63) (a := 100) (n := Int.toNat 18) rfl rfl]
  exact h (cz_s hZ)
set_option maxRecDepth 100000 in
theorem cg_X7_54_94 {r : Nat → Nat → Nat} {M : mv_Mem} (hZ : cz 64 M) (h : cz 65 M → mv_Run G 57 54 3238 102 [(0, .inr (.inr 54))] [] (65, 3430, mh_t, mh_l l, (fun k' f => if k' = 54 ∧ f = 12 then 65 else r k' f)) M post) : mv_Run G 57 54 3238 94 [(0, .inr (.inr 54))] [] (64, 3322, mh_t, mh_l l, r) M post := by
  refine mv_run [(102, [0])] 7 ok_57 ?_
  show (if 0 ≤ (108 : Int) ∧ (108 : Int) ≤ 100000 ∧ 64 + 1 ≤ 54 + 12 ∧ 3322 + Int.toNat 108 ≤ 3238 + 300 then (if 1 ≤ 54 ∧ 54 ≤ 65 ∧ mh_t 54 = 7 ∧ 1 ≤ 65 ∧ 65 ≤ 65 then mv_Run G 57 54 3238 102 [(0, .inr (.inr 54))] [] (mv_rf (mv_nwA (64, 3322, mh_t, mh_l l, r) 100 (Int.toNat 108)) 54 12 65) (mv_nwM (64, 3322, mh_t, mh_l l, r) M) post else False) else False)
  rw [if_pos (by decide)]
  rw [if_pos (by decide), cz_nwM hZ, cz_nwA (N := 64) (a := 100) (n := Int.toNat 108) rfl rfl]
  exact h (cz_s hZ)
set_option maxRecDepth 100000 in
theorem cg_X7_54_102 {r : Nat → Nat → Nat} {M : mv_Mem} (hZ : cz 65 M) (h : cz 66 M → mv_Run G 57 54 3238 110 [(0, .inr (.inr 54))] [] (66, 3538, mh_t, mh_l l, (fun k' f => if k' = 54 ∧ f = 13 then 66 else r k' f)) M post) : mv_Run G 57 54 3238 102 [(0, .inr (.inr 54))] [] (65, 3430, mh_t, mh_l l, r) M post := by
  refine mv_run [(110, [0])] 7 ok_57 ?_
  show (if 0 ≤ (108 : Int) ∧ (108 : Int) ≤ 100000 ∧ 65 + 1 ≤ 54 + 12 ∧ 3430 + Int.toNat 108 ≤ 3238 + 300 then (if 1 ≤ 54 ∧ 54 ≤ 66 ∧ mh_t 54 = 7 ∧ 1 ≤ 66 ∧ 66 ≤ 66 then mv_Run G 57 54 3238 110 [(0, .inr (.inr 54))] [] (mv_rf (mv_nwA (65, 3430, mh_t, mh_l l, r) 100 (Int.toNat 108)) 54 13 66) (mv_nwM (65, 3430, mh_t, mh_l l, r) M) post else False) else False)
  rw [if_pos (by decide)]
  rw [if_pos (by decide), cz_nwM hZ, cz_nwA (N := 65) (a := 100) (n := Int.toNat 108) rfl rfl]
  exact h (cz_s hZ)
set_option maxRecDepth 100000 in
theorem cg_X7_54_110 {r : Nat → Nat → Nat} {M : mv_Mem} (h : post none (66, 3538, mh_t, mh_l l, r) M) : mv_Run G 57 54 3238 110 [(0, .inr (.inr 54))] [] (66, 3538, mh_t, mh_l l, r) M post := by
  refine mv_run [] 3 ok_57 ?_
  show (if 66 = 54 + 12 ∧ 3538 = 3238 + 300 then post none (66, 3538, mh_t, mh_l l, r) M else False)
  rw [if_pos (by decide)]
  exact h
set_option maxRecDepth 100000 in
theorem cg_X10_44_15 {r : Nat → Nat → Nat} {M : mv_Mem} (hZ : cz 53 M) (h : cz 54 M → mv_Wp G 57 [.inr (.inr 54)] (54, 3238, mh_t, mh_l l, (fun k' f => if k' = 54 then 0 else r k' f)) M (fun r sh M => mv_Run G 83 44 2772 23 [(0, .inr (.inr 44))] (r.toList ++ [.inr (.inr 54), .inr (.inr 44)]) sh M post)) : mv_Run G 83 44 2772 15 [(0, .inr (.inr 44))] [] (53, 3224, mh_t, mh_l l, r) M post := by
  refine mv_run [(23, [0])] 7 ok_83 ?_
  show (if 53 + 1 ≤ 44 + 27 ∧ 3224 + 14 ≤ 2772 + 803 then (if false = false then (if mv_stw [.inr (.inr 54), .inr (.inr 44)] ≤ 8 ∧ 1 ≤ 3 ∧ 54 + (14 - 2) ≤ 44 + 27 ∧ 3238 + Int.toNat 300 ≤ 2772 + 803 then mv_Wp G 57 [.inr (.inr 54)] (mv_nwO (53, 3224, mh_t, mh_l l, r) 7 14) (mv_nwM (53, 3224, mh_t, mh_l l, r) M) (fun r sh M => mv_Run G 83 44 2772 23 [(0, .inr (.inr 44))] (r.toList ++ [.inr (.inr 54), .inr (.inr 44)]) sh M post) else False) else False) else False)
  rw [if_pos (by decide), if_pos rfl, if_pos (by decide), cz_nwM hZ, cz_nwO (N := 53) (a := 7) rfl]
  exact h (cz_s hZ)
set_option maxRecDepth 100000 in
theorem cg_X10_44_23 {r : Nat → Nat → Nat} {M : mv_Mem} (h : mv_Run G 83 44 2772 26 [(0, .inr (.inr 44))] [] (66, 3538, mh_t, mh_l l, (fun k' f => if k' = 44 ∧ f = 1 then 54 else r k' f)) M post) : mv_Run G 83 44 2772 23 [(0, .inr (.inr 44))] [.inr (.inr 54), .inr (.inr 44)] (66, 3538, mh_t, mh_l l, r) M post := by
  refine mv_run [(26, [0])] 3 ok_83 ?_
  show (if 1 ≤ 44 ∧ 44 ≤ 66 ∧ mh_t 44 = 10 ∧ 1 ≤ 54 ∧ 54 ≤ 66 then mv_Run G 83 44 2772 26 [(0, .inr (.inr 44))] [] (66, 3538, mh_t, mh_l l, (fun k' f => if k' = 44 ∧ f = 1 then 54 else r k' f)) M post else False)
  rw [if_pos (by decide)]
  exact h
set_option maxRecDepth 100000 in
theorem ce_X2_67 {r : Nat → Nat → Nat} {M : mv_Mem} (h : mv_Run G 31 67 3543 4 [(0, .inr (.inr 67))] [] (67, 3543, mh_t, mh_l l, r) M post) : mv_Wp G 31 [.inr (.inr 67)] (67, 3543, mh_t, mh_l l, r) M post :=
  mv_wp [(4, [0])] 5 ok_31 oc_31 rfl (show (if mv_stw ([] : List mv_V) ≤ 8 then mv_Run G 31 67 3543 4 [(0, .inr (.inr 67))] [] (67, 3543, mh_t, mh_l l, r) M post else False) from by rw [if_pos (by decide)]; exact h)
set_option maxRecDepth 100000 in
theorem cg_X2_67_4 {r : Nat → Nat → Nat} {M : mv_Mem} (h : mv_Run G 31 67 3543 9 [(0, .inr (.inr 67))] [] (67, 3543, mh_t, mh_l l, r) (mv_up M 67 0 0) post) : mv_Run G 31 67 3543 4 [(0, .inr (.inr 67))] [] (67, 3543, mh_t, mh_l l, r) M post := by
  refine mv_run [(9, [0])] 6 ok_31 ?_
  show (if 1 ≤ 67 ∧ 67 ≤ 67 ∧ mh_t 67 = 2 then mv_Run G 31 67 3543 9 [(0, .inr (.inr 67))] [] (67, 3543, mh_t, mh_l l, r) (mv_up M 67 0 0) post else False)
  rw [if_pos (by decide)]
  exact h
set_option maxRecDepth 100000 in
theorem cg_X2_67_9 {r : Nat → Nat → Nat} {M : mv_Mem} (hZ : cz 67 M) (h : cz 68 M → mv_Run G 31 67 3543 17 [(0, .inr (.inr 67))] [] (68, 3551, mh_t, mh_l l, (fun k' f => if k' = 67 ∧ f = 1 then 68 else r k' f)) M post) : mv_Run G 31 67 3543 9 [(0, .inr (.inr 67))] [] (67, 3543, mh_t, mh_l l, r) M post := by
  refine mv_run [(17, [0])] 7 ok_31 ?_
  show (if 0 ≤ (8 : Int) ∧ (8 : Int) ≤ 100000 ∧ 67 + 1 ≤ 67 + 4 ∧ 3543 + Int.toNat 8 ≤ 3543 + 32 then (if 1 ≤ 67 ∧ 67 ≤ 68 ∧ mh_t 67 = 2 ∧ 1 ≤ 68 ∧ 68 ≤ 68 then mv_Run G 31 67 3543 17 [(0, .inr (.inr 67))] [] (mv_rf (mv_nwA (67, 3543, mh_t, mh_l l, r) 100 (Int.toNat 8)) 67 1 68) (mv_nwM (67, 3543, mh_t, mh_l l, r) M) post else False) else False)
  rw [if_pos (by decide)]
  rw [if_pos (by decide), cz_nwM hZ, cz_nwA (N := 67) (a := 100) (n := Int.toNat 8) rfl rfl]
  exact h (cz_s hZ)
set_option maxRecDepth 100000 in
theorem cg_X2_67_17 {r : Nat → Nat → Nat} {M : mv_Mem} (hZ : cz 68 M) (h : cz 69 M → mv_Run G 31 67 3543 25 [(0, .inr (.inr 67))] [] (69, 3559, mh_t, mh_l l, (fun k' f => if k' = 67 ∧ f = 2 then 69 else r k' f)) M post) : mv_Run G 31 67 3543 17 [(0, .inr (.inr 67))] [] (68, 3551, mh_t, mh_l l, r) M post := by
  refine mv_run [(25, [0])] 7 ok_31 ?_
  show (if 0 ≤ (8 : Int) ∧ (8 : Int) ≤ 100000 ∧ 68 + 1 ≤ 67 + 4 ∧ 3551 + Int.toNat 8 ≤ 3543 + 32 then (if 1 ≤ 67 ∧ 67 ≤ 69 ∧ mh_t 67 = 2 ∧ 1 ≤ 69 ∧ 69 ≤ 69 then mv_Run G 31 67 3543 25 [(0, .inr (.inr 67))] [] (mv_rf (mv_nwA (68, 3551, mh_t, mh_l l, r) 100 (Int.toNat 8)) 67 2 69) (mv_nwM (68, 3551, mh_t, mh_l l, r) M) post else False) else False)
  rw [if_pos (by decide)]
  rw [if_pos (by decide), cz_nwM hZ, cz_nwA (N := 68) (a := 100) (n := Int.toNat 8) rfl rfl]
  exact h (cz_s hZ)
set_option maxRecDepth 100000 in
theorem cg_X2_67_25 {r : Nat → Nat → Nat} {M : mv_Mem} (hZ : cz 69 M) (h : cz 70 M → mv_Run G 31 67 3543 33 [(0, .inr (.inr 67))] [] (70, 3567, mh_t, mh_l l, (fun k' f => if k' = 67 ∧ f = 3 then 70 else r k' f)) M post) : mv_Run G 31 67 3543 25 [(0, .inr (.inr 67))] [] (69, 3559, mh_t, mh_l l, r) M post := by
  refine mv_run [(33, [0])] 7 ok_31 ?_
  show (if 0 ≤ (8 : Int) ∧ (8 : Int) ≤ 100000 ∧ 69 + 1 ≤ 67 + 4 ∧ 3559 + Int.toNat 8 ≤ 3543 + 32 then (if 1 ≤ 67 ∧ 67 ≤ 70 ∧ mh_t 67 = 2 ∧ 1 ≤ 70 ∧ 70 ≤ 70 then mv_Run G 31 67 3543 33 [(0, .inr (.inr 67))] [] (mv_rf (mv_nwA (69, 3559, mh_t, mh_l l, r) 100 (Int.toNat 8)) 67 3 70) (mv_nwM (69, 3559, mh_t, mh_l l, r) M) post else False) else False)
  rw [if_pos (by decide)]
  rw [if_pos (by decide), cz_nwM hZ, cz_nwA (N := 69) (a := 100) (n := Int.toNat 8) rfl rfl]
  exact h (cz_s hZ)
set_option maxRecDepth 100000 in
theorem cg_X2_67_33 {r : Nat → Nat → Nat} {M : mv_Mem} (hZ : cz 70 M) (h : cz 71 M → mv_Run G 31 67 3543 41 [(0, .inr (.inr 67))] [] (71, 3575, mh_t, mh_l l, (fun k' f => if k' = 67 ∧ f = 4 then 71 else r k' f)) M post) : mv_Run G 31 67 3543 33 [(0, .inr (.inr 67))] [] (70, 3567, mh_t, mh_l l, r) M post := by
  refine mv_run [(41, [0])] 7 ok_31 ?_
  show (if 0 ≤ (8 : Int) ∧ (8 : Int) ≤ 100000 ∧ 70 + 1 ≤ 67 + 4 ∧ 3567 + Int.toNat 8 ≤ 3543 + 32 then (if 1 ≤ 67 ∧ 67 ≤ 71 ∧ mh_t 67 = 2 ∧ 1 ≤ 71 ∧ 71 ≤ 71 then mv_Run G 31 67 3543 41 [(0, .inr (.inr 67))] [] (mv_rf (mv_nwA (70, 3567, mh_t, mh_l l, r) 100 (Int.toNat 8)) 67 4 71) (mv_nwM (70, 3567, mh_t, mh_l l, r) M) post else False) else False)
  rw [if_pos (by decide)]
  rw [if_pos (by decide), cz_nwM hZ, cz_nwA (N := 70) (a := 100) (n := Int.toNat 8) rfl rfl]
  exact h (cz_s hZ)
set_option maxRecDepth 100000 in
theorem cg_X2_67_41 {r : Nat → Nat → Nat} {M : mv_Mem} (h : post none (71, 3575, mh_t, mh_l l, r) M) : mv_Run G 31 67 3543 41 [(0, .inr (.inr 67))] [] (71, 3575, mh_t, mh_l l, r) M post := by
  refine mv_run [] 3 ok_31 ?_
  show (if 71 = 67 + 4 ∧ 3575 = 3543 + 32 then post none (71, 3575, mh_t, mh_l l, r) M else False)
  rw [if_pos (by decide)]
  exact h
set_option maxRecDepth 100000 in
theorem cg_X10_44_26 {r : Nat → Nat → Nat} {M : mv_Mem} (hZ : cz 66 M) (h : cz 67 M → mv_Wp G 31 [.inr (.inr 67)] (67, 3543, mh_t, mh_l l, (fun k' f => if k' = 67 then 0 else r k' f)) M (fun r sh M => mv_Run G 83 44 2772 34 [(0, .inr (.inr 44))] (r.toList ++ [.inr (.inr 67), .inr (.inr 44)]) sh M post)) : mv_Run G 83 44 2772 26 [(0, .inr (.inr 44))] [] (66, 3538, mh_t, mh_l l, r) M post := by
  refine mv_run [(34, [0])] 7 ok_83 ?_
  show (if 66 + 1 ≤ 44 + 27 ∧ 3538 + 5 ≤ 2772 + 803 then (if false = false then (if mv_stw [.inr (.inr 67), .inr (.inr 44)] ≤ 8 ∧ 1 ≤ 3 ∧ 67 + (6 - 2) ≤ 44 + 27 ∧ 3543 + Int.toNat 32 ≤ 2772 + 803 then mv_Wp G 31 [.inr (.inr 67)] (mv_nwO (66, 3538, mh_t, mh_l l, r) 2 5) (mv_nwM (66, 3538, mh_t, mh_l l, r) M) (fun r sh M => mv_Run G 83 44 2772 34 [(0, .inr (.inr 44))] (r.toList ++ [.inr (.inr 67), .inr (.inr 44)]) sh M post) else False) else False) else False)
  rw [if_pos (by decide), if_pos rfl, if_pos (by decide), cz_nwM hZ, cz_nwO (N := 66) (a := 2) rfl]
  exact h (cz_s hZ)
set_option maxRecDepth 100000 in
theorem cg_X10_44_34 {r : Nat → Nat → Nat} {M : mv_Mem} (h : mv_Run G 83 44 2772 37 [(0, .inr (.inr 44))] [] (71, 3575, mh_t, mh_l l, (fun k' f => if k' = 44 ∧ f = 2 then 67 else r k' f)) M post) : mv_Run G 83 44 2772 34 [(0, .inr (.inr 44))] [.inr (.inr 67), .inr (.inr 44)] (71, 3575, mh_t, mh_l l, r) M post := by
  refine mv_run [(37, [0])] 3 ok_83 ?_
  show (if 1 ≤ 44 ∧ 44 ≤ 71 ∧ mh_t 44 = 10 ∧ 1 ≤ 67 ∧ 67 ≤ 71 then mv_Run G 83 44 2772 37 [(0, .inr (.inr 44))] [] (71, 3575, mh_t, mh_l l, (fun k' f => if k' = 44 ∧ f = 2 then 67 else r k' f)) M post else False)
  rw [if_pos (by decide)]
  exact h
set_option maxRecDepth 100000 in
theorem cg_X10_44_37 {r : Nat → Nat → Nat} {M : mv_Mem} (h : post none (71, 3575, mh_t, mh_l l, r) M) : mv_Run G 83 44 2772 37 [(0, .inr (.inr 44))] [] (71, 3575, mh_t, mh_l l, r) M post := by
  refine mv_run [] 3 ok_83 ?_
  show (if 71 = 44 + 27 ∧ 3575 = 2772 + 803 then post none (71, 3575, mh_t, mh_l l, r) M else False)
  rw [if_pos (by decide)]
  exact h
set_option maxRecDepth 100000 in
theorem cg_X11_1_81 {r : Nat → Nat → Nat} {M : mv_Mem} (hZ : cz 43 M) (h : cz 44 M → mv_Wp G 83 [.inr (.inr 44)] (44, 2772, mh_t, mh_l l, (fun k' f => if k' = 44 then 0 else r k' f)) M (fun r sh M => mv_Run G 85 1 13 89 [(0, .inr (.inr 1))] (r.toList ++ [.inr (.inr 44), .inr (.inr 1)]) sh M post)) : mv_Run G 85 1 13 81 [(0, .inr (.inr 1))] [] (43, 2769, mh_t, mh_l l, r) M post := by
  refine mv_run [(89, [0])] 7 ok_85 ?_
  show (if 43 + 1 ≤ 1 + 86 ∧ 2769 + 3 ≤ 13 + 4736 then (if false = false then (if mv_stw [.inr (.inr 44), .inr (.inr 1)] ≤ 8 ∧ 1 ≤ 3 ∧ 44 + (29 - 2) ≤ 1 + 86 ∧ 2772 + Int.toNat 803 ≤ 13 + 4736 then mv_Wp G 83 [.inr (.inr 44)] (mv_nwO (43, 2769, mh_t, mh_l l, r) 10 3) (mv_nwM (43, 2769, mh_t, mh_l l, r) M) (fun r sh M => mv_Run G 85 1 13 89 [(0, .inr (.inr 1))] (r.toList ++ [.inr (.inr 44), .inr (.inr 1)]) sh M post) else False) else False) else False)
  rw [if_pos (by decide), if_pos rfl, if_pos (by decide), cz_nwM hZ, cz_nwO (N := 43) (a := 10) rfl]
  exact h (cz_s hZ)
set_option maxRecDepth 100000 in
theorem cg_X11_1_89 {r : Nat → Nat → Nat} {M : mv_Mem} (h : mv_Run G 85 1 13 92 [(0, .inr (.inr 1))] [] (71, 3575, mh_t, mh_l l, (fun k' f => if k' = 1 ∧ f = 7 then 44 else r k' f)) M post) : mv_Run G 85 1 13 89 [(0, .inr (.inr 1))] [.inr (.inr 44), .inr (.inr 1)] (71, 3575, mh_t, mh_l l, r) M post := by
  refine mv_run [(92, [0])] 3 ok_85 ?_
  show (if 1 ≤ 1 ∧ 1 ≤ 71 ∧ mh_t 1 = 11 ∧ 1 ≤ 44 ∧ 44 ≤ 71 then mv_Run G 85 1 13 92 [(0, .inr (.inr 1))] [] (71, 3575, mh_t, mh_l l, (fun k' f => if k' = 1 ∧ f = 7 then 44 else r k' f)) M post else False)
  rw [if_pos (by decide)]
  exact h
set_option maxRecDepth 100000 in
theorem cg_X11_1_92 {r : Nat → Nat → Nat} {M : mv_Mem} (h : mv_Run G 85 1 13 97 [(0, .inr (.inr 1))] [] (71, 3575, mh_t, mh_l l, r) (mv_up M 1 8 0) post) : mv_Run G 85 1 13 92 [(0, .inr (.inr 1))] [] (71, 3575, mh_t, mh_l l, r) M post := by
  refine mv_run [(97, [0])] 6 ok_85 ?_
  show (if 1 ≤ 1 ∧ 1 ≤ 71 ∧ mh_t 1 = 11 then (((0 : Int) = 0 ∨ (0 : Int) = 1) ∧ mv_Run G 85 1 13 97 [(0, .inr (.inr 1))] [] (71, 3575, mh_t, mh_l l, r) (mv_up M 1 8 0) post) else False)
  rw [if_pos (by decide)]
  exact ⟨by decide, h⟩
set_option maxRecDepth 100000 in
theorem ce_X6_72 {r : Nat → Nat → Nat} {M : mv_Mem} (h : mv_Run G 49 72 3579 4 [(0, .inr (.inr 72))] [] (72, 3579, mh_t, mh_l l, r) M post) : mv_Wp G 49 [.inr (.inr 72)] (72, 3579, mh_t, mh_l l, r) M post :=
  mv_wp [(4, [0])] 5 ok_49 oc_49 rfl (show (if mv_stw ([] : List mv_V) ≤ 8 then mv_Run G 49 72 3579 4 [(0, .inr (.inr 72))] [] (72, 3579, mh_t, mh_l l, r) M post else False) from by rw [if_pos (by decide)]; exact h)
set_option maxRecDepth 100000 in
theorem cg_X6_72_4 {r : Nat → Nat → Nat} {M : mv_Mem} (hZ : cz 72 M) (h : cz 73 M → mv_Run G 49 72 3579 12 [(0, .inr (.inr 72))] [] (73, 3627, mh_t, mh_l l, (fun k' f => if k' = 72 ∧ f = 0 then 73 else r k' f)) M post) : mv_Run G 49 72 3579 4 [(0, .inr (.inr 72))] [] (72, 3579, mh_t, mh_l l, r) M post := by
  refine mv_run [(12, [0])] 7 ok_49 ?_
  show (if 0 ≤ (48 : Int) ∧ (48 : Int) ≤ 100000 ∧ 72 + 1 ≤ 72 + 4 ∧ 3579 + Int.toNat 48 ≤ 3579 + 978 then (if 1 ≤ 72 ∧ 72 ≤ 73 ∧ mh_t 72 = 6 ∧ 1 ≤ 73 ∧ 73 ≤ 73 then mv_Run G 49 72 3579 12 [(0, .inr (.inr 72))] [] (mv_rf (mv_nwA (72, 3579, mh_t, mh_l l, r) 100 (Int.toNat 48)) 72 0 73) (mv_nwM (72, 3579, mh_t, mh_l l, r) M) post else False) else False)
  rw [if_pos (by decide)]
  rw [if_pos (by decide), cz_nwM hZ, cz_nwA (N := 72) (a := 100) (n := Int.toNat 48) rfl rfl]
  exact h (cz_s hZ)
set_option maxRecDepth 100000 in
theorem cg_X6_72_12 {r : Nat → Nat → Nat} {M : mv_Mem} (hZ : cz 73 M) (h : cz 74 M → mv_Run G 49 72 3579 20 [(0, .inr (.inr 72))] [] (74, 3675, mh_t, mh_l l, (fun k' f => if k' = 72 ∧ f = 1 then 74 else r k' f)) M post) : mv_Run G 49 72 3579 12 [(0, .inr (.inr 72))] [] (73, 3627, mh_t, mh_l l, r) M post := by
  refine mv_run [(20, [0])] 7 ok_49 ?_
  show (if 0 ≤ (48 : Int) ∧ (48 : Int) ≤ 100000 ∧ 73 + 1 ≤ 72 + 4 ∧ 3627 + Int.toNat 48 ≤ 3579 + 978 then (if 1 ≤ 72 ∧ 72 ≤ 74 ∧ mh_t 72 = 6 ∧ 1 ≤ 74 ∧ 74 ≤ 74 then mv_Run G 49 72 3579 20 [(0, .inr (.inr 72))] [] (mv_rf (mv_nwA (73, 3627, mh_t, mh_l l, r) 100 (Int.toNat 48)) 72 1 74) (mv_nwM (73, 3627, mh_t, mh_l l, r) M) post else False) else False)
  rw [if_pos (by decide)]
  rw [if_pos (by decide), cz_nwM hZ, cz_nwA (N := 73) (a := 100) (n := Int.toNat 48) rfl rfl]
  exact h (cz_s hZ)
set_option maxRecDepth 100000 in
theorem cg_X6_72_20 {r : Nat → Nat → Nat} {M : mv_Mem} (hZ : cz 74 M) (h : cz 75 M → mv_Run G 49 72 3579 28 [(0, .inr (.inr 72))] [] (75, 3693, mh_t, mh_l l, (fun k' f => if k' = 72 ∧ f = 2 then 75 else r k' f)) M post) : mv_Run G 49 72 3579 20 [(0, .inr (.inr 72))] [] (74, 3675, mh_t, mh_l l, r) M post := by
  refine mv_run [(28, [0])] 7 ok_49 ?_
  show (if 0 ≤ (18 : Int) ∧ (18 : Int) ≤ 100000 ∧ 74 + 1 ≤ 72 + 4 ∧ 3675 + Int.toNat 18 ≤ 3579 + 978 then (if 1 ≤ 72 ∧ 72 ≤ 75 ∧ mh_t 72 = 6 ∧ 1 ≤ 75 ∧ 75 ≤ 75 then mv_Run G 49 72 3579 28 [(0, .inr (.inr 72))] [] (mv_rf (mv_nwA (74, 3675, mh_t, mh_l l, r) 100 (Int.toNat 18)) 72 2 75) (mv_nwM (74, 3675, mh_t, mh_l l, r) M) post else False) else False)
  rw [if_pos (by decide)]
  rw [if_pos (by decide), cz_nwM hZ, cz_nwA (N := 74) (a := 100) (n := Int.toNat 18) rfl rfl]
  exact h (cz_s hZ)
set_option maxRecDepth 100000 in
theorem cg_X6_72_28 {r : Nat → Nat → Nat} {M : mv_Mem} (hZ : cz 75 M) (h : cz 76 M → mv_Run G 49 72 3579 37 [(0, .inr (.inr 72))] [] (76, 4557, mh_t, mh_l l, (fun k' f => if k' = 72 ∧ f = 3 then 76 else r k' f)) M post) : mv_Run G 49 72 3579 28 [(0, .inr (.inr 72))] [] (75, 3693, mh_t, mh_l l, r) M post := by
  refine mv_run [(37, [0])] 7 ok_49 ?_
  show (if 0 ≤ (864 : Int) ∧ (864 : Int) ≤ 100000 ∧ 75 + 1 ≤ 72 + 4 ∧ 3693 + Int.toNat 864 ≤ 3579 + 978 then (if 1 ≤ 72 ∧ 72 ≤ 76 ∧ mh_t 72 = 6 ∧ 1 ≤ 76 ∧ 76 ≤ 76 then mv_Run G 49 72 3579 37 [(0, .inr (.inr 72))] [] (mv_rf (mv_nwA (75, 3693, mh_t, mh_l l, r) 101 (Int.toNat 864)) 72 3 76) (mv_nwM (75, 3693, mh_t, mh_l l, r) M) post else False) else False)
  rw [if_pos (by decide)]
  rw [if_pos (by decide), cz_nwM hZ, cz_nwA (N := 75) (a := 101) (n := Int.toNat 864) rfl rfl]
  exact h (cz_s hZ)
set_option maxRecDepth 100000 in
theorem cg_X6_72_37 {r : Nat → Nat → Nat} {M : mv_Mem} (h : post none (76, 4557, mh_t, mh_l l, r) M) : mv_Run G 49 72 3579 37 [(0, .inr (.inr 72))] [] (76, 4557, mh_t, mh_l l, r) M post := by
  refine mv_run [] 3 ok_49 ?_
  show (if 76 = 72 + 4 ∧ 4557 = 3579 + 978 then post none (76, 4557, mh_t, mh_l l, r) M else False)
  rw [if_pos (by decide)]
  exact h
set_option maxRecDepth 100000 in
theorem cg_X11_1_97 {r : Nat → Nat → Nat} {M : mv_Mem} (hZ : cz 71 M) (h : cz 72 M → mv_Wp G 49 [.inr (.inr 72)] (72, 3579, mh_t, mh_l l, (fun k' f => if k' = 72 then 0 else r k' f)) M (fun r sh M => mv_Run G 85 1 13 105 [(0, .inr (.inr 1))] (r.toList ++ [.inr (.inr 72), .inr (.inr 1)]) sh M post)) : mv_Run G 85 1 13 97 [(0, .inr (.inr 1))] [] (71, 3575, mh_t, mh_l l, r) M post := by
  refine mv_run [(105, [0])] 7 ok_85 ?_
  show (if 71 + 1 ≤ 1 + 86 ∧ 3575 + 4 ≤ 13 + 4736 then (if false = false then (if mv_stw [.inr (.inr 72), .inr (.inr 1)] ≤ 8 ∧ 1 ≤ 3 ∧ 72 + (6 - 2) ≤ 1 + 86 ∧ 3579 + Int.toNat 978 ≤ 13 + 4736 then mv_Wp G 49 [.inr (.inr 72)] (mv_nwO (71, 3575, mh_t, mh_l l, r) 6 4) (mv_nwM (71, 3575, mh_t, mh_l l, r) M) (fun r sh M => mv_Run G 85 1 13 105 [(0, .inr (.inr 1))] (r.toList ++ [.inr (.inr 72), .inr (.inr 1)]) sh M post) else False) else False) else False)
  rw [if_pos (by decide), if_pos rfl, if_pos (by decide), cz_nwM hZ, cz_nwO (N := 71) (a := 6) rfl]
  exact h (cz_s hZ)
set_option maxRecDepth 100000 in
theorem cg_X11_1_105 {r : Nat → Nat → Nat} {M : mv_Mem} (h : mv_Run G 85 1 13 108 [(0, .inr (.inr 1))] [] (76, 4557, mh_t, mh_l l, (fun k' f => if k' = 1 ∧ f = 9 then 72 else r k' f)) M post) : mv_Run G 85 1 13 105 [(0, .inr (.inr 1))] [.inr (.inr 72), .inr (.inr 1)] (76, 4557, mh_t, mh_l l, r) M post := by
  refine mv_run [(108, [0])] 3 ok_85 ?_
  show (if 1 ≤ 1 ∧ 1 ≤ 76 ∧ mh_t 1 = 11 ∧ 1 ≤ 72 ∧ 72 ≤ 76 then mv_Run G 85 1 13 108 [(0, .inr (.inr 1))] [] (76, 4557, mh_t, mh_l l, (fun k' f => if k' = 1 ∧ f = 9 then 72 else r k' f)) M post else False)
  rw [if_pos (by decide)]
  exact h
set_option maxRecDepth 100000 in
theorem ce_X9_77 {r : Nat → Nat → Nat} {M : mv_Mem} (h : mv_Run G 73 77 4558 4 [(0, .inr (.inr 77))] [] (77, 4558, mh_t, mh_l l, r) M post) : mv_Wp G 73 [.inr (.inr 77)] (77, 4558, mh_t, mh_l l, r) M post :=
  mv_wp [(4, [0])] 5 ok_73 oc_73 rfl (show (if mv_stw ([] : List mv_V) ≤ 8 then mv_Run G 73 77 4558 4 [(0, .inr (.inr 77))] [] (77, 4558, mh_t, mh_l l, r) M post else False) from by rw [if_pos (by decide)]; exact h)
set_option maxRecDepth 100000 in
theorem cg_X9_77_4 {r : Nat → Nat → Nat} {M : mv_Mem} (hZ : cz 77 M) (h : cz 78 M → mv_Run G 73 77 4558 12 [(0, .inr (.inr 77))] [] (78, 4606, mh_t, mh_l l, (fun k' f => if k' = 77 ∧ f = 0 then 78 else r k' f)) M post) : mv_Run G 73 77 4558 4 [(0, .inr (.inr 77))] [] (77, 4558, mh_t, mh_l l, r) M post := by
  refine mv_run [(12, [0])] 7 ok_73 ?_
  show (if 0 ≤ (48 : Int) ∧ (48 : Int) ≤ 100000 ∧ 77 + 1 ≤ 77 + 1 ∧ 4558 + Int.toNat 48 ≤ 4558 + 48 then (if 1 ≤ 77 ∧ 77 ≤ 78 ∧ mh_t 77 = 9 ∧ 1 ≤ 78 ∧ 78 ≤ 78 then mv_Run G 73 77 4558 12 [(0, .inr (.inr 77))] [] (mv_rf (mv_nwA (77, 4558, mh_t, mh_l l, r) 101 (Int.toNat 48)) 77 0 78) (mv_nwM (77, 4558, mh_t, mh_l l, r) M) post else False) else False)
  rw [if_pos (by decide)]
  rw [if_pos (by decide), cz_nwM hZ, cz_nwA (N := 77) (a := 101) (n := Int.toNat 48) rfl rfl]
  exact h (cz_s hZ)
set_option maxRecDepth 100000 in
theorem cg_X9_77_12 {r : Nat → Nat → Nat} {M : mv_Mem} (h : post none (78, 4606, mh_t, mh_l l, r) M) : mv_Run G 73 77 4558 12 [(0, .inr (.inr 77))] [] (78, 4606, mh_t, mh_l l, r) M post := by
  refine mv_run [] 3 ok_73 ?_
  show (if 78 = 77 + 1 ∧ 4606 = 4558 + 48 then post none (78, 4606, mh_t, mh_l l, r) M else False)
  rw [if_pos (by decide)]
  exact h
set_option maxRecDepth 100000 in
theorem cg_X11_1_108 {r : Nat → Nat → Nat} {M : mv_Mem} (hZ : cz 76 M) (h : cz 77 M → mv_Wp G 73 [.inr (.inr 77)] (77, 4558, mh_t, mh_l l, (fun k' f => if k' = 77 then 0 else r k' f)) M (fun r sh M => mv_Run G 85 1 13 116 [(0, .inr (.inr 1))] (r.toList ++ [.inr (.inr 77), .inr (.inr 1)]) sh M post)) : mv_Run G 85 1 13 108 [(0, .inr (.inr 1))] [] (76, 4557, mh_t, mh_l l, r) M post := by
  refine mv_run [(116, [0])] 7 ok_85 ?_
  show (if 76 + 1 ≤ 1 + 86 ∧ 4557 + 1 ≤ 13 + 4736 then (if false = false then (if mv_stw [.inr (.inr 77), .inr (.inr 1)] ≤ 8 ∧ 1 ≤ 3 ∧ 77 + (3 - 2) ≤ 1 + 86 ∧ 4558 + Int.toNat 48 ≤ 13 + 4736 then mv_Wp G 73 [.inr (.inr 77)] (mv_nwO (76, 4557, mh_t, mh_l l, r) 9 1) (mv_nwM (76, 4557, mh_t, mh_l l, r) M) (fun r sh M => mv_Run G 85 1 13 116 [(0, .inr (.inr 1))] (r.toList ++ [.inr (.inr 77), .inr (.inr 1)]) sh M post) else False) else False) else False)
  rw [if_pos (by decide), if_pos rfl, if_pos (by decide), cz_nwM hZ, cz_nwO (N := 76) (a := 9) rfl]
  exact h (cz_s hZ)
set_option maxRecDepth 100000 in
theorem cg_X11_1_116 {r : Nat → Nat → Nat} {M : mv_Mem} (h : mv_Run G 85 1 13 119 [(0, .inr (.inr 1))] [] (78, 4606, mh_t, mh_l l, (fun k' f => if k' = 1 ∧ f = 10 then 77 else r k' f)) M post) : mv_Run G 85 1 13 116 [(0, .inr (.inr 1))] [.inr (.inr 77), .inr (.inr 1)] (78, 4606, mh_t, mh_l l, r) M post := by
  refine mv_run [(119, [0])] 3 ok_85 ?_
  show (if 1 ≤ 1 ∧ 1 ≤ 78 ∧ mh_t 1 = 11 ∧ 1 ≤ 77 ∧ 77 ≤ 78 then mv_Run G 85 1 13 119 [(0, .inr (.inr 1))] [] (78, 4606, mh_t, mh_l l, (fun k' f => if k' = 1 ∧ f = 10 then 77 else r k' f)) M post else False)
  rw [if_pos (by decide)]
  exact h
set_option maxRecDepth 100000 in
theorem ce_X3_79 {r : Nat → Nat → Nat} {M : mv_Mem} (h : mv_Run G 34 79 4615 4 [(0, .inr (.inr 79))] [] (79, 4615, mh_t, mh_l l, r) M post) : mv_Wp G 34 [.inr (.inr 79)] (79, 4615, mh_t, mh_l l, r) M post :=
  mv_wp [(4, [0])] 5 ok_34 oc_34 rfl (show (if mv_stw ([] : List mv_V) ≤ 8 then mv_Run G 34 79 4615 4 [(0, .inr (.inr 79))] [] (79, 4615, mh_t, mh_l l, r) M post else False) from by rw [if_pos (by decide)]; exact h)
set_option maxRecDepth 100000 in
theorem cg_X3_79_4 {r : Nat → Nat → Nat} {M : mv_Mem} (hZ : cz 79 M) (h : cz 80 M → mv_Run G 34 79 4615 12 [(0, .inr (.inr 79))] [] (80, 4621, mh_t, mh_l l, (fun k' f => if k' = 79 ∧ f = 0 then 80 else r k' f)) M post) : mv_Run G 34 79 4615 4 [(0, .inr (.inr 79))] [] (79, 4615, mh_t, mh_l l, r) M post := by
  refine mv_run [(12, [0])] 7 ok_34 ?_
  show (if 0 ≤ (6 : Int) ∧ (6 : Int) ≤ 100000 ∧ 79 + 1 ≤ 79 + 7 ∧ 4615 + Int.toNat 6 ≤ 4615 + 127 then (if 1 ≤ 79 ∧ 79 ≤ 80 ∧ mh_t 79 = 3 ∧ 1 ≤ 80 ∧ 80 ≤ 80 then mv_Run G 34 79 4615 12 [(0, .inr (.inr 79))] [] (mv_rf (mv_nwA (79, 4615, mh_t, mh_l l, r) 101 (Int.toNat 6)) 79 0 80) (mv_nwM (79, 4615, mh_t, mh_l l, r) M) post else False) else False)
  rw [if_pos (by decide)]
  rw [if_pos (by decide), cz_nwM hZ, cz_nwA (N := 79) (a := 101) (n := Int.toNat 6) rfl rfl]
  exact h (cz_s hZ)
set_option maxRecDepth 100000 in
theorem cg_X3_79_12 {r : Nat → Nat → Nat} {M : mv_Mem} (hZ : cz 80 M) (h : cz 81 M → mv_Run G 34 79 4615 20 [(0, .inr (.inr 79))] [] (81, 4627, mh_t, mh_l l, (fun k' f => if k' = 79 ∧ f = 1 then 81 else r k' f)) M post) : mv_Run G 34 79 4615 12 [(0, .inr (.inr 79))] [] (80, 4621, mh_t, mh_l l, r) M post := by
  refine mv_run [(20, [0])] 7 ok_34 ?_
  show (if 0 ≤ (6 : Int) ∧ (6 : Int) ≤ 100000 ∧ 80 + 1 ≤ 79 + 7 ∧ 4621 + Int.toNat 6 ≤ 4615 + 127 then (if 1 ≤ 79 ∧ 79 ≤ 81 ∧ mh_t 79 = 3 ∧ 1 ≤ 81 ∧ 81 ≤ 81 then mv_Run G 34 79 4615 20 [(0, .inr (.inr 79))] [] (mv_rf (mv_nwA (80, 4621, mh_t, mh_l l, r) 101 (Int.toNat 6)) 79 1 81) (mv_nwM (80, 4621, mh_t, mh_l l, r) M) post else False) else False)
  rw [if_pos (by decide)]
  rw [if_pos (by decide), cz_nwM hZ, cz_nwA (N := 80) (a := 101) (n := Int.toNat 6) rfl rfl]
  exact h (cz_s hZ)
set_option maxRecDepth 100000 in
theorem cg_X3_79_20 {r : Nat → Nat → Nat} {M : mv_Mem} (hZ : cz 81 M) (h : cz 82 M → mv_Run G 34 79 4615 28 [(0, .inr (.inr 79))] [] (82, 4650, mh_t, mh_l l, (fun k' f => if k' = 79 ∧ f = 2 then 82 else r k' f)) M post) : mv_Run G 34 79 4615 20 [(0, .inr (.inr 79))] [] (81, 4627, mh_t, mh_l l, r) M post := by
  refine mv_run [(28, [0])] 7 ok_34 ?_
  show (if 0 ≤ (23 : Int) ∧ (23 : Int) ≤ 100000 ∧ 81 + 1 ≤ 79 + 7 ∧ 4627 + Int.toNat 23 ≤ 4615 + 127 then (if 1 ≤ 79 ∧ 79 ≤ 82 ∧ mh_t 79 = 3 ∧ 1 ≤ 82 ∧ 82 ≤ 82 then mv_Run G 34 79 4615 28 [(0, .inr (.inr 79))] [] (mv_rf (mv_nwA (81, 4627, mh_t, mh_l l, r) 101 (Int.toNat 23)) 79 2 82) (mv_nwM (81, 4627, mh_t, mh_l l, r) M) post else False) else False)
  rw [if_pos (by decide)]
  rw [if_pos (by decide), cz_nwM hZ, cz_nwA (N := 81) (a := 101) (n := Int.toNat 23) rfl rfl]
  exact h (cz_s hZ)
set_option maxRecDepth 100000 in
theorem cg_X3_79_28 {r : Nat → Nat → Nat} {M : mv_Mem} (hZ : cz 82 M) (h : cz 83 M → mv_Run G 34 79 4615 36 [(0, .inr (.inr 79))] [] (83, 4673, mh_t, mh_l l, (fun k' f => if k' = 79 ∧ f = 3 then 83 else r k' f)) M post) : mv_Run G 34 79 4615 28 [(0, .inr (.inr 79))] [] (82, 4650, mh_t, mh_l l, r) M post := by
  refine mv_run [(36, [0])] 7 ok_34 ?_
  show (if 0 ≤ (23 : Int) ∧ (23 : Int) ≤ 100000 ∧ 82 + 1 ≤ 79 + 7 ∧ 4650 + Int.toNat 23 ≤ 4615 + 127 then (if 1 ≤ 79 ∧ 79 ≤ 83 ∧ mh_t 79 = 3 ∧ 1 ≤ 83 ∧ 83 ≤ 83 then mv_Run G 34 79 4615 36 [(0, .inr (.inr 79))] [] (mv_rf (mv_nwA (82, 4650, mh_t, mh_l l, r) 101 (Int.toNat 23)) 79 3 83) (mv_nwM (82, 4650, mh_t, mh_l l, r) M) post else False) else False)
  rw [if_pos (by decide)]
  rw [if_pos (by decide), cz_nwM hZ, cz_nwA (N := 82) (a := 101) (n := Int.toNat 23) rfl rfl]
  exact h (cz_s hZ)
set_option maxRecDepth 100000 in
theorem cg_X3_79_36 {r : Nat → Nat → Nat} {M : mv_Mem} (h : mv_Run G 34 79 4615 41 [(0, .inr (.inr 79))] [] (83, 4673, mh_t, mh_l l, r) (mv_up M 79 4 0) post) : mv_Run G 34 79 4615 36 [(0, .inr (.inr 79))] [] (83, 4673, mh_t, mh_l l, r) M post := by
  refine mv_run [(41, [0])] 6 ok_34 ?_
  show (if 1 ≤ 79 ∧ 79 ≤ 83 ∧ mh_t 79 = 3 then mv_Run G 34 79 4615 41 [(0, .inr (.inr 79))] [] (83, 4673, mh_t, mh_l l, r) (mv_up M 79 4 0) post else False)
  rw [if_pos (by decide)]
  exact h
set_option maxRecDepth 100000 in
theorem cg_X3_79_41 {r : Nat → Nat → Nat} {M : mv_Mem} (h : mv_Run G 34 79 4615 46 [(0, .inr (.inr 79))] [] (83, 4673, mh_t, mh_l l, r) (mv_up M 79 5 0) post) : mv_Run G 34 79 4615 41 [(0, .inr (.inr 79))] [] (83, 4673, mh_t, mh_l l, r) M post := by
  refine mv_run [(46, [0])] 6 ok_34 ?_
  show (if 1 ≤ 79 ∧ 79 ≤ 83 ∧ mh_t 79 = 3 then mv_Run G 34 79 4615 46 [(0, .inr (.inr 79))] [] (83, 4673, mh_t, mh_l l, r) (mv_up M 79 5 0) post else False)
  rw [if_pos (by decide)]
  exact h
set_option maxRecDepth 100000 in
theorem cg_X3_79_46 {r : Nat → Nat → Nat} {M : mv_Mem} (hZ : cz 83 M) (h : cz 84 M → mv_Run G 34 79 4615 54 [(0, .inr (.inr 79))] [] (84, 4696, mh_t, mh_l l, (fun k' f => if k' = 79 ∧ f = 6 then 84 else r k' f)) M post) : mv_Run G 34 79 4615 46 [(0, .inr (.inr 79))] [] (83, 4673, mh_t, mh_l l, r) M post := by
  refine mv_run [(54, [0])] 7 ok_34 ?_
  show (if 0 ≤ (23 : Int) ∧ (23 : Int) ≤ 100000 ∧ 83 + 1 ≤ 79 + 7 ∧ 4673 + Int.toNat 23 ≤ 4615 + 127 then (if 1 ≤ 79 ∧ 79 ≤ 84 ∧ mh_t 79 = 3 ∧ 1 ≤ 84 ∧ 84 ≤ 84 then mv_Run G 34 79 4615 54 [(0, .inr (.inr 79))] [] (mv_rf (mv_nwA (83, 4673, mh_t, mh_l l, r) 100 (Int.toNat 23)) 79 6 84) (mv_nwM (83, 4673, mh_t, mh_l l, r) M) post else False) else False)
  rw [if_pos (by decide)]
  rw [if_pos (by decide), cz_nwM hZ, cz_nwA (N := 83) (a := 100) (n := Int.toNat 23) rfl rfl]
  exact h (cz_s hZ)
set_option maxRecDepth 100000 in
theorem cg_X3_79_54 {r : Nat → Nat → Nat} {M : mv_Mem} (hZ : cz 84 M) (h : cz 85 M → mv_Run G 34 79 4615 62 [(0, .inr (.inr 79))] [] (85, 4719, mh_t, mh_l l, (fun k' f => if k' = 79 ∧ f = 7 then 85 else r k' f)) M post) : mv_Run G 34 79 4615 54 [(0, .inr (.inr 79))] [] (84, 4696, mh_t, mh_l l, r) M post := by
  refine mv_run [(62, [0])] 7 ok_34 ?_
  show (if 0 ≤ (23 : Int) ∧ (23 : Int) ≤ 100000 ∧ 84 + 1 ≤ 79 + 7 ∧ 4696 + Int.toNat 23 ≤ 4615 + 127 then (if 1 ≤ 79 ∧ 79 ≤ 85 ∧ mh_t 79 = 3 ∧ 1 ≤ 85 ∧ 85 ≤ 85 then mv_Run G 34 79 4615 62 [(0, .inr (.inr 79))] [] (mv_rf (mv_nwA (84, 4696, mh_t, mh_l l, r) 101 (Int.toNat 23)) 79 7 85) (mv_nwM (84, 4696, mh_t, mh_l l, r) M) post else False) else False)
  rw [if_pos (by decide)]
  rw [if_pos (by decide), cz_nwM hZ, cz_nwA (N := 84) (a := 101) (n := Int.toNat 23) rfl rfl]
  exact h (cz_s hZ)
set_option maxRecDepth 100000 in
theorem cg_X3_79_62 {r : Nat → Nat → Nat} {M : mv_Mem} (hZ : cz 85 M) (h : cz 86 M → mv_Run G 34 79 4615 70 [(0, .inr (.inr 79))] [] (86, 4742, mh_t, mh_l l, (fun k' f => if k' = 79 ∧ f = 8 then 86 else r k' f)) M post) : mv_Run G 34 79 4615 62 [(0, .inr (.inr 79))] [] (85, 4719, mh_t, mh_l l, r) M post := by
  refine mv_run [(70, [0])] 7 ok_34 ?_
  show (if 0 ≤ (23 : Int) ∧ (23 : Int) ≤ 100000 ∧ 85 + 1 ≤ 79 + 7 ∧ 4719 + Int.toNat 23 ≤ 4615 + 127 then (if 1 ≤ 79 ∧ 79 ≤ 86 ∧ mh_t 79 = 3 ∧ 1 ≤ 86 ∧ 86 ≤ 86 then mv_Run G 34 79 4615 70 [(0, .inr (.inr 79))] [] (mv_rf (mv_nwA (85, 4719, mh_t, mh_l l, r) 101 (Int.toNat 23)) 79 8 86) (mv_nwM (85, 4719, mh_t, mh_l l, r) M) post else False) else False)
  rw [if_pos (by decide)]
  rw [if_pos (by decide), cz_nwM hZ, cz_nwA (N := 85) (a := 101) (n := Int.toNat 23) rfl rfl]
  exact h (cz_s hZ)
set_option maxRecDepth 100000 in
theorem cg_X3_79_70 {r : Nat → Nat → Nat} {M : mv_Mem} (h : post none (86, 4742, mh_t, mh_l l, r) M) : mv_Run G 34 79 4615 70 [(0, .inr (.inr 79))] [] (86, 4742, mh_t, mh_l l, r) M post := by
  refine mv_run [] 3 ok_34 ?_
  show (if 86 = 79 + 7 ∧ 4742 = 4615 + 127 then post none (86, 4742, mh_t, mh_l l, r) M else False)
  rw [if_pos (by decide)]
  exact h
set_option maxRecDepth 100000 in
theorem cg_X11_1_119 {r : Nat → Nat → Nat} {M : mv_Mem} (hZ : cz 78 M) (h : cz 79 M → mv_Wp G 34 [.inr (.inr 79)] (79, 4615, mh_t, mh_l l, (fun k' f => if k' = 79 then 0 else r k' f)) M (fun r sh M => mv_Run G 85 1 13 127 [(0, .inr (.inr 1))] (r.toList ++ [.inr (.inr 79), .inr (.inr 1)]) sh M post)) : mv_Run G 85 1 13 119 [(0, .inr (.inr 1))] [] (78, 4606, mh_t, mh_l l, r) M post := by
  refine mv_run [(127, [0])] 7 ok_85 ?_
  show (if 78 + 1 ≤ 1 + 86 ∧ 4606 + 9 ≤ 13 + 4736 then (if false = false then (if mv_stw [.inr (.inr 79), .inr (.inr 1)] ≤ 8 ∧ 1 ≤ 3 ∧ 79 + (9 - 2) ≤ 1 + 86 ∧ 4615 + Int.toNat 127 ≤ 13 + 4736 then mv_Wp G 34 [.inr (.inr 79)] (mv_nwO (78, 4606, mh_t, mh_l l, r) 3 9) (mv_nwM (78, 4606, mh_t, mh_l l, r) M) (fun r sh M => mv_Run G 85 1 13 127 [(0, .inr (.inr 1))] (r.toList ++ [.inr (.inr 79), .inr (.inr 1)]) sh M post) else False) else False) else False)
  rw [if_pos (by decide), if_pos rfl, if_pos (by decide), cz_nwM hZ, cz_nwO (N := 78) (a := 3) rfl]
  exact h (cz_s hZ)
set_option maxRecDepth 100000 in
theorem cg_X11_1_127 {r : Nat → Nat → Nat} {M : mv_Mem} (h : mv_Run G 85 1 13 130 [(0, .inr (.inr 1))] [] (86, 4742, mh_t, mh_l l, (fun k' f => if k' = 1 ∧ f = 11 then 79 else r k' f)) M post) : mv_Run G 85 1 13 127 [(0, .inr (.inr 1))] [.inr (.inr 79), .inr (.inr 1)] (86, 4742, mh_t, mh_l l, r) M post := by
  refine mv_run [(130, [0])] 3 ok_85 ?_
  show (if 1 ≤ 1 ∧ 1 ≤ 86 ∧ mh_t 1 = 11 ∧ 1 ≤ 79 ∧ 79 ≤ 86 then mv_Run G 85 1 13 130 [(0, .inr (.inr 1))] [] (86, 4742, mh_t, mh_l l, (fun k' f => if k' = 1 ∧ f = 11 then 79 else r k' f)) M post else False)
  rw [if_pos (by decide)]
  exact h
set_option maxRecDepth 100000 in
theorem cg_X11_1_130 {r : Nat → Nat → Nat} {M : mv_Mem} (hZ : cz 86 M) (h : cz 87 M → mv_Run G 85 1 13 138 [(0, .inr (.inr 1))] [] (87, 4749, mh_t, mh_l l, (fun k' f => if k' = 1 ∧ f = 12 then 87 else r k' f)) M post) : mv_Run G 85 1 13 130 [(0, .inr (.inr 1))] [] (86, 4742, mh_t, mh_l l, r) M post := by
  refine mv_run [(138, [0])] 7 ok_85 ?_
  show (if 0 ≤ (7 : Int) ∧ (7 : Int) ≤ 100000 ∧ 86 + 1 ≤ 1 + 86 ∧ 4742 + Int.toNat 7 ≤ 13 + 4736 then (if 1 ≤ 1 ∧ 1 ≤ 87 ∧ mh_t 1 = 11 ∧ 1 ≤ 87 ∧ 87 ≤ 87 then mv_Run G 85 1 13 138 [(0, .inr (.inr 1))] [] (mv_rf (mv_nwA (86, 4742, mh_t, mh_l l, r) 100 (Int.toNat 7)) 1 12 87) (mv_nwM (86, 4742, mh_t, mh_l l, r) M) post else False) else False)
  rw [if_pos (by decide)]
  rw [if_pos (by decide), cz_nwM hZ, cz_nwA (N := 86) (a := 100) (n := Int.toNat 7) rfl rfl]
  exact h (cz_s hZ)
set_option maxRecDepth 100000 in
theorem cg_X11_1_138 {r : Nat → Nat → Nat} {M : mv_Mem} (h : post none (87, 4749, mh_t, mh_l l, r) M) : mv_Run G 85 1 13 138 [(0, .inr (.inr 1))] [] (87, 4749, mh_t, mh_l l, r) M post := by
  refine mv_run [] 3 ok_85 ?_
  show (if 87 = 1 + 86 ∧ 4749 = 13 + 4736 then post none (87, 4749, mh_t, mh_l l, r) M else False)
  rw [if_pos (by decide)]
  exact h
end CT
