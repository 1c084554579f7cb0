/-! THE LAW, UP TO ITS LOOP (by program: wip/p40/ctorgen.py) -/
section CU
variable {G : mv_G} {l : Nat} {post : Option mv_V → mv_SH → mv_Mem → Prop}
set_option maxRecDepth 100000 in
theorem lw_0 {M : mv_Mem} (hZ : cz 0 M) (h : mv_Wp G 85 [.inr (.inr 1)] (1, 13, mh_t, mh_l l, (fun _ _ => 0)) M (fun r sh M => mv_Run G 226 0 0 7 [(0, .inr (.inr 0))] (r.toList ++ [.inr (.inr 1)]) sh M post)) : mv_Run G 226 0 0 0 [(0, .inr (.inr 0))] [] (0, 0, mh_t, mh_l l, (fun _ _ => 0)) M post := by
  refine mv_run [(7, [0])] 5 ok_226 ?_
  show (if 0 + 1 ≤ 0 + 200 ∧ 0 + 13 ≤ 0 + 10000 then (if false = false then (if mv_stw [.inr (.inr 1)] ≤ 8 ∧ 1 ≤ 2 ∧ 1 + (88 - 2) ≤ 0 + 200 ∧ 13 + Int.toNat 4736 ≤ 0 + 10000 then mv_Wp G 85 [.inr (.inr 1)] (mv_nwO (0, 0, mh_t, mh_l l, (fun _ _ => 0)) 11 13) (mv_nwM (0, 0, mh_t, mh_l l, (fun _ _ => 0)) M) (fun r sh M => mv_Run G 226 0 0 7 [(0, .inr (.inr 0))] (r.toList ++ [.inr (.inr 1)]) sh M post) else False) else False) else False)
  rw [if_pos (by decide), if_pos rfl, if_pos (by decide), cz_nwM hZ, cz_nwO (N := 0) (a := 11) rfl]
  have e : (fun (k f : Nat) => if k = 0 + 1 then 0 else (fun _ _ => 0 : Nat → Nat → Nat) k f) = (fun _ _ => 0) := funext fun k => funext fun f => by split <;> rfl
  rw [e]
  exact h
def cr_l : List (Nat × Option (Nat × Nat)) → Nat → Nat → Nat
  | [], _, _ => 0
  | (a, none) :: t, k, f => if k = a then 0 else cr_l t k f
  | (a, some (b, j)) :: t, k, f => if k = a ∧ f = b then j else cr_l t k f
def cr_L : List (Nat × Option (Nat × Nat)) := [(1, some (12, 87)), (1, some (11, 79)), (79, some (8, 86)), (79, some (7, 85)), (79, some (6, 84)), (79, some (3, 83)), (79, some (2, 82)), (79, some (1, 81)), (79, some (0, 80)), (79, none), (1, some (10, 77)), (77, some (0, 78)), (77, none), (1, some (9, 72)), (72, some (3, 76)), (72, some (2, 75)), (72, some (1, 74)), (72, some (0, 73)), (72, none), (1, some (7, 44)), (44, some (2, 67)), (67, some (4, 71)), (67, some (3, 70)), (67, some (2, 69)), (67, some (1, 68)), (67, none), (44, some (1, 54)), (54, some (13, 66)), (54, some (12, 65)), (54, some (11, 64)), (54, some (10, 63)), (54, some (9, 62)), (54, some (8, 61)), (54, some (7, 60)), (54, some (6, 59)), (54, some (5, 58)), (54, some (4, 57)), (54, some (3, 56)), (54, some (2, 55)), (54, none), (44, some (0, 45)), (45, some (12, 53)), (45, some (11, 52)), (45, some (10, 51)), (45, some (9, 50)), (45, some (8, 49)), (45, some (7, 48)), (45, some (6, 47)), (45, some (5, 46)), (45, none), (44, none), (1, some (6, 30)), (1, some (5, 17)), (1, some (4, 8)), (1, some (3, 7)), (1, some (2, 6)), (6, some (5, 17)), (6, some (4, 8)), (6, some (3, 43)), (6, some (2, 42)), (6, some (1, 35)), (35, some (5, 41)), (35, some (4, 40)), (35, some (3, 39)), (35, some (2, 38)), (35, some (1, 37)), (35, some (0, 36)), (35, none), (6, some (0, 7)), (7, some (2, 30)), (30, some (4, 34)), (30, some (3, 33)), (30, some (2, 32)), (30, some (1, 31)), (30, none), (7, some (1, 17)), (17, some (13, 29)), (17, some (12, 28)), (17, some (11, 27)), (17, some (10, 26)), (17, some (9, 25)), (17, some (8, 24)), (17, some (7, 23)), (17, some (6, 22)), (17, some (5, 21)), (17, some (4, 20)), (17, some (3, 19)), (17, some (2, 18)), (17, none), (7, some (0, 8)), (8, some (12, 16)), (8, some (11, 15)), (8, some (10, 14)), (8, some (9, 13)), (8, some (8, 12)), (8, some (7, 11)), (8, some (6, 10)), (8, some (5, 9)), (8, none), (7, none), (6, none), (1, some (1, 4)), (4, some (0, 5)), (4, none), (1, some (0, 2)), (2, some (0, 3)), (2, none)]
def cr_n (k f : Nat) : Nat := cr_l cr_L k f
theorem cr_fl (k f : Nat) : ∀ L, cr_l L k f = cr_l (L.filter (fun q => q.1 == k)) k f
  | [] => rfl
  | (a, none) :: t => by
    by_cases h : k = a
    · subst h
      rw [List.filter_cons_of_pos (by simp)]
      unfold cr_l
      rw [if_pos rfl, if_pos rfl]
    · rw [List.filter_cons_of_neg (by simp; omega)]
      rw [← cr_fl k f t]
      show (if k = a then 0 else cr_l t k f) = _
      rw [if_neg h]
  | (a, some (b, j)) :: t => by
    by_cases h : k = a
    · subst h
      rw [List.filter_cons_of_pos (by simp)]
      show (if k = k ∧ f = b then j else cr_l t k f) = (if k = k ∧ f = b then j else cr_l (t.filter (fun q => q.1 == k)) k f)
      rw [cr_fl k f t]
    · rw [List.filter_cons_of_neg (by simp; omega)]
      rw [← cr_fl k f t]
      show (if k = a ∧ f = b then j else cr_l t k f) = _
      rw [if_neg (fun z => h z.1)]
theorem cr_65 {k f : Nat} (hf : 64 < f) : ∀ L : List (Nat × Option (Nat × Nat)), (∀ q, q ∈ L → ∀ b j, q.2 = some (b, j) → b < 65) → cr_l L k f = 0
  | [], _ => rfl
  | (a, none) :: t, h => by
    show (if k = a then 0 else cr_l t k f) = 0
    split
    · rfl
    · exact cr_65 hf t (fun q hq => h q (List.mem_cons_of_mem _ hq))
  | (a, some (b, j)) :: t, h => by
    show (if k = a ∧ f = b then j else cr_l t k f) = 0
    have hb := h (a, some (b, j)) (List.mem_cons_self ..) b j rfl
    rw [if_neg (by omega)]
    exact cr_65 hf t (fun q hq => h q (List.mem_cons_of_mem _ hq))
set_option maxRecDepth 100000 in
theorem cr_b65 : ∀ q, q ∈ cr_L → ∀ b j, q.2 = some (b, j) → b < 65 := by
  have h : cr_L.all (fun q => match q.2 with
    | none => true
    | some (b, _) => Nat.blt b 65) = true := by decide +kernel
  intro q hq b j e
  have h1 := List.all_eq_true.mp h q hq
  rw [e] at h1
  exact Nat.le_of_ble_eq_true h1
set_option maxRecDepth 100000 in
theorem cr_ar : ∀ k, k < 88 → k ∉ [1, 2, 4, 6, 7, 8, 17, 30, 35, 44, 45, 54, 67, 72, 77, 79] → cr_L.filter (fun q => q.1 == k) = [] ∧ mh_refs.getD k [] = [] := by decide +kernel
set_option maxRecDepth 100000 in
theorem cr_o1 {f : Nat} (hf : f < 65) : cr_n 1 f = mh_r 1 f := by
  unfold cr_n
  rw [cr_fl, show cr_L.filter (fun q => q.1 == 1) = [(1, some (12, 87)), (1, some (11, 79)), (1, some (10, 77)), (1, some (9, 72)), (1, some (7, 44)), (1, some (6, 30)), (1, some (5, 17)), (1, some (4, 8)), (1, some (3, 7)), (1, some (2, 6)), (1, some (1, 4)), (1, some (0, 2))] by decide +kernel]
  revert f
  show ∀ f, f < 65 → cr_l [(1, some (12, 87)), (1, some (11, 79)), (1, some (10, 77)), (1, some (9, 72)), (1, some (7, 44)), (1, some (6, 30)), (1, some (5, 17)), (1, some (4, 8)), (1, some (3, 7)), (1, some (2, 6)), (1, some (1, 4)), (1, some (0, 2))] 1 f = (mh_refs.getD 1 []).getD f 0
  rw [show mh_refs.getD 1 [] = [2, 4, 6, 7, 8, 17, 30, 44, 0, 72, 77, 79, 87] from rfl]
  decide +kernel
set_option maxRecDepth 100000 in
theorem cr_o2 {f : Nat} (hf : f < 65) : cr_n 2 f = mh_r 2 f := by
  unfold cr_n
  rw [cr_fl, show cr_L.filter (fun q => q.1 == 2) = [(2, some (0, 3)), (2, none)] by decide +kernel]
  revert f
  show ∀ f, f < 65 → cr_l [(2, some (0, 3)), (2, none)] 2 f = (mh_refs.getD 2 []).getD f 0
  rw [show mh_refs.getD 2 [] = [3] from rfl]
  decide +kernel
set_option maxRecDepth 100000 in
theorem cr_o4 {f : Nat} (hf : f < 65) : cr_n 4 f = mh_r 4 f := by
  unfold cr_n
  rw [cr_fl, show cr_L.filter (fun q => q.1 == 4) = [(4, some (0, 5)), (4, none)] by decide +kernel]
  revert f
  show ∀ f, f < 65 → cr_l [(4, some (0, 5)), (4, none)] 4 f = (mh_refs.getD 4 []).getD f 0
  rw [show mh_refs.getD 4 [] = [5] from rfl]
  decide +kernel
set_option maxRecDepth 100000 in
theorem cr_o6 {f : Nat} (hf : f < 65) : cr_n 6 f = mh_r 6 f := by
  unfold cr_n
  rw [cr_fl, show cr_L.filter (fun q => q.1 == 6) = [(6, some (5, 17)), (6, some (4, 8)), (6, some (3, 43)), (6, some (2, 42)), (6, some (1, 35)), (6, some (0, 7)), (6, none)] by decide +kernel]
  revert f
  show ∀ f, f < 65 → cr_l [(6, some (5, 17)), (6, some (4, 8)), (6, some (3, 43)), (6, some (2, 42)), (6, some (1, 35)), (6, some (0, 7)), (6, none)] 6 f = (mh_refs.getD 6 []).getD f 0
  rw [show mh_refs.getD 6 [] = [7, 35, 42, 43, 8, 17] from rfl]
  decide +kernel
set_option maxRecDepth 100000 in
theorem cr_o7 {f : Nat} (hf : f < 65) : cr_n 7 f = mh_r 7 f := by
  unfold cr_n
  rw [cr_fl, show cr_L.filter (fun q => q.1 == 7) = [(7, some (2, 30)), (7, some (1, 17)), (7, some (0, 8)), (7, none)] by decide +kernel]
  revert f
  show ∀ f, f < 65 → cr_l [(7, some (2, 30)), (7, some (1, 17)), (7, some (0, 8)), (7, none)] 7 f = (mh_refs.getD 7 []).getD f 0
  rw [show mh_refs.getD 7 [] = [8, 17, 30] from rfl]
  decide +kernel
set_option maxRecDepth 100000 in
theorem cr_o8 {f : Nat} (hf : f < 65) : cr_n 8 f = mh_r 8 f := by
  unfold cr_n
  rw [cr_fl, show cr_L.filter (fun q => q.1 == 8) = [(8, some (12, 16)), (8, some (11, 15)), (8, some (10, 14)), (8, some (9, 13)), (8, some (8, 12)), (8, some (7, 11)), (8, some (6, 10)), (8, some (5, 9)), (8, none)] by decide +kernel]
  revert f
  show ∀ f, f < 65 → cr_l [(8, some (12, 16)), (8, some (11, 15)), (8, some (10, 14)), (8, some (9, 13)), (8, some (8, 12)), (8, some (7, 11)), (8, some (6, 10)), (8, some (5, 9)), (8, none)] 8 f = (mh_refs.getD 8 []).getD f 0
  rw [show mh_refs.getD 8 [] = [0, 0, 0, 0, 0, 9, 10, 11, 12, 13, 14, 15, 16] from rfl]
  decide +kernel
set_option maxRecDepth 100000 in
theorem cr_o17 {f : Nat} (hf : f < 65) : cr_n 17 f = mh_r 17 f := by
  unfold cr_n
  rw [cr_fl, show cr_L.filter (fun q => q.1 == 17) = [(17, some (13, 29)), (17, some (12, 28)), (17, some (11, 27)), (17, some (10, 26)), (17, some (9, 25)), (17, some (8, 24)), (17, some (7, 23)), (17, some (6, 22)), (17, some (5, 21)), (17, some (4, 20)), (17, some (3, 19)), (17, some (2, 18)), (17, none)] by decide +kernel]
  revert f
  show ∀ f, f < 65 → cr_l [(17, some (13, 29)), (17, some (12, 28)), (17, some (11, 27)), (17, some (10, 26)), (17, some (9, 25)), (17, some (8, 24)), (17, some (7, 23)), (17, some (6, 22)), (17, some (5, 21)), (17, some (4, 20)), (17, some (3, 19)), (17, some (2, 18)), (17, none)] 17 f = (mh_refs.getD 17 []).getD f 0
  rw [show mh_refs.getD 17 [] = [0, 0, 18, 19, 20, 21, 22, 23, 24, 25, 26, 27, 28, 29] from rfl]
  decide +kernel
set_option maxRecDepth 100000 in
theorem cr_o30 {f : Nat} (hf : f < 65) : cr_n 30 f = mh_r 30 f := by
  unfold cr_n
  rw [cr_fl, show cr_L.filter (fun q => q.1 == 30) = [(30, some (4, 34)), (30, some (3, 33)), (30, some (2, 32)), (30, some (1, 31)), (30, none)] by decide +kernel]
  revert f
  show ∀ f, f < 65 → cr_l [(30, some (4, 34)), (30, some (3, 33)), (30, some (2, 32)), (30, some (1, 31)), (30, none)] 30 f = (mh_refs.getD 30 []).getD f 0
  rw [show mh_refs.getD 30 [] = [0, 31, 32, 33, 34] from rfl]
  decide +kernel
set_option maxRecDepth 100000 in
theorem cr_o35 {f : Nat} (hf : f < 65) : cr_n 35 f = mh_r 35 f := by
  unfold cr_n
  rw [cr_fl, show cr_L.filter (fun q => q.1 == 35) = [(35, some (5, 41)), (35, some (4, 40)), (35, some (3, 39)), (35, some (2, 38)), (35, some (1, 37)), (35, some (0, 36)), (35, none)] by decide +kernel]
  revert f
  show ∀ f, f < 65 → cr_l [(35, some (5, 41)), (35, some (4, 40)), (35, some (3, 39)), (35, some (2, 38)), (35, some (1, 37)), (35, some (0, 36)), (35, none)] 35 f = (mh_refs.getD 35 []).getD f 0
  rw [show mh_refs.getD 35 [] = [36, 37, 38, 39, 40, 41] from rfl]
  decide +kernel
set_option maxRecDepth 100000 in
theorem cr_o44 {f : Nat} (hf : f < 65) : cr_n 44 f = mh_r 44 f := by
  unfold cr_n
  rw [cr_fl, show cr_L.filter (fun q => q.1 == 44) = [(44, some (2, 67)), (44, some (1, 54)), (44, some (0, 45)), (44, none)] by decide +kernel]
  revert f
  show ∀ f, f < 65 → cr_l [(44, some (2, 67)), (44, some (1, 54)), (44, some (0, 45)), (44, none)] 44 f = (mh_refs.getD 44 []).getD f 0
  rw [show mh_refs.getD 44 [] = [45, 54, 67] from rfl]
  decide +kernel
set_option maxRecDepth 100000 in
theorem cr_o45 {f : Nat} (hf : f < 65) : cr_n 45 f = mh_r 45 f := by
  unfold cr_n
  rw [cr_fl, show cr_L.filter (fun q => q.1 == 45) = [(45, some (12, 53)), (45, some (11, 52)), (45, some (10, 51)), (45, some (9, 50)), (45, some (8, 49)), (45, some (7, 48)), (45, some (6, 47)), (45, some (5, 46)), (45, none)] by decide +kernel]
  revert f
  show ∀ f, f < 65 → cr_l [(45, some (12, 53)), (45, some (11, 52)), (45, some (10, 51)), (45, some (9, 50)), (45, some (8, 49)), (45, some (7, 48)), (45, some (6, 47)), (45, some (5, 46)), (45, none)] 45 f = (mh_refs.getD 45 []).getD f 0
  rw [show mh_refs.getD 45 [] = [0, 0, 0, 0, 0, 46, 47, 48, 49, 50, 51, 52, 53] from rfl]
  decide +kernel
set_option maxRecDepth 100000 in
theorem cr_o54 {f : Nat} (hf : f < 65) : cr_n 54 f = mh_r 54 f := by
  unfold cr_n
  rw [cr_fl, show cr_L.filter (fun q => q.1 == 54) = [(54, some (13, 66)), (54, some (12, 65)), (54, some (11, 64)), (54, some (10, 63)), (54, some (9, 62)), (54, some (8, 61)), (54, some (7, 60)), (54, some (6, 59)), (54, some (5, 58)), (54, some (4, 57)), (54, some (3, 56)), (54, some (2, 55)), (54, none)] by decide +kernel]
  revert f
  show ∀ f, f < 65 → cr_l [(54, some (13, 66)), (54, some (12, 65)), (54, some (11, 64)), (54, some (10, 63)), (54, some (9, 62)), (54, some (8, 61)), (54, some (7, 60)), (54, some (6, 59)), (54, some (5, 58)), (54, some (4, 57)), (54, some (3, 56)), (54, some (2, 55)), (54, none)] 54 f = (mh_refs.getD 54 []).getD f 0
  rw [show mh_refs.getD 54 [] = [0, 0, 55, 56, 57, 58, 59, 60, 61, 62, 63, 64, 65, 66] from rfl]
  decide +kernel
set_option maxRecDepth 100000 in
theorem cr_o67 {f : Nat} (hf : f < 65) : cr_n 67 f = mh_r 67 f := by
  unfold cr_n
  rw [cr_fl, show cr_L.filter (fun q => q.1 == 67) = [(67, some (4, 71)), (67, some (3, 70)), (67, some (2, 69)), (67, some (1, 68)), (67, none)] by decide +kernel]
  revert f
  show ∀ f, f < 65 → cr_l [(67, some (4, 71)), (67, some (3, 70)), (67, some (2, 69)), (67, some (1, 68)), (67, none)] 67 f = (mh_refs.getD 67 []).getD f 0
  rw [show mh_refs.getD 67 [] = [0, 68, 69, 70, 71] from rfl]
  decide +kernel
set_option maxRecDepth 100000 in
theorem cr_o72 {f : Nat} (hf : f < 65) : cr_n 72 f = mh_r 72 f := by
  unfold cr_n
  rw [cr_fl, show cr_L.filter (fun q => q.1 == 72) = [(72, some (3, 76)), (72, some (2, 75)), (72, some (1, 74)), (72, some (0, 73)), (72, none)] by decide +kernel]
  revert f
  show ∀ f, f < 65 → cr_l [(72, some (3, 76)), (72, some (2, 75)), (72, some (1, 74)), (72, some (0, 73)), (72, none)] 72 f = (mh_refs.getD 72 []).getD f 0
  rw [show mh_refs.getD 72 [] = [73, 74, 75, 76] from rfl]
  decide +kernel
set_option maxRecDepth 100000 in
theorem cr_o77 {f : Nat} (hf : f < 65) : cr_n 77 f = mh_r 77 f := by
  unfold cr_n
  rw [cr_fl, show cr_L.filter (fun q => q.1 == 77) = [(77, some (0, 78)), (77, none)] by decide +kernel]
  revert f
  show ∀ f, f < 65 → cr_l [(77, some (0, 78)), (77, none)] 77 f = (mh_refs.getD 77 []).getD f 0
  rw [show mh_refs.getD 77 [] = [78] from rfl]
  decide +kernel
set_option maxRecDepth 100000 in
theorem cr_o79 {f : Nat} (hf : f < 65) : cr_n 79 f = mh_r 79 f := by
  unfold cr_n
  rw [cr_fl, show cr_L.filter (fun q => q.1 == 79) = [(79, some (8, 86)), (79, some (7, 85)), (79, some (6, 84)), (79, some (3, 83)), (79, some (2, 82)), (79, some (1, 81)), (79, some (0, 80)), (79, none)] by decide +kernel]
  revert f
  show ∀ f, f < 65 → cr_l [(79, some (8, 86)), (79, some (7, 85)), (79, some (6, 84)), (79, some (3, 83)), (79, some (2, 82)), (79, some (1, 81)), (79, some (0, 80)), (79, none)] 79 f = (mh_refs.getD 79 []).getD f 0
  rw [show mh_refs.getD 79 [] = [80, 81, 82, 83, 0, 0, 84, 85, 86] from rfl]
  decide +kernel
theorem mh_r_z {k f : Nat} (h : 87 < k ∨ 64 < f) : mh_r k f = 0 := by
  unfold mh_r
  by_cases q : k < 88
  · have h2 : ∀ k, k < 88 → (mh_refs.getD k []).length ≤ 65 := by decide +kernel
    have h3 := h2 k q
    rw [List.getD_eq_getElem?_getD, List.getElem?_eq_none (by omega)]
    rfl
  · have h2 : mh_refs.length = 88 := by decide +kernel
    rw [show mh_refs.getD k [] = [] by rw [List.getD_eq_getElem?_getD, List.getElem?_eq_none (by omega)]; rfl]
    rfl
set_option maxRecDepth 100000 in
theorem cr_hi {k f : Nat} (h : 87 < k) : cr_n k f = 0 := by
  unfold cr_n
  have h1 : cr_L.all (fun q => Nat.blt q.1 88) = true := by decide +kernel
  have h2 : cr_L.filter (fun q => q.1 == k) = [] := by
    rw [List.filter_eq_nil_iff]
    intro q hq
    have h3 : q.1 < 88 := Nat.le_of_ble_eq_true (List.all_eq_true.mp h1 q hq)
    simp
    omega
  rw [cr_fl, h2]
  rfl
set_option maxRecDepth 100000 in
theorem cr_eq : cr_n = mh_r := by
  funext k f
  by_cases h : 87 < k
  · rw [cr_hi h, mh_r_z (Or.inl h)]
  · by_cases h2 : 64 < f
    · rw [mh_r_z (Or.inr h2)]
      exact cr_65 h2 cr_L cr_b65
    · by_cases ho : k ∈ [1, 2, 4, 6, 7, 8, 17, 30, 35, 44, 45, 54, 67, 72, 77, 79]
      · simp only [List.mem_cons, List.not_mem_nil, or_false] at ho
        rcases ho with rfl | rfl | rfl | rfl | rfl | rfl | rfl | rfl | rfl | rfl | rfl | rfl | rfl | rfl | rfl | rfl
        · exact cr_o1 (by omega)
        · exact cr_o2 (by omega)
        · exact cr_o4 (by omega)
        · exact cr_o6 (by omega)
        · exact cr_o7 (by omega)
        · exact cr_o8 (by omega)
        · exact cr_o17 (by omega)
        · exact cr_o30 (by omega)
        · exact cr_o35 (by omega)
        · exact cr_o44 (by omega)
        · exact cr_o45 (by omega)
        · exact cr_o54 (by omega)
        · exact cr_o67 (by omega)
        · exact cr_o72 (by omega)
        · exact cr_o77 (by omega)
        · exact cr_o79 (by omega)
      · obtain ⟨e1, e2⟩ := cr_ar k (by omega) ho
        unfold cr_n mh_r
        rw [cr_fl, e1, e2]
        rfl
theorem cr_end {r : Nat → Nat → Nat} {M : mv_Mem} {F : mv_Mem → Prop} (hr : r = mh_r) (h : F M) : (none : Option mv_V) = none ∧ ((87, 4749, mh_t, mh_l l, r) : mv_SH) = mh l ∧ F M := by
  subst hr
  exact ⟨rfl, rfl, h⟩
/-- what the cells hold behind the constructors -/
def cf_M (M0 M : mv_Mem) : Prop := (∀ i, M 0 i = M0 0 i) ∧ (∀ i, i < 48 → M 12 i = -1) ∧ (∀ i, i < 48 → M 49 i = -1) ∧ M 2 1 = 0 ∧ M 4 1 = 0 ∧ M 8 0 = 1 ∧ M 8 1 = 1 ∧ M 8 2 = 1 ∧ M 8 3 = 0 ∧ M 8 4 = 0 ∧ M 16 0 = 10 ∧ M 16 1 = 6 ∧ M 16 2 = 3 ∧ M 16 3 = 2 ∧ M 17 0 = 0 ∧ M 17 1 = 0 ∧ M 30 0 = 0 ∧ M 6 6 = 0 ∧ M 6 7 = 0 ∧ M 45 0 = 1 ∧ M 45 1 = 1 ∧ M 45 2 = 1 ∧ M 45 3 = 0 ∧ M 45 4 = 0 ∧ M 53 0 = 10 ∧ M 53 1 = 6 ∧ M 53 2 = 3 ∧ M 53 3 = 2 ∧ M 54 0 = 0 ∧ M 54 1 = 0 ∧ M 67 0 = 0 ∧ M 1 8 = 0 ∧ M 79 4 = 0 ∧ M 79 5 = 0 ∧ (∀ a i, 1 ≤ a → a ≠ 1 → a ≠ 2 → a ≠ 4 → a ≠ 6 → a ≠ 8 → a ≠ 12 → a ≠ 16 → a ≠ 17 → a ≠ 30 → a ≠ 45 → a ≠ 49 → a ≠ 53 → a ≠ 54 → a ≠ 67 → a ≠ 79 → M a i = 0) ∧ (∀ i, i ≠ 8 → M 1 i = 0) ∧ (∀ i, i ≠ 1 → M 2 i = 0) ∧ (∀ i, i ≠ 1 → M 4 i = 0) ∧ (∀ i, i ≠ 6 → i ≠ 7 → M 6 i = 0) ∧ (∀ i, i ≠ 0 → i ≠ 1 → i ≠ 2 → i ≠ 3 → i ≠ 4 → M 8 i = 0) ∧ (∀ i, i ≠ 0 → i ≠ 1 → i ≠ 2 → i ≠ 3 → M 16 i = 0) ∧ (∀ i, i ≠ 0 → i ≠ 1 → M 17 i = 0) ∧ (∀ i, i ≠ 0 → M 30 i = 0) ∧ (∀ i, i ≠ 0 → i ≠ 1 → i ≠ 2 → i ≠ 3 → i ≠ 4 → M 45 i = 0) ∧ (∀ i, i ≠ 0 → i ≠ 1 → i ≠ 2 → i ≠ 3 → M 53 i = 0) ∧ (∀ i, i ≠ 0 → i ≠ 1 → M 54 i = 0) ∧ (∀ i, i ≠ 0 → M 67 i = 0) ∧ (∀ i, i ≠ 4 → i ≠ 5 → M 79 i = 0)
set_option maxRecDepth 100000 in
set_option maxHeartbeats 4000000 in
theorem cl_ctor {M0 : mv_Mem} {F : mv_Mem → Prop} (hZ : cz 0 M0) (h : ∀ M, cf_M M0 M → F M) : mv_Wp G 85 [.inr (.inr 1)] (1, 13, mh_t, mh_l l, (fun _ _ => 0)) M0 (fun r sh M => r = none ∧ sh = mh l ∧ F M) := by
  have hZ0 := hZ
  have hZ := cz_s hZ
  refine ce_X11_1 ?_
  refine cg_X11_1_4 hZ (fun hZ => ?_)
  refine ce_X5_2 ?_
  refine cg_X5_2_4 hZ (fun hZ => ?_)
  refine cg_X5_2_12 ?_
  have hZ := cz_up (a := 2) (j := 1) (v := 0) hZ (by decide)
  generalize hM1 : mv_up _ 2 1 0 = M1 at hZ ⊢
  refine cg_X5_2_17 ?_
  refine cg_X11_1_12 ?_
  refine cg_X11_1_15 hZ (fun hZ => ?_)
  refine ce_X4_4 ?_
  refine cg_X4_4_4 hZ (fun hZ => ?_)
  refine cg_X4_4_12 ?_
  have hZ := cz_up (a := 4) (j := 1) (v := 0) hZ (by decide)
  generalize hM2 : mv_up _ 4 1 0 = M2 at hZ ⊢
  refine cg_X4_4_17 ?_
  refine cg_X11_1_23 ?_
  refine cg_X11_1_26 hZ (fun hZ => ?_)
  refine ce_X1_6 ?_
  refine cg_X1_6_4 hZ (fun hZ => ?_)
  refine ce_X10_7 ?_
  refine cg_X10_7_4 hZ (fun hZ => ?_)
  refine ce_X0_8 ?_
  refine cg_X0_8_4 ?_
  have hZ := cz_up (a := 8) (j := 0) (v := 1) hZ (by decide)
  generalize hM3 : mv_up _ 8 0 1 = M3 at hZ ⊢
  refine cg_X0_8_9 ?_
  have hZ := cz_up (a := 8) (j := 1) (v := 1) hZ (by decide)
  generalize hM4 : mv_up _ 8 1 1 = M4 at hZ ⊢
  refine cg_X0_8_14 ?_
  have hZ := cz_up (a := 8) (j := 2) (v := 1) hZ (by decide)
  generalize hM5 : mv_up _ 8 2 1 = M5 at hZ ⊢
  refine cg_X0_8_19 ?_
  have hZ := cz_up (a := 8) (j := 3) (v := 0) hZ (by decide)
  generalize hM6 : mv_up _ 8 3 0 = M6 at hZ ⊢
  refine cg_X0_8_24 ?_
  have hZ := cz_up (a := 8) (j := 4) (v := 0) hZ (by decide)
  generalize hM7 : mv_up _ 8 4 0 = M7 at hZ ⊢
  refine cg_X0_8_29 hZ (fun hZ => ?_)
  refine cg_X0_8_37 hZ (fun hZ => ?_)
  refine cg_X0_8_45 hZ (fun hZ => ?_)
  refine cg_X0_8_53 hZ (fun hZ => ?_)
  refine cg_X0_8_61 hZ (fun hZ => ?_)
  refine cg_X0_8_69 hZ (fun hZ => ?_)
  refine cg_X0_8_78 hZ (fun hZ => ?_)
  refine cg_X0_8_85 hZ (fun hZ => ?_)
  generalize hM8 : mv_up (mv_up (mv_up (mv_up _ 16 0 _) 16 1 _) 16 2 _) 16 3 _ = M8 at hZ ⊢
  refine cg_X0_8_110 rfl hZ (fun M9 hZ hL9 hO9 => ?_)
  refine cg_X0_8_131 ?_
  refine cg_X10_7_12 ?_
  refine cg_X10_7_15 hZ (fun hZ => ?_)
  refine ce_X7_17 ?_
  refine cg_X7_17_4 ?_
  have hZ := cz_up (a := 17) (j := 0) (v := 0) hZ (by decide)
  generalize hM10 : mv_up _ 17 0 0 = M10 at hZ ⊢
  refine cg_X7_17_9 ?_
  have hZ := cz_up (a := 17) (j := 1) (v := 0) hZ (by decide)
  generalize hM11 : mv_up _ 17 1 0 = M11 at hZ ⊢
  refine cg_X7_17_14 hZ (fun hZ => ?_)
  refine cg_X7_17_22 hZ (fun hZ => ?_)
  refine cg_X7_17_30 hZ (fun hZ => ?_)
  refine cg_X7_17_38 hZ (fun hZ => ?_)
  refine cg_X7_17_46 hZ (fun hZ => ?_)
  refine cg_X7_17_54 hZ (fun hZ => ?_)
  refine cg_X7_17_62 hZ (fun hZ => ?_)
  refine cg_X7_17_70 hZ (fun hZ => ?_)
  refine cg_X7_17_78 hZ (fun hZ => ?_)
  refine cg_X7_17_86 hZ (fun hZ => ?_)
  refine cg_X7_17_94 hZ (fun hZ => ?_)
  refine cg_X7_17_102 hZ (fun hZ => ?_)
  refine cg_X7_17_110 ?_
  refine cg_X10_7_23 ?_
  refine cg_X10_7_26 hZ (fun hZ => ?_)
  refine ce_X2_30 ?_
  refine cg_X2_30_4 ?_
  have hZ := cz_up (a := 30) (j := 0) (v := 0) hZ (by decide)
  generalize hM12 : mv_up _ 30 0 0 = M12 at hZ ⊢
  refine cg_X2_30_9 hZ (fun hZ => ?_)
  refine cg_X2_30_17 hZ (fun hZ => ?_)
  refine cg_X2_30_25 hZ (fun hZ => ?_)
  refine cg_X2_30_33 hZ (fun hZ => ?_)
  refine cg_X2_30_41 ?_
  refine cg_X10_7_34 ?_
  refine cg_X10_7_37 ?_
  refine cg_X1_6_12 ?_
  refine cg_X1_6_15 hZ (fun hZ => ?_)
  refine ce_X8_35 ?_
  refine cg_X8_35_4 hZ (fun hZ => ?_)
  refine cg_X8_35_13 hZ (fun hZ => ?_)
  refine cg_X8_35_22 hZ (fun hZ => ?_)
  refine cg_X8_35_30 hZ (fun hZ => ?_)
  refine cg_X8_35_39 hZ (fun hZ => ?_)
  refine cg_X8_35_48 hZ (fun hZ => ?_)
  refine cg_X8_35_57 ?_
  refine cg_X1_6_23 ?_
  refine cg_X1_6_26 hZ (fun hZ => ?_)
  refine cg_X1_6_35 hZ (fun hZ => ?_)
  refine cg_X1_6_43 rfl rfl ?_
  refine cg_X1_6_54 rfl rfl ?_
  refine cg_X1_6_65 ?_
  have hZ := cz_up (a := 6) (j := 6) (v := 0) hZ (by decide)
  generalize hM13 : mv_up _ 6 6 0 = M13 at hZ ⊢
  refine cg_X1_6_70 ?_
  have hZ := cz_up (a := 6) (j := 7) (v := 0) hZ (by decide)
  generalize hM14 : mv_up _ 6 7 0 = M14 at hZ ⊢
  refine cg_X1_6_75 ?_
  refine cg_X11_1_34 ?_
  refine cg_X11_1_37 rfl rfl ?_
  refine cg_X11_1_48 rfl rfl ?_
  refine cg_X11_1_59 rfl rfl ?_
  refine cg_X11_1_70 rfl rfl ?_
  refine cg_X11_1_81 hZ (fun hZ => ?_)
  refine ce_X10_44 ?_
  refine cg_X10_44_4 hZ (fun hZ => ?_)
  refine ce_X0_45 ?_
  refine cg_X0_45_4 ?_
  have hZ := cz_up (a := 45) (j := 0) (v := 1) hZ (by decide)
  generalize hM15 : mv_up _ 45 0 1 = M15 at hZ ⊢
  refine cg_X0_45_9 ?_
  have hZ := cz_up (a := 45) (j := 1) (v := 1) hZ (by decide)
  generalize hM16 : mv_up _ 45 1 1 = M16 at hZ ⊢
  refine cg_X0_45_14 ?_
  have hZ := cz_up (a := 45) (j := 2) (v := 1) hZ (by decide)
  generalize hM17 : mv_up _ 45 2 1 = M17 at hZ ⊢
  refine cg_X0_45_19 ?_
  have hZ := cz_up (a := 45) (j := 3) (v := 0) hZ (by decide)
  generalize hM18 : mv_up _ 45 3 0 = M18 at hZ ⊢
  refine cg_X0_45_24 ?_
  have hZ := cz_up (a := 45) (j := 4) (v := 0) hZ (by decide)
  generalize hM19 : mv_up _ 45 4 0 = M19 at hZ ⊢
  refine cg_X0_45_29 hZ (fun hZ => ?_)
  refine cg_X0_45_37 hZ (fun hZ => ?_)
  refine cg_X0_45_45 hZ (fun hZ => ?_)
  refine cg_X0_45_53 hZ (fun hZ => ?_)
  refine cg_X0_45_61 hZ (fun hZ => ?_)
  refine cg_X0_45_69 hZ (fun hZ => ?_)
  refine cg_X0_45_78 hZ (fun hZ => ?_)
  refine cg_X0_45_85 hZ (fun hZ => ?_)
  generalize hM20 : mv_up (mv_up (mv_up (mv_up _ 53 0 _) 53 1 _) 53 2 _) 53 3 _ = M20 at hZ ⊢
  refine cg_X0_45_110 rfl hZ (fun M21 hZ hL21 hO21 => ?_)
  refine cg_X0_45_131 ?_
  refine cg_X10_44_12 ?_
  refine cg_X10_44_15 hZ (fun hZ => ?_)
  refine ce_X7_54 ?_
  refine cg_X7_54_4 ?_
  have hZ := cz_up (a := 54) (j := 0) (v := 0) hZ (by decide)
  generalize hM22 : mv_up _ 54 0 0 = M22 at hZ ⊢
  refine cg_X7_54_9 ?_
  have hZ := cz_up (a := 54) (j := 1) (v := 0) hZ (by decide)
  generalize hM23 : mv_up _ 54 1 0 = M23 at hZ ⊢
  refine cg_X7_54_14 hZ (fun hZ => ?_)
  refine cg_X7_54_22 hZ (fun hZ => ?_)
  refine cg_X7_54_30 hZ (fun hZ => ?_)
  refine cg_X7_54_38 hZ (fun hZ => ?_)
  refine cg_X7_54_46 hZ (fun hZ => ?_)
  refine cg_X7_54_54 hZ (fun hZ => ?_)
  refine cg_X7_54_62 hZ (fun hZ => ?_)
  refine cg_X7_54_70 hZ (fun hZ => ?_)
  refine cg_X7_54_78 hZ (fun hZ => ?_)
  refine cg_X7_54_86 hZ (fun hZ => ?_)
  refine cg_X7_54_94 hZ (fun hZ => ?_)
  refine cg_X7_54_102 hZ (fun hZ => ?_)
  refine cg_X7_54_110 ?_
  refine cg_X10_44_23 ?_
  refine cg_X10_44_26 hZ (fun hZ => ?_)
  refine ce_X2_67 ?_
  refine cg_X2_67_4 ?_
  have hZ := cz_up (a := 67) (j := 0) (v := 0) hZ (by decide)
  generalize hM24 : mv_up _ 67 0 0 = M24 at hZ ⊢
  refine cg_X2_67_9 hZ (fun hZ => ?_)
  refine cg_X2_67_17 hZ (fun hZ => ?_)
  refine cg_X2_67_25 hZ (fun hZ => ?_)
  refine cg_X2_67_33 hZ (fun hZ => ?_)
  refine cg_X2_67_41 ?_
  refine cg_X10_44_34 ?_
  refine cg_X10_44_37 ?_
  refine cg_X11_1_89 ?_
  refine cg_X11_1_92 ?_
  have hZ := cz_up (a := 1) (j := 8) (v := 0) hZ (by decide)
  generalize hM25 : mv_up _ 1 8 0 = M25 at hZ ⊢
  refine cg_X11_1_97 hZ (fun hZ => ?_)
  refine ce_X6_72 ?_
  refine cg_X6_72_4 hZ (fun hZ => ?_)
  refine cg_X6_72_12 hZ (fun hZ => ?_)
  refine cg_X6_72_20 hZ (fun hZ => ?_)
  refine cg_X6_72_28 hZ (fun hZ => ?_)
  refine cg_X6_72_37 ?_
  refine cg_X11_1_105 ?_
  refine cg_X11_1_108 hZ (fun hZ => ?_)
  refine ce_X9_77 ?_
  refine cg_X9_77_4 hZ (fun hZ => ?_)
  refine cg_X9_77_12 ?_
  refine cg_X11_1_116 ?_
  refine cg_X11_1_119 hZ (fun hZ => ?_)
  refine ce_X3_79 ?_
  refine cg_X3_79_4 hZ (fun hZ => ?_)
  refine cg_X3_79_12 hZ (fun hZ => ?_)
  refine cg_X3_79_20 hZ (fun hZ => ?_)
  refine cg_X3_79_28 hZ (fun hZ => ?_)
  refine cg_X3_79_36 ?_
  have hZ := cz_up (a := 79) (j := 4) (v := 0) hZ (by decide)
  generalize hM26 : mv_up _ 79 4 0 = M26 at hZ ⊢
  refine cg_X3_79_41 ?_
  have hZ := cz_up (a := 79) (j := 5) (v := 0) hZ (by decide)
  generalize hM27 : mv_up _ 79 5 0 = M27 at hZ ⊢
  refine cg_X3_79_46 hZ (fun hZ => ?_)
  refine cg_X3_79_54 hZ (fun hZ => ?_)
  refine cg_X3_79_62 hZ (fun hZ => ?_)
  refine cg_X3_79_70 ?_
  refine cg_X11_1_127 ?_
  refine cg_X11_1_130 hZ (fun hZ => ?_)
  refine cg_X11_1_138 ?_
  refine cr_end (r := _) cr_eq (h M27 ?_)
  have q1 : ∀ a i, ¬ (a = 2 ∧ i = 1) → M1 a i = M0 a i := fun a i z0 => by subst hM1; rw [mv_up_n z0]
  have v1_2_1 : M1 2 1 = 0 := by subst hM1; rw [mv_up_s]
  have q2 : ∀ a i, ¬ (a = 4 ∧ i = 1) → M2 a i = M1 a i := fun a i z0 => by subst hM2; rw [mv_up_n z0]
  have v2_4_1 : M2 4 1 = 0 := by subst hM2; rw [mv_up_s]
  have q3 : ∀ a i, ¬ (a = 8 ∧ i = 0) → M3 a i = M2 a i := fun a i z0 => by subst hM3; rw [mv_up_n z0]
  have v3_8_0 : M3 8 0 = 1 := by subst hM3; rw [mv_up_s]
  have q4 : ∀ a i, ¬ (a = 8 ∧ i = 1) → M4 a i = M3 a i := fun a i z0 => by subst hM4; rw [mv_up_n z0]
  have v4_8_1 : M4 8 1 = 1 := by subst hM4; rw [mv_up_s]
  have q5 : ∀ a i, ¬ (a = 8 ∧ i = 2) → M5 a i = M4 a i := fun a i z0 => by subst hM5; rw [mv_up_n z0]
  have v5_8_2 : M5 8 2 = 1 := by subst hM5; rw [mv_up_s]
  have q6 : ∀ a i, ¬ (a = 8 ∧ i = 3) → M6 a i = M5 a i := fun a i z0 => by subst hM6; rw [mv_up_n z0]
  have v6_8_3 : M6 8 3 = 0 := by subst hM6; rw [mv_up_s]
  have q7 : ∀ a i, ¬ (a = 8 ∧ i = 4) → M7 a i = M6 a i := fun a i z0 => by subst hM7; rw [mv_up_n z0]
  have v7_8_4 : M7 8 4 = 0 := by subst hM7; rw [mv_up_s]
  have q8 : ∀ a i, ¬ (a = 16 ∧ i = 0) → ¬ (a = 16 ∧ i = 1) → ¬ (a = 16 ∧ i = 2) → ¬ (a = 16 ∧ i = 3) → M8 a i = M7 a i := fun a i z0 z1 z2 z3 => by subst hM8; rw [mv_up_n z3]; rw [mv_up_n z2]; rw [mv_up_n z1]; rw [mv_up_n z0]
  have v8_16_0 : M8 16 0 = 10 := by subst hM8; rw [mv_up_n (by decide)]; rw [mv_up_n (by decide)]; rw [mv_up_n (by decide)]; rw [mv_up_s]
  have v8_16_1 : M8 16 1 = 6 := by subst hM8; rw [mv_up_n (by decide)]; rw [mv_up_n (by decide)]; rw [mv_up_s]
  have v8_16_2 : M8 16 2 = 3 := by subst hM8; rw [mv_up_n (by decide)]; rw [mv_up_s]
  have v8_16_3 : M8 16 3 = 2 := by subst hM8; rw [mv_up_s]
  have q9 : ∀ a i, ¬ (a = 12 ∧ i < 48) → M9 a i = M8 a i := hO9
  have q10 : ∀ a i, ¬ (a = 17 ∧ i = 0) → M10 a i = M9 a i := fun a i z0 => by subst hM10; rw [mv_up_n z0]
  have v10_17_0 : M10 17 0 = 0 := by subst hM10; rw [mv_up_s]
  have q11 : ∀ a i, ¬ (a = 17 ∧ i = 1) → M11 a i = M10 a i := fun a i z0 => by subst hM11; rw [mv_up_n z0]
  have v11_17_1 : M11 17 1 = 0 := by subst hM11; rw [mv_up_s]
  have q12 : ∀ a i, ¬ (a = 30 ∧ i = 0) → M12 a i = M11 a i := fun a i z0 => by subst hM12; rw [mv_up_n z0]
  have v12_30_0 : M12 30 0 = 0 := by subst hM12; rw [mv_up_s]
  have q13 : ∀ a i, ¬ (a = 6 ∧ i = 6) → M13 a i = M12 a i := fun a i z0 => by subst hM13; rw [mv_up_n z0]
  have v13_6_6 : M13 6 6 = 0 := by subst hM13; rw [mv_up_s]
  have q14 : ∀ a i, ¬ (a = 6 ∧ i = 7) → M14 a i = M13 a i := fun a i z0 => by subst hM14; rw [mv_up_n z0]
  have v14_6_7 : M14 6 7 = 0 := by subst hM14; rw [mv_up_s]
  have q15 : ∀ a i, ¬ (a = 45 ∧ i = 0) → M15 a i = M14 a i := fun a i z0 => by subst hM15; rw [mv_up_n z0]
  have v15_45_0 : M15 45 0 = 1 := by subst hM15; rw [mv_up_s]
  have q16 : ∀ a i, ¬ (a = 45 ∧ i = 1) → M16 a i = M15 a i := fun a i z0 => by subst hM16; rw [mv_up_n z0]
  have v16_45_1 : M16 45 1 = 1 := by subst hM16; rw [mv_up_s]
  have q17 : ∀ a i, ¬ (a = 45 ∧ i = 2) → M17 a i = M16 a i := fun a i z0 => by subst hM17; rw [mv_up_n z0]
  have v17_45_2 : M17 45 2 = 1 := by subst hM17; rw [mv_up_s]
  have q18 : ∀ a i, ¬ (a = 45 ∧ i = 3) → M18 a i = M17 a i := fun a i z0 => by subst hM18; rw [mv_up_n z0]
  have v18_45_3 : M18 45 3 = 0 := by subst hM18; rw [mv_up_s]
  have q19 : ∀ a i, ¬ (a = 45 ∧ i = 4) → M19 a i = M18 a i := fun a i z0 => by subst hM19; rw [mv_up_n z0]
  have v19_45_4 : M19 45 4 = 0 := by subst hM19; rw [mv_up_s]
  have q20 : ∀ a i, ¬ (a = 53 ∧ i = 0) → ¬ (a = 53 ∧ i = 1) → ¬ (a = 53 ∧ i = 2) → ¬ (a = 53 ∧ i = 3) → M20 a i = M19 a i := fun a i z0 z1 z2 z3 => by subst hM20; rw [mv_up_n z3]; rw [mv_up_n z2]; rw [mv_up_n z1]; rw [mv_up_n z0]
  have v20_53_0 : M20 53 0 = 10 := by subst hM20; rw [mv_up_n (by decide)]; rw [mv_up_n (by decide)]; rw [mv_up_n (by decide)]; rw [mv_up_s]
  have v20_53_1 : M20 53 1 = 6 := by subst hM20; rw [mv_up_n (by decide)]; rw [mv_up_n (by decide)]; rw [mv_up_s]
  have v20_53_2 : M20 53 2 = 3 := by subst hM20; rw [mv_up_n (by decide)]; rw [mv_up_s]
  have v20_53_3 : M20 53 3 = 2 := by subst hM20; rw [mv_up_s]
  have q21 : ∀ a i, ¬ (a = 49 ∧ i < 48) → M21 a i = M20 a i := hO21
  have q22 : ∀ a i, ¬ (a = 54 ∧ i = 0) → M22 a i = M21 a i := fun a i z0 => by subst hM22; rw [mv_up_n z0]
  have v22_54_0 : M22 54 0 = 0 := by subst hM22; rw [mv_up_s]
  have q23 : ∀ a i, ¬ (a = 54 ∧ i = 1) → M23 a i = M22 a i := fun a i z0 => by subst hM23; rw [mv_up_n z0]
  have v23_54_1 : M23 54 1 = 0 := by subst hM23; rw [mv_up_s]
  have q24 : ∀ a i, ¬ (a = 67 ∧ i = 0) → M24 a i = M23 a i := fun a i z0 => by subst hM24; rw [mv_up_n z0]
  have v24_67_0 : M24 67 0 = 0 := by subst hM24; rw [mv_up_s]
  have q25 : ∀ a i, ¬ (a = 1 ∧ i = 8) → M25 a i = M24 a i := fun a i z0 => by subst hM25; rw [mv_up_n z0]
  have v25_1_8 : M25 1 8 = 0 := by subst hM25; rw [mv_up_s]
  have q26 : ∀ a i, ¬ (a = 79 ∧ i = 4) → M26 a i = M25 a i := fun a i z0 => by subst hM26; rw [mv_up_n z0]
  have v26_79_4 : M26 79 4 = 0 := by subst hM26; rw [mv_up_s]
  have q27 : ∀ a i, ¬ (a = 79 ∧ i = 5) → M27 a i = M26 a i := fun a i z0 => by subst hM27; rw [mv_up_n z0]
  have v27_79_5 : M27 79 5 = 0 := by subst hM27; rw [mv_up_s]
  exact ⟨fun i => (q27 _ _ (by omega)).trans <| (q26 _ _ (by omega)).trans <| (q25 _ _ (by omega)).trans <| (q24 _ _ (by omega)).trans <| (q23 _ _ (by omega)).trans <| (q22 _ _ (by omega)).trans <| (q21 _ _ (by omega)).trans <| (q20 _ _ (by omega) (by omega) (by omega) (by omega)).trans <| (q19 _ _ (by omega)).trans <| (q18 _ _ (by omega)).trans <| (q17 _ _ (by omega)).trans <| (q16 _ _ (by omega)).trans <| (q15 _ _ (by omega)).trans <| (q14 _ _ (by omega)).trans <| (q13 _ _ (by omega)).trans <| (q12 _ _ (by omega)).trans <| (q11 _ _ (by omega)).trans <| (q10 _ _ (by omega)).trans <| (q9 _ _ (by omega)).trans <| (q8 _ _ (by omega) (by omega) (by omega) (by omega)).trans <| (q7 _ _ (by omega)).trans <| (q6 _ _ (by omega)).trans <| (q5 _ _ (by omega)).trans <| (q4 _ _ (by omega)).trans <| (q3 _ _ (by omega)).trans <| (q2 _ _ (by omega)).trans <| (q1 _ _ (by omega)).trans <| rfl,
    fun i hi => (q27 _ _ (by omega)).trans <| (q26 _ _ (by omega)).trans <| (q25 _ _ (by omega)).trans <| (q24 _ _ (by omega)).trans <| (q23 _ _ (by omega)).trans <| (q22 _ _ (by omega)).trans <| (q21 _ _ (by omega)).trans <| (q20 _ _ (by omega) (by omega) (by omega) (by omega)).trans <| (q19 _ _ (by omega)).trans <| (q18 _ _ (by omega)).trans <| (q17 _ _ (by omega)).trans <| (q16 _ _ (by omega)).trans <| (q15 _ _ (by omega)).trans <| (q14 _ _ (by omega)).trans <| (q13 _ _ (by omega)).trans <| (q12 _ _ (by omega)).trans <| (q11 _ _ (by omega)).trans <| (q10 _ _ (by omega)).trans <| hL9 i hi,
    fun i hi => (q27 _ _ (by omega)).trans <| (q26 _ _ (by omega)).trans <| (q25 _ _ (by omega)).trans <| (q24 _ _ (by omega)).trans <| (q23 _ _ (by omega)).trans <| (q22 _ _ (by omega)).trans <| hL21 i hi,
    (q27 _ _ (by decide)).trans <| (q26 _ _ (by decide)).trans <| (q25 _ _ (by decide)).trans <| (q24 _ _ (by decide)).trans <| (q23 _ _ (by decide)).trans <| (q22 _ _ (by decide)).trans <| (q21 _ _ (by decide)).trans <| (q20 _ _ (by decide) (by decide) (by decide) (by decide)).trans <| (q19 _ _ (by decide)).trans <| (q18 _ _ (by decide)).trans <| (q17 _ _ (by decide)).trans <| (q16 _ _ (by decide)).trans <| (q15 _ _ (by decide)).trans <| (q14 _ _ (by decide)).trans <| (q13 _ _ (by decide)).trans <| (q12 _ _ (by decide)).trans <| (q11 _ _ (by decide)).trans <| (q10 _ _ (by decide)).trans <| (q9 _ _ (by decide)).trans <| (q8 _ _ (by decide) (by decide) (by decide) (by decide)).trans <| (q7 _ _ (by decide)).trans <| (q6 _ _ (by decide)).trans <| (q5 _ _ (by decide)).trans <| (q4 _ _ (by decide)).trans <| (q3 _ _ (by decide)).trans <| (q2 _ _ (by decide)).trans <| v1_2_1,
    (q27 _ _ (by decide)).trans <| (q26 _ _ (by decide)).trans <| (q25 _ _ (by decide)).trans <| (q24 _ _ (by decide)).trans <| (q23 _ _ (by decide)).trans <| (q22 _ _ (by decide)).trans <| (q21 _ _ (by decide)).trans <| (q20 _ _ (by decide) (by decide) (by decide) (by decide)).trans <| (q19 _ _ (by decide)).trans <| (q18 _ _ (by decide)).trans <| (q17 _ _ (by decide)).trans <| (q16 _ _ (by decide)).trans <| (q15 _ _ (by decide)).trans <| (q14 _ _ (by decide)).trans <| (q13 _ _ (by decide)).trans <| (q12 _ _ (by decide)).trans <| (q11 _ _ (by decide)).trans <| (q10 _ _ (by decide)).trans <| (q9 _ _ (by decide)).trans <| (q8 _ _ (by decide) (by decide) (by decide) (by decide)).trans <| (q7 _ _ (by decide)).trans <| (q6 _ _ (by decide)).trans <| (q5 _ _ (by decide)).trans <| (q4 _ _ (by decide)).trans <| (q3 _ _ (by decide)).trans <| v2_4_1,
    (q27 _ _ (by decide)).trans <| (q26 _ _ (by decide)).trans <| (q25 _ _ (by decide)).trans <| (q24 _ _ (by decide)).trans <| (q23 _ _ (by decide)).trans <| (q22 _ _ (by decide)).trans <| (q21 _ _ (by decide)).trans <| (q20 _ _ (by decide) (by decide) (by decide) (by decide)).trans <| (q19 _ _ (by decide)).trans <| (q18 _ _ (by decide)).trans <| (q17 _ _ (by decide)).trans <| (q16 _ _ (by decide)).trans <| (q15 _ _ (by decide)).trans <| (q14 _ _ (by decide)).trans <| (q13 _ _ (by decide)).trans <| (q12 _ _ (by decide)).trans <| (q11 _ _ (by decide)).trans <| (q10 _ _ (by decide)).trans <| (q9 _ _ (by decide)).trans <| (q8 _ _ (by decide) (by decide) (by decide) (by decide)).trans <| (q7 _ _ (by decide)).trans <| (q6 _ _ (by decide)).trans <| (q5 _ _ (by decide)).trans <| (q4 _ _ (by decide)).trans <| v3_8_0,
    (q27 _ _ (by decide)).trans <| (q26 _ _ (by decide)).trans <| (q25 _ _ (by decide)).trans <| (q24 _ _ (by decide)).trans <| (q23 _ _ (by decide)).trans <| (q22 _ _ (by decide)).trans <| (q21 _ _ (by decide)).trans <| (q20 _ _ (by decide) (by decide) (by decide) (by decide)).trans <| (q19 _ _ (by decide)).trans <| (q18 _ _ (by decide)).trans <| (q17 _ _ (by decide)).trans <| (q16 _ _ (by decide)).trans <| (q15 _ _ (by decide)).trans <| (q14 _ _ (by decide)).trans <| (q13 _ _ (by decide)).trans <| (q12 _ _ (by decide)).trans <| (q11 _ _ (by decide)).trans <| (q10 _ _ (by decide)).trans <| (q9 _ _ (by decide)).trans <| (q8 _ _ (by decide) (by decide) (by decide) (by decide)).trans <| (q7 _ _ (by decide)).trans <| (q6 _ _ (by decide)).trans <| (q5 _ _ (by decide)).trans <| v4_8_1,
    (q27 _ _ (by decide)).trans <| (q26 _ _ (by decide)).trans <| (q25 _ _ (by decide)).trans <| (q24 _ _ (by decide)).trans <| (q23 _ _ (by decide)).trans <| (q22 _ _ (by decide)).trans <| (q21 _ _ (by decide)).trans <| (q20 _ _ (by decide) (by decide) (by decide) (by decide)).trans <| (q19 _ _ (by decide)).trans <| (q18 _ _ (by decide)).trans <| (q17 _ _ (by decide)).trans <| (q16 _ _ (by decide)).trans <| (q15 _ _ (by decide)).trans <| (q14 _ _ (by decide)).trans <| (q13 _ _ (by decide)).trans <| (q12 _ _ (by decide)).trans <| (q11 _ _ (by decide)).trans <| (q10 _ _ (by decide)).trans <| (q9 _ _ (by decide)).trans <| (q8 _ _ (by decide) (by decide) (by decide) (by decide)).trans <| (q7 _ _ (by decide)).trans <| (q6 _ _ (by decide)).trans <| v5_8_2,
    (q27 _ _ (by decide)).trans <| (q26 _ _ (by decide)).trans <| (q25 _ _ (by decide)).trans <| (q24 _ _ (by decide)).trans <| (q23 _ _ (by decide)).trans <| (q22 _ _ (by decide)).trans <| (q21 _ _ (by decide)).trans <| (q20 _ _ (by decide) (by decide) (by decide) (by decide)).trans <| (q19 _ _ (by decide)).trans <| (q18 _ _ (by decide)).trans <| (q17 _ _ (by decide)).trans <| (q16 _ _ (by decide)).trans <| (q15 _ _ (by decide)).trans <| (q14 _ _ (by decide)).trans <| (q13 _ _ (by decide)).trans <| (q12 _ _ (by decide)).trans <| (q11 _ _ (by decide)).trans <| (q10 _ _ (by decide)).trans <| (q9 _ _ (by decide)).trans <| (q8 _ _ (by decide) (by decide) (by decide) (by decide)).trans <| (q7 _ _ (by decide)).trans <| v6_8_3,
    (q27 _ _ (by decide)).trans <| (q26 _ _ (by decide)).trans <| (q25 _ _ (by decide)).trans <| (q24 _ _ (by decide)).trans <| (q23 _ _ (by decide)).trans <| (q22 _ _ (by decide)).trans <| (q21 _ _ (by decide)).trans <| (q20 _ _ (by decide) (by decide) (by decide) (by decide)).trans <| (q19 _ _ (by decide)).trans <| (q18 _ _ (by decide)).trans <| (q17 _ _ (by decide)).trans <| (q16 _ _ (by decide)).trans <| (q15 _ _ (by decide)).trans <| (q14 _ _ (by decide)).trans <| (q13 _ _ (by decide)).trans <| (q12 _ _ (by decide)).trans <| (q11 _ _ (by decide)).trans <| (q10 _ _ (by decide)).trans <| (q9 _ _ (by decide)).trans <| (q8 _ _ (by decide) (by decide) (by decide) (by decide)).trans <| v7_8_4,
    (q27 _ _ (by decide)).trans <| (q26 _ _ (by decide)).trans <| (q25 _ _ (by decide)).trans <| (q24 _ _ (by decide)).trans <| (q23 _ _ (by decide)).trans <| (q22 _ _ (by decide)).trans <| (q21 _ _ (by decide)).trans <| (q20 _ _ (by decide) (by decide) (by decide) (by decide)).trans <| (q19 _ _ (by decide)).trans <| (q18 _ _ (by decide)).trans <| (q17 _ _ (by decide)).trans <| (q16 _ _ (by decide)).trans <| (q15 _ _ (by decide)).trans <| (q14 _ _ (by decide)).trans <| (q13 _ _ (by decide)).trans <| (q12 _ _ (by decide)).trans <| (q11 _ _ (by decide)).trans <| (q10 _ _ (by decide)).trans <| (q9 _ _ (by decide)).trans <| v8_16_0,
    (q27 _ _ (by decide)).trans <| (q26 _ _ (by decide)).trans <| (q25 _ _ (by decide)).trans <| (q24 _ _ (by decide)).trans <| (q23 _ _ (by decide)).trans <| (q22 _ _ (by decide)).trans <| (q21 _ _ (by decide)).trans <| (q20 _ _ (by decide) (by decide) (by decide) (by decide)).trans <| (q19 _ _ (by decide)).trans <| (q18 _ _ (by decide)).trans <| (q17 _ _ (by decide)).trans <| (q16 _ _ (by decide)).trans <| (q15 _ _ (by decide)).trans <| (q14 _ _ (by decide)).trans <| (q13 _ _ (by decide)).trans <| (q12 _ _ (by decide)).trans <| (q11 _ _ (by decide)).trans <| (q10 _ _ (by decide)).trans <| (q9 _ _ (by decide)).trans <| v8_16_1,
    (q27 _ _ (by decide)).trans <| (q26 _ _ (by decide)).trans <| (q25 _ _ (by decide)).trans <| (q24 _ _ (by decide)).trans <| (q23 _ _ (by decide)).trans <| (q22 _ _ (by decide)).trans <| (q21 _ _ (by decide)).trans <| (q20 _ _ (by decide) (by decide) (by decide) (by decide)).trans <| (q19 _ _ (by decide)).trans <| (q18 _ _ (by decide)).trans <| (q17 _ _ (by decide)).trans <| (q16 _ _ (by decide)).trans <| (q15 _ _ (by decide)).trans <| (q14 _ _ (by decide)).trans <| (q13 _ _ (by decide)).trans <| (q12 _ _ (by decide)).trans <| (q11 _ _ (by decide)).trans <| (q10 _ _ (by decide)).trans <| (q9 _ _ (by decide)).trans <| v8_16_2,
    (q27 _ _ (by decide)).trans <| (q26 _ _ (by decide)).trans <| (q25 _ _ (by decide)).trans <| (q24 _ _ (by decide)).trans <| (q23 _ _ (by decide)).trans <| (q22 _ _ (by decide)).trans <| (q21 _ _ (by decide)).trans <| (q20 _ _ (by decide) (by decide) (by decide) (by decide)).trans <| (q19 _ _ (by decide)).trans <| (q18 _ _ (by decide)).trans <| (q17 _ _ (by decide)).trans <| (q16 _ _ (by decide)).trans <| (q15 _ _ (by decide)).trans <| (q14 _ _ (by decide)).trans <| (q13 _ _ (by decide)).trans <| (q12 _ _ (by decide)).trans <| (q11 _ _ (by decide)).trans <| (q10 _ _ (by decide)).trans <| (q9 _ _ (by decide)).trans <| v8_16_3,
    (q27 _ _ (by decide)).trans <| (q26 _ _ (by decide)).trans <| (q25 _ _ (by decide)).trans <| (q24 _ _ (by decide)).trans <| (q23 _ _ (by decide)).trans <| (q22 _ _ (by decide)).trans <| (q21 _ _ (by decide)).trans <| (q20 _ _ (by decide) (by decide) (by decide) (by decide)).trans <| (q19 _ _ (by decide)).trans <| (q18 _ _ (by decide)).trans <| (q17 _ _ (by decide)).trans <| (q16 _ _ (by decide)).trans <| (q15 _ _ (by decide)).trans <| (q14 _ _ (by decide)).trans <| (q13 _ _ (by decide)).trans <| (q12 _ _ (by decide)).trans <| (q11 _ _ (by decide)).trans <| v10_17_0,
    (q27 _ _ (by decide)).trans <| (q26 _ _ (by decide)).trans <| (q25 _ _ (by decide)).trans <| (q24 _ _ (by decide)).trans <| (q23 _ _ (by decide)).trans <| (q22 _ _ (by decide)).trans <| (q21 _ _ (by decide)).trans <| (q20 _ _ (by decide) (by decide) (by decide) (by decide)).trans <| (q19 _ _ (by decide)).trans <| (q18 _ _ (by decide)).trans <| (q17 _ _ (by decide)).trans <| (q16 _ _ (by decide)).trans <| (q15 _ _ (by decide)).trans <| (q14 _ _ (by decide)).trans <| (q13 _ _ (by decide)).trans <| (q12 _ _ (by decide)).trans <| v11_17_1,
    (q27 _ _ (by decide)).trans <| (q26 _ _ (by decide)).trans <| (q25 _ _ (by decide)).trans <| (q24 _ _ (by decide)).trans <| (q23 _ _ (by decide)).trans <| (q22 _ _ (by decide)).trans <| (q21 _ _ (by decide)).trans <| (q20 _ _ (by decide) (by decide) (by decide) (by decide)).trans <| (q19 _ _ (by decide)).trans <| (q18 _ _ (by decide)).trans <| (q17 _ _ (by decide)).trans <| (q16 _ _ (by decide)).trans <| (q15 _ _ (by decide)).trans <| (q14 _ _ (by decide)).trans <| (q13 _ _ (by decide)).trans <| v12_30_0,
    (q27 _ _ (by decide)).trans <| (q26 _ _ (by decide)).trans <| (q25 _ _ (by decide)).trans <| (q24 _ _ (by decide)).trans <| (q23 _ _ (by decide)).trans <| (q22 _ _ (by decide)).trans <| (q21 _ _ (by decide)).trans <| (q20 _ _ (by decide) (by decide) (by decide) (by decide)).trans <| (q19 _ _ (by decide)).trans <| (q18 _ _ (by decide)).trans <| (q17 _ _ (by decide)).trans <| (q16 _ _ (by decide)).trans <| (q15 _ _ (by decide)).trans <| (q14 _ _ (by decide)).trans <| v13_6_6,
    (q27 _ _ (by decide)).trans <| (q26 _ _ (by decide)).trans <| (q25 _ _ (by decide)).trans <| (q24 _ _ (by decide)).trans <| (q23 _ _ (by decide)).trans <| (q22 _ _ (by decide)).trans <| (q21 _ _ (by decide)).trans <| (q20 _ _ (by decide) (by decide) (by decide) (by decide)).trans <| (q19 _ _ (by decide)).trans <| (q18 _ _ (by decide)).trans <| (q17 _ _ (by decide)).trans <| (q16 _ _ (by decide)).trans <| (q15 _ _ (by decide)).trans <| v14_6_7,
    (q27 _ _ (by decide)).trans <| (q26 _ _ (by decide)).trans <| (q25 _ _ (by decide)).trans <| (q24 _ _ (by decide)).trans <| (q23 _ _ (by decide)).trans <| (q22 _ _ (by decide)).trans <| (q21 _ _ (by decide)).trans <| (q20 _ _ (by decide) (by decide) (by decide) (by decide)).trans <| (q19 _ _ (by decide)).trans <| (q18 _ _ (by decide)).trans <| (q17 _ _ (by decide)).trans <| (q16 _ _ (by decide)).trans <| v15_45_0,
    (q27 _ _ (by decide)).trans <| (q26 _ _ (by decide)).trans <| (q25 _ _ (by decide)).trans <| (q24 _ _ (by decide)).trans <| (q23 _ _ (by decide)).trans <| (q22 _ _ (by decide)).trans <| (q21 _ _ (by decide)).trans <| (q20 _ _ (by decide) (by decide) (by decide) (by decide)).trans <| (q19 _ _ (by decide)).trans <| (q18 _ _ (by decide)).trans <| (q17 _ _ (by decide)).trans <| v16_45_1,
    (q27 _ _ (by decide)).trans <| (q26 _ _ (by decide)).trans <| (q25 _ _ (by decide)).trans <| (q24 _ _ (by decide)).trans <| (q23 _ _ (by decide)).trans <| (q22 _ _ (by decide)).trans <| (q21 _ _ (by decide)).trans <| (q20 _ _ (by decide) (by decide) (by decide) (by decide)).trans <| (q19 _ _ (by decide)).trans <| (q18 _ _ (by decide)).trans <| v17_45_2,
    (q27 _ _ (by decide)).trans <| (q26 _ _ (by decide)).trans <| (q25 _ _ (by decide)).trans <| (q24 _ _ (by decide)).trans <| (q23 _ _ (by decide)).trans <| (q22 _ _ (by decide)).trans <| (q21 _ _ (by decide)).trans <| (q20 _ _ (by decide) (by decide) (by decide) (by decide)).trans <| (q19 _ _ (by decide)).trans <| v18_45_3,
    (q27 _ _ (by decide)).trans <| (q26 _ _ (by decide)).trans <| (q25 _ _ (by decide)).trans <| (q24 _ _ (by decide)).trans <| (q23 _ _ (by decide)).trans <| (q22 _ _ (by decide)).trans <| (q21 _ _ (by decide)).trans <| (q20 _ _ (by decide) (by decide) (by decide) (by decide)).trans <| v19_45_4,
    (q27 _ _ (by decide)).trans <| (q26 _ _ (by decide)).trans <| (q25 _ _ (by decide)).trans <| (q24 _ _ (by decide)).trans <| (q23 _ _ (by decide)).trans <| (q22 _ _ (by decide)).trans <| (q21 _ _ (by decide)).trans <| v20_53_0,
    (q27 _ _ (by decide)).trans <| (q26 _ _ (by decide)).trans <| (q25 _ _ (by decide)).trans <| (q24 _ _ (by decide)).trans <| (q23 _ _ (by decide)).trans <| (q22 _ _ (by decide)).trans <| (q21 _ _ (by decide)).trans <| v20_53_1,
    (q27 _ _ (by decide)).trans <| (q26 _ _ (by decide)).trans <| (q25 _ _ (by decide)).trans <| (q24 _ _ (by decide)).trans <| (q23 _ _ (by decide)).trans <| (q22 _ _ (by decide)).trans <| (q21 _ _ (by decide)).trans <| v20_53_2,
    (q27 _ _ (by decide)).trans <| (q26 _ _ (by decide)).trans <| (q25 _ _ (by decide)).trans <| (q24 _ _ (by decide)).trans <| (q23 _ _ (by decide)).trans <| (q22 _ _ (by decide)).trans <| (q21 _ _ (by decide)).trans <| v20_53_3,
    (q27 _ _ (by decide)).trans <| (q26 _ _ (by decide)).trans <| (q25 _ _ (by decide)).trans <| (q24 _ _ (by decide)).trans <| (q23 _ _ (by decide)).trans <| v22_54_0,
    (q27 _ _ (by decide)).trans <| (q26 _ _ (by decide)).trans <| (q25 _ _ (by decide)).trans <| (q24 _ _ (by decide)).trans <| v23_54_1,
    (q27 _ _ (by decide)).trans <| (q26 _ _ (by decide)).trans <| (q25 _ _ (by decide)).trans <| v24_67_0,
    (q27 _ _ (by decide)).trans <| (q26 _ _ (by decide)).trans <| v25_1_8,
    (q27 _ _ (by decide)).trans <| v26_79_4,
     v27_79_5,
    fun a i h0 h1 h2 h4 h6 h8 h12 h16 h17 h30 h45 h49 h53 h54 h67 h79 => (q27 _ _ (by omega)).trans <| (q26 _ _ (by omega)).trans <| (q25 _ _ (by omega)).trans <| (q24 _ _ (by omega)).trans <| (q23 _ _ (by omega)).trans <| (q22 _ _ (by omega)).trans <| (q21 _ _ (by omega)).trans <| (q20 _ _ (by omega) (by omega) (by omega) (by omega)).trans <| (q19 _ _ (by omega)).trans <| (q18 _ _ (by omega)).trans <| (q17 _ _ (by omega)).trans <| (q16 _ _ (by omega)).trans <| (q15 _ _ (by omega)).trans <| (q14 _ _ (by omega)).trans <| (q13 _ _ (by omega)).trans <| (q12 _ _ (by omega)).trans <| (q11 _ _ (by omega)).trans <| (q10 _ _ (by omega)).trans <| (q9 _ _ (by omega)).trans <| (q8 _ _ (by omega) (by omega) (by omega) (by omega)).trans <| (q7 _ _ (by omega)).trans <| (q6 _ _ (by omega)).trans <| (q5 _ _ (by omega)).trans <| (q4 _ _ (by omega)).trans <| (q3 _ _ (by omega)).trans <| (q2 _ _ (by omega)).trans <| (q1 _ _ (by omega)).trans <| hZ0 a i h0,
    fun i h8 => (q27 _ _ (by omega)).trans <| (q26 _ _ (by omega)).trans <| (q25 _ _ (by omega)).trans <| (q24 _ _ (by omega)).trans <| (q23 _ _ (by omega)).trans <| (q22 _ _ (by omega)).trans <| (q21 _ _ (by omega)).trans <| (q20 _ _ (by omega) (by omega) (by omega) (by omega)).trans <| (q19 _ _ (by omega)).trans <| (q18 _ _ (by omega)).trans <| (q17 _ _ (by omega)).trans <| (q16 _ _ (by omega)).trans <| (q15 _ _ (by omega)).trans <| (q14 _ _ (by omega)).trans <| (q13 _ _ (by omega)).trans <| (q12 _ _ (by omega)).trans <| (q11 _ _ (by omega)).trans <| (q10 _ _ (by omega)).trans <| (q9 _ _ (by omega)).trans <| (q8 _ _ (by omega) (by omega) (by omega) (by omega)).trans <| (q7 _ _ (by omega)).trans <| (q6 _ _ (by omega)).trans <| (q5 _ _ (by omega)).trans <| (q4 _ _ (by omega)).trans <| (q3 _ _ (by omega)).trans <| (q2 _ _ (by omega)).trans <| (q1 _ _ (by omega)).trans <| hZ0 1 i (by decide),
    fun i h1 => (q27 _ _ (by omega)).trans <| (q26 _ _ (by omega)).trans <| (q25 _ _ (by omega)).trans <| (q24 _ _ (by omega)).trans <| (q23 _ _ (by omega)).trans <| (q22 _ _ (by omega)).trans <| (q21 _ _ (by omega)).trans <| (q20 _ _ (by omega) (by omega) (by omega) (by omega)).trans <| (q19 _ _ (by omega)).trans <| (q18 _ _ (by omega)).trans <| (q17 _ _ (by omega)).trans <| (q16 _ _ (by omega)).trans <| (q15 _ _ (by omega)).trans <| (q14 _ _ (by omega)).trans <| (q13 _ _ (by omega)).trans <| (q12 _ _ (by omega)).trans <| (q11 _ _ (by omega)).trans <| (q10 _ _ (by omega)).trans <| (q9 _ _ (by omega)).trans <| (q8 _ _ (by omega) (by omega) (by omega) (by omega)).trans <| (q7 _ _ (by omega)).trans <| (q6 _ _ (by omega)).trans <| (q5 _ _ (by omega)).trans <| (q4 _ _ (by omega)).trans <| (q3 _ _ (by omega)).trans <| (q2 _ _ (by omega)).trans <| (q1 _ _ (by omega)).trans <| hZ0 2 i (by decide),
    fun i h1 => (q27 _ _ (by omega)).trans <| (q26 _ _ (by omega)).trans <| (q25 _ _ (by omega)).trans <| (q24 _ _ (by omega)).trans <| (q23 _ _ (by omega)).trans <| (q22 _ _ (by omega)).trans <| (q21 _ _ (by omega)).trans <| (q20 _ _ (by omega) (by omega) (by omega) (by omega)).trans <| (q19 _ _ (by omega)).trans <| (q18 _ _ (by omega)).trans <| (q17 _ _ (by omega)).trans <| (q16 _ _ (by omega)).trans <| (q15 _ _ (by omega)).trans <| (q14 _ _ (by omega)).trans <| (q13 _ _ (by omega)).trans <| (q12 _ _ (by omega)).trans <| (q11 _ _ (by omega)).trans <| (q10 _ _ (by omega)).trans <| (q9 _ _ (by omega)).trans <| (q8 _ _ (by omega) (by omega) (by omega) (by omega)).trans <| (q7 _ _ (by omega)).trans <| (q6 _ _ (by omega)).trans <| (q5 _ _ (by omega)).trans <| (q4 _ _ (by omega)).trans <| (q3 _ _ (by omega)).trans <| (q2 _ _ (by omega)).trans <| (q1 _ _ (by omega)).trans <| hZ0 4 i (by decide),
    fun i h6 h7 => (q27 _ _ (by omega)).trans <| (q26 _ _ (by omega)).trans <| (q25 _ _ (by omega)).trans <| (q24 _ _ (by omega)).trans <| (q23 _ _ (by omega)).trans <| (q22 _ _ (by omega)).trans <| (q21 _ _ (by omega)).trans <| (q20 _ _ (by omega) (by omega) (by omega) (by omega)).trans <| (q19 _ _ (by omega)).trans <| (q18 _ _ (by omega)).trans <| (q17 _ _ (by omega)).trans <| (q16 _ _ (by omega)).trans <| (q15 _ _ (by omega)).trans <| (q14 _ _ (by omega)).trans <| (q13 _ _ (by omega)).trans <| (q12 _ _ (by omega)).trans <| (q11 _ _ (by omega)).trans <| (q10 _ _ (by omega)).trans <| (q9 _ _ (by omega)).trans <| (q8 _ _ (by omega) (by omega) (by omega) (by omega)).trans <| (q7 _ _ (by omega)).trans <| (q6 _ _ (by omega)).trans <| (q5 _ _ (by omega)).trans <| (q4 _ _ (by omega)).trans <| (q3 _ _ (by omega)).trans <| (q2 _ _ (by omega)).trans <| (q1 _ _ (by omega)).trans <| hZ0 6 i (by decide),
    fun i h0 h1 h2 h3 h4 => (q27 _ _ (by omega)).trans <| (q26 _ _ (by omega)).trans <| (q25 _ _ (by omega)).trans <| (q24 _ _ (by omega)).trans <| (q23 _ _ (by omega)).trans <| (q22 _ _ (by omega)).trans <| (q21 _ _ (by omega)).trans <| (q20 _ _ (by omega) (by omega) (by omega) (by omega)).trans <| (q19 _ _ (by omega)).trans <| (q18 _ _ (by omega)).trans <| (q17 _ _ (by omega)).trans <| (q16 _ _ (by omega)).trans <| (q15 _ _ (by omega)).trans <| (q14 _ _ (by omega)).trans <| (q13 _ _ (by omega)).trans <| (q12 _ _ (by omega)).trans <| (q11 _ _ (by omega)).trans <| (q10 _ _ (by omega)).trans <| (q9 _ _ (by omega)).trans <| (q8 _ _ (by omega) (by omega) (by omega) (by omega)).trans <| (q7 _ _ (by omega)).trans <| (q6 _ _ (by omega)).trans <| (q5 _ _ (by omega)).trans <| (q4 _ _ (by omega)).trans <| (q3 _ _ (by omega)).trans <| (q2 _ _ (by omega)).trans <| (q1 _ _ (by omega)).trans <| hZ0 8 i (by decide),
    fun i h0 h1 h2 h3 => (q27 _ _ (by omega)).trans <| (q26 _ _ (by omega)).trans <| (q25 _ _ (by omega)).trans <| (q24 _ _ (by omega)).trans <| (q23 _ _ (by omega)).trans <| (q22 _ _ (by omega)).trans <| (q21 _ _ (by omega)).trans <| (q20 _ _ (by omega) (by omega) (by omega) (by omega)).trans <| (q19 _ _ (by omega)).trans <| (q18 _ _ (by omega)).trans <| (q17 _ _ (by omega)).trans <| (q16 _ _ (by omega)).trans <| (q15 _ _ (by omega)).trans <| (q14 _ _ (by omega)).trans <| (q13 _ _ (by omega)).trans <| (q12 _ _ (by omega)).trans <| (q11 _ _ (by omega)).trans <| (q10 _ _ (by omega)).trans <| (q9 _ _ (by omega)).trans <| (q8 _ _ (by omega) (by omega) (by omega) (by omega)).trans <| (q7 _ _ (by omega)).trans <| (q6 _ _ (by omega)).trans <| (q5 _ _ (by omega)).trans <| (q4 _ _ (by omega)).trans <| (q3 _ _ (by omega)).trans <| (q2 _ _ (by omega)).trans <| (q1 _ _ (by omega)).trans <| hZ0 16 i (by decide),
    fun i h0 h1 => (q27 _ _ (by omega)).trans <| (q26 _ _ (by omega)).trans <| (q25 _ _ (by omega)).trans <| (q24 _ _ (by omega)).trans <| (q23 _ _ (by omega)).trans <| (q22 _ _ (by omega)).trans <| (q21 _ _ (by omega)).trans <| (q20 _ _ (by omega) (by omega) (by omega) (by omega)).trans <| (q19 _ _ (by omega)).trans <| (q18 _ _ (by omega)).trans <| (q17 _ _ (by omega)).trans <| (q16 _ _ (by omega)).trans <| (q15 _ _ (by omega)).trans <| (q14 _ _ (by omega)).trans <| (q13 _ _ (by omega)).trans <| (q12 _ _ (by omega)).trans <| (q11 _ _ (by omega)).trans <| (q10 _ _ (by omega)).trans <| (q9 _ _ (by omega)).trans <| (q8 _ _ (by omega) (by omega) (by omega) (by omega)).trans <| (q7 _ _ (by omega)).trans <| (q6 _ _ (by omega)).trans <| (q5 _ _ (by omega)).trans <| (q4 _ _ (by omega)).trans <| (q3 _ _ (by omega)).trans <| (q2 _ _ (by omega)).trans <| (q1 _ _ (by omega)).trans <| hZ0 17 i (by decide),
    fun i h0 => (q27 _ _ (by omega)).trans <| (q26 _ _ (by omega)).trans <| (q25 _ _ (by omega)).trans <| (q24 _ _ (by omega)).trans <| (q23 _ _ (by omega)).trans <| (q22 _ _ (by omega)).trans <| (q21 _ _ (by omega)).trans <| (q20 _ _ (by omega) (by omega) (by omega) (by omega)).trans <| (q19 _ _ (by omega)).trans <| (q18 _ _ (by omega)).trans <| (q17 _ _ (by omega)).trans <| (q16 _ _ (by omega)).trans <| (q15 _ _ (by omega)).trans <| (q14 _ _ (by omega)).trans <| (q13 _ _ (by omega)).trans <| (q12 _ _ (by omega)).trans <| (q11 _ _ (by omega)).trans <| (q10 _ _ (by omega)).trans <| (q9 _ _ (by omega)).trans <| (q8 _ _ (by omega) (by omega) (by omega) (by omega)).trans <| (q7 _ _ (by omega)).trans <| (q6 _ _ (by omega)).trans <| (q5 _ _ (by omega)).trans <| (q4 _ _ (by omega)).trans <| (q3 _ _ (by omega)).trans <| (q2 _ _ (by omega)).trans <| (q1 _ _ (by omega)).trans <| hZ0 30 i (by decide),
    fun i h0 h1 h2 h3 h4 => (q27 _ _ (by omega)).trans <| (q26 _ _ (by omega)).trans <| (q25 _ _ (by omega)).trans <| (q24 _ _ (by omega)).trans <| (q23 _ _ (by omega)).trans <| (q22 _ _ (by omega)).trans <| (q21 _ _ (by omega)).trans <| (q20 _ _ (by omega) (by omega) (by omega) (by omega)).trans <| (q19 _ _ (by omega)).trans <| (q18 _ _ (by omega)).trans <| (q17 _ _ (by omega)).trans <| (q16 _ _ (by omega)).trans <| (q15 _ _ (by omega)).trans <| (q14 _ _ (by omega)).trans <| (q13 _ _ (by omega)).trans <| (q12 _ _ (by omega)).trans <| (q11 _ _ (by omega)).trans <| (q10 _ _ (by omega)).trans <| (q9 _ _ (by omega)).trans <| (q8 _ _ (by omega) (by omega) (by omega) (by omega)).trans <| (q7 _ _ (by omega)).trans <| (q6 _ _ (by omega)).trans <| (q5 _ _ (by omega)).trans <| (q4 _ _ (by omega)).trans <| (q3 _ _ (by omega)).trans <| (q2 _ _ (by omega)).trans <| (q1 _ _ (by omega)).trans <| hZ0 45 i (by decide),
    fun i h0 h1 h2 h3 => (q27 _ _ (by omega)).trans <| (q26 _ _ (by omega)).trans <| (q25 _ _ (by omega)).trans <| (q24 _ _ (by omega)).trans <| (q23 _ _ (by omega)).trans <| (q22 _ _ (by omega)).trans <| (q21 _ _ (by omega)).trans <| (q20 _ _ (by omega) (by omega) (by omega) (by omega)).trans <| (q19 _ _ (by omega)).trans <| (q18 _ _ (by omega)).trans <| (q17 _ _ (by omega)).trans <| (q16 _ _ (by omega)).trans <| (q15 _ _ (by omega)).trans <| (q14 _ _ (by omega)).trans <| (q13 _ _ (by omega)).trans <| (q12 _ _ (by omega)).trans <| (q11 _ _ (by omega)).trans <| (q10 _ _ (by omega)).trans <| (q9 _ _ (by omega)).trans <| (q8 _ _ (by omega) (by omega) (by omega) (by omega)).trans <| (q7 _ _ (by omega)).trans <| (q6 _ _ (by omega)).trans <| (q5 _ _ (by omega)).trans <| (q4 _ _ (by omega)).trans <| (q3 _ _ (by omega)).trans <| (q2 _ _ (by omega)).trans <| (q1 _ _ (by omega)).trans <| hZ0 53 i (by decide),
    fun i h0 h1 => (q27 _ _ (by omega)).trans <| (q26 _ _ (by omega)).trans <| (q25 _ _ (by omega)).trans <| (q24 _ _ (by omega)).trans <| (q23 _ _ (by omega)).trans <| (q22 _ _ (by omega)).trans <| (q21 _ _ (by omega)).trans <| (q20 _ _ (by omega) (by omega) (by omega) (by omega)).trans <| (q19 _ _ (by omega)).trans <| (q18 _ _ (by omega)).trans <| (q17 _ _ (by omega)).trans <| (q16 _ _ (by omega)).trans <| (q15 _ _ (by omega)).trans <| (q14 _ _ (by omega)).trans <| (q13 _ _ (by omega)).trans <| (q12 _ _ (by omega)).trans <| (q11 _ _ (by omega)).trans <| (q10 _ _ (by omega)).trans <| (q9 _ _ (by omega)).trans <| (q8 _ _ (by omega) (by omega) (by omega) (by omega)).trans <| (q7 _ _ (by omega)).trans <| (q6 _ _ (by omega)).trans <| (q5 _ _ (by omega)).trans <| (q4 _ _ (by omega)).trans <| (q3 _ _ (by omega)).trans <| (q2 _ _ (by omega)).trans <| (q1 _ _ (by omega)).trans <| hZ0 54 i (by decide),
    fun i h0 => (q27 _ _ (by omega)).trans <| (q26 _ _ (by omega)).trans <| (q25 _ _ (by omega)).trans <| (q24 _ _ (by omega)).trans <| (q23 _ _ (by omega)).trans <| (q22 _ _ (by omega)).trans <| (q21 _ _ (by omega)).trans <| (q20 _ _ (by omega) (by omega) (by omega) (by omega)).trans <| (q19 _ _ (by omega)).trans <| (q18 _ _ (by omega)).trans <| (q17 _ _ (by omega)).trans <| (q16 _ _ (by omega)).trans <| (q15 _ _ (by omega)).trans <| (q14 _ _ (by omega)).trans <| (q13 _ _ (by omega)).trans <| (q12 _ _ (by omega)).trans <| (q11 _ _ (by omega)).trans <| (q10 _ _ (by omega)).trans <| (q9 _ _ (by omega)).trans <| (q8 _ _ (by omega) (by omega) (by omega) (by omega)).trans <| (q7 _ _ (by omega)).trans <| (q6 _ _ (by omega)).trans <| (q5 _ _ (by omega)).trans <| (q4 _ _ (by omega)).trans <| (q3 _ _ (by omega)).trans <| (q2 _ _ (by omega)).trans <| (q1 _ _ (by omega)).trans <| hZ0 67 i (by decide),
    fun i h4 h5 => (q27 _ _ (by omega)).trans <| (q26 _ _ (by omega)).trans <| (q25 _ _ (by omega)).trans <| (q24 _ _ (by omega)).trans <| (q23 _ _ (by omega)).trans <| (q22 _ _ (by omega)).trans <| (q21 _ _ (by omega)).trans <| (q20 _ _ (by omega) (by omega) (by omega) (by omega)).trans <| (q19 _ _ (by omega)).trans <| (q18 _ _ (by omega)).trans <| (q17 _ _ (by omega)).trans <| (q16 _ _ (by omega)).trans <| (q15 _ _ (by omega)).trans <| (q14 _ _ (by omega)).trans <| (q13 _ _ (by omega)).trans <| (q12 _ _ (by omega)).trans <| (q11 _ _ (by omega)).trans <| (q10 _ _ (by omega)).trans <| (q9 _ _ (by omega)).trans <| (q8 _ _ (by omega) (by omega) (by omega) (by omega)).trans <| (q7 _ _ (by omega)).trans <| (q6 _ _ (by omega)).trans <| (q5 _ _ (by omega)).trans <| (q4 _ _ (by omega)).trans <| (q3 _ _ (by omega)).trans <| (q2 _ _ (by omega)).trans <| (q1 _ _ (by omega)).trans <| hZ0 79 i (by decide)⟩
end CU
