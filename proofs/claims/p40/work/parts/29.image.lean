/-! THE CLASS's IMAGES -/
def mv_cps (X : mv_Mem) : List (Nat × Nat × Nat) → mv_Mem
  | [] => X
  | q :: r => mv_cps (mv_cp X q.1 0 q.2.1 0 q.2.2) r
theorem mv_cps_n {c i : Nat} : ∀ (L : List (Nat × Nat × Nat)) (X : mv_Mem), c ∉ L.map (fun q => q.2.1) → mv_cps X L c i = X c i
  | [], _, _ => rfl
  | q :: r, X, h => by
    rw [List.map_cons, List.mem_cons, not_or] at h
    exact (mv_cps_n r _ h.2).trans (mv_cp_n h.1)
theorem mv_cps_y {i : Nat} : ∀ (L : List (Nat × Nat × Nat)) (X : mv_Mem), (L.map (fun q => q.2.1)).Nodup → (∀ q, q ∈ L → q.1 ∉ L.map (fun q => q.2.1)) → ∀ q, q ∈ L → i < q.2.2 → mv_cps X L q.2.1 i = X q.1 i
  | [], _, _, _, q, h, _ => by cases h
  | p :: r, X, h1, h2, q, h, hi => by
    rw [List.map_cons, List.nodup_cons] at h1
    rcases List.mem_cons.1 h with z | z
    · subst z
      refine (mv_cps_n r _ h1.1).trans ?_
      show mv_cp X q.1 0 q.2.1 0 q.2.2 q.2.1 i = X q.1 i
      unfold mv_cp
      rw [if_pos ⟨rfl, Nat.zero_le _, by omega⟩, Nat.sub_zero, Nat.zero_add]
    · refine (mv_cps_y r _ h1.2 (fun q' hq' hm => h2 q' (List.mem_cons_of_mem _ hq') (by rw [List.map_cons]; exact List.mem_cons_of_mem _ hm)) q z hi).trans (mv_cp_n (fun e => h2 q h (by rw [List.map_cons, e]; exact List.mem_cons_self ..)))
/-- the cells of a world and how much of them counts -/
def sg_Ll : List (Nat × Nat) := [(8, 5), (9, 48), (10, 48), (11, 48), (12, 48), (13, 48), (14, 192), (15, 3), (16, 4)]
def sg_Lu : List (Nat × Nat) := [(17, 2), (18, 6), (19, 6), (20, 6), (21, 6), (22, 6), (23, 6), (24, 6), (25, 6), (26, 18), (27, 18), (28, 108), (29, 108)]
def sg_Lp : List (Nat × Nat) := [(30, 1), (31, 8), (32, 8), (33, 8), (34, 8)]
def sg_cq (L : List (Nat × Nat)) (o o' : Nat) (M M' : mv_Mem) : Prop := ∀ q, q ∈ L → ∀ i, i < q.2 → M' (q.1 + o') i = M (q.1 + o) i
theorem sg_cq_m {L : List (Nat × Nat)} {o o' : Nat} {M M' : mv_Mem} (h : sg_cq L o o' M M') (c n : Nat) (hm : (c, n) ∈ L) {i : Nat} (hi : i < n) : M' (c + o') i = M (c + o) i := h (c, n) hm i hi
section IM
variable {S : mv_Mem} {G : mv_G} {l : Nat} {M : mv_Mem}
theorem sg_C_cp {o o' : Nat} {M' : mv_Mem} (hw : sg_wf S) (hC : sg_C o S M) (hl : sg_cq sg_Ll o o' M M') (hu : sg_cq sg_Lu o o' M M') (hp : sg_cq sg_Lp o o' M M') : sg_C o' S M' := by
  have hm3 := hw.1.2.2.1
  have hp8 := hw.1.2.2.2.2.2.1
  refine ⟨⟨?_, ?_, ?_, ?_, ?_⟩, fun k hk => ?_, fun m hm => ?_, fun i hi => ?_, ⟨?_, ?_⟩, fun i hi => ?_, fun i hi => ?_, fun i hi => ?_, ?_, fun p hpp => ?_⟩
  · exact (sg_cq_m hl 8 5 (by decide) (by decide)).trans hC.1.1
  · exact (sg_cq_m hl 8 5 (by decide) (by decide)).trans hC.1.2.1
  · exact (sg_cq_m hl 8 5 (by decide) (by decide)).trans hC.1.2.2.1
  · exact (sg_cq_m hl 8 5 (by decide) (by decide)).trans hC.1.2.2.2.1
  · exact (sg_cq_m hl 8 5 (by decide) (by decide)).trans hC.1.2.2.2.2
  · have h48 := (sg_pl_lt hw hk).2
    obtain ⟨q1, q2, q3, q4, q5, q6⟩ := hC.2.1 k hk
    exact ⟨(sg_cq_m hl 9 48 (by decide) h48).trans q1, (sg_cq_m hl 10 48 (by decide) h48).trans q2, (sg_cq_m hl 11 48 (by decide) h48).trans q3, (sg_cq_m hl 12 48 (by decide) h48).trans q4, (sg_cq_m hl 13 48 (by decide) h48).trans q5, fun d hd => (sg_cq_m hl 14 192 (by decide) (by omega)).trans (q6 d hd)⟩
  · exact (sg_cq_m hl 15 3 (by decide) (by omega)).trans (hC.2.2.1 m hm)
  · exact (sg_cq_m hl 16 4 (by decide) hi).trans (hC.2.2.2.1 i hi)
  · exact (sg_cq_m hu 17 2 (by decide) (by decide)).trans hC.2.2.2.2.1.1
  · exact (sg_cq_m hu 17 2 (by decide) (by decide)).trans hC.2.2.2.2.1.2
  · obtain ⟨q1, q2, q3, q4, q5, q6, q7, q8⟩ := hC.2.2.2.2.2.1 i hi
    exact ⟨(sg_cq_m hu 18 6 (by decide) hi).trans q1, (sg_cq_m hu 19 6 (by decide) hi).trans q2, (sg_cq_m hu 20 6 (by decide) hi).trans q3, (sg_cq_m hu 21 6 (by decide) hi).trans q4, (sg_cq_m hu 22 6 (by decide) hi).trans q5, (sg_cq_m hu 23 6 (by decide) hi).trans q6, (sg_cq_m hu 24 6 (by decide) hi).trans q7, (sg_cq_m hu 25 6 (by decide) hi).trans q8⟩
  · obtain ⟨q1, q2⟩ := hC.2.2.2.2.2.2.1 i hi
    exact ⟨(sg_cq_m hu 26 18 (by decide) hi).trans q1, (sg_cq_m hu 27 18 (by decide) hi).trans q2⟩
  · obtain ⟨q1, q2⟩ := hC.2.2.2.2.2.2.2.1 i hi
    exact ⟨(sg_cq_m hu 28 108 (by decide) hi).trans q1, (sg_cq_m hu 29 108 (by decide) hi).trans q2⟩
  · exact (sg_cq_m hp 30 1 (by decide) (by decide)).trans hC.2.2.2.2.2.2.2.2.1
  · obtain ⟨q1, q2, q3, q4⟩ := hC.2.2.2.2.2.2.2.2.2 p hpp
    have h8 : p < 8 := by omega
    exact ⟨(sg_cq_m hp 31 8 (by decide) h8).trans q1, (sg_cq_m hp 32 8 (by decide) h8).trans q2, (sg_cq_m hp 33 8 (by decide) h8).trans q3, (sg_cq_m hp 34 8 (by decide) h8).trans q4⟩
theorem cl_landTake_i {F : mv_Mem → Prop} (h : ∀ M', (∀ a i, ¬ (45 ≤ a ∧ a ≤ 53) → M' a i = M a i) → sg_cq sg_Ll 0 37 M M' → F M') : mv_Wp G 3 [.inr (.inr 45), .inr (.inr 8)] (mh l) M (mv_qv (mh l) F) := by
  have key : F (mv_cps (mv_up (mv_up (mv_up (mv_up (mv_up M 45 0 (M 8 0)) 45 1 ((mv_up M 45 0 (M 8 0)) 8 1)) 45 2 ((mv_up (mv_up M 45 0 (M 8 0)) 45 1 ((mv_up M 45 0 (M 8 0)) 8 1)) 8 2)) 45 3 ((mv_up (mv_up (mv_up M 45 0 (M 8 0)) 45 1 ((mv_up M 45 0 (M 8 0)) 8 1)) 45 2 ((mv_up (mv_up M 45 0 (M 8 0)) 45 1 ((mv_up M 45 0 (M 8 0)) 8 1)) 8 2)) 8 3)) 45 4 ((mv_up (mv_up (mv_up (mv_up M 45 0 (M 8 0)) 45 1 ((mv_up M 45 0 (M 8 0)) 8 1)) 45 2 ((mv_up (mv_up M 45 0 (M 8 0)) 45 1 ((mv_up M 45 0 (M 8 0)) 8 1)) 8 2)) 45 3 ((mv_up (mv_up (mv_up M 45 0 (M 8 0)) 45 1 ((mv_up M 45 0 (M 8 0)) 8 1)) 45 2 ((mv_up (mv_up M 45 0 (M 8 0)) 45 1 ((mv_up M 45 0 (M 8 0)) 8 1)) 8 2)) 8 3)) 8 4)) [(9, 46, 48), (10, 47, 48), (11, 48, 48), (12, 49, 48), (13, 50, 48), (14, 51, 192), (15, 52, 3), (16, 53, 4)]) := by
    refine h _ (fun a i ha => ?_) (fun q hq i hi => ?_)
    · refine (mv_cps_n _ _ (fun hm => ?_)).trans ?_
      · simp only [List.map_cons, List.map_nil, List.mem_cons, List.not_mem_nil, or_false] at hm
        omega
      · rw [mv_up_c (show a ≠ 45 by omega), mv_up_c (show a ≠ 45 by omega), mv_up_c (show a ≠ 45 by omega), mv_up_c (show a ≠ 45 by omega), mv_up_c (show a ≠ 45 by omega)]
    · simp only [sg_Ll, List.mem_cons, List.not_mem_nil, or_false] at hq
      rcases hq with rfl | rfl | rfl | rfl | rfl | rfl | rfl | rfl | rfl
      · refine (mv_cps_n _ _ (by decide)).trans ?_
        have hi2 : i < 5 := hi
        show (mv_up (mv_up (mv_up (mv_up (mv_up M 45 0 (M 8 0)) 45 1 ((mv_up M 45 0 (M 8 0)) 8 1)) 45 2 ((mv_up (mv_up M 45 0 (M 8 0)) 45 1 ((mv_up M 45 0 (M 8 0)) 8 1)) 8 2)) 45 3 ((mv_up (mv_up (mv_up M 45 0 (M 8 0)) 45 1 ((mv_up M 45 0 (M 8 0)) 8 1)) 45 2 ((mv_up (mv_up M 45 0 (M 8 0)) 45 1 ((mv_up M 45 0 (M 8 0)) 8 1)) 8 2)) 8 3)) 45 4 ((mv_up (mv_up (mv_up (mv_up M 45 0 (M 8 0)) 45 1 ((mv_up M 45 0 (M 8 0)) 8 1)) 45 2 ((mv_up (mv_up M 45 0 (M 8 0)) 45 1 ((mv_up M 45 0 (M 8 0)) 8 1)) 8 2)) 45 3 ((mv_up (mv_up (mv_up M 45 0 (M 8 0)) 45 1 ((mv_up M 45 0 (M 8 0)) 8 1)) 45 2 ((mv_up (mv_up M 45 0 (M 8 0)) 45 1 ((mv_up M 45 0 (M 8 0)) 8 1)) 8 2)) 8 3)) 8 4)) 45 i = M 8 i
        rcases (show i = 0 ∨ i = 1 ∨ i = 2 ∨ i = 3 ∨ i = 4 by omega) with rfl | rfl | rfl | rfl | rfl
        · rw [mv_up_j (by decide), mv_up_j (by decide), mv_up_j (by decide), mv_up_j (by decide), mv_up_s]
        · rw [mv_up_j (by decide), mv_up_j (by decide), mv_up_j (by decide), mv_up_s, mv_up_c (by decide)]
        · rw [mv_up_j (by decide), mv_up_j (by decide), mv_up_s, mv_up_c (by decide), mv_up_c (by decide)]
        · rw [mv_up_j (by decide), mv_up_s, mv_up_c (by decide), mv_up_c (by decide), mv_up_c (by decide)]
        · rw [mv_up_s, mv_up_c (by decide), mv_up_c (by decide), mv_up_c (by decide), mv_up_c (by decide)]
      · refine (mv_cps_y _ _ (by decide) (by decide) (9, 46, 48) (by decide) hi).trans ?_
        show (mv_up (mv_up (mv_up (mv_up (mv_up M 45 0 (M 8 0)) 45 1 ((mv_up M 45 0 (M 8 0)) 8 1)) 45 2 ((mv_up (mv_up M 45 0 (M 8 0)) 45 1 ((mv_up M 45 0 (M 8 0)) 8 1)) 8 2)) 45 3 ((mv_up (mv_up (mv_up M 45 0 (M 8 0)) 45 1 ((mv_up M 45 0 (M 8 0)) 8 1)) 45 2 ((mv_up (mv_up M 45 0 (M 8 0)) 45 1 ((mv_up M 45 0 (M 8 0)) 8 1)) 8 2)) 8 3)) 45 4 ((mv_up (mv_up (mv_up (mv_up M 45 0 (M 8 0)) 45 1 ((mv_up M 45 0 (M 8 0)) 8 1)) 45 2 ((mv_up (mv_up M 45 0 (M 8 0)) 45 1 ((mv_up M 45 0 (M 8 0)) 8 1)) 8 2)) 45 3 ((mv_up (mv_up (mv_up M 45 0 (M 8 0)) 45 1 ((mv_up M 45 0 (M 8 0)) 8 1)) 45 2 ((mv_up (mv_up M 45 0 (M 8 0)) 45 1 ((mv_up M 45 0 (M 8 0)) 8 1)) 8 2)) 8 3)) 8 4)) 9 i = M 9 i
        rw [mv_up_c (by decide), mv_up_c (by decide), mv_up_c (by decide), mv_up_c (by decide), mv_up_c (by decide)]
      · refine (mv_cps_y _ _ (by decide) (by decide) (10, 47, 48) (by decide) hi).trans ?_
        show (mv_up (mv_up (mv_up (mv_up (mv_up M 45 0 (M 8 0)) 45 1 ((mv_up M 45 0 (M 8 0)) 8 1)) 45 2 ((mv_up (mv_up M 45 0 (M 8 0)) 45 1 ((mv_up M 45 0 (M 8 0)) 8 1)) 8 2)) 45 3 ((mv_up (mv_up (mv_up M 45 0 (M 8 0)) 45 1 ((mv_up M 45 0 (M 8 0)) 8 1)) 45 2 ((mv_up (mv_up M 45 0 (M 8 0)) 45 1 ((mv_up M 45 0 (M 8 0)) 8 1)) 8 2)) 8 3)) 45 4 ((mv_up (mv_up (mv_up (mv_up M 45 0 (M 8 0)) 45 1 ((mv_up M 45 0 (M 8 0)) 8 1)) 45 2 ((mv_up (mv_up M 45 0 (M 8 0)) 45 1 ((mv_up M 45 0 (M 8 0)) 8 1)) 8 2)) 45 3 ((mv_up (mv_up (mv_up M 45 0 (M 8 0)) 45 1 ((mv_up M 45 0 (M 8 0)) 8 1)) 45 2 ((mv_up (mv_up M 45 0 (M 8 0)) 45 1 ((mv_up M 45 0 (M 8 0)) 8 1)) 8 2)) 8 3)) 8 4)) 10 i = M 10 i
        rw [mv_up_c (by decide), mv_up_c (by decide), mv_up_c (by decide), mv_up_c (by decide), mv_up_c (by decide)]
      · refine (mv_cps_y _ _ (by decide) (by decide) (11, 48, 48) (by decide) hi).trans ?_
        show (mv_up (mv_up (mv_up (mv_up (mv_up M 45 0 (M 8 0)) 45 1 ((mv_up M 45 0 (M 8 0)) 8 1)) 45 2 ((mv_up (mv_up M 45 0 (M 8 0)) 45 1 ((mv_up M 45 0 (M 8 0)) 8 1)) 8 2)) 45 3 ((mv_up (mv_up (mv_up M 45 0 (M 8 0)) 45 1 ((mv_up M 45 0 (M 8 0)) 8 1)) 45 2 ((mv_up (mv_up M 45 0 (M 8 0)) 45 1 ((mv_up M 45 0 (M 8 0)) 8 1)) 8 2)) 8 3)) 45 4 ((mv_up (mv_up (mv_up (mv_up M 45 0 (M 8 0)) 45 1 ((mv_up M 45 0 (M 8 0)) 8 1)) 45 2 ((mv_up (mv_up M 45 0 (M 8 0)) 45 1 ((mv_up M 45 0 (M 8 0)) 8 1)) 8 2)) 45 3 ((mv_up (mv_up (mv_up M 45 0 (M 8 0)) 45 1 ((mv_up M 45 0 (M 8 0)) 8 1)) 45 2 ((mv_up (mv_up M 45 0 (M 8 0)) 45 1 ((mv_up M 45 0 (M 8 0)) 8 1)) 8 2)) 8 3)) 8 4)) 11 i = M 11 i
        rw [mv_up_c (by decide), mv_up_c (by decide), mv_up_c (by decide), mv_up_c (by decide), mv_up_c (by decide)]
      · refine (mv_cps_y _ _ (by decide) (by decide) (12, 49, 48) (by decide) hi).trans ?_
        show (mv_up (mv_up (mv_up (mv_up (mv_up M 45 0 (M 8 0)) 45 1 ((mv_up M 45 0 (M 8 0)) 8 1)) 45 2 ((mv_up (mv_up M 45 0 (M 8 0)) 45 1 ((mv_up M 45 0 (M 8 0)) 8 1)) 8 2)) 45 3 ((mv_up (mv_up (mv_up M 45 0 (M 8 0)) 45 1 ((mv_up M 45 0 (M 8 0)) 8 1)) 45 2 ((mv_up (mv_up M 45 0 (M 8 0)) 45 1 ((mv_up M 45 0 (M 8 0)) 8 1)) 8 2)) 8 3)) 45 4 ((mv_up (mv_up (mv_up (mv_up M 45 0 (M 8 0)) 45 1 ((mv_up M 45 0 (M 8 0)) 8 1)) 45 2 ((mv_up (mv_up M 45 0 (M 8 0)) 45 1 ((mv_up M 45 0 (M 8 0)) 8 1)) 8 2)) 45 3 ((mv_up (mv_up (mv_up M 45 0 (M 8 0)) 45 1 ((mv_up M 45 0 (M 8 0)) 8 1)) 45 2 ((mv_up (mv_up M 45 0 (M 8 0)) 45 1 ((mv_up M 45 0 (M 8 0)) 8 1)) 8 2)) 8 3)) 8 4)) 12 i = M 12 i
        rw [mv_up_c (by decide), mv_up_c (by decide), mv_up_c (by decide), mv_up_c (by decide), mv_up_c (by decide)]
      · refine (mv_cps_y _ _ (by decide) (by decide) (13, 50, 48) (by decide) hi).trans ?_
        show (mv_up (mv_up (mv_up (mv_up (mv_up M 45 0 (M 8 0)) 45 1 ((mv_up M 45 0 (M 8 0)) 8 1)) 45 2 ((mv_up (mv_up M 45 0 (M 8 0)) 45 1 ((mv_up M 45 0 (M 8 0)) 8 1)) 8 2)) 45 3 ((mv_up (mv_up (mv_up M 45 0 (M 8 0)) 45 1 ((mv_up M 45 0 (M 8 0)) 8 1)) 45 2 ((mv_up (mv_up M 45 0 (M 8 0)) 45 1 ((mv_up M 45 0 (M 8 0)) 8 1)) 8 2)) 8 3)) 45 4 ((mv_up (mv_up (mv_up (mv_up M 45 0 (M 8 0)) 45 1 ((mv_up M 45 0 (M 8 0)) 8 1)) 45 2 ((mv_up (mv_up M 45 0 (M 8 0)) 45 1 ((mv_up M 45 0 (M 8 0)) 8 1)) 8 2)) 45 3 ((mv_up (mv_up (mv_up M 45 0 (M 8 0)) 45 1 ((mv_up M 45 0 (M 8 0)) 8 1)) 45 2 ((mv_up (mv_up M 45 0 (M 8 0)) 45 1 ((mv_up M 45 0 (M 8 0)) 8 1)) 8 2)) 8 3)) 8 4)) 13 i = M 13 i
        rw [mv_up_c (by decide), mv_up_c (by decide), mv_up_c (by decide), mv_up_c (by decide), mv_up_c (by decide)]
      · refine (mv_cps_y _ _ (by decide) (by decide) (14, 51, 192) (by decide) hi).trans ?_
        show (mv_up (mv_up (mv_up (mv_up (mv_up M 45 0 (M 8 0)) 45 1 ((mv_up M 45 0 (M 8 0)) 8 1)) 45 2 ((mv_up (mv_up M 45 0 (M 8 0)) 45 1 ((mv_up M 45 0 (M 8 0)) 8 1)) 8 2)) 45 3 ((mv_up (mv_up (mv_up M 45 0 (M 8 0)) 45 1 ((mv_up M 45 0 (M 8 0)) 8 1)) 45 2 ((mv_up (mv_up M 45 0 (M 8 0)) 45 1 ((mv_up M 45 0 (M 8 0)) 8 1)) 8 2)) 8 3)) 45 4 ((mv_up (mv_up (mv_up (mv_up M 45 0 (M 8 0)) 45 1 ((mv_up M 45 0 (M 8 0)) 8 1)) 45 2 ((mv_up (mv_up M 45 0 (M 8 0)) 45 1 ((mv_up M 45 0 (M 8 0)) 8 1)) 8 2)) 45 3 ((mv_up (mv_up (mv_up M 45 0 (M 8 0)) 45 1 ((mv_up M 45 0 (M 8 0)) 8 1)) 45 2 ((mv_up (mv_up M 45 0 (M 8 0)) 45 1 ((mv_up M 45 0 (M 8 0)) 8 1)) 8 2)) 8 3)) 8 4)) 14 i = M 14 i
        rw [mv_up_c (by decide), mv_up_c (by decide), mv_up_c (by decide), mv_up_c (by decide), mv_up_c (by decide)]
      · refine (mv_cps_y _ _ (by decide) (by decide) (15, 52, 3) (by decide) hi).trans ?_
        show (mv_up (mv_up (mv_up (mv_up (mv_up M 45 0 (M 8 0)) 45 1 ((mv_up M 45 0 (M 8 0)) 8 1)) 45 2 ((mv_up (mv_up M 45 0 (M 8 0)) 45 1 ((mv_up M 45 0 (M 8 0)) 8 1)) 8 2)) 45 3 ((mv_up (mv_up (mv_up M 45 0 (M 8 0)) 45 1 ((mv_up M 45 0 (M 8 0)) 8 1)) 45 2 ((mv_up (mv_up M 45 0 (M 8 0)) 45 1 ((mv_up M 45 0 (M 8 0)) 8 1)) 8 2)) 8 3)) 45 4 ((mv_up (mv_up (mv_up (mv_up M 45 0 (M 8 0)) 45 1 ((mv_up M 45 0 (M 8 0)) 8 1)) 45 2 ((mv_up (mv_up M 45 0 (M 8 0)) 45 1 ((mv_up M 45 0 (M 8 0)) 8 1)) 8 2)) 45 3 ((mv_up (mv_up (mv_up M 45 0 (M 8 0)) 45 1 ((mv_up M 45 0 (M 8 0)) 8 1)) 45 2 ((mv_up (mv_up M 45 0 (M 8 0)) 45 1 ((mv_up M 45 0 (M 8 0)) 8 1)) 8 2)) 8 3)) 8 4)) 15 i = M 15 i
        rw [mv_up_c (by decide), mv_up_c (by decide), mv_up_c (by decide), mv_up_c (by decide), mv_up_c (by decide)]
      · refine (mv_cps_y _ _ (by decide) (by decide) (16, 53, 4) (by decide) hi).trans ?_
        show (mv_up (mv_up (mv_up (mv_up (mv_up M 45 0 (M 8 0)) 45 1 ((mv_up M 45 0 (M 8 0)) 8 1)) 45 2 ((mv_up (mv_up M 45 0 (M 8 0)) 45 1 ((mv_up M 45 0 (M 8 0)) 8 1)) 8 2)) 45 3 ((mv_up (mv_up (mv_up M 45 0 (M 8 0)) 45 1 ((mv_up M 45 0 (M 8 0)) 8 1)) 45 2 ((mv_up (mv_up M 45 0 (M 8 0)) 45 1 ((mv_up M 45 0 (M 8 0)) 8 1)) 8 2)) 8 3)) 45 4 ((mv_up (mv_up (mv_up (mv_up M 45 0 (M 8 0)) 45 1 ((mv_up M 45 0 (M 8 0)) 8 1)) 45 2 ((mv_up (mv_up M 45 0 (M 8 0)) 45 1 ((mv_up M 45 0 (M 8 0)) 8 1)) 8 2)) 45 3 ((mv_up (mv_up (mv_up M 45 0 (M 8 0)) 45 1 ((mv_up M 45 0 (M 8 0)) 8 1)) 45 2 ((mv_up (mv_up M 45 0 (M 8 0)) 45 1 ((mv_up M 45 0 (M 8 0)) 8 1)) 8 2)) 8 3)) 8 4)) 16 i = M 16 i
        rw [mv_up_c (by decide), mv_up_c (by decide), mv_up_c (by decide), mv_up_c (by decide), mv_up_c (by decide)]
  refine vw_X0_takeFrom_i ?_
  exact ⟨by decide, by decide, by decide, by decide, by decide, by decide, by decide, by decide, mv_qv_i key⟩
theorem cl_landTake_o {F : mv_Mem → Prop} (h : ∀ M', (∀ a i, ¬ (8 ≤ a ∧ a ≤ 16) → M' a i = M a i) → sg_cq sg_Ll 37 0 M M' → F M') : mv_Wp G 3 [.inr (.inr 8), .inr (.inr 45)] (mh l) M (mv_qv (mh l) F) := by
  have key : F (mv_cps (mv_up (mv_up (mv_up (mv_up (mv_up M 8 0 (M 45 0)) 8 1 ((mv_up M 8 0 (M 45 0)) 45 1)) 8 2 ((mv_up (mv_up M 8 0 (M 45 0)) 8 1 ((mv_up M 8 0 (M 45 0)) 45 1)) 45 2)) 8 3 ((mv_up (mv_up (mv_up M 8 0 (M 45 0)) 8 1 ((mv_up M 8 0 (M 45 0)) 45 1)) 8 2 ((mv_up (mv_up M 8 0 (M 45 0)) 8 1 ((mv_up M 8 0 (M 45 0)) 45 1)) 45 2)) 45 3)) 8 4 ((mv_up (mv_up (mv_up (mv_up M 8 0 (M 45 0)) 8 1 ((mv_up M 8 0 (M 45 0)) 45 1)) 8 2 ((mv_up (mv_up M 8 0 (M 45 0)) 8 1 ((mv_up M 8 0 (M 45 0)) 45 1)) 45 2)) 8 3 ((mv_up (mv_up (mv_up M 8 0 (M 45 0)) 8 1 ((mv_up M 8 0 (M 45 0)) 45 1)) 8 2 ((mv_up (mv_up M 8 0 (M 45 0)) 8 1 ((mv_up M 8 0 (M 45 0)) 45 1)) 45 2)) 45 3)) 45 4)) [(46, 9, 48), (47, 10, 48), (48, 11, 48), (49, 12, 48), (50, 13, 48), (51, 14, 192), (52, 15, 3), (53, 16, 4)]) := by
    refine h _ (fun a i ha => ?_) (fun q hq i hi => ?_)
    · refine (mv_cps_n _ _ (fun hm => ?_)).trans ?_
      · simp only [List.map_cons, List.map_nil, List.mem_cons, List.not_mem_nil, or_false] at hm
        omega
      · rw [mv_up_c (show a ≠ 8 by omega), mv_up_c (show a ≠ 8 by omega), mv_up_c (show a ≠ 8 by omega), mv_up_c (show a ≠ 8 by omega), mv_up_c (show a ≠ 8 by omega)]
    · simp only [sg_Ll, List.mem_cons, List.not_mem_nil, or_false] at hq
      rcases hq with rfl | rfl | rfl | rfl | rfl | rfl | rfl | rfl | rfl
      · refine (mv_cps_n _ _ (by decide)).trans ?_
        have hi2 : i < 5 := hi
        show (mv_up (mv_up (mv_up (mv_up (mv_up M 8 0 (M 45 0)) 8 1 ((mv_up M 8 0 (M 45 0)) 45 1)) 8 2 ((mv_up (mv_up M 8 0 (M 45 0)) 8 1 ((mv_up M 8 0 (M 45 0)) 45 1)) 45 2)) 8 3 ((mv_up (mv_up (mv_up M 8 0 (M 45 0)) 8 1 ((mv_up M 8 0 (M 45 0)) 45 1)) 8 2 ((mv_up (mv_up M 8 0 (M 45 0)) 8 1 ((mv_up M 8 0 (M 45 0)) 45 1)) 45 2)) 45 3)) 8 4 ((mv_up (mv_up (mv_up (mv_up M 8 0 (M 45 0)) 8 1 ((mv_up M 8 0 (M 45 0)) 45 1)) 8 2 ((mv_up (mv_up M 8 0 (M 45 0)) 8 1 ((mv_up M 8 0 (M 45 0)) 45 1)) 45 2)) 8 3 ((mv_up (mv_up (mv_up M 8 0 (M 45 0)) 8 1 ((mv_up M 8 0 (M 45 0)) 45 1)) 8 2 ((mv_up (mv_up M 8 0 (M 45 0)) 8 1 ((mv_up M 8 0 (M 45 0)) 45 1)) 45 2)) 45 3)) 45 4)) 8 i = M 45 i
        rcases (show i = 0 ∨ i = 1 ∨ i = 2 ∨ i = 3 ∨ i = 4 by omega) with rfl | rfl | rfl | rfl | rfl
        · rw [mv_up_j (by decide), mv_up_j (by decide), mv_up_j (by decide), mv_up_j (by decide), mv_up_s]
        · rw [mv_up_j (by decide), mv_up_j (by decide), mv_up_j (by decide), mv_up_s, mv_up_c (by decide)]
        · rw [mv_up_j (by decide), mv_up_j (by decide), mv_up_s, mv_up_c (by decide), mv_up_c (by decide)]
        · rw [mv_up_j (by decide), mv_up_s, mv_up_c (by decide), mv_up_c (by decide), mv_up_c (by decide)]
        · rw [mv_up_s, mv_up_c (by decide), mv_up_c (by decide), mv_up_c (by decide), mv_up_c (by decide)]
      · refine (mv_cps_y _ _ (by decide) (by decide) (46, 9, 48) (by decide) hi).trans ?_
        show (mv_up (mv_up (mv_up (mv_up (mv_up M 8 0 (M 45 0)) 8 1 ((mv_up M 8 0 (M 45 0)) 45 1)) 8 2 ((mv_up (mv_up M 8 0 (M 45 0)) 8 1 ((mv_up M 8 0 (M 45 0)) 45 1)) 45 2)) 8 3 ((mv_up (mv_up (mv_up M 8 0 (M 45 0)) 8 1 ((mv_up M 8 0 (M 45 0)) 45 1)) 8 2 ((mv_up (mv_up M 8 0 (M 45 0)) 8 1 ((mv_up M 8 0 (M 45 0)) 45 1)) 45 2)) 45 3)) 8 4 ((mv_up (mv_up (mv_up (mv_up M 8 0 (M 45 0)) 8 1 ((mv_up M 8 0 (M 45 0)) 45 1)) 8 2 ((mv_up (mv_up M 8 0 (M 45 0)) 8 1 ((mv_up M 8 0 (M 45 0)) 45 1)) 45 2)) 8 3 ((mv_up (mv_up (mv_up M 8 0 (M 45 0)) 8 1 ((mv_up M 8 0 (M 45 0)) 45 1)) 8 2 ((mv_up (mv_up M 8 0 (M 45 0)) 8 1 ((mv_up M 8 0 (M 45 0)) 45 1)) 45 2)) 45 3)) 45 4)) 46 i = M 46 i
        rw [mv_up_c (by decide), mv_up_c (by decide), mv_up_c (by decide), mv_up_c (by decide), mv_up_c (by decide)]
      · refine (mv_cps_y _ _ (by decide) (by decide) (47, 10, 48) (by decide) hi).trans ?_
        show (mv_up (mv_up (mv_up (mv_up (mv_up M 8 0 (M 45 0)) 8 1 ((mv_up M 8 0 (M 45 0)) 45 1)) 8 2 ((mv_up (mv_up M 8 0 (M 45 0)) 8 1 ((mv_up M 8 0 (M 45 0)) 45 1)) 45 2)) 8 3 ((mv_up (mv_up (mv_up M 8 0 (M 45 0)) 8 1 ((mv_up M 8 0 (M 45 0)) 45 1)) 8 2 ((mv_up (mv_up M 8 0 (M 45 0)) 8 1 ((mv_up M 8 0 (M 45 0)) 45 1)) 45 2)) 45 3)) 8 4 ((mv_up (mv_up (mv_up (mv_up M 8 0 (M 45 0)) 8 1 ((mv_up M 8 0 (M 45 0)) 45 1)) 8 2 ((mv_up (mv_up M 8 0 (M 45 0)) 8 1 ((mv_up M 8 0 (M 45 0)) 45 1)) 45 2)) 8 3 ((mv_up (mv_up (mv_up M 8 0 (M 45 0)) 8 1 ((mv_up M 8 0 (M 45 0)) 45 1)) 8 2 ((mv_up (mv_up M 8 0 (M 45 0)) 8 1 ((mv_up M 8 0 (M 45 0)) 45 1)) 45 2)) 45 3)) 45 4)) 47 i = M 47 i
        rw [mv_up_c (by decide), mv_up_c (by decide), mv_up_c (by decide), mv_up_c (by decide), mv_up_c (by decide)]
      · refine (mv_cps_y _ _ (by decide) (by decide) (48, 11, 48) (by decide) hi).trans ?_
        show (mv_up (mv_up (mv_up (mv_up (mv_up M 8 0 (M 45 0)) 8 1 ((mv_up M 8 0 (M 45 0)) 45 1)) 8 2 ((mv_up (mv_up M 8 0 (M 45 0)) 8 1 ((mv_up M 8 0 (M 45 0)) 45 1)) 45 2)) 8 3 ((mv_up (mv_up (mv_up M 8 0 (M 45 0)) 8 1 ((mv_up M 8 0 (M 45 0)) 45 1)) 8 2 ((mv_up (mv_up M 8 0 (M 45 0)) 8 1 ((mv_up M 8 0 (M 45 0)) 45 1)) 45 2)) 45 3)) 8 4 ((mv_up (mv_up (mv_up (mv_up M 8 0 (M 45 0)) 8 1 ((mv_up M 8 0 (M 45 0)) 45 1)) 8 2 ((mv_up (mv_up M 8 0 (M 45 0)) 8 1 ((mv_up M 8 0 (M 45 0)) 45 1)) 45 2)) 8 3 ((mv_up (mv_up (mv_up M 8 0 (M 45 0)) 8 1 ((mv_up M 8 0 (M 45 0)) 45 1)) 8 2 ((mv_up (mv_up M 8 0 (M 45 0)) 8 1 ((mv_up M 8 0 (M 45 0)) 45 1)) 45 2)) 45 3)) 45 4)) 48 i = M 48 i
        rw [mv_up_c (by decide), mv_up_c (by decide), mv_up_c (by decide), mv_up_c (by decide), mv_up_c (by decide)]
      · refine (mv_cps_y _ _ (by decide) (by decide) (49, 12, 48) (by decide) hi).trans ?_
        show (mv_up (mv_up (mv_up (mv_up (mv_up M 8 0 (M 45 0)) 8 1 ((mv_up M 8 0 (M 45 0)) 45 1)) 8 2 ((mv_up (mv_up M 8 0 (M 45 0)) 8 1 ((mv_up M 8 0 (M 45 0)) 45 1)) 45 2)) 8 3 ((mv_up (mv_up (mv_up M 8 0 (M 45 0)) 8 1 ((mv_up M 8 0 (M 45 0)) 45 1)) 8 2 ((mv_up (mv_up M 8 0 (M 45 0)) 8 1 ((mv_up M 8 0 (M 45 0)) 45 1)) 45 2)) 45 3)) 8 4 ((mv_up (mv_up (mv_up (mv_up M 8 0 (M 45 0)) 8 1 ((mv_up M 8 0 (M 45 0)) 45 1)) 8 2 ((mv_up (mv_up M 8 0 (M 45 0)) 8 1 ((mv_up M 8 0 (M 45 0)) 45 1)) 45 2)) 8 3 ((mv_up (mv_up (mv_up M 8 0 (M 45 0)) 8 1 ((mv_up M 8 0 (M 45 0)) 45 1)) 8 2 ((mv_up (mv_up M 8 0 (M 45 0)) 8 1 ((mv_up M 8 0 (M 45 0)) 45 1)) 45 2)) 45 3)) 45 4)) 49 i = M 49 i
        rw [mv_up_c (by decide), mv_up_c (by decide), mv_up_c (by decide), mv_up_c (by decide), mv_up_c (by decide)]
      · refine (mv_cps_y _ _ (by decide) (by decide) (50, 13, 48) (by decide) hi).trans ?_
        show (mv_up (mv_up (mv_up (mv_up (mv_up M 8 0 (M 45 0)) 8 1 ((mv_up M 8 0 (M 45 0)) 45 1)) 8 2 ((mv_up (mv_up M 8 0 (M 45 0)) 8 1 ((mv_up M 8 0 (M 45 0)) 45 1)) 45 2)) 8 3 ((mv_up (mv_up (mv_up M 8 0 (M 45 0)) 8 1 ((mv_up M 8 0 (M 45 0)) 45 1)) 8 2 ((mv_up (mv_up M 8 0 (M 45 0)) 8 1 ((mv_up M 8 0 (M 45 0)) 45 1)) 45 2)) 45 3)) 8 4 ((mv_up (mv_up (mv_up (mv_up M 8 0 (M 45 0)) 8 1 ((mv_up M 8 0 (M 45 0)) 45 1)) 8 2 ((mv_up (mv_up M 8 0 (M 45 0)) 8 1 ((mv_up M 8 0 (M 45 0)) 45 1)) 45 2)) 8 3 ((mv_up (mv_up (mv_up M 8 0 (M 45 0)) 8 1 ((mv_up M 8 0 (M 45 0)) 45 1)) 8 2 ((mv_up (mv_up M 8 0 (M 45 0)) 8 1 ((mv_up M 8 0 (M 45 0)) 45 1)) 45 2)) 45 3)) 45 4)) 50 i = M 50 i
        rw [mv_up_c (by decide), mv_up_c (by decide), mv_up_c (by decide), mv_up_c (by decide), mv_up_c (by decide)]
      · refine (mv_cps_y _ _ (by decide) (by decide) (51, 14, 192) (by decide) hi).trans ?_
        show (mv_up (mv_up (mv_up (mv_up (mv_up M 8 0 (M 45 0)) 8 1 ((mv_up M 8 0 (M 45 0)) 45 1)) 8 2 ((mv_up (mv_up M 8 0 (M 45 0)) 8 1 ((mv_up M 8 0 (M 45 0)) 45 1)) 45 2)) 8 3 ((mv_up (mv_up (mv_up M 8 0 (M 45 0)) 8 1 ((mv_up M 8 0 (M 45 0)) 45 1)) 8 2 ((mv_up (mv_up M 8 0 (M 45 0)) 8 1 ((mv_up M 8 0 (M 45 0)) 45 1)) 45 2)) 45 3)) 8 4 ((mv_up (mv_up (mv_up (mv_up M 8 0 (M 45 0)) 8 1 ((mv_up M 8 0 (M 45 0)) 45 1)) 8 2 ((mv_up (mv_up M 8 0 (M 45 0)) 8 1 ((mv_up M 8 0 (M 45 0)) 45 1)) 45 2)) 8 3 ((mv_up (mv_up (mv_up M 8 0 (M 45 0)) 8 1 ((mv_up M 8 0 (M 45 0)) 45 1)) 8 2 ((mv_up (mv_up M 8 0 (M 45 0)) 8 1 ((mv_up M 8 0 (M 45 0)) 45 1)) 45 2)) 45 3)) 45 4)) 51 i = M 51 i
        rw [mv_up_c (by decide), mv_up_c (by decide), mv_up_c (by decide), mv_up_c (by decide), mv_up_c (by decide)]
      · refine (mv_cps_y _ _ (by decide) (by decide) (52, 15, 3) (by decide) hi).trans ?_
        show (mv_up (mv_up (mv_up (mv_up (mv_up M 8 0 (M 45 0)) 8 1 ((mv_up M 8 0 (M 45 0)) 45 1)) 8 2 ((mv_up (mv_up M 8 0 (M 45 0)) 8 1 ((mv_up M 8 0 (M 45 0)) 45 1)) 45 2)) 8 3 ((mv_up (mv_up (mv_up M 8 0 (M 45 0)) 8 1 ((mv_up M 8 0 (M 45 0)) 45 1)) 8 2 ((mv_up (mv_up M 8 0 (M 45 0)) 8 1 ((mv_up M 8 0 (M 45 0)) 45 1)) 45 2)) 45 3)) 8 4 ((mv_up (mv_up (mv_up (mv_up M 8 0 (M 45 0)) 8 1 ((mv_up M 8 0 (M 45 0)) 45 1)) 8 2 ((mv_up (mv_up M 8 0 (M 45 0)) 8 1 ((mv_up M 8 0 (M 45 0)) 45 1)) 45 2)) 8 3 ((mv_up (mv_up (mv_up M 8 0 (M 45 0)) 8 1 ((mv_up M 8 0 (M 45 0)) 45 1)) 8 2 ((mv_up (mv_up M 8 0 (M 45 0)) 8 1 ((mv_up M 8 0 (M 45 0)) 45 1)) 45 2)) 45 3)) 45 4)) 52 i = M 52 i
        rw [mv_up_c (by decide), mv_up_c (by decide), mv_up_c (by decide), mv_up_c (by decide), mv_up_c (by decide)]
      · refine (mv_cps_y _ _ (by decide) (by decide) (53, 16, 4) (by decide) hi).trans ?_
        show (mv_up (mv_up (mv_up (mv_up (mv_up M 8 0 (M 45 0)) 8 1 ((mv_up M 8 0 (M 45 0)) 45 1)) 8 2 ((mv_up (mv_up M 8 0 (M 45 0)) 8 1 ((mv_up M 8 0 (M 45 0)) 45 1)) 45 2)) 8 3 ((mv_up (mv_up (mv_up M 8 0 (M 45 0)) 8 1 ((mv_up M 8 0 (M 45 0)) 45 1)) 8 2 ((mv_up (mv_up M 8 0 (M 45 0)) 8 1 ((mv_up M 8 0 (M 45 0)) 45 1)) 45 2)) 45 3)) 8 4 ((mv_up (mv_up (mv_up (mv_up M 8 0 (M 45 0)) 8 1 ((mv_up M 8 0 (M 45 0)) 45 1)) 8 2 ((mv_up (mv_up M 8 0 (M 45 0)) 8 1 ((mv_up M 8 0 (M 45 0)) 45 1)) 45 2)) 8 3 ((mv_up (mv_up (mv_up M 8 0 (M 45 0)) 8 1 ((mv_up M 8 0 (M 45 0)) 45 1)) 8 2 ((mv_up (mv_up M 8 0 (M 45 0)) 8 1 ((mv_up M 8 0 (M 45 0)) 45 1)) 45 2)) 45 3)) 45 4)) 53 i = M 53 i
        rw [mv_up_c (by decide), mv_up_c (by decide), mv_up_c (by decide), mv_up_c (by decide), mv_up_c (by decide)]
  refine vw_X0_takeFrom_o ?_
  exact ⟨by decide, by decide, by decide, by decide, by decide, by decide, by decide, by decide, mv_qv_i key⟩
theorem cl_usesTake_i {F : mv_Mem → Prop} (h : ∀ M', (∀ a i, ¬ (54 ≤ a ∧ a ≤ 66) → M' a i = M a i) → sg_cq sg_Lu 0 37 M M' → F M') : mv_Wp G 60 [.inr (.inr 54), .inr (.inr 17)] (mh l) M (mv_qv (mh l) F) := by
  have key : F (mv_cps (mv_up (mv_up M 54 0 (M 17 0)) 54 1 ((mv_up M 54 0 (M 17 0)) 17 1)) [(18, 55, 6), (19, 56, 6), (20, 57, 6), (21, 58, 6), (22, 59, 6), (23, 60, 6), (24, 61, 6), (25, 62, 6), (26, 63, 18), (27, 64, 18), (28, 65, 108), (29, 66, 108)]) := by
    refine h _ (fun a i ha => ?_) (fun q hq i hi => ?_)
    · refine (mv_cps_n _ _ (fun hm => ?_)).trans ?_
      · simp only [List.map_cons, List.map_nil, List.mem_cons, List.not_mem_nil, or_false] at hm
        omega
      · rw [mv_up_c (show a ≠ 54 by omega), mv_up_c (show a ≠ 54 by omega)]
    · simp only [sg_Lu, List.mem_cons, List.not_mem_nil, or_false] at hq
      rcases hq with rfl | rfl | rfl | rfl | rfl | rfl | rfl | rfl | rfl | rfl | rfl | rfl | rfl
      · refine (mv_cps_n _ _ (by decide)).trans ?_
        have hi2 : i < 2 := hi
        show (mv_up (mv_up M 54 0 (M 17 0)) 54 1 ((mv_up M 54 0 (M 17 0)) 17 1)) 54 i = M 17 i
        rcases (show i = 0 ∨ i = 1 by omega) with rfl | rfl
        · rw [mv_up_j (by decide), mv_up_s]
        · rw [mv_up_s, mv_up_c (by decide)]
      · refine (mv_cps_y _ _ (by decide) (by decide) (18, 55, 6) (by decide) hi).trans ?_
        show (mv_up (mv_up M 54 0 (M 17 0)) 54 1 ((mv_up M 54 0 (M 17 0)) 17 1)) 18 i = M 18 i
        rw [mv_up_c (by decide), mv_up_c (by decide)]
      · refine (mv_cps_y _ _ (by decide) (by decide) (19, 56, 6) (by decide) hi).trans ?_
        show (mv_up (mv_up M 54 0 (M 17 0)) 54 1 ((mv_up M 54 0 (M 17 0)) 17 1)) 19 i = M 19 i
        rw [mv_up_c (by decide), mv_up_c (by decide)]
      · refine (mv_cps_y _ _ (by decide) (by decide) (20, 57, 6) (by decide) hi).trans ?_
        show (mv_up (mv_up M 54 0 (M 17 0)) 54 1 ((mv_up M 54 0 (M 17 0)) 17 1)) 20 i = M 20 i
        rw [mv_up_c (by decide), mv_up_c (by decide)]
      · refine (mv_cps_y _ _ (by decide) (by decide) (21, 58, 6) (by decide) hi).trans ?_
        show (mv_up (mv_up M 54 0 (M 17 0)) 54 1 ((mv_up M 54 0 (M 17 0)) 17 1)) 21 i = M 21 i
        rw [mv_up_c (by decide), mv_up_c (by decide)]
      · refine (mv_cps_y _ _ (by decide) (by decide) (22, 59, 6) (by decide) hi).trans ?_
        show (mv_up (mv_up M 54 0 (M 17 0)) 54 1 ((mv_up M 54 0 (M 17 0)) 17 1)) 22 i = M 22 i
        rw [mv_up_c (by decide), mv_up_c (by decide)]
      · refine (mv_cps_y _ _ (by decide) (by decide) (23, 60, 6) (by decide) hi).trans ?_
        show (mv_up (mv_up M 54 0 (M 17 0)) 54 1 ((mv_up M 54 0 (M 17 0)) 17 1)) 23 i = M 23 i
        rw [mv_up_c (by decide), mv_up_c (by decide)]
      · refine (mv_cps_y _ _ (by decide) (by decide) (24, 61, 6) (by decide) hi).trans ?_
        show (mv_up (mv_up M 54 0 (M 17 0)) 54 1 ((mv_up M 54 0 (M 17 0)) 17 1)) 24 i = M 24 i
        rw [mv_up_c (by decide), mv_up_c (by decide)]
      · refine (mv_cps_y _ _ (by decide) (by decide) (25, 62, 6) (by decide) hi).trans ?_
        show (mv_up (mv_up M 54 0 (M 17 0)) 54 1 ((mv_up M 54 0 (M 17 0)) 17 1)) 25 i = M 25 i
        rw [mv_up_c (by decide), mv_up_c (by decide)]
      · refine (mv_cps_y _ _ (by decide) (by decide) (26, 63, 18) (by decide) hi).trans ?_
        show (mv_up (mv_up M 54 0 (M 17 0)) 54 1 ((mv_up M 54 0 (M 17 0)) 17 1)) 26 i = M 26 i
        rw [mv_up_c (by decide), mv_up_c (by decide)]
      · refine (mv_cps_y _ _ (by decide) (by decide) (27, 64, 18) (by decide) hi).trans ?_
        show (mv_up (mv_up M 54 0 (M 17 0)) 54 1 ((mv_up M 54 0 (M 17 0)) 17 1)) 27 i = M 27 i
        rw [mv_up_c (by decide), mv_up_c (by decide)]
      · refine (mv_cps_y _ _ (by decide) (by decide) (28, 65, 108) (by decide) hi).trans ?_
        show (mv_up (mv_up M 54 0 (M 17 0)) 54 1 ((mv_up M 54 0 (M 17 0)) 17 1)) 28 i = M 28 i
        rw [mv_up_c (by decide), mv_up_c (by decide)]
      · refine (mv_cps_y _ _ (by decide) (by decide) (29, 66, 108) (by decide) hi).trans ?_
        show (mv_up (mv_up M 54 0 (M 17 0)) 54 1 ((mv_up M 54 0 (M 17 0)) 17 1)) 29 i = M 29 i
        rw [mv_up_c (by decide), mv_up_c (by decide)]
  refine vw_X7_takeFrom_i ?_
  exact ⟨by decide, by decide, by decide, by decide, by decide, by decide, by decide, by decide, by decide, by decide, by decide, by decide, mv_qv_i key⟩
theorem cl_usesTake_o {F : mv_Mem → Prop} (h : ∀ M', (∀ a i, ¬ (17 ≤ a ∧ a ≤ 29) → M' a i = M a i) → sg_cq sg_Lu 37 0 M M' → F M') : mv_Wp G 60 [.inr (.inr 17), .inr (.inr 54)] (mh l) M (mv_qv (mh l) F) := by
  have key : F (mv_cps (mv_up (mv_up M 17 0 (M 54 0)) 17 1 ((mv_up M 17 0 (M 54 0)) 54 1)) [(55, 18, 6), (56, 19, 6), (57, 20, 6), (58, 21, 6), (59, 22, 6), (60, 23, 6), (61, 24, 6), (62, 25, 6), (63, 26, 18), (64, 27, 18), (65, 28, 108), (66, 29, 108)]) := by
    refine h _ (fun a i ha => ?_) (fun q hq i hi => ?_)
    · refine (mv_cps_n _ _ (fun hm => ?_)).trans ?_
      · simp only [List.map_cons, List.map_nil, List.mem_cons, List.not_mem_nil, or_false] at hm
        omega
      · rw [mv_up_c (show a ≠ 17 by omega), mv_up_c (show a ≠ 17 by omega)]
    · simp only [sg_Lu, List.mem_cons, List.not_mem_nil, or_false] at hq
      rcases hq with rfl | rfl | rfl | rfl | rfl | rfl | rfl | rfl | rfl | rfl | rfl | rfl | rfl
      · refine (mv_cps_n _ _ (by decide)).trans ?_
        have hi2 : i < 2 := hi
        show (mv_up (mv_up M 17 0 (M 54 0)) 17 1 ((mv_up M 17 0 (M 54 0)) 54 1)) 17 i = M 54 i
        rcases (show i = 0 ∨ i = 1 by omega) with rfl | rfl
        · rw [mv_up_j (by decide), mv_up_s]
        · rw [mv_up_s, mv_up_c (by decide)]
      · refine (mv_cps_y _ _ (by decide) (by decide) (55, 18, 6) (by decide) hi).trans ?_
        show (mv_up (mv_up M 17 0 (M 54 0)) 17 1 ((mv_up M 17 0 (M 54 0)) 54 1)) 55 i = M 55 i
        rw [mv_up_c (by decide), mv_up_c (by decide)]
      · refine (mv_cps_y _ _ (by decide) (by decide) (56, 19, 6) (by decide) hi).trans ?_
        show (mv_up (mv_up M 17 0 (M 54 0)) 17 1 ((mv_up M 17 0 (M 54 0)) 54 1)) 56 i = M 56 i
        rw [mv_up_c (by decide), mv_up_c (by decide)]
      · refine (mv_cps_y _ _ (by decide) (by decide) (57, 20, 6) (by decide) hi).trans ?_
        show (mv_up (mv_up M 17 0 (M 54 0)) 17 1 ((mv_up M 17 0 (M 54 0)) 54 1)) 57 i = M 57 i
        rw [mv_up_c (by decide), mv_up_c (by decide)]
      · refine (mv_cps_y _ _ (by decide) (by decide) (58, 21, 6) (by decide) hi).trans ?_
        show (mv_up (mv_up M 17 0 (M 54 0)) 17 1 ((mv_up M 17 0 (M 54 0)) 54 1)) 58 i = M 58 i
        rw [mv_up_c (by decide), mv_up_c (by decide)]
      · refine (mv_cps_y _ _ (by decide) (by decide) (59, 22, 6) (by decide) hi).trans ?_
        show (mv_up (mv_up M 17 0 (M 54 0)) 17 1 ((mv_up M 17 0 (M 54 0)) 54 1)) 59 i = M 59 i
        rw [mv_up_c (by decide), mv_up_c (by decide)]
      · refine (mv_cps_y _ _ (by decide) (by decide) (60, 23, 6) (by decide) hi).trans ?_
        show (mv_up (mv_up M 17 0 (M 54 0)) 17 1 ((mv_up M 17 0 (M 54 0)) 54 1)) 60 i = M 60 i
        rw [mv_up_c (by decide), mv_up_c (by decide)]
      · refine (mv_cps_y _ _ (by decide) (by decide) (61, 24, 6) (by decide) hi).trans ?_
        show (mv_up (mv_up M 17 0 (M 54 0)) 17 1 ((mv_up M 17 0 (M 54 0)) 54 1)) 61 i = M 61 i
        rw [mv_up_c (by decide), mv_up_c (by decide)]
      · refine (mv_cps_y _ _ (by decide) (by decide) (62, 25, 6) (by decide) hi).trans ?_
        show (mv_up (mv_up M 17 0 (M 54 0)) 17 1 ((mv_up M 17 0 (M 54 0)) 54 1)) 62 i = M 62 i
        rw [mv_up_c (by decide), mv_up_c (by decide)]
      · refine (mv_cps_y _ _ (by decide) (by decide) (63, 26, 18) (by decide) hi).trans ?_
        show (mv_up (mv_up M 17 0 (M 54 0)) 17 1 ((mv_up M 17 0 (M 54 0)) 54 1)) 63 i = M 63 i
        rw [mv_up_c (by decide), mv_up_c (by decide)]
      · refine (mv_cps_y _ _ (by decide) (by decide) (64, 27, 18) (by decide) hi).trans ?_
        show (mv_up (mv_up M 17 0 (M 54 0)) 17 1 ((mv_up M 17 0 (M 54 0)) 54 1)) 64 i = M 64 i
        rw [mv_up_c (by decide), mv_up_c (by decide)]
      · refine (mv_cps_y _ _ (by decide) (by decide) (65, 28, 108) (by decide) hi).trans ?_
        show (mv_up (mv_up M 17 0 (M 54 0)) 17 1 ((mv_up M 17 0 (M 54 0)) 54 1)) 65 i = M 65 i
        rw [mv_up_c (by decide), mv_up_c (by decide)]
      · refine (mv_cps_y _ _ (by decide) (by decide) (66, 29, 108) (by decide) hi).trans ?_
        show (mv_up (mv_up M 17 0 (M 54 0)) 17 1 ((mv_up M 17 0 (M 54 0)) 54 1)) 66 i = M 66 i
        rw [mv_up_c (by decide), mv_up_c (by decide)]
  refine vw_X7_takeFrom_o ?_
  exact ⟨by decide, by decide, by decide, by decide, by decide, by decide, by decide, by decide, by decide, by decide, by decide, by decide, mv_qv_i key⟩
theorem cl_plansTake_i {F : mv_Mem → Prop} (h : ∀ M', (∀ a i, ¬ (67 ≤ a ∧ a ≤ 71) → M' a i = M a i) → sg_cq sg_Lp 0 37 M M' → F M') : mv_Wp G 33 [.inr (.inr 67), .inr (.inr 30)] (mh l) M (mv_qv (mh l) F) := by
  have key : F (mv_cps (mv_up M 67 0 (M 30 0)) [(31, 68, 8), (32, 69, 8), (33, 70, 8), (34, 71, 8)]) := by
    refine h _ (fun a i ha => ?_) (fun q hq i hi => ?_)
    · refine (mv_cps_n _ _ (fun hm => ?_)).trans ?_
      · simp only [List.map_cons, List.map_nil, List.mem_cons, List.not_mem_nil, or_false] at hm
        omega
      · rw [mv_up_c (show a ≠ 67 by omega)]
    · simp only [sg_Lp, List.mem_cons, List.not_mem_nil, or_false] at hq
      rcases hq with rfl | rfl | rfl | rfl | rfl
      · refine (mv_cps_n _ _ (by decide)).trans ?_
        have hi2 : i < 1 := hi
        show (mv_up M 67 0 (M 30 0)) 67 i = M 30 i
        obtain rfl : i = 0 := by omega
        rw [mv_up_s]
      · refine (mv_cps_y _ _ (by decide) (by decide) (31, 68, 8) (by decide) hi).trans ?_
        show (mv_up M 67 0 (M 30 0)) 31 i = M 31 i
        rw [mv_up_c (by decide)]
      · refine (mv_cps_y _ _ (by decide) (by decide) (32, 69, 8) (by decide) hi).trans ?_
        show (mv_up M 67 0 (M 30 0)) 32 i = M 32 i
        rw [mv_up_c (by decide)]
      · refine (mv_cps_y _ _ (by decide) (by decide) (33, 70, 8) (by decide) hi).trans ?_
        show (mv_up M 67 0 (M 30 0)) 33 i = M 33 i
        rw [mv_up_c (by decide)]
      · refine (mv_cps_y _ _ (by decide) (by decide) (34, 71, 8) (by decide) hi).trans ?_
        show (mv_up M 67 0 (M 30 0)) 34 i = M 34 i
        rw [mv_up_c (by decide)]
  refine vw_X2_takeFrom_i ?_
  exact ⟨by decide, by decide, by decide, by decide, mv_qv_i key⟩
theorem cl_plansTake_o {F : mv_Mem → Prop} (h : ∀ M', (∀ a i, ¬ (30 ≤ a ∧ a ≤ 34) → M' a i = M a i) → sg_cq sg_Lp 37 0 M M' → F M') : mv_Wp G 33 [.inr (.inr 30), .inr (.inr 67)] (mh l) M (mv_qv (mh l) F) := by
  have key : F (mv_cps (mv_up M 30 0 (M 67 0)) [(68, 31, 8), (69, 32, 8), (70, 33, 8), (71, 34, 8)]) := by
    refine h _ (fun a i ha => ?_) (fun q hq i hi => ?_)
    · refine (mv_cps_n _ _ (fun hm => ?_)).trans ?_
      · simp only [List.map_cons, List.map_nil, List.mem_cons, List.not_mem_nil, or_false] at hm
        omega
      · rw [mv_up_c (show a ≠ 30 by omega)]
    · simp only [sg_Lp, List.mem_cons, List.not_mem_nil, or_false] at hq
      rcases hq with rfl | rfl | rfl | rfl | rfl
      · refine (mv_cps_n _ _ (by decide)).trans ?_
        have hi2 : i < 1 := hi
        show (mv_up M 30 0 (M 67 0)) 30 i = M 67 i
        obtain rfl : i = 0 := by omega
        rw [mv_up_s]
      · refine (mv_cps_y _ _ (by decide) (by decide) (68, 31, 8) (by decide) hi).trans ?_
        show (mv_up M 30 0 (M 67 0)) 68 i = M 68 i
        rw [mv_up_c (by decide)]
      · refine (mv_cps_y _ _ (by decide) (by decide) (69, 32, 8) (by decide) hi).trans ?_
        show (mv_up M 30 0 (M 67 0)) 69 i = M 69 i
        rw [mv_up_c (by decide)]
      · refine (mv_cps_y _ _ (by decide) (by decide) (70, 33, 8) (by decide) hi).trans ?_
        show (mv_up M 30 0 (M 67 0)) 70 i = M 70 i
        rw [mv_up_c (by decide)]
      · refine (mv_cps_y _ _ (by decide) (by decide) (71, 34, 8) (by decide) hi).trans ?_
        show (mv_up M 30 0 (M 67 0)) 71 i = M 71 i
        rw [mv_up_c (by decide)]
  refine vw_X2_takeFrom_o ?_
  exact ⟨by decide, by decide, by decide, by decide, mv_qv_i key⟩
theorem sg_cq_fr {L : List (Nat × Nat)} {o o' : Nat} {M1 M2 M1' M2' : mv_Mem} (h : sg_cq L o o' M1 M2) (h1 : ∀ q, q ∈ L → ∀ i, M1' (q.1 + o) i = M1 (q.1 + o) i) (h2 : ∀ q, q ∈ L → ∀ i, M2' (q.1 + o') i = M2 (q.1 + o') i) : sg_cq L o o' M1' M2' := fun q hq i hi => by
  rw [h2 q hq i, h1 q hq i]
  exact h q hq i hi
theorem sg_Ll_r : ∀ q, q ∈ sg_Ll → 8 ≤ q.1 ∧ q.1 ≤ 16 := by decide
theorem sg_Lu_r : ∀ q, q ∈ sg_Lu → 17 ≤ q.1 ∧ q.1 ≤ 29 := by decide
theorem sg_Lp_r : ∀ q, q ∈ sg_Lp → 30 ≤ q.1 ∧ q.1 ≤ 34 := by decide
theorem cl_take_i (hw : sg_wf S) (hC : sg_C 0 S M) {F : mv_Mem → Prop} (h : ∀ M', (∀ a i, ¬ (45 ≤ a ∧ a ≤ 71) → M' a i = M a i) → sg_C 37 S M' → F M') : mv_Wp G 84 [.inr (.inr 44), .inr (.inr 7)] (mh l) M (mv_qv (mh l) F) := by
  refine vw_X10_takeFrom_i (cl_landTake_i (fun M1 f1 c1 => cl_usesTake_i (fun M2 f2 c2 => cl_plansTake_i (fun M3 f3 c3 => mv_qv_i (h M3 (fun a i ha => ?_) (sg_C_cp hw hC ?_ ?_ ?_))))))
  · rw [f3 a i (by omega), f2 a i (by omega), f1 a i (by omega)]
  · exact sg_cq_fr c1 (fun q hq i => rfl) (fun q hq i => by have := sg_Ll_r q hq; rw [f3 _ i (by omega), f2 _ i (by omega)])
  · exact sg_cq_fr c2 (fun q hq i => by have := sg_Lu_r q hq; rw [f1 _ i (by omega)]) (fun q hq i => by have := sg_Lu_r q hq; rw [f3 _ i (by omega)])
  · exact sg_cq_fr c3 (fun q hq i => by have := sg_Lp_r q hq; rw [f2 _ i (by omega), f1 _ i (by omega)]) (fun q hq i => rfl)
theorem cl_take_o (hw : sg_wf S) (hC : sg_C 37 S M) {F : mv_Mem → Prop} (h : ∀ M', (∀ a i, ¬ (8 ≤ a ∧ a ≤ 34) → M' a i = M a i) → sg_C 0 S M' → F M') : mv_Wp G 84 [.inr (.inr 7), .inr (.inr 44)] (mh l) M (mv_qv (mh l) F) := by
  refine vw_X10_takeFrom_o (cl_landTake_o (fun M1 f1 c1 => cl_usesTake_o (fun M2 f2 c2 => cl_plansTake_o (fun M3 f3 c3 => mv_qv_i (h M3 (fun a i ha => ?_) (sg_C_cp hw hC ?_ ?_ ?_))))))
  · rw [f3 a i (by omega), f2 a i (by omega), f1 a i (by omega)]
  · exact sg_cq_fr c1 (fun q hq i => rfl) (fun q hq i => by have := sg_Ll_r q hq; rw [f3 _ i (by omega), f2 _ i (by omega)])
  · exact sg_cq_fr c2 (fun q hq i => by have := sg_Lu_r q hq; rw [f1 _ i (by omega)]) (fun q hq i => by have := sg_Lu_r q hq; rw [f3 _ i (by omega)])
  · exact sg_cq_fr c3 (fun q hq i => by have := sg_Lp_r q hq; rw [f2 _ i (by omega), f1 _ i (by omega)]) (fun q hq i => rfl)
end IM
