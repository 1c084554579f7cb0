/-! THE FIRST STATE -/
def sg_0 : mv_Mem := fun a i => if a = 0 then (if i = 0 ∨ i = 1 then 1 else 0) else if a = 3 then -1 else if a = 6 then (if i = 0 then 10 else if i = 1 then 6 else if i = 2 then 3 else if i = 3 then 2 else 0) else 0
theorem sg_0_z {a i : Nat} (h0 : a ≠ 0) (h3 : a ≠ 3) (h6 : a ≠ 6) : sg_0 a i = 0 := by
  unfold sg_0
  rw [if_neg h0, if_neg h3, if_neg h6]
theorem sg_0_B {a n : Nat} {lo hi : Int} (h0 : a ≠ 0) (h3 : a ≠ 3) (h6 : a ≠ 6) (h : lo ≤ 0 ∧ 0 ≤ hi) : sg_B sg_0 a n lo hi := fun i _ => by
  rw [sg_0_z h0 h3 h6]
  exact h
theorem sg_0_ok {k : Nat} (h : sg_ok sg_0 k) : k = 0 := by
  obtain ⟨h1, h2⟩ := h
  have h1 : ((k % 8 : Nat) : Int) < 1 := h1
  have h2 : ((k / 8 : Nat) : Int) < 1 := h2
  omega
theorem sg_0_oo : sg_oo 0 sg_0 := by
  refine ⟨⟨⟨by decide, by decide, by decide, by decide, by decide, by decide, by decide⟩, ⟨sg_0_B (by decide) (by decide) (by decide) (by decide), sg_0_B (by decide) (by decide) (by decide) (by decide), fun i _ => (by decide : -1 ≤ (-1 : Int) ∧ (-1 : Int) ≤ 3), sg_0_B (by decide) (by decide) (by decide) (by decide), sg_0_B (by decide) (by decide) (by decide) (by decide), fun i hi => ?_⟩, fun m hm => ?_, fun m m' hm => ?_, ⟨sg_0_B (by decide) (by decide) (by decide) (by decide), sg_0_B (by decide) (by decide) (by decide) (by decide), sg_0_B (by decide) (by decide) (by decide) (by decide), sg_0_B (by decide) (by decide) (by decide) (by decide), sg_0_B (by decide) (by decide) (by decide) (by decide), sg_0_B (by decide) (by decide) (by decide) (by decide), sg_0_B (by decide) (by decide) (by decide) (by decide), sg_0_B (by decide) (by decide) (by decide) (by decide)⟩, ⟨sg_0_B (by decide) (by decide) (by decide) (by decide), sg_0_B (by decide) (by decide) (by decide) (by decide), sg_0_B (by decide) (by decide) (by decide) (by decide), sg_0_B (by decide) (by decide) (by decide) (by decide)⟩, fun p hp => ?_, fun k d _ _ _ => ?_, fun u _ _ => sg_0_z (by decide) (by decide) (by decide), fun u _ _ => ⟨sg_0_z (by decide) (by decide) (by decide), sg_0_z (by decide) (by decide) (by decide)⟩⟩, by decide, fun i => ?_, by decide, fun i _ => ?_, Or.inl rfl, fun z => ?_⟩
  · rcases (show i = 0 ∨ i = 1 ∨ i = 2 ∨ i = 3 by omega) with rfl | rfl | rfl | rfl <;> decide
  · have hm : (m : Int) < 0 := hm
    omega
  · have hm : (m : Int) < 0 := hm
    omega
  · have hp : (p : Int) < 0 := hp
    omega
  · rw [sg_0_z (by decide) (by decide) (by decide), sg_0_z (by decide) (by decide) (by decide)]
    rfl
  · rw [sg_0_z (by decide) (by decide) (by decide)]
    decide
  · rw [sg_0_z (by decide) (by decide) (by decide)]
    decide
  · have z : (0 : Int) = 1 := z
    omega
section ST
variable {M0 M : mv_Mem}
theorem sg_0_CC (h : cf_M M0 M) : sg_CC sg_0 M := by
  obtain ⟨f0, l12, l49, v2_1, v4_1, v8_0, v8_1, v8_2, v8_3, v8_4, v16_0, v16_1, v16_2, v16_3, v17_0, v17_1, v30_0, v6_6, v6_7, v45_0, v45_1, v45_2, v45_3, v45_4, v53_0, v53_1, v53_2, v53_3, v54_0, v54_1, v67_0, v1_8, v79_4, v79_5, z0, z1, z2, z4, z6, z8, z16, z17, z30, z45, z53, z54, z67, z79⟩ := h
  have s0 : ∀ a i, a ≠ 0 → a ≠ 3 → a ≠ 6 → sg_0 a i = 0 := fun a i h0 h3 h6 => sg_0_z h0 h3 h6
  have zz : ∀ a i, (a = 9 ∨ a = 10 ∨ a = 11 ∨ a = 13 ∨ a = 14 ∨ (18 ≤ a ∧ a ≤ 29) ∨ a = 87) → M a i = 0 := fun a i h => z0 a i (by omega) (by omega) (by omega) (by omega) (by omega) (by omega) (by omega) (by omega) (by omega) (by omega) (by omega) (by omega) (by omega) (by omega) (by omega) (by omega)
  have hC : sg_C 0 sg_0 M := by
    refine ⟨⟨v8_0, v8_1, v8_2, v8_3, v8_4⟩, fun k hk => ?_, fun m hm => ?_, fun i hi => ?_, ⟨v17_0, v17_1⟩, fun i hi => ?_, fun i hi => ?_, fun i hi => ?_, v30_0, fun p hp => ?_⟩
    · have e := sg_0_ok hk
      subst e
      exact ⟨zz 9 0 (by decide), zz 10 0 (by decide), zz 11 0 (by decide), l12 0 (by decide), zz 13 0 (by decide), fun d hd => zz 14 _ (by decide)⟩
    · have hm : (m : Int) < 0 := hm
      omega
    · rcases (show i = 0 ∨ i = 1 ∨ i = 2 ∨ i = 3 by omega) with rfl | rfl | rfl | rfl
      · exact v16_0
      · exact v16_1
      · exact v16_2
      · exact v16_3
    · exact ⟨zz 18 i (by decide), zz 19 i (by decide), zz 20 i (by decide), zz 21 i (by decide), zz 22 i (by decide), zz 23 i (by decide), zz 24 i (by decide), zz 25 i (by decide)⟩
    · exact ⟨zz 26 i (by decide), zz 27 i (by decide)⟩
    · exact ⟨zz 28 i (by decide), zz 29 i (by decide)⟩
    · have hp : (p : Int) < 0 := hp
      omega
  refine ⟨sg_K_0 hC v6_6 v6_7, v2_1, fun i hi => ?_, v4_1, fun i hi => ?_, fun i hi => zz 87 i (by decide), v1_8, fun z => ?_⟩
  · have hi : (i : Int) < 0 := hi
    omega
  · have hi : (i : Int) < 0 := hi
    omega
  · have z : (0 : Int) = 1 := z
    omega
end ST
/-! THE SECOND OBJECT -/
theorem mv_In_l {io ka : Nat → Nat} {sh sm sm' : mv_SH} (hI : mv_In io ka sh sm) (hn : sm.1 ≤ sm'.1) (hl : ∀ k, sm'.1 < k → sm'.2.2.2.1 k ≤ 100000) : mv_In io ka (mv_lS io ka sh sm sm') sm' := by
  obtain ⟨i0, i1, i2, i3, i4, i5, i6, i7⟩ := hI
  have im : ∀ k, k ≤ sm'.1 → mv_im io ka sm' (io k) := fun k hk => ⟨by rw [i1], by rw [i1]; exact hk⟩
  refine ⟨i0, i1, fun j => ?_, fun k hk => ?_, fun k hk => ?_, fun k hk => ?_, fun k f hk => ?_, hl⟩
  · show io (sm'.1 + 1 + j) = sh.1 + (sm'.1 - sm.1) + 1 + j
    have := i2 (sm'.1 - sm.1 + j)
    rw [show sm.1 + 1 + (sm'.1 - sm.1 + j) = sm'.1 + 1 + j by omega] at this
    omega
  · show io k ≤ sh.1 + (sm'.1 - sm.1)
    rcases Nat.lt_or_ge sm.1 k with h | h
    · have := i2 (k - sm.1 - 1)
      rw [show sm.1 + 1 + (k - sm.1 - 1) = k by omega] at this
      omega
    · have := i3 k h
      omega
  · show sm'.2.2.1 k = if mv_im io ka sm' (io k) then sm'.2.2.1 (ka (io k)) else sh.2.2.1 (io k)
    rw [if_pos (im k hk), i1]
  · show sm'.2.2.2.1 k = if mv_im io ka sm' (io k) then sm'.2.2.2.1 (ka (io k)) else sh.2.2.2.1 (io k)
    rw [if_pos (im k hk), i1]
  · show io (sm'.2.2.2.2 k f) = if mv_im io ka sm' (io k) then io (sm'.2.2.2.2 (ka (io k)) f) else sh.2.2.2.2 (io k) f
    rw [if_pos (im k hk), i1]
def l2_io (N k : Nat) : Nat := if k = 0 then 0 else N + k
def l2_ka (N K : Nat) : Nat := K - N
section SE
variable {l e : Nat} {M : mv_Mem} {G : mv_G} {post : Option mv_V → mv_SH → mv_Mem → Prop}
theorem l2_len {k : Nat} (h : 1 ≤ k) : mh_l l k ≤ 100000 := by
  unfold mh_l
  rw [if_neg (by omega)]
  have h1 : mh_lens.all (fun x => Nat.ble x 100000) = true := by decide +kernel
  rw [List.getD_eq_getElem?_getD]
  cases hx : mh_lens[k]? with
  | none => exact Nat.zero_le _
  | some x => exact Nat.le_of_ble_eq_true (List.all_eq_true.mp h1 x (List.mem_of_getElem? hx))
theorem l2_In : mv_In (l2_io (e + 87)) (l2_ka (e + 87)) (mv_nwO (lh l e) 11 13) (1, 13, mh_t, mh_l l, fun _ _ => 0) := by
  have t0 : l2_io (e + 87) 0 = 0 := rfl
  have t1 : l2_io (e + 87) 1 = e + 87 + 1 := rfl
  refine ⟨rfl, fun k => ?_, fun j => ?_, fun k hk => ?_, fun k hk => ?_, fun k hk => ?_, fun k f hk => ?_, fun k hk => l2_len (by have hk : 1 < k := hk; omega)⟩
  · unfold l2_ka l2_io
    by_cases h : k = 0
    · rw [if_pos h]; omega
    · rw [if_neg h]; omega
  · show l2_io (e + 87) (1 + 1 + j) = e + 87 + 1 + 1 + j
    unfold l2_io
    rw [if_neg (by omega)]
    omega
  · have hk : k ≤ 1 := hk
    show l2_io (e + 87) k ≤ e + 87 + 1
    unfold l2_io
    split <;> omega
  · have hk : k ≤ 1 := hk
    show mh_t k = if l2_io (e + 87) k = e + 87 + 1 then 11 else lh_t e (l2_io (e + 87) k)
    rcases (show k = 0 ∨ k = 1 by omega) with rfl | rfl
    · rw [t0, if_neg (by omega)]; rfl
    · rw [t1, if_pos rfl]; rfl
  · have hk : k ≤ 1 := hk
    show mh_l l k = lh_l l e (l2_io (e + 87) k)
    rcases (show k = 0 ∨ k = 1 by omega) with rfl | rfl
    · rw [t0]; rfl
    · rw [t1]
      unfold lh_l
      rw [if_neg (by omega), if_neg (by omega)]
      rfl
  · have hk : k ≤ 1 := hk
    show l2_io (e + 87) 0 = if l2_io (e + 87) k = e + 87 + 1 then 0 else mh_r (l2_io (e + 87) k) f
    rcases (show k = 0 ∨ k = 1 by omega) with rfl | rfl
    · rw [t0, if_neg (by omega)]; rfl
    · rw [t1, if_pos rfl]; rfl
set_option maxRecDepth 100000 in
theorem lb_681 {sh : mv_SH} {b : Nat} (hg : 1 ≤ b ∧ b ≤ sh.1 ∧ sh.2.2.1 b = 11) (hP : ∀ sh M, post (some (.inl 1)) sh M) (h : mv_Wp G 124 [.inr (.inr b)] sh M (mv_qi sh fun x _ => x = -3)) : mv_Run G 226 0 0 681 [] [.inr (.inr b)] sh M post := by
  have K : (if (1 ≤ b ∧ b ≤ sh.1 ∧ sh.2.2.1 b = 11) ∧ mv_stw ([] : List mv_V) ≤ 8 ∧ 1 ≤ 1 then mv_Wp G 124 [.inr (.inr b)] sh M (mv_qi sh fun x M1 => if x = -3 then ((1 : Int) = 0 ∨ (1 : Int) = 1) ∧ post (some (.inl 1)) sh M1 else ((0 : Int) = 0 ∨ (0 : Int) = 1) ∧ post (some (.inl 0)) sh M1) else False) := by
    rw [if_pos ⟨hg, Nat.zero_le _, Nat.le_refl _⟩]
    refine mv_mono h (fun r sh' M' q => ?_)
    obtain ⟨rfl, x, rfl, rfl⟩ := q
    refine mv_qi_i ?_
    rw [if_pos rfl]
    exact ⟨by decide, hP _ _⟩
  exact mv_run [] 12 ok_226 K
set_option maxRecDepth 100000 in
theorem lb_674 (he : e ≤ 7) (hP : ∀ sh M, post (some (.inl 1)) sh M) : mv_Run G 226 0 0 674 [] [] (lh l e) M post := by
  refine mv_run [(681, [])] 6 ok_226 ?_
  show (if (lh l e).1 + 1 ≤ 0 + 200 ∧ (lh l e).2.1 + 13 ≤ 0 + 10000 then (if false = false then (if mv_stw [(.inr (.inr ((lh l e).1 + 1)) : mv_V)] ≤ 8 ∧ 1 ≤ 2 ∧ (lh l e).1 + 1 + (88 - 2) ≤ 0 + 200 ∧ (lh l e).2.1 + 13 + Int.toNat 4736 ≤ 0 + 10000 then mv_Wp G 85 [.inr (.inr ((lh l e).1 + 1))] (mv_nwO (lh l e) 11 13) (mv_nwM (lh l e) M) (fun r sh M => mv_Run G 226 0 0 681 [] (r.toList ++ [.inr (.inr ((lh l e).1 + 1))]) sh M post) else False) else False) else False)
  have n1 : (lh l e).1 = e + 87 := rfl
  have n2 : (lh l e).2.1 = 12 * e + 4749 := rfl
  have n3 : Int.toNat 4736 = 4736 := rfl
  rw [n1, n2, n3, if_pos (by omega), if_pos rfl, if_pos ⟨Nat.le_of_ble_eq_true rfl, by decide, by omega, by omega⟩]
  have hI := l2_In (l := l) (e := e)
  have t1 : l2_io (e + 87) 1 = e + 87 + 1 := rfl
  have hZ : cz 0 (mv_mS (l2_io (e + 87)) (1, 13, mh_t, mh_l l, fun _ _ => 0) (mv_nwM (lh l e) M)) := by
    intro a i ha
    show (if a ≤ 1 then (if l2_io (e + 87) a = e + 87 + 1 then 0 else M (l2_io (e + 87) a) i) else 0) = 0
    by_cases h : a ≤ 1
    · have h1 : a = 1 := by omega
      subst h1
      rw [if_pos h, if_pos t1]
    · rw [if_neg h]
  have K := mv_frame (c := 85) (as := [.inr (.inr 1)]) hI (show 86 < 150 by decide) (cl_ctor (G := mv_gs G (l2_io (e + 87))) (F := fun Mm => sg_CC sg_0 Mm) hZ (fun M h => sg_0_CC h))
  refine mv_mono K (fun r sh' M' q => ?_)
  obtain ⟨r0, sm', Mm, ⟨rfl, rfl, hq⟩, rfl, rfl, rfl⟩ := q
  have hI2 := mv_In_l (sm' := mh l) hI (by show 1 ≤ 87; decide) (fun k hk => l2_len (by have hk : 87 < k := hk; omega))
  refine lb_681 ⟨by omega, ?_, ?_⟩ hP ?_
  · show e + 87 + 1 ≤ e + 87 + 1 + (87 - 1)
    omega
  · have e1 := hI2.2.2.2.2.1 1 (by show 1 ≤ 87; decide)
    exact e1.symm
  · refine mv_frame_i (as := [.inr (.inr 1)]) hI2 (show 0 < 150 by decide) (ca_on (c := 0) sg_0_oo (by decide) (sg_CC_fr hq (fun a i h1 h2 => ?_)) (fun _ _ _ => rfl))
    have im : mv_im (l2_io (e + 87)) (l2_ka (e + 87)) (mh l) (l2_io (e + 87) a) := ⟨by rw [hI.2.1], by rw [hI.2.1]; exact h2⟩
    show (if a ≤ 87 then (if mv_im (l2_io (e + 87)) (l2_ka (e + 87)) (mh l) (l2_io (e + 87) a) then Mm (l2_ka (e + 87) (l2_io (e + 87) a)) i else _) else 0) = Mm a i
    rw [if_pos h2, if_pos im, hI.2.1]
set_option maxRecDepth 100000 in
/-- the owners' row is made -/
theorem lb_41 {v2 v3 v4 v5 : Int} (h : mv_Run G 226 0 0 47 [(0, .inr (.inr 0)), (1, .inr (.inr 1)), (2, .inl v2), (3, .inl v3), (4, .inl v4), (5, .inl v5), (6, .inr (.inr 88))] [] (lh l 1) (mv_nwM (lh l 0) M) post) :
    mv_Run G 226 0 0 41 [(0, .inr (.inr 0)), (1, .inr (.inr 1)), (2, .inl v2), (3, .inl v3), (4, .inl v4), (5, .inl v5)] [] (lh l 0) M post := by
  refine mv_run [(47, [0, 1, 2, 3, 4, 5, 6])] 6 ok_226 ?_
  have g : 0 ≤ (12 : Int) ∧ (12 : Int) ≤ 100000 ∧ (lh l 0).1 + 1 ≤ 0 + 200 ∧ (lh l 0).2.1 + (12 : Int).toNat ≤ 0 + 10000 := by
    refine ⟨by decide, by decide, ?_, ?_⟩
    · show 0 + 87 + 1 ≤ 0 + 200
      omega
    · show 12 * 0 + 4749 + 12 ≤ 0 + 10000
      omega
  show (if 0 ≤ (12 : Int) ∧ (12 : Int) ≤ 100000 ∧ (lh l 0).1 + 1 ≤ 0 + 200 ∧ (lh l 0).2.1 + (12 : Int).toNat ≤ 0 + 10000 then mv_Run G 226 0 0 47 [(0, .inr (.inr 0)), (1, .inr (.inr 1)), (2, .inl v2), (3, .inl v3), (4, .inl v4), (5, .inl v5), (6, .inr (.inr 88))] [] (mv_nwA (lh l 0) 100 12) (mv_nwM (lh l 0) M) post else False)
  rw [if_pos g, lh_nw]
  exact h
theorem cl_land0 {S : mv_Mem} {F : Int → mv_Mem → Prop} (ho : sg_oo 0 S) (h0 : S 30 0 = 0) (hC : sg_CC S M) (hF : ∀ w h S' M', 2 ≤ w ∧ w ≤ 4 → 1 ≤ h ∧ h ≤ 3 → ll_I w h 201 M S' M' → F w M') : mv_Wp G 230 [.inr (.inr 1), .inr (.inr 0)] (lh l 0) M (mv_qi (lh l 0) F) := by
  rw [lh_0]
  exact cl_land ho h0 hC hF
/-- the law, behind its first object -/
theorem lw_law (hP : ∀ sh M, post (some (.inl 1)) sh M) (hC : sg_CC sg_0 M) : mv_Run G 226 0 0 7 [(0, .inr (.inr 0))] [.inr (.inr 1)] (mh l) M post := by
  rw [← lh_0]
  refine vl_7 (cl_land0 sg_0_oo rfl hC (fun w h S M1 hw hh hI => ?_))
  obtain ⟨W, rfl⟩ := sg_nat (show 0 ≤ w by omega)
  obtain ⟨H, rfl⟩ := sg_nat (show 0 ≤ h by omega)
  obtain ⟨⟨ho, d1, d2, z3, z4⟩, hC1, -⟩ := hI
  have hW : 2 ≤ W ∧ W ≤ 4 := by omega
  have hH : 1 ≤ H ∧ H ≤ 3 := by omega
  have wn := lo_n hW hH
  obtain ⟨U, eU⟩ := sg_nat (show 0 ≤ S 0 3 from ho.1.1.2.2.2.1.1)
  have q1 : sa_count S 1 = ((H : Int), S) := by
    show (S 0 1, S) = _
    rw [d2]
  have q3 : sa_count S 3 = ((U : Int), S) := by
    show (S 0 3, S) = _
    rw [eU]
  refine lz_count ho hC1 q1 (fun M2 _ hC2 => ?_)
  rw [← wn.2.2]
  refine ⟨by omega, vl_22 (lz_count ho hC2 q3 (fun M3 _ hC3 => ll_cell rfl (by omega) (fun x2 => ll_pick (by omega) (fun x3 a1 a2 => lb_41 (vl_47 ?_)))))⟩
  have hC4 : sg_CC S (mv_nwM (lh l 0) M3) := sg_CC_fr hC3 (fun a i _ ha => if_neg (by
    show ¬ a = 0 + 87 + 1
    omega))
  refine lo_50 (c := 201) hW hH (by decide) (fun S5 M5 e5 hA => ?_) (W * H) 0 S _ (by omega) eU ⟨ho, ⟨d1, d2⟩, z4, fun q hq => by omega, fun q _ _ => z3 _, hC4⟩
  refine lo_140 hW hH (by decide) e5 hA (fun B M6 hb e6 hR6 hC6 => ?_)
  refine lb_197 hW hH (by decide) hb (by omega) hR6 hC6 (fun M7 hC7 => ?_)
  refine lb_392 (by decide) hb (by omega) hC7 e6 (fun B' M8 hb' e8 hC8 => vl_452 ?_)
  refine lb_455 hW hH (by decide) hb' e8 (fun e M9 he hC9 => ?_) U 0 M8 (by omega) hC8
  exact lb_612 hW hH (by decide) hb' hC9 (fun M10 => lb_674 he hP)
end SE
