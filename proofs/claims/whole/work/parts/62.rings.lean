/-! RINGS: the class's run, its calls ring and edge -/
noncomputable def sg_rg (S : mv_Mem) (s : Int) : Int × Nat × (Nat → Int × Int × Int) := rg_S (sg_hm S s) (sg_sl S s) (fun u => S 8 u) (S 0 3).toNat
noncomputable def sa_ring (S : mv_Mem) (s i : Int) : Int × mv_Mem :=
  if s < 0 ∨ i < 0 then (-4, sg_no S (-4)) else if 9 < s ∨ 9 < i then (-6, sg_no S (-6)) else if S 0 2 = 0 then (-3, sg_no S (-3))
  else (if i < ((sg_rg S s).2.1 : Int) then ((sg_rg S s).2.2 i.toNat).1 else -9, S)
noncomputable def sa_edge (S : mv_Mem) (s i p : Int) : Int × mv_Mem :=
  if p < 0 ∨ 1 < p then (4000000000000000002, sg_no S (-2)) else if s < 0 ∨ i < 0 then (4000000000000000004, sg_no S (-4)) else if 9 < s ∨ 9 < i then (4000000000000000006, sg_no S (-6)) else if S 0 2 = 0 then (4000000000000000003, sg_no S (-3))
  else if ((sg_rg S s).2.1 : Int) ≤ i then (4000000000000000001, sg_no S (-1)) else (if p = 0 then ((sg_rg S s).2.2 i.toNat).2.1 else ((sg_rg S s).2.2 i.toNat).2.2, S)
def rg_rs (s : Int × Nat × (Nat → Int × Int × Int)) (a5 b5 c84 c85 c86 : Nat) (M : mv_Mem) : Prop := M a5 b5 = (s.2.1 : Int) ∧ ∀ j, j < s.2.1 → M c84 j = (s.2.2 j).1 ∧ M c85 j = (s.2.2 j).2.1 ∧ M c86 j = (s.2.2 j).2.2
section RJ
variable {S : mv_Mem} {G : mv_G} {l c : Nat} {M : mv_Mem} {F : Int → mv_Mem → Prop}
theorem cl_extend {M0 : mv_Mem} {F : mv_Mem → Prop} {C : Nat → Int × Int} {m i : Nat} {s : Int × Nat × (Nat → Int × Int × Int)} {t : Int} (hcu : rg_cu C m M0) (hbo : rg_bo C m) (hm : m ≤ 23) (hi : i < m) (hs : rg_rs s 79 5 84 85 86 M0) (hn : s.2.1 ≤ i) (h1 : s.1 ≠ -1 → 0 < s.2.1) (ht : t ≠ -1) {b : Int} (hb : b = if t = s.1 then 1 else 0)
    (h : ∀ M, rg_rs (rg_st s t (rg_e1 C m i)) 79 5 84 85 86 M → (∀ a i, ¬ (84 ≤ a ∧ a ≤ 86) → ¬ (a = 79 ∧ i = 5) → M a i = M0 a i) → F M) :
    mv_Wp G 40 [.inr (.inr 79), .inl t, .inl b, .inl ((i : Int) + 1)] (mh l) M0 (mv_qv (mh l) F) := by
  obtain ⟨s5, sj⟩ := hs
  have fin : ∀ at' : Nat, at' < 23 → (∀ j, j < at' → j < s.2.1) → rg_st s t (rg_e1 C m i) = (t, at' + 1, rg_up s.2.2 at' (t, (rg_e1 C m i).1, (rg_e1 C m i).2)) →
      ∀ e1 e2 : Int, e1 = (rg_e1 C m i).1 → e2 = (rg_e1 C m i).2 → F (mv_up (mv_up (mv_up (mv_up M0 84 at' t) 79 5 ((at' : Int) + 1)) 85 at' e1) 86 at' e2) := by
    intro at' ha hj hst e1 e2 h1 h2
    refine h _ ?_ (fun a i ha hai => ?_)
    · rw [hst]
      refine ⟨?_, fun j hj2 => ?_⟩
      · rw [mv_up_c (by decide), mv_up_c (by decide), mv_up_s]
        rfl
      · have hj2 : j < at' + 1 := hj2
        dsimp only
        unfold rg_up
        rw [mv_up_c (show (84 : Nat) ≠ 86 by decide), mv_up_c (show (84 : Nat) ≠ 85 by decide), mv_up_c (show (84 : Nat) ≠ 79 by decide), mv_up_c (show (85 : Nat) ≠ 86 by decide)]
        by_cases q : j = at'
        · rw [if_pos q, q, mv_up_s, mv_up_s, mv_up_s]
          exact ⟨rfl, h1, h2⟩
        · rw [if_neg q, mv_up_j q, mv_up_j q, mv_up_j q, mv_up_c (show (85 : Nat) ≠ 79 by decide), mv_up_c (show (85 : Nat) ≠ 84 by decide), mv_up_c (show (86 : Nat) ≠ 85 by decide), mv_up_c (show (86 : Nat) ≠ 79 by decide), mv_up_c (show (86 : Nat) ≠ 84 by decide)]
          exact sj j (hj j (by omega))
    · rw [mv_up_c (by omega), mv_up_c (by omega), mv_up_n hai, mv_up_c (by omega)]
  have tail : ∀ at' : Nat, at' < 23 → (∀ j, j < at' → j < s.2.1) → rg_st s t (rg_e1 C m i) = (t, at' + 1, rg_up s.2.2 at' (t, (rg_e1 C m i).1, (rg_e1 C m i).2)) →
      (if ((i : Int) + 1) < ((mv_up (mv_up M0 84 at' t) 79 5 ((at' : Int) + 1)) 79 4) then
        (0 ≤ ((i : Int) + 1) ∧ ((i : Int) + 1) < ((23 : Nat) : Int)) ∧
        (0 ≤ ((i : Int) + 1) ∧ ((i : Int) + 1) < ((23 : Nat) : Int)) ∧
        mv_Wp G 41 [.inr (.inl ((mv_up (mv_up M0 84 at' t) 79 5 ((at' : Int) + 1)) 82 (Int.toNat ((i : Int) + 1)))), .inr (.inl ((mv_up (mv_up M0 84 at' t) 79 5 ((at' : Int) + 1)) 83 (Int.toNat ((i : Int) + 1))))] (mh l) (mv_up (mv_up M0 84 at' t) 79 5 ((at' : Int) + 1)) (mv_ql (mh l) fun x1 M1 =>
        (0 ≤ ((i : Int) + 1) ∧ ((i : Int) + 1) < ((23 : Nat) : Int)) ∧
        (¬ (x1 : Int) = 0 ∧ mv_R64 (Int.tdiv (M1 82 (Int.toNat ((i : Int) + 1))) x1)) ∧
        (0 ≤ (at' : Int) ∧ (at' : Int) < ((23 : Nat) : Int)) ∧
        (0 ≤ ((i : Int) + 1) ∧ ((i : Int) + 1) < ((23 : Nat) : Int)) ∧
        (¬ (x1 : Int) = 0 ∧ mv_R64 (Int.tdiv ((mv_up M1 85 at' (Int.tdiv (M1 82 (Int.toNat ((i : Int) + 1))) x1)) 83 (Int.toNat ((i : Int) + 1))) x1)) ∧
        (0 ≤ (at' : Int) ∧ (at' : Int) < ((23 : Nat) : Int)) ∧
        mv_qv (mh l) F none (mh l) (mv_up (mv_up M1 85 at' (Int.tdiv (M1 82 (Int.toNat ((i : Int) + 1))) x1)) 86 at' (Int.tdiv ((mv_up M1 85 at' (Int.tdiv (M1 82 (Int.toNat ((i : Int) + 1))) x1)) 83 (Int.toNat ((i : Int) + 1))) x1)))
      else
        (0 ≤ (at' : Int) ∧ (at' : Int) < ((23 : Nat) : Int)) ∧
        (0 ≤ (at' : Int) ∧ (at' : Int) < ((23 : Nat) : Int)) ∧
        mv_qv (mh l) F none (mh l) (mv_up (mv_up (mv_up (mv_up M0 84 at' t) 79 5 ((at' : Int) + 1)) 85 at' (-9)) 86 at' 1)) := by
    intro at' ha hj hst
    have f := fin at' ha hj hst
    rw [mv_up_j (show 4 ≠ 5 by decide), mv_up_c (show (79 : Nat) ≠ 84 by decide), hcu.1, show ((i : Int) + 1).toNat = i + 1 by omega]
    by_cases q : i + 1 < m
    · obtain ⟨c1, c2⟩ := hcu.2 (i + 1) q
      obtain ⟨b1, b2⟩ := hbo (i + 1) q
      rw [if_pos (by omega), mv_up_c (show (82 : Nat) ≠ 79 by decide), mv_up_c (show (82 : Nat) ≠ 84 by decide), mv_up_c (show (83 : Nat) ≠ 79 by decide), mv_up_c (show (83 : Nat) ≠ 84 by decide), c1, c2]
      obtain ⟨x, hx⟩ := sg_nat b1.1
      obtain ⟨y, hy⟩ := sg_nat (show 0 ≤ (C (i + 1)).2 by omega)
      rw [hx, hy]
      have g0 : 0 < Nat.gcd x y := Nat.gcd_pos_of_pos_right x (by omega)
      have d1 : ((x : Int)).tdiv ((Nat.gcd x y : Nat) : Int) = ((x / Nat.gcd x y : Nat) : Int) := by rw [sg_td (by omega)]; rfl
      have d2 : ((y : Int)).tdiv ((Nat.gcd x y : Nat) : Int) = ((y / Nat.gcd x y : Nat) : Int) := by rw [sg_td (by omega)]; rfl
      have l1 : x / Nat.gcd x y ≤ x := Nat.div_le_self _ _
      have l2 : y / Nat.gcd x y ≤ y := Nat.div_le_self _ _
      have er : rg_e1 C m i = (((x / Nat.gcd x y : Nat) : Int), ((y / Nat.gcd x y : Nat) : Int)) := by
        unfold rg_e1 rg_rd
        rw [if_pos q, hx, hy]
        rfl
      refine ⟨by omega, by omega, cl_commonDivisor (by omega) (by omega) (by omega) ?_⟩
      rw [mv_up_c (show (82 : Nat) ≠ 79 by decide), mv_up_c (show (82 : Nat) ≠ 84 by decide), mv_up_c (show (83 : Nat) ≠ 85 by decide), mv_up_c (show (83 : Nat) ≠ 79 by decide), mv_up_c (show (83 : Nat) ≠ 84 by decide), c1, c2, hx, hy, d1, d2]
      clear d1 d2
      generalize x / Nat.gcd x y = xg at *
      generalize y / Nat.gcd x y = yg at *
      exact ⟨by omega, ⟨by omega, by omega⟩, by omega, by omega, ⟨by omega, by omega⟩, by omega, mv_qv_i (f _ _ (by rw [er]) (by rw [er]))⟩
    · rw [if_neg (by omega)]
      have er : rg_e1 C m i = (-9, 1) := by
        unfold rg_e1
        rw [if_neg q]
      exact ⟨by omega, by omega, mv_qv_i (f _ _ (by rw [er]) (by rw [er]))⟩
  refine vw_X3_extend ?_
  rw [s5]
  by_cases q : t = s.1
  · have hc := h1 (by rw [← q]; exact ht)
    rw [if_pos q] at hb
    rw [hb, if_neg (by decide), if_neg (by omega), if_pos (by omega), show ((s.2.1 : Int) - 1) = ((s.2.1 - 1 : Nat) : Int) by omega, Int.toNat_natCast]
    refine ⟨by omega, by omega, by omega, tail (s.2.1 - 1) (by omega) (fun j hj => by omega) ?_⟩
    unfold rg_st
    rw [if_neg ht, if_pos q, show s.2.1 - 1 + 1 = s.2.1 by omega]
  · rw [if_neg q] at hb
    rw [hb, if_pos rfl, if_pos (by omega), Int.toNat_natCast]
    refine ⟨by omega, by omega, tail s.2.1 (by omega) (fun j hj => hj) ?_⟩
    unfold rg_st
    rw [if_neg ht, if_neg q]
theorem cl_reckon (hw : sg_wf S) {M0 : mv_Mem} {F : mv_Mem → Prop} (hC : sg_C 0 S M0) {s : Int} (hs : 0 ≤ s ∧ s ≤ 9)
    (h : ∀ M, rg_rs (sg_rg S s) 79 5 84 85 86 M → (sg_rg S s).2.1 ≤ 23 → (∀ a i, ¬ (79 ≤ a ∧ a ≤ 86) → M a i = M0 a i) → F M) :
    mv_Wp G 35 [.inr (.inr 79), .inr (.inr 17), .inl s] (mh l) M0 (mv_qv (mh l) F) := by
  have hu := sg_nu hw
  refine vw_X3_reckon (cl_findCuts hw hC hs (fun M C m ps cu bo hm cn h80 fr => ?_))
  have hbb : ∀ u : Nat, (u : Int) < S 0 3 → (-159706800 ≤ sg_hm S s u ∧ sg_hm S s u ≤ 159706800) ∧ (0 ≤ sg_sl S s u ∧ sg_sl S s u ≤ 98010) := fun u hu2 => by
    have h1 := sg_hm_b hw (u := u) (by omega) hs
    have h2 : 0 ≤ sg_sl S s u ∧ sg_sl S s u ≤ 98010 := sg_cr_b hw (u := u) (by omega) hs
    omega
  have key : ∀ (k i : Nat) (M1 : mv_Mem), i + k = m → rg_rs (rg_run (fun i => (rg_t (sg_hm S s) (sg_sl S s) (fun u => S 8 u) (rg_md C m i).1 (rg_md C m i).2 (S 0 3).toNat).1) (rg_e1 C m) i) 79 5 84 85 86 M1 → (∀ a i, ¬ (84 ≤ a ∧ a ≤ 86) → ¬ (a = 79 ∧ i = 5) → M1 a i = M a i) →
      mv_Run G 35 136 7420 16 [(0, .inr (.inr 79)), (1, .inr (.inr 17)), (3, .inl (rg_run (fun i => (rg_t (sg_hm S s) (sg_sl S s) (fun u => S 8 u) (rg_md C m i).1 (rg_md C m i).2 (S 0 3).toNat).1) (rg_e1 C m) i).1), (4, .inl (i : Int))] [] (mh l) M1 (mv_qv (mh l) F) := by
    intro k
    induction k with
    | zero =>
      intro i M1 hk rs fr1
      refine vr_X3_reckon_16 ?_
      have e4 : M1 79 4 = (m : Int) := (fr1 79 4 (by decide) (by decide)).trans cu.1
      rw [e4, if_pos (by omega)]
      have ei : i = m := by omega
      subst ei
      have es : rg_run (fun j => (rg_t (sg_hm S s) (sg_sl S s) (fun u => S 8 u) (rg_md C i j).1 (rg_md C i j).2 (S 0 3).toNat).1) (rg_e1 C i) i = sg_rg S s := rg_S_e ps cn
      rw [es] at rs
      have hn := (rg_run_n (fun j => (rg_t (sg_hm S s) (sg_sl S s) (fun u => S 8 u) (rg_md C i j).1 (rg_md C i j).2 (S 0 3).toNat).1) (rg_e1 C i) i).1
      rw [es] at hn
      exact mv_qv_i (h M1 rs (by omega) (fun a i ha => (fr1 a i (by omega) (by omega)).trans (fr a i (by omega))))
    | succ k ih =>
      intro i M1 hk rs fr1
      have e4 : M1 79 4 = (m : Int) := (fr1 79 4 (by decide) (by decide)).trans cu.1
      have hi : i < m := by omega
      obtain ⟨c1, c2⟩ := cu.2 i hi
      obtain ⟨b1, b2⟩ := bo i hi
      have e82 : ∀ j, M1 82 j = M 82 j := fun j => fr1 82 j (by decide) (by omega)
      have e83 : ∀ j, M1 83 j = M 83 j := fun j => fr1 83 j (by decide) (by omega)
      have hC1 : sg_C 0 S M1 := sg_C_fr hC (fun c d1 d2 i => (fr1 c i (by omega) (by omega)).trans (fr c i (by omega)))
      have h80' : ∀ u : Nat, (u : Int) < S 0 3 → M1 80 u = sg_hm S s u ∧ M1 81 u = sg_sl S s u := fun u hu2 => by
        rw [fr1 80 u (by decide) (by omega), fr1 81 u (by decide) (by omega)]
        exact h80 u hu2
      have cu1 : rg_cu C m M1 := ⟨e4, fun j hj => by rw [e82, e83]; exact cu.2 j hj⟩
      have nn := rg_run_n (fun i => (rg_t (sg_hm S s) (sg_sl S s) (fun u => S 8 u) (rg_md C m i).1 (rg_md C m i).2 (S 0 3).toNat).1) (rg_e1 C m) i
      have K := fun M2 => ih (i + 1) M2 (by omega)
      have cont : ∀ t : Int, t = (rg_t (sg_hm S s) (sg_sl S s) (fun u => S 8 u) (rg_md C m i).1 (rg_md C m i).2 (S 0 3).toNat).1 →
          (if t = (-1) then
            mv_R32 ((i : Int) + 1) ∧
            mv_Run G 35 136 7420 16 [(0, .inr (.inr 79)), (1, .inr (.inr 17)), (3, .inl t), (4, .inl ((i : Int) + 1))] [] (mh l) M1 (mv_qv (mh l) F)
          else
            (if t = (rg_run (fun i => (rg_t (sg_hm S s) (sg_sl S s) (fun u => S 8 u) (rg_md C m i).1 (rg_md C m i).2 (S 0 3).toNat).1) (rg_e1 C m) i).1 then
              mv_R32 ((i : Int) + 1) ∧
              mv_Wp G 40 [.inr (.inr 79), .inl t, .inl 1, .inl ((i : Int) + 1)] (mh l) M1 (mv_qv (mh l) fun M3 =>
              mv_R32 ((i : Int) + 1) ∧
              mv_Run G 35 136 7420 16 [(0, .inr (.inr 79)), (1, .inr (.inr 17)), (3, .inl t), (4, .inl ((i : Int) + 1))] [] (mh l) M3 (mv_qv (mh l) F))
            else
              mv_R32 ((i : Int) + 1) ∧
              mv_Wp G 40 [.inr (.inr 79), .inl t, .inl 0, .inl ((i : Int) + 1)] (mh l) M1 (mv_qv (mh l) fun M2 =>
              mv_R32 ((i : Int) + 1) ∧
              mv_Run G 35 136 7420 16 [(0, .inr (.inr 79)), (1, .inr (.inr 17)), (3, .inl t), (4, .inl ((i : Int) + 1))] [] (mh l) M2 (mv_qv (mh l) F)))) := by
        intro t ht
        have e1 : rg_run (fun i => (rg_t (sg_hm S s) (sg_sl S s) (fun u => S 8 u) (rg_md C m i).1 (rg_md C m i).2 (S 0 3).toNat).1) (rg_e1 C m) (i + 1) = rg_st (rg_run (fun i => (rg_t (sg_hm S s) (sg_sl S s) (fun u => S 8 u) (rg_md C m i).1 (rg_md C m i).2 (S 0 3).toNat).1) (rg_e1 C m) i) t (rg_e1 C m i) := by
          rw [ht]
          rfl
        rw [e1] at K
        generalize rg_run (fun i => (rg_t (sg_hm S s) (sg_sl S s) (fun u => S 8 u) (rg_md C m i).1 (rg_md C m i).2 (S 0 3).toNat).1) (rg_e1 C m) i = st at *
        have e3 : (rg_st st t (rg_e1 C m i)).1 = t := by
          unfold rg_st
          by_cases q : t = -1
          · rw [if_pos q, q]
          · rw [if_neg q]
            split <;> rfl
        rw [e3] at K
        by_cases q : t = -1
        · rw [if_pos q]
          refine ⟨by omega, K M1 ?_ fr1⟩
          unfold rg_st
          rw [if_pos q]
          exact rs
        · rw [if_neg q]
          by_cases q2 : t = st.1
          · rw [if_pos q2]
            exact ⟨by omega, cl_extend cu1 bo hm hi rs nn.1 nn.2 q (by rw [if_pos q2]) (fun M2 rs2 fr2 => ⟨by omega, K M2 rs2 (fun a i h1 h2 => (fr2 a i h1 h2).trans (fr1 a i h1 h2))⟩)⟩
          · rw [if_neg q2]
            exact ⟨by omega, cl_extend cu1 bo hm hi rs nn.1 nn.2 q (by rw [if_neg q2]) (fun M2 rs2 fr2 => ⟨by omega, K M2 rs2 (fun a i h1 h2 => (fr2 a i h1 h2).trans (fr1 a i h1 h2))⟩)⟩
      refine vr_X3_reckon_16 ?_
      rw [e4, if_neg (by omega)]
      by_cases q : i + 1 < m
      · obtain ⟨c3, c4⟩ := cu.2 (i + 1) q
        obtain ⟨b3, b4⟩ := bo (i + 1) q
        have emd : rg_md C m i = ((C i).1 + (C (i + 1)).1, (C i).2 + (C (i + 1)).2) := if_pos q
        rw [if_pos (by omega)]
        refine ⟨by omega, vr_X3_reckon_43 ?_⟩
        rw [if_pos rfl, if_pos rfl, show ((i : Int) + 1).toNat = i + 1 by omega, Int.toNat_natCast, e82, e82, e83, e83, c1, c2, c3, c4]
        refine ⟨by omega, by omega, by omega, by omega, by omega, by omega, by omega, by omega, cl_takerAt hw hC1 (by omega) (by omega) h80' hbb ?_⟩
        exact cont _ (by rw [emd])
      · have emd : rg_md C m i = ((C i).1 + (C i).2, (C i).2) := if_neg q
        rw [if_neg (by omega)]
        refine ⟨by omega, vr_X3_reckon_43 ?_⟩
        rw [if_neg (by decide), if_neg (by decide), Int.toNat_natCast, e82, e83, c1, c2, Int.add_zero]
        refine ⟨by omega, by omega, by omega, by omega, by omega, cl_takerAt hw hC1 (by omega) (by omega) h80' hbb ?_⟩
        exact cont _ (by rw [emd])
  exact key m 0 _ (by omega) ⟨mv_up_s, fun j hj => absurd hj (Nat.not_lt_zero j)⟩ (fun a i h1 h2 => mv_up_n h2)
theorem cl_unfitRing (hC : sg_C 0 S M) {a b : Int} (h4 : a < 0 ∨ b < 0 → F (-4) M) (h6 : ¬ (a < 0 ∨ b < 0) → 9 < a ∨ 9 < b → F (-6) M) (h3 : ¬ (a < 0 ∨ b < 0) → ¬ (9 < a ∨ 9 < b) → S 0 2 = 0 → F (-3) M) (h0 : ¬ (a < 0 ∨ b < 0) → ¬ (9 < a ∨ 9 < b) → S 0 2 ≠ 0 → F 0 M) : mv_Wp G 109 [.inr (.inr 1), .inl a, .inl b] (mh l) M (mv_qi (mh l) F) := by
  refine vw_X11_unfitRing ?_
  have c84 : M 8 4 = S 0 2 := hC.1.2.2.2.2
  rw [c84]
  split
  · exact mv_qi_i (h4 (by omega))
  · split
    · split
      · exact mv_qi_i (h6 (by omega) (by omega))
      · split
        · split
          · rename_i z
            exact mv_qi_i (h3 (by omega) (by omega) z)
          · rename_i z
            exact mv_qi_i (h0 (by omega) (by omega) z)
        · exact mv_qi_i (h6 (by omega) (by omega))
    · exact mv_qi_i (h4 (by omega))
theorem sg_CC_rg {M' : mv_Mem} (h : sg_CC S M) (hf : ∀ a i, ¬ (79 ≤ a ∧ a ≤ 86) → M' a i = M a i) : sg_CC S M' := sg_CC_q h (fun a i ha => hf a i (by omega)) (fun _ _ _ => rfl) (sg_K_fr h.1 (fun a i ha => hf a i (by omega)))
theorem ca_ring (hS : sg_oo c S) (hc : c ≤ 100000) (h : sg_CC S M) {a b : Int} (hF : ∀ M', sg_X M M' → sg_CC (sa_ring S a b).2 M' → F (sa_ring S a b).1 M') : mv_Wp G 107 [.inr (.inr 1), .inl a, .inl b] (mh l) M (mv_qi (mh l) F) := by
  have hw := hS.1
  have hC := h.1.1
  have R : ∀ r : Int, -6 ≤ r ∧ r ≤ -1 → (∀ M', sg_X M M' → sg_CC (sg_no S r) M' → F r M') → mv_Wp G 126 [.inr (.inr 1), .inl r] (mh l) M (mv_qi (mh l) fun x M' => mv_qi (mh l) F (some (.inl x)) (mh l) M') := fun r hr hf => cl_refuse hS hc h hr (fun M' a b => mv_qi_i (hf M' a b))
  unfold sa_ring at hF
  refine vw_X11_ring (cl_unfitRing hC (fun q => ?_) (fun q q2 => ?_) (fun q q2 q3 => ?_) (fun q q2 q3 => ?_))
  · rw [if_pos q] at hF
    rw [if_neg (by decide)]
    exact R _ (by decide) hF
  · rw [if_neg q, if_pos q2] at hF
    rw [if_neg (by decide)]
    exact R _ (by decide) hF
  · rw [if_neg q, if_neg q2, if_pos q3] at hF
    rw [if_neg (by decide)]
    exact R _ (by decide) hF
  · rw [if_neg q, if_neg q2, if_neg q3] at hF
    rw [if_pos rfl]
    refine cl_reckon hw hC (by omega) (fun M1 rs hn fr => ?_)
    have hh := hF M1 (fun a i ha => fr a i (by omega)) (sg_CC_rg h fr)
    dsimp only at hh
    rw [rs.1]
    by_cases z : b < ((sg_rg S a).2.1 : Int)
    · rw [if_pos z] at hh
      rw [if_neg (by omega), (rs.2 b.toNat (by omega)).1]
      exact ⟨by omega, mv_qi_i hh⟩
    · rw [if_neg z] at hh
      rw [if_pos (by omega)]
      exact mv_qi_i hh
theorem ca_edge (hS : sg_oo c S) (hc : c ≤ 100000) (h : sg_CC S M) {a b p : Int} (hF : ∀ M', sg_X M M' → sg_CC (sa_edge S a b p).2 M' → F (sa_edge S a b p).1 M') : mv_Wp G 108 [.inr (.inr 1), .inl a, .inl b, .inl p] (mh l) M (mv_ql (mh l) F) := by
  have hw := hS.1
  have hC := h.1.1
  have R : ∀ (S' : mv_Mem) (M : mv_Mem) (r : Int), sg_CC S M → -6 ≤ r ∧ r ≤ -1 → (∀ M', sg_X M M' → sg_CC (sg_no S r) M' → F (4000000000000000000 - r) M') → mv_Wp G 127 [.inr (.inr 1), .inl r] (mh l) M (mv_ql (mh l) fun x M' => mv_ql (mh l) F (some (.inr (.inl x))) (mh l) M') := fun _ M r h hr hf => cl_refuseLong hS hc h hr (fun M' a b => mv_ql_i (hf M' a b))
  unfold sa_edge at hF
  refine vw_X11_edge ?_
  by_cases p0 : p < 0
  · rw [if_pos (Or.inl p0)] at hF
    rw [if_pos p0]
    exact R S M _ h (by decide) hF
  by_cases p1 : 1 < p
  · rw [if_pos (Or.inr p1)] at hF
    rw [if_neg p0, if_neg (by omega)]
    exact R S M _ h (by decide) hF
  rw [if_neg (by omega)] at hF
  rw [if_neg p0, if_pos (by omega)]
  refine cl_unfitRing hC (fun q => ?_) (fun q q2 => ?_) (fun q q2 q3 => ?_) (fun q q2 q3 => ?_)
  · rw [if_pos q] at hF
    rw [if_neg (by decide)]
    exact R S M _ h (by decide) hF
  · rw [if_neg q, if_pos q2] at hF
    rw [if_neg (by decide)]
    exact R S M _ h (by decide) hF
  · rw [if_neg q, if_neg q2, if_pos q3] at hF
    rw [if_neg (by decide)]
    exact R S M _ h (by decide) hF
  · rw [if_neg q, if_neg q2, if_neg q3] at hF
    rw [if_pos rfl]
    refine cl_reckon hw hC (by omega) (fun M1 rs hn fr => ?_)
    have x1 : sg_X M M1 := fun a i ha => fr a i (by omega)
    rw [rs.1]
    by_cases z : ((sg_rg S a).2.1 : Int) ≤ b
    · rw [if_pos z] at hF
      rw [if_neg (by omega)]
      exact R S M1 _ (sg_CC_rg h fr) (by decide) (fun M' x2 c2 => hF M' (sg_X_t x1 x2) c2)
    · rw [if_neg z] at hF
      have hh := hF M1 x1 (sg_CC_rg h fr)
      dsimp only at hh
      obtain ⟨r1, r2, r3⟩ := rs.2 b.toNat (by omega)
      rw [if_pos (by omega), r2, r3]
      by_cases y : p = 0
      · rw [if_pos y] at hh
        rw [if_pos y]
        exact ⟨by omega, mv_ql_i hh⟩
      · rw [if_neg y] at hh
        rw [if_neg y]
        exact ⟨by omega, mv_ql_i hh⟩
end RJ
