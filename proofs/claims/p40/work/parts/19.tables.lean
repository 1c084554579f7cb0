/-! THE CLASS's TABLES OF WAYS -/
/-- the ways to the markets stand in the cells -/
def sg_W (S M : mv_Mem) : Prop := sg_tb S M true 41 ∧ sg_tb S M false 40 ∧ ∀ m k : Nat, (m : Int) < S 0 2 → sg_ok S k → M 36 (48 * m + sg_pl S k) = sg_way S false (S 7 m).toNat k ∧ M 37 (48 * m + sg_pl S k) = sg_way S true (S 7 m).toNat k
theorem sg_tb_fr {S M M' : mv_Mem} {wk : Bool} {b : Nat} (h : sg_tb S M wk b) (h1 : ∀ i, M' 39 i = M 39 i) (h2 : ∀ i, M' b i = M b i) : sg_tb S M' wk b := by
  intro k d hk hd
  rw [h1, h2]
  exact h k d hk hd
theorem sg_W_fr {S M M' : mv_Mem} (h : sg_W S M) (hm : ∀ c, 36 ≤ c → c ≤ 41 → c ≠ 38 → ∀ i, M' c i = M c i) : sg_W S M' := by
  refine ⟨sg_tb_fr h.1 (hm 39 (by omega) (by omega) (by omega)) (hm 41 (by omega) (by omega) (by omega)), sg_tb_fr h.2.1 (hm 39 (by omega) (by omega) (by omega)) (hm 40 (by omega) (by omega) (by omega)), fun m k h1 h2 => ?_⟩
  rw [hm 36 (by omega) (by omega) (by omega), hm 37 (by omega) (by omega) (by omega)]
  exact h.2.2 m k h1 h2
section TB
variable {S : mv_Mem} {G : mv_G} {l : Nat}
theorem sg_n48 (hw : sg_wf S) : ∃ n : Nat, (n : Int) = S 0 0 * S 0 1 ∧ n ≤ 48 := by
  obtain ⟨⟨⟨w1, w2⟩, ⟨h1, h2⟩, -⟩, -⟩ := hw
  have h3 : S 0 0 * S 0 1 ≤ 8 * 6 := Int.mul_le_mul w2 h2 (by omega) (by omega)
  have h4 : 0 ≤ S 0 0 * S 0 1 := Int.mul_nonneg (by omega) (by omega)
  exact ⟨(S 0 0 * S 0 1).toNat, by omega, by omega⟩
theorem sg_ar_i {b n : Nat} (h1 : 1 ≤ b) (h2 : b ≤ 87) (h3 : mh_t b = 100) (h4 : n ≤ mh_lens.getD b 0) : sg_ar l b n := by
  refine ⟨h1, h2, h3, ?_⟩
  show n ≤ (if b = 0 then l else mh_lens.getD b 0)
  rw [if_neg (by omega)]
  exact h4
/-- searches from each market, into the cell c -/
theorem cl_markets (hw : sg_wf S) (pc mi : Nat) (b c : Nat) (wk : Bool) {M0 : mv_Mem} {F : mv_Mem → Prop} (hC : sg_C 0 S M0) (ht : sg_tb S M0 wk b) (hb : sg_ar l b 192) (hc : sg_ar l c 144) (hbc : b ≠ c) (h39 : 39 ≠ c) (hcu : 35 ≤ c)
    (hrun : ∀ (M : mv_Mem) (v : Int), (if (M 8 4) ≤ v then mv_qv (mh l) F none (mh l) M
      else
        (0 ≤ (v : Int) ∧ (v : Int) < ((3 : Nat) : Int)) ∧
        mv_R32 (v * 48) ∧
        mv_Wp G 71 [.inr (.inr 35), .inl (M 8 2), .inl (M 15 (Int.toNat v)), .inr (.inr b), .inr (.inr c), .inl (v * 48)] (mh l) M (mv_qv (mh l) fun M1 =>
        mv_R32 (v + 1) ∧
        mv_Run G mi 87 4749 pc [(0, .inr (.inr 35)), (1, .inr (.inr 8)), (2, .inl (v + 1))] [] (mh l) M1 (mv_qv (mh l) F))) → mv_Run G mi 87 4749 pc [(0, .inr (.inr 35)), (1, .inr (.inr 8)), (2, .inl v)] [] (mh l) M (mv_qv (mh l) F))
    (h : ∀ M, (∀ a i, a ≠ c → M a i = M0 a i) → (∀ m k : Nat, (m : Int) < S 0 2 → sg_ok S k → M c (48 * m + sg_pl S k) = sg_way S wk (S 7 m).toNat k) → F M) :
    ∀ (n m : Nat) (M : mv_Mem), ((m + n : Nat) : Int) = S 0 2 → (∀ a i, a ≠ c → M a i = M0 a i) → (∀ j k : Nat, j < m → sg_ok S k → M c (48 * j + sg_pl S k) = sg_way S wk (S 7 j).toNat k) →
      mv_Run G mi 87 4749 pc [(0, .inr (.inr 35)), (1, .inr (.inr 8)), (2, .inl (m : Int))] [] (mh l) M (mv_qv (mh l) F) := by
  have hm3 := hw.1.2.2.1
  obtain ⟨n48, hn1, hn2⟩ := sg_n48 hw
  intro n
  induction n with
  | zero =>
    intro m M hmn ho hd
    refine hrun M m ?_
    have c1 : M 8 4 = S 0 2 := (ho 8 4 (by omega)).trans hC.1.2.2.2.2
    rw [c1, if_pos (by omega)]
    exact mv_qv_i (h M ho (fun j k hj hk => hd j k (by omega) hk))
  | succ n ih =>
    intro m M hmn ho hd
    refine hrun M m ?_
    have c1 : M 8 4 = S 0 2 := (ho 8 4 (by omega)).trans hC.1.2.2.2.2
    have c2 : M 8 2 = (n48 : Int) := ((ho 8 2 (by omega)).trans hC.1.2.2.1).trans hn1.symm
    have c3 : M 15 m = (sg_pl S (S 7 m).toNat : Int) := (ho 15 m (by omega)).trans (hC.2.2.1 m (by omega))
    obtain ⟨g1, g2, g3⟩ := sg_wf_m hw (show (m : Int) < S 0 2 by omega)
    rw [c1, if_neg (by omega), Int.toNat_natCast, c2, c3, show (m : Int) * 48 = ((48 * m : Nat) : Int) by omega]
    refine ⟨by omega, by omega, ?_⟩
    have hc' : sg_ar l c (48 * m + 48) := ⟨hc.1, hc.2.1, hc.2.2.1, Nat.le_trans (by omega) hc.2.2.2⟩
    refine cl_search hw (wk := wk) g3 hn1 (sg_tb_fr ht (fun i => ho 39 i h39) (fun i => ho b i hbc)) hb hc' (by omega) hbc h39 (fun M1 hf => ⟨by omega, ih (m + 1) M1 (by omega) (fun a i ha => ?_) (fun j k hj hk => ?_)⟩)
    · rw [hf.2 a i (fun q => ha q.1)]
      exact ho a i ha
    · by_cases q : j = m
      · subst q
        exact hf.1 k hk
      · have hp := (sg_pl_lt hw hk).2
        rw [hf.2 c _ (fun z => by omega)]
        exact hd j k (by omega) hk
theorem cl_reckonFoot (hw : sg_wf S) {M0 : mv_Mem} {F : mv_Mem → Prop} (hC : sg_C 0 S M0)
    (h : ∀ M, (∀ a i, a ≠ 37 → a ≠ 39 → a ≠ 41 → M a i = M0 a i) → sg_tb S M true 41 → (∀ m k : Nat, (m : Int) < S 0 2 → sg_ok S k → M 37 (48 * m + sg_pl S k) = sg_way S true (S 7 m).toNat k) → F M) :
    mv_Wp G 68 [.inr (.inr 35), .inr (.inr 8)] (mh l) M0 (mv_qv (mh l) F) := by
  obtain ⟨n48, hn1, hn2⟩ := sg_n48 hw
  have hCM : ∀ M : mv_Mem, (∀ a i, a ≠ 39 → a ≠ 41 → M a i = M0 a i) → sg_C 0 S M := fun M ho => sg_C_fr hC (fun c h1 h2 i => ho c i (by omega) (by omega))
  -- the entries of the places before p, and of p's directions before d
  have key : ∀ (n p : Nat) (M : mv_Mem), p + n = n48 → (∀ a i, a ≠ 39 → a ≠ 41 → M a i = M0 a i) →
      (∀ k d, sg_ok S k → d < 4 → sg_pl S k < p → M 39 (4 * sg_pl S k + d) = sg_pb S k d ∧ (sg_has S k d → M 41 (4 * sg_pl S k + d) = sg_fee S true k d)) →
      mv_Run G 68 87 4749 2 [(0, .inr (.inr 35)), (1, .inr (.inr 8)), (2, .inl (p : Int))] [] (mh l) M (mv_qv (mh l) F) := by
    intro n
    induction n with
    | zero =>
      intro p M hpn ho hd
      refine vr_X8_reckonFoot_2 ?_
      have c2 : M 8 2 = (n48 : Int) := ((ho 8 2 (by omega) (by omega)).trans hC.1.2.2.1).trans hn1.symm
      rw [c2, if_pos (by omega)]
      have ht : sg_tb S M true 41 := fun k d hk hdd => hd k d hk hdd (by have := (sg_pl_lt hw hk).1; omega)
      refine cl_markets hw 81 68 41 37 true (hCM M ho) ht (sg_ar_i (by decide) (by decide) (by decide) (by decide)) (sg_ar_i (by decide) (by decide) (by decide) (by decide)) (by decide) (by decide) (by decide) (fun M v => vr_X8_reckonFoot_81) (fun M' h1 h2 => ?_) (S 0 2).toNat 0 M (by have := hw.1.2.2.1; omega) (fun _ _ _ => rfl) (fun j k hj => by omega)
      exact h M' (fun a i a1 a2 a3 => (h1 a i a1).trans (ho a i a2 a3)) (sg_tb_fr ht (fun i => h1 39 i (by decide)) (fun i => h1 41 i (by decide))) h2
    | succ n ih =>
      intro p M hpn ho hd
      refine vr_X8_reckonFoot_2 ?_
      have c2 : M 8 2 = (n48 : Int) := ((ho 8 2 (by omega) (by omega)).trans hC.1.2.2.1).trans hn1.symm
      rw [c2, if_neg (by omega)]
      obtain ⟨k, hk, rfl⟩ := sg_pl_sur hw (p := p) (by omega)
      have inner : ∀ (m d : Nat) (M : mv_Mem), d + m = 4 → (∀ a i, a ≠ 39 → a ≠ 41 → M a i = M0 a i) →
          (∀ j e, sg_ok S j → e < 4 → sg_pl S j < sg_pl S k ∨ (j = k ∧ e < d) → M 39 (4 * sg_pl S j + e) = sg_pb S j e ∧ (sg_has S j e → M 41 (4 * sg_pl S j + e) = sg_fee S true j e)) →
          mv_Run G 68 87 4749 12 [(0, .inr (.inr 35)), (1, .inr (.inr 8)), (2, .inl (sg_pl S k : Int)), (3, .inl (d : Int))] [] (mh l) M (mv_qv (mh l) F) := by
        intro m
        induction m with
        | zero =>
          intro d M hdm ho hd
          refine vr_X8_reckonFoot_12 ?_
          rw [if_pos (by omega)]
          refine ⟨by omega, ih (sg_pl S k + 1) M (by omega) ho (fun j e hj he hlt => hd j e hj he ?_)⟩
          by_cases q : sg_pl S j < sg_pl S k
          · exact Or.inl q
          · exact Or.inr ⟨sg_pl_inj hw hj hk (by omega), by omega⟩
        | succ m ihm =>
          intro d M hdm ho hd
          refine vr_X8_reckonFoot_12 ?_
          rw [if_neg (by omega)]
          refine cl_beside hw (hCM M ho) hk (by omega) ?_
          rw [show Int.toNat ((sg_pl S k : Int) * 4 + (d : Int)) = 4 * sg_pl S k + d by omega]
          have hp := (sg_pl_lt hw hk).2
          refine ⟨by omega, by omega, by omega, by omega, by omega, ?_⟩
          have hold : ∀ (v w : Int) (j e : Nat), sg_ok S j → ¬ (j = k ∧ e = d) → e < 4 → (mv_up (mv_up M 39 (4 * sg_pl S k + d) v) 41 (4 * sg_pl S k + d) w) 39 (4 * sg_pl S j + e) = M 39 (4 * sg_pl S j + e) ∧ (mv_up (mv_up M 39 (4 * sg_pl S k + d) v) 41 (4 * sg_pl S k + d) w) 41 (4 * sg_pl S j + e) = M 41 (4 * sg_pl S j + e) := by
            intro v w j e hj hne he
            have hne2 : ¬ (4 * sg_pl S j + e = 4 * sg_pl S k + d) := fun q => hne ⟨sg_pl_inj hw hj hk (by omega), by omega⟩
            exact ⟨by rw [mv_up_n (fun q => by omega), mv_up_n (fun q => hne2 q.2)], by rw [mv_up_n (fun q => hne2 q.2), mv_up_n (fun q => by omega)]⟩
          have hnext : ∀ (w : Int), (sg_has S k d → w = sg_fee S true k d) → mv_Run G 68 87 4749 12 [(0, .inr (.inr 35)), (1, .inr (.inr 8)), (2, .inl (sg_pl S k : Int)), (3, .inl ((d : Int) + 1))] [] (mh l) (mv_up (mv_up M 39 (4 * sg_pl S k + d) (sg_pb S k d)) 41 (4 * sg_pl S k + d) w) (mv_qv (mh l) F) := by
            intro w hwv
            refine ihm (d + 1) _ (by omega) (fun a i a1 a2 => by rw [mv_up_n (fun q => a2 q.1), mv_up_n (fun q => a1 q.1)]; exact ho a i a1 a2) (fun j e hj he hlt => ?_)
            by_cases q : j = k ∧ e = d
            · obtain ⟨rfl, rfl⟩ := q
              rw [mv_up_n (fun q => by omega), mv_up_s, mv_up_s]
              exact ⟨rfl, hwv⟩
            · obtain ⟨z1, z2⟩ := hold (sg_pb S k d) w j e hj q he
              rw [z1, z2]
              refine hd j e hj he ?_
              rcases hlt with hlt | ⟨rfl, hlt⟩
              · exact Or.inl hlt
              · exact Or.inr ⟨rfl, by omega⟩
          by_cases hh : sg_has S k d
          · obtain ⟨e1, ho1⟩ := sg_pb_yes hw hk hh (by omega)
            have hn := (sg_pl_lt hw ho1).2
            have ct : M 11 (sg_pl S (sg_nx k d)) = S 2 (sg_nx k d) := ((hCM M ho).2.1 _ ho1).2.2.1
            have hfee := sg_fee_b hw (wk := true) hk (by omega) hh
            have hfe : sg_fee S true k d = 10 + S 2 (sg_nx k d) := by
              unfold sg_fee
              rw [if_pos rfl]
            rw [if_neg (by omega), mv_up_n (fun q => by omega), show (sg_pb S k d).toNat = sg_pl S (sg_nx k d) by omega, ct]
            exact ⟨by omega, by omega, by omega, by omega, hnext _ (fun _ => hfe.symm)⟩
          · rw [if_pos (sg_pb_no hh)]
            exact ⟨by omega, by omega, hnext 0 (fun q => absurd q hh)⟩
      exact inner 4 0 M (by omega) ho (fun j e hj he hlt => by
        rcases hlt with hlt | ⟨-, hlt⟩
        · exact hd j e hj he hlt
        · omega)
  refine vw_X8_reckonFoot ?_
  exact key n48 0 M0 (by omega) (fun _ _ _ _ => rfl) (fun k d _ _ hlt => by omega)
theorem cl_reckonRoads (hw : sg_wf S) {M0 : mv_Mem} {F : mv_Mem → Prop} (hC : sg_C 0 S M0) (hN : ∀ k d, sg_ok S k → d < 4 → M0 39 (4 * sg_pl S k + d) = sg_pb S k d)
    (h : ∀ M, (∀ a i, a ≠ 36 → a ≠ 40 → M a i = M0 a i) → sg_tb S M false 40 → (∀ m k : Nat, (m : Int) < S 0 2 → sg_ok S k → M 36 (48 * m + sg_pl S k) = sg_way S false (S 7 m).toNat k) → F M) :
    mv_Wp G 69 [.inr (.inr 35), .inr (.inr 8)] (mh l) M0 (mv_qv (mh l) F) := by
  obtain ⟨n48, hn1, hn2⟩ := sg_n48 hw
  have hCM : ∀ M : mv_Mem, (∀ a i, a ≠ 40 → M a i = M0 a i) → sg_C 0 S M := fun M ho => sg_C_fr hC (fun c h1 h2 i => ho c i (by omega))
  have key : ∀ (n i : Nat) (M : mv_Mem), i + n = 4 * n48 → (∀ a i, a ≠ 40 → M a i = M0 a i) →
      (∀ k d, sg_ok S k → d < 4 → 4 * sg_pl S k + d < i → sg_has S k d → M 40 (4 * sg_pl S k + d) = sg_fee S false k d) →
      mv_Run G 69 87 4749 2 [(0, .inr (.inr 35)), (1, .inr (.inr 8)), (2, .inl (i : Int))] [] (mh l) M (mv_qv (mh l) F) := by
    intro n
    induction n with
    | zero =>
      intro i M hin ho hd
      refine vr_X8_reckonRoads_2 ?_
      have c2 : M 8 2 = (n48 : Int) := ((ho 8 2 (by omega)).trans hC.1.2.2.1).trans hn1.symm
      rw [c2, if_pos (by omega)]
      have ht : sg_tb S M false 40 := fun k d hk hdd => ⟨(ho 39 _ (by omega)).trans (hN k d hk hdd), hd k d hk hdd (by have := (sg_pl_lt hw hk).1; omega)⟩
      refine ⟨by omega, cl_markets hw 78 69 40 36 false (hCM M ho) ht (sg_ar_i (by decide) (by decide) (by decide) (by decide)) (sg_ar_i (by decide) (by decide) (by decide) (by decide)) (by decide) (by decide) (by decide) (fun M v => vr_X8_reckonRoads_78) (fun M' h1 h2 => ?_) (S 0 2).toNat 0 M (by have := hw.1.2.2.1; omega) (fun _ _ _ => rfl) (fun j k hj => by omega)⟩
      exact h M' (fun a i a1 a2 => (h1 a i a1).trans (ho a i a2)) (sg_tb_fr ht (fun i => h1 39 i (by decide)) (fun i => h1 40 i (by decide))) h2
    | succ n ih =>
      intro i M hin ho hd
      refine vr_X8_reckonRoads_2 ?_
      have c2 : M 8 2 = (n48 : Int) := ((ho 8 2 (by omega)).trans hC.1.2.2.1).trans hn1.symm
      obtain ⟨k, hk, hkp⟩ := sg_pl_sur hw (p := i / 4) (by omega)
      have hd4 : i % 4 < 4 := by omega
      have ei : i = 4 * sg_pl S k + i % 4 := by omega
      generalize i % 4 = d at hd4 ei
      subst ei
      have c14 : M 14 (4 * sg_pl S k + d) = S 5 (4 * k + d) := ((hCM M ho).2.1 k hk).2.2.2.2.2 d hd4
      have c39 : M 39 (4 * sg_pl S k + d) = sg_pb S k d := (ho 39 _ (by omega)).trans (hN k d hk hd4)
      have hk48 := sg_ok_48 hw hk
      have h5 := hw.2.1.2.2.2.2.1 (4 * k + d) (by omega)
      have hp := (sg_pl_lt hw hk).2
      rw [c2, if_neg (by omega), Int.toNat_natCast, c14, c39]
      have hnext : ∀ (w : Int), (sg_has S k d → w = sg_fee S false k d) → mv_Run G 69 87 4749 2 [(0, .inr (.inr 35)), (1, .inr (.inr 8)), (2, .inl (((4 * sg_pl S k + d : Nat) : Int) + 1))] [] (mh l) (mv_up M 40 (4 * sg_pl S k + d) w) (mv_qv (mh l) F) := by
        intro w hwv
        refine ih (4 * sg_pl S k + d + 1) _ (by omega) (fun a i a1 => by rw [mv_up_n (fun q => a1 q.1)]; exact ho a i a1) (fun j e hj he hlt hh => ?_)
        by_cases q : 4 * sg_pl S j + e = 4 * sg_pl S k + d
        · have hjk : j = k := sg_pl_inj hw hj hk (by omega)
          have hed : e = d := by rw [hjk] at q; omega
          subst hjk
          subst hed
          rw [mv_up_s]
          exact hwv hh
        · rw [mv_up_n (fun z => q z.2)]
          exact hd j e hj he (by omega) hh
      refine ⟨by omega, by omega, by omega, ?_⟩
      by_cases hh : sg_has S k d
      · obtain ⟨e1, ho1⟩ := sg_pb_yes hw hk hh hd4
        have hn := (sg_pl_lt hw ho1).2
        have ct : M 11 (sg_pl S (sg_nx k d)) = S 2 (sg_nx k d) := ((hCM M ho).2.1 _ ho1).2.2.1
        have hfee := sg_fee_b hw (wk := false) hk hd4 hh
        have hne : ¬ sg_pb S k d = -1 := by omega
        rw [if_neg hne, if_neg hne, show (sg_pb S k d).toNat = sg_pl S (sg_nx k d) by omega, ct]
        split
        · rename_i q
          have hfe : sg_fee S false k d = S 6 0 + S 2 (sg_nx k d) := by
            unfold sg_fee
            rw [if_neg (by decide), if_pos q]
          have c16 : M 16 (Int.toNat 0) = S 6 0 := (hCM M ho).2.2.2.1 0 (by omega)
          rw [c16]
          exact ⟨by omega, by omega, by omega, by omega, by omega, hnext _ (fun _ => hfe.symm)⟩
        · rename_i q
          have hfe : sg_fee S false k d = S 6 (S 5 (4 * k + d)).toNat + S 2 (sg_nx k d) := by
            unfold sg_fee
            rw [if_neg (by decide), if_neg q]
          have c16 : M 16 (S 5 (4 * k + d)).toNat = S 6 (S 5 (4 * k + d)).toNat := (hCM M ho).2.2.2.1 _ (by omega)
          rw [c16]
          exact ⟨by omega, by omega, by omega, by omega, by omega, by omega, hnext _ (fun _ => hfe.symm)⟩
      · rw [if_pos (sg_pb_no hh), if_pos (sg_pb_no hh)]
        split
        · exact ⟨by omega, by omega, hnext 0 (fun q => absurd q hh)⟩
        · exact ⟨by omega, by omega, by omega, hnext 0 (fun q => absurd q hh)⟩
  refine vw_X8_reckonRoads ?_
  exact key (4 * n48) 0 M0 (by omega) (fun _ _ _ => rfl) (fun k d _ _ hlt => by omega)
end TB
