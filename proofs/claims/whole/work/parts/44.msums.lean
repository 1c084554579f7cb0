/-! THE MODEL's SUMS, WHAT IT HOLDS, WHAT FALLS -/
/-- the least that a rent is asked of: the bids found, the tax -/
def sg_Fb (S M : mv_Mem) : Prop := M 88 37 = S 0 4 ∧ ∀ k, k < 48 → (sg_ok S k → M 119 k = sg_mx S k) ∧ (¬ sg_ok S k → M 119 k = 0)
noncomputable def sg_rz (S : mv_Mem) (k : Nat) : Int := sg_if (sg_ok S k) (sg_rt S k) 0
section MS
variable {S : mv_Mem} {G : mv_G} {l : Nat} {M : mv_Mem} {F : Int → mv_Mem → Prop}
theorem sg_Fb_o (hM : sg_Mo S M) (hF : sg_Fd S M) : sg_Fb S M := ⟨hM.1.2.2.2.2.1, fun k hk => ⟨fun z => ((hF k hk).1 z).2.2, fun z => ((hF k hk).2 z).2.2⟩⟩
theorem sg_rz_b (hw : sg_wf S) (k : Nat) : 0 ≤ sg_rz S k ∧ sg_rz S k ≤ 160000000 := by
  unfold sg_rz
  by_cases q : sg_ok S k
  · rw [sg_if_y q]
    have := sg_rt_b hw q
    omega
  · rw [sg_if_n q]
    omega
theorem md_rentOf (hw : sg_wf S) (hF : sg_Fb S M) {k : Nat} (hk : k < 48) (h : F (sg_rz S k) M) : mv_Wp G 175 [.inr (.inr 88), .inl (k : Int)] (mh l) M (mv_ql (mh l) F) := by
  refine vw_X12_rentOf ?_
  rw [Int.toNat_natCast, hF.1]
  unfold sg_rz at h
  by_cases q : sg_ok S k
  · rw [sg_if_y q] at h
    rw [((hF.2 k hk).1 q)]
    obtain ⟨r1, r2, r3, r4, r5⟩ := sg_rt_b hw q
    have hb := sg_mx_b hw q
    unfold sg_rt at h r1 r2
    rw [r5] at h r1 r2 ⊢
    exact ⟨by omega, by omega, by omega, ⟨by decide, by omega⟩, by omega, mv_ql_i h⟩
  · rw [sg_if_n q] at h
    rw [((hF.2 k hk).2 q), Int.zero_mul]
    exact ⟨by omega, by omega, by omega, ⟨by decide, by decide⟩, by decide, mv_ql_i h⟩
/-- a sum over all 48 acres is the one over those that are there -/
theorem sg_fo_z {f g : Nat → Int → Int} {a : Int} (h1 : ∀ k x, sg_ok S k → g k x = f k x) (h0 : ∀ k x, ¬ sg_ok S k → g k x = x) (k : Nat) : g k (sg_fo S f a k) = sg_fo S f a (k + 1) := by
  by_cases q : sg_ok S k
  · rw [sg_fo_s q, h1 k _ q]
  · rw [sg_fo_n q, h0 k _ q]
theorem md_allRents (hw : sg_wf S) (hF : sg_Fb S M) (h : F (sg_all S) M) : mv_Wp G 176 [.inr (.inr 88)] (mh l) M (mv_ql (mh l) F) := by
  have hb := fun n => sg_fo_b (S := S) (f := fun k x => x + sg_rt S k) (a := 0) (b := 160000000) (by omega) (fun k x hk => by have := sg_rt_b hw hk; omega) n
  have key : ∀ (n k : Nat), k + n = 48 → mv_Run G 176 136 7420 4 [(0, .inr (.inr 88)), (1, .inr (.inl (sg_fo S (fun k x => x + sg_rt S k) 0 k))), (3, .inl (k : Int))] [] (mh l) M (mv_ql (mh l) F) := by
    intro n
    induction n with
    | zero =>
      intro k hk
      refine vr_X12_allRents_4 ?_
      rw [if_pos (by omega), show k = 48 by omega]
      exact mv_ql_i h
    | succ n ih =>
      intro k hk
      refine vr_X12_allRents_4 ?_
      have h1 := hb k
      have h2 := sg_rz_b hw k
      have e := sg_fo_z (S := S) (f := fun k x => x + sg_rt S k) (g := fun k x => x + sg_rz S k) (a := 0) (fun k x hk => by show x + sg_rz S k = x + sg_rt S k; unfold sg_rz; rw [sg_if_y hk]) (fun k x hk => by show x + sg_rz S k = x; unfold sg_rz; rw [sg_if_n hk]; omega) k
      have K := ih (k + 1) (by omega)
      rw [← e] at K
      rw [if_neg (by omega)]
      exact md_rentOf hw hF (by omega) ⟨by omega, by omega, K⟩
  refine vw_X12_allRents ?_
  exact key 48 0 (by omega)
theorem sg_u3_eq {t : Int} {u m : Nat} (ht : -1 ≤ t) (hm : m < 3) : (sg_u3 t = (u : Int) ∧ sg_m3 t = (m : Int)) ↔ t = ((3 * u + m : Nat) : Int) := by
  unfold sg_u3 sg_m3
  split <;> omega
theorem sg_tk_lo (hw : sg_wf S) (k : Nat) : -1 ≤ sg_tk S k ∧ sg_tk S k < 18 := by
  rcases sg_tk_i hw k with z | ⟨o, z1, z2, z3, z4, z5⟩ <;> omega
theorem md_comesTo (hw : sg_wf S) (hM : sg_Mo S M) (hF : sg_Fd S M) {u m : Nat} (hu : u < 6) (hm : m < 3) (h : F (sg_arr S (3 * u + m)) M) : mv_Wp G 178 [.inr (.inr 88), .inl (u : Int), .inl (m : Int)] (mh l) M (mv_qi (mh l) F) := by
  have e3 : (3 * u + m) / 3 = u := by omega
  unfold sg_arr at h
  rw [e3] at h
  have hb := fun n => sg_fo_b (S := S) (f := fun k x => if sg_tk S k = ((3 * u + m : Nat) : Int) then x + sg_yl S u (S 1 k) else x) (a := 0) (b := 990) (by omega) (fun k x hk => by have := sg_yl_b hw hu (sg_s1 hw hk); split <;> omega) n
  have key : ∀ (n k : Nat), k + n = 48 → mv_Run G 178 136 7420 5 [(0, .inr (.inr 88)), (1, .inl (u : Int)), (2, .inl (m : Int)), (3, .inl (sg_fo S (fun k x => if sg_tk S k = ((3 * u + m : Nat) : Int) then x + sg_yl S u (S 1 k) else x) 0 k)), (4, .inl (k : Int))] [] (mh l) M (mv_qi (mh l) F) := by
    intro n
    induction n with
    | zero =>
      intro k hk
      refine vr_X12_comesTo_5 ?_
      rw [if_pos (by omega), show k = 48 by omega]
      exact mv_qi_i h
    | succ n ih =>
      intro k hk
      refine vr_X12_comesTo_5 ?_
      have h1 := hb k
      have K := ih (k + 1) (by omega)
      rw [if_neg (by omega), Int.toNat_natCast]
      refine ⟨by omega, ?_⟩
      by_cases q : sg_ok S k
      · rw [sg_fo_s q] at K
        obtain ⟨f1, f2, -⟩ := (hF k (by omega)).1 q
        have c91 : M 91 k = S 1 k := (hM.2.1 k q).1
        have he := sg_u3_eq (u := u) (m := m) (sg_tk_lo hw k).1 hm
        rw [f1, f2, c91]
        have hy := sg_yl_b hw hu (sg_s1 hw q)
        by_cases z1 : sg_u3 (sg_tk S k) = (u : Int)
        · rw [if_pos z1]
          refine ⟨by omega, ?_⟩
          by_cases z2 : sg_m3 (sg_tk S k) = (m : Int)
          · rw [if_pos (he.1 ⟨z1, z2⟩)] at K
            rw [if_pos z2]
            exact ⟨by omega, md_yieldOf hw hM hu (sg_s1 hw q) ⟨by omega, by omega, K⟩⟩
          · rw [if_neg (fun y => z2 (he.2 y).2)] at K
            rw [if_neg z2, Int.add_zero]
            exact ⟨by omega, by omega, K⟩
        · rw [if_neg (fun y => z1 (he.2 y).1)] at K
          rw [if_neg z1, Int.add_zero]
          exact ⟨by omega, by omega, K⟩
      · rw [sg_fo_n q] at K
        obtain ⟨f1, -, -⟩ := (hF k (by omega)).2 q
        rw [f1, if_neg (by omega), Int.add_zero]
        exact ⟨by omega, by omega, K⟩
  refine vw_X12_comesTo ?_
  exact key 48 0 (by omega)
/-- the farthest: from the place behind the finding -/
theorem md_outs (hw : sg_wf S) (hM : sg_Mo S M) (hW : sg_MW S M) (hF : sg_Fd S M) {u : Nat} (hu : u < 6) (h : F (sg_out S (u : Int)) M) : mv_Run G 198 136 7420 23 [(0, .inr (.inr 88)), (1, .inl (u : Int)), (2, .inl (-9)), (3, .inl 0)] [] (mh l) M (mv_qi (mh l) F) := by
  unfold sg_out at h
  generalize hf : (fun (k : Nat) (x : Int) => if sg_tk S k ≠ -1 ∧ sg_tk S k / 3 = (u : Int) then (if x < sg_wo S (sg_tk S k).toNat k then sg_wo S (sg_tk S k).toNat k else x) else x) = f at h
  have fk : ∀ k x, f k x = if sg_tk S k ≠ -1 ∧ sg_tk S k / 3 = (u : Int) then (if x < sg_wo S (sg_tk S k).toNat k then sg_wo S (sg_tk S k).toNat k else x) else x := fun k x => by rw [← hf]
  have key : ∀ (n k : Nat), k + n = 48 → mv_Run G 198 136 7420 23 [(0, .inr (.inr 88)), (1, .inl (u : Int)), (2, .inl (sg_fo S f (-9) k)), (3, .inl (k : Int))] [] (mh l) M (mv_qi (mh l) F) := by
    intro n
    induction n with
    | zero =>
      intro k hk
      refine vr_X12_out_23 ?_
      rw [if_pos (by omega), show k = 48 by omega]
      exact mv_qi_i h
    | succ n ih =>
      intro k hk
      refine vr_X12_out_23 ?_
      have K := ih (k + 1) (by omega)
      rw [if_neg (by omega), Int.toNat_natCast]
      refine ⟨by omega, ?_⟩
      by_cases q : sg_ok S k
      · rw [sg_fo_s q, fk] at K
        obtain ⟨f1, f2, -⟩ := (hF k (by omega)).1 q
        rw [f1, f2]
        rcases sg_tk_i hw k with z | ⟨o, z1, z2, z3, z4, z5⟩
        · rw [if_neg (fun y => y.1 z.1)] at K
          rw [z.1, if_neg (show ¬ sg_u3 (-1) = (u : Int) by show ¬ (-9 : Int) = (u : Int); omega)]
          exact ⟨by omega, K⟩
        · rw [z4, sg_u3_n, sg_m3_n]
          rw [z4] at K
          by_cases y : o / 3 = u
          · rw [if_pos ⟨by omega, by omega⟩, Int.toNat_natCast] at K
            rw [if_pos (by omega)]
            have eo : 3 * u + o % 3 = o := by omega
            refine ⟨by omega, md_wayOf hM hW hw hu q z3 ?_⟩
            rw [eo, f2, z4, sg_m3_n]
            split
            · rw [if_neg (by omega)] at K
              exact ⟨by omega, K⟩
            · rw [if_pos (by omega)] at K
              refine ⟨by omega, md_wayOf hM hW hw hu q z3 ?_⟩
              rw [eo]
              exact ⟨by omega, K⟩
          · rw [if_neg (fun w => y (by omega))] at K
            rw [if_neg (by omega)]
            exact ⟨by omega, K⟩
      · rw [sg_fo_n q] at K
        obtain ⟨f1, -, -⟩ := (hF k (by omega)).2 q
        rw [f1, if_neg (by omega)]
        exact ⟨by omega, K⟩
  exact key 48 0 (by omega)
theorem md_isBorder (hw : sg_wf S) (hM : sg_Mo S M) (hF : sg_Fd S M) {k d : Nat} (hk : sg_ok S k) (hd : d = 0 ∨ d = 2) (h48 : k % 8 < 7 ∨ d = 2) (h : F (sg_bd S k d) M) : mv_Wp G 199 [.inr (.inr 88), .inl (k : Int), .inl (sg_nx k d : Int)] (mh l) M (mv_qi (mh l) F) := by
  have hk48 := sg_ok_48 hw hk
  have hiff : sg_ok S (sg_nx k d) ↔ sg_has S k d := by
    obtain ⟨k1, k2⟩ := hk
    rcases hd with rfl | rfl
    · show (((k + 1) % 8 : Nat) : Int) < S 0 0 ∧ (((k + 1) / 8 : Nat) : Int) < S 0 1 ↔ ((k % 8 + 1 : Nat) : Int) < S 0 0
      omega
    · show (((k + 8) % 8 : Nat) : Int) < S 0 0 ∧ (((k + 8) / 8 : Nat) : Int) < S 0 1 ↔ ((k / 8 + 1 : Nat) : Int) < S 0 1
      omega
  unfold sg_bd at h
  refine vw_X12_isBorder (md_isAcre hw hM (fun hok => ?_) (fun hok => ?_))
  · have hn48 := sg_ok_48 hw hok
    have t1 := sg_tk_lo hw k
    have t2 := sg_tk_lo hw (sg_nx k d)
    have g1 := ((hF k hk48).1 hk).2.1
    have g2 := ((hF _ hn48).1 hok).2.1
    have hh := hiff.1 hok
    rw [if_neg (by decide), Int.toNat_natCast, Int.toNat_natCast, g1, g2]
    have m1 : sg_m3 (sg_tk S k) = if sg_tk S k = -1 then -9 else sg_tk S k % 3 := rfl
    have m2 : sg_m3 (sg_tk S (sg_nx k d)) = if sg_tk S (sg_nx k d) = -1 then -9 else sg_tk S (sg_nx k d) % 3 := rfl
    refine ⟨by omega, ?_⟩
    by_cases z1 : sg_tk S k = -1
    · rw [sg_if_n (fun y => y.2.1 z1)] at h
      rw [m1, if_pos z1, if_pos (by decide)]
      exact ⟨by decide, mv_qi_i h⟩
    · rw [m1, if_neg z1, if_neg (by omega)]
      refine ⟨by omega, ?_⟩
      by_cases z2 : sg_tk S (sg_nx k d) = -1
      · rw [sg_if_n (fun y => y.2.2.1 z2)] at h
        rw [m2, if_pos z2, if_pos (by decide)]
        exact ⟨by decide, mv_qi_i h⟩
      · rw [m2, if_neg z2, if_neg (by omega)]
        refine ⟨by omega, by omega, ?_⟩
        split
        · rename_i z3
          rw [sg_if_n (fun y => y.2.2.2 z3)] at h
          exact ⟨by decide, mv_qi_i h⟩
        · rename_i z3
          rw [sg_if_y ⟨hh, z1, z2, z3⟩] at h
          exact ⟨by decide, mv_qi_i h⟩
  · rw [sg_if_n (fun y => hok (hiff.2 y.1))] at h
    rw [if_pos rfl]
    exact ⟨by decide, mv_qi_i h⟩
theorem md_bords (hw : sg_wf S) (hM : sg_Mo S M) (hF : sg_Fd S M) (h : F (sg_bds S) M) : mv_Run G 200 136 7420 8 [(0, .inr (.inr 88)), (1, .inl 0), (2, .inl 0)] [] (mh l) M (mv_qi (mh l) F) := by
  have hb := fun n => sg_fo_b (S := S) (f := fun k x => x + sg_bd S k 0 + sg_bd S k 2) (a := 0) (b := 2) (by omega) (fun k x hk => by have h1 := sg_bd_01 S k 0; have h2 := sg_bd_01 S k 2; omega) n
  have hwd := hw.1.1
  have hht := hw.1.2.1
  have key : ∀ (n k : Nat), k + n = 48 → mv_Run G 200 136 7420 8 [(0, .inr (.inr 88)), (1, .inl (sg_fo S (fun k x => x + sg_bd S k 0 + sg_bd S k 2) 0 k)), (2, .inl (k : Int))] [] (mh l) M (mv_qi (mh l) F) := by
    intro n
    induction n with
    | zero =>
      intro k hk
      refine vr_X12_borders_8 ?_
      rw [if_pos (by omega), show k = 48 by omega]
      exact mv_qi_i h
    | succ n ih =>
      intro k hk
      refine vr_X12_borders_8 ?_
      have h1 := hb k
      have K := ih (k + 1) (by omega)
      rw [if_neg (by omega)]
      refine md_isAcre hw hM (fun hok => ?_) (fun hok => ?_)
      · rw [sg_fo_s hok] at K
        generalize sg_fo S (fun k x => x + sg_bd S k 0 + sg_bd S k 2) 0 k = acc at K h1
        have hn0 : k % 8 = 7 → sg_bd S k 0 = 0 := fun z => sg_if_n (fun y => by
          have : ((k % 8 + 1 : Nat) : Int) < S 0 0 := y.1
          omega)
        have hn2 : 40 ≤ k → sg_bd S k 2 = 0 := fun z => sg_if_n (fun y => by
          have : ((k / 8 + 1 : Nat) : Int) < S 0 1 := y.1
          omega)
        -- what lies below, with what was counted
        have below : ∀ a : Int, 0 ≤ a → a ≤ 1000 → mv_Run G 200 136 7420 8 [(0, .inr (.inr 88)), (1, .inl (a + sg_bd S k 2)), (2, .inl ((k : Int) + 1))] [] (mh l) M (mv_qi (mh l) F) →
            (if 40 ≤ (k : Int) then
              mv_R32 (a + 0) ∧
              mv_R32 ((k : Int) + 1) ∧
              mv_Run G 200 136 7420 8 [(0, .inr (.inr 88)), (1, .inl (a + 0)), (2, .inl ((k : Int) + 1))] [] (mh l) M (mv_qi (mh l) F)
            else
              mv_R32 ((k : Int) + 8) ∧
              mv_Wp G 199 [.inr (.inr 88), .inl (k : Int), .inl ((k : Int) + 8)] (mh l) M (mv_qi (mh l) fun x2 M2 =>
              (if x2 = 0 then
                mv_R32 (a + 0) ∧
                mv_R32 ((k : Int) + 1) ∧
                mv_Run G 200 136 7420 8 [(0, .inr (.inr 88)), (1, .inl (a + 0)), (2, .inl ((k : Int) + 1))] [] (mh l) M2 (mv_qi (mh l) F)
              else
                mv_R32 (a + 1) ∧
                mv_R32 ((k : Int) + 1) ∧
                mv_Run G 200 136 7420 8 [(0, .inr (.inr 88)), (1, .inl (a + 1)), (2, .inl ((k : Int) + 1))] [] (mh l) M2 (mv_qi (mh l) F)))) := by
          intro a ha0 ha1 KK
          split
          · rename_i z
            rw [hn2 (by omega)] at KK
            exact ⟨by omega, by omega, KK⟩
          · rename_i z
            refine ⟨by omega, ?_⟩
            have e8 : (k : Int) + 8 = (sg_nx k 2 : Int) := by show (k : Int) + 8 = ((k + 8 : Nat) : Int); omega
            rw [e8]
            refine md_isBorder hw hM hF hok (Or.inr rfl) (Or.inr rfl) ?_
            rcases sg_bd_01 S k 2 with y | y
            · rw [y] at KK
              rw [if_pos y]
              exact ⟨by omega, by omega, KK⟩
            · rw [y] at KK
              rw [if_neg (by omega)]
              exact ⟨by omega, by omega, KK⟩
        rw [if_neg (by decide), sg_tm (by omega)]
        refine ⟨by decide, ?_⟩
        split
        · rename_i z
          rw [hn0 (by omega), Int.add_zero] at K
          rw [Int.add_zero]
          exact ⟨by omega, below acc (by omega) (by omega) K⟩
        · rename_i z
          refine ⟨by omega, ?_⟩
          have e1 : (k : Int) + 1 = (sg_nx k 0 : Int) := by show (k : Int) + 1 = ((k + 1 : Nat) : Int); omega
          have B := md_isBorder (G := G) (l := l) (d := 0) hw hM hF hok (Or.inl rfl) (Or.inl (by omega)) (F := fun x3 M3 => (if x3 = 0 then
            mv_R32 (acc + 0) ∧
            (if 40 ≤ (k : Int) then
              mv_R32 ((acc + 0) + 0) ∧
              mv_R32 ((k : Int) + 1) ∧
              mv_Run G 200 136 7420 8 [(0, .inr (.inr 88)), (1, .inl ((acc + 0) + 0)), (2, .inl ((k : Int) + 1))] [] (mh l) M3 (mv_qi (mh l) F)
            else
              mv_R32 ((k : Int) + 8) ∧
              mv_Wp G 199 [.inr (.inr 88), .inl (k : Int), .inl ((k : Int) + 8)] (mh l) M3 (mv_qi (mh l) fun x4 M4 =>
              (if x4 = 0 then
                mv_R32 ((acc + 0) + 0) ∧
                mv_R32 ((k : Int) + 1) ∧
                mv_Run G 200 136 7420 8 [(0, .inr (.inr 88)), (1, .inl ((acc + 0) + 0)), (2, .inl ((k : Int) + 1))] [] (mh l) M4 (mv_qi (mh l) F)
              else
                mv_R32 ((acc + 0) + 1) ∧
                mv_R32 ((k : Int) + 1) ∧
                mv_Run G 200 136 7420 8 [(0, .inr (.inr 88)), (1, .inl ((acc + 0) + 1)), (2, .inl ((k : Int) + 1))] [] (mh l) M4 (mv_qi (mh l) F))))
          else
            mv_R32 (acc + 1) ∧
            (if 40 ≤ (k : Int) then
              mv_R32 ((acc + 1) + 0) ∧
              mv_R32 ((k : Int) + 1) ∧
              mv_Run G 200 136 7420 8 [(0, .inr (.inr 88)), (1, .inl ((acc + 1) + 0)), (2, .inl ((k : Int) + 1))] [] (mh l) M3 (mv_qi (mh l) F)
            else
              mv_R32 ((k : Int) + 8) ∧
              mv_Wp G 199 [.inr (.inr 88), .inl (k : Int), .inl ((k : Int) + 8)] (mh l) M3 (mv_qi (mh l) fun x5 M5 =>
              (if x5 = 0 then
                mv_R32 ((acc + 1) + 0) ∧
                mv_R32 ((k : Int) + 1) ∧
                mv_Run G 200 136 7420 8 [(0, .inr (.inr 88)), (1, .inl ((acc + 1) + 0)), (2, .inl ((k : Int) + 1))] [] (mh l) M5 (mv_qi (mh l) F)
              else
                mv_R32 ((acc + 1) + 1) ∧
                mv_R32 ((k : Int) + 1) ∧
                mv_Run G 200 136 7420 8 [(0, .inr (.inr 88)), (1, .inl ((acc + 1) + 1)), (2, .inl ((k : Int) + 1))] [] (mh l) M5 (mv_qi (mh l) F))))))
          rw [← e1] at B
          refine B ?_
          rcases sg_bd_01 S k 0 with y | y
          · rw [y] at K
            rw [if_pos y]
            exact ⟨by omega, below (acc + 0) (by omega) (by omega) K⟩
          · rw [y] at K
            rw [if_neg (by omega)]
            exact ⟨by omega, below (acc + 1) (by omega) (by omega) K⟩
      · rw [sg_fo_n hok] at K
        rw [if_pos rfl]
        exact ⟨by omega, K⟩
  exact key 48 0 (by omega)
/-! what falls waste -/
theorem sg_Mo_13 (hM : sg_Mo S M) {i : Nat} {v : Int} : sg_Mo (mv_up S 13 i v) (mv_up M 110 i v) :=
  ⟨hM.1, hM.2.1, hM.2.2.1, hM.2.2.2.1, hM.2.2.2.2.1, hM.2.2.2.2.2.1, fun j hj => have q := hM.2.2.2.2.2.2.1 j hj; ⟨q.1, q.2.1, q.2.2.1, q.2.2.2.1, q.2.2.2.2.1, mv_up_sm q.2.2.2.2.2.1, q.2.2.2.2.2.2⟩, hM.2.2.2.2.2.2.2⟩
theorem md_fall (hw : sg_wf S) {M0 : mv_Mem} {n : Nat} (hM : sg_Mo S M0) (hR : sg_Rl S M0 n) (hF : sg_Fd S M0) {u : Nat} {v : Int} (hu : (u : Int) < S 0 3) (hv : 0 ≤ v ∧ v ≤ 9999)
    (h : ∀ M, (∀ a i, a ≠ 100 → a ≠ 104 → ¬ (117 ≤ a ∧ a ≤ 119) → a ≠ 133 → M a i = M0 a i) → F (sg_fal S (u : Int) (mv_up S 13 u v)) M) :
    mv_Run G 209 136 7420 41 [(0, .inr (.inr 88)), (1, .inl (u : Int)), (2, .inl v), (4, .inl 0)] [] (mh l) M0 (mv_qi (mh l) F) := by
  have hnu := sg_nu hw
  have hw' := sg_wf_13 hw hu hv
  unfold sg_fal at h
  have hb := fun n => sg_fo_b (S := S) (f := fun k x => if (sg_tk S k ≠ -1 ∧ sg_tk S k / 3 = (u : Int)) ∧ sg_tk (mv_up S 13 u v) k = -1 then x + 1 else x) (a := 0) (b := 1) (by omega) (fun k x hk => by split <;> omega) n
  have key2 : ∀ (M : mv_Mem), (∀ a i, a ≠ 100 → a ≠ 104 → ¬ (117 ≤ a ∧ a ≤ 119) → a ≠ 133 → M a i = M0 a i) → (∀ k, k < 48 → M 133 k = sg_if (sg_ok S k ∧ sg_u3 (sg_tk S k) = (u : Int)) 1 0) → (∀ k, k < 48 → sg_ok S k → M 117 k = sg_u3 (sg_tk (mv_up S 13 u v) k)) → ∀ (q k : Nat), k + q = 48 →
      mv_Run G 209 136 7420 110 [(0, .inr (.inr 88)), (5, .inl (sg_fo S (fun k x => if (sg_tk S k ≠ -1 ∧ sg_tk S k / 3 = (u : Int)) ∧ sg_tk (mv_up S 13 u v) k = -1 then x + 1 else x) 0 k)), (6, .inl (k : Int))] [] (mh l) M (mv_qi (mh l) F) := by
    intro M hfr h133 h117 q
    induction q with
    | zero =>
      intro k hk
      refine vr_X12_falls_110 ?_
      rw [if_pos (by omega), show k = 48 by omega]
      exact mv_qi_i (h M hfr)
    | succ q ih =>
      intro k hk
      refine vr_X12_falls_110 ?_
      have h1 := hb k
      have K := ih (k + 1) (by omega)
      rw [if_neg (by omega), Int.toNat_natCast, h133 k (by omega)]
      refine ⟨by omega, ?_⟩
      by_cases hok : sg_ok S k
      · rw [sg_fo_s hok] at K
        generalize sg_fo S (fun k x => if (sg_tk S k ≠ -1 ∧ sg_tk S k / 3 = (u : Int)) ∧ sg_tk (mv_up S 13 u v) k = -1 then x + 1 else x) 0 k = acc at K h1
        have t1 := sg_tk_lo hw k
        have t2 := sg_tk_lo hw' k
        have m1 : sg_u3 (sg_tk S k) = if sg_tk S k = -1 then -9 else sg_tk S k / 3 := rfl
        have m2 : sg_u3 (sg_tk (mv_up S 13 u v) k) = if sg_tk (mv_up S 13 u v) k = -1 then -9 else sg_tk (mv_up S 13 u v) k / 3 := rfl
        by_cases z : sg_u3 (sg_tk S k) = (u : Int)
        · have zz : sg_tk S k ≠ -1 ∧ sg_tk S k / 3 = (u : Int) := by
            rw [m1] at z
            by_cases y : sg_tk S k = -1
            · rw [if_pos y] at z
              omega
            · rw [if_neg y] at z
              exact ⟨y, z⟩
          rw [sg_if_y ⟨hok, z⟩, if_neg (by decide), h117 k (by omega) hok]
          refine ⟨by omega, ?_⟩
          by_cases y : sg_tk (mv_up S 13 u v) k = -1
          · rw [if_pos ⟨zz, y⟩] at K
            rw [m2, if_pos y, if_pos rfl]
            exact ⟨by omega, by omega, K⟩
          · rw [if_neg (fun w => y w.2)] at K
            rw [m2, if_neg y, if_neg (by omega), Int.add_zero]
            exact ⟨by omega, by omega, K⟩
        · rw [if_neg (fun w => z (by rw [m1, if_neg w.1.1]; exact w.1.2))] at K
          rw [sg_if_n (fun y => z y.2), if_pos rfl, Int.add_zero]
          exact ⟨by omega, by omega, K⟩
      · rw [sg_fo_n hok] at K
        rw [sg_if_n (fun y => hok y.1), if_pos rfl, Int.add_zero]
        exact ⟨by omega, by omega, K⟩
  have key : ∀ (q k : Nat) (M : mv_Mem), k + q = 48 → (∀ a i, a ≠ 133 → M a i = M0 a i) → (∀ j, j < k → M 133 j = sg_if (sg_ok S j ∧ sg_u3 (sg_tk S j) = (u : Int)) 1 0) →
      mv_Run G 209 136 7420 41 [(0, .inr (.inr 88)), (1, .inl (u : Int)), (2, .inl v), (4, .inl (k : Int))] [] (mh l) M (mv_qi (mh l) F) := by
    intro q
    induction q with
    | zero =>
      intro k M hk hfr hd
      refine vr_X12_falls_41 ?_
      have hMM : sg_Mo S M := sg_Mo_fr hM (fun a i ha => hfr a i (by unfold sg_mc at ha; omega))
      have hRM : sg_Rl S M n := sg_Rl_fr hR (hfr 88 17 (by decide)) (fun a i h1 h2 => hfr a i (by omega))
      have c110 : M 110 u = S 13 u := (hMM.2.2.2.2.2.2.1 u (by omega)).2.2.2.2.2.1
      rw [if_pos (by omega), Int.toNat_natCast, c110]
      have hRM' : sg_Rl (mv_up S 13 u v) (mv_up M 110 u v) n := by
        have : sg_Rl S (mv_up M 110 u v) n := sg_Rl_fr hRM (mv_up_c (by decide)) (fun a i h1 h2 => mv_up_c (by omega))
        exact this
      refine ⟨by omega, by omega, md_finds (S := mv_up S 13 u v) hw' (sg_Mo_13 hMM) hRM' (fun M1 f1 w1 d1 => ⟨by omega, ?_⟩)⟩
      refine key2 _ (fun a i a1 a2 a3 a4 => ?_) (fun j hj => ?_) (fun j hj hok => ?_) 48 0 (by omega)
      · by_cases z : a = 110 ∧ i = u
        · rw [z.1, z.2, mv_up_s, ← c110]
          exact hfr 110 u (by decide)
        · rw [mv_up_n z, f1 a i a1 a2 a3, mv_up_n z]
          exact hfr a i a4
      · rw [mv_up_c (by decide), f1 133 j (by decide) (by decide) (by decide), mv_up_c (by decide)]
        exact hd j (by omega)
      · rw [mv_up_c (by decide)]
        exact ((d1 j hj).1 hok).1
    | succ q ih =>
      intro k M hk hfr hd
      refine vr_X12_falls_41 ?_
      rw [if_neg (by omega), Int.toNat_natCast, hfr 117 k (by decide)]
      refine ⟨by omega, ?_⟩
      have nxt : ∀ x, x = sg_if (sg_ok S k ∧ sg_u3 (sg_tk S k) = (u : Int)) 1 0 → mv_R32 ((k : Int) + 1) ∧ mv_Run G 209 136 7420 41 [(0, .inr (.inr 88)), (1, .inl (u : Int)), (2, .inl v), (4, .inl ((k : Int) + 1))] [] (mh l) (mv_up M 133 k x) (mv_qi (mh l) F) := fun x hx => ⟨by omega, ih (k + 1) _ (by omega) (fun a i ha => by rw [mv_up_c ha]; exact hfr a i ha) (fun j hj => by
        by_cases z : j = k
        · rw [z, mv_up_s]
          exact hx
        · rw [mv_up_j z]
          exact hd j (by omega))⟩
      by_cases hok : sg_ok S k
      · rw [((hF k (by omega)).1 hok).1]
        split
        · rename_i z
          exact ⟨⟨by omega, by decide⟩, nxt 1 (sg_if_y ⟨hok, z⟩).symm⟩
        · rename_i z
          exact ⟨⟨by omega, by decide⟩, nxt 0 (sg_if_n (fun y => z y.2)).symm⟩
      · rw [((hF k (by omega)).2 hok).1, if_neg (by omega)]
        exact ⟨⟨by omega, by decide⟩, nxt 0 (sg_if_n (fun y => hok y.1)).symm⟩
  exact key 48 0 M0 (by omega) (fun _ _ _ => rfl) (fun j hj => by omega)
/-! what is held -/
theorem sg_Mo_113 {M' : mv_Mem} (hM : sg_Mo S M) (hm : ∀ a i, sg_mc a i → a ≠ 113 → M' a i = M a i) (h113 : ∀ i, i < 18 → M' 113 i = S 16 i) : sg_Mo S M' := by
  have h := sg_Mo_fr (M' := fun c i => if c = 113 then M c i else M' c i) hM (fun a i ha => by
    show (if a = 113 then M a i else M' a i) = M a i
    split
    · rfl
    · rename_i q
      exact hm a i ha q)
  exact ⟨h.1, h.2.1, h.2.2.1, h.2.2.2.1, h.2.2.2.2.1, h.2.2.2.2.2.1, h.2.2.2.2.2.2.1, h.2.2.2.2.2.2.2.1, fun i hi => ⟨h113 i hi, (h.2.2.2.2.2.2.2.2.1 i hi).2⟩, h.2.2.2.2.2.2.2.2.2⟩
def sg_fh (M0 M : mv_Mem) : Prop := ∀ a i, a ≠ 100 → a ≠ 104 → ¬ (117 ≤ a ∧ a ≤ 119) → a ≠ 113 → a ≠ 134 → M a i = M0 a i
theorem md_rentsBehind (hw : sg_wf S) {M0 : mv_Mem} {n : Nat} (hM : sg_Mo S M0) (hR : sg_Rl S M0 n) {w : Int} (hw0 : 0 ≤ w) (h : ∀ M, sg_fh M0 M → sg_Mo S M → sg_Rl S M n → F (sg_rb S w) M) :
    mv_Wp G 212 [.inr (.inr 88), .inl w] (mh l) M0 (mv_ql (mh l) F) := by
  have hwr := sg_rd_wf hw
  have pq := sg_ro_pq S (3 * (S 0 3).toNat)
  have sum : ∀ M : mv_Mem, sg_fh M0 M → sg_Mo S M → sg_Rl S M n → sg_Fb (sg_rd S).1 M → mv_Run G 212 136 7420 66 [(0, .inr (.inr 88)), (1, .inl w), (2, .inr (.inl 0)), (4, .inl 0)] [] (mh l) M (mv_ql (mh l) F) := by
    intro M hfr hMM hRM hFb
    have hh := h M hfr hMM hRM
    unfold sg_rb sg_own at hh
    have hb := fun n => sg_fo_b (S := (sg_rd S).1) (f := fun k x => if (sg_rd S).1 3 k = w then x + sg_rt (sg_rd S).1 k else x) (a := 0) (b := 160000000) (by omega) (fun k x hk => by have := sg_rt_b hwr hk; split <;> omega) n
    have key : ∀ (q k : Nat), k + q = 48 → mv_Run G 212 136 7420 66 [(0, .inr (.inr 88)), (1, .inl w), (2, .inr (.inl (sg_fo (sg_rd S).1 (fun k x => if (sg_rd S).1 3 k = w then x + sg_rt (sg_rd S).1 k else x) 0 k))), (4, .inl (k : Int))] [] (mh l) M (mv_ql (mh l) F) := by
      intro q
      induction q with
      | zero =>
        intro k hk
        refine vr_X12_rentsBehind_66 ?_
        rw [if_pos (by omega), show k = 48 by omega]
        exact mv_ql_i hh
      | succ q ih =>
        intro k hk
        refine vr_X12_rentsBehind_66 ?_
        have h1 := hb k
        have h2 := sg_rz_b hwr k
        have K := ih (k + 1) (by omega)
        rw [if_neg (by omega), Int.toNat_natCast]
        refine ⟨by omega, ?_⟩
        have e0 : ∀ i, (sg_rd S).1 0 i = S 0 i := fun i => pq 0 i (by decide)
        by_cases hok : sg_ok (sg_rd S).1 k
        · have hokS : sg_ok S k := by
            unfold sg_ok at hok ⊢
            rw [e0, e0] at hok
            exact hok
          have c93 : M 93 k = (if S 3 k < 0 then -9 else S 3 k) := (hMM.2.1 k hokS).2.2.1
          have e3 : (sg_rd S).1 3 k = S 3 k := pq 3 k (by decide)
          rw [sg_fo_s hok] at K
          rw [e3] at K
          rw [c93]
          by_cases z : S 3 k = w
          · rw [if_pos z] at K
            rw [if_neg (show ¬ S 3 k < 0 by omega), if_pos z]
            refine md_rentOf hwr hFb (by omega) ?_
            unfold sg_rz at h2 ⊢
            rw [sg_if_y hok] at h2 ⊢
            exact ⟨by omega, by omega, K⟩
          · rw [if_neg z] at K
            rw [if_neg (show ¬ (if S 3 k < 0 then (-9 : Int) else S 3 k) = w by split <;> omega), Int.add_zero]
            exact ⟨by omega, by omega, K⟩
        · rw [sg_fo_n hok] at K
          by_cases z : M 93 k = w
          · rw [if_pos z]
            refine md_rentOf hwr hFb (by omega) ?_
            unfold sg_rz at h2 ⊢
            rw [sg_if_n hok] at h2 ⊢
            rw [Int.add_zero]
            exact ⟨by omega, by omega, K⟩
          · rw [if_neg z, Int.add_zero]
            exact ⟨by omega, by omega, K⟩
    exact key 48 0 (by omega)
  have back : ∀ M1 : mv_Mem, (∀ a i, a ≠ 100 → a ≠ 104 → ¬ (117 ≤ a ∧ a ≤ 119) → a ≠ 113 → a ≠ 134 → M1 a i = M0 a i) → (∀ i, i < 18 → M1 134 i = S 16 i) → sg_Fb (sg_rd S).1 M1 → ∀ (q p : Nat) (M : mv_Mem), p + q = 18 → (∀ a i, a ≠ 113 → M a i = M1 a i) → (∀ i, i < p → M 113 i = S 16 i) →
      mv_Run G 212 136 7420 37 [(0, .inr (.inr 88)), (1, .inl w), (2, .inl (p : Int))] [] (mh l) M (mv_ql (mh l) F) := by
    intro M1 f1 k1 b1 q
    induction q with
    | zero =>
      intro p M hp hfr hd
      refine vr_X12_rentsBehind_37 ?_
      rw [if_pos (by omega)]
      have hfh : sg_fh M0 M := fun a i a1 a2 a3 a4 a5 => (hfr a i a4).trans (f1 a i a1 a2 a3 a4 a5)
      refine sum M hfh (sg_Mo_113 hM (fun a i ha hn => hfh a i (by unfold sg_mc at ha; omega) (by unfold sg_mc at ha; omega) (by unfold sg_mc at ha; omega) hn (by unfold sg_mc at ha; omega)) (fun i hi => hd i (by omega))) (sg_Rl_fr hR (hfh 88 17 (by decide) (by decide) (by decide) (by decide) (by decide)) (fun a i h1 h2 => hfh a i (by omega) (by omega) (by omega) (by omega) (by omega))) ⟨(hfr 88 37 (by decide)).trans b1.1, fun k hk => ?_⟩
      rw [hfr 119 k (by decide)]
      exact b1.2 k hk
    | succ q ih =>
      intro p M hp hfr hd
      refine vr_X12_rentsBehind_37 ?_
      rw [if_neg (by omega), Int.toNat_natCast, hfr 134 p (by decide), k1 p (by omega)]
      refine ⟨by omega, by omega, by omega, ih (p + 1) _ (by omega) (fun a i ha => by rw [mv_up_c ha]; exact hfr a i ha) (fun i hi => ?_)⟩
      by_cases z : i = p
      · rw [z, mv_up_s]
      · rw [mv_up_j z]
        exact hd i (by omega)
  have keep : ∀ (q p : Nat) (M : mv_Mem), p + q = 18 → (∀ a i, a ≠ 134 → M a i = M0 a i) → (∀ i, i < p → M 134 i = S 16 i) →
      mv_Run G 212 136 7420 2 [(0, .inr (.inr 88)), (1, .inl w), (2, .inl (p : Int))] [] (mh l) M (mv_ql (mh l) F) := by
    intro q
    induction q with
    | zero =>
      intro p M hp hfr hd
      refine vr_X12_rentsBehind_2 ?_
      have hMM : sg_Mo S M := sg_Mo_fr hM (fun a i ha => hfr a i (by unfold sg_mc at ha; omega))
      have hRM : sg_Rl S M n := sg_Rl_fr hR (hfr 88 17 (by decide)) (fun a i h1 h2 => hfr a i (by omega))
      rw [if_pos (by omega)]
      refine md_goesRound hw hMM hRM (fun M1 f1 m1 r1 => md_finds hwr m1 r1 (fun M2 f2 w2 d2 => ?_))
      have m2 := (sg_fq_o m1 r1 f2).1
      exact back M2 (fun a i a1 a2 a3 a4 a5 => ((f2 a i a1 a2 a3).trans (f1 a i a1 a2 a3 a4)).trans (hfr a i a5)) (fun i hi => ((f2 134 i (by decide) (by decide) (by decide)).trans (f1 134 i (by decide) (by decide) (by decide) (by decide))).trans (hd i (by omega))) (sg_Fb_o m2 d2) 18 0 M2 (by omega) (fun _ _ _ => rfl) (fun i hi => by omega)
    | succ q ih =>
      intro p M hp hfr hd
      refine vr_X12_rentsBehind_2 ?_
      have c113 : M0 113 p = S 16 p := (hM.2.2.2.2.2.2.2.2.1 p (by omega)).1
      rw [if_neg (by omega), Int.toNat_natCast, hfr 113 p (by decide), c113]
      refine ⟨by omega, by omega, by omega, ih (p + 1) _ (by omega) (fun a i ha => by rw [mv_up_c ha]; exact hfr a i ha) (fun i hi => ?_)⟩
      by_cases z : i = p
      · rw [z, mv_up_s]
      · rw [mv_up_j z]
        exact hd i (by omega)
  refine vw_X12_rentsBehind ?_
  exact keep 18 0 M0 (by omega) (fun _ _ _ => rfl) (fun i hi => by omega)
theorem sg_Mo_4 (hM : sg_Mo S M) {k : Nat} {v : Int} (hk : sg_ok S k) : sg_Mo (mv_up S 4 k v) (mv_up M 95 k v) := by
  refine ⟨hM.1, fun j hj => ?_, fun j hj hn => ?_, hM.2.2.2⟩
  · obtain ⟨q1, q2, q3, q4⟩ := hM.2.1 j hj
    exact ⟨q1, q2, q3, mv_up_sm (M := M) (S := S) q4⟩
  · have hne : j ≠ k := fun z => hn (by rw [z]; exact hk)
    rw [mv_up_j hne]
    exact hM.2.2.1 j hj hn
theorem md_holds (hw : sg_wf S) {M0 : mv_Mem} {n : Nat} (hM : sg_Mo S M0) (hR : sg_Rl S M0 n) (hF : sg_Fd S M0) {w : Int} (hw0 : 0 ≤ w) (h : ∀ M, (∀ a i, a ≠ 100 → a ≠ 104 → ¬ (117 ≤ a ∧ a ≤ 119) → a ≠ 113 → a ≠ 133 → a ≠ 134 → a ≠ 95 → M a i = M0 a i) → sg_Mo S M → F (sg_hd S w 80).2 M) :
    mv_Run G 213 136 7420 26 [(0, .inr (.inr 88)), (1, .inl w), (3, .inl 0)] [] (mh l) M0 (mv_qi (mh l) F) := by
  have key2 : ∀ (q x : Nat) (M : mv_Mem), x + q = 80 → (∀ a i, a ≠ 100 → a ≠ 104 → ¬ (117 ≤ a ∧ a ≤ 119) → a ≠ 113 → a ≠ 133 → a ≠ 134 → a ≠ 95 → M a i = M0 a i) → sg_Mo S M → (∀ k, k < 48 → M 133 k = sg_if (sg_ok S k ∧ sg_tk S k ≠ -1 ∧ S 3 k = w) 1 0) →
      mv_Run G 213 136 7420 81 [(0, .inr (.inr 88)), (1, .inl w), (3, .inr (.inl (sg_hd S w x).1)), (5, .inl (sg_hd S w x).2), (6, .inl (x : Int))] [] (mh l) M (mv_qi (mh l) F) := by
    intro q
    induction q with
    | zero =>
      intro x M hx hfr hMM h133
      refine vr_X12_hold_81 ?_
      rw [if_pos (by omega), show x = 80 by omega]
      exact mv_qi_i (h M hfr hMM)
    | succ q ih =>
      intro x M hx hfr hMM h133
      refine vr_X12_hold_81 ?_
      have hRM : sg_Rl S M n := sg_Rl_fr hR (hfr 88 17 (by decide) (by decide) (by decide) (by decide) (by decide) (by decide) (by decide)) (fun a i h1 h2 => hfr a i (by omega) (by omega) (by omega) (by omega) (by omega) (by omega) (by omega))
      have e : sg_hd S w (x + 1) = (if 0 ≤ sg_ac S x ∧ S 3 (sg_ac S x).toNat = w ∧ sg_tk S (sg_ac S x).toNat ≠ -1 ∧ (sg_hd S w x).1 < sg_rb (mv_up S 4 (sg_ac S x).toNat 1) w then (sg_rb (mv_up S 4 (sg_ac S x).toNat 1) w, (x : Int)) else sg_hd S w x) := rfl
      have K := fun M' => ih (x + 1) M' (by omega)
      rw [e] at K
      rw [if_neg (by omega)]
      refine md_acreOf hw hMM (by omega) (fun z => ?_) (fun k hk k48 hac => ?_)
      · have K1 := K M hfr hMM h133
        rw [if_neg (fun y => by have := y.1; omega)] at K1
        rw [if_pos (by decide)]
        exact ⟨by omega, K1⟩
      · rw [hac, Int.toNat_natCast] at K
        rw [if_neg (by omega), Int.toNat_natCast, h133 k k48]
        refine ⟨by omega, ?_⟩
        by_cases z : sg_tk S k ≠ -1 ∧ S 3 k = w
        · rw [sg_if_y ⟨hk, z⟩, if_neg (by decide)]
          have hh0 : S 4 k = 0 := by
            have q3 := z.1
            unfold sg_tk at q3
            split at q3
            · assumption
            · exact absurd rfl q3
          have hw' := sg_wf_4 (i := k) hw (show (0 : Int) ≤ 1 ∧ (1 : Int) ≤ 1 by decide)
          have hM' : sg_Mo (mv_up S 4 k 1) (mv_up M 95 k 1) := sg_Mo_4 hMM hk
          have hR' : sg_Rl (mv_up S 4 k 1) (mv_up M 95 k 1) n := by
            have : sg_Rl S (mv_up M 95 k 1) n := sg_Rl_fr hRM (mv_up_c (by decide)) (fun a i h1 h2 => mv_up_c (by omega))
            exact this
          refine ⟨⟨by omega, by decide⟩, md_rentsBehind (S := mv_up S 4 k 1) hw' hM' hR' hw0 (fun M2 f2 m2 r2 => ⟨⟨by omega, by decide⟩, ?_⟩)⟩
          have hMb : sg_Mo S (mv_up M2 95 k 0) := by
            have h1 := sg_Mo_4 (v := 0) m2 (k := k) hk
            have h2 : mv_up (mv_up S 4 k 1) 4 k 0 = S := by
              funext a i
              unfold mv_up
              by_cases y : a = 4 ∧ i = k
              · rw [if_pos y, y.1, y.2, hh0]
              · rw [if_neg y, if_neg y]
            rw [h2] at h1
            exact h1
          have hfrb : ∀ a i, a ≠ 100 → a ≠ 104 → ¬ (117 ≤ a ∧ a ≤ 119) → a ≠ 113 → a ≠ 133 → a ≠ 134 → a ≠ 95 → (mv_up M2 95 k 0) a i = M0 a i := fun a i a1 a2 a3 a4 a5 a6 a7 => by
            rw [mv_up_c a7, f2 a i a1 a2 a3 a4 a6, mv_up_c a7]
            exact hfr a i a1 a2 a3 a4 a5 a6 a7
          have h133b : ∀ j, j < 48 → (mv_up M2 95 k 0) 133 j = sg_if (sg_ok S j ∧ sg_tk S j ≠ -1 ∧ S 3 j = w) 1 0 := fun j hj => by
            rw [mv_up_c (by decide), f2 133 j (by decide) (by decide) (by decide) (by decide) (by decide), mv_up_c (by decide)]
            exact h133 j hj
          have K1 := K _ hfrb hMb h133b
          simp only [mv_cmp_gt]
          split
          · rename_i y
            rw [if_pos ⟨by omega, z.2, z.1, y⟩] at K1
            exact ⟨by omega, K1⟩
          · rename_i y
            rw [if_neg (fun t => y t.2.2.2)] at K1
            exact ⟨by omega, K1⟩
        · have K1 := K M hfr hMM h133
          rw [if_neg (fun y => z ⟨y.2.2.1, y.2.1⟩)] at K1
          rw [sg_if_n (fun y => z y.2), if_pos rfl]
          exact ⟨by omega, K1⟩
  have key : ∀ (q k : Nat) (M : mv_Mem), k + q = 48 → (∀ a i, a ≠ 133 → M a i = M0 a i) → (∀ j, j < k → M 133 j = sg_if (sg_ok S j ∧ sg_tk S j ≠ -1 ∧ S 3 j = w) 1 0) →
      mv_Run G 213 136 7420 26 [(0, .inr (.inr 88)), (1, .inl w), (3, .inl (k : Int))] [] (mh l) M (mv_qi (mh l) F) := by
    intro q
    induction q with
    | zero =>
      intro k M hk hfr hd
      refine vr_X12_hold_26 ?_
      have hMM : sg_Mo S M := sg_Mo_fr hM (fun a i ha => hfr a i (by unfold sg_mc at ha; omega))
      have hRM : sg_Rl S M n := sg_Rl_fr hR (hfr 88 17 (by decide)) (fun a i h1 h2 => hfr a i (by omega))
      rw [if_pos (by omega)]
      refine md_rentsBehind hw hMM hRM hw0 (fun M1 f1 m1 r1 => ?_)
      exact key2 80 0 M1 (by omega) (fun a i a1 a2 a3 a4 a5 a6 a7 => (f1 a i a1 a2 a3 a4 a6).trans (hfr a i a5)) m1 (fun j hj => (f1 133 j (by decide) (by decide) (by decide) (by decide) (by decide)).trans (hd j (by omega)))
    | succ q ih =>
      intro k M hk hfr hd
      refine vr_X12_hold_26 ?_
      rw [if_neg (by omega), Int.toNat_natCast, hfr 117 k (by decide), hfr 93 k (by decide)]
      refine ⟨by omega, ?_⟩
      have nxt : ∀ x, x = sg_if (sg_ok S k ∧ sg_tk S k ≠ -1 ∧ S 3 k = w) 1 0 → mv_R32 ((k : Int) + 1) ∧ mv_Run G 213 136 7420 26 [(0, .inr (.inr 88)), (1, .inl w), (3, .inl ((k : Int) + 1))] [] (mh l) (mv_up M 133 k x) (mv_qi (mh l) F) := fun x hx => ⟨by omega, ih (k + 1) _ (by omega) (fun a i ha => by rw [mv_up_c ha]; exact hfr a i ha) (fun j hj => by
        by_cases z : j = k
        · rw [z, mv_up_s]
          exact hx
        · rw [mv_up_j z]
          exact hd j (by omega))⟩
      by_cases hok : sg_ok S k
      · have t1 := sg_tk_lo hw k
        have m1 : sg_u3 (sg_tk S k) = if sg_tk S k = -1 then -9 else sg_tk S k / 3 := rfl
        have c93 : M0 93 k = (if S 3 k < 0 then -9 else S 3 k) := (hM.2.1 k hok).2.2.1
        rw [((hF k (by omega)).1 hok).1, c93]
        by_cases z : sg_tk S k = -1
        · rw [m1, if_pos z, if_pos (by decide)]
          exact ⟨⟨by omega, by decide⟩, nxt 0 (sg_if_n (fun y => y.2.1 z)).symm⟩
        · rw [m1, if_neg z, if_neg (by omega)]
          refine ⟨by omega, ?_⟩
          by_cases y : S 3 k = w
          · rw [if_neg (show ¬ S 3 k < 0 by omega), if_pos y]
            exact ⟨⟨by omega, by decide⟩, nxt 1 (sg_if_y ⟨hok, z, y⟩).symm⟩
          · rw [if_neg (show ¬ (if S 3 k < 0 then (-9 : Int) else S 3 k) = w by split <;> omega)]
            exact ⟨⟨by omega, by decide⟩, nxt 0 (sg_if_n (fun t => y t.2.2)).symm⟩
      · rw [((hF k (by omega)).2 hok).1, if_pos (by decide)]
        exact ⟨⟨by omega, by decide⟩, nxt 0 (sg_if_n (fun y => hok y.1)).symm⟩
  exact key 48 0 M0 (by omega) (fun _ _ _ => rfl) (fun j hj => by omega)
end MS
